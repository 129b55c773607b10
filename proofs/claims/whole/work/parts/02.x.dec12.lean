theorem dX12_init_0 : decode cX12_init 0 = .ok (.aload_n 0, 1) := by decide +kernel
theorem dX12_init_1 : decode cX12_init 1 = .ok (.invokespecial 1, 3) := by decide +kernel
theorem dX12_init_4 : decode cX12_init 4 = .ok (.aload_n 0, 1) := by decide +kernel
theorem dX12_init_5 : decode cX12_init 5 = .ok (.sipush 1215, 3) := by decide +kernel
theorem dX12_init_8 : decode cX12_init 8 = .ok (.newarray .int, 2) := by decide +kernel
theorem dX12_init_10 : decode cX12_init 10 = .ok (.putfield 9, 3) := by decide +kernel
theorem dX12_init_13 : decode cX12_init 13 = .ok (.aload_n 0, 1) := by decide +kernel
theorem dX12_init_14 : decode cX12_init 14 = .ok (.sipush 1215, 3) := by decide +kernel
theorem dX12_init_17 : decode cX12_init 17 = .ok (.newarray .int, 2) := by decide +kernel
theorem dX12_init_19 : decode cX12_init 19 = .ok (.putfield 13, 3) := by decide +kernel
theorem dX12_init_22 : decode cX12_init 22 = .ok (.aload_n 0, 1) := by decide +kernel
theorem dX12_init_23 : decode cX12_init 23 = .ok (.sipush 3645, 3) := by decide +kernel
theorem dX12_init_26 : decode cX12_init 26 = .ok (.newarray .int, 2) := by decide +kernel
theorem dX12_init_28 : decode cX12_init 28 = .ok (.putfield 16, 3) := by decide +kernel
theorem dX12_init_31 : decode cX12_init 31 = .ok (.aload_n 0, 1) := by decide +kernel
theorem dX12_init_32 : decode cX12_init 32 = .ok (.iconst 3, 1) := by decide +kernel
theorem dX12_init_33 : decode cX12_init 33 = .ok (.newarray .boolean, 2) := by decide +kernel
theorem dX12_init_35 : decode cX12_init 35 = .ok (.putfield 19, 3) := by decide +kernel
theorem dX12_init_38 : decode cX12_init 38 = .ok (.aload_n 0, 1) := by decide +kernel
theorem dX12_init_39 : decode cX12_init 39 = .ok (.sipush 900, 3) := by decide +kernel
theorem dX12_init_42 : decode cX12_init 42 = .ok (.newarray .int, 2) := by decide +kernel
theorem dX12_init_44 : decode cX12_init 44 = .ok (.putfield 23, 3) := by decide +kernel
theorem dX12_init_47 : decode cX12_init 47 = .ok (.aload_n 0, 1) := by decide +kernel
theorem dX12_init_48 : decode cX12_init 48 = .ok (.iconst (-1), 1) := by decide +kernel
theorem dX12_init_49 : decode cX12_init 49 = .ok (.putfield 26, 3) := by decide +kernel
theorem dX12_init_52 : decode cX12_init 52 = .ok (.aload_n 0, 1) := by decide +kernel
theorem dX12_init_53 : decode cX12_init 53 = .ok (.bipush 64, 2) := by decide +kernel
theorem dX12_init_55 : decode cX12_init 55 = .ok (.newarray .int, 2) := by decide +kernel
theorem dX12_init_57 : decode cX12_init 57 = .ok (.putfield 30, 3) := by decide +kernel
theorem dX12_init_60 : decode cX12_init 60 = .ok (.aload_n 0, 1) := by decide +kernel
theorem dX12_init_61 : decode cX12_init 61 = .ok (.bipush 22, 2) := by decide +kernel
theorem dX12_init_63 : decode cX12_init 63 = .ok (.newarray .int, 2) := by decide +kernel
theorem dX12_init_65 : decode cX12_init 65 = .ok (.putfield 33, 3) := by decide +kernel
theorem dX12_init_68 : decode cX12_init 68 = .ok (.aload_n 0, 1) := by decide +kernel
theorem dX12_init_69 : decode cX12_init 69 = .ok (.bipush 10, 2) := by decide +kernel
theorem dX12_init_71 : decode cX12_init 71 = .ok (.newarray .int, 2) := by decide +kernel
theorem dX12_init_73 : decode cX12_init 73 = .ok (.putfield 36, 3) := by decide +kernel
theorem dX12_init_76 : decode cX12_init 76 = .ok (.aload_n 0, 1) := by decide +kernel
theorem dX12_init_77 : decode cX12_init 77 = .ok (.bipush 6, 2) := by decide +kernel
theorem dX12_init_79 : decode cX12_init 79 = .ok (.newarray .long, 2) := by decide +kernel
theorem dX12_init_81 : decode cX12_init 81 = .ok (.putfield 39, 3) := by decide +kernel
theorem dX12_init_84 : decode cX12_init 84 = .ok (.aload_n 0, 1) := by decide +kernel
theorem dX12_init_85 : decode cX12_init 85 = .ok (.bipush 41, 2) := by decide +kernel
theorem dX12_init_87 : decode cX12_init 87 = .ok (.newarray .int, 2) := by decide +kernel
theorem dX12_init_89 : decode cX12_init 89 = .ok (.putfield 43, 3) := by decide +kernel
theorem dX12_init_92 : decode cX12_init 92 = .ok (.aload_n 0, 1) := by decide +kernel
theorem dX12_init_93 : decode cX12_init 93 = .ok (.bipush 6, 2) := by decide +kernel
theorem dX12_init_95 : decode cX12_init 95 = .ok (.newarray .int, 2) := by decide +kernel
theorem dX12_init_97 : decode cX12_init 97 = .ok (.putfield 46, 3) := by decide +kernel
theorem dX12_init_100 : decode cX12_init 100 = .ok (.aload_n 0, 1) := by decide +kernel
theorem dX12_init_101 : decode cX12_init 101 = .ok (.iconst 4, 1) := by decide +kernel
theorem dX12_init_102 : decode cX12_init 102 = .ok (.newarray .int, 2) := by decide +kernel
theorem dX12_init_104 : decode cX12_init 104 = .ok (.dup, 1) := by decide +kernel
theorem dX12_init_105 : decode cX12_init 105 = .ok (.iconst 0, 1) := by decide +kernel
theorem dX12_init_106 : decode cX12_init 106 = .ok (.iconst (-1), 1) := by decide +kernel
theorem dX12_init_107 : decode cX12_init 107 = .ok (.iastore, 1) := by decide +kernel
theorem dX12_init_108 : decode cX12_init 108 = .ok (.dup, 1) := by decide +kernel
theorem dX12_init_109 : decode cX12_init 109 = .ok (.iconst 1, 1) := by decide +kernel
theorem dX12_init_110 : decode cX12_init 110 = .ok (.iconst (-1), 1) := by decide +kernel
theorem dX12_init_111 : decode cX12_init 111 = .ok (.iastore, 1) := by decide +kernel
theorem dX12_init_112 : decode cX12_init 112 = .ok (.dup, 1) := by decide +kernel
theorem dX12_init_113 : decode cX12_init 113 = .ok (.iconst 2, 1) := by decide +kernel
theorem dX12_init_114 : decode cX12_init 114 = .ok (.iconst (-1), 1) := by decide +kernel
theorem dX12_init_115 : decode cX12_init 115 = .ok (.iastore, 1) := by decide +kernel
theorem dX12_init_116 : decode cX12_init 116 = .ok (.dup, 1) := by decide +kernel
theorem dX12_init_117 : decode cX12_init 117 = .ok (.iconst 3, 1) := by decide +kernel
theorem dX12_init_118 : decode cX12_init 118 = .ok (.iconst (-1), 1) := by decide +kernel
theorem dX12_init_119 : decode cX12_init 119 = .ok (.iastore, 1) := by decide +kernel
theorem dX12_init_120 : decode cX12_init 120 = .ok (.putfield 49, 3) := by decide +kernel
theorem dX12_init_123 : decode cX12_init 123 = .ok (.aload_n 0, 1) := by decide +kernel
theorem dX12_init_124 : decode cX12_init 124 = .ok (.iconst 4, 1) := by decide +kernel
theorem dX12_init_125 : decode cX12_init 125 = .ok (.newarray .int, 2) := by decide +kernel
theorem dX12_init_127 : decode cX12_init 127 = .ok (.putfield 52, 3) := by decide +kernel
theorem dX12_init_130 : decode cX12_init 130 = .ok (.aload_n 0, 1) := by decide +kernel
theorem dX12_init_131 : decode cX12_init 131 = .ok (.bipush 120, 2) := by decide +kernel
theorem dX12_init_133 : decode cX12_init 133 = .ok (.newarray .long, 2) := by decide +kernel
theorem dX12_init_135 : decode cX12_init 135 = .ok (.putfield 55, 3) := by decide +kernel
theorem dX12_init_138 : decode cX12_init 138 = .ok (.return_, 1) := by decide +kernel
theorem dX12_thrown_0 : decode cX12_thrown 0 = .ok (.aload_n 0, 1) := by decide +kernel
theorem dX12_thrown_1 : decode cX12_thrown 1 = .ok (.getfield 58, 3) := by decide +kernel
theorem dX12_thrown_4 : decode cX12_thrown 4 = .ok (.ireturn, 1) := by decide +kernel
theorem dX12_fails_0 : decode cX12_fails 0 = .ok (.aload_n 0, 1) := by decide +kernel
theorem dX12_fails_1 : decode cX12_fails 1 = .ok (.iload_n 1, 1) := by decide +kernel
theorem dX12_fails_2 : decode cX12_fails 2 = .ok (.putfield 58, 3) := by decide +kernel
theorem dX12_fails_5 : decode cX12_fails 5 = .ok (.iconst 0, 1) := by decide +kernel
theorem dX12_fails_6 : decode cX12_fails 6 = .ok (.ireturn, 1) := by decide +kernel
theorem dX12_within_0 : decode cX12_within 0 = .ok (.lload_n 0, 1) := by decide +kernel
theorem dX12_within_1 : decode cX12_within 1 = .ok (.lload_n 2, 1) := by decide +kernel
theorem dX12_within_2 : decode cX12_within 2 = .ok (.lcmp, 1) := by decide +kernel
theorem dX12_within_3 : decode cX12_within 3 = .ok (.ifCond .lt 14, 3) := by decide +kernel
theorem dX12_within_6 : decode cX12_within 6 = .ok (.lload_n 0, 1) := by decide +kernel
theorem dX12_within_7 : decode cX12_within 7 = .ok (.lload 4, 2) := by decide +kernel
theorem dX12_within_9 : decode cX12_within 9 = .ok (.lcmp, 1) := by decide +kernel
theorem dX12_within_10 : decode cX12_within 10 = .ok (.ifCond .gt 7, 3) := by decide +kernel
theorem dX12_within_13 : decode cX12_within 13 = .ok (.iconst 1, 1) := by decide +kernel
theorem dX12_within_14 : decode cX12_within 14 = .ok (.goto 4, 3) := by decide +kernel
theorem dX12_within_17 : decode cX12_within 17 = .ok (.iconst 0, 1) := by decide +kernel
theorem dX12_within_18 : decode cX12_within 18 = .ok (.ireturn, 1) := by decide +kernel
theorem dX12_has_0 : decode cX12_has 0 = .ok (.iload_n 0, 1) := by decide +kernel
theorem dX12_has_1 : decode cX12_has 1 = .ok (.iload_n 1, 1) := by decide +kernel
theorem dX12_has_2 : decode cX12_has 2 = .ok (.ishr, 1) := by decide +kernel
theorem dX12_has_3 : decode cX12_has 3 = .ok (.iconst 1, 1) := by decide +kernel
theorem dX12_has_4 : decode cX12_has 4 = .ok (.iand, 1) := by decide +kernel
theorem dX12_has_5 : decode cX12_has 5 = .ok (.iconst 1, 1) := by decide +kernel
theorem dX12_has_6 : decode cX12_has 6 = .ok (.if_icmp .ne 7, 3) := by decide +kernel
theorem dX12_has_9 : decode cX12_has 9 = .ok (.iconst 1, 1) := by decide +kernel
theorem dX12_has_10 : decode cX12_has 10 = .ok (.goto 4, 3) := by decide +kernel
theorem dX12_has_13 : decode cX12_has 13 = .ok (.iconst 0, 1) := by decide +kernel
theorem dX12_has_14 : decode cX12_has 14 = .ok (.ireturn, 1) := by decide +kernel
theorem dX12_size_0 : decode cX12_size 0 = .ok (.iconst 0, 1) := by decide +kernel
theorem dX12_size_1 : decode cX12_size 1 = .ok (.istore_n 1, 1) := by decide +kernel
theorem dX12_size_2 : decode cX12_size 2 = .ok (.iload_n 0, 1) := by decide +kernel
theorem dX12_size_3 : decode cX12_size 3 = .ok (.istore_n 2, 1) := by decide +kernel
theorem dX12_size_4 : decode cX12_size 4 = .ok (.iload_n 2, 1) := by decide +kernel
theorem dX12_size_5 : decode cX12_size 5 = .ok (.ifCond .eq 15, 3) := by decide +kernel
theorem dX12_size_8 : decode cX12_size 8 = .ok (.iinc 1 1, 3) := by decide +kernel
theorem dX12_size_11 : decode cX12_size 11 = .ok (.iload_n 2, 1) := by decide +kernel
theorem dX12_size_12 : decode cX12_size 12 = .ok (.iload_n 2, 1) := by decide +kernel
theorem dX12_size_13 : decode cX12_size 13 = .ok (.iconst 1, 1) := by decide +kernel
theorem dX12_size_14 : decode cX12_size 14 = .ok (.isub, 1) := by decide +kernel
theorem dX12_size_15 : decode cX12_size 15 = .ok (.iand, 1) := by decide +kernel
theorem dX12_size_16 : decode cX12_size 16 = .ok (.istore_n 2, 1) := by decide +kernel
theorem dX12_size_17 : decode cX12_size 17 = .ok (.goto (-13), 3) := by decide +kernel
theorem dX12_size_20 : decode cX12_size 20 = .ok (.iload_n 1, 1) := by decide +kernel
theorem dX12_size_21 : decode cX12_size 21 = .ok (.ireturn, 1) := by decide +kernel
theorem dX12_feed_0 : decode cX12_feed 0 = .ok (.aload_n 0, 1) := by decide +kernel
theorem dX12_feed_1 : decode cX12_feed 1 = .ok (.iconst 0, 1) := by decide +kernel
theorem dX12_feed_2 : decode cX12_feed 2 = .ok (.putfield 58, 3) := by decide +kernel
theorem dX12_feed_5 : decode cX12_feed 5 = .ok (.aload_n 0, 1) := by decide +kernel
theorem dX12_feed_6 : decode cX12_feed 6 = .ok (.getfield 61, 3) := by decide +kernel
theorem dX12_feed_9 : decode cX12_feed 9 = .ok (.bipush 20, 2) := by decide +kernel
theorem dX12_feed_11 : decode cX12_feed 11 = .ok (.iadd, 1) := by decide +kernel
theorem dX12_feed_12 : decode cX12_feed 12 = .ok (.sipush 900, 3) := by decide +kernel
theorem dX12_feed_15 : decode cX12_feed 15 = .ok (.if_icmp .le 5, 3) := by decide +kernel
theorem dX12_feed_18 : decode cX12_feed 18 = .ok (.iconst (-1), 1) := by decide +kernel
theorem dX12_feed_19 : decode cX12_feed 19 = .ok (.ireturn, 1) := by decide +kernel
theorem dX12_feed_20 : decode cX12_feed 20 = .ok (.iconst 0, 1) := by decide +kernel
theorem dX12_feed_21 : decode cX12_feed 21 = .ok (.istore 6, 2) := by decide +kernel
theorem dX12_feed_23 : decode cX12_feed 23 = .ok (.iload 6, 2) := by decide +kernel
theorem dX12_feed_25 : decode cX12_feed 25 = .ok (.bipush 20, 2) := by decide +kernel
theorem dX12_feed_27 : decode cX12_feed 27 = .ok (.if_icmp .ge 93, 3) := by decide +kernel
theorem dX12_feed_30 : decode cX12_feed 30 = .ok (.iload 6, 2) := by decide +kernel
theorem dX12_feed_32 : decode cX12_feed 32 = .ok (.iconst 4, 1) := by decide +kernel
theorem dX12_feed_33 : decode cX12_feed 33 = .ok (.if_icmp .ge 7, 3) := by decide +kernel
theorem dX12_feed_36 : decode cX12_feed 36 = .ok (.iload_n 1, 1) := by decide +kernel
theorem dX12_feed_37 : decode cX12_feed 37 = .ok (.goto 39, 3) := by decide +kernel
theorem dX12_feed_40 : decode cX12_feed 40 = .ok (.iload 6, 2) := by decide +kernel
theorem dX12_feed_42 : decode cX12_feed 42 = .ok (.bipush 8, 2) := by decide +kernel
theorem dX12_feed_44 : decode cX12_feed 44 = .ok (.if_icmp .ge 7, 3) := by decide +kernel
theorem dX12_feed_47 : decode cX12_feed 47 = .ok (.iload_n 2, 1) := by decide +kernel
theorem dX12_feed_48 : decode cX12_feed 48 = .ok (.goto 28, 3) := by decide +kernel
theorem dX12_feed_51 : decode cX12_feed 51 = .ok (.iload 6, 2) := by decide +kernel
theorem dX12_feed_53 : decode cX12_feed 53 = .ok (.bipush 12, 2) := by decide +kernel
theorem dX12_feed_55 : decode cX12_feed 55 = .ok (.if_icmp .ge 7, 3) := by decide +kernel
theorem dX12_feed_58 : decode cX12_feed 58 = .ok (.iload_n 3, 1) := by decide +kernel
theorem dX12_feed_59 : decode cX12_feed 59 = .ok (.goto 17, 3) := by decide +kernel
theorem dX12_feed_62 : decode cX12_feed 62 = .ok (.iload 6, 2) := by decide +kernel
theorem dX12_feed_64 : decode cX12_feed 64 = .ok (.bipush 16, 2) := by decide +kernel
theorem dX12_feed_66 : decode cX12_feed 66 = .ok (.if_icmp .ge 8, 3) := by decide +kernel
theorem dX12_feed_69 : decode cX12_feed 69 = .ok (.iload 4, 2) := by decide +kernel
theorem dX12_feed_71 : decode cX12_feed 71 = .ok (.goto 5, 3) := by decide +kernel
theorem dX12_feed_74 : decode cX12_feed 74 = .ok (.iload 5, 2) := by decide +kernel
theorem dX12_feed_76 : decode cX12_feed 76 = .ok (.istore 7, 2) := by decide +kernel
theorem dX12_feed_78 : decode cX12_feed 78 = .ok (.aload_n 0, 1) := by decide +kernel
theorem dX12_feed_79 : decode cX12_feed 79 = .ok (.getfield 23, 3) := by decide +kernel
theorem dX12_feed_82 : decode cX12_feed 82 = .ok (.aload_n 0, 1) := by decide +kernel
theorem dX12_feed_83 : decode cX12_feed 83 = .ok (.getfield 61, 3) := by decide +kernel
theorem dX12_feed_86 : decode cX12_feed 86 = .ok (.iload 7, 2) := by decide +kernel
theorem dX12_feed_88 : decode cX12_feed 88 = .ok (.bipush 24, 2) := by decide +kernel
theorem dX12_feed_90 : decode cX12_feed 90 = .ok (.bipush 8, 2) := by decide +kernel
theorem dX12_feed_92 : decode cX12_feed 92 = .ok (.iload 6, 2) := by decide +kernel
theorem dX12_feed_94 : decode cX12_feed 94 = .ok (.iconst 3, 1) := by decide +kernel
theorem dX12_feed_95 : decode cX12_feed 95 = .ok (.iand, 1) := by decide +kernel
theorem dX12_feed_96 : decode cX12_feed 96 = .ok (.imul, 1) := by decide +kernel
theorem dX12_feed_97 : decode cX12_feed 97 = .ok (.isub, 1) := by decide +kernel
theorem dX12_feed_98 : decode cX12_feed 98 = .ok (.iushr, 1) := by decide +kernel
theorem dX12_feed_99 : decode cX12_feed 99 = .ok (.sipush 255, 3) := by decide +kernel
theorem dX12_feed_102 : decode cX12_feed 102 = .ok (.iand, 1) := by decide +kernel
theorem dX12_feed_103 : decode cX12_feed 103 = .ok (.iastore, 1) := by decide +kernel
theorem dX12_feed_104 : decode cX12_feed 104 = .ok (.aload_n 0, 1) := by decide +kernel
theorem dX12_feed_105 : decode cX12_feed 105 = .ok (.dup, 1) := by decide +kernel
theorem dX12_feed_106 : decode cX12_feed 106 = .ok (.getfield 61, 3) := by decide +kernel
theorem dX12_feed_109 : decode cX12_feed 109 = .ok (.iconst 1, 1) := by decide +kernel
theorem dX12_feed_110 : decode cX12_feed 110 = .ok (.iadd, 1) := by decide +kernel
theorem dX12_feed_111 : decode cX12_feed 111 = .ok (.putfield 61, 3) := by decide +kernel
theorem dX12_feed_114 : decode cX12_feed 114 = .ok (.iinc 6 1, 3) := by decide +kernel
theorem dX12_feed_117 : decode cX12_feed 117 = .ok (.goto (-94), 3) := by decide +kernel
theorem dX12_feed_120 : decode cX12_feed 120 = .ok (.aload_n 0, 1) := by decide +kernel
theorem dX12_feed_121 : decode cX12_feed 121 = .ok (.getfield 61, 3) := by decide +kernel
theorem dX12_feed_124 : decode cX12_feed 124 = .ok (.ireturn, 1) := by decide +kernel
theorem dX12_see_0 : decode cX12_see 0 = .ok (.iload_n 1, 1) := by decide +kernel
theorem dX12_see_1 : decode cX12_see 1 = .ok (.aload_n 0, 1) := by decide +kernel
theorem dX12_see_2 : decode cX12_see 2 = .ok (.getfield 64, 3) := by decide +kernel
theorem dX12_see_5 : decode cX12_see 5 = .ok (.if_icmp .ge 12, 3) := by decide +kernel
theorem dX12_see_8 : decode cX12_see 8 = .ok (.aload_n 0, 1) := by decide +kernel
theorem dX12_see_9 : decode cX12_see 9 = .ok (.getfield 23, 3) := by decide +kernel
theorem dX12_see_12 : decode cX12_see 12 = .ok (.iload_n 1, 1) := by decide +kernel
theorem dX12_see_13 : decode cX12_see 13 = .ok (.iaload, 1) := by decide +kernel
theorem dX12_see_14 : decode cX12_see 14 = .ok (.goto 4, 3) := by decide +kernel
theorem dX12_see_17 : decode cX12_see 17 = .ok (.iconst 0, 1) := by decide +kernel
theorem dX12_see_18 : decode cX12_see 18 = .ok (.ireturn, 1) := by decide +kernel
theorem dX12_isLetter_0 : decode cX12_isLetter 0 = .ok (.iload_n 0, 1) := by decide +kernel
theorem dX12_isLetter_1 : decode cX12_isLetter 1 = .ok (.bipush 97, 2) := by decide +kernel
theorem dX12_isLetter_3 : decode cX12_isLetter 3 = .ok (.if_icmp .lt 13, 3) := by decide +kernel
theorem dX12_isLetter_6 : decode cX12_isLetter 6 = .ok (.iload_n 0, 1) := by decide +kernel
theorem dX12_isLetter_7 : decode cX12_isLetter 7 = .ok (.bipush 122, 2) := by decide +kernel
theorem dX12_isLetter_9 : decode cX12_isLetter 9 = .ok (.if_icmp .gt 7, 3) := by decide +kernel
theorem dX12_isLetter_12 : decode cX12_isLetter 12 = .ok (.iconst 1, 1) := by decide +kernel
theorem dX12_isLetter_13 : decode cX12_isLetter 13 = .ok (.goto 4, 3) := by decide +kernel
theorem dX12_isLetter_16 : decode cX12_isLetter 16 = .ok (.iconst 0, 1) := by decide +kernel
theorem dX12_isLetter_17 : decode cX12_isLetter 17 = .ok (.ireturn, 1) := by decide +kernel
theorem dX12_isDigit_0 : decode cX12_isDigit 0 = .ok (.iload_n 0, 1) := by decide +kernel
theorem dX12_isDigit_1 : decode cX12_isDigit 1 = .ok (.bipush 48, 2) := by decide +kernel
theorem dX12_isDigit_3 : decode cX12_isDigit 3 = .ok (.if_icmp .lt 13, 3) := by decide +kernel
theorem dX12_isDigit_6 : decode cX12_isDigit 6 = .ok (.iload_n 0, 1) := by decide +kernel
theorem dX12_isDigit_7 : decode cX12_isDigit 7 = .ok (.bipush 57, 2) := by decide +kernel
theorem dX12_isDigit_9 : decode cX12_isDigit 9 = .ok (.if_icmp .gt 7, 3) := by decide +kernel
theorem dX12_isDigit_12 : decode cX12_isDigit 12 = .ok (.iconst 1, 1) := by decide +kernel
theorem dX12_isDigit_13 : decode cX12_isDigit 13 = .ok (.goto 4, 3) := by decide +kernel
theorem dX12_isDigit_16 : decode cX12_isDigit 16 = .ok (.iconst 0, 1) := by decide +kernel
theorem dX12_isDigit_17 : decode cX12_isDigit 17 = .ok (.ireturn, 1) := by decide +kernel
theorem dX12_isSignByte_0 : decode cX12_isSignByte 0 = .ok (.iload_n 0, 1) := by decide +kernel
theorem dX12_isSignByte_1 : decode cX12_isSignByte 1 = .ok (.bipush 91, 2) := by decide +kernel
theorem dX12_isSignByte_3 : decode cX12_isSignByte 3 = .ok (.if_icmp .eq 27, 3) := by decide +kernel
theorem dX12_isSignByte_6 : decode cX12_isSignByte 6 = .ok (.iload_n 0, 1) := by decide +kernel
theorem dX12_isSignByte_7 : decode cX12_isSignByte 7 = .ok (.bipush 93, 2) := by decide +kernel
theorem dX12_isSignByte_9 : decode cX12_isSignByte 9 = .ok (.if_icmp .eq 21, 3) := by decide +kernel
theorem dX12_isSignByte_12 : decode cX12_isSignByte 12 = .ok (.iload_n 0, 1) := by decide +kernel
theorem dX12_isSignByte_13 : decode cX12_isSignByte 13 = .ok (.bipush 61, 2) := by decide +kernel
theorem dX12_isSignByte_15 : decode cX12_isSignByte 15 = .ok (.if_icmp .eq 15, 3) := by decide +kernel
theorem dX12_isSignByte_18 : decode cX12_isSignByte 18 = .ok (.iload_n 0, 1) := by decide +kernel
theorem dX12_isSignByte_19 : decode cX12_isSignByte 19 = .ok (.bipush 60, 2) := by decide +kernel
theorem dX12_isSignByte_21 : decode cX12_isSignByte 21 = .ok (.if_icmp .eq 9, 3) := by decide +kernel
theorem dX12_isSignByte_24 : decode cX12_isSignByte 24 = .ok (.iload_n 0, 1) := by decide +kernel
theorem dX12_isSignByte_25 : decode cX12_isSignByte 25 = .ok (.bipush 62, 2) := by decide +kernel
theorem dX12_isSignByte_27 : decode cX12_isSignByte 27 = .ok (.if_icmp .ne 7, 3) := by decide +kernel
theorem dX12_isSignByte_30 : decode cX12_isSignByte 30 = .ok (.iconst 1, 1) := by decide +kernel
theorem dX12_isSignByte_31 : decode cX12_isSignByte 31 = .ok (.goto 4, 3) := by decide +kernel
theorem dX12_isSignByte_34 : decode cX12_isSignByte 34 = .ok (.iconst 0, 1) := by decide +kernel
theorem dX12_isSignByte_35 : decode cX12_isSignByte 35 = .ok (.istore_n 1, 1) := by decide +kernel
theorem dX12_isSignByte_36 : decode cX12_isSignByte 36 = .ok (.iload_n 1, 1) := by decide +kernel
theorem dX12_isSignByte_37 : decode cX12_isSignByte 37 = .ok (.ifCond .ne 39, 3) := by decide +kernel
theorem dX12_isSignByte_40 : decode cX12_isSignByte 40 = .ok (.iload_n 0, 1) := by decide +kernel
theorem dX12_isSignByte_41 : decode cX12_isSignByte 41 = .ok (.bipush 59, 2) := by decide +kernel
theorem dX12_isSignByte_43 : decode cX12_isSignByte 43 = .ok (.if_icmp .eq 33, 3) := by decide +kernel
theorem dX12_isSignByte_46 : decode cX12_isSignByte 46 = .ok (.iload_n 0, 1) := by decide +kernel
theorem dX12_isSignByte_47 : decode cX12_isSignByte 47 = .ok (.bipush 43, 2) := by decide +kernel
theorem dX12_isSignByte_49 : decode cX12_isSignByte 49 = .ok (.if_icmp .eq 27, 3) := by decide +kernel
theorem dX12_isSignByte_52 : decode cX12_isSignByte 52 = .ok (.iload_n 0, 1) := by decide +kernel
theorem dX12_isSignByte_53 : decode cX12_isSignByte 53 = .ok (.bipush 45, 2) := by decide +kernel
theorem dX12_isSignByte_55 : decode cX12_isSignByte 55 = .ok (.if_icmp .eq 21, 3) := by decide +kernel
theorem dX12_isSignByte_58 : decode cX12_isSignByte 58 = .ok (.iload_n 0, 1) := by decide +kernel
theorem dX12_isSignByte_59 : decode cX12_isSignByte 59 = .ok (.bipush 42, 2) := by decide +kernel
theorem dX12_isSignByte_61 : decode cX12_isSignByte 61 = .ok (.if_icmp .eq 15, 3) := by decide +kernel
theorem dX12_isSignByte_64 : decode cX12_isSignByte 64 = .ok (.iload_n 0, 1) := by decide +kernel
theorem dX12_isSignByte_65 : decode cX12_isSignByte 65 = .ok (.bipush 40, 2) := by decide +kernel
theorem dX12_isSignByte_67 : decode cX12_isSignByte 67 = .ok (.if_icmp .eq 9, 3) := by decide +kernel
theorem dX12_isSignByte_70 : decode cX12_isSignByte 70 = .ok (.iload_n 0, 1) := by decide +kernel
theorem dX12_isSignByte_71 : decode cX12_isSignByte 71 = .ok (.bipush 41, 2) := by decide +kernel
theorem dX12_isSignByte_73 : decode cX12_isSignByte 73 = .ok (.if_icmp .ne 7, 3) := by decide +kernel
theorem dX12_isSignByte_76 : decode cX12_isSignByte 76 = .ok (.iconst 1, 1) := by decide +kernel
theorem dX12_isSignByte_77 : decode cX12_isSignByte 77 = .ok (.goto 4, 3) := by decide +kernel
theorem dX12_isSignByte_80 : decode cX12_isSignByte 80 = .ok (.iconst 0, 1) := by decide +kernel
theorem dX12_isSignByte_81 : decode cX12_isSignByte 81 = .ok (.ireturn, 1) := by decide +kernel
theorem dX12_readsOn_0 : decode cX12_readsOn 0 = .ok (.aload_n 0, 1) := by decide +kernel
theorem dX12_readsOn_1 : decode cX12_readsOn 1 = .ok (.getfield 67, 3) := by decide +kernel
theorem dX12_readsOn_4 : decode cX12_readsOn 4 = .ok (.aload_n 0, 1) := by decide +kernel
theorem dX12_readsOn_5 : decode cX12_readsOn 5 = .ok (.getfield 64, 3) := by decide +kernel
theorem dX12_readsOn_8 : decode cX12_readsOn 8 = .ok (.if_icmp .ge 44, 3) := by decide +kernel
theorem dX12_readsOn_11 : decode cX12_readsOn 11 = .ok (.aload_n 0, 1) := by decide +kernel
theorem dX12_readsOn_12 : decode cX12_readsOn 12 = .ok (.getfield 23, 3) := by decide +kernel
theorem dX12_readsOn_15 : decode cX12_readsOn 15 = .ok (.aload_n 0, 1) := by decide +kernel
theorem dX12_readsOn_16 : decode cX12_readsOn 16 = .ok (.getfield 67, 3) := by decide +kernel
theorem dX12_readsOn_19 : decode cX12_readsOn 19 = .ok (.iaload, 1) := by decide +kernel
theorem dX12_readsOn_20 : decode cX12_readsOn 20 = .ok (.bipush 32, 2) := by decide +kernel
theorem dX12_readsOn_22 : decode cX12_readsOn 22 = .ok (.if_icmp .eq 17, 3) := by decide +kernel
theorem dX12_readsOn_25 : decode cX12_readsOn 25 = .ok (.aload_n 0, 1) := by decide +kernel
theorem dX12_readsOn_26 : decode cX12_readsOn 26 = .ok (.getfield 23, 3) := by decide +kernel
theorem dX12_readsOn_29 : decode cX12_readsOn 29 = .ok (.aload_n 0, 1) := by decide +kernel
theorem dX12_readsOn_30 : decode cX12_readsOn 30 = .ok (.getfield 67, 3) := by decide +kernel
theorem dX12_readsOn_33 : decode cX12_readsOn 33 = .ok (.iaload, 1) := by decide +kernel
theorem dX12_readsOn_34 : decode cX12_readsOn 34 = .ok (.bipush 10, 2) := by decide +kernel
theorem dX12_readsOn_36 : decode cX12_readsOn 36 = .ok (.if_icmp .ne 16, 3) := by decide +kernel
theorem dX12_readsOn_39 : decode cX12_readsOn 39 = .ok (.aload_n 0, 1) := by decide +kernel
theorem dX12_readsOn_40 : decode cX12_readsOn 40 = .ok (.dup, 1) := by decide +kernel
theorem dX12_readsOn_41 : decode cX12_readsOn 41 = .ok (.getfield 67, 3) := by decide +kernel
theorem dX12_readsOn_44 : decode cX12_readsOn 44 = .ok (.iconst 1, 1) := by decide +kernel
theorem dX12_readsOn_45 : decode cX12_readsOn 45 = .ok (.iadd, 1) := by decide +kernel
theorem dX12_readsOn_46 : decode cX12_readsOn 46 = .ok (.putfield 67, 3) := by decide +kernel
theorem dX12_readsOn_49 : decode cX12_readsOn 49 = .ok (.goto (-49), 3) := by decide +kernel
theorem dX12_readsOn_52 : decode cX12_readsOn 52 = .ok (.aload_n 0, 1) := by decide +kernel
theorem dX12_readsOn_53 : decode cX12_readsOn 53 = .ok (.aload_n 0, 1) := by decide +kernel
theorem dX12_readsOn_54 : decode cX12_readsOn 54 = .ok (.getfield 67, 3) := by decide +kernel
theorem dX12_readsOn_57 : decode cX12_readsOn 57 = .ok (.putfield 70, 3) := by decide +kernel
theorem dX12_readsOn_60 : decode cX12_readsOn 60 = .ok (.aload_n 0, 1) := by decide +kernel
theorem dX12_readsOn_61 : decode cX12_readsOn 61 = .ok (.getfield 67, 3) := by decide +kernel
theorem dX12_readsOn_64 : decode cX12_readsOn 64 = .ok (.aload_n 0, 1) := by decide +kernel
theorem dX12_readsOn_65 : decode cX12_readsOn 65 = .ok (.getfield 64, 3) := by decide +kernel
theorem dX12_readsOn_68 : decode cX12_readsOn 68 = .ok (.if_icmp .lt 9, 3) := by decide +kernel
theorem dX12_readsOn_71 : decode cX12_readsOn 71 = .ok (.aload_n 0, 1) := by decide +kernel
theorem dX12_readsOn_72 : decode cX12_readsOn 72 = .ok (.iconst 0, 1) := by decide +kernel
theorem dX12_readsOn_73 : decode cX12_readsOn 73 = .ok (.putfield 73, 3) := by decide +kernel
theorem dX12_readsOn_76 : decode cX12_readsOn 76 = .ok (.return_, 1) := by decide +kernel
theorem dX12_readsOn_77 : decode cX12_readsOn 77 = .ok (.aload_n 0, 1) := by decide +kernel
theorem dX12_readsOn_78 : decode cX12_readsOn 78 = .ok (.getfield 23, 3) := by decide +kernel
theorem dX12_readsOn_81 : decode cX12_readsOn 81 = .ok (.aload_n 0, 1) := by decide +kernel
theorem dX12_readsOn_82 : decode cX12_readsOn 82 = .ok (.getfield 67, 3) := by decide +kernel
theorem dX12_readsOn_85 : decode cX12_readsOn 85 = .ok (.iaload, 1) := by decide +kernel
theorem dX12_readsOn_86 : decode cX12_readsOn 86 = .ok (.istore_n 1, 1) := by decide +kernel
theorem dX12_readsOn_87 : decode cX12_readsOn 87 = .ok (.iload_n 1, 1) := by decide +kernel
theorem dX12_readsOn_88 : decode cX12_readsOn 88 = .ok (.invokestatic 76, 3) := by decide +kernel
theorem dX12_readsOn_91 : decode cX12_readsOn 91 = .ok (.ifCond .eq 38, 3) := by decide +kernel
theorem dX12_readsOn_94 : decode cX12_readsOn 94 = .ok (.aload_n 0, 1) := by decide +kernel
theorem dX12_readsOn_95 : decode cX12_readsOn 95 = .ok (.aload_n 0, 1) := by decide +kernel
theorem dX12_readsOn_96 : decode cX12_readsOn 96 = .ok (.getfield 67, 3) := by decide +kernel
theorem dX12_readsOn_99 : decode cX12_readsOn 99 = .ok (.invokevirtual 80, 3) := by decide +kernel
theorem dX12_readsOn_102 : decode cX12_readsOn 102 = .ok (.invokestatic 76, 3) := by decide +kernel
theorem dX12_readsOn_105 : decode cX12_readsOn 105 = .ok (.ifCond .eq 16, 3) := by decide +kernel
theorem dX12_readsOn_108 : decode cX12_readsOn 108 = .ok (.aload_n 0, 1) := by decide +kernel
theorem dX12_readsOn_109 : decode cX12_readsOn 109 = .ok (.dup, 1) := by decide +kernel
theorem dX12_readsOn_110 : decode cX12_readsOn 110 = .ok (.getfield 67, 3) := by decide +kernel
theorem dX12_readsOn_113 : decode cX12_readsOn 113 = .ok (.iconst 1, 1) := by decide +kernel
theorem dX12_readsOn_114 : decode cX12_readsOn 114 = .ok (.iadd, 1) := by decide +kernel
theorem dX12_readsOn_115 : decode cX12_readsOn 115 = .ok (.putfield 67, 3) := by decide +kernel
theorem dX12_readsOn_118 : decode cX12_readsOn 118 = .ok (.goto (-24), 3) := by decide +kernel
theorem dX12_readsOn_121 : decode cX12_readsOn 121 = .ok (.aload_n 0, 1) := by decide +kernel
theorem dX12_readsOn_122 : decode cX12_readsOn 122 = .ok (.iconst 1, 1) := by decide +kernel
theorem dX12_readsOn_123 : decode cX12_readsOn 123 = .ok (.putfield 73, 3) := by decide +kernel
theorem dX12_readsOn_126 : decode cX12_readsOn 126 = .ok (.goto 137, 3) := by decide +kernel
theorem dX12_readsOn_129 : decode cX12_readsOn 129 = .ok (.iload_n 1, 1) := by decide +kernel
theorem dX12_readsOn_130 : decode cX12_readsOn 130 = .ok (.invokestatic 84, 3) := by decide +kernel
theorem dX12_readsOn_133 : decode cX12_readsOn 133 = .ok (.ifCond .eq 104, 3) := by decide +kernel
theorem dX12_readsOn_136 : decode cX12_readsOn 136 = .ok (.aload_n 0, 1) := by decide +kernel
theorem dX12_readsOn_137 : decode cX12_readsOn 137 = .ok (.iconst 0, 1) := by decide +kernel
theorem dX12_readsOn_138 : decode cX12_readsOn 138 = .ok (.putfield 87, 3) := by decide +kernel
theorem dX12_readsOn_141 : decode cX12_readsOn 141 = .ok (.aload_n 0, 1) := by decide +kernel
theorem dX12_readsOn_142 : decode cX12_readsOn 142 = .ok (.aload_n 0, 1) := by decide +kernel
theorem dX12_readsOn_143 : decode cX12_readsOn 143 = .ok (.getfield 67, 3) := by decide +kernel
theorem dX12_readsOn_146 : decode cX12_readsOn 146 = .ok (.invokevirtual 80, 3) := by decide +kernel
theorem dX12_readsOn_149 : decode cX12_readsOn 149 = .ok (.invokestatic 84, 3) := by decide +kernel
theorem dX12_readsOn_152 : decode cX12_readsOn 152 = .ok (.ifCond .eq 60, 3) := by decide +kernel
theorem dX12_readsOn_155 : decode cX12_readsOn 155 = .ok (.aload_n 0, 1) := by decide +kernel
theorem dX12_readsOn_156 : decode cX12_readsOn 156 = .ok (.aload_n 0, 1) := by decide +kernel
theorem dX12_readsOn_157 : decode cX12_readsOn 157 = .ok (.getfield 67, 3) := by decide +kernel
theorem dX12_readsOn_160 : decode cX12_readsOn 160 = .ok (.aload_n 0, 1) := by decide +kernel
theorem dX12_readsOn_161 : decode cX12_readsOn 161 = .ok (.getfield 70, 3) := by decide +kernel
theorem dX12_readsOn_164 : decode cX12_readsOn 164 = .ok (.isub, 1) := by decide +kernel
theorem dX12_readsOn_165 : decode cX12_readsOn 165 = .ok (.iconst 3, 1) := by decide +kernel
theorem dX12_readsOn_166 : decode cX12_readsOn 166 = .ok (.if_icmp .ge 26, 3) := by decide +kernel
theorem dX12_readsOn_169 : decode cX12_readsOn 169 = .ok (.bipush 10, 2) := by decide +kernel
theorem dX12_readsOn_171 : decode cX12_readsOn 171 = .ok (.aload_n 0, 1) := by decide +kernel
theorem dX12_readsOn_172 : decode cX12_readsOn 172 = .ok (.getfield 87, 3) := by decide +kernel
theorem dX12_readsOn_175 : decode cX12_readsOn 175 = .ok (.imul, 1) := by decide +kernel
theorem dX12_readsOn_176 : decode cX12_readsOn 176 = .ok (.aload_n 0, 1) := by decide +kernel
theorem dX12_readsOn_177 : decode cX12_readsOn 177 = .ok (.getfield 23, 3) := by decide +kernel
theorem dX12_readsOn_180 : decode cX12_readsOn 180 = .ok (.aload_n 0, 1) := by decide +kernel
theorem dX12_readsOn_181 : decode cX12_readsOn 181 = .ok (.getfield 67, 3) := by decide +kernel
theorem dX12_readsOn_184 : decode cX12_readsOn 184 = .ok (.iaload, 1) := by decide +kernel
theorem dX12_readsOn_185 : decode cX12_readsOn 185 = .ok (.iadd, 1) := by decide +kernel
theorem dX12_readsOn_186 : decode cX12_readsOn 186 = .ok (.bipush 48, 2) := by decide +kernel
theorem dX12_readsOn_188 : decode cX12_readsOn 188 = .ok (.isub, 1) := by decide +kernel
theorem dX12_readsOn_189 : decode cX12_readsOn 189 = .ok (.goto 7, 3) := by decide +kernel
theorem dX12_readsOn_192 : decode cX12_readsOn 192 = .ok (.aload_n 0, 1) := by decide +kernel
theorem dX12_readsOn_193 : decode cX12_readsOn 193 = .ok (.getfield 87, 3) := by decide +kernel
theorem dX12_readsOn_196 : decode cX12_readsOn 196 = .ok (.putfield 87, 3) := by decide +kernel
theorem dX12_readsOn_199 : decode cX12_readsOn 199 = .ok (.aload_n 0, 1) := by decide +kernel
theorem dX12_readsOn_200 : decode cX12_readsOn 200 = .ok (.dup, 1) := by decide +kernel
theorem dX12_readsOn_201 : decode cX12_readsOn 201 = .ok (.getfield 67, 3) := by decide +kernel
theorem dX12_readsOn_204 : decode cX12_readsOn 204 = .ok (.iconst 1, 1) := by decide +kernel
theorem dX12_readsOn_205 : decode cX12_readsOn 205 = .ok (.iadd, 1) := by decide +kernel
theorem dX12_readsOn_206 : decode cX12_readsOn 206 = .ok (.putfield 67, 3) := by decide +kernel
theorem dX12_readsOn_209 : decode cX12_readsOn 209 = .ok (.goto (-68), 3) := by decide +kernel
theorem dX12_readsOn_212 : decode cX12_readsOn 212 = .ok (.aload_n 0, 1) := by decide +kernel
theorem dX12_readsOn_213 : decode cX12_readsOn 213 = .ok (.aload_n 0, 1) := by decide +kernel
theorem dX12_readsOn_214 : decode cX12_readsOn 214 = .ok (.getfield 67, 3) := by decide +kernel
theorem dX12_readsOn_217 : decode cX12_readsOn 217 = .ok (.aload_n 0, 1) := by decide +kernel
theorem dX12_readsOn_218 : decode cX12_readsOn 218 = .ok (.getfield 70, 3) := by decide +kernel
theorem dX12_readsOn_221 : decode cX12_readsOn 221 = .ok (.isub, 1) := by decide +kernel
theorem dX12_readsOn_222 : decode cX12_readsOn 222 = .ok (.iconst 3, 1) := by decide +kernel
theorem dX12_readsOn_223 : decode cX12_readsOn 223 = .ok (.if_icmp .le 7, 3) := by decide +kernel
theorem dX12_readsOn_226 : decode cX12_readsOn 226 = .ok (.iconst 3, 1) := by decide +kernel
theorem dX12_readsOn_227 : decode cX12_readsOn 227 = .ok (.goto 4, 3) := by decide +kernel
theorem dX12_readsOn_230 : decode cX12_readsOn 230 = .ok (.iconst 2, 1) := by decide +kernel
theorem dX12_readsOn_231 : decode cX12_readsOn 231 = .ok (.putfield 73, 3) := by decide +kernel
theorem dX12_readsOn_234 : decode cX12_readsOn 234 = .ok (.goto 29, 3) := by decide +kernel
theorem dX12_readsOn_237 : decode cX12_readsOn 237 = .ok (.aload_n 0, 1) := by decide +kernel
theorem dX12_readsOn_238 : decode cX12_readsOn 238 = .ok (.iload_n 1, 1) := by decide +kernel
theorem dX12_readsOn_239 : decode cX12_readsOn 239 = .ok (.invokestatic 90, 3) := by decide +kernel
theorem dX12_readsOn_242 : decode cX12_readsOn 242 = .ok (.ifCond .eq 7, 3) := by decide +kernel
theorem dX12_readsOn_245 : decode cX12_readsOn 245 = .ok (.iload_n 1, 1) := by decide +kernel
theorem dX12_readsOn_246 : decode cX12_readsOn 246 = .ok (.goto 4, 3) := by decide +kernel
theorem dX12_readsOn_249 : decode cX12_readsOn 249 = .ok (.iconst 3, 1) := by decide +kernel
theorem dX12_readsOn_250 : decode cX12_readsOn 250 = .ok (.putfield 73, 3) := by decide +kernel
theorem dX12_readsOn_253 : decode cX12_readsOn 253 = .ok (.aload_n 0, 1) := by decide +kernel
theorem dX12_readsOn_254 : decode cX12_readsOn 254 = .ok (.dup, 1) := by decide +kernel
theorem dX12_readsOn_255 : decode cX12_readsOn 255 = .ok (.getfield 67, 3) := by decide +kernel
theorem dX12_readsOn_258 : decode cX12_readsOn 258 = .ok (.iconst 1, 1) := by decide +kernel
theorem dX12_readsOn_259 : decode cX12_readsOn 259 = .ok (.iadd, 1) := by decide +kernel
theorem dX12_readsOn_260 : decode cX12_readsOn 260 = .ok (.putfield 67, 3) := by decide +kernel
theorem dX12_readsOn_263 : decode cX12_readsOn 263 = .ok (.return_, 1) := by decide +kernel
theorem dX12_blames_0 : decode cX12_blames 0 = .ok (.aload_n 0, 1) := by decide +kernel
theorem dX12_blames_1 : decode cX12_blames 1 = .ok (.getfield 93, 3) := by decide +kernel
theorem dX12_blames_4 : decode cX12_blames 4 = .ok (.ifCond .eq 4, 3) := by decide +kernel
theorem dX12_blames_7 : decode cX12_blames 7 = .ok (.return_, 1) := by decide +kernel
theorem dX12_blames_8 : decode cX12_blames 8 = .ok (.aload_n 0, 1) := by decide +kernel
theorem dX12_blames_9 : decode cX12_blames 9 = .ok (.aload_n 0, 1) := by decide +kernel
theorem dX12_blames_10 : decode cX12_blames 10 = .ok (.getfield 73, 3) := by decide +kernel
theorem dX12_blames_13 : decode cX12_blames 13 = .ok (.iconst 3, 1) := by decide +kernel
theorem dX12_blames_14 : decode cX12_blames 14 = .ok (.if_icmp .ne 7, 3) := by decide +kernel
theorem dX12_blames_17 : decode cX12_blames 17 = .ok (.iconst 1, 1) := by decide +kernel
theorem dX12_blames_18 : decode cX12_blames 18 = .ok (.goto 4, 3) := by decide +kernel
theorem dX12_blames_21 : decode cX12_blames 21 = .ok (.iload_n 1, 1) := by decide +kernel
theorem dX12_blames_22 : decode cX12_blames 22 = .ok (.putfield 93, 3) := by decide +kernel
theorem dX12_blames_25 : decode cX12_blames 25 = .ok (.aload_n 0, 1) := by decide +kernel
theorem dX12_blames_26 : decode cX12_blames 26 = .ok (.aload_n 0, 1) := by decide +kernel
theorem dX12_blames_27 : decode cX12_blames 27 = .ok (.getfield 70, 3) := by decide +kernel
theorem dX12_blames_30 : decode cX12_blames 30 = .ok (.putfield 96, 3) := by decide +kernel
theorem dX12_blames_33 : decode cX12_blames 33 = .ok (.return_, 1) := by decide +kernel
theorem dX12_isWord_0 : decode cX12_isWord 0 = .ok (.aload_n 0, 1) := by decide +kernel
theorem dX12_isWord_1 : decode cX12_isWord 1 = .ok (.getfield 93, 3) := by decide +kernel
theorem dX12_isWord_4 : decode cX12_isWord 4 = .ok (.ifCond .ne 31, 3) := by decide +kernel
theorem dX12_isWord_7 : decode cX12_isWord 7 = .ok (.aload_n 0, 1) := by decide +kernel
theorem dX12_isWord_8 : decode cX12_isWord 8 = .ok (.getfield 73, 3) := by decide +kernel
theorem dX12_isWord_11 : decode cX12_isWord 11 = .ok (.iconst 1, 1) := by decide +kernel
theorem dX12_isWord_12 : decode cX12_isWord 12 = .ok (.if_icmp .ne 23, 3) := by decide +kernel
theorem dX12_isWord_15 : decode cX12_isWord 15 = .ok (.aload_n 0, 1) := by decide +kernel
theorem dX12_isWord_16 : decode cX12_isWord 16 = .ok (.getfield 67, 3) := by decide +kernel
theorem dX12_isWord_19 : decode cX12_isWord 19 = .ok (.aload_n 0, 1) := by decide +kernel
theorem dX12_isWord_20 : decode cX12_isWord 20 = .ok (.getfield 70, 3) := by decide +kernel
theorem dX12_isWord_23 : decode cX12_isWord 23 = .ok (.isub, 1) := by decide +kernel
theorem dX12_isWord_24 : decode cX12_isWord 24 = .ok (.aload_n 1, 1) := by decide +kernel
theorem dX12_isWord_25 : decode cX12_isWord 25 = .ok (.invokevirtual 99, 3) := by decide +kernel
theorem dX12_isWord_28 : decode cX12_isWord 28 = .ok (.if_icmp .ne 7, 3) := by decide +kernel
theorem dX12_isWord_31 : decode cX12_isWord 31 = .ok (.iconst 1, 1) := by decide +kernel
theorem dX12_isWord_32 : decode cX12_isWord 32 = .ok (.goto 4, 3) := by decide +kernel
theorem dX12_isWord_35 : decode cX12_isWord 35 = .ok (.iconst 0, 1) := by decide +kernel
theorem dX12_isWord_36 : decode cX12_isWord 36 = .ok (.istore_n 2, 1) := by decide +kernel
theorem dX12_isWord_37 : decode cX12_isWord 37 = .ok (.iconst 0, 1) := by decide +kernel
theorem dX12_isWord_38 : decode cX12_isWord 38 = .ok (.istore_n 3, 1) := by decide +kernel
theorem dX12_isWord_39 : decode cX12_isWord 39 = .ok (.iload_n 2, 1) := by decide +kernel
theorem dX12_isWord_40 : decode cX12_isWord 40 = .ok (.ifCond .eq 42, 3) := by decide +kernel
theorem dX12_isWord_43 : decode cX12_isWord 43 = .ok (.iload_n 3, 1) := by decide +kernel
theorem dX12_isWord_44 : decode cX12_isWord 44 = .ok (.aload_n 1, 1) := by decide +kernel
theorem dX12_isWord_45 : decode cX12_isWord 45 = .ok (.invokevirtual 99, 3) := by decide +kernel
theorem dX12_isWord_48 : decode cX12_isWord 48 = .ok (.if_icmp .ge 34, 3) := by decide +kernel
theorem dX12_isWord_51 : decode cX12_isWord 51 = .ok (.aload_n 0, 1) := by decide +kernel
theorem dX12_isWord_52 : decode cX12_isWord 52 = .ok (.getfield 23, 3) := by decide +kernel
theorem dX12_isWord_55 : decode cX12_isWord 55 = .ok (.aload_n 0, 1) := by decide +kernel
theorem dX12_isWord_56 : decode cX12_isWord 56 = .ok (.getfield 70, 3) := by decide +kernel
theorem dX12_isWord_59 : decode cX12_isWord 59 = .ok (.iload_n 3, 1) := by decide +kernel
theorem dX12_isWord_60 : decode cX12_isWord 60 = .ok (.iadd, 1) := by decide +kernel
theorem dX12_isWord_61 : decode cX12_isWord 61 = .ok (.iaload, 1) := by decide +kernel
theorem dX12_isWord_62 : decode cX12_isWord 62 = .ok (.aload_n 1, 1) := by decide +kernel
theorem dX12_isWord_63 : decode cX12_isWord 63 = .ok (.iload_n 3, 1) := by decide +kernel
theorem dX12_isWord_64 : decode cX12_isWord 64 = .ok (.invokevirtual 104, 3) := by decide +kernel
theorem dX12_isWord_67 : decode cX12_isWord 67 = .ok (.if_icmp .ne 7, 3) := by decide +kernel
theorem dX12_isWord_70 : decode cX12_isWord 70 = .ok (.iconst 1, 1) := by decide +kernel
theorem dX12_isWord_71 : decode cX12_isWord 71 = .ok (.goto 4, 3) := by decide +kernel
theorem dX12_isWord_74 : decode cX12_isWord 74 = .ok (.iconst 0, 1) := by decide +kernel
theorem dX12_isWord_75 : decode cX12_isWord 75 = .ok (.istore_n 2, 1) := by decide +kernel
theorem dX12_isWord_76 : decode cX12_isWord 76 = .ok (.iinc 3 1, 3) := by decide +kernel
theorem dX12_isWord_79 : decode cX12_isWord 79 = .ok (.goto (-40), 3) := by decide +kernel
theorem dX12_isWord_82 : decode cX12_isWord 82 = .ok (.iload_n 2, 1) := by decide +kernel
theorem dX12_isWord_83 : decode cX12_isWord 83 = .ok (.ireturn, 1) := by decide +kernel
theorem dX12_took_0 : decode cX12_took 0 = .ok (.aload_n 0, 1) := by decide +kernel
theorem dX12_took_1 : decode cX12_took 1 = .ok (.aload_n 1, 1) := by decide +kernel
theorem dX12_took_2 : decode cX12_took 2 = .ok (.invokevirtual 108, 3) := by decide +kernel
theorem dX12_took_5 : decode cX12_took 5 = .ok (.istore_n 2, 1) := by decide +kernel
theorem dX12_took_6 : decode cX12_took 6 = .ok (.iload_n 2, 1) := by decide +kernel
theorem dX12_took_7 : decode cX12_took 7 = .ok (.ifCond .eq 7, 3) := by decide +kernel
theorem dX12_took_10 : decode cX12_took 10 = .ok (.aload_n 0, 1) := by decide +kernel
theorem dX12_took_11 : decode cX12_took 11 = .ok (.invokevirtual 112, 3) := by decide +kernel
theorem dX12_took_14 : decode cX12_took 14 = .ok (.iload_n 2, 1) := by decide +kernel
theorem dX12_took_15 : decode cX12_took 15 = .ok (.ireturn, 1) := by decide +kernel
theorem dX12_isSign_0 : decode cX12_isSign 0 = .ok (.aload_n 0, 1) := by decide +kernel
theorem dX12_isSign_1 : decode cX12_isSign 1 = .ok (.getfield 93, 3) := by decide +kernel
theorem dX12_isSign_4 : decode cX12_isSign 4 = .ok (.ifCond .ne 15, 3) := by decide +kernel
theorem dX12_isSign_7 : decode cX12_isSign 7 = .ok (.aload_n 0, 1) := by decide +kernel
theorem dX12_isSign_8 : decode cX12_isSign 8 = .ok (.getfield 73, 3) := by decide +kernel
theorem dX12_isSign_11 : decode cX12_isSign 11 = .ok (.iload_n 1, 1) := by decide +kernel
theorem dX12_isSign_12 : decode cX12_isSign 12 = .ok (.if_icmp .ne 7, 3) := by decide +kernel
theorem dX12_isSign_15 : decode cX12_isSign 15 = .ok (.iconst 1, 1) := by decide +kernel
theorem dX12_isSign_16 : decode cX12_isSign 16 = .ok (.goto 4, 3) := by decide +kernel
theorem dX12_isSign_19 : decode cX12_isSign 19 = .ok (.iconst 0, 1) := by decide +kernel
theorem dX12_isSign_20 : decode cX12_isSign 20 = .ok (.ireturn, 1) := by decide +kernel
theorem dX12_mustSign_0 : decode cX12_mustSign 0 = .ok (.aload_n 0, 1) := by decide +kernel
theorem dX12_mustSign_1 : decode cX12_mustSign 1 = .ok (.getfield 73, 3) := by decide +kernel
theorem dX12_mustSign_4 : decode cX12_mustSign 4 = .ok (.iload_n 1, 1) := by decide +kernel
theorem dX12_mustSign_5 : decode cX12_mustSign 5 = .ok (.if_icmp .eq 8, 3) := by decide +kernel
theorem dX12_mustSign_8 : decode cX12_mustSign 8 = .ok (.aload_n 0, 1) := by decide +kernel
theorem dX12_mustSign_9 : decode cX12_mustSign 9 = .ok (.iconst 2, 1) := by decide +kernel
theorem dX12_mustSign_10 : decode cX12_mustSign 10 = .ok (.invokevirtual 115, 3) := by decide +kernel
theorem dX12_mustSign_13 : decode cX12_mustSign 13 = .ok (.aload_n 0, 1) := by decide +kernel
theorem dX12_mustSign_14 : decode cX12_mustSign 14 = .ok (.getfield 93, 3) := by decide +kernel
theorem dX12_mustSign_17 : decode cX12_mustSign 17 = .ok (.ifCond .ne 7, 3) := by decide +kernel
theorem dX12_mustSign_20 : decode cX12_mustSign 20 = .ok (.aload_n 0, 1) := by decide +kernel
theorem dX12_mustSign_21 : decode cX12_mustSign 21 = .ok (.invokevirtual 112, 3) := by decide +kernel
theorem dX12_mustSign_24 : decode cX12_mustSign 24 = .ok (.return_, 1) := by decide +kernel
theorem dX12_number_0 : decode cX12_number 0 = .ok (.aload_n 0, 1) := by decide +kernel
theorem dX12_number_1 : decode cX12_number 1 = .ok (.getfield 73, 3) := by decide +kernel
theorem dX12_number_4 : decode cX12_number 4 = .ok (.iconst 2, 1) := by decide +kernel
theorem dX12_number_5 : decode cX12_number 5 = .ok (.if_icmp .eq 11, 3) := by decide +kernel
theorem dX12_number_8 : decode cX12_number 8 = .ok (.aload_n 0, 1) := by decide +kernel
theorem dX12_number_9 : decode cX12_number 9 = .ok (.iconst 2, 1) := by decide +kernel
theorem dX12_number_10 : decode cX12_number 10 = .ok (.invokevirtual 115, 3) := by decide +kernel
theorem dX12_number_13 : decode cX12_number 13 = .ok (.goto 23, 3) := by decide +kernel
theorem dX12_number_16 : decode cX12_number 16 = .ok (.aload_n 0, 1) := by decide +kernel
theorem dX12_number_17 : decode cX12_number 17 = .ok (.getfield 87, 3) := by decide +kernel
theorem dX12_number_20 : decode cX12_number 20 = .ok (.i2l, 1) := by decide +kernel
theorem dX12_number_21 : decode cX12_number 21 = .ok (.iload_n 1, 1) := by decide +kernel
theorem dX12_number_22 : decode cX12_number 22 = .ok (.i2l, 1) := by decide +kernel
theorem dX12_number_23 : decode cX12_number 23 = .ok (.iload_n 2, 1) := by decide +kernel
theorem dX12_number_24 : decode cX12_number 24 = .ok (.i2l, 1) := by decide +kernel
theorem dX12_number_25 : decode cX12_number 25 = .ok (.invokestatic 119, 3) := by decide +kernel
theorem dX12_number_28 : decode cX12_number 28 = .ok (.ifCond .ne 8, 3) := by decide +kernel
theorem dX12_number_31 : decode cX12_number 31 = .ok (.aload_n 0, 1) := by decide +kernel
theorem dX12_number_32 : decode cX12_number 32 = .ok (.iconst 3, 1) := by decide +kernel
theorem dX12_number_33 : decode cX12_number 33 = .ok (.invokevirtual 115, 3) := by decide +kernel
theorem dX12_number_36 : decode cX12_number 36 = .ok (.aload_n 0, 1) := by decide +kernel
theorem dX12_number_37 : decode cX12_number 37 = .ok (.getfield 87, 3) := by decide +kernel
theorem dX12_number_40 : decode cX12_number 40 = .ok (.istore_n 3, 1) := by decide +kernel
theorem dX12_number_41 : decode cX12_number 41 = .ok (.aload_n 0, 1) := by decide +kernel
theorem dX12_number_42 : decode cX12_number 42 = .ok (.getfield 93, 3) := by decide +kernel
theorem dX12_number_45 : decode cX12_number 45 = .ok (.ifCond .ne 7, 3) := by decide +kernel
theorem dX12_number_48 : decode cX12_number 48 = .ok (.aload_n 0, 1) := by decide +kernel
theorem dX12_number_49 : decode cX12_number 49 = .ok (.invokevirtual 112, 3) := by decide +kernel
theorem dX12_number_52 : decode cX12_number 52 = .ok (.aload_n 0, 1) := by decide +kernel
theorem dX12_number_53 : decode cX12_number 53 = .ok (.getfield 93, 3) := by decide +kernel
theorem dX12_number_56 : decode cX12_number 56 = .ok (.ifCond .ne 7, 3) := by decide +kernel
theorem dX12_number_59 : decode cX12_number 59 = .ok (.iload_n 3, 1) := by decide +kernel
theorem dX12_number_60 : decode cX12_number 60 = .ok (.goto 4, 3) := by decide +kernel
theorem dX12_number_63 : decode cX12_number 63 = .ok (.iload_n 1, 1) := by decide +kernel
theorem dX12_number_64 : decode cX12_number 64 = .ok (.ireturn, 1) := by decide +kernel
theorem dX12_mustWord_0 : decode cX12_mustWord 0 = .ok (.aload_n 0, 1) := by decide +kernel
theorem dX12_mustWord_1 : decode cX12_mustWord 1 = .ok (.aload_n 1, 1) := by decide +kernel
theorem dX12_mustWord_2 : decode cX12_mustWord 2 = .ok (.invokevirtual 123, 3) := by decide +kernel
theorem dX12_mustWord_5 : decode cX12_mustWord 5 = .ok (.ifCond .ne 8, 3) := by decide +kernel
theorem dX12_mustWord_8 : decode cX12_mustWord 8 = .ok (.aload_n 0, 1) := by decide +kernel
theorem dX12_mustWord_9 : decode cX12_mustWord 9 = .ok (.iconst 2, 1) := by decide +kernel
theorem dX12_mustWord_10 : decode cX12_mustWord 10 = .ok (.invokevirtual 115, 3) := by decide +kernel
theorem dX12_mustWord_13 : decode cX12_mustWord 13 = .ok (.return_, 1) := by decide +kernel
theorem dX12_laysStep_0 : decode cX12_laysStep 0 = .ok (.aload_n 0, 1) := by decide +kernel
theorem dX12_laysStep_1 : decode cX12_laysStep 1 = .ok (.getfield 93, 3) := by decide +kernel
theorem dX12_laysStep_4 : decode cX12_laysStep 4 = .ok (.ifCond .eq 4, 3) := by decide +kernel
theorem dX12_laysStep_7 : decode cX12_laysStep 7 = .ok (.return_, 1) := by decide +kernel
theorem dX12_laysStep_8 : decode cX12_laysStep 8 = .ok (.aload_n 0, 1) := by decide +kernel
theorem dX12_laysStep_9 : decode cX12_laysStep 9 = .ok (.getfield 13, 3) := by decide +kernel
theorem dX12_laysStep_12 : decode cX12_laysStep 12 = .ok (.sipush 299, 3) := by decide +kernel
theorem dX12_laysStep_15 : decode cX12_laysStep 15 = .ok (.aload_n 0, 1) := by decide +kernel
theorem dX12_laysStep_16 : decode cX12_laysStep 16 = .ok (.getfield 13, 3) := by decide +kernel
theorem dX12_laysStep_19 : decode cX12_laysStep 19 = .ok (.iconst 3, 1) := by decide +kernel
theorem dX12_laysStep_20 : decode cX12_laysStep 20 = .ok (.iaload, 1) := by decide +kernel
theorem dX12_laysStep_21 : decode cX12_laysStep 21 = .ok (.iadd, 1) := by decide +kernel
theorem dX12_laysStep_22 : decode cX12_laysStep 22 = .ok (.iload_n 1, 1) := by decide +kernel
theorem dX12_laysStep_23 : decode cX12_laysStep 23 = .ok (.iastore, 1) := by decide +kernel
theorem dX12_laysStep_24 : decode cX12_laysStep 24 = .ok (.aload_n 0, 1) := by decide +kernel
theorem dX12_laysStep_25 : decode cX12_laysStep 25 = .ok (.getfield 13, 3) := by decide +kernel
theorem dX12_laysStep_28 : decode cX12_laysStep 28 = .ok (.iconst 3, 1) := by decide +kernel
theorem dX12_laysStep_29 : decode cX12_laysStep 29 = .ok (.dup2, 1) := by decide +kernel
theorem dX12_laysStep_30 : decode cX12_laysStep 30 = .ok (.iaload, 1) := by decide +kernel
theorem dX12_laysStep_31 : decode cX12_laysStep 31 = .ok (.iconst 1, 1) := by decide +kernel
theorem dX12_laysStep_32 : decode cX12_laysStep 32 = .ok (.iadd, 1) := by decide +kernel
theorem dX12_laysStep_33 : decode cX12_laysStep 33 = .ok (.iastore, 1) := by decide +kernel
theorem dX12_laysStep_34 : decode cX12_laysStep 34 = .ok (.return_, 1) := by decide +kernel
theorem dX12_goesIn_0 : decode cX12_goesIn 0 = .ok (.aload_n 0, 1) := by decide +kernel
theorem dX12_goesIn_1 : decode cX12_goesIn 1 = .ok (.getfield 126, 3) := by decide +kernel
theorem dX12_goesIn_4 : decode cX12_goesIn 4 = .ok (.bipush 6, 2) := by decide +kernel
theorem dX12_goesIn_6 : decode cX12_goesIn 6 = .ok (.if_icmp .ne 8, 3) := by decide +kernel
theorem dX12_goesIn_9 : decode cX12_goesIn 9 = .ok (.aload_n 0, 1) := by decide +kernel
theorem dX12_goesIn_10 : decode cX12_goesIn 10 = .ok (.iconst 4, 1) := by decide +kernel
theorem dX12_goesIn_11 : decode cX12_goesIn 11 = .ok (.invokevirtual 115, 3) := by decide +kernel
theorem dX12_goesIn_14 : decode cX12_goesIn 14 = .ok (.aload_n 0, 1) := by decide +kernel
theorem dX12_goesIn_15 : decode cX12_goesIn 15 = .ok (.dup, 1) := by decide +kernel
theorem dX12_goesIn_16 : decode cX12_goesIn 16 = .ok (.getfield 126, 3) := by decide +kernel
theorem dX12_goesIn_19 : decode cX12_goesIn 19 = .ok (.iconst 1, 1) := by decide +kernel
theorem dX12_goesIn_20 : decode cX12_goesIn 20 = .ok (.iadd, 1) := by decide +kernel
theorem dX12_goesIn_21 : decode cX12_goesIn 21 = .ok (.putfield 126, 3) := by decide +kernel
theorem dX12_goesIn_24 : decode cX12_goesIn 24 = .ok (.aload_n 0, 1) := by decide +kernel
theorem dX12_goesIn_25 : decode cX12_goesIn 25 = .ok (.getfield 93, 3) := by decide +kernel
theorem dX12_goesIn_28 : decode cX12_goesIn 28 = .ok (.ifCond .ne 7, 3) := by decide +kernel
theorem dX12_goesIn_31 : decode cX12_goesIn 31 = .ok (.aload_n 0, 1) := by decide +kernel
theorem dX12_goesIn_32 : decode cX12_goesIn 32 = .ok (.invokevirtual 112, 3) := by decide +kernel
theorem dX12_goesIn_35 : decode cX12_goesIn 35 = .ok (.return_, 1) := by decide +kernel
theorem dX12_readTruth_0 : decode cX12_readTruth 0 = .ok (.aload_n 0, 1) := by decide +kernel
theorem dX12_readTruth_1 : decode cX12_readTruth 1 = .ok (.invokevirtual 129, 3) := by decide +kernel
theorem dX12_readTruth_4 : decode cX12_readTruth 4 = .ok (.aload_n 0, 1) := by decide +kernel
theorem dX12_readTruth_5 : decode cX12_readTruth 5 = .ok (.ldc 132, 2) := by decide +kernel
theorem dX12_readTruth_7 : decode cX12_readTruth 7 = .ok (.invokevirtual 123, 3) := by decide +kernel
theorem dX12_readTruth_10 : decode cX12_readTruth 10 = .ok (.ifCond .eq 16, 3) := by decide +kernel
theorem dX12_readTruth_13 : decode cX12_readTruth 13 = .ok (.aload_n 0, 1) := by decide +kernel
theorem dX12_readTruth_14 : decode cX12_readTruth 14 = .ok (.invokevirtual 129, 3) := by decide +kernel
theorem dX12_readTruth_17 : decode cX12_readTruth 17 = .ok (.aload_n 0, 1) := by decide +kernel
theorem dX12_readTruth_18 : decode cX12_readTruth 18 = .ok (.bipush 17, 2) := by decide +kernel
theorem dX12_readTruth_20 : decode cX12_readTruth 20 = .ok (.invokevirtual 134, 3) := by decide +kernel
theorem dX12_readTruth_23 : decode cX12_readTruth 23 = .ok (.goto (-19), 3) := by decide +kernel
theorem dX12_readTruth_26 : decode cX12_readTruth 26 = .ok (.return_, 1) := by decide +kernel
theorem dX12_readBoth_0 : decode cX12_readBoth 0 = .ok (.aload_n 0, 1) := by decide +kernel
theorem dX12_readBoth_1 : decode cX12_readBoth 1 = .ok (.invokevirtual 137, 3) := by decide +kernel
theorem dX12_readBoth_4 : decode cX12_readBoth 4 = .ok (.aload_n 0, 1) := by decide +kernel
theorem dX12_readBoth_5 : decode cX12_readBoth 5 = .ok (.ldc 140, 2) := by decide +kernel
theorem dX12_readBoth_7 : decode cX12_readBoth 7 = .ok (.invokevirtual 123, 3) := by decide +kernel
theorem dX12_readBoth_10 : decode cX12_readBoth 10 = .ok (.ifCond .eq 16, 3) := by decide +kernel
theorem dX12_readBoth_13 : decode cX12_readBoth 13 = .ok (.aload_n 0, 1) := by decide +kernel
theorem dX12_readBoth_14 : decode cX12_readBoth 14 = .ok (.invokevirtual 137, 3) := by decide +kernel
theorem dX12_readBoth_17 : decode cX12_readBoth 17 = .ok (.aload_n 0, 1) := by decide +kernel
theorem dX12_readBoth_18 : decode cX12_readBoth 18 = .ok (.bipush 16, 2) := by decide +kernel
theorem dX12_readBoth_20 : decode cX12_readBoth 20 = .ok (.invokevirtual 134, 3) := by decide +kernel
theorem dX12_readBoth_23 : decode cX12_readBoth 23 = .ok (.goto (-19), 3) := by decide +kernel
theorem dX12_readBoth_26 : decode cX12_readBoth 26 = .ok (.return_, 1) := by decide +kernel
theorem dX12_readUnit_0 : decode cX12_readUnit 0 = .ok (.aload_n 0, 1) := by decide +kernel
theorem dX12_readUnit_1 : decode cX12_readUnit 1 = .ok (.getfield 93, 3) := by decide +kernel
theorem dX12_readUnit_4 : decode cX12_readUnit 4 = .ok (.ifCond .eq 4, 3) := by decide +kernel
theorem dX12_readUnit_7 : decode cX12_readUnit 7 = .ok (.return_, 1) := by decide +kernel
theorem dX12_readUnit_8 : decode cX12_readUnit 8 = .ok (.aload_n 0, 1) := by decide +kernel
theorem dX12_readUnit_9 : decode cX12_readUnit 9 = .ok (.ldc 142, 2) := by decide +kernel
theorem dX12_readUnit_11 : decode cX12_readUnit 11 = .ok (.invokevirtual 108, 3) := by decide +kernel
theorem dX12_readUnit_14 : decode cX12_readUnit 14 = .ok (.ifCond .eq 30, 3) := by decide +kernel
theorem dX12_readUnit_17 : decode cX12_readUnit 17 = .ok (.aload_n 0, 1) := by decide +kernel
theorem dX12_readUnit_18 : decode cX12_readUnit 18 = .ok (.invokevirtual 144, 3) := by decide +kernel
theorem dX12_readUnit_21 : decode cX12_readUnit 21 = .ok (.aload_n 0, 1) := by decide +kernel
theorem dX12_readUnit_22 : decode cX12_readUnit 22 = .ok (.invokevirtual 137, 3) := by decide +kernel
theorem dX12_readUnit_25 : decode cX12_readUnit 25 = .ok (.aload_n 0, 1) := by decide +kernel
theorem dX12_readUnit_26 : decode cX12_readUnit 26 = .ok (.bipush 18, 2) := by decide +kernel
theorem dX12_readUnit_28 : decode cX12_readUnit 28 = .ok (.invokevirtual 134, 3) := by decide +kernel
theorem dX12_readUnit_31 : decode cX12_readUnit 31 = .ok (.aload_n 0, 1) := by decide +kernel
theorem dX12_readUnit_32 : decode cX12_readUnit 32 = .ok (.dup, 1) := by decide +kernel
theorem dX12_readUnit_33 : decode cX12_readUnit 33 = .ok (.getfield 126, 3) := by decide +kernel
theorem dX12_readUnit_36 : decode cX12_readUnit 36 = .ok (.iconst 1, 1) := by decide +kernel
theorem dX12_readUnit_37 : decode cX12_readUnit 37 = .ok (.isub, 1) := by decide +kernel
theorem dX12_readUnit_38 : decode cX12_readUnit 38 = .ok (.putfield 126, 3) := by decide +kernel
theorem dX12_readUnit_41 : decode cX12_readUnit 41 = .ok (.goto 114, 3) := by decide +kernel
theorem dX12_readUnit_44 : decode cX12_readUnit 44 = .ok (.aload_n 0, 1) := by decide +kernel
theorem dX12_readUnit_45 : decode cX12_readUnit 45 = .ok (.bipush 91, 2) := by decide +kernel
theorem dX12_readUnit_47 : decode cX12_readUnit 47 = .ok (.invokevirtual 147, 3) := by decide +kernel
theorem dX12_readUnit_50 : decode cX12_readUnit 50 = .ok (.ifCond .eq 30, 3) := by decide +kernel
theorem dX12_readUnit_53 : decode cX12_readUnit 53 = .ok (.aload_n 0, 1) := by decide +kernel
theorem dX12_readUnit_54 : decode cX12_readUnit 54 = .ok (.invokevirtual 144, 3) := by decide +kernel
theorem dX12_readUnit_57 : decode cX12_readUnit 57 = .ok (.aload_n 0, 1) := by decide +kernel
theorem dX12_readUnit_58 : decode cX12_readUnit 58 = .ok (.invokevirtual 150, 3) := by decide +kernel
theorem dX12_readUnit_61 : decode cX12_readUnit 61 = .ok (.aload_n 0, 1) := by decide +kernel
theorem dX12_readUnit_62 : decode cX12_readUnit 62 = .ok (.bipush 93, 2) := by decide +kernel
theorem dX12_readUnit_64 : decode cX12_readUnit 64 = .ok (.invokevirtual 153, 3) := by decide +kernel
theorem dX12_readUnit_67 : decode cX12_readUnit 67 = .ok (.aload_n 0, 1) := by decide +kernel
theorem dX12_readUnit_68 : decode cX12_readUnit 68 = .ok (.dup, 1) := by decide +kernel
theorem dX12_readUnit_69 : decode cX12_readUnit 69 = .ok (.getfield 126, 3) := by decide +kernel
theorem dX12_readUnit_72 : decode cX12_readUnit 72 = .ok (.iconst 1, 1) := by decide +kernel
theorem dX12_readUnit_73 : decode cX12_readUnit 73 = .ok (.isub, 1) := by decide +kernel
theorem dX12_readUnit_74 : decode cX12_readUnit 74 = .ok (.putfield 126, 3) := by decide +kernel
theorem dX12_readUnit_77 : decode cX12_readUnit 77 = .ok (.goto 78, 3) := by decide +kernel
theorem dX12_readUnit_80 : decode cX12_readUnit 80 = .ok (.aload_n 0, 1) := by decide +kernel
theorem dX12_readUnit_81 : decode cX12_readUnit 81 = .ok (.invokevirtual 156, 3) := by decide +kernel
theorem dX12_readUnit_84 : decode cX12_readUnit 84 = .ok (.aload_n 0, 1) := by decide +kernel
theorem dX12_readUnit_85 : decode cX12_readUnit 85 = .ok (.getfield 73, 3) := by decide +kernel
theorem dX12_readUnit_88 : decode cX12_readUnit 88 = .ok (.istore_n 1, 1) := by decide +kernel
theorem dX12_readUnit_89 : decode cX12_readUnit 89 = .ok (.iload_n 1, 1) := by decide +kernel
theorem dX12_readUnit_90 : decode cX12_readUnit 90 = .ok (.bipush 61, 2) := by decide +kernel
theorem dX12_readUnit_92 : decode cX12_readUnit 92 = .ok (.if_icmp .eq 20, 3) := by decide +kernel
theorem dX12_readUnit_95 : decode cX12_readUnit 95 = .ok (.iload_n 1, 1) := by decide +kernel
theorem dX12_readUnit_96 : decode cX12_readUnit 96 = .ok (.bipush 60, 2) := by decide +kernel
theorem dX12_readUnit_98 : decode cX12_readUnit 98 = .ok (.if_icmp .eq 14, 3) := by decide +kernel
theorem dX12_readUnit_101 : decode cX12_readUnit 101 = .ok (.iload_n 1, 1) := by decide +kernel
theorem dX12_readUnit_102 : decode cX12_readUnit 102 = .ok (.bipush 62, 2) := by decide +kernel
theorem dX12_readUnit_104 : decode cX12_readUnit 104 = .ok (.if_icmp .eq 8, 3) := by decide +kernel
theorem dX12_readUnit_107 : decode cX12_readUnit 107 = .ok (.aload_n 0, 1) := by decide +kernel
theorem dX12_readUnit_108 : decode cX12_readUnit 108 = .ok (.iconst 2, 1) := by decide +kernel
theorem dX12_readUnit_109 : decode cX12_readUnit 109 = .ok (.invokevirtual 115, 3) := by decide +kernel
theorem dX12_readUnit_112 : decode cX12_readUnit 112 = .ok (.aload_n 0, 1) := by decide +kernel
theorem dX12_readUnit_113 : decode cX12_readUnit 113 = .ok (.getfield 93, 3) := by decide +kernel
theorem dX12_readUnit_116 : decode cX12_readUnit 116 = .ok (.ifCond .ne 7, 3) := by decide +kernel
theorem dX12_readUnit_119 : decode cX12_readUnit 119 = .ok (.aload_n 0, 1) := by decide +kernel
theorem dX12_readUnit_120 : decode cX12_readUnit 120 = .ok (.invokevirtual 112, 3) := by decide +kernel
theorem dX12_readUnit_123 : decode cX12_readUnit 123 = .ok (.aload_n 0, 1) := by decide +kernel
theorem dX12_readUnit_124 : decode cX12_readUnit 124 = .ok (.invokevirtual 156, 3) := by decide +kernel
theorem dX12_readUnit_127 : decode cX12_readUnit 127 = .ok (.aload_n 0, 1) := by decide +kernel
theorem dX12_readUnit_128 : decode cX12_readUnit 128 = .ok (.iload_n 1, 1) := by decide +kernel
theorem dX12_readUnit_129 : decode cX12_readUnit 129 = .ok (.bipush 61, 2) := by decide +kernel
theorem dX12_readUnit_131 : decode cX12_readUnit 131 = .ok (.if_icmp .ne 8, 3) := by decide +kernel
theorem dX12_readUnit_134 : decode cX12_readUnit 134 = .ok (.bipush 13, 2) := by decide +kernel
theorem dX12_readUnit_136 : decode cX12_readUnit 136 = .ok (.goto 16, 3) := by decide +kernel
theorem dX12_readUnit_139 : decode cX12_readUnit 139 = .ok (.iload_n 1, 1) := by decide +kernel
theorem dX12_readUnit_140 : decode cX12_readUnit 140 = .ok (.bipush 60, 2) := by decide +kernel
theorem dX12_readUnit_142 : decode cX12_readUnit 142 = .ok (.if_icmp .ne 8, 3) := by decide +kernel
theorem dX12_readUnit_145 : decode cX12_readUnit 145 = .ok (.bipush 14, 2) := by decide +kernel
theorem dX12_readUnit_147 : decode cX12_readUnit 147 = .ok (.goto 5, 3) := by decide +kernel
theorem dX12_readUnit_150 : decode cX12_readUnit 150 = .ok (.bipush 15, 2) := by decide +kernel
theorem dX12_readUnit_152 : decode cX12_readUnit 152 = .ok (.invokevirtual 134, 3) := by decide +kernel
theorem dX12_readUnit_155 : decode cX12_readUnit 155 = .ok (.return_, 1) := by decide +kernel
theorem dX12_readSum_0 : decode cX12_readSum 0 = .ok (.aload_n 0, 1) := by decide +kernel
theorem dX12_readSum_1 : decode cX12_readSum 1 = .ok (.invokevirtual 159, 3) := by decide +kernel
theorem dX12_readSum_4 : decode cX12_readSum 4 = .ok (.aload_n 0, 1) := by decide +kernel
theorem dX12_readSum_5 : decode cX12_readSum 5 = .ok (.bipush 43, 2) := by decide +kernel
theorem dX12_readSum_7 : decode cX12_readSum 7 = .ok (.invokevirtual 147, 3) := by decide +kernel
theorem dX12_readSum_10 : decode cX12_readSum 10 = .ok (.ifCond .ne 12, 3) := by decide +kernel
theorem dX12_readSum_13 : decode cX12_readSum 13 = .ok (.aload_n 0, 1) := by decide +kernel
theorem dX12_readSum_14 : decode cX12_readSum 14 = .ok (.bipush 45, 2) := by decide +kernel
theorem dX12_readSum_16 : decode cX12_readSum 16 = .ok (.invokevirtual 147, 3) := by decide +kernel
theorem dX12_readSum_19 : decode cX12_readSum 19 = .ok (.ifCond .eq 36, 3) := by decide +kernel
theorem dX12_readSum_22 : decode cX12_readSum 22 = .ok (.aload_n 0, 1) := by decide +kernel
theorem dX12_readSum_23 : decode cX12_readSum 23 = .ok (.getfield 73, 3) := by decide +kernel
theorem dX12_readSum_26 : decode cX12_readSum 26 = .ok (.istore_n 1, 1) := by decide +kernel
theorem dX12_readSum_27 : decode cX12_readSum 27 = .ok (.aload_n 0, 1) := by decide +kernel
theorem dX12_readSum_28 : decode cX12_readSum 28 = .ok (.invokevirtual 112, 3) := by decide +kernel
theorem dX12_readSum_31 : decode cX12_readSum 31 = .ok (.aload_n 0, 1) := by decide +kernel
theorem dX12_readSum_32 : decode cX12_readSum 32 = .ok (.invokevirtual 159, 3) := by decide +kernel
theorem dX12_readSum_35 : decode cX12_readSum 35 = .ok (.aload_n 0, 1) := by decide +kernel
theorem dX12_readSum_36 : decode cX12_readSum 36 = .ok (.iload_n 1, 1) := by decide +kernel
theorem dX12_readSum_37 : decode cX12_readSum 37 = .ok (.bipush 43, 2) := by decide +kernel
theorem dX12_readSum_39 : decode cX12_readSum 39 = .ok (.if_icmp .ne 8, 3) := by decide +kernel
theorem dX12_readSum_42 : decode cX12_readSum 42 = .ok (.bipush 10, 2) := by decide +kernel
theorem dX12_readSum_44 : decode cX12_readSum 44 = .ok (.goto 5, 3) := by decide +kernel
theorem dX12_readSum_47 : decode cX12_readSum 47 = .ok (.bipush 11, 2) := by decide +kernel
theorem dX12_readSum_49 : decode cX12_readSum 49 = .ok (.invokevirtual 134, 3) := by decide +kernel
theorem dX12_readSum_52 : decode cX12_readSum 52 = .ok (.goto (-48), 3) := by decide +kernel
theorem dX12_readSum_55 : decode cX12_readSum 55 = .ok (.return_, 1) := by decide +kernel
theorem dX12_readTerm_0 : decode cX12_readTerm 0 = .ok (.aload_n 0, 1) := by decide +kernel
theorem dX12_readTerm_1 : decode cX12_readTerm 1 = .ok (.invokevirtual 162, 3) := by decide +kernel
theorem dX12_readTerm_4 : decode cX12_readTerm 4 = .ok (.aload_n 0, 1) := by decide +kernel
theorem dX12_readTerm_5 : decode cX12_readTerm 5 = .ok (.bipush 42, 2) := by decide +kernel
theorem dX12_readTerm_7 : decode cX12_readTerm 7 = .ok (.invokevirtual 147, 3) := by decide +kernel
theorem dX12_readTerm_10 : decode cX12_readTerm 10 = .ok (.ifCond .eq 20, 3) := by decide +kernel
theorem dX12_readTerm_13 : decode cX12_readTerm 13 = .ok (.aload_n 0, 1) := by decide +kernel
theorem dX12_readTerm_14 : decode cX12_readTerm 14 = .ok (.invokevirtual 112, 3) := by decide +kernel
theorem dX12_readTerm_17 : decode cX12_readTerm 17 = .ok (.aload_n 0, 1) := by decide +kernel
theorem dX12_readTerm_18 : decode cX12_readTerm 18 = .ok (.invokevirtual 162, 3) := by decide +kernel
theorem dX12_readTerm_21 : decode cX12_readTerm 21 = .ok (.aload_n 0, 1) := by decide +kernel
theorem dX12_readTerm_22 : decode cX12_readTerm 22 = .ok (.bipush 12, 2) := by decide +kernel
theorem dX12_readTerm_24 : decode cX12_readTerm 24 = .ok (.invokevirtual 134, 3) := by decide +kernel
theorem dX12_readTerm_27 : decode cX12_readTerm 27 = .ok (.goto (-23), 3) := by decide +kernel
theorem dX12_readTerm_30 : decode cX12_readTerm 30 = .ok (.return_, 1) := by decide +kernel
theorem dX12_lawWord_0 : decode cX12_lawWord 0 = .ok (.aload_n 0, 1) := by decide +kernel
theorem dX12_lawWord_1 : decode cX12_lawWord 1 = .ok (.ldc 165, 2) := by decide +kernel
theorem dX12_lawWord_3 : decode cX12_lawWord 3 = .ok (.invokevirtual 123, 3) := by decide +kernel
theorem dX12_lawWord_6 : decode cX12_lawWord 6 = .ok (.ifCond .eq 5, 3) := by decide +kernel
theorem dX12_lawWord_9 : decode cX12_lawWord 9 = .ok (.iconst 0, 1) := by decide +kernel
theorem dX12_lawWord_10 : decode cX12_lawWord 10 = .ok (.ireturn, 1) := by decide +kernel
theorem dX12_lawWord_11 : decode cX12_lawWord 11 = .ok (.aload_n 0, 1) := by decide +kernel
theorem dX12_lawWord_12 : decode cX12_lawWord 12 = .ok (.ldc 167, 2) := by decide +kernel
theorem dX12_lawWord_14 : decode cX12_lawWord 14 = .ok (.invokevirtual 123, 3) := by decide +kernel
theorem dX12_lawWord_17 : decode cX12_lawWord 17 = .ok (.ifCond .eq 5, 3) := by decide +kernel
theorem dX12_lawWord_20 : decode cX12_lawWord 20 = .ok (.iconst 1, 1) := by decide +kernel
theorem dX12_lawWord_21 : decode cX12_lawWord 21 = .ok (.ireturn, 1) := by decide +kernel
theorem dX12_lawWord_22 : decode cX12_lawWord 22 = .ok (.aload_n 0, 1) := by decide +kernel
theorem dX12_lawWord_23 : decode cX12_lawWord 23 = .ok (.ldc 169, 2) := by decide +kernel
theorem dX12_lawWord_25 : decode cX12_lawWord 25 = .ok (.invokevirtual 123, 3) := by decide +kernel
theorem dX12_lawWord_28 : decode cX12_lawWord 28 = .ok (.ifCond .eq 5, 3) := by decide +kernel
theorem dX12_lawWord_31 : decode cX12_lawWord 31 = .ok (.iconst 2, 1) := by decide +kernel
theorem dX12_lawWord_32 : decode cX12_lawWord 32 = .ok (.ireturn, 1) := by decide +kernel
theorem dX12_lawWord_33 : decode cX12_lawWord 33 = .ok (.aload_n 0, 1) := by decide +kernel
theorem dX12_lawWord_34 : decode cX12_lawWord 34 = .ok (.ldc 171, 2) := by decide +kernel
theorem dX12_lawWord_36 : decode cX12_lawWord 36 = .ok (.invokevirtual 123, 3) := by decide +kernel
theorem dX12_lawWord_39 : decode cX12_lawWord 39 = .ok (.ifCond .eq 5, 3) := by decide +kernel
theorem dX12_lawWord_42 : decode cX12_lawWord 42 = .ok (.iconst 3, 1) := by decide +kernel
theorem dX12_lawWord_43 : decode cX12_lawWord 43 = .ok (.ireturn, 1) := by decide +kernel
theorem dX12_lawWord_44 : decode cX12_lawWord 44 = .ok (.aload_n 0, 1) := by decide +kernel
theorem dX12_lawWord_45 : decode cX12_lawWord 45 = .ok (.ldc 173, 2) := by decide +kernel
theorem dX12_lawWord_47 : decode cX12_lawWord 47 = .ok (.invokevirtual 123, 3) := by decide +kernel
theorem dX12_lawWord_50 : decode cX12_lawWord 50 = .ok (.ifCond .eq 5, 3) := by decide +kernel
theorem dX12_lawWord_53 : decode cX12_lawWord 53 = .ok (.iconst 4, 1) := by decide +kernel
theorem dX12_lawWord_54 : decode cX12_lawWord 54 = .ok (.ireturn, 1) := by decide +kernel
theorem dX12_lawWord_55 : decode cX12_lawWord 55 = .ok (.aload_n 0, 1) := by decide +kernel
theorem dX12_lawWord_56 : decode cX12_lawWord 56 = .ok (.ldc 175, 2) := by decide +kernel
theorem dX12_lawWord_58 : decode cX12_lawWord 58 = .ok (.invokevirtual 123, 3) := by decide +kernel
theorem dX12_lawWord_61 : decode cX12_lawWord 61 = .ok (.ifCond .eq 5, 3) := by decide +kernel
theorem dX12_lawWord_64 : decode cX12_lawWord 64 = .ok (.iconst 5, 1) := by decide +kernel
theorem dX12_lawWord_65 : decode cX12_lawWord 65 = .ok (.ireturn, 1) := by decide +kernel
theorem dX12_lawWord_66 : decode cX12_lawWord 66 = .ok (.aload_n 0, 1) := by decide +kernel
theorem dX12_lawWord_67 : decode cX12_lawWord 67 = .ok (.ldc 177, 2) := by decide +kernel
theorem dX12_lawWord_69 : decode cX12_lawWord 69 = .ok (.invokevirtual 123, 3) := by decide +kernel
theorem dX12_lawWord_72 : decode cX12_lawWord 72 = .ok (.ifCond .eq 6, 3) := by decide +kernel
theorem dX12_lawWord_75 : decode cX12_lawWord 75 = .ok (.bipush 6, 2) := by decide +kernel
theorem dX12_lawWord_77 : decode cX12_lawWord 77 = .ok (.ireturn, 1) := by decide +kernel
theorem dX12_lawWord_78 : decode cX12_lawWord 78 = .ok (.aload_n 0, 1) := by decide +kernel
theorem dX12_lawWord_79 : decode cX12_lawWord 79 = .ok (.ldc 179, 2) := by decide +kernel
theorem dX12_lawWord_81 : decode cX12_lawWord 81 = .ok (.invokevirtual 123, 3) := by decide +kernel
theorem dX12_lawWord_84 : decode cX12_lawWord 84 = .ok (.ifCond .eq 8, 3) := by decide +kernel
theorem dX12_lawWord_87 : decode cX12_lawWord 87 = .ok (.bipush 7, 2) := by decide +kernel
theorem dX12_lawWord_89 : decode cX12_lawWord 89 = .ok (.goto 4, 3) := by decide +kernel
theorem dX12_lawWord_92 : decode cX12_lawWord 92 = .ok (.iconst (-1), 1) := by decide +kernel
theorem dX12_lawWord_93 : decode cX12_lawWord 93 = .ok (.ireturn, 1) := by decide +kernel
theorem dX12_readAtom_0 : decode cX12_readAtom 0 = .ok (.aload_n 0, 1) := by decide +kernel
theorem dX12_readAtom_1 : decode cX12_readAtom 1 = .ok (.getfield 93, 3) := by decide +kernel
theorem dX12_readAtom_4 : decode cX12_readAtom 4 = .ok (.ifCond .eq 4, 3) := by decide +kernel
theorem dX12_readAtom_7 : decode cX12_readAtom 7 = .ok (.return_, 1) := by decide +kernel
theorem dX12_readAtom_8 : decode cX12_readAtom 8 = .ok (.aload_n 0, 1) := by decide +kernel
theorem dX12_readAtom_9 : decode cX12_readAtom 9 = .ok (.invokevirtual 181, 3) := by decide +kernel
theorem dX12_readAtom_12 : decode cX12_readAtom 12 = .ok (.istore_n 1, 1) := by decide +kernel
theorem dX12_readAtom_13 : decode cX12_readAtom 13 = .ok (.iload_n 1, 1) := by decide +kernel
theorem dX12_readAtom_14 : decode cX12_readAtom 14 = .ok (.iconst (-1), 1) := by decide +kernel
theorem dX12_readAtom_15 : decode cX12_readAtom 15 = .ok (.if_icmp .eq 14, 3) := by decide +kernel
theorem dX12_readAtom_18 : decode cX12_readAtom 18 = .ok (.aload_n 0, 1) := by decide +kernel
theorem dX12_readAtom_19 : decode cX12_readAtom 19 = .ok (.bipush 100, 2) := by decide +kernel
theorem dX12_readAtom_21 : decode cX12_readAtom 21 = .ok (.iload_n 1, 1) := by decide +kernel
theorem dX12_readAtom_22 : decode cX12_readAtom 22 = .ok (.iadd, 1) := by decide +kernel
theorem dX12_readAtom_23 : decode cX12_readAtom 23 = .ok (.invokevirtual 134, 3) := by decide +kernel
theorem dX12_readAtom_26 : decode cX12_readAtom 26 = .ok (.goto 57, 3) := by decide +kernel
theorem dX12_readAtom_29 : decode cX12_readAtom 29 = .ok (.aload_n 0, 1) := by decide +kernel
theorem dX12_readAtom_30 : decode cX12_readAtom 30 = .ok (.bipush 40, 2) := by decide +kernel
theorem dX12_readAtom_32 : decode cX12_readAtom 32 = .ok (.invokevirtual 147, 3) := by decide +kernel
theorem dX12_readAtom_35 : decode cX12_readAtom 35 = .ok (.ifCond .eq 30, 3) := by decide +kernel
theorem dX12_readAtom_38 : decode cX12_readAtom 38 = .ok (.aload_n 0, 1) := by decide +kernel
theorem dX12_readAtom_39 : decode cX12_readAtom 39 = .ok (.invokevirtual 144, 3) := by decide +kernel
theorem dX12_readAtom_42 : decode cX12_readAtom 42 = .ok (.aload_n 0, 1) := by decide +kernel
theorem dX12_readAtom_43 : decode cX12_readAtom 43 = .ok (.invokevirtual 156, 3) := by decide +kernel
theorem dX12_readAtom_46 : decode cX12_readAtom 46 = .ok (.aload_n 0, 1) := by decide +kernel
theorem dX12_readAtom_47 : decode cX12_readAtom 47 = .ok (.bipush 41, 2) := by decide +kernel
theorem dX12_readAtom_49 : decode cX12_readAtom 49 = .ok (.invokevirtual 153, 3) := by decide +kernel
theorem dX12_readAtom_52 : decode cX12_readAtom 52 = .ok (.aload_n 0, 1) := by decide +kernel
theorem dX12_readAtom_53 : decode cX12_readAtom 53 = .ok (.dup, 1) := by decide +kernel
theorem dX12_readAtom_54 : decode cX12_readAtom 54 = .ok (.getfield 126, 3) := by decide +kernel
theorem dX12_readAtom_57 : decode cX12_readAtom 57 = .ok (.iconst 1, 1) := by decide +kernel
theorem dX12_readAtom_58 : decode cX12_readAtom 58 = .ok (.isub, 1) := by decide +kernel
theorem dX12_readAtom_59 : decode cX12_readAtom 59 = .ok (.putfield 126, 3) := by decide +kernel
theorem dX12_readAtom_62 : decode cX12_readAtom 62 = .ok (.goto 21, 3) := by decide +kernel
theorem dX12_readAtom_65 : decode cX12_readAtom 65 = .ok (.aload_n 0, 1) := by decide +kernel
theorem dX12_readAtom_66 : decode cX12_readAtom 66 = .ok (.iconst 0, 1) := by decide +kernel
theorem dX12_readAtom_67 : decode cX12_readAtom 67 = .ok (.sipush 999, 3) := by decide +kernel
theorem dX12_readAtom_70 : decode cX12_readAtom 70 = .ok (.invokevirtual 184, 3) := by decide +kernel
theorem dX12_readAtom_73 : decode cX12_readAtom 73 = .ok (.istore_n 2, 1) := by decide +kernel
theorem dX12_readAtom_74 : decode cX12_readAtom 74 = .ok (.aload_n 0, 1) := by decide +kernel
theorem dX12_readAtom_75 : decode cX12_readAtom 75 = .ok (.sipush 1000, 3) := by decide +kernel
theorem dX12_readAtom_78 : decode cX12_readAtom 78 = .ok (.iload_n 2, 1) := by decide +kernel
theorem dX12_readAtom_79 : decode cX12_readAtom 79 = .ok (.iadd, 1) := by decide +kernel
theorem dX12_readAtom_80 : decode cX12_readAtom 80 = .ok (.invokevirtual 134, 3) := by decide +kernel
theorem dX12_readAtom_83 : decode cX12_readAtom 83 = .ok (.return_, 1) := by decide +kernel
theorem dX12_begins_0 : decode cX12_begins 0 = .ok (.aload_n 0, 1) := by decide +kernel
theorem dX12_begins_1 : decode cX12_begins 1 = .ok (.getfield 13, 3) := by decide +kernel
theorem dX12_begins_4 : decode cX12_begins 4 = .ok (.iload_n 1, 1) := by decide +kernel
theorem dX12_begins_5 : decode cX12_begins 5 = .ok (.iaload, 1) := by decide +kernel
theorem dX12_begins_6 : decode cX12_begins 6 = .ok (.iload_n 2, 1) := by decide +kernel
theorem dX12_begins_7 : decode cX12_begins 7 = .ok (.if_icmp .ne 8, 3) := by decide +kernel
theorem dX12_begins_10 : decode cX12_begins 10 = .ok (.aload_n 0, 1) := by decide +kernel
theorem dX12_begins_11 : decode cX12_begins 11 = .ok (.iconst 4, 1) := by decide +kernel
theorem dX12_begins_12 : decode cX12_begins 12 = .ok (.invokevirtual 115, 3) := by decide +kernel
theorem dX12_begins_15 : decode cX12_begins 15 = .ok (.aload_n 0, 1) := by decide +kernel
theorem dX12_begins_16 : decode cX12_begins 16 = .ok (.getfield 93, 3) := by decide +kernel
theorem dX12_begins_19 : decode cX12_begins 19 = .ok (.ifCond .ne 7, 3) := by decide +kernel
theorem dX12_begins_22 : decode cX12_begins 22 = .ok (.aload_n 0, 1) := by decide +kernel
theorem dX12_begins_23 : decode cX12_begins 23 = .ok (.invokevirtual 112, 3) := by decide +kernel
theorem dX12_begins_26 : decode cX12_begins 26 = .ok (.aload_n 0, 1) := by decide +kernel
theorem dX12_begins_27 : decode cX12_begins 27 = .ok (.getfield 93, 3) := by decide +kernel
theorem dX12_begins_30 : decode cX12_begins 30 = .ok (.ifCond .ne 7, 3) := by decide +kernel
theorem dX12_begins_33 : decode cX12_begins 33 = .ok (.iconst 1, 1) := by decide +kernel
theorem dX12_begins_34 : decode cX12_begins 34 = .ok (.goto 4, 3) := by decide +kernel
theorem dX12_begins_37 : decode cX12_begins 37 = .ok (.iconst 0, 1) := by decide +kernel
theorem dX12_begins_38 : decode cX12_begins 38 = .ok (.ireturn, 1) := by decide +kernel
theorem dX12_readWell_0 : decode cX12_readWell 0 = .ok (.aload_n 0, 1) := by decide +kernel
theorem dX12_readWell_1 : decode cX12_readWell 1 = .ok (.iconst 1, 1) := by decide +kernel
theorem dX12_readWell_2 : decode cX12_readWell 2 = .ok (.bipush 10, 2) := by decide +kernel
theorem dX12_readWell_4 : decode cX12_readWell 4 = .ok (.invokevirtual 188, 3) := by decide +kernel
theorem dX12_readWell_7 : decode cX12_readWell 7 = .ok (.ifCond .ne 4, 3) := by decide +kernel
theorem dX12_readWell_10 : decode cX12_readWell 10 = .ok (.return_, 1) := by decide +kernel
theorem dX12_readWell_11 : decode cX12_readWell 11 = .ok (.aload_n 0, 1) := by decide +kernel
theorem dX12_readWell_12 : decode cX12_readWell 12 = .ok (.getfield 13, 3) := by decide +kernel
theorem dX12_readWell_15 : decode cX12_readWell 15 = .ok (.iconst 1, 1) := by decide +kernel
theorem dX12_readWell_16 : decode cX12_readWell 16 = .ok (.iaload, 1) := by decide +kernel
theorem dX12_readWell_17 : decode cX12_readWell 17 = .ok (.istore_n 1, 1) := by decide +kernel
theorem dX12_readWell_18 : decode cX12_readWell 18 = .ok (.aload_n 0, 1) := by decide +kernel
theorem dX12_readWell_19 : decode cX12_readWell 19 = .ok (.ldc 192, 2) := by decide +kernel
theorem dX12_readWell_21 : decode cX12_readWell 21 = .ok (.invokevirtual 194, 3) := by decide +kernel
theorem dX12_readWell_24 : decode cX12_readWell 24 = .ok (.aload_n 0, 1) := by decide +kernel
theorem dX12_readWell_25 : decode cX12_readWell 25 = .ok (.iconst 2, 1) := by decide +kernel
theorem dX12_readWell_26 : decode cX12_readWell 26 = .ok (.bipush 12, 2) := by decide +kernel
theorem dX12_readWell_28 : decode cX12_readWell 28 = .ok (.invokevirtual 184, 3) := by decide +kernel
theorem dX12_readWell_31 : decode cX12_readWell 31 = .ok (.istore_n 2, 1) := by decide +kernel
theorem dX12_readWell_32 : decode cX12_readWell 32 = .ok (.aload_n 0, 1) := by decide +kernel
theorem dX12_readWell_33 : decode cX12_readWell 33 = .ok (.ldc 198, 2) := by decide +kernel
theorem dX12_readWell_35 : decode cX12_readWell 35 = .ok (.invokevirtual 194, 3) := by decide +kernel
theorem dX12_readWell_38 : decode cX12_readWell 38 = .ok (.aload_n 0, 1) := by decide +kernel
theorem dX12_readWell_39 : decode cX12_readWell 39 = .ok (.iconst 1, 1) := by decide +kernel
theorem dX12_readWell_40 : decode cX12_readWell 40 = .ok (.iload_n 2, 1) := by decide +kernel
theorem dX12_readWell_41 : decode cX12_readWell 41 = .ok (.invokevirtual 184, 3) := by decide +kernel
theorem dX12_readWell_44 : decode cX12_readWell 44 = .ok (.istore_n 3, 1) := by decide +kernel
theorem dX12_readWell_45 : decode cX12_readWell 45 = .ok (.aload_n 0, 1) := by decide +kernel
theorem dX12_readWell_46 : decode cX12_readWell 46 = .ok (.ldc 200, 2) := by decide +kernel
theorem dX12_readWell_48 : decode cX12_readWell 48 = .ok (.invokevirtual 123, 3) := by decide +kernel
theorem dX12_readWell_51 : decode cX12_readWell 51 = .ok (.ifCond .eq 14, 3) := by decide +kernel
theorem dX12_readWell_54 : decode cX12_readWell 54 = .ok (.aload_n 0, 1) := by decide +kernel
theorem dX12_readWell_55 : decode cX12_readWell 55 = .ok (.iconst 0, 1) := by decide +kernel
theorem dX12_readWell_56 : decode cX12_readWell 56 = .ok (.iload_n 2, 1) := by decide +kernel
theorem dX12_readWell_57 : decode cX12_readWell 57 = .ok (.iconst 1, 1) := by decide +kernel
theorem dX12_readWell_58 : decode cX12_readWell 58 = .ok (.isub, 1) := by decide +kernel
theorem dX12_readWell_59 : decode cX12_readWell 59 = .ok (.invokevirtual 184, 3) := by decide +kernel
theorem dX12_readWell_62 : decode cX12_readWell 62 = .ok (.goto 4, 3) := by decide +kernel
theorem dX12_readWell_65 : decode cX12_readWell 65 = .ok (.iconst 0, 1) := by decide +kernel
theorem dX12_readWell_66 : decode cX12_readWell 66 = .ok (.istore 4, 2) := by decide +kernel
theorem dX12_readWell_68 : decode cX12_readWell 68 = .ok (.aload_n 0, 1) := by decide +kernel
theorem dX12_readWell_69 : decode cX12_readWell 69 = .ok (.ldc 202, 2) := by decide +kernel
theorem dX12_readWell_71 : decode cX12_readWell 71 = .ok (.invokevirtual 123, 3) := by decide +kernel
theorem dX12_readWell_74 : decode cX12_readWell 74 = .ok (.ifCond .eq 13, 3) := by decide +kernel
theorem dX12_readWell_77 : decode cX12_readWell 77 = .ok (.aload_n 0, 1) := by decide +kernel
theorem dX12_readWell_78 : decode cX12_readWell 78 = .ok (.iconst 1, 1) := by decide +kernel
theorem dX12_readWell_79 : decode cX12_readWell 79 = .ok (.bipush 99, 2) := by decide +kernel
theorem dX12_readWell_81 : decode cX12_readWell 81 = .ok (.invokevirtual 184, 3) := by decide +kernel
theorem dX12_readWell_84 : decode cX12_readWell 84 = .ok (.goto 5, 3) := by decide +kernel
theorem dX12_readWell_87 : decode cX12_readWell 87 = .ok (.bipush 10, 2) := by decide +kernel
theorem dX12_readWell_89 : decode cX12_readWell 89 = .ok (.istore 5, 2) := by decide +kernel
theorem dX12_readWell_91 : decode cX12_readWell 91 = .ok (.aload_n 0, 1) := by decide +kernel
theorem dX12_readWell_92 : decode cX12_readWell 92 = .ok (.ldc 203, 2) := by decide +kernel
theorem dX12_readWell_94 : decode cX12_readWell 94 = .ok (.invokevirtual 123, 3) := by decide +kernel
theorem dX12_readWell_97 : decode cX12_readWell 97 = .ok (.ifCond .eq 13, 3) := by decide +kernel
theorem dX12_readWell_100 : decode cX12_readWell 100 = .ok (.aload_n 0, 1) := by decide +kernel
theorem dX12_readWell_101 : decode cX12_readWell 101 = .ok (.iconst 0, 1) := by decide +kernel
theorem dX12_readWell_102 : decode cX12_readWell 102 = .ok (.iload 5, 2) := by decide +kernel
theorem dX12_readWell_104 : decode cX12_readWell 104 = .ok (.invokevirtual 184, 3) := by decide +kernel
theorem dX12_readWell_107 : decode cX12_readWell 107 = .ok (.goto 5, 3) := by decide +kernel
theorem dX12_readWell_110 : decode cX12_readWell 110 = .ok (.iload 5, 2) := by decide +kernel
theorem dX12_readWell_112 : decode cX12_readWell 112 = .ok (.istore 6, 2) := by decide +kernel
theorem dX12_readWell_114 : decode cX12_readWell 114 = .ok (.aload_n 0, 1) := by decide +kernel
theorem dX12_readWell_115 : decode cX12_readWell 115 = .ok (.getfield 93, 3) := by decide +kernel
theorem dX12_readWell_118 : decode cX12_readWell 118 = .ok (.ifCond .eq 4, 3) := by decide +kernel
theorem dX12_readWell_121 : decode cX12_readWell 121 = .ok (.return_, 1) := by decide +kernel
theorem dX12_readWell_122 : decode cX12_readWell 122 = .ok (.aload_n 0, 1) := by decide +kernel
theorem dX12_readWell_123 : decode cX12_readWell 123 = .ok (.getfield 13, 3) := by decide +kernel
theorem dX12_readWell_126 : decode cX12_readWell 126 = .ok (.bipush 27, 2) := by decide +kernel
theorem dX12_readWell_128 : decode cX12_readWell 128 = .ok (.iload_n 1, 1) := by decide +kernel
theorem dX12_readWell_129 : decode cX12_readWell 129 = .ok (.iadd, 1) := by decide +kernel
theorem dX12_readWell_130 : decode cX12_readWell 130 = .ok (.iload_n 2, 1) := by decide +kernel
theorem dX12_readWell_131 : decode cX12_readWell 131 = .ok (.iastore, 1) := by decide +kernel
theorem dX12_readWell_132 : decode cX12_readWell 132 = .ok (.aload_n 0, 1) := by decide +kernel
theorem dX12_readWell_133 : decode cX12_readWell 133 = .ok (.getfield 13, 3) := by decide +kernel
theorem dX12_readWell_136 : decode cX12_readWell 136 = .ok (.bipush 37, 2) := by decide +kernel
theorem dX12_readWell_138 : decode cX12_readWell 138 = .ok (.iload_n 1, 1) := by decide +kernel
theorem dX12_readWell_139 : decode cX12_readWell 139 = .ok (.iadd, 1) := by decide +kernel
theorem dX12_readWell_140 : decode cX12_readWell 140 = .ok (.iload_n 3, 1) := by decide +kernel
theorem dX12_readWell_141 : decode cX12_readWell 141 = .ok (.iastore, 1) := by decide +kernel
theorem dX12_readWell_142 : decode cX12_readWell 142 = .ok (.aload_n 0, 1) := by decide +kernel
theorem dX12_readWell_143 : decode cX12_readWell 143 = .ok (.getfield 13, 3) := by decide +kernel
theorem dX12_readWell_146 : decode cX12_readWell 146 = .ok (.iconst 5, 1) := by decide +kernel
theorem dX12_readWell_147 : decode cX12_readWell 147 = .ok (.iload_n 1, 1) := by decide +kernel
theorem dX12_readWell_148 : decode cX12_readWell 148 = .ok (.iadd, 1) := by decide +kernel
theorem dX12_readWell_149 : decode cX12_readWell 149 = .ok (.iload 4, 2) := by decide +kernel
theorem dX12_readWell_151 : decode cX12_readWell 151 = .ok (.iastore, 1) := by decide +kernel
theorem dX12_readWell_152 : decode cX12_readWell 152 = .ok (.aload_n 0, 1) := by decide +kernel
theorem dX12_readWell_153 : decode cX12_readWell 153 = .ok (.getfield 13, 3) := by decide +kernel
theorem dX12_readWell_156 : decode cX12_readWell 156 = .ok (.bipush 47, 2) := by decide +kernel
theorem dX12_readWell_158 : decode cX12_readWell 158 = .ok (.iload_n 1, 1) := by decide +kernel
theorem dX12_readWell_159 : decode cX12_readWell 159 = .ok (.iadd, 1) := by decide +kernel
theorem dX12_readWell_160 : decode cX12_readWell 160 = .ok (.iload 5, 2) := by decide +kernel
theorem dX12_readWell_162 : decode cX12_readWell 162 = .ok (.iastore, 1) := by decide +kernel
theorem dX12_readWell_163 : decode cX12_readWell 163 = .ok (.aload_n 0, 1) := by decide +kernel
theorem dX12_readWell_164 : decode cX12_readWell 164 = .ok (.getfield 13, 3) := by decide +kernel
theorem dX12_readWell_167 : decode cX12_readWell 167 = .ok (.bipush 15, 2) := by decide +kernel
theorem dX12_readWell_169 : decode cX12_readWell 169 = .ok (.iload_n 1, 1) := by decide +kernel
theorem dX12_readWell_170 : decode cX12_readWell 170 = .ok (.iadd, 1) := by decide +kernel
theorem dX12_readWell_171 : decode cX12_readWell 171 = .ok (.iload 6, 2) := by decide +kernel
theorem dX12_readWell_173 : decode cX12_readWell 173 = .ok (.iastore, 1) := by decide +kernel
theorem dX12_readWell_174 : decode cX12_readWell 174 = .ok (.aload_n 0, 1) := by decide +kernel
theorem dX12_readWell_175 : decode cX12_readWell 175 = .ok (.getfield 13, 3) := by decide +kernel
theorem dX12_readWell_178 : decode cX12_readWell 178 = .ok (.iconst 1, 1) := by decide +kernel
theorem dX12_readWell_179 : decode cX12_readWell 179 = .ok (.dup2, 1) := by decide +kernel
theorem dX12_readWell_180 : decode cX12_readWell 180 = .ok (.iaload, 1) := by decide +kernel
theorem dX12_readWell_181 : decode cX12_readWell 181 = .ok (.iconst 1, 1) := by decide +kernel
theorem dX12_readWell_182 : decode cX12_readWell 182 = .ok (.iadd, 1) := by decide +kernel
theorem dX12_readWell_183 : decode cX12_readWell 183 = .ok (.iastore, 1) := by decide +kernel
theorem dX12_readWell_184 : decode cX12_readWell 184 = .ok (.return_, 1) := by decide +kernel
theorem dX12_wellTold_0 : decode cX12_wellTold 0 = .ok (.aload_n 0, 1) := by decide +kernel
theorem dX12_wellTold_1 : decode cX12_wellTold 1 = .ok (.iconst 0, 1) := by decide +kernel
theorem dX12_wellTold_2 : decode cX12_wellTold 2 = .ok (.aload_n 0, 1) := by decide +kernel
theorem dX12_wellTold_3 : decode cX12_wellTold 3 = .ok (.getfield 13, 3) := by decide +kernel
theorem dX12_wellTold_6 : decode cX12_wellTold 6 = .ok (.iconst 1, 1) := by decide +kernel
theorem dX12_wellTold_7 : decode cX12_wellTold 7 = .ok (.iaload, 1) := by decide +kernel
theorem dX12_wellTold_8 : decode cX12_wellTold 8 = .ok (.iconst 1, 1) := by decide +kernel
theorem dX12_wellTold_9 : decode cX12_wellTold 9 = .ok (.isub, 1) := by decide +kernel
theorem dX12_wellTold_10 : decode cX12_wellTold 10 = .ok (.invokevirtual 184, 3) := by decide +kernel
theorem dX12_wellTold_13 : decode cX12_wellTold 13 = .ok (.ireturn, 1) := by decide +kernel
theorem dX12_readBeside_0 : decode cX12_readBeside 0 = .ok (.aload_n 0, 1) := by decide +kernel
theorem dX12_readBeside_1 : decode cX12_readBeside 1 = .ok (.invokevirtual 205, 3) := by decide +kernel
theorem dX12_readBeside_4 : decode cX12_readBeside 4 = .ok (.istore_n 1, 1) := by decide +kernel
theorem dX12_readBeside_5 : decode cX12_readBeside 5 = .ok (.aload_n 0, 1) := by decide +kernel
theorem dX12_readBeside_6 : decode cX12_readBeside 6 = .ok (.getfield 93, 3) := by decide +kernel
theorem dX12_readBeside_9 : decode cX12_readBeside 9 = .ok (.ifCond .ne 24, 3) := by decide +kernel
theorem dX12_readBeside_12 : decode cX12_readBeside 12 = .ok (.aload_n 0, 1) := by decide +kernel
theorem dX12_readBeside_13 : decode cX12_readBeside 13 = .ok (.getfield 73, 3) := by decide +kernel
theorem dX12_readBeside_16 : decode cX12_readBeside 16 = .ok (.iconst 2, 1) := by decide +kernel
theorem dX12_readBeside_17 : decode cX12_readBeside 17 = .ok (.if_icmp .ne 16, 3) := by decide +kernel
theorem dX12_readBeside_20 : decode cX12_readBeside 20 = .ok (.aload_n 0, 1) := by decide +kernel
theorem dX12_readBeside_21 : decode cX12_readBeside 21 = .ok (.getfield 87, 3) := by decide +kernel
theorem dX12_readBeside_24 : decode cX12_readBeside 24 = .ok (.iload_n 1, 1) := by decide +kernel
theorem dX12_readBeside_25 : decode cX12_readBeside 25 = .ok (.if_icmp .ne 8, 3) := by decide +kernel
theorem dX12_readBeside_28 : decode cX12_readBeside 28 = .ok (.aload_n 0, 1) := by decide +kernel
theorem dX12_readBeside_29 : decode cX12_readBeside 29 = .ok (.iconst 3, 1) := by decide +kernel
theorem dX12_readBeside_30 : decode cX12_readBeside 30 = .ok (.invokevirtual 115, 3) := by decide +kernel
theorem dX12_readBeside_33 : decode cX12_readBeside 33 = .ok (.aload_n 0, 1) := by decide +kernel
theorem dX12_readBeside_34 : decode cX12_readBeside 34 = .ok (.invokevirtual 205, 3) := by decide +kernel
theorem dX12_readBeside_37 : decode cX12_readBeside 37 = .ok (.istore_n 2, 1) := by decide +kernel
theorem dX12_readBeside_38 : decode cX12_readBeside 38 = .ok (.aload_n 0, 1) := by decide +kernel
theorem dX12_readBeside_39 : decode cX12_readBeside 39 = .ok (.getfield 93, 3) := by decide +kernel
theorem dX12_readBeside_42 : decode cX12_readBeside 42 = .ok (.ifCond .eq 4, 3) := by decide +kernel
theorem dX12_readBeside_45 : decode cX12_readBeside 45 = .ok (.return_, 1) := by decide +kernel
theorem dX12_readBeside_46 : decode cX12_readBeside 46 = .ok (.aload_n 0, 1) := by decide +kernel
theorem dX12_readBeside_47 : decode cX12_readBeside 47 = .ok (.getfield 13, 3) := by decide +kernel
theorem dX12_readBeside_50 : decode cX12_readBeside 50 = .ok (.bipush 57, 2) := by decide +kernel
theorem dX12_readBeside_52 : decode cX12_readBeside 52 = .ok (.iload_n 1, 1) := by decide +kernel
theorem dX12_readBeside_53 : decode cX12_readBeside 53 = .ok (.iadd, 1) := by decide +kernel
theorem dX12_readBeside_54 : decode cX12_readBeside 54 = .ok (.dup2, 1) := by decide +kernel
theorem dX12_readBeside_55 : decode cX12_readBeside 55 = .ok (.iaload, 1) := by decide +kernel
theorem dX12_readBeside_56 : decode cX12_readBeside 56 = .ok (.iconst 1, 1) := by decide +kernel
theorem dX12_readBeside_57 : decode cX12_readBeside 57 = .ok (.iload_n 2, 1) := by decide +kernel
theorem dX12_readBeside_58 : decode cX12_readBeside 58 = .ok (.ishl, 1) := by decide +kernel
theorem dX12_readBeside_59 : decode cX12_readBeside 59 = .ok (.ior, 1) := by decide +kernel
theorem dX12_readBeside_60 : decode cX12_readBeside 60 = .ok (.iastore, 1) := by decide +kernel
theorem dX12_readBeside_61 : decode cX12_readBeside 61 = .ok (.aload_n 0, 1) := by decide +kernel
theorem dX12_readBeside_62 : decode cX12_readBeside 62 = .ok (.getfield 13, 3) := by decide +kernel
theorem dX12_readBeside_65 : decode cX12_readBeside 65 = .ok (.bipush 57, 2) := by decide +kernel
theorem dX12_readBeside_67 : decode cX12_readBeside 67 = .ok (.iload_n 2, 1) := by decide +kernel
theorem dX12_readBeside_68 : decode cX12_readBeside 68 = .ok (.iadd, 1) := by decide +kernel
theorem dX12_readBeside_69 : decode cX12_readBeside 69 = .ok (.dup2, 1) := by decide +kernel
theorem dX12_readBeside_70 : decode cX12_readBeside 70 = .ok (.iaload, 1) := by decide +kernel
theorem dX12_readBeside_71 : decode cX12_readBeside 71 = .ok (.iconst 1, 1) := by decide +kernel
theorem dX12_readBeside_72 : decode cX12_readBeside 72 = .ok (.iload_n 1, 1) := by decide +kernel
theorem dX12_readBeside_73 : decode cX12_readBeside 73 = .ok (.ishl, 1) := by decide +kernel
theorem dX12_readBeside_74 : decode cX12_readBeside 74 = .ok (.ior, 1) := by decide +kernel
theorem dX12_readBeside_75 : decode cX12_readBeside 75 = .ok (.iastore, 1) := by decide +kernel
theorem dX12_readBeside_76 : decode cX12_readBeside 76 = .ok (.return_, 1) := by decide +kernel
theorem dX12_readHouse_0 : decode cX12_readHouse 0 = .ok (.aload_n 0, 1) := by decide +kernel
theorem dX12_readHouse_1 : decode cX12_readHouse 1 = .ok (.iconst 2, 1) := by decide +kernel
theorem dX12_readHouse_2 : decode cX12_readHouse 2 = .ok (.bipush 6, 2) := by decide +kernel
theorem dX12_readHouse_4 : decode cX12_readHouse 4 = .ok (.invokevirtual 188, 3) := by decide +kernel
theorem dX12_readHouse_7 : decode cX12_readHouse 7 = .ok (.ifCond .ne 4, 3) := by decide +kernel
theorem dX12_readHouse_10 : decode cX12_readHouse 10 = .ok (.return_, 1) := by decide +kernel
theorem dX12_readHouse_11 : decode cX12_readHouse 11 = .ok (.aload_n 0, 1) := by decide +kernel
theorem dX12_readHouse_12 : decode cX12_readHouse 12 = .ok (.iconst 1, 1) := by decide +kernel
theorem dX12_readHouse_13 : decode cX12_readHouse 13 = .ok (.bipush 99, 2) := by decide +kernel
theorem dX12_readHouse_15 : decode cX12_readHouse 15 = .ok (.invokevirtual 184, 3) := by decide +kernel
theorem dX12_readHouse_18 : decode cX12_readHouse 18 = .ok (.istore_n 1, 1) := by decide +kernel
theorem dX12_readHouse_19 : decode cX12_readHouse 19 = .ok (.aload_n 0, 1) := by decide +kernel
theorem dX12_readHouse_20 : decode cX12_readHouse 20 = .ok (.ldc 208, 2) := by decide +kernel
theorem dX12_readHouse_22 : decode cX12_readHouse 22 = .ok (.invokevirtual 194, 3) := by decide +kernel
theorem dX12_readHouse_25 : decode cX12_readHouse 25 = .ok (.iconst 0, 1) := by decide +kernel
theorem dX12_readHouse_26 : decode cX12_readHouse 26 = .ok (.istore_n 2, 1) := by decide +kernel
theorem dX12_readHouse_27 : decode cX12_readHouse 27 = .ok (.iload_n 2, 1) := by decide +kernel
theorem dX12_readHouse_28 : decode cX12_readHouse 28 = .ok (.iconst 1, 1) := by decide +kernel
theorem dX12_readHouse_29 : decode cX12_readHouse 29 = .ok (.aload_n 0, 1) := by decide +kernel
theorem dX12_readHouse_30 : decode cX12_readHouse 30 = .ok (.invokevirtual 205, 3) := by decide +kernel
theorem dX12_readHouse_33 : decode cX12_readHouse 33 = .ok (.ishl, 1) := by decide +kernel
theorem dX12_readHouse_34 : decode cX12_readHouse 34 = .ok (.ior, 1) := by decide +kernel
theorem dX12_readHouse_35 : decode cX12_readHouse 35 = .ok (.istore_n 2, 1) := by decide +kernel
theorem dX12_readHouse_36 : decode cX12_readHouse 36 = .ok (.aload_n 0, 1) := by decide +kernel
theorem dX12_readHouse_37 : decode cX12_readHouse 37 = .ok (.getfield 93, 3) := by decide +kernel
theorem dX12_readHouse_40 : decode cX12_readHouse 40 = .ok (.ifCond .ne 11, 3) := by decide +kernel
theorem dX12_readHouse_43 : decode cX12_readHouse 43 = .ok (.aload_n 0, 1) := by decide +kernel
theorem dX12_readHouse_44 : decode cX12_readHouse 44 = .ok (.getfield 73, 3) := by decide +kernel
theorem dX12_readHouse_47 : decode cX12_readHouse 47 = .ok (.iconst 2, 1) := by decide +kernel
theorem dX12_readHouse_48 : decode cX12_readHouse 48 = .ok (.if_icmp .eq (-21), 3) := by decide +kernel
theorem dX12_readHouse_51 : decode cX12_readHouse 51 = .ok (.aload_n 0, 1) := by decide +kernel
theorem dX12_readHouse_52 : decode cX12_readHouse 52 = .ok (.getfield 93, 3) := by decide +kernel
theorem dX12_readHouse_55 : decode cX12_readHouse 55 = .ok (.ifCond .eq 4, 3) := by decide +kernel
theorem dX12_readHouse_58 : decode cX12_readHouse 58 = .ok (.return_, 1) := by decide +kernel
theorem dX12_readHouse_59 : decode cX12_readHouse 59 = .ok (.aload_n 0, 1) := by decide +kernel
theorem dX12_readHouse_60 : decode cX12_readHouse 60 = .ok (.getfield 13, 3) := by decide +kernel
theorem dX12_readHouse_63 : decode cX12_readHouse 63 = .ok (.bipush 67, 2) := by decide +kernel
theorem dX12_readHouse_65 : decode cX12_readHouse 65 = .ok (.aload_n 0, 1) := by decide +kernel
theorem dX12_readHouse_66 : decode cX12_readHouse 66 = .ok (.getfield 13, 3) := by decide +kernel
theorem dX12_readHouse_69 : decode cX12_readHouse 69 = .ok (.iconst 2, 1) := by decide +kernel
theorem dX12_readHouse_70 : decode cX12_readHouse 70 = .ok (.iaload, 1) := by decide +kernel
theorem dX12_readHouse_71 : decode cX12_readHouse 71 = .ok (.iadd, 1) := by decide +kernel
theorem dX12_readHouse_72 : decode cX12_readHouse 72 = .ok (.iload_n 1, 1) := by decide +kernel
theorem dX12_readHouse_73 : decode cX12_readHouse 73 = .ok (.iastore, 1) := by decide +kernel
theorem dX12_readHouse_74 : decode cX12_readHouse 74 = .ok (.aload_n 0, 1) := by decide +kernel
theorem dX12_readHouse_75 : decode cX12_readHouse 75 = .ok (.getfield 13, 3) := by decide +kernel
theorem dX12_readHouse_78 : decode cX12_readHouse 78 = .ok (.bipush 73, 2) := by decide +kernel
theorem dX12_readHouse_80 : decode cX12_readHouse 80 = .ok (.aload_n 0, 1) := by decide +kernel
theorem dX12_readHouse_81 : decode cX12_readHouse 81 = .ok (.getfield 13, 3) := by decide +kernel
theorem dX12_readHouse_84 : decode cX12_readHouse 84 = .ok (.iconst 2, 1) := by decide +kernel
theorem dX12_readHouse_85 : decode cX12_readHouse 85 = .ok (.iaload, 1) := by decide +kernel
theorem dX12_readHouse_86 : decode cX12_readHouse 86 = .ok (.iadd, 1) := by decide +kernel
theorem dX12_readHouse_87 : decode cX12_readHouse 87 = .ok (.iload_n 2, 1) := by decide +kernel
theorem dX12_readHouse_88 : decode cX12_readHouse 88 = .ok (.iastore, 1) := by decide +kernel
theorem dX12_readHouse_89 : decode cX12_readHouse 89 = .ok (.aload_n 0, 1) := by decide +kernel
theorem dX12_readHouse_90 : decode cX12_readHouse 90 = .ok (.getfield 13, 3) := by decide +kernel
theorem dX12_readHouse_93 : decode cX12_readHouse 93 = .ok (.iconst 2, 1) := by decide +kernel
theorem dX12_readHouse_94 : decode cX12_readHouse 94 = .ok (.dup2, 1) := by decide +kernel
theorem dX12_readHouse_95 : decode cX12_readHouse 95 = .ok (.iaload, 1) := by decide +kernel
theorem dX12_readHouse_96 : decode cX12_readHouse 96 = .ok (.iconst 1, 1) := by decide +kernel
theorem dX12_readHouse_97 : decode cX12_readHouse 97 = .ok (.iadd, 1) := by decide +kernel
theorem dX12_readHouse_98 : decode cX12_readHouse 98 = .ok (.iastore, 1) := by decide +kernel
theorem dX12_readHouse_99 : decode cX12_readHouse 99 = .ok (.return_, 1) := by decide +kernel
theorem dX12_readStop_0 : decode cX12_readStop 0 = .ok (.aload_n 0, 1) := by decide +kernel
theorem dX12_readStop_1 : decode cX12_readStop 1 = .ok (.bipush 59, 2) := by decide +kernel
theorem dX12_readStop_3 : decode cX12_readStop 3 = .ok (.invokevirtual 153, 3) := by decide +kernel
theorem dX12_readStop_6 : decode cX12_readStop 6 = .ok (.aload_n 0, 1) := by decide +kernel
theorem dX12_readStop_7 : decode cX12_readStop 7 = .ok (.getfield 93, 3) := by decide +kernel
theorem dX12_readStop_10 : decode cX12_readStop 10 = .ok (.ifCond .ne 13, 3) := by decide +kernel
theorem dX12_readStop_13 : decode cX12_readStop 13 = .ok (.aload_n 0, 1) := by decide +kernel
theorem dX12_readStop_14 : decode cX12_readStop 14 = .ok (.getfield 13, 3) := by decide +kernel
theorem dX12_readStop_17 : decode cX12_readStop 17 = .ok (.iconst 0, 1) := by decide +kernel
theorem dX12_readStop_18 : decode cX12_readStop 18 = .ok (.dup2, 1) := by decide +kernel
theorem dX12_readStop_19 : decode cX12_readStop 19 = .ok (.iaload, 1) := by decide +kernel
theorem dX12_readStop_20 : decode cX12_readStop 20 = .ok (.iconst 1, 1) := by decide +kernel
theorem dX12_readStop_21 : decode cX12_readStop 21 = .ok (.iadd, 1) := by decide +kernel
theorem dX12_readStop_22 : decode cX12_readStop 22 = .ok (.iastore, 1) := by decide +kernel
theorem dX12_readStop_23 : decode cX12_readStop 23 = .ok (.return_, 1) := by decide +kernel
theorem dX12_readLine_0 : decode cX12_readLine 0 = .ok (.aload_n 0, 1) := by decide +kernel
theorem dX12_readLine_1 : decode cX12_readLine 1 = .ok (.ldc 210, 2) := by decide +kernel
theorem dX12_readLine_3 : decode cX12_readLine 3 = .ok (.invokevirtual 108, 3) := by decide +kernel
theorem dX12_readLine_6 : decode cX12_readLine 6 = .ok (.ifCond .eq 10, 3) := by decide +kernel
theorem dX12_readLine_9 : decode cX12_readLine 9 = .ok (.aload_n 0, 1) := by decide +kernel
theorem dX12_readLine_10 : decode cX12_readLine 10 = .ok (.invokevirtual 212, 3) := by decide +kernel
theorem dX12_readLine_13 : decode cX12_readLine 13 = .ok (.goto 90, 3) := by decide +kernel
theorem dX12_readLine_16 : decode cX12_readLine 16 = .ok (.aload_n 0, 1) := by decide +kernel
theorem dX12_readLine_17 : decode cX12_readLine 17 = .ok (.ldc 215, 2) := by decide +kernel
theorem dX12_readLine_19 : decode cX12_readLine 19 = .ok (.invokevirtual 108, 3) := by decide +kernel
theorem dX12_readLine_22 : decode cX12_readLine 22 = .ok (.ifCond .eq 10, 3) := by decide +kernel
theorem dX12_readLine_25 : decode cX12_readLine 25 = .ok (.aload_n 0, 1) := by decide +kernel
theorem dX12_readLine_26 : decode cX12_readLine 26 = .ok (.invokevirtual 217, 3) := by decide +kernel
theorem dX12_readLine_29 : decode cX12_readLine 29 = .ok (.goto 74, 3) := by decide +kernel
theorem dX12_readLine_32 : decode cX12_readLine 32 = .ok (.aload_n 0, 1) := by decide +kernel
theorem dX12_readLine_33 : decode cX12_readLine 33 = .ok (.ldc 220, 2) := by decide +kernel
theorem dX12_readLine_35 : decode cX12_readLine 35 = .ok (.invokevirtual 123, 3) := by decide +kernel
theorem dX12_readLine_38 : decode cX12_readLine 38 = .ok (.ifCond .eq 10, 3) := by decide +kernel
theorem dX12_readLine_41 : decode cX12_readLine 41 = .ok (.aload_n 0, 1) := by decide +kernel
theorem dX12_readLine_42 : decode cX12_readLine 42 = .ok (.invokevirtual 222, 3) := by decide +kernel
theorem dX12_readLine_45 : decode cX12_readLine 45 = .ok (.goto 58, 3) := by decide +kernel
theorem dX12_readLine_48 : decode cX12_readLine 48 = .ok (.aload_n 0, 1) := by decide +kernel
theorem dX12_readLine_49 : decode cX12_readLine 49 = .ok (.ldc 175, 2) := by decide +kernel
theorem dX12_readLine_51 : decode cX12_readLine 51 = .ok (.invokevirtual 123, 3) := by decide +kernel
theorem dX12_readLine_54 : decode cX12_readLine 54 = .ok (.ifCond .eq 21, 3) := by decide +kernel
theorem dX12_readLine_57 : decode cX12_readLine 57 = .ok (.aload_n 0, 1) := by decide +kernel
theorem dX12_readLine_58 : decode cX12_readLine 58 = .ok (.getfield 13, 3) := by decide +kernel
theorem dX12_readLine_61 : decode cX12_readLine 61 = .ok (.bipush 26, 2) := by decide +kernel
theorem dX12_readLine_63 : decode cX12_readLine 63 = .ok (.aload_n 0, 1) := by decide +kernel
theorem dX12_readLine_64 : decode cX12_readLine 64 = .ok (.iconst 0, 1) := by decide +kernel
theorem dX12_readLine_65 : decode cX12_readLine 65 = .ok (.sipush 999, 3) := by decide +kernel
theorem dX12_readLine_68 : decode cX12_readLine 68 = .ok (.invokevirtual 184, 3) := by decide +kernel
theorem dX12_readLine_71 : decode cX12_readLine 71 = .ok (.iastore, 1) := by decide +kernel
theorem dX12_readLine_72 : decode cX12_readLine 72 = .ok (.goto 31, 3) := by decide +kernel
theorem dX12_readLine_75 : decode cX12_readLine 75 = .ok (.aload_n 0, 1) := by decide +kernel
theorem dX12_readLine_76 : decode cX12_readLine 76 = .ok (.ldc 225, 2) := by decide +kernel
theorem dX12_readLine_78 : decode cX12_readLine 78 = .ok (.invokevirtual 123, 3) := by decide +kernel
theorem dX12_readLine_81 : decode cX12_readLine 81 = .ok (.ifCond .eq 17, 3) := by decide +kernel
theorem dX12_readLine_84 : decode cX12_readLine 84 = .ok (.aload_n 0, 1) := by decide +kernel
theorem dX12_readLine_85 : decode cX12_readLine 85 = .ok (.getfield 13, 3) := by decide +kernel
theorem dX12_readLine_88 : decode cX12_readLine 88 = .ok (.iconst 3, 1) := by decide +kernel
theorem dX12_readLine_89 : decode cX12_readLine 89 = .ok (.iconst 0, 1) := by decide +kernel
theorem dX12_readLine_90 : decode cX12_readLine 90 = .ok (.iastore, 1) := by decide +kernel
theorem dX12_readLine_91 : decode cX12_readLine 91 = .ok (.aload_n 0, 1) := by decide +kernel
theorem dX12_readLine_92 : decode cX12_readLine 92 = .ok (.invokevirtual 150, 3) := by decide +kernel
theorem dX12_readLine_95 : decode cX12_readLine 95 = .ok (.goto 8, 3) := by decide +kernel
theorem dX12_readLine_98 : decode cX12_readLine 98 = .ok (.aload_n 0, 1) := by decide +kernel
theorem dX12_readLine_99 : decode cX12_readLine 99 = .ok (.iconst 2, 1) := by decide +kernel
theorem dX12_readLine_100 : decode cX12_readLine 100 = .ok (.invokevirtual 115, 3) := by decide +kernel
theorem dX12_readLine_103 : decode cX12_readLine 103 = .ok (.aload_n 0, 1) := by decide +kernel
theorem dX12_readLine_104 : decode cX12_readLine 104 = .ok (.invokevirtual 227, 3) := by decide +kernel
theorem dX12_readLine_107 : decode cX12_readLine 107 = .ok (.return_, 1) := by decide +kernel
theorem dX12_hills_0 : decode cX12_hills 0 = .ok (.aload_n 0, 1) := by decide +kernel
theorem dX12_hills_1 : decode cX12_hills 1 = .ok (.iconst 0, 1) := by decide +kernel
theorem dX12_hills_2 : decode cX12_hills 2 = .ok (.putfield 58, 3) := by decide +kernel
theorem dX12_hills_5 : decode cX12_hills 5 = .ok (.iload_n 1, 1) := by decide +kernel
theorem dX12_hills_6 : decode cX12_hills 6 = .ok (.i2l, 1) := by decide +kernel
theorem dX12_hills_7 : decode cX12_hills 7 = .ok (.lconst 0, 1) := by decide +kernel
theorem dX12_hills_8 : decode cX12_hills 8 = .ok (.aload_n 0, 1) := by decide +kernel
theorem dX12_hills_9 : decode cX12_hills 9 = .ok (.getfield 61, 3) := by decide +kernel
theorem dX12_hills_12 : decode cX12_hills 12 = .ok (.i2l, 1) := by decide +kernel
theorem dX12_hills_13 : decode cX12_hills 13 = .ok (.invokestatic 119, 3) := by decide +kernel
theorem dX12_hills_16 : decode cX12_hills 16 = .ok (.ifCond .ne 9, 3) := by decide +kernel
theorem dX12_hills_19 : decode cX12_hills 19 = .ok (.aload_n 0, 1) := by decide +kernel
theorem dX12_hills_20 : decode cX12_hills 20 = .ok (.iconst 1, 1) := by decide +kernel
theorem dX12_hills_21 : decode cX12_hills 21 = .ok (.invokevirtual 230, 3) := by decide +kernel
theorem dX12_hills_24 : decode cX12_hills 24 = .ok (.ireturn, 1) := by decide +kernel
theorem dX12_hills_25 : decode cX12_hills 25 = .ok (.aload_n 0, 1) := by decide +kernel
theorem dX12_hills_26 : decode cX12_hills 26 = .ok (.iload_n 1, 1) := by decide +kernel
theorem dX12_hills_27 : decode cX12_hills 27 = .ok (.putfield 64, 3) := by decide +kernel
theorem dX12_hills_30 : decode cX12_hills 30 = .ok (.aload_n 0, 1) := by decide +kernel
theorem dX12_hills_31 : decode cX12_hills 31 = .ok (.iconst 0, 1) := by decide +kernel
theorem dX12_hills_32 : decode cX12_hills 32 = .ok (.putfield 61, 3) := by decide +kernel
theorem dX12_hills_35 : decode cX12_hills 35 = .ok (.aload_n 0, 1) := by decide +kernel
theorem dX12_hills_36 : decode cX12_hills 36 = .ok (.iconst 0, 1) := by decide +kernel
theorem dX12_hills_37 : decode cX12_hills 37 = .ok (.putfield 67, 3) := by decide +kernel
theorem dX12_hills_40 : decode cX12_hills 40 = .ok (.aload_n 0, 1) := by decide +kernel
theorem dX12_hills_41 : decode cX12_hills 41 = .ok (.iconst 0, 1) := by decide +kernel
theorem dX12_hills_42 : decode cX12_hills 42 = .ok (.putfield 93, 3) := by decide +kernel
theorem dX12_hills_45 : decode cX12_hills 45 = .ok (.aload_n 0, 1) := by decide +kernel
theorem dX12_hills_46 : decode cX12_hills 46 = .ok (.iconst 0, 1) := by decide +kernel
theorem dX12_hills_47 : decode cX12_hills 47 = .ok (.putfield 126, 3) := by decide +kernel
theorem dX12_hills_50 : decode cX12_hills 50 = .ok (.iconst 0, 1) := by decide +kernel
theorem dX12_hills_51 : decode cX12_hills 51 = .ok (.istore_n 2, 1) := by decide +kernel
theorem dX12_hills_52 : decode cX12_hills 52 = .ok (.iload_n 2, 1) := by decide +kernel
theorem dX12_hills_53 : decode cX12_hills 53 = .ok (.sipush 1215, 3) := by decide +kernel
theorem dX12_hills_56 : decode cX12_hills 56 = .ok (.if_icmp .ge 16, 3) := by decide +kernel
theorem dX12_hills_59 : decode cX12_hills 59 = .ok (.aload_n 0, 1) := by decide +kernel
theorem dX12_hills_60 : decode cX12_hills 60 = .ok (.getfield 13, 3) := by decide +kernel
theorem dX12_hills_63 : decode cX12_hills 63 = .ok (.iload_n 2, 1) := by decide +kernel
theorem dX12_hills_64 : decode cX12_hills 64 = .ok (.iconst 0, 1) := by decide +kernel
theorem dX12_hills_65 : decode cX12_hills 65 = .ok (.iastore, 1) := by decide +kernel
theorem dX12_hills_66 : decode cX12_hills 66 = .ok (.iinc 2 1, 3) := by decide +kernel
theorem dX12_hills_69 : decode cX12_hills 69 = .ok (.goto (-17), 3) := by decide +kernel
theorem dX12_hills_72 : decode cX12_hills 72 = .ok (.aload_n 0, 1) := by decide +kernel
theorem dX12_hills_73 : decode cX12_hills 73 = .ok (.invokevirtual 112, 3) := by decide +kernel
theorem dX12_hills_76 : decode cX12_hills 76 = .ok (.aload_n 0, 1) := by decide +kernel
theorem dX12_hills_77 : decode cX12_hills 77 = .ok (.getfield 93, 3) := by decide +kernel
theorem dX12_hills_80 : decode cX12_hills 80 = .ok (.ifCond .ne 17, 3) := by decide +kernel
theorem dX12_hills_83 : decode cX12_hills 83 = .ok (.aload_n 0, 1) := by decide +kernel
theorem dX12_hills_84 : decode cX12_hills 84 = .ok (.getfield 73, 3) := by decide +kernel
theorem dX12_hills_87 : decode cX12_hills 87 = .ok (.ifCond .eq 10, 3) := by decide +kernel
theorem dX12_hills_90 : decode cX12_hills 90 = .ok (.aload_n 0, 1) := by decide +kernel
theorem dX12_hills_91 : decode cX12_hills 91 = .ok (.invokevirtual 233, 3) := by decide +kernel
theorem dX12_hills_94 : decode cX12_hills 94 = .ok (.goto (-18), 3) := by decide +kernel
theorem dX12_hills_97 : decode cX12_hills 97 = .ok (.aload_n 0, 1) := by decide +kernel
theorem dX12_hills_98 : decode cX12_hills 98 = .ok (.aload_n 0, 1) := by decide +kernel
theorem dX12_hills_99 : decode cX12_hills 99 = .ok (.getfield 93, 3) := by decide +kernel
theorem dX12_hills_102 : decode cX12_hills 102 = .ok (.putfield 236, 3) := by decide +kernel
theorem dX12_hills_105 : decode cX12_hills 105 = .ok (.aload_n 0, 1) := by decide +kernel
theorem dX12_hills_106 : decode cX12_hills 106 = .ok (.aload_n 0, 1) := by decide +kernel
theorem dX12_hills_107 : decode cX12_hills 107 = .ok (.getfield 93, 3) := by decide +kernel
theorem dX12_hills_110 : decode cX12_hills 110 = .ok (.ifCond .ne 7, 3) := by decide +kernel
theorem dX12_hills_113 : decode cX12_hills 113 = .ok (.iconst (-1), 1) := by decide +kernel
theorem dX12_hills_114 : decode cX12_hills 114 = .ok (.goto 7, 3) := by decide +kernel
theorem dX12_hills_117 : decode cX12_hills 117 = .ok (.aload_n 0, 1) := by decide +kernel
theorem dX12_hills_118 : decode cX12_hills 118 = .ok (.getfield 96, 3) := by decide +kernel
theorem dX12_hills_121 : decode cX12_hills 121 = .ok (.putfield 26, 3) := by decide +kernel
theorem dX12_hills_124 : decode cX12_hills 124 = .ok (.aload_n 0, 1) := by decide +kernel
theorem dX12_hills_125 : decode cX12_hills 125 = .ok (.getfield 93, 3) := by decide +kernel
theorem dX12_hills_128 : decode cX12_hills 128 = .ok (.ifCond .eq 11, 3) := by decide +kernel
theorem dX12_hills_131 : decode cX12_hills 131 = .ok (.bipush (-10), 2) := by decide +kernel
theorem dX12_hills_133 : decode cX12_hills 133 = .ok (.aload_n 0, 1) := by decide +kernel
theorem dX12_hills_134 : decode cX12_hills 134 = .ok (.getfield 93, 3) := by decide +kernel
theorem dX12_hills_137 : decode cX12_hills 137 = .ok (.isub, 1) := by decide +kernel
theorem dX12_hills_138 : decode cX12_hills 138 = .ok (.ireturn, 1) := by decide +kernel
theorem dX12_hills_139 : decode cX12_hills 139 = .ok (.iconst 0, 1) := by decide +kernel
theorem dX12_hills_140 : decode cX12_hills 140 = .ok (.istore_n 2, 1) := by decide +kernel
theorem dX12_hills_141 : decode cX12_hills 141 = .ok (.iload_n 2, 1) := by decide +kernel
theorem dX12_hills_142 : decode cX12_hills 142 = .ok (.sipush 1215, 3) := by decide +kernel
theorem dX12_hills_145 : decode cX12_hills 145 = .ok (.if_icmp .ge 21, 3) := by decide +kernel
theorem dX12_hills_148 : decode cX12_hills 148 = .ok (.aload_n 0, 1) := by decide +kernel
theorem dX12_hills_149 : decode cX12_hills 149 = .ok (.getfield 9, 3) := by decide +kernel
theorem dX12_hills_152 : decode cX12_hills 152 = .ok (.iload_n 2, 1) := by decide +kernel
theorem dX12_hills_153 : decode cX12_hills 153 = .ok (.aload_n 0, 1) := by decide +kernel
theorem dX12_hills_154 : decode cX12_hills 154 = .ok (.getfield 13, 3) := by decide +kernel
theorem dX12_hills_157 : decode cX12_hills 157 = .ok (.iload_n 2, 1) := by decide +kernel
theorem dX12_hills_158 : decode cX12_hills 158 = .ok (.iaload, 1) := by decide +kernel
theorem dX12_hills_159 : decode cX12_hills 159 = .ok (.iastore, 1) := by decide +kernel
theorem dX12_hills_160 : decode cX12_hills 160 = .ok (.iinc 2 1, 3) := by decide +kernel
theorem dX12_hills_163 : decode cX12_hills 163 = .ok (.goto (-22), 3) := by decide +kernel
theorem dX12_hills_166 : decode cX12_hills 166 = .ok (.aload_n 0, 1) := by decide +kernel
theorem dX12_hills_167 : decode cX12_hills 167 = .ok (.getfield 9, 3) := by decide +kernel
theorem dX12_hills_170 : decode cX12_hills 170 = .ok (.iconst 0, 1) := by decide +kernel
theorem dX12_hills_171 : decode cX12_hills 171 = .ok (.iaload, 1) := by decide +kernel
theorem dX12_hills_172 : decode cX12_hills 172 = .ok (.ireturn, 1) := by decide +kernel
theorem dX12_fault_0 : decode cX12_fault 0 = .ok (.aload_n 0, 1) := by decide +kernel
theorem dX12_fault_1 : decode cX12_fault 1 = .ok (.iconst 0, 1) := by decide +kernel
theorem dX12_fault_2 : decode cX12_fault 2 = .ok (.putfield 58, 3) := by decide +kernel
theorem dX12_fault_5 : decode cX12_fault 5 = .ok (.iload_n 1, 1) := by decide +kernel
theorem dX12_fault_6 : decode cX12_fault 6 = .ok (.ifCond .ne 10, 3) := by decide +kernel
theorem dX12_fault_9 : decode cX12_fault 9 = .ok (.aload_n 0, 1) := by decide +kernel
theorem dX12_fault_10 : decode cX12_fault 10 = .ok (.getfield 236, 3) := by decide +kernel
theorem dX12_fault_13 : decode cX12_fault 13 = .ok (.goto 16, 3) := by decide +kernel
theorem dX12_fault_16 : decode cX12_fault 16 = .ok (.iload_n 1, 1) := by decide +kernel
theorem dX12_fault_17 : decode cX12_fault 17 = .ok (.iconst 1, 1) := by decide +kernel
theorem dX12_fault_18 : decode cX12_fault 18 = .ok (.if_icmp .ne 10, 3) := by decide +kernel
theorem dX12_fault_21 : decode cX12_fault 21 = .ok (.aload_n 0, 1) := by decide +kernel
theorem dX12_fault_22 : decode cX12_fault 22 = .ok (.getfield 26, 3) := by decide +kernel
theorem dX12_fault_25 : decode cX12_fault 25 = .ok (.goto 4, 3) := by decide +kernel
theorem dX12_fault_28 : decode cX12_fault 28 = .ok (.iconst (-1), 1) := by decide +kernel
theorem dX12_fault_29 : decode cX12_fault 29 = .ok (.ireturn, 1) := by decide +kernel
theorem dX12_wells_0 : decode cX12_wells 0 = .ok (.aload_n 0, 1) := by decide +kernel
theorem dX12_wells_1 : decode cX12_wells 1 = .ok (.getfield 9, 3) := by decide +kernel
theorem dX12_wells_4 : decode cX12_wells 4 = .ok (.iconst 1, 1) := by decide +kernel
theorem dX12_wells_5 : decode cX12_wells 5 = .ok (.iaload, 1) := by decide +kernel
theorem dX12_wells_6 : decode cX12_wells 6 = .ok (.ireturn, 1) := by decide +kernel
theorem dX12_allWells_0 : decode cX12_allWells 0 = .ok (.iconst 1, 1) := by decide +kernel
theorem dX12_allWells_1 : decode cX12_allWells 1 = .ok (.aload_n 0, 1) := by decide +kernel
theorem dX12_allWells_2 : decode cX12_allWells 2 = .ok (.invokevirtual 239, 3) := by decide +kernel
theorem dX12_allWells_5 : decode cX12_allWells 5 = .ok (.ishl, 1) := by decide +kernel
theorem dX12_allWells_6 : decode cX12_allWells 6 = .ok (.iconst 1, 1) := by decide +kernel
theorem dX12_allWells_7 : decode cX12_allWells 7 = .ok (.isub, 1) := by decide +kernel
theorem dX12_allWells_8 : decode cX12_allWells 8 = .ok (.ireturn, 1) := by decide +kernel
theorem dX12_isWell_0 : decode cX12_isWell 0 = .ok (.lload_n 1, 1) := by decide +kernel
theorem dX12_isWell_1 : decode cX12_isWell 1 = .ok (.lconst 0, 1) := by decide +kernel
theorem dX12_isWell_2 : decode cX12_isWell 2 = .ok (.aload_n 0, 1) := by decide +kernel
theorem dX12_isWell_3 : decode cX12_isWell 3 = .ok (.invokevirtual 239, 3) := by decide +kernel
theorem dX12_isWell_6 : decode cX12_isWell 6 = .ok (.iconst 1, 1) := by decide +kernel
theorem dX12_isWell_7 : decode cX12_isWell 7 = .ok (.isub, 1) := by decide +kernel
theorem dX12_isWell_8 : decode cX12_isWell 8 = .ok (.i2l, 1) := by decide +kernel
theorem dX12_isWell_9 : decode cX12_isWell 9 = .ok (.invokestatic 119, 3) := by decide +kernel
theorem dX12_isWell_12 : decode cX12_isWell 12 = .ok (.ireturn, 1) := by decide +kernel
theorem dX12_isHouse_0 : decode cX12_isHouse 0 = .ok (.iload_n 1, 1) := by decide +kernel
theorem dX12_isHouse_1 : decode cX12_isHouse 1 = .ok (.i2l, 1) := by decide +kernel
theorem dX12_isHouse_2 : decode cX12_isHouse 2 = .ok (.lconst 0, 1) := by decide +kernel
theorem dX12_isHouse_3 : decode cX12_isHouse 3 = .ok (.aload_n 0, 1) := by decide +kernel
theorem dX12_isHouse_4 : decode cX12_isHouse 4 = .ok (.getfield 9, 3) := by decide +kernel
theorem dX12_isHouse_7 : decode cX12_isHouse 7 = .ok (.iconst 2, 1) := by decide +kernel
theorem dX12_isHouse_8 : decode cX12_isHouse 8 = .ok (.iaload, 1) := by decide +kernel
theorem dX12_isHouse_9 : decode cX12_isHouse 9 = .ok (.iconst 1, 1) := by decide +kernel
theorem dX12_isHouse_10 : decode cX12_isHouse 10 = .ok (.isub, 1) := by decide +kernel
theorem dX12_isHouse_11 : decode cX12_isHouse 11 = .ok (.i2l, 1) := by decide +kernel
theorem dX12_isHouse_12 : decode cX12_isHouse 12 = .ok (.invokestatic 119, 3) := by decide +kernel
theorem dX12_isHouse_15 : decode cX12_isHouse 15 = .ok (.ireturn, 1) := by decide +kernel
theorem dX12_phaseIn_0 : decode cX12_phaseIn 0 = .ok (.aload_n 0, 1) := by decide +kernel
theorem dX12_phaseIn_1 : decode cX12_phaseIn 1 = .ok (.getfield 9, 3) := by decide +kernel
theorem dX12_phaseIn_4 : decode cX12_phaseIn 4 = .ok (.bipush 26, 2) := by decide +kernel
theorem dX12_phaseIn_6 : decode cX12_phaseIn 6 = .ok (.iaload, 1) := by decide +kernel
theorem dX12_phaseIn_7 : decode cX12_phaseIn 7 = .ok (.iload_n 2, 1) := by decide +kernel
theorem dX12_phaseIn_8 : decode cX12_phaseIn 8 = .ok (.iadd, 1) := by decide +kernel
theorem dX12_phaseIn_9 : decode cX12_phaseIn 9 = .ok (.aload_n 0, 1) := by decide +kernel
theorem dX12_phaseIn_10 : decode cX12_phaseIn 10 = .ok (.getfield 9, 3) := by decide +kernel
theorem dX12_phaseIn_13 : decode cX12_phaseIn 13 = .ok (.iconst 5, 1) := by decide +kernel
theorem dX12_phaseIn_14 : decode cX12_phaseIn 14 = .ok (.iload_n 1, 1) := by decide +kernel
theorem dX12_phaseIn_15 : decode cX12_phaseIn 15 = .ok (.iadd, 1) := by decide +kernel
theorem dX12_phaseIn_16 : decode cX12_phaseIn 16 = .ok (.iaload, 1) := by decide +kernel
theorem dX12_phaseIn_17 : decode cX12_phaseIn 17 = .ok (.iadd, 1) := by decide +kernel
theorem dX12_phaseIn_18 : decode cX12_phaseIn 18 = .ok (.aload_n 0, 1) := by decide +kernel
theorem dX12_phaseIn_19 : decode cX12_phaseIn 19 = .ok (.getfield 9, 3) := by decide +kernel
theorem dX12_phaseIn_22 : decode cX12_phaseIn 22 = .ok (.bipush 27, 2) := by decide +kernel
theorem dX12_phaseIn_24 : decode cX12_phaseIn 24 = .ok (.iload_n 1, 1) := by decide +kernel
theorem dX12_phaseIn_25 : decode cX12_phaseIn 25 = .ok (.iadd, 1) := by decide +kernel
theorem dX12_phaseIn_26 : decode cX12_phaseIn 26 = .ok (.iaload, 1) := by decide +kernel
theorem dX12_phaseIn_27 : decode cX12_phaseIn 27 = .ok (.irem, 1) := by decide +kernel
theorem dX12_phaseIn_28 : decode cX12_phaseIn 28 = .ok (.ireturn, 1) := by decide +kernel
theorem dX12_isUpIn_0 : decode cX12_isUpIn 0 = .ok (.aload_n 0, 1) := by decide +kernel
theorem dX12_isUpIn_1 : decode cX12_isUpIn 1 = .ok (.iload_n 1, 1) := by decide +kernel
theorem dX12_isUpIn_2 : decode cX12_isUpIn 2 = .ok (.iload_n 2, 1) := by decide +kernel
theorem dX12_isUpIn_3 : decode cX12_isUpIn 3 = .ok (.invokevirtual 242, 3) := by decide +kernel
theorem dX12_isUpIn_6 : decode cX12_isUpIn 6 = .ok (.aload_n 0, 1) := by decide +kernel
theorem dX12_isUpIn_7 : decode cX12_isUpIn 7 = .ok (.getfield 9, 3) := by decide +kernel
theorem dX12_isUpIn_10 : decode cX12_isUpIn 10 = .ok (.bipush 37, 2) := by decide +kernel
theorem dX12_isUpIn_12 : decode cX12_isUpIn 12 = .ok (.iload_n 1, 1) := by decide +kernel
theorem dX12_isUpIn_13 : decode cX12_isUpIn 13 = .ok (.iadd, 1) := by decide +kernel
theorem dX12_isUpIn_14 : decode cX12_isUpIn 14 = .ok (.iaload, 1) := by decide +kernel
theorem dX12_isUpIn_15 : decode cX12_isUpIn 15 = .ok (.if_icmp .ge 7, 3) := by decide +kernel
theorem dX12_isUpIn_18 : decode cX12_isUpIn 18 = .ok (.iconst 1, 1) := by decide +kernel
theorem dX12_isUpIn_19 : decode cX12_isUpIn 19 = .ok (.goto 4, 3) := by decide +kernel
theorem dX12_isUpIn_22 : decode cX12_isUpIn 22 = .ok (.iconst 0, 1) := by decide +kernel
theorem dX12_isUpIn_23 : decode cX12_isUpIn 23 = .ok (.ireturn, 1) := by decide +kernel
theorem dX12_isUp_0 : decode cX12_isUp 0 = .ok (.aload_n 0, 1) := by decide +kernel
theorem dX12_isUp_1 : decode cX12_isUp 1 = .ok (.iload_n 1, 1) := by decide +kernel
theorem dX12_isUp_2 : decode cX12_isUp 2 = .ok (.iconst 0, 1) := by decide +kernel
theorem dX12_isUp_3 : decode cX12_isUp 3 = .ok (.invokevirtual 245, 3) := by decide +kernel
theorem dX12_isUp_6 : decode cX12_isUp 6 = .ok (.ireturn, 1) := by decide +kernel
theorem dX12_upIn_0 : decode cX12_upIn 0 = .ok (.iconst 0, 1) := by decide +kernel
theorem dX12_upIn_1 : decode cX12_upIn 1 = .ok (.istore_n 2, 1) := by decide +kernel
theorem dX12_upIn_2 : decode cX12_upIn 2 = .ok (.iconst 0, 1) := by decide +kernel
theorem dX12_upIn_3 : decode cX12_upIn 3 = .ok (.istore_n 3, 1) := by decide +kernel
theorem dX12_upIn_4 : decode cX12_upIn 4 = .ok (.iload_n 3, 1) := by decide +kernel
theorem dX12_upIn_5 : decode cX12_upIn 5 = .ok (.aload_n 0, 1) := by decide +kernel
theorem dX12_upIn_6 : decode cX12_upIn 6 = .ok (.invokevirtual 239, 3) := by decide +kernel
theorem dX12_upIn_9 : decode cX12_upIn 9 = .ok (.if_icmp .ge 28, 3) := by decide +kernel
theorem dX12_upIn_12 : decode cX12_upIn 12 = .ok (.iload_n 2, 1) := by decide +kernel
theorem dX12_upIn_13 : decode cX12_upIn 13 = .ok (.aload_n 0, 1) := by decide +kernel
theorem dX12_upIn_14 : decode cX12_upIn 14 = .ok (.iload_n 3, 1) := by decide +kernel
theorem dX12_upIn_15 : decode cX12_upIn 15 = .ok (.iload_n 1, 1) := by decide +kernel
theorem dX12_upIn_16 : decode cX12_upIn 16 = .ok (.invokevirtual 245, 3) := by decide +kernel
theorem dX12_upIn_19 : decode cX12_upIn 19 = .ok (.ifCond .eq 9, 3) := by decide +kernel
theorem dX12_upIn_22 : decode cX12_upIn 22 = .ok (.iconst 1, 1) := by decide +kernel
theorem dX12_upIn_23 : decode cX12_upIn 23 = .ok (.iload_n 3, 1) := by decide +kernel
theorem dX12_upIn_24 : decode cX12_upIn 24 = .ok (.ishl, 1) := by decide +kernel
theorem dX12_upIn_25 : decode cX12_upIn 25 = .ok (.goto 4, 3) := by decide +kernel
theorem dX12_upIn_28 : decode cX12_upIn 28 = .ok (.iconst 0, 1) := by decide +kernel
theorem dX12_upIn_29 : decode cX12_upIn 29 = .ok (.ior, 1) := by decide +kernel
theorem dX12_upIn_30 : decode cX12_upIn 30 = .ok (.istore_n 2, 1) := by decide +kernel
theorem dX12_upIn_31 : decode cX12_upIn 31 = .ok (.iinc 3 1, 3) := by decide +kernel
theorem dX12_upIn_34 : decode cX12_upIn 34 = .ok (.goto (-30), 3) := by decide +kernel
theorem dX12_upIn_37 : decode cX12_upIn 37 = .ok (.iload_n 2, 1) := by decide +kernel
theorem dX12_upIn_38 : decode cX12_upIn 38 = .ok (.ireturn, 1) := by decide +kernel
theorem dX12_shiftsTo_0 : decode cX12_shiftsTo 0 = .ok (.aload_n 0, 1) := by decide +kernel
theorem dX12_shiftsTo_1 : decode cX12_shiftsTo 1 = .ok (.getfield 9, 3) := by decide +kernel
theorem dX12_shiftsTo_4 : decode cX12_shiftsTo 4 = .ok (.bipush 27, 2) := by decide +kernel
theorem dX12_shiftsTo_6 : decode cX12_shiftsTo 6 = .ok (.iload_n 1, 1) := by decide +kernel
theorem dX12_shiftsTo_7 : decode cX12_shiftsTo 7 = .ok (.iadd, 1) := by decide +kernel
theorem dX12_shiftsTo_8 : decode cX12_shiftsTo 8 = .ok (.iaload, 1) := by decide +kernel
theorem dX12_shiftsTo_9 : decode cX12_shiftsTo 9 = .ok (.istore_n 3, 1) := by decide +kernel
theorem dX12_shiftsTo_10 : decode cX12_shiftsTo 10 = .ok (.aload_n 0, 1) := by decide +kernel
theorem dX12_shiftsTo_11 : decode cX12_shiftsTo 11 = .ok (.getfield 9, 3) := by decide +kernel
theorem dX12_shiftsTo_14 : decode cX12_shiftsTo 14 = .ok (.iconst 5, 1) := by decide +kernel
theorem dX12_shiftsTo_15 : decode cX12_shiftsTo 15 = .ok (.iload_n 1, 1) := by decide +kernel
theorem dX12_shiftsTo_16 : decode cX12_shiftsTo 16 = .ok (.iadd, 1) := by decide +kernel
theorem dX12_shiftsTo_17 : decode cX12_shiftsTo 17 = .ok (.iload_n 2, 1) := by decide +kernel
theorem dX12_shiftsTo_18 : decode cX12_shiftsTo 18 = .ok (.aload_n 0, 1) := by decide +kernel
theorem dX12_shiftsTo_19 : decode cX12_shiftsTo 19 = .ok (.getfield 9, 3) := by decide +kernel
theorem dX12_shiftsTo_22 : decode cX12_shiftsTo 22 = .ok (.bipush 26, 2) := by decide +kernel
theorem dX12_shiftsTo_24 : decode cX12_shiftsTo 24 = .ok (.iaload, 1) := by decide +kernel
theorem dX12_shiftsTo_25 : decode cX12_shiftsTo 25 = .ok (.isub, 1) := by decide +kernel
theorem dX12_shiftsTo_26 : decode cX12_shiftsTo 26 = .ok (.iload_n 3, 1) := by decide +kernel
theorem dX12_shiftsTo_27 : decode cX12_shiftsTo 27 = .ok (.irem, 1) := by decide +kernel
theorem dX12_shiftsTo_28 : decode cX12_shiftsTo 28 = .ok (.iload_n 3, 1) := by decide +kernel
theorem dX12_shiftsTo_29 : decode cX12_shiftsTo 29 = .ok (.iadd, 1) := by decide +kernel
theorem dX12_shiftsTo_30 : decode cX12_shiftsTo 30 = .ok (.iload_n 3, 1) := by decide +kernel
theorem dX12_shiftsTo_31 : decode cX12_shiftsTo 31 = .ok (.irem, 1) := by decide +kernel
theorem dX12_shiftsTo_32 : decode cX12_shiftsTo 32 = .ok (.iastore, 1) := by decide +kernel
theorem dX12_shiftsTo_33 : decode cX12_shiftsTo 33 = .ok (.return_, 1) := by decide +kernel
theorem dX12_waterAll_0 : decode cX12_waterAll 0 = .ok (.iconst 0, 1) := by decide +kernel
theorem dX12_waterAll_1 : decode cX12_waterAll 1 = .ok (.istore_n 1, 1) := by decide +kernel
theorem dX12_waterAll_2 : decode cX12_waterAll 2 = .ok (.iconst 0, 1) := by decide +kernel
theorem dX12_waterAll_3 : decode cX12_waterAll 3 = .ok (.istore_n 2, 1) := by decide +kernel
theorem dX12_waterAll_4 : decode cX12_waterAll 4 = .ok (.iload_n 2, 1) := by decide +kernel
theorem dX12_waterAll_5 : decode cX12_waterAll 5 = .ok (.aload_n 0, 1) := by decide +kernel
theorem dX12_waterAll_6 : decode cX12_waterAll 6 = .ok (.invokevirtual 239, 3) := by decide +kernel
theorem dX12_waterAll_9 : decode cX12_waterAll 9 = .ok (.if_icmp .ge 21, 3) := by decide +kernel
theorem dX12_waterAll_12 : decode cX12_waterAll 12 = .ok (.iload_n 1, 1) := by decide +kernel
theorem dX12_waterAll_13 : decode cX12_waterAll 13 = .ok (.aload_n 0, 1) := by decide +kernel
theorem dX12_waterAll_14 : decode cX12_waterAll 14 = .ok (.getfield 9, 3) := by decide +kernel
theorem dX12_waterAll_17 : decode cX12_waterAll 17 = .ok (.bipush 15, 2) := by decide +kernel
theorem dX12_waterAll_19 : decode cX12_waterAll 19 = .ok (.iload_n 2, 1) := by decide +kernel
theorem dX12_waterAll_20 : decode cX12_waterAll 20 = .ok (.iadd, 1) := by decide +kernel
theorem dX12_waterAll_21 : decode cX12_waterAll 21 = .ok (.iaload, 1) := by decide +kernel
theorem dX12_waterAll_22 : decode cX12_waterAll 22 = .ok (.iadd, 1) := by decide +kernel
theorem dX12_waterAll_23 : decode cX12_waterAll 23 = .ok (.istore_n 1, 1) := by decide +kernel
theorem dX12_waterAll_24 : decode cX12_waterAll 24 = .ok (.iinc 2 1, 3) := by decide +kernel
theorem dX12_waterAll_27 : decode cX12_waterAll 27 = .ok (.goto (-23), 3) := by decide +kernel
theorem dX12_waterAll_30 : decode cX12_waterAll 30 = .ok (.iload_n 1, 1) := by decide +kernel
theorem dX12_waterAll_31 : decode cX12_waterAll 31 = .ok (.ireturn, 1) := by decide +kernel
theorem dX12_bound_0 : decode cX12_bound 0 = .ok (.ldc2_w 248, 3) := by decide +kernel
theorem dX12_bound_3 : decode cX12_bound 3 = .ok (.ldc2_w 250, 3) := by decide +kernel
theorem dX12_bound_6 : decode cX12_bound 6 = .ok (.lload_n 0, 1) := by decide +kernel
theorem dX12_bound_7 : decode cX12_bound 7 = .ok (.invokestatic 252, 3) := by decide +kernel
theorem dX12_bound_10 : decode cX12_bound 10 = .ok (.invokestatic 258, 3) := by decide +kernel
theorem dX12_bound_13 : decode cX12_bound 13 = .ok (.l2i, 1) := by decide +kernel
theorem dX12_bound_14 : decode cX12_bound 14 = .ok (.ireturn, 1) := by decide +kernel
theorem dX12_done_0 : decode cX12_done 0 = .ok (.iload_n 0, 1) := by decide +kernel
theorem dX12_done_1 : decode cX12_done 1 = .ok (.tableswitch 114 10 16 #[43, 50, 57, 64, 76, 88, 100], 43) := by decide +kernel
theorem dX12_done_44 : decode cX12_done 44 = .ok (.lload_n 1, 1) := by decide +kernel
theorem dX12_done_45 : decode cX12_done 45 = .ok (.lload_n 3, 1) := by decide +kernel
theorem dX12_done_46 : decode cX12_done 46 = .ok (.ladd, 1) := by decide +kernel
theorem dX12_done_47 : decode cX12_done 47 = .ok (.invokestatic 261, 3) := by decide +kernel
theorem dX12_done_50 : decode cX12_done 50 = .ok (.ireturn, 1) := by decide +kernel
theorem dX12_done_51 : decode cX12_done 51 = .ok (.lload_n 1, 1) := by decide +kernel
theorem dX12_done_52 : decode cX12_done 52 = .ok (.lload_n 3, 1) := by decide +kernel
theorem dX12_done_53 : decode cX12_done 53 = .ok (.lsub, 1) := by decide +kernel
theorem dX12_done_54 : decode cX12_done 54 = .ok (.invokestatic 261, 3) := by decide +kernel
theorem dX12_done_57 : decode cX12_done 57 = .ok (.ireturn, 1) := by decide +kernel
theorem dX12_done_58 : decode cX12_done 58 = .ok (.lload_n 1, 1) := by decide +kernel
theorem dX12_done_59 : decode cX12_done 59 = .ok (.lload_n 3, 1) := by decide +kernel
theorem dX12_done_60 : decode cX12_done 60 = .ok (.lmul, 1) := by decide +kernel
theorem dX12_done_61 : decode cX12_done 61 = .ok (.invokestatic 261, 3) := by decide +kernel
theorem dX12_done_64 : decode cX12_done 64 = .ok (.ireturn, 1) := by decide +kernel
theorem dX12_done_65 : decode cX12_done 65 = .ok (.lload_n 1, 1) := by decide +kernel
theorem dX12_done_66 : decode cX12_done 66 = .ok (.lload_n 3, 1) := by decide +kernel
theorem dX12_done_67 : decode cX12_done 67 = .ok (.lcmp, 1) := by decide +kernel
theorem dX12_done_68 : decode cX12_done 68 = .ok (.ifCond .ne 7, 3) := by decide +kernel
theorem dX12_done_71 : decode cX12_done 71 = .ok (.iconst 1, 1) := by decide +kernel
theorem dX12_done_72 : decode cX12_done 72 = .ok (.goto 4, 3) := by decide +kernel
theorem dX12_done_75 : decode cX12_done 75 = .ok (.iconst 0, 1) := by decide +kernel
theorem dX12_done_76 : decode cX12_done 76 = .ok (.ireturn, 1) := by decide +kernel
theorem dX12_done_77 : decode cX12_done 77 = .ok (.lload_n 1, 1) := by decide +kernel
theorem dX12_done_78 : decode cX12_done 78 = .ok (.lload_n 3, 1) := by decide +kernel
theorem dX12_done_79 : decode cX12_done 79 = .ok (.lcmp, 1) := by decide +kernel
theorem dX12_done_80 : decode cX12_done 80 = .ok (.ifCond .ge 7, 3) := by decide +kernel
theorem dX12_done_83 : decode cX12_done 83 = .ok (.iconst 1, 1) := by decide +kernel
theorem dX12_done_84 : decode cX12_done 84 = .ok (.goto 4, 3) := by decide +kernel
theorem dX12_done_87 : decode cX12_done 87 = .ok (.iconst 0, 1) := by decide +kernel
theorem dX12_done_88 : decode cX12_done 88 = .ok (.ireturn, 1) := by decide +kernel
theorem dX12_done_89 : decode cX12_done 89 = .ok (.lload_n 1, 1) := by decide +kernel
theorem dX12_done_90 : decode cX12_done 90 = .ok (.lload_n 3, 1) := by decide +kernel
theorem dX12_done_91 : decode cX12_done 91 = .ok (.lcmp, 1) := by decide +kernel
theorem dX12_done_92 : decode cX12_done 92 = .ok (.ifCond .le 7, 3) := by decide +kernel
theorem dX12_done_95 : decode cX12_done 95 = .ok (.iconst 1, 1) := by decide +kernel
theorem dX12_done_96 : decode cX12_done 96 = .ok (.goto 4, 3) := by decide +kernel
theorem dX12_done_99 : decode cX12_done 99 = .ok (.iconst 0, 1) := by decide +kernel
theorem dX12_done_100 : decode cX12_done 100 = .ok (.ireturn, 1) := by decide +kernel
theorem dX12_done_101 : decode cX12_done 101 = .ok (.lload_n 1, 1) := by decide +kernel
theorem dX12_done_102 : decode cX12_done 102 = .ok (.lload_n 3, 1) := by decide +kernel
theorem dX12_done_103 : decode cX12_done 103 = .ok (.ladd, 1) := by decide +kernel
theorem dX12_done_104 : decode cX12_done 104 = .ok (.lconst 1, 1) := by decide +kernel
theorem dX12_done_105 : decode cX12_done 105 = .ok (.lcmp, 1) := by decide +kernel
theorem dX12_done_106 : decode cX12_done 106 = .ok (.ifCond .le 7, 3) := by decide +kernel
theorem dX12_done_109 : decode cX12_done 109 = .ok (.iconst 1, 1) := by decide +kernel
theorem dX12_done_110 : decode cX12_done 110 = .ok (.goto 4, 3) := by decide +kernel
theorem dX12_done_113 : decode cX12_done 113 = .ok (.iconst 0, 1) := by decide +kernel
theorem dX12_done_114 : decode cX12_done 114 = .ok (.ireturn, 1) := by decide +kernel
theorem dX12_done_115 : decode cX12_done 115 = .ok (.lload_n 1, 1) := by decide +kernel
theorem dX12_done_116 : decode cX12_done 116 = .ok (.lload_n 3, 1) := by decide +kernel
theorem dX12_done_117 : decode cX12_done 117 = .ok (.ladd, 1) := by decide +kernel
theorem dX12_done_118 : decode cX12_done 118 = .ok (.lconst 0, 1) := by decide +kernel
theorem dX12_done_119 : decode cX12_done 119 = .ok (.lcmp, 1) := by decide +kernel
theorem dX12_done_120 : decode cX12_done 120 = .ok (.ifCond .le 7, 3) := by decide +kernel
theorem dX12_done_123 : decode cX12_done 123 = .ok (.iconst 1, 1) := by decide +kernel
theorem dX12_done_124 : decode cX12_done 124 = .ok (.goto 4, 3) := by decide +kernel
theorem dX12_done_127 : decode cX12_done 127 = .ok (.iconst 0, 1) := by decide +kernel
theorem dX12_done_128 : decode cX12_done 128 = .ok (.ireturn, 1) := by decide +kernel
theorem dX12_wordOf_0 : decode cX12_wordOf 0 = .ok (.iload_n 1, 1) := by decide +kernel
theorem dX12_wordOf_1 : decode cX12_wordOf 1 = .ok (.tableswitch 104 0 6 #[43, 53, 63, 73, 83, 86, 97], 43) := by decide +kernel
theorem dX12_wordOf_44 : decode cX12_wordOf 44 = .ok (.aload_n 0, 1) := by decide +kernel
theorem dX12_wordOf_45 : decode cX12_wordOf 45 = .ok (.getfield 9, 3) := by decide +kernel
theorem dX12_wordOf_48 : decode cX12_wordOf 48 = .ok (.bipush 47, 2) := by decide +kernel
theorem dX12_wordOf_50 : decode cX12_wordOf 50 = .ok (.iload_n 2, 1) := by decide +kernel
theorem dX12_wordOf_51 : decode cX12_wordOf 51 = .ok (.iadd, 1) := by decide +kernel
theorem dX12_wordOf_52 : decode cX12_wordOf 52 = .ok (.iaload, 1) := by decide +kernel
theorem dX12_wordOf_53 : decode cX12_wordOf 53 = .ok (.ireturn, 1) := by decide +kernel
theorem dX12_wordOf_54 : decode cX12_wordOf 54 = .ok (.aload_n 0, 1) := by decide +kernel
theorem dX12_wordOf_55 : decode cX12_wordOf 55 = .ok (.getfield 9, 3) := by decide +kernel
theorem dX12_wordOf_58 : decode cX12_wordOf 58 = .ok (.bipush 47, 2) := by decide +kernel
theorem dX12_wordOf_60 : decode cX12_wordOf 60 = .ok (.iload_n 3, 1) := by decide +kernel
theorem dX12_wordOf_61 : decode cX12_wordOf 61 = .ok (.iadd, 1) := by decide +kernel
theorem dX12_wordOf_62 : decode cX12_wordOf 62 = .ok (.iaload, 1) := by decide +kernel
theorem dX12_wordOf_63 : decode cX12_wordOf 63 = .ok (.ireturn, 1) := by decide +kernel
theorem dX12_wordOf_64 : decode cX12_wordOf 64 = .ok (.aload_n 0, 1) := by decide +kernel
theorem dX12_wordOf_65 : decode cX12_wordOf 65 = .ok (.getfield 9, 3) := by decide +kernel
theorem dX12_wordOf_68 : decode cX12_wordOf 68 = .ok (.bipush 15, 2) := by decide +kernel
theorem dX12_wordOf_70 : decode cX12_wordOf 70 = .ok (.iload_n 2, 1) := by decide +kernel
theorem dX12_wordOf_71 : decode cX12_wordOf 71 = .ok (.iadd, 1) := by decide +kernel
theorem dX12_wordOf_72 : decode cX12_wordOf 72 = .ok (.iaload, 1) := by decide +kernel
theorem dX12_wordOf_73 : decode cX12_wordOf 73 = .ok (.ireturn, 1) := by decide +kernel
theorem dX12_wordOf_74 : decode cX12_wordOf 74 = .ok (.aload_n 0, 1) := by decide +kernel
theorem dX12_wordOf_75 : decode cX12_wordOf 75 = .ok (.getfield 9, 3) := by decide +kernel
theorem dX12_wordOf_78 : decode cX12_wordOf 78 = .ok (.bipush 15, 2) := by decide +kernel
theorem dX12_wordOf_80 : decode cX12_wordOf 80 = .ok (.iload_n 3, 1) := by decide +kernel
theorem dX12_wordOf_81 : decode cX12_wordOf 81 = .ok (.iadd, 1) := by decide +kernel
theorem dX12_wordOf_82 : decode cX12_wordOf 82 = .ok (.iaload, 1) := by decide +kernel
theorem dX12_wordOf_83 : decode cX12_wordOf 83 = .ok (.ireturn, 1) := by decide +kernel
theorem dX12_wordOf_84 : decode cX12_wordOf 84 = .ok (.iload 4, 2) := by decide +kernel
theorem dX12_wordOf_86 : decode cX12_wordOf 86 = .ok (.ireturn, 1) := by decide +kernel
theorem dX12_wordOf_87 : decode cX12_wordOf 87 = .ok (.aload_n 0, 1) := by decide +kernel
theorem dX12_wordOf_88 : decode cX12_wordOf 88 = .ok (.getfield 9, 3) := by decide +kernel
theorem dX12_wordOf_91 : decode cX12_wordOf 91 = .ok (.bipush 26, 2) := by decide +kernel
theorem dX12_wordOf_93 : decode cX12_wordOf 93 = .ok (.iaload, 1) := by decide +kernel
theorem dX12_wordOf_94 : decode cX12_wordOf 94 = .ok (.bipush 24, 2) := by decide +kernel
theorem dX12_wordOf_96 : decode cX12_wordOf 96 = .ok (.irem, 1) := by decide +kernel
theorem dX12_wordOf_97 : decode cX12_wordOf 97 = .ok (.ireturn, 1) := by decide +kernel
theorem dX12_wordOf_98 : decode cX12_wordOf 98 = .ok (.aload_n 0, 1) := by decide +kernel
theorem dX12_wordOf_99 : decode cX12_wordOf 99 = .ok (.iload_n 3, 1) := by decide +kernel
theorem dX12_wordOf_100 : decode cX12_wordOf 100 = .ok (.iconst 0, 1) := by decide +kernel
theorem dX12_wordOf_101 : decode cX12_wordOf 101 = .ok (.invokevirtual 242, 3) := by decide +kernel
theorem dX12_wordOf_104 : decode cX12_wordOf 104 = .ok (.ireturn, 1) := by decide +kernel
theorem dX12_wordOf_105 : decode cX12_wordOf 105 = .ok (.aload_n 0, 1) := by decide +kernel
theorem dX12_wordOf_106 : decode cX12_wordOf 106 = .ok (.getfield 9, 3) := by decide +kernel
theorem dX12_wordOf_109 : decode cX12_wordOf 109 = .ok (.bipush 57, 2) := by decide +kernel
theorem dX12_wordOf_111 : decode cX12_wordOf 111 = .ok (.iload_n 2, 1) := by decide +kernel
theorem dX12_wordOf_112 : decode cX12_wordOf 112 = .ok (.iadd, 1) := by decide +kernel
theorem dX12_wordOf_113 : decode cX12_wordOf 113 = .ok (.iaload, 1) := by decide +kernel
theorem dX12_wordOf_114 : decode cX12_wordOf 114 = .ok (.invokestatic 265, 3) := by decide +kernel
theorem dX12_wordOf_117 : decode cX12_wordOf 117 = .ok (.ireturn, 1) := by decide +kernel
theorem dX12_isWoken_0 : decode cX12_isWoken 0 = .ok (.aload_n 0, 1) := by decide +kernel
theorem dX12_isWoken_1 : decode cX12_isWoken 1 = .ok (.getfield 9, 3) := by decide +kernel
theorem dX12_isWoken_4 : decode cX12_isWoken 4 = .ok (.bipush 57, 2) := by decide +kernel
theorem dX12_isWoken_6 : decode cX12_isWoken 6 = .ok (.iload_n 1, 1) := by decide +kernel
theorem dX12_isWoken_7 : decode cX12_isWoken 7 = .ok (.iadd, 1) := by decide +kernel
theorem dX12_isWoken_8 : decode cX12_isWoken 8 = .ok (.iaload, 1) := by decide +kernel
theorem dX12_isWoken_9 : decode cX12_isWoken 9 = .ok (.iload_n 2, 1) := by decide +kernel
theorem dX12_isWoken_10 : decode cX12_isWoken 10 = .ok (.invokestatic 268, 3) := by decide +kernel
theorem dX12_isWoken_13 : decode cX12_isWoken 13 = .ok (.ifCond .eq 11, 3) := by decide +kernel
theorem dX12_isWoken_16 : decode cX12_isWoken 16 = .ok (.aload_n 0, 1) := by decide +kernel
theorem dX12_isWoken_17 : decode cX12_isWoken 17 = .ok (.iload_n 2, 1) := by decide +kernel
theorem dX12_isWoken_18 : decode cX12_isWoken 18 = .ok (.invokevirtual 271, 3) := by decide +kernel
theorem dX12_isWoken_21 : decode cX12_isWoken 21 = .ok (.ifCond .eq 5, 3) := by decide +kernel
theorem dX12_isWoken_24 : decode cX12_isWoken 24 = .ok (.iconst 0, 1) := by decide +kernel
theorem dX12_isWoken_25 : decode cX12_isWoken 25 = .ok (.ireturn, 1) := by decide +kernel
theorem dX12_isWoken_26 : decode cX12_isWoken 26 = .ok (.iconst 0, 1) := by decide +kernel
theorem dX12_isWoken_27 : decode cX12_isWoken 27 = .ok (.istore 4, 2) := by decide +kernel
theorem dX12_isWoken_29 : decode cX12_isWoken 29 = .ok (.iconst 0, 1) := by decide +kernel
theorem dX12_isWoken_30 : decode cX12_isWoken 30 = .ok (.istore 5, 2) := by decide +kernel
theorem dX12_isWoken_32 : decode cX12_isWoken 32 = .ok (.iload 5, 2) := by decide +kernel
theorem dX12_isWoken_34 : decode cX12_isWoken 34 = .ok (.aload_n 0, 1) := by decide +kernel
theorem dX12_isWoken_35 : decode cX12_isWoken 35 = .ok (.getfield 9, 3) := by decide +kernel
theorem dX12_isWoken_38 : decode cX12_isWoken 38 = .ok (.iconst 3, 1) := by decide +kernel
theorem dX12_isWoken_39 : decode cX12_isWoken 39 = .ok (.iaload, 1) := by decide +kernel
theorem dX12_isWoken_40 : decode cX12_isWoken 40 = .ok (.if_icmp .ge 136, 3) := by decide +kernel
theorem dX12_isWoken_43 : decode cX12_isWoken 43 = .ok (.aload_n 0, 1) := by decide +kernel
theorem dX12_isWoken_44 : decode cX12_isWoken 44 = .ok (.getfield 9, 3) := by decide +kernel
theorem dX12_isWoken_47 : decode cX12_isWoken 47 = .ok (.sipush 299, 3) := by decide +kernel
theorem dX12_isWoken_50 : decode cX12_isWoken 50 = .ok (.iload 5, 2) := by decide +kernel
theorem dX12_isWoken_52 : decode cX12_isWoken 52 = .ok (.iadd, 1) := by decide +kernel
theorem dX12_isWoken_53 : decode cX12_isWoken 53 = .ok (.iaload, 1) := by decide +kernel
theorem dX12_isWoken_54 : decode cX12_isWoken 54 = .ok (.istore 6, 2) := by decide +kernel
theorem dX12_isWoken_56 : decode cX12_isWoken 56 = .ok (.iload 6, 2) := by decide +kernel
theorem dX12_isWoken_58 : decode cX12_isWoken 58 = .ok (.bipush 100, 2) := by decide +kernel
theorem dX12_isWoken_60 : decode cX12_isWoken 60 = .ok (.if_icmp .lt 45, 3) := by decide +kernel
theorem dX12_isWoken_63 : decode cX12_isWoken 63 = .ok (.aload_n 0, 1) := by decide +kernel
theorem dX12_isWoken_64 : decode cX12_isWoken 64 = .ok (.getfield 30, 3) := by decide +kernel
theorem dX12_isWoken_67 : decode cX12_isWoken 67 = .ok (.iload 4, 2) := by decide +kernel
theorem dX12_isWoken_69 : decode cX12_isWoken 69 = .ok (.iload 6, 2) := by decide +kernel
theorem dX12_isWoken_71 : decode cX12_isWoken 71 = .ok (.sipush 1000, 3) := by decide +kernel
theorem dX12_isWoken_74 : decode cX12_isWoken 74 = .ok (.if_icmp .lt 12, 3) := by decide +kernel
theorem dX12_isWoken_77 : decode cX12_isWoken 77 = .ok (.iload 6, 2) := by decide +kernel
theorem dX12_isWoken_79 : decode cX12_isWoken 79 = .ok (.sipush 1000, 3) := by decide +kernel
theorem dX12_isWoken_82 : decode cX12_isWoken 82 = .ok (.isub, 1) := by decide +kernel
theorem dX12_isWoken_83 : decode cX12_isWoken 83 = .ok (.goto 15, 3) := by decide +kernel
theorem dX12_isWoken_86 : decode cX12_isWoken 86 = .ok (.aload_n 0, 1) := by decide +kernel
theorem dX12_isWoken_87 : decode cX12_isWoken 87 = .ok (.iload 6, 2) := by decide +kernel
theorem dX12_isWoken_89 : decode cX12_isWoken 89 = .ok (.bipush 100, 2) := by decide +kernel
theorem dX12_isWoken_91 : decode cX12_isWoken 91 = .ok (.isub, 1) := by decide +kernel
theorem dX12_isWoken_92 : decode cX12_isWoken 92 = .ok (.iload_n 1, 1) := by decide +kernel
theorem dX12_isWoken_93 : decode cX12_isWoken 93 = .ok (.iload_n 2, 1) := by decide +kernel
theorem dX12_isWoken_94 : decode cX12_isWoken 94 = .ok (.iload_n 3, 1) := by decide +kernel
theorem dX12_isWoken_95 : decode cX12_isWoken 95 = .ok (.invokevirtual 274, 3) := by decide +kernel
theorem dX12_isWoken_98 : decode cX12_isWoken 98 = .ok (.iastore, 1) := by decide +kernel
theorem dX12_isWoken_99 : decode cX12_isWoken 99 = .ok (.iinc 4 1, 3) := by decide +kernel
theorem dX12_isWoken_102 : decode cX12_isWoken 102 = .ok (.goto 68, 3) := by decide +kernel
theorem dX12_isWoken_105 : decode cX12_isWoken 105 = .ok (.iload 6, 2) := by decide +kernel
theorem dX12_isWoken_107 : decode cX12_isWoken 107 = .ok (.bipush 18, 2) := by decide +kernel
theorem dX12_isWoken_109 : decode cX12_isWoken 109 = .ok (.if_icmp .ne 26, 3) := by decide +kernel
theorem dX12_isWoken_112 : decode cX12_isWoken 112 = .ok (.aload_n 0, 1) := by decide +kernel
theorem dX12_isWoken_113 : decode cX12_isWoken 113 = .ok (.getfield 30, 3) := by decide +kernel
theorem dX12_isWoken_116 : decode cX12_isWoken 116 = .ok (.iload 4, 2) := by decide +kernel
theorem dX12_isWoken_118 : decode cX12_isWoken 118 = .ok (.iconst 1, 1) := by decide +kernel
theorem dX12_isWoken_119 : decode cX12_isWoken 119 = .ok (.isub, 1) := by decide +kernel
theorem dX12_isWoken_120 : decode cX12_isWoken 120 = .ok (.iconst 1, 1) := by decide +kernel
theorem dX12_isWoken_121 : decode cX12_isWoken 121 = .ok (.aload_n 0, 1) := by decide +kernel
theorem dX12_isWoken_122 : decode cX12_isWoken 122 = .ok (.getfield 30, 3) := by decide +kernel
theorem dX12_isWoken_125 : decode cX12_isWoken 125 = .ok (.iload 4, 2) := by decide +kernel
theorem dX12_isWoken_127 : decode cX12_isWoken 127 = .ok (.iconst 1, 1) := by decide +kernel
theorem dX12_isWoken_128 : decode cX12_isWoken 128 = .ok (.isub, 1) := by decide +kernel
theorem dX12_isWoken_129 : decode cX12_isWoken 129 = .ok (.iaload, 1) := by decide +kernel
theorem dX12_isWoken_130 : decode cX12_isWoken 130 = .ok (.isub, 1) := by decide +kernel
theorem dX12_isWoken_131 : decode cX12_isWoken 131 = .ok (.iastore, 1) := by decide +kernel
theorem dX12_isWoken_132 : decode cX12_isWoken 132 = .ok (.goto 38, 3) := by decide +kernel
theorem dX12_isWoken_135 : decode cX12_isWoken 135 = .ok (.iinc 4 (-1), 3) := by decide +kernel
theorem dX12_isWoken_138 : decode cX12_isWoken 138 = .ok (.aload_n 0, 1) := by decide +kernel
theorem dX12_isWoken_139 : decode cX12_isWoken 139 = .ok (.getfield 30, 3) := by decide +kernel
theorem dX12_isWoken_142 : decode cX12_isWoken 142 = .ok (.iload 4, 2) := by decide +kernel
theorem dX12_isWoken_144 : decode cX12_isWoken 144 = .ok (.iconst 1, 1) := by decide +kernel
theorem dX12_isWoken_145 : decode cX12_isWoken 145 = .ok (.isub, 1) := by decide +kernel
theorem dX12_isWoken_146 : decode cX12_isWoken 146 = .ok (.iload 6, 2) := by decide +kernel
theorem dX12_isWoken_148 : decode cX12_isWoken 148 = .ok (.aload_n 0, 1) := by decide +kernel
theorem dX12_isWoken_149 : decode cX12_isWoken 149 = .ok (.getfield 30, 3) := by decide +kernel
theorem dX12_isWoken_152 : decode cX12_isWoken 152 = .ok (.iload 4, 2) := by decide +kernel
theorem dX12_isWoken_154 : decode cX12_isWoken 154 = .ok (.iconst 1, 1) := by decide +kernel
theorem dX12_isWoken_155 : decode cX12_isWoken 155 = .ok (.isub, 1) := by decide +kernel
theorem dX12_isWoken_156 : decode cX12_isWoken 156 = .ok (.iaload, 1) := by decide +kernel
theorem dX12_isWoken_157 : decode cX12_isWoken 157 = .ok (.i2l, 1) := by decide +kernel
theorem dX12_isWoken_158 : decode cX12_isWoken 158 = .ok (.aload_n 0, 1) := by decide +kernel
theorem dX12_isWoken_159 : decode cX12_isWoken 159 = .ok (.getfield 30, 3) := by decide +kernel
theorem dX12_isWoken_162 : decode cX12_isWoken 162 = .ok (.iload 4, 2) := by decide +kernel
theorem dX12_isWoken_164 : decode cX12_isWoken 164 = .ok (.iaload, 1) := by decide +kernel
theorem dX12_isWoken_165 : decode cX12_isWoken 165 = .ok (.i2l, 1) := by decide +kernel
theorem dX12_isWoken_166 : decode cX12_isWoken 166 = .ok (.invokestatic 278, 3) := by decide +kernel
theorem dX12_isWoken_169 : decode cX12_isWoken 169 = .ok (.iastore, 1) := by decide +kernel
theorem dX12_isWoken_170 : decode cX12_isWoken 170 = .ok (.iinc 5 1, 3) := by decide +kernel
theorem dX12_isWoken_173 : decode cX12_isWoken 173 = .ok (.goto (-141), 3) := by decide +kernel
theorem dX12_isWoken_176 : decode cX12_isWoken 176 = .ok (.iload 4, 2) := by decide +kernel
theorem dX12_isWoken_178 : decode cX12_isWoken 178 = .ok (.ifCond .le 17, 3) := by decide +kernel
theorem dX12_isWoken_181 : decode cX12_isWoken 181 = .ok (.aload_n 0, 1) := by decide +kernel
theorem dX12_isWoken_182 : decode cX12_isWoken 182 = .ok (.getfield 30, 3) := by decide +kernel
theorem dX12_isWoken_185 : decode cX12_isWoken 185 = .ok (.iconst 0, 1) := by decide +kernel
theorem dX12_isWoken_186 : decode cX12_isWoken 186 = .ok (.iaload, 1) := by decide +kernel
theorem dX12_isWoken_187 : decode cX12_isWoken 187 = .ok (.iconst 1, 1) := by decide +kernel
theorem dX12_isWoken_188 : decode cX12_isWoken 188 = .ok (.if_icmp .ne 7, 3) := by decide +kernel
theorem dX12_isWoken_191 : decode cX12_isWoken 191 = .ok (.iconst 1, 1) := by decide +kernel
theorem dX12_isWoken_192 : decode cX12_isWoken 192 = .ok (.goto 4, 3) := by decide +kernel
theorem dX12_isWoken_195 : decode cX12_isWoken 195 = .ok (.iconst 0, 1) := by decide +kernel
theorem dX12_isWoken_196 : decode cX12_isWoken 196 = .ok (.ireturn, 1) := by decide +kernel
theorem dX12_wokenBy_0 : decode cX12_wokenBy 0 = .ok (.iconst 0, 1) := by decide +kernel
theorem dX12_wokenBy_1 : decode cX12_wokenBy 1 = .ok (.istore 4, 2) := by decide +kernel
theorem dX12_wokenBy_3 : decode cX12_wokenBy 3 = .ok (.iconst 0, 1) := by decide +kernel
theorem dX12_wokenBy_4 : decode cX12_wokenBy 4 = .ok (.istore 5, 2) := by decide +kernel
theorem dX12_wokenBy_6 : decode cX12_wokenBy 6 = .ok (.iload 5, 2) := by decide +kernel
theorem dX12_wokenBy_8 : decode cX12_wokenBy 8 = .ok (.aload_n 0, 1) := by decide +kernel
theorem dX12_wokenBy_9 : decode cX12_wokenBy 9 = .ok (.invokevirtual 239, 3) := by decide +kernel
theorem dX12_wokenBy_12 : decode cX12_wokenBy 12 = .ok (.if_icmp .ge 48, 3) := by decide +kernel
theorem dX12_wokenBy_15 : decode cX12_wokenBy 15 = .ok (.iload 4, 2) := by decide +kernel
theorem dX12_wokenBy_17 : decode cX12_wokenBy 17 = .ok (.iload 5, 2) := by decide +kernel
theorem dX12_wokenBy_19 : decode cX12_wokenBy 19 = .ok (.iload_n 1, 1) := by decide +kernel
theorem dX12_wokenBy_20 : decode cX12_wokenBy 20 = .ok (.if_icmp .eq 30, 3) := by decide +kernel
theorem dX12_wokenBy_23 : decode cX12_wokenBy 23 = .ok (.iload_n 3, 1) := by decide +kernel
theorem dX12_wokenBy_24 : decode cX12_wokenBy 24 = .ok (.iload 5, 2) := by decide +kernel
theorem dX12_wokenBy_26 : decode cX12_wokenBy 26 = .ok (.invokestatic 268, 3) := by decide +kernel
theorem dX12_wokenBy_29 : decode cX12_wokenBy 29 = .ok (.ifCond .ne 21, 3) := by decide +kernel
theorem dX12_wokenBy_32 : decode cX12_wokenBy 32 = .ok (.aload_n 0, 1) := by decide +kernel
theorem dX12_wokenBy_33 : decode cX12_wokenBy 33 = .ok (.iload_n 1, 1) := by decide +kernel
theorem dX12_wokenBy_34 : decode cX12_wokenBy 34 = .ok (.iload 5, 2) := by decide +kernel
theorem dX12_wokenBy_36 : decode cX12_wokenBy 36 = .ok (.iload_n 2, 1) := by decide +kernel
theorem dX12_wokenBy_37 : decode cX12_wokenBy 37 = .ok (.invokevirtual 282, 3) := by decide +kernel
theorem dX12_wokenBy_40 : decode cX12_wokenBy 40 = .ok (.ifCond .eq 10, 3) := by decide +kernel
theorem dX12_wokenBy_43 : decode cX12_wokenBy 43 = .ok (.iconst 1, 1) := by decide +kernel
theorem dX12_wokenBy_44 : decode cX12_wokenBy 44 = .ok (.iload 5, 2) := by decide +kernel
theorem dX12_wokenBy_46 : decode cX12_wokenBy 46 = .ok (.ishl, 1) := by decide +kernel
theorem dX12_wokenBy_47 : decode cX12_wokenBy 47 = .ok (.goto 4, 3) := by decide +kernel
theorem dX12_wokenBy_50 : decode cX12_wokenBy 50 = .ok (.iconst 0, 1) := by decide +kernel
theorem dX12_wokenBy_51 : decode cX12_wokenBy 51 = .ok (.ior, 1) := by decide +kernel
theorem dX12_wokenBy_52 : decode cX12_wokenBy 52 = .ok (.istore 4, 2) := by decide +kernel
theorem dX12_wokenBy_54 : decode cX12_wokenBy 54 = .ok (.iinc 5 1, 3) := by decide +kernel
theorem dX12_wokenBy_57 : decode cX12_wokenBy 57 = .ok (.goto (-51), 3) := by decide +kernel
theorem dX12_wokenBy_60 : decode cX12_wokenBy 60 = .ok (.iconst (-1), 1) := by decide +kernel
theorem dX12_wokenBy_61 : decode cX12_wokenBy 61 = .ok (.istore 5, 2) := by decide +kernel
theorem dX12_wokenBy_63 : decode cX12_wokenBy 63 = .ok (.iload 5, 2) := by decide +kernel
theorem dX12_wokenBy_65 : decode cX12_wokenBy 65 = .ok (.iload 4, 2) := by decide +kernel
theorem dX12_wokenBy_67 : decode cX12_wokenBy 67 = .ok (.if_icmp .eq 99, 3) := by decide +kernel
theorem dX12_wokenBy_70 : decode cX12_wokenBy 70 = .ok (.iload 4, 2) := by decide +kernel
theorem dX12_wokenBy_72 : decode cX12_wokenBy 72 = .ok (.istore 5, 2) := by decide +kernel
theorem dX12_wokenBy_74 : decode cX12_wokenBy 74 = .ok (.iconst 0, 1) := by decide +kernel
theorem dX12_wokenBy_75 : decode cX12_wokenBy 75 = .ok (.istore 6, 2) := by decide +kernel
theorem dX12_wokenBy_77 : decode cX12_wokenBy 77 = .ok (.iload 6, 2) := by decide +kernel
theorem dX12_wokenBy_79 : decode cX12_wokenBy 79 = .ok (.aload_n 0, 1) := by decide +kernel
theorem dX12_wokenBy_80 : decode cX12_wokenBy 80 = .ok (.invokevirtual 239, 3) := by decide +kernel
theorem dX12_wokenBy_83 : decode cX12_wokenBy 83 = .ok (.if_icmp .ge 80, 3) := by decide +kernel
theorem dX12_wokenBy_86 : decode cX12_wokenBy 86 = .ok (.iconst 0, 1) := by decide +kernel
theorem dX12_wokenBy_87 : decode cX12_wokenBy 87 = .ok (.istore 7, 2) := by decide +kernel
theorem dX12_wokenBy_89 : decode cX12_wokenBy 89 = .ok (.iload 7, 2) := by decide +kernel
theorem dX12_wokenBy_91 : decode cX12_wokenBy 91 = .ok (.aload_n 0, 1) := by decide +kernel
theorem dX12_wokenBy_92 : decode cX12_wokenBy 92 = .ok (.invokevirtual 239, 3) := by decide +kernel
theorem dX12_wokenBy_95 : decode cX12_wokenBy 95 = .ok (.if_icmp .ge 62, 3) := by decide +kernel
theorem dX12_wokenBy_98 : decode cX12_wokenBy 98 = .ok (.iload 5, 2) := by decide +kernel
theorem dX12_wokenBy_100 : decode cX12_wokenBy 100 = .ok (.iload 6, 2) := by decide +kernel
theorem dX12_wokenBy_102 : decode cX12_wokenBy 102 = .ok (.invokestatic 268, 3) := by decide +kernel
theorem dX12_wokenBy_105 : decode cX12_wokenBy 105 = .ok (.ifCond .eq 52, 3) := by decide +kernel
theorem dX12_wokenBy_108 : decode cX12_wokenBy 108 = .ok (.iload 4, 2) := by decide +kernel
theorem dX12_wokenBy_110 : decode cX12_wokenBy 110 = .ok (.iload 7, 2) := by decide +kernel
theorem dX12_wokenBy_112 : decode cX12_wokenBy 112 = .ok (.iload_n 1, 1) := by decide +kernel
theorem dX12_wokenBy_113 : decode cX12_wokenBy 113 = .ok (.if_icmp .eq 34, 3) := by decide +kernel
theorem dX12_wokenBy_116 : decode cX12_wokenBy 116 = .ok (.iload_n 3, 1) := by decide +kernel
theorem dX12_wokenBy_117 : decode cX12_wokenBy 117 = .ok (.iload 4, 2) := by decide +kernel
theorem dX12_wokenBy_119 : decode cX12_wokenBy 119 = .ok (.ior, 1) := by decide +kernel
theorem dX12_wokenBy_120 : decode cX12_wokenBy 120 = .ok (.iload 7, 2) := by decide +kernel
theorem dX12_wokenBy_122 : decode cX12_wokenBy 122 = .ok (.invokestatic 268, 3) := by decide +kernel
theorem dX12_wokenBy_125 : decode cX12_wokenBy 125 = .ok (.ifCond .ne 22, 3) := by decide +kernel
theorem dX12_wokenBy_128 : decode cX12_wokenBy 128 = .ok (.aload_n 0, 1) := by decide +kernel
theorem dX12_wokenBy_129 : decode cX12_wokenBy 129 = .ok (.iload 6, 2) := by decide +kernel
theorem dX12_wokenBy_131 : decode cX12_wokenBy 131 = .ok (.iload 7, 2) := by decide +kernel
theorem dX12_wokenBy_133 : decode cX12_wokenBy 133 = .ok (.iconst 0, 1) := by decide +kernel
theorem dX12_wokenBy_134 : decode cX12_wokenBy 134 = .ok (.invokevirtual 282, 3) := by decide +kernel
theorem dX12_wokenBy_137 : decode cX12_wokenBy 137 = .ok (.ifCond .eq 10, 3) := by decide +kernel
theorem dX12_wokenBy_140 : decode cX12_wokenBy 140 = .ok (.iconst 1, 1) := by decide +kernel
theorem dX12_wokenBy_141 : decode cX12_wokenBy 141 = .ok (.iload 7, 2) := by decide +kernel
theorem dX12_wokenBy_143 : decode cX12_wokenBy 143 = .ok (.ishl, 1) := by decide +kernel
theorem dX12_wokenBy_144 : decode cX12_wokenBy 144 = .ok (.goto 4, 3) := by decide +kernel
theorem dX12_wokenBy_147 : decode cX12_wokenBy 147 = .ok (.iconst 0, 1) := by decide +kernel
theorem dX12_wokenBy_148 : decode cX12_wokenBy 148 = .ok (.ior, 1) := by decide +kernel
theorem dX12_wokenBy_149 : decode cX12_wokenBy 149 = .ok (.istore 4, 2) := by decide +kernel
theorem dX12_wokenBy_151 : decode cX12_wokenBy 151 = .ok (.iinc 7 1, 3) := by decide +kernel
theorem dX12_wokenBy_154 : decode cX12_wokenBy 154 = .ok (.goto (-65), 3) := by decide +kernel
theorem dX12_wokenBy_157 : decode cX12_wokenBy 157 = .ok (.iinc 6 1, 3) := by decide +kernel
theorem dX12_wokenBy_160 : decode cX12_wokenBy 160 = .ok (.goto (-83), 3) := by decide +kernel
theorem dX12_wokenBy_163 : decode cX12_wokenBy 163 = .ok (.goto (-100), 3) := by decide +kernel
theorem dX12_wokenBy_166 : decode cX12_wokenBy 166 = .ok (.iload 4, 2) := by decide +kernel
theorem dX12_wokenBy_168 : decode cX12_wokenBy 168 = .ok (.ireturn, 1) := by decide +kernel
theorem dX12_chainOf_0 : decode cX12_chainOf 0 = .ok (.aload_n 0, 1) := by decide +kernel
theorem dX12_chainOf_1 : decode cX12_chainOf 1 = .ok (.iload_n 1, 1) := by decide +kernel
theorem dX12_chainOf_2 : decode cX12_chainOf 2 = .ok (.iload_n 2, 1) := by decide +kernel
theorem dX12_chainOf_3 : decode cX12_chainOf 3 = .ok (.iconst 0, 1) := by decide +kernel
theorem dX12_chainOf_4 : decode cX12_chainOf 4 = .ok (.invokevirtual 286, 3) := by decide +kernel
theorem dX12_chainOf_7 : decode cX12_chainOf 7 = .ok (.ireturn, 1) := by decide +kernel
theorem dX12_wake_0 : decode cX12_wake 0 = .ok (.iconst 0, 1) := by decide +kernel
theorem dX12_wake_1 : decode cX12_wake 1 = .ok (.istore_n 2, 1) := by decide +kernel
theorem dX12_wake_2 : decode cX12_wake 2 = .ok (.iload_n 2, 1) := by decide +kernel
theorem dX12_wake_3 : decode cX12_wake 3 = .ok (.aload_n 0, 1) := by decide +kernel
theorem dX12_wake_4 : decode cX12_wake 4 = .ok (.invokevirtual 239, 3) := by decide +kernel
theorem dX12_wake_7 : decode cX12_wake 7 = .ok (.if_icmp .ge 23, 3) := by decide +kernel
theorem dX12_wake_10 : decode cX12_wake 10 = .ok (.iload_n 1, 1) := by decide +kernel
theorem dX12_wake_11 : decode cX12_wake 11 = .ok (.iload_n 2, 1) := by decide +kernel
theorem dX12_wake_12 : decode cX12_wake 12 = .ok (.invokestatic 268, 3) := by decide +kernel
theorem dX12_wake_15 : decode cX12_wake 15 = .ok (.ifCond .eq 9, 3) := by decide +kernel
theorem dX12_wake_18 : decode cX12_wake 18 = .ok (.aload_n 0, 1) := by decide +kernel
theorem dX12_wake_19 : decode cX12_wake 19 = .ok (.iload_n 2, 1) := by decide +kernel
theorem dX12_wake_20 : decode cX12_wake 20 = .ok (.iconst 0, 1) := by decide +kernel
theorem dX12_wake_21 : decode cX12_wake 21 = .ok (.invokevirtual 290, 3) := by decide +kernel
theorem dX12_wake_24 : decode cX12_wake 24 = .ok (.iinc 2 1, 3) := by decide +kernel
theorem dX12_wake_27 : decode cX12_wake 27 = .ok (.goto (-25), 3) := by decide +kernel
theorem dX12_wake_30 : decode cX12_wake 30 = .ok (.iload_n 1, 1) := by decide +kernel
theorem dX12_wake_31 : decode cX12_wake 31 = .ok (.invokestatic 265, 3) := by decide +kernel
theorem dX12_wake_34 : decode cX12_wake 34 = .ok (.iconst 1, 1) := by decide +kernel
theorem dX12_wake_35 : decode cX12_wake 35 = .ok (.if_icmp .le 14, 3) := by decide +kernel
theorem dX12_wake_38 : decode cX12_wake 38 = .ok (.aload_n 0, 1) := by decide +kernel
theorem dX12_wake_39 : decode cX12_wake 39 = .ok (.getfield 9, 3) := by decide +kernel
theorem dX12_wake_42 : decode cX12_wake 42 = .ok (.bipush 25, 2) := by decide +kernel
theorem dX12_wake_44 : decode cX12_wake 44 = .ok (.dup2, 1) := by decide +kernel
theorem dX12_wake_45 : decode cX12_wake 45 = .ok (.iaload, 1) := by decide +kernel
theorem dX12_wake_46 : decode cX12_wake 46 = .ok (.iload_n 1, 1) := by decide +kernel
theorem dX12_wake_47 : decode cX12_wake 47 = .ok (.ior, 1) := by decide +kernel
theorem dX12_wake_48 : decode cX12_wake 48 = .ok (.iastore, 1) := by decide +kernel
theorem dX12_wake_49 : decode cX12_wake 49 = .ok (.iload_n 1, 1) := by decide +kernel
theorem dX12_wake_50 : decode cX12_wake 50 = .ok (.invokestatic 265, 3) := by decide +kernel
theorem dX12_wake_53 : decode cX12_wake 53 = .ok (.ireturn, 1) := by decide +kernel
theorem dX12_hour_0 : decode cX12_hour 0 = .ok (.aload_n 0, 1) := by decide +kernel
theorem dX12_hour_1 : decode cX12_hour 1 = .ok (.iconst 0, 1) := by decide +kernel
theorem dX12_hour_2 : decode cX12_hour 2 = .ok (.invokevirtual 294, 3) := by decide +kernel
theorem dX12_hour_5 : decode cX12_hour 5 = .ok (.istore_n 1, 1) := by decide +kernel
theorem dX12_hour_6 : decode cX12_hour 6 = .ok (.iconst 0, 1) := by decide +kernel
theorem dX12_hour_7 : decode cX12_hour 7 = .ok (.istore_n 2, 1) := by decide +kernel
theorem dX12_hour_8 : decode cX12_hour 8 = .ok (.iload_n 2, 1) := by decide +kernel
theorem dX12_hour_9 : decode cX12_hour 9 = .ok (.aload_n 0, 1) := by decide +kernel
theorem dX12_hour_10 : decode cX12_hour 10 = .ok (.invokevirtual 239, 3) := by decide +kernel
theorem dX12_hour_13 : decode cX12_hour 13 = .ok (.if_icmp .ge 49, 3) := by decide +kernel
theorem dX12_hour_16 : decode cX12_hour 16 = .ok (.iload_n 1, 1) := by decide +kernel
theorem dX12_hour_17 : decode cX12_hour 17 = .ok (.iload_n 2, 1) := by decide +kernel
theorem dX12_hour_18 : decode cX12_hour 18 = .ok (.invokestatic 268, 3) := by decide +kernel
theorem dX12_hour_21 : decode cX12_hour 21 = .ok (.ifCond .ne 35, 3) := by decide +kernel
theorem dX12_hour_24 : decode cX12_hour 24 = .ok (.aload_n 0, 1) := by decide +kernel
theorem dX12_hour_25 : decode cX12_hour 25 = .ok (.getfield 9, 3) := by decide +kernel
theorem dX12_hour_28 : decode cX12_hour 28 = .ok (.bipush 15, 2) := by decide +kernel
theorem dX12_hour_30 : decode cX12_hour 30 = .ok (.iload_n 2, 1) := by decide +kernel
theorem dX12_hour_31 : decode cX12_hour 31 = .ok (.iadd, 1) := by decide +kernel
theorem dX12_hour_32 : decode cX12_hour 32 = .ok (.aload_n 0, 1) := by decide +kernel
theorem dX12_hour_33 : decode cX12_hour 33 = .ok (.getfield 9, 3) := by decide +kernel
theorem dX12_hour_36 : decode cX12_hour 36 = .ok (.bipush 47, 2) := by decide +kernel
theorem dX12_hour_38 : decode cX12_hour 38 = .ok (.iload_n 2, 1) := by decide +kernel
theorem dX12_hour_39 : decode cX12_hour 39 = .ok (.iadd, 1) := by decide +kernel
theorem dX12_hour_40 : decode cX12_hour 40 = .ok (.iaload, 1) := by decide +kernel
theorem dX12_hour_41 : decode cX12_hour 41 = .ok (.aload_n 0, 1) := by decide +kernel
theorem dX12_hour_42 : decode cX12_hour 42 = .ok (.getfield 9, 3) := by decide +kernel
theorem dX12_hour_45 : decode cX12_hour 45 = .ok (.bipush 15, 2) := by decide +kernel
theorem dX12_hour_47 : decode cX12_hour 47 = .ok (.iload_n 2, 1) := by decide +kernel
theorem dX12_hour_48 : decode cX12_hour 48 = .ok (.iadd, 1) := by decide +kernel
theorem dX12_hour_49 : decode cX12_hour 49 = .ok (.iaload, 1) := by decide +kernel
theorem dX12_hour_50 : decode cX12_hour 50 = .ok (.iconst 1, 1) := by decide +kernel
theorem dX12_hour_51 : decode cX12_hour 51 = .ok (.iadd, 1) := by decide +kernel
theorem dX12_hour_52 : decode cX12_hour 52 = .ok (.invokestatic 297, 3) := by decide +kernel
theorem dX12_hour_55 : decode cX12_hour 55 = .ok (.iastore, 1) := by decide +kernel
theorem dX12_hour_56 : decode cX12_hour 56 = .ok (.iinc 2 1, 3) := by decide +kernel
theorem dX12_hour_59 : decode cX12_hour 59 = .ok (.goto (-51), 3) := by decide +kernel
theorem dX12_hour_62 : decode cX12_hour 62 = .ok (.iconst 0, 1) := by decide +kernel
theorem dX12_hour_63 : decode cX12_hour 63 = .ok (.istore_n 2, 1) := by decide +kernel
theorem dX12_hour_64 : decode cX12_hour 64 = .ok (.iload_n 2, 1) := by decide +kernel
theorem dX12_hour_65 : decode cX12_hour 65 = .ok (.aload_n 0, 1) := by decide +kernel
theorem dX12_hour_66 : decode cX12_hour 66 = .ok (.invokevirtual 239, 3) := by decide +kernel
theorem dX12_hour_69 : decode cX12_hour 69 = .ok (.if_icmp .ge 65, 3) := by decide +kernel
theorem dX12_hour_72 : decode cX12_hour 72 = .ok (.iload_n 2, 1) := by decide +kernel
theorem dX12_hour_73 : decode cX12_hour 73 = .ok (.iconst 1, 1) := by decide +kernel
theorem dX12_hour_74 : decode cX12_hour 74 = .ok (.iadd, 1) := by decide +kernel
theorem dX12_hour_75 : decode cX12_hour 75 = .ok (.istore_n 3, 1) := by decide +kernel
theorem dX12_hour_76 : decode cX12_hour 76 = .ok (.iload_n 3, 1) := by decide +kernel
theorem dX12_hour_77 : decode cX12_hour 77 = .ok (.aload_n 0, 1) := by decide +kernel
theorem dX12_hour_78 : decode cX12_hour 78 = .ok (.invokevirtual 239, 3) := by decide +kernel
theorem dX12_hour_81 : decode cX12_hour 81 = .ok (.if_icmp .ge 47, 3) := by decide +kernel
theorem dX12_hour_84 : decode cX12_hour 84 = .ok (.aload_n 0, 1) := by decide +kernel
theorem dX12_hour_85 : decode cX12_hour 85 = .ok (.getfield 9, 3) := by decide +kernel
theorem dX12_hour_88 : decode cX12_hour 88 = .ok (.bipush 57, 2) := by decide +kernel
theorem dX12_hour_90 : decode cX12_hour 90 = .ok (.iload_n 2, 1) := by decide +kernel
theorem dX12_hour_91 : decode cX12_hour 91 = .ok (.iadd, 1) := by decide +kernel
theorem dX12_hour_92 : decode cX12_hour 92 = .ok (.iaload, 1) := by decide +kernel
theorem dX12_hour_93 : decode cX12_hour 93 = .ok (.iload_n 3, 1) := by decide +kernel
theorem dX12_hour_94 : decode cX12_hour 94 = .ok (.invokestatic 268, 3) := by decide +kernel
theorem dX12_hour_97 : decode cX12_hour 97 = .ok (.ifCond .eq 25, 3) := by decide +kernel
theorem dX12_hour_100 : decode cX12_hour 100 = .ok (.iload_n 1, 1) := by decide +kernel
theorem dX12_hour_101 : decode cX12_hour 101 = .ok (.iload_n 2, 1) := by decide +kernel
theorem dX12_hour_102 : decode cX12_hour 102 = .ok (.invokestatic 268, 3) := by decide +kernel
theorem dX12_hour_105 : decode cX12_hour 105 = .ok (.ifCond .ne 17, 3) := by decide +kernel
theorem dX12_hour_108 : decode cX12_hour 108 = .ok (.iload_n 1, 1) := by decide +kernel
theorem dX12_hour_109 : decode cX12_hour 109 = .ok (.iload_n 3, 1) := by decide +kernel
theorem dX12_hour_110 : decode cX12_hour 110 = .ok (.invokestatic 268, 3) := by decide +kernel
theorem dX12_hour_113 : decode cX12_hour 113 = .ok (.ifCond .ne 9, 3) := by decide +kernel
theorem dX12_hour_116 : decode cX12_hour 116 = .ok (.aload_n 0, 1) := by decide +kernel
theorem dX12_hour_117 : decode cX12_hour 117 = .ok (.iload_n 2, 1) := by decide +kernel
theorem dX12_hour_118 : decode cX12_hour 118 = .ok (.iload_n 3, 1) := by decide +kernel
theorem dX12_hour_119 : decode cX12_hour 119 = .ok (.invokevirtual 299, 3) := by decide +kernel
theorem dX12_hour_122 : decode cX12_hour 122 = .ok (.iinc 3 1, 3) := by decide +kernel
theorem dX12_hour_125 : decode cX12_hour 125 = .ok (.goto (-49), 3) := by decide +kernel
theorem dX12_hour_128 : decode cX12_hour 128 = .ok (.iinc 2 1, 3) := by decide +kernel
theorem dX12_hour_131 : decode cX12_hour 131 = .ok (.goto (-67), 3) := by decide +kernel
theorem dX12_hour_134 : decode cX12_hour 134 = .ok (.aload_n 0, 1) := by decide +kernel
theorem dX12_hour_135 : decode cX12_hour 135 = .ok (.getfield 9, 3) := by decide +kernel
theorem dX12_hour_138 : decode cX12_hour 138 = .ok (.bipush 26, 2) := by decide +kernel
theorem dX12_hour_140 : decode cX12_hour 140 = .ok (.dup2, 1) := by decide +kernel
theorem dX12_hour_141 : decode cX12_hour 141 = .ok (.iaload, 1) := by decide +kernel
theorem dX12_hour_142 : decode cX12_hour 142 = .ok (.iconst 1, 1) := by decide +kernel
theorem dX12_hour_143 : decode cX12_hour 143 = .ok (.iadd, 1) := by decide +kernel
theorem dX12_hour_144 : decode cX12_hour 144 = .ok (.iastore, 1) := by decide +kernel
theorem dX12_hour_145 : decode cX12_hour 145 = .ok (.aload_n 0, 1) := by decide +kernel
theorem dX12_hour_146 : decode cX12_hour 146 = .ok (.getfield 9, 3) := by decide +kernel
theorem dX12_hour_149 : decode cX12_hour 149 = .ok (.bipush 25, 2) := by decide +kernel
theorem dX12_hour_151 : decode cX12_hour 151 = .ok (.dup2, 1) := by decide +kernel
theorem dX12_hour_152 : decode cX12_hour 152 = .ok (.iaload, 1) := by decide +kernel
theorem dX12_hour_153 : decode cX12_hour 153 = .ok (.aload_n 0, 1) := by decide +kernel
theorem dX12_hour_154 : decode cX12_hour 154 = .ok (.iconst 0, 1) := by decide +kernel
theorem dX12_hour_155 : decode cX12_hour 155 = .ok (.invokevirtual 294, 3) := by decide +kernel
theorem dX12_hour_158 : decode cX12_hour 158 = .ok (.iand, 1) := by decide +kernel
theorem dX12_hour_159 : decode cX12_hour 159 = .ok (.iastore, 1) := by decide +kernel
theorem dX12_hour_160 : decode cX12_hour 160 = .ok (.return_, 1) := by decide +kernel
theorem dX12_dreams_0 : decode cX12_dreams 0 = .ok (.aload_n 0, 1) := by decide +kernel
theorem dX12_dreams_1 : decode cX12_dreams 1 = .ok (.getfield 9, 3) := by decide +kernel
theorem dX12_dreams_4 : decode cX12_dreams 4 = .ok (.bipush 15, 2) := by decide +kernel
theorem dX12_dreams_6 : decode cX12_dreams 6 = .ok (.iload_n 1, 1) := by decide +kernel
theorem dX12_dreams_7 : decode cX12_dreams 7 = .ok (.iadd, 1) := by decide +kernel
theorem dX12_dreams_8 : decode cX12_dreams 8 = .ok (.iaload, 1) := by decide +kernel
theorem dX12_dreams_9 : decode cX12_dreams 9 = .ok (.aload_n 0, 1) := by decide +kernel
theorem dX12_dreams_10 : decode cX12_dreams 10 = .ok (.getfield 9, 3) := by decide +kernel
theorem dX12_dreams_13 : decode cX12_dreams 13 = .ok (.bipush 15, 2) := by decide +kernel
theorem dX12_dreams_15 : decode cX12_dreams 15 = .ok (.iload_n 2, 1) := by decide +kernel
theorem dX12_dreams_16 : decode cX12_dreams 16 = .ok (.iadd, 1) := by decide +kernel
theorem dX12_dreams_17 : decode cX12_dreams 17 = .ok (.iaload, 1) := by decide +kernel
theorem dX12_dreams_18 : decode cX12_dreams 18 = .ok (.isub, 1) := by decide +kernel
theorem dX12_dreams_19 : decode cX12_dreams 19 = .ok (.istore_n 3, 1) := by decide +kernel
theorem dX12_dreams_20 : decode cX12_dreams 20 = .ok (.iload_n 3, 1) := by decide +kernel
theorem dX12_dreams_21 : decode cX12_dreams 21 = .ok (.bipush (-2), 2) := by decide +kernel
theorem dX12_dreams_23 : decode cX12_dreams 23 = .ok (.if_icmp .le 9, 3) := by decide +kernel
theorem dX12_dreams_26 : decode cX12_dreams 26 = .ok (.iload_n 3, 1) := by decide +kernel
theorem dX12_dreams_27 : decode cX12_dreams 27 = .ok (.iconst 2, 1) := by decide +kernel
theorem dX12_dreams_28 : decode cX12_dreams 28 = .ok (.if_icmp .ge 4, 3) := by decide +kernel
theorem dX12_dreams_31 : decode cX12_dreams 31 = .ok (.return_, 1) := by decide +kernel
theorem dX12_dreams_32 : decode cX12_dreams 32 = .ok (.iload_n 3, 1) := by decide +kernel
theorem dX12_dreams_33 : decode cX12_dreams 33 = .ok (.ifCond .le 7, 3) := by decide +kernel
theorem dX12_dreams_36 : decode cX12_dreams 36 = .ok (.iload_n 1, 1) := by decide +kernel
theorem dX12_dreams_37 : decode cX12_dreams 37 = .ok (.goto 4, 3) := by decide +kernel
theorem dX12_dreams_40 : decode cX12_dreams 40 = .ok (.iload_n 2, 1) := by decide +kernel
theorem dX12_dreams_41 : decode cX12_dreams 41 = .ok (.istore 4, 2) := by decide +kernel
theorem dX12_dreams_43 : decode cX12_dreams 43 = .ok (.iload_n 3, 1) := by decide +kernel
theorem dX12_dreams_44 : decode cX12_dreams 44 = .ok (.ifCond .le 7, 3) := by decide +kernel
theorem dX12_dreams_47 : decode cX12_dreams 47 = .ok (.iload_n 2, 1) := by decide +kernel
theorem dX12_dreams_48 : decode cX12_dreams 48 = .ok (.goto 4, 3) := by decide +kernel
theorem dX12_dreams_51 : decode cX12_dreams 51 = .ok (.iload_n 1, 1) := by decide +kernel
theorem dX12_dreams_52 : decode cX12_dreams 52 = .ok (.istore 5, 2) := by decide +kernel
theorem dX12_dreams_54 : decode cX12_dreams 54 = .ok (.aload_n 0, 1) := by decide +kernel
theorem dX12_dreams_55 : decode cX12_dreams 55 = .ok (.getfield 9, 3) := by decide +kernel
theorem dX12_dreams_58 : decode cX12_dreams 58 = .ok (.bipush 15, 2) := by decide +kernel
theorem dX12_dreams_60 : decode cX12_dreams 60 = .ok (.iload 5, 2) := by decide +kernel
theorem dX12_dreams_62 : decode cX12_dreams 62 = .ok (.iadd, 1) := by decide +kernel
theorem dX12_dreams_63 : decode cX12_dreams 63 = .ok (.iaload, 1) := by decide +kernel
theorem dX12_dreams_64 : decode cX12_dreams 64 = .ok (.aload_n 0, 1) := by decide +kernel
theorem dX12_dreams_65 : decode cX12_dreams 65 = .ok (.getfield 9, 3) := by decide +kernel
theorem dX12_dreams_68 : decode cX12_dreams 68 = .ok (.bipush 47, 2) := by decide +kernel
theorem dX12_dreams_70 : decode cX12_dreams 70 = .ok (.iload 5, 2) := by decide +kernel
theorem dX12_dreams_72 : decode cX12_dreams 72 = .ok (.iadd, 1) := by decide +kernel
theorem dX12_dreams_73 : decode cX12_dreams 73 = .ok (.iaload, 1) := by decide +kernel
theorem dX12_dreams_74 : decode cX12_dreams 74 = .ok (.if_icmp .lt 4, 3) := by decide +kernel
theorem dX12_dreams_77 : decode cX12_dreams 77 = .ok (.return_, 1) := by decide +kernel
theorem dX12_dreams_78 : decode cX12_dreams 78 = .ok (.aload_n 0, 1) := by decide +kernel
theorem dX12_dreams_79 : decode cX12_dreams 79 = .ok (.getfield 9, 3) := by decide +kernel
theorem dX12_dreams_82 : decode cX12_dreams 82 = .ok (.bipush 15, 2) := by decide +kernel
theorem dX12_dreams_84 : decode cX12_dreams 84 = .ok (.iload 4, 2) := by decide +kernel
theorem dX12_dreams_86 : decode cX12_dreams 86 = .ok (.iadd, 1) := by decide +kernel
theorem dX12_dreams_87 : decode cX12_dreams 87 = .ok (.dup2, 1) := by decide +kernel
theorem dX12_dreams_88 : decode cX12_dreams 88 = .ok (.iaload, 1) := by decide +kernel
theorem dX12_dreams_89 : decode cX12_dreams 89 = .ok (.iconst 1, 1) := by decide +kernel
theorem dX12_dreams_90 : decode cX12_dreams 90 = .ok (.isub, 1) := by decide +kernel
theorem dX12_dreams_91 : decode cX12_dreams 91 = .ok (.iastore, 1) := by decide +kernel
theorem dX12_dreams_92 : decode cX12_dreams 92 = .ok (.aload_n 0, 1) := by decide +kernel
theorem dX12_dreams_93 : decode cX12_dreams 93 = .ok (.getfield 9, 3) := by decide +kernel
theorem dX12_dreams_96 : decode cX12_dreams 96 = .ok (.bipush 15, 2) := by decide +kernel
theorem dX12_dreams_98 : decode cX12_dreams 98 = .ok (.iload 5, 2) := by decide +kernel
theorem dX12_dreams_100 : decode cX12_dreams 100 = .ok (.iadd, 1) := by decide +kernel
theorem dX12_dreams_101 : decode cX12_dreams 101 = .ok (.dup2, 1) := by decide +kernel
theorem dX12_dreams_102 : decode cX12_dreams 102 = .ok (.iaload, 1) := by decide +kernel
theorem dX12_dreams_103 : decode cX12_dreams 103 = .ok (.iconst 1, 1) := by decide +kernel
theorem dX12_dreams_104 : decode cX12_dreams 104 = .ok (.iadd, 1) := by decide +kernel
theorem dX12_dreams_105 : decode cX12_dreams 105 = .ok (.iastore, 1) := by decide +kernel
theorem dX12_dreams_106 : decode cX12_dreams 106 = .ok (.return_, 1) := by decide +kernel
theorem dX12_well_0 : decode cX12_well 0 = .ok (.aload_n 0, 1) := by decide +kernel
theorem dX12_well_1 : decode cX12_well 1 = .ok (.aload_n 0, 1) := by decide +kernel
theorem dX12_well_2 : decode cX12_well 2 = .ok (.iload_n 1, 1) := by decide +kernel
theorem dX12_well_3 : decode cX12_well 3 = .ok (.i2l, 1) := by decide +kernel
theorem dX12_well_4 : decode cX12_well 4 = .ok (.invokevirtual 302, 3) := by decide +kernel
theorem dX12_well_7 : decode cX12_well 7 = .ok (.ifCond .ne 7, 3) := by decide +kernel
theorem dX12_well_10 : decode cX12_well 10 = .ok (.iconst 1, 1) := by decide +kernel
theorem dX12_well_11 : decode cX12_well 11 = .ok (.goto 20, 3) := by decide +kernel
theorem dX12_well_14 : decode cX12_well 14 = .ok (.iload_n 2, 1) := by decide +kernel
theorem dX12_well_15 : decode cX12_well 15 = .ok (.i2l, 1) := by decide +kernel
theorem dX12_well_16 : decode cX12_well 16 = .ok (.lconst 0, 1) := by decide +kernel
theorem dX12_well_17 : decode cX12_well 17 = .ok (.ldc2_w 306, 3) := by decide +kernel
theorem dX12_well_20 : decode cX12_well 20 = .ok (.invokestatic 119, 3) := by decide +kernel
theorem dX12_well_23 : decode cX12_well 23 = .ok (.ifCond .eq 7, 3) := by decide +kernel
theorem dX12_well_26 : decode cX12_well 26 = .ok (.iconst 0, 1) := by decide +kernel
theorem dX12_well_27 : decode cX12_well 27 = .ok (.goto 4, 3) := by decide +kernel
theorem dX12_well_30 : decode cX12_well 30 = .ok (.iconst 2, 1) := by decide +kernel
theorem dX12_well_31 : decode cX12_well 31 = .ok (.putfield 58, 3) := by decide +kernel
theorem dX12_well_34 : decode cX12_well 34 = .ok (.aload_n 0, 1) := by decide +kernel
theorem dX12_well_35 : decode cX12_well 35 = .ok (.getfield 58, 3) := by decide +kernel
theorem dX12_well_38 : decode cX12_well 38 = .ok (.ifCond .le 5, 3) := by decide +kernel
theorem dX12_well_41 : decode cX12_well 41 = .ok (.iconst 0, 1) := by decide +kernel
theorem dX12_well_42 : decode cX12_well 42 = .ok (.ireturn, 1) := by decide +kernel
theorem dX12_well_43 : decode cX12_well 43 = .ok (.iload_n 2, 1) := by decide +kernel
theorem dX12_well_44 : decode cX12_well 44 = .ok (.tableswitch 138 0 7 #[48, 58, 68, 77, 87, 97, 104, 118], 48) := by decide +kernel
theorem dX12_well_92 : decode cX12_well 92 = .ok (.aload_n 0, 1) := by decide +kernel
theorem dX12_well_93 : decode cX12_well 93 = .ok (.getfield 9, 3) := by decide +kernel
theorem dX12_well_96 : decode cX12_well 96 = .ok (.bipush 27, 2) := by decide +kernel
theorem dX12_well_98 : decode cX12_well 98 = .ok (.iload_n 1, 1) := by decide +kernel
theorem dX12_well_99 : decode cX12_well 99 = .ok (.iadd, 1) := by decide +kernel
theorem dX12_well_100 : decode cX12_well 100 = .ok (.iaload, 1) := by decide +kernel
theorem dX12_well_101 : decode cX12_well 101 = .ok (.ireturn, 1) := by decide +kernel
theorem dX12_well_102 : decode cX12_well 102 = .ok (.aload_n 0, 1) := by decide +kernel
theorem dX12_well_103 : decode cX12_well 103 = .ok (.getfield 9, 3) := by decide +kernel
theorem dX12_well_106 : decode cX12_well 106 = .ok (.bipush 37, 2) := by decide +kernel
theorem dX12_well_108 : decode cX12_well 108 = .ok (.iload_n 1, 1) := by decide +kernel
theorem dX12_well_109 : decode cX12_well 109 = .ok (.iadd, 1) := by decide +kernel
theorem dX12_well_110 : decode cX12_well 110 = .ok (.iaload, 1) := by decide +kernel
theorem dX12_well_111 : decode cX12_well 111 = .ok (.ireturn, 1) := by decide +kernel
theorem dX12_well_112 : decode cX12_well 112 = .ok (.aload_n 0, 1) := by decide +kernel
theorem dX12_well_113 : decode cX12_well 113 = .ok (.getfield 9, 3) := by decide +kernel
theorem dX12_well_116 : decode cX12_well 116 = .ok (.iconst 5, 1) := by decide +kernel
theorem dX12_well_117 : decode cX12_well 117 = .ok (.iload_n 1, 1) := by decide +kernel
theorem dX12_well_118 : decode cX12_well 118 = .ok (.iadd, 1) := by decide +kernel
theorem dX12_well_119 : decode cX12_well 119 = .ok (.iaload, 1) := by decide +kernel
theorem dX12_well_120 : decode cX12_well 120 = .ok (.ireturn, 1) := by decide +kernel
theorem dX12_well_121 : decode cX12_well 121 = .ok (.aload_n 0, 1) := by decide +kernel
theorem dX12_well_122 : decode cX12_well 122 = .ok (.getfield 9, 3) := by decide +kernel
theorem dX12_well_125 : decode cX12_well 125 = .ok (.bipush 47, 2) := by decide +kernel
theorem dX12_well_127 : decode cX12_well 127 = .ok (.iload_n 1, 1) := by decide +kernel
theorem dX12_well_128 : decode cX12_well 128 = .ok (.iadd, 1) := by decide +kernel
theorem dX12_well_129 : decode cX12_well 129 = .ok (.iaload, 1) := by decide +kernel
theorem dX12_well_130 : decode cX12_well 130 = .ok (.ireturn, 1) := by decide +kernel
theorem dX12_well_131 : decode cX12_well 131 = .ok (.aload_n 0, 1) := by decide +kernel
theorem dX12_well_132 : decode cX12_well 132 = .ok (.getfield 9, 3) := by decide +kernel
theorem dX12_well_135 : decode cX12_well 135 = .ok (.bipush 15, 2) := by decide +kernel
theorem dX12_well_137 : decode cX12_well 137 = .ok (.iload_n 1, 1) := by decide +kernel
theorem dX12_well_138 : decode cX12_well 138 = .ok (.iadd, 1) := by decide +kernel
theorem dX12_well_139 : decode cX12_well 139 = .ok (.iaload, 1) := by decide +kernel
theorem dX12_well_140 : decode cX12_well 140 = .ok (.ireturn, 1) := by decide +kernel
theorem dX12_well_141 : decode cX12_well 141 = .ok (.aload_n 0, 1) := by decide +kernel
theorem dX12_well_142 : decode cX12_well 142 = .ok (.iload_n 1, 1) := by decide +kernel
theorem dX12_well_143 : decode cX12_well 143 = .ok (.iconst 0, 1) := by decide +kernel
theorem dX12_well_144 : decode cX12_well 144 = .ok (.invokevirtual 242, 3) := by decide +kernel
theorem dX12_well_147 : decode cX12_well 147 = .ok (.ireturn, 1) := by decide +kernel
theorem dX12_well_148 : decode cX12_well 148 = .ok (.aload_n 0, 1) := by decide +kernel
theorem dX12_well_149 : decode cX12_well 149 = .ok (.iload_n 1, 1) := by decide +kernel
theorem dX12_well_150 : decode cX12_well 150 = .ok (.invokevirtual 271, 3) := by decide +kernel
theorem dX12_well_153 : decode cX12_well 153 = .ok (.ifCond .eq 7, 3) := by decide +kernel
theorem dX12_well_156 : decode cX12_well 156 = .ok (.iconst 1, 1) := by decide +kernel
theorem dX12_well_157 : decode cX12_well 157 = .ok (.goto 4, 3) := by decide +kernel
theorem dX12_well_160 : decode cX12_well 160 = .ok (.iconst 0, 1) := by decide +kernel
theorem dX12_well_161 : decode cX12_well 161 = .ok (.ireturn, 1) := by decide +kernel
theorem dX12_well_162 : decode cX12_well 162 = .ok (.aload_n 0, 1) := by decide +kernel
theorem dX12_well_163 : decode cX12_well 163 = .ok (.getfield 9, 3) := by decide +kernel
theorem dX12_well_166 : decode cX12_well 166 = .ok (.bipush 25, 2) := by decide +kernel
theorem dX12_well_168 : decode cX12_well 168 = .ok (.iaload, 1) := by decide +kernel
theorem dX12_well_169 : decode cX12_well 169 = .ok (.iload_n 1, 1) := by decide +kernel
theorem dX12_well_170 : decode cX12_well 170 = .ok (.invokestatic 268, 3) := by decide +kernel
theorem dX12_well_173 : decode cX12_well 173 = .ok (.ifCond .eq 7, 3) := by decide +kernel
theorem dX12_well_176 : decode cX12_well 176 = .ok (.iconst 1, 1) := by decide +kernel
theorem dX12_well_177 : decode cX12_well 177 = .ok (.goto 4, 3) := by decide +kernel
theorem dX12_well_180 : decode cX12_well 180 = .ok (.iconst 0, 1) := by decide +kernel
theorem dX12_well_181 : decode cX12_well 181 = .ok (.ireturn, 1) := by decide +kernel
theorem dX12_well_182 : decode cX12_well 182 = .ok (.aload_n 0, 1) := by decide +kernel
theorem dX12_well_183 : decode cX12_well 183 = .ok (.getfield 9, 3) := by decide +kernel
theorem dX12_well_186 : decode cX12_well 186 = .ok (.bipush 57, 2) := by decide +kernel
theorem dX12_well_188 : decode cX12_well 188 = .ok (.iload_n 1, 1) := by decide +kernel
theorem dX12_well_189 : decode cX12_well 189 = .ok (.iadd, 1) := by decide +kernel
theorem dX12_well_190 : decode cX12_well 190 = .ok (.iaload, 1) := by decide +kernel
theorem dX12_well_191 : decode cX12_well 191 = .ok (.ireturn, 1) := by decide +kernel
theorem dX12_house_0 : decode cX12_house 0 = .ok (.aload_n 0, 1) := by decide +kernel
theorem dX12_house_1 : decode cX12_house 1 = .ok (.aload_n 0, 1) := by decide +kernel
theorem dX12_house_2 : decode cX12_house 2 = .ok (.iload_n 1, 1) := by decide +kernel
theorem dX12_house_3 : decode cX12_house 3 = .ok (.invokevirtual 308, 3) := by decide +kernel
theorem dX12_house_6 : decode cX12_house 6 = .ok (.ifCond .ne 7, 3) := by decide +kernel
theorem dX12_house_9 : decode cX12_house 9 = .ok (.iconst 1, 1) := by decide +kernel
theorem dX12_house_10 : decode cX12_house 10 = .ok (.goto 18, 3) := by decide +kernel
theorem dX12_house_13 : decode cX12_house 13 = .ok (.iload_n 2, 1) := by decide +kernel
theorem dX12_house_14 : decode cX12_house 14 = .ok (.i2l, 1) := by decide +kernel
theorem dX12_house_15 : decode cX12_house 15 = .ok (.lconst 0, 1) := by decide +kernel
theorem dX12_house_16 : decode cX12_house 16 = .ok (.lconst 1, 1) := by decide +kernel
theorem dX12_house_17 : decode cX12_house 17 = .ok (.invokestatic 119, 3) := by decide +kernel
theorem dX12_house_20 : decode cX12_house 20 = .ok (.ifCond .eq 7, 3) := by decide +kernel
theorem dX12_house_23 : decode cX12_house 23 = .ok (.iconst 0, 1) := by decide +kernel
theorem dX12_house_24 : decode cX12_house 24 = .ok (.goto 4, 3) := by decide +kernel
theorem dX12_house_27 : decode cX12_house 27 = .ok (.iconst 2, 1) := by decide +kernel
theorem dX12_house_28 : decode cX12_house 28 = .ok (.putfield 58, 3) := by decide +kernel
theorem dX12_house_31 : decode cX12_house 31 = .ok (.aload_n 0, 1) := by decide +kernel
theorem dX12_house_32 : decode cX12_house 32 = .ok (.getfield 58, 3) := by decide +kernel
theorem dX12_house_35 : decode cX12_house 35 = .ok (.ifCond .le 5, 3) := by decide +kernel
theorem dX12_house_38 : decode cX12_house 38 = .ok (.iconst 0, 1) := by decide +kernel
theorem dX12_house_39 : decode cX12_house 39 = .ok (.ireturn, 1) := by decide +kernel
theorem dX12_house_40 : decode cX12_house 40 = .ok (.iload_n 2, 1) := by decide +kernel
theorem dX12_house_41 : decode cX12_house 41 = .ok (.ifCond .ne 15, 3) := by decide +kernel
theorem dX12_house_44 : decode cX12_house 44 = .ok (.aload_n 0, 1) := by decide +kernel
theorem dX12_house_45 : decode cX12_house 45 = .ok (.getfield 9, 3) := by decide +kernel
theorem dX12_house_48 : decode cX12_house 48 = .ok (.bipush 67, 2) := by decide +kernel
theorem dX12_house_50 : decode cX12_house 50 = .ok (.iload_n 1, 1) := by decide +kernel
theorem dX12_house_51 : decode cX12_house 51 = .ok (.iadd, 1) := by decide +kernel
theorem dX12_house_52 : decode cX12_house 52 = .ok (.iaload, 1) := by decide +kernel
theorem dX12_house_53 : decode cX12_house 53 = .ok (.goto 12, 3) := by decide +kernel
theorem dX12_house_56 : decode cX12_house 56 = .ok (.aload_n 0, 1) := by decide +kernel
theorem dX12_house_57 : decode cX12_house 57 = .ok (.getfield 9, 3) := by decide +kernel
theorem dX12_house_60 : decode cX12_house 60 = .ok (.bipush 73, 2) := by decide +kernel
theorem dX12_house_62 : decode cX12_house 62 = .ok (.iload_n 1, 1) := by decide +kernel
theorem dX12_house_63 : decode cX12_house 63 = .ok (.iadd, 1) := by decide +kernel
theorem dX12_house_64 : decode cX12_house 64 = .ok (.iaload, 1) := by decide +kernel
theorem dX12_house_65 : decode cX12_house 65 = .ok (.ireturn, 1) := by decide +kernel
theorem dX12_awake_0 : decode cX12_awake 0 = .ok (.aload_n 0, 1) := by decide +kernel
theorem dX12_awake_1 : decode cX12_awake 1 = .ok (.iconst 0, 1) := by decide +kernel
theorem dX12_awake_2 : decode cX12_awake 2 = .ok (.putfield 58, 3) := by decide +kernel
theorem dX12_awake_5 : decode cX12_awake 5 = .ok (.aload_n 0, 1) := by decide +kernel
theorem dX12_awake_6 : decode cX12_awake 6 = .ok (.iconst 0, 1) := by decide +kernel
theorem dX12_awake_7 : decode cX12_awake 7 = .ok (.invokevirtual 294, 3) := by decide +kernel
theorem dX12_awake_10 : decode cX12_awake 10 = .ok (.ireturn, 1) := by decide +kernel
theorem dX12_water_0 : decode cX12_water 0 = .ok (.aload_n 0, 1) := by decide +kernel
theorem dX12_water_1 : decode cX12_water 1 = .ok (.iconst 0, 1) := by decide +kernel
theorem dX12_water_2 : decode cX12_water 2 = .ok (.putfield 58, 3) := by decide +kernel
theorem dX12_water_5 : decode cX12_water 5 = .ok (.aload_n 0, 1) := by decide +kernel
theorem dX12_water_6 : decode cX12_water 6 = .ok (.invokevirtual 311, 3) := by decide +kernel
theorem dX12_water_9 : decode cX12_water 9 = .ok (.ireturn, 1) := by decide +kernel
theorem dX12_keeps_0 : decode cX12_keeps 0 = .ok (.aload_n 0, 1) := by decide +kernel
theorem dX12_keeps_1 : decode cX12_keeps 1 = .ok (.getfield 9, 3) := by decide +kernel
theorem dX12_keeps_4 : decode cX12_keeps 4 = .ok (.iconst 4, 1) := by decide +kernel
theorem dX12_keeps_5 : decode cX12_keeps 5 = .ok (.iaload, 1) := by decide +kernel
theorem dX12_keeps_6 : decode cX12_keeps 6 = .ok (.bipush 10, 2) := by decide +kernel
theorem dX12_keeps_8 : decode cX12_keeps 8 = .ok (.if_icmp .ne 44, 3) := by decide +kernel
theorem dX12_keeps_11 : decode cX12_keeps 11 = .ok (.bipush 79, 2) := by decide +kernel
theorem dX12_keeps_13 : decode cX12_keeps 13 = .ok (.istore_n 1, 1) := by decide +kernel
theorem dX12_keeps_14 : decode cX12_keeps 14 = .ok (.iload_n 1, 1) := by decide +kernel
theorem dX12_keeps_15 : decode cX12_keeps 15 = .ok (.sipush 277, 3) := by decide +kernel
theorem dX12_keeps_18 : decode cX12_keeps 18 = .ok (.if_icmp .ge 24, 3) := by decide +kernel
theorem dX12_keeps_21 : decode cX12_keeps 21 = .ok (.aload_n 0, 1) := by decide +kernel
theorem dX12_keeps_22 : decode cX12_keeps 22 = .ok (.getfield 9, 3) := by decide +kernel
theorem dX12_keeps_25 : decode cX12_keeps 25 = .ok (.iload_n 1, 1) := by decide +kernel
theorem dX12_keeps_26 : decode cX12_keeps 26 = .ok (.aload_n 0, 1) := by decide +kernel
theorem dX12_keeps_27 : decode cX12_keeps 27 = .ok (.getfield 9, 3) := by decide +kernel
theorem dX12_keeps_30 : decode cX12_keeps 30 = .ok (.iload_n 1, 1) := by decide +kernel
theorem dX12_keeps_31 : decode cX12_keeps 31 = .ok (.bipush 22, 2) := by decide +kernel
theorem dX12_keeps_33 : decode cX12_keeps 33 = .ok (.iadd, 1) := by decide +kernel
theorem dX12_keeps_34 : decode cX12_keeps 34 = .ok (.iaload, 1) := by decide +kernel
theorem dX12_keeps_35 : decode cX12_keeps 35 = .ok (.iastore, 1) := by decide +kernel
theorem dX12_keeps_36 : decode cX12_keeps 36 = .ok (.iinc 1 1, 3) := by decide +kernel
theorem dX12_keeps_39 : decode cX12_keeps 39 = .ok (.goto (-25), 3) := by decide +kernel
theorem dX12_keeps_42 : decode cX12_keeps 42 = .ok (.aload_n 0, 1) := by decide +kernel
theorem dX12_keeps_43 : decode cX12_keeps 43 = .ok (.getfield 9, 3) := by decide +kernel
theorem dX12_keeps_46 : decode cX12_keeps 46 = .ok (.iconst 4, 1) := by decide +kernel
theorem dX12_keeps_47 : decode cX12_keeps 47 = .ok (.dup2, 1) := by decide +kernel
theorem dX12_keeps_48 : decode cX12_keeps 48 = .ok (.iaload, 1) := by decide +kernel
theorem dX12_keeps_49 : decode cX12_keeps 49 = .ok (.iconst 1, 1) := by decide +kernel
theorem dX12_keeps_50 : decode cX12_keeps 50 = .ok (.isub, 1) := by decide +kernel
theorem dX12_keeps_51 : decode cX12_keeps 51 = .ok (.iastore, 1) := by decide +kernel
theorem dX12_keeps_52 : decode cX12_keeps 52 = .ok (.iconst 0, 1) := by decide +kernel
theorem dX12_keeps_53 : decode cX12_keeps 53 = .ok (.istore_n 1, 1) := by decide +kernel
theorem dX12_keeps_54 : decode cX12_keeps 54 = .ok (.iload_n 1, 1) := by decide +kernel
theorem dX12_keeps_55 : decode cX12_keeps 55 = .ok (.bipush 22, 2) := by decide +kernel
theorem dX12_keeps_57 : decode cX12_keeps 57 = .ok (.if_icmp .ge 36, 3) := by decide +kernel
theorem dX12_keeps_60 : decode cX12_keeps 60 = .ok (.aload_n 0, 1) := by decide +kernel
theorem dX12_keeps_61 : decode cX12_keeps 61 = .ok (.getfield 9, 3) := by decide +kernel
theorem dX12_keeps_64 : decode cX12_keeps 64 = .ok (.bipush 79, 2) := by decide +kernel
theorem dX12_keeps_66 : decode cX12_keeps 66 = .ok (.bipush 22, 2) := by decide +kernel
theorem dX12_keeps_68 : decode cX12_keeps 68 = .ok (.aload_n 0, 1) := by decide +kernel
theorem dX12_keeps_69 : decode cX12_keeps 69 = .ok (.getfield 9, 3) := by decide +kernel
theorem dX12_keeps_72 : decode cX12_keeps 72 = .ok (.iconst 4, 1) := by decide +kernel
theorem dX12_keeps_73 : decode cX12_keeps 73 = .ok (.iaload, 1) := by decide +kernel
theorem dX12_keeps_74 : decode cX12_keeps 74 = .ok (.imul, 1) := by decide +kernel
theorem dX12_keeps_75 : decode cX12_keeps 75 = .ok (.iadd, 1) := by decide +kernel
theorem dX12_keeps_76 : decode cX12_keeps 76 = .ok (.iload_n 1, 1) := by decide +kernel
theorem dX12_keeps_77 : decode cX12_keeps 77 = .ok (.iadd, 1) := by decide +kernel
theorem dX12_keeps_78 : decode cX12_keeps 78 = .ok (.aload_n 0, 1) := by decide +kernel
theorem dX12_keeps_79 : decode cX12_keeps 79 = .ok (.getfield 9, 3) := by decide +kernel
theorem dX12_keeps_82 : decode cX12_keeps 82 = .ok (.iconst 5, 1) := by decide +kernel
theorem dX12_keeps_83 : decode cX12_keeps 83 = .ok (.iload_n 1, 1) := by decide +kernel
theorem dX12_keeps_84 : decode cX12_keeps 84 = .ok (.iadd, 1) := by decide +kernel
theorem dX12_keeps_85 : decode cX12_keeps 85 = .ok (.iaload, 1) := by decide +kernel
theorem dX12_keeps_86 : decode cX12_keeps 86 = .ok (.iastore, 1) := by decide +kernel
theorem dX12_keeps_87 : decode cX12_keeps 87 = .ok (.iinc 1 1, 3) := by decide +kernel
theorem dX12_keeps_90 : decode cX12_keeps 90 = .ok (.goto (-36), 3) := by decide +kernel
theorem dX12_keeps_93 : decode cX12_keeps 93 = .ok (.aload_n 0, 1) := by decide +kernel
theorem dX12_keeps_94 : decode cX12_keeps 94 = .ok (.getfield 9, 3) := by decide +kernel
theorem dX12_keeps_97 : decode cX12_keeps 97 = .ok (.iconst 4, 1) := by decide +kernel
theorem dX12_keeps_98 : decode cX12_keeps 98 = .ok (.dup2, 1) := by decide +kernel
theorem dX12_keeps_99 : decode cX12_keeps 99 = .ok (.iaload, 1) := by decide +kernel
theorem dX12_keeps_100 : decode cX12_keeps 100 = .ok (.iconst 1, 1) := by decide +kernel
theorem dX12_keeps_101 : decode cX12_keeps 101 = .ok (.iadd, 1) := by decide +kernel
theorem dX12_keeps_102 : decode cX12_keeps 102 = .ok (.iastore, 1) := by decide +kernel
theorem dX12_keeps_103 : decode cX12_keeps 103 = .ok (.return_, 1) := by decide +kernel
theorem dX12_putsAside_0 : decode cX12_putsAside 0 = .ok (.iconst 0, 1) := by decide +kernel
theorem dX12_putsAside_1 : decode cX12_putsAside 1 = .ok (.istore_n 1, 1) := by decide +kernel
theorem dX12_putsAside_2 : decode cX12_putsAside 2 = .ok (.iload_n 1, 1) := by decide +kernel
theorem dX12_putsAside_3 : decode cX12_putsAside 3 = .ok (.bipush 22, 2) := by decide +kernel
theorem dX12_putsAside_5 : decode cX12_putsAside 5 = .ok (.if_icmp .ge 23, 3) := by decide +kernel
theorem dX12_putsAside_8 : decode cX12_putsAside 8 = .ok (.aload_n 0, 1) := by decide +kernel
theorem dX12_putsAside_9 : decode cX12_putsAside 9 = .ok (.getfield 33, 3) := by decide +kernel
theorem dX12_putsAside_12 : decode cX12_putsAside 12 = .ok (.iload_n 1, 1) := by decide +kernel
theorem dX12_putsAside_13 : decode cX12_putsAside 13 = .ok (.aload_n 0, 1) := by decide +kernel
theorem dX12_putsAside_14 : decode cX12_putsAside 14 = .ok (.getfield 9, 3) := by decide +kernel
theorem dX12_putsAside_17 : decode cX12_putsAside 17 = .ok (.iconst 5, 1) := by decide +kernel
theorem dX12_putsAside_18 : decode cX12_putsAside 18 = .ok (.iload_n 1, 1) := by decide +kernel
theorem dX12_putsAside_19 : decode cX12_putsAside 19 = .ok (.iadd, 1) := by decide +kernel
theorem dX12_putsAside_20 : decode cX12_putsAside 20 = .ok (.iaload, 1) := by decide +kernel
theorem dX12_putsAside_21 : decode cX12_putsAside 21 = .ok (.iastore, 1) := by decide +kernel
theorem dX12_putsAside_22 : decode cX12_putsAside 22 = .ok (.iinc 1 1, 3) := by decide +kernel
theorem dX12_putsAside_25 : decode cX12_putsAside 25 = .ok (.goto (-23), 3) := by decide +kernel
theorem dX12_putsAside_28 : decode cX12_putsAside 28 = .ok (.return_, 1) := by decide +kernel
theorem dX12_putsBack_0 : decode cX12_putsBack 0 = .ok (.iconst 0, 1) := by decide +kernel
theorem dX12_putsBack_1 : decode cX12_putsBack 1 = .ok (.istore_n 1, 1) := by decide +kernel
theorem dX12_putsBack_2 : decode cX12_putsBack 2 = .ok (.iload_n 1, 1) := by decide +kernel
theorem dX12_putsBack_3 : decode cX12_putsBack 3 = .ok (.bipush 22, 2) := by decide +kernel
theorem dX12_putsBack_5 : decode cX12_putsBack 5 = .ok (.if_icmp .ge 23, 3) := by decide +kernel
theorem dX12_putsBack_8 : decode cX12_putsBack 8 = .ok (.aload_n 0, 1) := by decide +kernel
theorem dX12_putsBack_9 : decode cX12_putsBack 9 = .ok (.getfield 9, 3) := by decide +kernel
theorem dX12_putsBack_12 : decode cX12_putsBack 12 = .ok (.iconst 5, 1) := by decide +kernel
theorem dX12_putsBack_13 : decode cX12_putsBack 13 = .ok (.iload_n 1, 1) := by decide +kernel
theorem dX12_putsBack_14 : decode cX12_putsBack 14 = .ok (.iadd, 1) := by decide +kernel
theorem dX12_putsBack_15 : decode cX12_putsBack 15 = .ok (.aload_n 0, 1) := by decide +kernel
theorem dX12_putsBack_16 : decode cX12_putsBack 16 = .ok (.getfield 33, 3) := by decide +kernel
theorem dX12_putsBack_19 : decode cX12_putsBack 19 = .ok (.iload_n 1, 1) := by decide +kernel
theorem dX12_putsBack_20 : decode cX12_putsBack 20 = .ok (.iaload, 1) := by decide +kernel
theorem dX12_putsBack_21 : decode cX12_putsBack 21 = .ok (.iastore, 1) := by decide +kernel
theorem dX12_putsBack_22 : decode cX12_putsBack 22 = .ok (.iinc 1 1, 3) := by decide +kernel
theorem dX12_putsBack_25 : decode cX12_putsBack 25 = .ok (.goto (-23), 3) := by decide +kernel
theorem dX12_putsBack_28 : decode cX12_putsBack 28 = .ok (.return_, 1) := by decide +kernel
theorem dX12_whyDraw_0 : decode cX12_whyDraw 0 = .ok (.aload_n 0, 1) := by decide +kernel
theorem dX12_whyDraw_1 : decode cX12_whyDraw 1 = .ok (.lload_n 1, 1) := by decide +kernel
theorem dX12_whyDraw_2 : decode cX12_whyDraw 2 = .ok (.invokevirtual 302, 3) := by decide +kernel
theorem dX12_whyDraw_5 : decode cX12_whyDraw 5 = .ok (.ifCond .eq 14, 3) := by decide +kernel
theorem dX12_whyDraw_8 : decode cX12_whyDraw 8 = .ok (.lload_n 3, 1) := by decide +kernel
theorem dX12_whyDraw_9 : decode cX12_whyDraw 9 = .ok (.lconst 1, 1) := by decide +kernel
theorem dX12_whyDraw_10 : decode cX12_whyDraw 10 = .ok (.ldc2_w 314, 3) := by decide +kernel
theorem dX12_whyDraw_13 : decode cX12_whyDraw 13 = .ok (.invokestatic 119, 3) := by decide +kernel
theorem dX12_whyDraw_16 : decode cX12_whyDraw 16 = .ok (.ifCond .ne 5, 3) := by decide +kernel
theorem dX12_whyDraw_19 : decode cX12_whyDraw 19 = .ok (.iconst 1, 1) := by decide +kernel
theorem dX12_whyDraw_20 : decode cX12_whyDraw 20 = .ok (.ireturn, 1) := by decide +kernel
theorem dX12_whyDraw_21 : decode cX12_whyDraw 21 = .ok (.aload_n 0, 1) := by decide +kernel
theorem dX12_whyDraw_22 : decode cX12_whyDraw 22 = .ok (.lload_n 1, 1) := by decide +kernel
theorem dX12_whyDraw_23 : decode cX12_whyDraw 23 = .ok (.l2i, 1) := by decide +kernel
theorem dX12_whyDraw_24 : decode cX12_whyDraw 24 = .ok (.invokevirtual 271, 3) := by decide +kernel
theorem dX12_whyDraw_27 : decode cX12_whyDraw 27 = .ok (.ifCond .ne 5, 3) := by decide +kernel
theorem dX12_whyDraw_30 : decode cX12_whyDraw 30 = .ok (.iconst 2, 1) := by decide +kernel
theorem dX12_whyDraw_31 : decode cX12_whyDraw 31 = .ok (.ireturn, 1) := by decide +kernel
theorem dX12_whyDraw_32 : decode cX12_whyDraw 32 = .ok (.aload_n 0, 1) := by decide +kernel
theorem dX12_whyDraw_33 : decode cX12_whyDraw 33 = .ok (.getfield 9, 3) := by decide +kernel
theorem dX12_whyDraw_36 : decode cX12_whyDraw 36 = .ok (.bipush 25, 2) := by decide +kernel
theorem dX12_whyDraw_38 : decode cX12_whyDraw 38 = .ok (.iaload, 1) := by decide +kernel
theorem dX12_whyDraw_39 : decode cX12_whyDraw 39 = .ok (.lload_n 1, 1) := by decide +kernel
theorem dX12_whyDraw_40 : decode cX12_whyDraw 40 = .ok (.l2i, 1) := by decide +kernel
theorem dX12_whyDraw_41 : decode cX12_whyDraw 41 = .ok (.invokestatic 268, 3) := by decide +kernel
theorem dX12_whyDraw_44 : decode cX12_whyDraw 44 = .ok (.ifCond .eq 7, 3) := by decide +kernel
theorem dX12_whyDraw_47 : decode cX12_whyDraw 47 = .ok (.iconst 3, 1) := by decide +kernel
theorem dX12_whyDraw_48 : decode cX12_whyDraw 48 = .ok (.goto 24, 3) := by decide +kernel
theorem dX12_whyDraw_51 : decode cX12_whyDraw 51 = .ok (.aload_n 0, 1) := by decide +kernel
theorem dX12_whyDraw_52 : decode cX12_whyDraw 52 = .ok (.getfield 9, 3) := by decide +kernel
theorem dX12_whyDraw_55 : decode cX12_whyDraw 55 = .ok (.bipush 15, 2) := by decide +kernel
theorem dX12_whyDraw_57 : decode cX12_whyDraw 57 = .ok (.lload_n 1, 1) := by decide +kernel
theorem dX12_whyDraw_58 : decode cX12_whyDraw 58 = .ok (.l2i, 1) := by decide +kernel
theorem dX12_whyDraw_59 : decode cX12_whyDraw 59 = .ok (.iadd, 1) := by decide +kernel
theorem dX12_whyDraw_60 : decode cX12_whyDraw 60 = .ok (.iaload, 1) := by decide +kernel
theorem dX12_whyDraw_61 : decode cX12_whyDraw 61 = .ok (.i2l, 1) := by decide +kernel
theorem dX12_whyDraw_62 : decode cX12_whyDraw 62 = .ok (.lload_n 3, 1) := by decide +kernel
theorem dX12_whyDraw_63 : decode cX12_whyDraw 63 = .ok (.lcmp, 1) := by decide +kernel
theorem dX12_whyDraw_64 : decode cX12_whyDraw 64 = .ok (.ifCond .ge 7, 3) := by decide +kernel
theorem dX12_whyDraw_67 : decode cX12_whyDraw 67 = .ok (.iconst 4, 1) := by decide +kernel
theorem dX12_whyDraw_68 : decode cX12_whyDraw 68 = .ok (.goto 4, 3) := by decide +kernel
theorem dX12_whyDraw_71 : decode cX12_whyDraw 71 = .ok (.iconst 0, 1) := by decide +kernel
theorem dX12_whyDraw_72 : decode cX12_whyDraw 72 = .ok (.ireturn, 1) := by decide +kernel
theorem dX12_whyLull_0 : decode cX12_whyLull 0 = .ok (.aload_n 0, 1) := by decide +kernel
theorem dX12_whyLull_1 : decode cX12_whyLull 1 = .ok (.lload_n 1, 1) := by decide +kernel
theorem dX12_whyLull_2 : decode cX12_whyLull 2 = .ok (.invokevirtual 302, 3) := by decide +kernel
theorem dX12_whyLull_5 : decode cX12_whyLull 5 = .ok (.ifCond .ne 5, 3) := by decide +kernel
theorem dX12_whyLull_8 : decode cX12_whyLull 8 = .ok (.iconst 1, 1) := by decide +kernel
theorem dX12_whyLull_9 : decode cX12_whyLull 9 = .ok (.ireturn, 1) := by decide +kernel
theorem dX12_whyLull_10 : decode cX12_whyLull 10 = .ok (.aload_n 0, 1) := by decide +kernel
theorem dX12_whyLull_11 : decode cX12_whyLull 11 = .ok (.lload_n 1, 1) := by decide +kernel
theorem dX12_whyLull_12 : decode cX12_whyLull 12 = .ok (.l2i, 1) := by decide +kernel
theorem dX12_whyLull_13 : decode cX12_whyLull 13 = .ok (.invokevirtual 271, 3) := by decide +kernel
theorem dX12_whyLull_16 : decode cX12_whyLull 16 = .ok (.ifCond .ne 5, 3) := by decide +kernel
theorem dX12_whyLull_19 : decode cX12_whyLull 19 = .ok (.iconst 2, 1) := by decide +kernel
theorem dX12_whyLull_20 : decode cX12_whyLull 20 = .ok (.ireturn, 1) := by decide +kernel
theorem dX12_whyLull_21 : decode cX12_whyLull 21 = .ok (.aload_n 0, 1) := by decide +kernel
theorem dX12_whyLull_22 : decode cX12_whyLull 22 = .ok (.getfield 9, 3) := by decide +kernel
theorem dX12_whyLull_25 : decode cX12_whyLull 25 = .ok (.bipush 37, 2) := by decide +kernel
theorem dX12_whyLull_27 : decode cX12_whyLull 27 = .ok (.lload_n 1, 1) := by decide +kernel
theorem dX12_whyLull_28 : decode cX12_whyLull 28 = .ok (.l2i, 1) := by decide +kernel
theorem dX12_whyLull_29 : decode cX12_whyLull 29 = .ok (.iadd, 1) := by decide +kernel
theorem dX12_whyLull_30 : decode cX12_whyLull 30 = .ok (.iaload, 1) := by decide +kernel
theorem dX12_whyLull_31 : decode cX12_whyLull 31 = .ok (.aload_n 0, 1) := by decide +kernel
theorem dX12_whyLull_32 : decode cX12_whyLull 32 = .ok (.getfield 9, 3) := by decide +kernel
theorem dX12_whyLull_35 : decode cX12_whyLull 35 = .ok (.bipush 27, 2) := by decide +kernel
theorem dX12_whyLull_37 : decode cX12_whyLull 37 = .ok (.lload_n 1, 1) := by decide +kernel
theorem dX12_whyLull_38 : decode cX12_whyLull 38 = .ok (.l2i, 1) := by decide +kernel
theorem dX12_whyLull_39 : decode cX12_whyLull 39 = .ok (.iadd, 1) := by decide +kernel
theorem dX12_whyLull_40 : decode cX12_whyLull 40 = .ok (.iaload, 1) := by decide +kernel
theorem dX12_whyLull_41 : decode cX12_whyLull 41 = .ok (.if_icmp .ne 7, 3) := by decide +kernel
theorem dX12_whyLull_44 : decode cX12_whyLull 44 = .ok (.iconst 3, 1) := by decide +kernel
theorem dX12_whyLull_45 : decode cX12_whyLull 45 = .ok (.goto 4, 3) := by decide +kernel
theorem dX12_whyLull_48 : decode cX12_whyLull 48 = .ok (.iconst 0, 1) := by decide +kernel
theorem dX12_whyLull_49 : decode cX12_whyLull 49 = .ok (.ireturn, 1) := by decide +kernel
theorem dX12_whyCoin_0 : decode cX12_whyCoin 0 = .ok (.aload_n 0, 1) := by decide +kernel
theorem dX12_whyCoin_1 : decode cX12_whyCoin 1 = .ok (.lload_n 1, 1) := by decide +kernel
theorem dX12_whyCoin_2 : decode cX12_whyCoin 2 = .ok (.invokevirtual 302, 3) := by decide +kernel
theorem dX12_whyCoin_5 : decode cX12_whyCoin 5 = .ok (.ifCond .ne 7, 3) := by decide +kernel
theorem dX12_whyCoin_8 : decode cX12_whyCoin 8 = .ok (.iconst 1, 1) := by decide +kernel
theorem dX12_whyCoin_9 : decode cX12_whyCoin 9 = .ok (.goto 17, 3) := by decide +kernel
theorem dX12_whyCoin_12 : decode cX12_whyCoin 12 = .ok (.aload_n 0, 1) := by decide +kernel
theorem dX12_whyCoin_13 : decode cX12_whyCoin 13 = .ok (.lload_n 1, 1) := by decide +kernel
theorem dX12_whyCoin_14 : decode cX12_whyCoin 14 = .ok (.l2i, 1) := by decide +kernel
theorem dX12_whyCoin_15 : decode cX12_whyCoin 15 = .ok (.invokevirtual 271, 3) := by decide +kernel
theorem dX12_whyCoin_18 : decode cX12_whyCoin 18 = .ok (.ifCond .eq 7, 3) := by decide +kernel
theorem dX12_whyCoin_21 : decode cX12_whyCoin 21 = .ok (.iconst 2, 1) := by decide +kernel
theorem dX12_whyCoin_22 : decode cX12_whyCoin 22 = .ok (.goto 4, 3) := by decide +kernel
theorem dX12_whyCoin_25 : decode cX12_whyCoin 25 = .ok (.iconst 0, 1) := by decide +kernel
theorem dX12_whyCoin_26 : decode cX12_whyCoin 26 = .ok (.ireturn, 1) := by decide +kernel
theorem dX12_draws_0 : decode cX12_draws 0 = .ok (.aload_n 0, 1) := by decide +kernel
theorem dX12_draws_1 : decode cX12_draws 1 = .ok (.iload_n 1, 1) := by decide +kernel
theorem dX12_draws_2 : decode cX12_draws 2 = .ok (.iload_n 2, 1) := by decide +kernel
theorem dX12_draws_3 : decode cX12_draws 3 = .ok (.invokevirtual 316, 3) := by decide +kernel
theorem dX12_draws_6 : decode cX12_draws 6 = .ok (.istore_n 3, 1) := by decide +kernel
theorem dX12_draws_7 : decode cX12_draws 7 = .ok (.aload_n 0, 1) := by decide +kernel
theorem dX12_draws_8 : decode cX12_draws 8 = .ok (.getfield 9, 3) := by decide +kernel
theorem dX12_draws_11 : decode cX12_draws 11 = .ok (.bipush 15, 2) := by decide +kernel
theorem dX12_draws_13 : decode cX12_draws 13 = .ok (.iload_n 1, 1) := by decide +kernel
theorem dX12_draws_14 : decode cX12_draws 14 = .ok (.iadd, 1) := by decide +kernel
theorem dX12_draws_15 : decode cX12_draws 15 = .ok (.dup2, 1) := by decide +kernel
theorem dX12_draws_16 : decode cX12_draws 16 = .ok (.iaload, 1) := by decide +kernel
theorem dX12_draws_17 : decode cX12_draws 17 = .ok (.iload_n 2, 1) := by decide +kernel
theorem dX12_draws_18 : decode cX12_draws 18 = .ok (.isub, 1) := by decide +kernel
theorem dX12_draws_19 : decode cX12_draws 19 = .ok (.iastore, 1) := by decide +kernel
theorem dX12_draws_20 : decode cX12_draws 20 = .ok (.aload_n 0, 1) := by decide +kernel
theorem dX12_draws_21 : decode cX12_draws 21 = .ok (.iload_n 3, 1) := by decide +kernel
theorem dX12_draws_22 : decode cX12_draws 22 = .ok (.invokevirtual 319, 3) := by decide +kernel
theorem dX12_draws_25 : decode cX12_draws 25 = .ok (.ireturn, 1) := by decide +kernel
theorem dX12_coins_0 : decode cX12_coins 0 = .ok (.aload_n 0, 1) := by decide +kernel
theorem dX12_coins_1 : decode cX12_coins 1 = .ok (.iload_n 1, 1) := by decide +kernel
theorem dX12_coins_2 : decode cX12_coins 2 = .ok (.iconst 0, 1) := by decide +kernel
theorem dX12_coins_3 : decode cX12_coins 3 = .ok (.invokevirtual 316, 3) := by decide +kernel
theorem dX12_coins_6 : decode cX12_coins 6 = .ok (.istore_n 2, 1) := by decide +kernel
theorem dX12_coins_7 : decode cX12_coins 7 = .ok (.aload_n 0, 1) := by decide +kernel
theorem dX12_coins_8 : decode cX12_coins 8 = .ok (.iload_n 1, 1) := by decide +kernel
theorem dX12_coins_9 : decode cX12_coins 9 = .ok (.iconst 0, 1) := by decide +kernel
theorem dX12_coins_10 : decode cX12_coins 10 = .ok (.invokevirtual 290, 3) := by decide +kernel
theorem dX12_coins_13 : decode cX12_coins 13 = .ok (.aload_n 0, 1) := by decide +kernel
theorem dX12_coins_14 : decode cX12_coins 14 = .ok (.iload_n 2, 1) := by decide +kernel
theorem dX12_coins_15 : decode cX12_coins 15 = .ok (.invokevirtual 319, 3) := by decide +kernel
theorem dX12_coins_18 : decode cX12_coins 18 = .ok (.ireturn, 1) := by decide +kernel
theorem dX12_thunders_0 : decode cX12_thunders 0 = .ok (.aload_n 0, 1) := by decide +kernel
theorem dX12_thunders_1 : decode cX12_thunders 1 = .ok (.aload_n 0, 1) := by decide +kernel
theorem dX12_thunders_2 : decode cX12_thunders 2 = .ok (.invokevirtual 322, 3) := by decide +kernel
theorem dX12_thunders_5 : decode cX12_thunders 5 = .ok (.aload_n 0, 1) := by decide +kernel
theorem dX12_thunders_6 : decode cX12_thunders 6 = .ok (.iconst 0, 1) := by decide +kernel
theorem dX12_thunders_7 : decode cX12_thunders 7 = .ok (.invokevirtual 294, 3) := by decide +kernel
theorem dX12_thunders_10 : decode cX12_thunders 10 = .ok (.iconst (-1), 1) := by decide +kernel
theorem dX12_thunders_11 : decode cX12_thunders 11 = .ok (.ixor, 1) := by decide +kernel
theorem dX12_thunders_12 : decode cX12_thunders 12 = .ok (.iand, 1) := by decide +kernel
theorem dX12_thunders_13 : decode cX12_thunders 13 = .ok (.invokevirtual 319, 3) := by decide +kernel
theorem dX12_thunders_16 : decode cX12_thunders 16 = .ok (.ireturn, 1) := by decide +kernel
theorem dX12_draw_0 : decode cX12_draw 0 = .ok (.aload_n 0, 1) := by decide +kernel
theorem dX12_draw_1 : decode cX12_draw 1 = .ok (.iconst 0, 1) := by decide +kernel
theorem dX12_draw_2 : decode cX12_draw 2 = .ok (.putfield 58, 3) := by decide +kernel
theorem dX12_draw_5 : decode cX12_draw 5 = .ok (.aload_n 0, 1) := by decide +kernel
theorem dX12_draw_6 : decode cX12_draw 6 = .ok (.iload_n 1, 1) := by decide +kernel
theorem dX12_draw_7 : decode cX12_draw 7 = .ok (.i2l, 1) := by decide +kernel
theorem dX12_draw_8 : decode cX12_draw 8 = .ok (.iload_n 2, 1) := by decide +kernel
theorem dX12_draw_9 : decode cX12_draw 9 = .ok (.i2l, 1) := by decide +kernel
theorem dX12_draw_10 : decode cX12_draw 10 = .ok (.invokevirtual 325, 3) := by decide +kernel
theorem dX12_draw_13 : decode cX12_draw 13 = .ok (.istore_n 3, 1) := by decide +kernel
theorem dX12_draw_14 : decode cX12_draw 14 = .ok (.iload_n 3, 1) := by decide +kernel
theorem dX12_draw_15 : decode cX12_draw 15 = .ok (.ifCond .eq 6, 3) := by decide +kernel
theorem dX12_draw_18 : decode cX12_draw 18 = .ok (.iload_n 3, 1) := by decide +kernel
theorem dX12_draw_19 : decode cX12_draw 19 = .ok (.ineg, 1) := by decide +kernel
theorem dX12_draw_20 : decode cX12_draw 20 = .ok (.ireturn, 1) := by decide +kernel
theorem dX12_draw_21 : decode cX12_draw 21 = .ok (.aload_n 0, 1) := by decide +kernel
theorem dX12_draw_22 : decode cX12_draw 22 = .ok (.invokevirtual 329, 3) := by decide +kernel
theorem dX12_draw_25 : decode cX12_draw 25 = .ok (.aload_n 0, 1) := by decide +kernel
theorem dX12_draw_26 : decode cX12_draw 26 = .ok (.iload_n 1, 1) := by decide +kernel
theorem dX12_draw_27 : decode cX12_draw 27 = .ok (.iload_n 2, 1) := by decide +kernel
theorem dX12_draw_28 : decode cX12_draw 28 = .ok (.invokevirtual 332, 3) := by decide +kernel
theorem dX12_draw_31 : decode cX12_draw 31 = .ok (.ireturn, 1) := by decide +kernel
theorem dX12_lull_0 : decode cX12_lull 0 = .ok (.aload_n 0, 1) := by decide +kernel
theorem dX12_lull_1 : decode cX12_lull 1 = .ok (.iconst 0, 1) := by decide +kernel
theorem dX12_lull_2 : decode cX12_lull 2 = .ok (.putfield 58, 3) := by decide +kernel
theorem dX12_lull_5 : decode cX12_lull 5 = .ok (.aload_n 0, 1) := by decide +kernel
theorem dX12_lull_6 : decode cX12_lull 6 = .ok (.iload_n 1, 1) := by decide +kernel
theorem dX12_lull_7 : decode cX12_lull 7 = .ok (.i2l, 1) := by decide +kernel
theorem dX12_lull_8 : decode cX12_lull 8 = .ok (.invokevirtual 335, 3) := by decide +kernel
theorem dX12_lull_11 : decode cX12_lull 11 = .ok (.istore_n 2, 1) := by decide +kernel
theorem dX12_lull_12 : decode cX12_lull 12 = .ok (.iload_n 2, 1) := by decide +kernel
theorem dX12_lull_13 : decode cX12_lull 13 = .ok (.ifCond .eq 8, 3) := by decide +kernel
theorem dX12_lull_16 : decode cX12_lull 16 = .ok (.bipush (-10), 2) := by decide +kernel
theorem dX12_lull_18 : decode cX12_lull 18 = .ok (.iload_n 2, 1) := by decide +kernel
theorem dX12_lull_19 : decode cX12_lull 19 = .ok (.isub, 1) := by decide +kernel
theorem dX12_lull_20 : decode cX12_lull 20 = .ok (.ireturn, 1) := by decide +kernel
theorem dX12_lull_21 : decode cX12_lull 21 = .ok (.aload_n 0, 1) := by decide +kernel
theorem dX12_lull_22 : decode cX12_lull 22 = .ok (.invokevirtual 329, 3) := by decide +kernel
theorem dX12_lull_25 : decode cX12_lull 25 = .ok (.aload_n 0, 1) := by decide +kernel
theorem dX12_lull_26 : decode cX12_lull 26 = .ok (.iload_n 1, 1) := by decide +kernel
theorem dX12_lull_27 : decode cX12_lull 27 = .ok (.aload_n 0, 1) := by decide +kernel
theorem dX12_lull_28 : decode cX12_lull 28 = .ok (.getfield 9, 3) := by decide +kernel
theorem dX12_lull_31 : decode cX12_lull 31 = .ok (.bipush 37, 2) := by decide +kernel
theorem dX12_lull_33 : decode cX12_lull 33 = .ok (.iload_n 1, 1) := by decide +kernel
theorem dX12_lull_34 : decode cX12_lull 34 = .ok (.iadd, 1) := by decide +kernel
theorem dX12_lull_35 : decode cX12_lull 35 = .ok (.iaload, 1) := by decide +kernel
theorem dX12_lull_36 : decode cX12_lull 36 = .ok (.invokevirtual 290, 3) := by decide +kernel
theorem dX12_lull_39 : decode cX12_lull 39 = .ok (.aload_n 0, 1) := by decide +kernel
theorem dX12_lull_40 : decode cX12_lull 40 = .ok (.getfield 9, 3) := by decide +kernel
theorem dX12_lull_43 : decode cX12_lull 43 = .ok (.iconst 5, 1) := by decide +kernel
theorem dX12_lull_44 : decode cX12_lull 44 = .ok (.iload_n 1, 1) := by decide +kernel
theorem dX12_lull_45 : decode cX12_lull 45 = .ok (.iadd, 1) := by decide +kernel
theorem dX12_lull_46 : decode cX12_lull 46 = .ok (.iaload, 1) := by decide +kernel
theorem dX12_lull_47 : decode cX12_lull 47 = .ok (.ireturn, 1) := by decide +kernel
theorem dX12_coin_0 : decode cX12_coin 0 = .ok (.aload_n 0, 1) := by decide +kernel
theorem dX12_coin_1 : decode cX12_coin 1 = .ok (.iconst 0, 1) := by decide +kernel
theorem dX12_coin_2 : decode cX12_coin 2 = .ok (.putfield 58, 3) := by decide +kernel
theorem dX12_coin_5 : decode cX12_coin 5 = .ok (.aload_n 0, 1) := by decide +kernel
theorem dX12_coin_6 : decode cX12_coin 6 = .ok (.iload_n 1, 1) := by decide +kernel
theorem dX12_coin_7 : decode cX12_coin 7 = .ok (.i2l, 1) := by decide +kernel
theorem dX12_coin_8 : decode cX12_coin 8 = .ok (.invokevirtual 338, 3) := by decide +kernel
theorem dX12_coin_11 : decode cX12_coin 11 = .ok (.istore_n 2, 1) := by decide +kernel
theorem dX12_coin_12 : decode cX12_coin 12 = .ok (.iload_n 2, 1) := by decide +kernel
theorem dX12_coin_13 : decode cX12_coin 13 = .ok (.ifCond .eq 6, 3) := by decide +kernel
theorem dX12_coin_16 : decode cX12_coin 16 = .ok (.iload_n 2, 1) := by decide +kernel
theorem dX12_coin_17 : decode cX12_coin 17 = .ok (.ineg, 1) := by decide +kernel
theorem dX12_coin_18 : decode cX12_coin 18 = .ok (.ireturn, 1) := by decide +kernel
theorem dX12_coin_19 : decode cX12_coin 19 = .ok (.aload_n 0, 1) := by decide +kernel
theorem dX12_coin_20 : decode cX12_coin 20 = .ok (.invokevirtual 329, 3) := by decide +kernel
theorem dX12_coin_23 : decode cX12_coin 23 = .ok (.aload_n 0, 1) := by decide +kernel
theorem dX12_coin_24 : decode cX12_coin 24 = .ok (.iload_n 1, 1) := by decide +kernel
theorem dX12_coin_25 : decode cX12_coin 25 = .ok (.invokevirtual 341, 3) := by decide +kernel
theorem dX12_coin_28 : decode cX12_coin 28 = .ok (.ireturn, 1) := by decide +kernel
theorem dX12_thunder_0 : decode cX12_thunder 0 = .ok (.aload_n 0, 1) := by decide +kernel
theorem dX12_thunder_1 : decode cX12_thunder 1 = .ok (.iconst 0, 1) := by decide +kernel
theorem dX12_thunder_2 : decode cX12_thunder 2 = .ok (.putfield 58, 3) := by decide +kernel
theorem dX12_thunder_5 : decode cX12_thunder 5 = .ok (.aload_n 0, 1) := by decide +kernel
theorem dX12_thunder_6 : decode cX12_thunder 6 = .ok (.invokevirtual 329, 3) := by decide +kernel
theorem dX12_thunder_9 : decode cX12_thunder 9 = .ok (.aload_n 0, 1) := by decide +kernel
theorem dX12_thunder_10 : decode cX12_thunder 10 = .ok (.invokevirtual 344, 3) := by decide +kernel
theorem dX12_thunder_13 : decode cX12_thunder 13 = .ok (.ireturn, 1) := by decide +kernel
theorem dX12_hours_0 : decode cX12_hours 0 = .ok (.aload_n 0, 1) := by decide +kernel
theorem dX12_hours_1 : decode cX12_hours 1 = .ok (.iconst 0, 1) := by decide +kernel
theorem dX12_hours_2 : decode cX12_hours 2 = .ok (.putfield 58, 3) := by decide +kernel
theorem dX12_hours_5 : decode cX12_hours 5 = .ok (.iload_n 1, 1) := by decide +kernel
theorem dX12_hours_6 : decode cX12_hours 6 = .ok (.i2l, 1) := by decide +kernel
theorem dX12_hours_7 : decode cX12_hours 7 = .ok (.lconst 1, 1) := by decide +kernel
theorem dX12_hours_8 : decode cX12_hours 8 = .ok (.ldc2_w 314, 3) := by decide +kernel
theorem dX12_hours_11 : decode cX12_hours 11 = .ok (.invokestatic 119, 3) := by decide +kernel
theorem dX12_hours_14 : decode cX12_hours 14 = .ok (.ifCond .ne 9, 3) := by decide +kernel
theorem dX12_hours_17 : decode cX12_hours 17 = .ok (.aload_n 0, 1) := by decide +kernel
theorem dX12_hours_18 : decode cX12_hours 18 = .ok (.iconst 1, 1) := by decide +kernel
theorem dX12_hours_19 : decode cX12_hours 19 = .ok (.invokevirtual 230, 3) := by decide +kernel
theorem dX12_hours_22 : decode cX12_hours 22 = .ok (.ireturn, 1) := by decide +kernel
theorem dX12_hours_23 : decode cX12_hours 23 = .ok (.aload_n 0, 1) := by decide +kernel
theorem dX12_hours_24 : decode cX12_hours 24 = .ok (.invokevirtual 329, 3) := by decide +kernel
theorem dX12_hours_27 : decode cX12_hours 27 = .ok (.aload_n 0, 1) := by decide +kernel
theorem dX12_hours_28 : decode cX12_hours 28 = .ok (.invokevirtual 311, 3) := by decide +kernel
theorem dX12_hours_31 : decode cX12_hours 31 = .ok (.istore_n 2, 1) := by decide +kernel
theorem dX12_hours_32 : decode cX12_hours 32 = .ok (.iconst 0, 1) := by decide +kernel
theorem dX12_hours_33 : decode cX12_hours 33 = .ok (.istore_n 3, 1) := by decide +kernel
theorem dX12_hours_34 : decode cX12_hours 34 = .ok (.iload_n 3, 1) := by decide +kernel
theorem dX12_hours_35 : decode cX12_hours 35 = .ok (.iload_n 1, 1) := by decide +kernel
theorem dX12_hours_36 : decode cX12_hours 36 = .ok (.if_icmp .ge 13, 3) := by decide +kernel
theorem dX12_hours_39 : decode cX12_hours 39 = .ok (.aload_n 0, 1) := by decide +kernel
theorem dX12_hours_40 : decode cX12_hours 40 = .ok (.invokevirtual 347, 3) := by decide +kernel
theorem dX12_hours_43 : decode cX12_hours 43 = .ok (.iinc 3 1, 3) := by decide +kernel
theorem dX12_hours_46 : decode cX12_hours 46 = .ok (.goto (-12), 3) := by decide +kernel
theorem dX12_hours_49 : decode cX12_hours 49 = .ok (.aload_n 0, 1) := by decide +kernel
theorem dX12_hours_50 : decode cX12_hours 50 = .ok (.invokevirtual 311, 3) := by decide +kernel
theorem dX12_hours_53 : decode cX12_hours 53 = .ok (.iload_n 2, 1) := by decide +kernel
theorem dX12_hours_54 : decode cX12_hours 54 = .ok (.isub, 1) := by decide +kernel
theorem dX12_hours_55 : decode cX12_hours 55 = .ok (.ireturn, 1) := by decide +kernel
theorem dX12_undo_0 : decode cX12_undo 0 = .ok (.aload_n 0, 1) := by decide +kernel
theorem dX12_undo_1 : decode cX12_undo 1 = .ok (.iconst 0, 1) := by decide +kernel
theorem dX12_undo_2 : decode cX12_undo 2 = .ok (.putfield 58, 3) := by decide +kernel
theorem dX12_undo_5 : decode cX12_undo 5 = .ok (.iload_n 1, 1) := by decide +kernel
theorem dX12_undo_6 : decode cX12_undo 6 = .ok (.i2l, 1) := by decide +kernel
theorem dX12_undo_7 : decode cX12_undo 7 = .ok (.lconst 1, 1) := by decide +kernel
theorem dX12_undo_8 : decode cX12_undo 8 = .ok (.ldc2_w 349, 3) := by decide +kernel
theorem dX12_undo_11 : decode cX12_undo 11 = .ok (.invokestatic 119, 3) := by decide +kernel
theorem dX12_undo_14 : decode cX12_undo 14 = .ok (.ifCond .eq 13, 3) := by decide +kernel
theorem dX12_undo_17 : decode cX12_undo 17 = .ok (.iload_n 1, 1) := by decide +kernel
theorem dX12_undo_18 : decode cX12_undo 18 = .ok (.aload_n 0, 1) := by decide +kernel
theorem dX12_undo_19 : decode cX12_undo 19 = .ok (.getfield 9, 3) := by decide +kernel
theorem dX12_undo_22 : decode cX12_undo 22 = .ok (.iconst 4, 1) := by decide +kernel
theorem dX12_undo_23 : decode cX12_undo 23 = .ok (.iaload, 1) := by decide +kernel
theorem dX12_undo_24 : decode cX12_undo 24 = .ok (.if_icmp .le 9, 3) := by decide +kernel
theorem dX12_undo_27 : decode cX12_undo 27 = .ok (.aload_n 0, 1) := by decide +kernel
theorem dX12_undo_28 : decode cX12_undo 28 = .ok (.iconst 1, 1) := by decide +kernel
theorem dX12_undo_29 : decode cX12_undo 29 = .ok (.invokevirtual 230, 3) := by decide +kernel
theorem dX12_undo_32 : decode cX12_undo 32 = .ok (.ireturn, 1) := by decide +kernel
theorem dX12_undo_33 : decode cX12_undo 33 = .ok (.aload_n 0, 1) := by decide +kernel
theorem dX12_undo_34 : decode cX12_undo 34 = .ok (.getfield 9, 3) := by decide +kernel
theorem dX12_undo_37 : decode cX12_undo 37 = .ok (.iconst 4, 1) := by decide +kernel
theorem dX12_undo_38 : decode cX12_undo 38 = .ok (.dup2, 1) := by decide +kernel
theorem dX12_undo_39 : decode cX12_undo 39 = .ok (.iaload, 1) := by decide +kernel
theorem dX12_undo_40 : decode cX12_undo 40 = .ok (.iload_n 1, 1) := by decide +kernel
theorem dX12_undo_41 : decode cX12_undo 41 = .ok (.isub, 1) := by decide +kernel
theorem dX12_undo_42 : decode cX12_undo 42 = .ok (.iastore, 1) := by decide +kernel
theorem dX12_undo_43 : decode cX12_undo 43 = .ok (.iconst 0, 1) := by decide +kernel
theorem dX12_undo_44 : decode cX12_undo 44 = .ok (.istore_n 2, 1) := by decide +kernel
theorem dX12_undo_45 : decode cX12_undo 45 = .ok (.iload_n 2, 1) := by decide +kernel
theorem dX12_undo_46 : decode cX12_undo 46 = .ok (.bipush 22, 2) := by decide +kernel
theorem dX12_undo_48 : decode cX12_undo 48 = .ok (.if_icmp .ge 36, 3) := by decide +kernel
theorem dX12_undo_51 : decode cX12_undo 51 = .ok (.aload_n 0, 1) := by decide +kernel
theorem dX12_undo_52 : decode cX12_undo 52 = .ok (.getfield 9, 3) := by decide +kernel
theorem dX12_undo_55 : decode cX12_undo 55 = .ok (.iconst 5, 1) := by decide +kernel
theorem dX12_undo_56 : decode cX12_undo 56 = .ok (.iload_n 2, 1) := by decide +kernel
theorem dX12_undo_57 : decode cX12_undo 57 = .ok (.iadd, 1) := by decide +kernel
theorem dX12_undo_58 : decode cX12_undo 58 = .ok (.aload_n 0, 1) := by decide +kernel
theorem dX12_undo_59 : decode cX12_undo 59 = .ok (.getfield 9, 3) := by decide +kernel
theorem dX12_undo_62 : decode cX12_undo 62 = .ok (.bipush 79, 2) := by decide +kernel
theorem dX12_undo_64 : decode cX12_undo 64 = .ok (.bipush 22, 2) := by decide +kernel
theorem dX12_undo_66 : decode cX12_undo 66 = .ok (.aload_n 0, 1) := by decide +kernel
theorem dX12_undo_67 : decode cX12_undo 67 = .ok (.getfield 9, 3) := by decide +kernel
theorem dX12_undo_70 : decode cX12_undo 70 = .ok (.iconst 4, 1) := by decide +kernel
theorem dX12_undo_71 : decode cX12_undo 71 = .ok (.iaload, 1) := by decide +kernel
theorem dX12_undo_72 : decode cX12_undo 72 = .ok (.imul, 1) := by decide +kernel
theorem dX12_undo_73 : decode cX12_undo 73 = .ok (.iadd, 1) := by decide +kernel
theorem dX12_undo_74 : decode cX12_undo 74 = .ok (.iload_n 2, 1) := by decide +kernel
theorem dX12_undo_75 : decode cX12_undo 75 = .ok (.iadd, 1) := by decide +kernel
theorem dX12_undo_76 : decode cX12_undo 76 = .ok (.iaload, 1) := by decide +kernel
theorem dX12_undo_77 : decode cX12_undo 77 = .ok (.iastore, 1) := by decide +kernel
theorem dX12_undo_78 : decode cX12_undo 78 = .ok (.iinc 2 1, 3) := by decide +kernel
theorem dX12_undo_81 : decode cX12_undo 81 = .ok (.goto (-36), 3) := by decide +kernel
theorem dX12_undo_84 : decode cX12_undo 84 = .ok (.aload_n 0, 1) := by decide +kernel
theorem dX12_undo_85 : decode cX12_undo 85 = .ok (.getfield 9, 3) := by decide +kernel
theorem dX12_undo_88 : decode cX12_undo 88 = .ok (.iconst 4, 1) := by decide +kernel
theorem dX12_undo_89 : decode cX12_undo 89 = .ok (.iaload, 1) := by decide +kernel
theorem dX12_undo_90 : decode cX12_undo 90 = .ok (.ireturn, 1) := by decide +kernel
theorem dX12_trayFault_0 : decode cX12_trayFault 0 = .ok (.iload_n 1, 1) := by decide +kernel
theorem dX12_trayFault_1 : decode cX12_trayFault 1 = .ok (.invokestatic 351, 3) := by decide +kernel
theorem dX12_trayFault_4 : decode cX12_trayFault 4 = .ok (.ifCond .ne 7, 3) := by decide +kernel
theorem dX12_trayFault_7 : decode cX12_trayFault 7 = .ok (.iconst 1, 1) := by decide +kernel
theorem dX12_trayFault_8 : decode cX12_trayFault 8 = .ok (.goto 18, 3) := by decide +kernel
theorem dX12_trayFault_11 : decode cX12_trayFault 11 = .ok (.aload_n 0, 1) := by decide +kernel
theorem dX12_trayFault_12 : decode cX12_trayFault 12 = .ok (.getfield 49, 3) := by decide +kernel
theorem dX12_trayFault_15 : decode cX12_trayFault 15 = .ok (.iload_n 1, 1) := by decide +kernel
theorem dX12_trayFault_16 : decode cX12_trayFault 16 = .ok (.iaload, 1) := by decide +kernel
theorem dX12_trayFault_17 : decode cX12_trayFault 17 = .ok (.iconst (-1), 1) := by decide +kernel
theorem dX12_trayFault_18 : decode cX12_trayFault 18 = .ok (.if_icmp .ne 7, 3) := by decide +kernel
theorem dX12_trayFault_21 : decode cX12_trayFault 21 = .ok (.iconst 2, 1) := by decide +kernel
theorem dX12_trayFault_22 : decode cX12_trayFault 22 = .ok (.goto 4, 3) := by decide +kernel
theorem dX12_trayFault_25 : decode cX12_trayFault 25 = .ok (.iconst 0, 1) := by decide +kernel
theorem dX12_trayFault_26 : decode cX12_trayFault 26 = .ok (.ireturn, 1) := by decide +kernel
theorem dX12_whyTold_0 : decode cX12_whyTold 0 = .ok (.lload_n 1, 1) := by decide +kernel
theorem dX12_whyTold_1 : decode cX12_whyTold 1 = .ok (.ldc2_w 354, 3) := by decide +kernel
theorem dX12_whyTold_4 : decode cX12_whyTold 4 = .ok (.lcmp, 1) := by decide +kernel
theorem dX12_whyTold_5 : decode cX12_whyTold 5 = .ok (.ifCond .eq 11, 3) := by decide +kernel
theorem dX12_whyTold_8 : decode cX12_whyTold 8 = .ok (.lload_n 1, 1) := by decide +kernel
theorem dX12_whyTold_9 : decode cX12_whyTold 9 = .ok (.ldc2_w 356, 3) := by decide +kernel
theorem dX12_whyTold_12 : decode cX12_whyTold 12 = .ok (.lcmp, 1) := by decide +kernel
theorem dX12_whyTold_13 : decode cX12_whyTold 13 = .ok (.ifCond .ne 5, 3) := by decide +kernel
theorem dX12_whyTold_16 : decode cX12_whyTold 16 = .ok (.iconst 0, 1) := by decide +kernel
theorem dX12_whyTold_17 : decode cX12_whyTold 17 = .ok (.ireturn, 1) := by decide +kernel
theorem dX12_whyTold_18 : decode cX12_whyTold 18 = .ok (.lload_n 1, 1) := by decide +kernel
theorem dX12_whyTold_19 : decode cX12_whyTold 19 = .ok (.lconst 0, 1) := by decide +kernel
theorem dX12_whyTold_20 : decode cX12_whyTold 20 = .ok (.ldc2_w 358, 3) := by decide +kernel
theorem dX12_whyTold_23 : decode cX12_whyTold 23 = .ok (.invokestatic 119, 3) := by decide +kernel
theorem dX12_whyTold_26 : decode cX12_whyTold 26 = .ok (.ifCond .eq 18, 3) := by decide +kernel
theorem dX12_whyTold_29 : decode cX12_whyTold 29 = .ok (.aload_n 0, 1) := by decide +kernel
theorem dX12_whyTold_30 : decode cX12_whyTold 30 = .ok (.lload_n 1, 1) := by decide +kernel
theorem dX12_whyTold_31 : decode cX12_whyTold 31 = .ok (.ldc2_w 360, 3) := by decide +kernel
theorem dX12_whyTold_34 : decode cX12_whyTold 34 = .ok (.ldiv, 1) := by decide +kernel
theorem dX12_whyTold_35 : decode cX12_whyTold 35 = .ok (.lload_n 1, 1) := by decide +kernel
theorem dX12_whyTold_36 : decode cX12_whyTold 36 = .ok (.ldc2_w 360, 3) := by decide +kernel
theorem dX12_whyTold_39 : decode cX12_whyTold 39 = .ok (.lrem, 1) := by decide +kernel
theorem dX12_whyTold_40 : decode cX12_whyTold 40 = .ok (.invokevirtual 325, 3) := by decide +kernel
theorem dX12_whyTold_43 : decode cX12_whyTold 43 = .ok (.ireturn, 1) := by decide +kernel
theorem dX12_whyTold_44 : decode cX12_whyTold 44 = .ok (.lload_n 1, 1) := by decide +kernel
theorem dX12_whyTold_45 : decode cX12_whyTold 45 = .ok (.ldc2_w 362, 3) := by decide +kernel
theorem dX12_whyTold_48 : decode cX12_whyTold 48 = .ok (.ldc2_w 364, 3) := by decide +kernel
theorem dX12_whyTold_51 : decode cX12_whyTold 51 = .ok (.invokestatic 119, 3) := by decide +kernel
theorem dX12_whyTold_54 : decode cX12_whyTold 54 = .ok (.ifCond .eq 13, 3) := by decide +kernel
theorem dX12_whyTold_57 : decode cX12_whyTold 57 = .ok (.aload_n 0, 1) := by decide +kernel
theorem dX12_whyTold_58 : decode cX12_whyTold 58 = .ok (.lload_n 1, 1) := by decide +kernel
theorem dX12_whyTold_59 : decode cX12_whyTold 59 = .ok (.ldc2_w 362, 3) := by decide +kernel
theorem dX12_whyTold_62 : decode cX12_whyTold 62 = .ok (.lsub, 1) := by decide +kernel
theorem dX12_whyTold_63 : decode cX12_whyTold 63 = .ok (.invokevirtual 335, 3) := by decide +kernel
theorem dX12_whyTold_66 : decode cX12_whyTold 66 = .ok (.ireturn, 1) := by decide +kernel
theorem dX12_whyTold_67 : decode cX12_whyTold 67 = .ok (.lload_n 1, 1) := by decide +kernel
theorem dX12_whyTold_68 : decode cX12_whyTold 68 = .ok (.ldc2_w 366, 3) := by decide +kernel
theorem dX12_whyTold_71 : decode cX12_whyTold 71 = .ok (.ldc2_w 368, 3) := by decide +kernel
theorem dX12_whyTold_74 : decode cX12_whyTold 74 = .ok (.invokestatic 119, 3) := by decide +kernel
theorem dX12_whyTold_77 : decode cX12_whyTold 77 = .ok (.ifCond .eq 15, 3) := by decide +kernel
theorem dX12_whyTold_80 : decode cX12_whyTold 80 = .ok (.aload_n 0, 1) := by decide +kernel
theorem dX12_whyTold_81 : decode cX12_whyTold 81 = .ok (.lload_n 1, 1) := by decide +kernel
theorem dX12_whyTold_82 : decode cX12_whyTold 82 = .ok (.ldc2_w 366, 3) := by decide +kernel
theorem dX12_whyTold_85 : decode cX12_whyTold 85 = .ok (.lsub, 1) := by decide +kernel
theorem dX12_whyTold_86 : decode cX12_whyTold 86 = .ok (.invokevirtual 338, 3) := by decide +kernel
theorem dX12_whyTold_89 : decode cX12_whyTold 89 = .ok (.goto 4, 3) := by decide +kernel
theorem dX12_whyTold_92 : decode cX12_whyTold 92 = .ok (.iconst 1, 1) := by decide +kernel
theorem dX12_whyTold_93 : decode cX12_whyTold 93 = .ok (.ireturn, 1) := by decide +kernel
theorem dX12_does_0 : decode cX12_does 0 = .ok (.iload_n 1, 1) := by decide +kernel
theorem dX12_does_1 : decode cX12_does 1 = .ok (.iconst (-1), 1) := by decide +kernel
theorem dX12_does_2 : decode cX12_does 2 = .ok (.if_icmp .ne 10, 3) := by decide +kernel
theorem dX12_does_5 : decode cX12_does 5 = .ok (.aload_n 0, 1) := by decide +kernel
theorem dX12_does_6 : decode cX12_does 6 = .ok (.invokevirtual 347, 3) := by decide +kernel
theorem dX12_does_9 : decode cX12_does 9 = .ok (.goto 83, 3) := by decide +kernel
theorem dX12_does_12 : decode cX12_does 12 = .ok (.iload_n 1, 1) := by decide +kernel
theorem dX12_does_13 : decode cX12_does 13 = .ok (.sipush 1000, 3) := by decide +kernel
theorem dX12_does_16 : decode cX12_does 16 = .ok (.if_icmp .ge 19, 3) := by decide +kernel
theorem dX12_does_19 : decode cX12_does 19 = .ok (.aload_n 0, 1) := by decide +kernel
theorem dX12_does_20 : decode cX12_does 20 = .ok (.iload_n 1, 1) := by decide +kernel
theorem dX12_does_21 : decode cX12_does 21 = .ok (.bipush 100, 2) := by decide +kernel
theorem dX12_does_23 : decode cX12_does 23 = .ok (.idiv, 1) := by decide +kernel
theorem dX12_does_24 : decode cX12_does 24 = .ok (.iload_n 1, 1) := by decide +kernel
theorem dX12_does_25 : decode cX12_does 25 = .ok (.bipush 100, 2) := by decide +kernel
theorem dX12_does_27 : decode cX12_does 27 = .ok (.irem, 1) := by decide +kernel
theorem dX12_does_28 : decode cX12_does 28 = .ok (.invokevirtual 332, 3) := by decide +kernel
theorem dX12_does_31 : decode cX12_does 31 = .ok (.pop, 1) := by decide +kernel
theorem dX12_does_32 : decode cX12_does 32 = .ok (.goto 60, 3) := by decide +kernel
theorem dX12_does_35 : decode cX12_does 35 = .ok (.iload_n 1, 1) := by decide +kernel
theorem dX12_does_36 : decode cX12_does 36 = .ok (.sipush 2100, 3) := by decide +kernel
theorem dX12_does_39 : decode cX12_does 39 = .ok (.if_icmp .ge 28, 3) := by decide +kernel
theorem dX12_does_42 : decode cX12_does 42 = .ok (.aload_n 0, 1) := by decide +kernel
theorem dX12_does_43 : decode cX12_does 43 = .ok (.iload_n 1, 1) := by decide +kernel
theorem dX12_does_44 : decode cX12_does 44 = .ok (.sipush 2000, 3) := by decide +kernel
theorem dX12_does_47 : decode cX12_does 47 = .ok (.isub, 1) := by decide +kernel
theorem dX12_does_48 : decode cX12_does 48 = .ok (.aload_n 0, 1) := by decide +kernel
theorem dX12_does_49 : decode cX12_does 49 = .ok (.getfield 9, 3) := by decide +kernel
theorem dX12_does_52 : decode cX12_does 52 = .ok (.bipush 37, 2) := by decide +kernel
theorem dX12_does_54 : decode cX12_does 54 = .ok (.iload_n 1, 1) := by decide +kernel
theorem dX12_does_55 : decode cX12_does 55 = .ok (.iadd, 1) := by decide +kernel
theorem dX12_does_56 : decode cX12_does 56 = .ok (.sipush 2000, 3) := by decide +kernel
theorem dX12_does_59 : decode cX12_does 59 = .ok (.isub, 1) := by decide +kernel
theorem dX12_does_60 : decode cX12_does 60 = .ok (.iaload, 1) := by decide +kernel
theorem dX12_does_61 : decode cX12_does 61 = .ok (.invokevirtual 290, 3) := by decide +kernel
theorem dX12_does_64 : decode cX12_does 64 = .ok (.goto 28, 3) := by decide +kernel
theorem dX12_does_67 : decode cX12_does 67 = .ok (.iload_n 1, 1) := by decide +kernel
theorem dX12_does_68 : decode cX12_does 68 = .ok (.sipush 3000, 3) := by decide +kernel
theorem dX12_does_71 : decode cX12_does 71 = .ok (.if_icmp .ge 16, 3) := by decide +kernel
theorem dX12_does_74 : decode cX12_does 74 = .ok (.aload_n 0, 1) := by decide +kernel
theorem dX12_does_75 : decode cX12_does 75 = .ok (.iload_n 1, 1) := by decide +kernel
theorem dX12_does_76 : decode cX12_does 76 = .ok (.sipush 2100, 3) := by decide +kernel
theorem dX12_does_79 : decode cX12_does 79 = .ok (.isub, 1) := by decide +kernel
theorem dX12_does_80 : decode cX12_does 80 = .ok (.invokevirtual 341, 3) := by decide +kernel
theorem dX12_does_83 : decode cX12_does 83 = .ok (.pop, 1) := by decide +kernel
theorem dX12_does_84 : decode cX12_does 84 = .ok (.goto 8, 3) := by decide +kernel
theorem dX12_does_87 : decode cX12_does 87 = .ok (.aload_n 0, 1) := by decide +kernel
theorem dX12_does_88 : decode cX12_does 88 = .ok (.invokevirtual 344, 3) := by decide +kernel
theorem dX12_does_91 : decode cX12_does 91 = .ok (.pop, 1) := by decide +kernel
theorem dX12_does_92 : decode cX12_does 92 = .ok (.return_, 1) := by decide +kernel
theorem dX12_judge_0 : decode cX12_judge 0 = .ok (.aload_n 0, 1) := by decide +kernel
theorem dX12_judge_1 : decode cX12_judge 1 = .ok (.aload_n 0, 1) := by decide +kernel
theorem dX12_judge_2 : decode cX12_judge 2 = .ok (.iload_n 1, 1) := by decide +kernel
theorem dX12_judge_3 : decode cX12_judge 3 = .ok (.invokevirtual 370, 3) := by decide +kernel
theorem dX12_judge_6 : decode cX12_judge 6 = .ok (.putfield 58, 3) := by decide +kernel
theorem dX12_judge_9 : decode cX12_judge 9 = .ok (.aload_n 0, 1) := by decide +kernel
theorem dX12_judge_10 : decode cX12_judge 10 = .ok (.getfield 58, 3) := by decide +kernel
theorem dX12_judge_13 : decode cX12_judge 13 = .ok (.ifCond .ne 20, 3) := by decide +kernel
theorem dX12_judge_16 : decode cX12_judge 16 = .ok (.iload_n 2, 1) := by decide +kernel
theorem dX12_judge_17 : decode cX12_judge 17 = .ok (.i2l, 1) := by decide +kernel
theorem dX12_judge_18 : decode cX12_judge 18 = .ok (.lconst 0, 1) := by decide +kernel
theorem dX12_judge_19 : decode cX12_judge 19 = .ok (.ldc2_w 373, 3) := by decide +kernel
theorem dX12_judge_22 : decode cX12_judge 22 = .ok (.invokestatic 119, 3) := by decide +kernel
theorem dX12_judge_25 : decode cX12_judge 25 = .ok (.ifCond .ne 8, 3) := by decide +kernel
theorem dX12_judge_28 : decode cX12_judge 28 = .ok (.aload_n 0, 1) := by decide +kernel
theorem dX12_judge_29 : decode cX12_judge 29 = .ok (.iconst 3, 1) := by decide +kernel
theorem dX12_judge_30 : decode cX12_judge 30 = .ok (.putfield 58, 3) := by decide +kernel
theorem dX12_judge_33 : decode cX12_judge 33 = .ok (.aload_n 0, 1) := by decide +kernel
theorem dX12_judge_34 : decode cX12_judge 34 = .ok (.getfield 58, 3) := by decide +kernel
theorem dX12_judge_37 : decode cX12_judge 37 = .ok (.ifCond .le 5, 3) := by decide +kernel
theorem dX12_judge_40 : decode cX12_judge 40 = .ok (.iconst 0, 1) := by decide +kernel
theorem dX12_judge_41 : decode cX12_judge 41 = .ok (.ireturn, 1) := by decide +kernel
theorem dX12_judge_42 : decode cX12_judge 42 = .ok (.aload_n 0, 1) := by decide +kernel
theorem dX12_judge_43 : decode cX12_judge 43 = .ok (.invokevirtual 375, 3) := by decide +kernel
theorem dX12_judge_46 : decode cX12_judge 46 = .ok (.iconst (-1), 1) := by decide +kernel
theorem dX12_judge_47 : decode cX12_judge 47 = .ok (.istore_n 3, 1) := by decide +kernel
theorem dX12_judge_48 : decode cX12_judge 48 = .ok (.iconst 0, 1) := by decide +kernel
theorem dX12_judge_49 : decode cX12_judge 49 = .ok (.istore 4, 2) := by decide +kernel
theorem dX12_judge_51 : decode cX12_judge 51 = .ok (.iconst 0, 1) := by decide +kernel
theorem dX12_judge_52 : decode cX12_judge 52 = .ok (.istore 5, 2) := by decide +kernel
theorem dX12_judge_54 : decode cX12_judge 54 = .ok (.iload 5, 2) := by decide +kernel
theorem dX12_judge_56 : decode cX12_judge 56 = .ok (.aload_n 0, 1) := by decide +kernel
theorem dX12_judge_57 : decode cX12_judge 57 = .ok (.getfield 52, 3) := by decide +kernel
theorem dX12_judge_60 : decode cX12_judge 60 = .ok (.iload_n 1, 1) := by decide +kernel
theorem dX12_judge_61 : decode cX12_judge 61 = .ok (.iaload, 1) := by decide +kernel
theorem dX12_judge_62 : decode cX12_judge 62 = .ok (.if_icmp .ge 60, 3) := by decide +kernel
theorem dX12_judge_65 : decode cX12_judge 65 = .ok (.iload_n 3, 1) := by decide +kernel
theorem dX12_judge_66 : decode cX12_judge 66 = .ok (.iconst (-1), 1) := by decide +kernel
theorem dX12_judge_67 : decode cX12_judge 67 = .ok (.if_icmp .ne 55, 3) := by decide +kernel
theorem dX12_judge_70 : decode cX12_judge 70 = .ok (.aload_n 0, 1) := by decide +kernel
theorem dX12_judge_71 : decode cX12_judge 71 = .ok (.aload_n 0, 1) := by decide +kernel
theorem dX12_judge_72 : decode cX12_judge 72 = .ok (.getfield 55, 3) := by decide +kernel
theorem dX12_judge_75 : decode cX12_judge 75 = .ok (.bipush 30, 2) := by decide +kernel
theorem dX12_judge_77 : decode cX12_judge 77 = .ok (.iload_n 1, 1) := by decide +kernel
theorem dX12_judge_78 : decode cX12_judge 78 = .ok (.imul, 1) := by decide +kernel
theorem dX12_judge_79 : decode cX12_judge 79 = .ok (.iload 5, 2) := by decide +kernel
theorem dX12_judge_81 : decode cX12_judge 81 = .ok (.iadd, 1) := by decide +kernel
theorem dX12_judge_82 : decode cX12_judge 82 = .ok (.laload, 1) := by decide +kernel
theorem dX12_judge_83 : decode cX12_judge 83 = .ok (.invokevirtual 378, 3) := by decide +kernel
theorem dX12_judge_86 : decode cX12_judge 86 = .ok (.istore 4, 2) := by decide +kernel
theorem dX12_judge_88 : decode cX12_judge 88 = .ok (.iload 4, 2) := by decide +kernel
theorem dX12_judge_90 : decode cX12_judge 90 = .ok (.ifCond .ne 23, 3) := by decide +kernel
theorem dX12_judge_93 : decode cX12_judge 93 = .ok (.aload_n 0, 1) := by decide +kernel
theorem dX12_judge_94 : decode cX12_judge 94 = .ok (.aload_n 0, 1) := by decide +kernel
theorem dX12_judge_95 : decode cX12_judge 95 = .ok (.getfield 55, 3) := by decide +kernel
theorem dX12_judge_98 : decode cX12_judge 98 = .ok (.bipush 30, 2) := by decide +kernel
theorem dX12_judge_100 : decode cX12_judge 100 = .ok (.iload_n 1, 1) := by decide +kernel
theorem dX12_judge_101 : decode cX12_judge 101 = .ok (.imul, 1) := by decide +kernel
theorem dX12_judge_102 : decode cX12_judge 102 = .ok (.iload 5, 2) := by decide +kernel
theorem dX12_judge_104 : decode cX12_judge 104 = .ok (.iadd, 1) := by decide +kernel
theorem dX12_judge_105 : decode cX12_judge 105 = .ok (.laload, 1) := by decide +kernel
theorem dX12_judge_106 : decode cX12_judge 106 = .ok (.l2i, 1) := by decide +kernel
theorem dX12_judge_107 : decode cX12_judge 107 = .ok (.invokevirtual 381, 3) := by decide +kernel
theorem dX12_judge_110 : decode cX12_judge 110 = .ok (.goto 6, 3) := by decide +kernel
theorem dX12_judge_113 : decode cX12_judge 113 = .ok (.iload 5, 2) := by decide +kernel
theorem dX12_judge_115 : decode cX12_judge 115 = .ok (.istore_n 3, 1) := by decide +kernel
theorem dX12_judge_116 : decode cX12_judge 116 = .ok (.iinc 5 1, 3) := by decide +kernel
theorem dX12_judge_119 : decode cX12_judge 119 = .ok (.goto (-65), 3) := by decide +kernel
theorem dX12_judge_122 : decode cX12_judge 122 = .ok (.aload_n 0, 1) := by decide +kernel
theorem dX12_judge_123 : decode cX12_judge 123 = .ok (.invokevirtual 311, 3) := by decide +kernel
theorem dX12_judge_126 : decode cX12_judge 126 = .ok (.istore 5, 2) := by decide +kernel
theorem dX12_judge_128 : decode cX12_judge 128 = .ok (.aload_n 0, 1) := by decide +kernel
theorem dX12_judge_129 : decode cX12_judge 129 = .ok (.iconst 0, 1) := by decide +kernel
theorem dX12_judge_130 : decode cX12_judge 130 = .ok (.invokevirtual 294, 3) := by decide +kernel
theorem dX12_judge_133 : decode cX12_judge 133 = .ok (.istore 6, 2) := by decide +kernel
theorem dX12_judge_135 : decode cX12_judge 135 = .ok (.aload_n 0, 1) := by decide +kernel
theorem dX12_judge_136 : decode cX12_judge 136 = .ok (.invokevirtual 384, 3) := by decide +kernel
theorem dX12_judge_139 : decode cX12_judge 139 = .ok (.iload_n 2, 1) := by decide +kernel
theorem dX12_judge_140 : decode cX12_judge 140 = .ok (.ifCond .ne 7, 3) := by decide +kernel
theorem dX12_judge_143 : decode cX12_judge 143 = .ok (.iload_n 3, 1) := by decide +kernel
theorem dX12_judge_144 : decode cX12_judge 144 = .ok (.goto 25, 3) := by decide +kernel
theorem dX12_judge_147 : decode cX12_judge 147 = .ok (.iload_n 2, 1) := by decide +kernel
theorem dX12_judge_148 : decode cX12_judge 148 = .ok (.iconst 1, 1) := by decide +kernel
theorem dX12_judge_149 : decode cX12_judge 149 = .ok (.if_icmp .ne 8, 3) := by decide +kernel
theorem dX12_judge_152 : decode cX12_judge 152 = .ok (.iload 4, 2) := by decide +kernel
theorem dX12_judge_154 : decode cX12_judge 154 = .ok (.goto 15, 3) := by decide +kernel
theorem dX12_judge_157 : decode cX12_judge 157 = .ok (.iload_n 2, 1) := by decide +kernel
theorem dX12_judge_158 : decode cX12_judge 158 = .ok (.iconst 2, 1) := by decide +kernel
theorem dX12_judge_159 : decode cX12_judge 159 = .ok (.if_icmp .ne 8, 3) := by decide +kernel
theorem dX12_judge_162 : decode cX12_judge 162 = .ok (.iload 5, 2) := by decide +kernel
theorem dX12_judge_164 : decode cX12_judge 164 = .ok (.goto 5, 3) := by decide +kernel
theorem dX12_judge_167 : decode cX12_judge 167 = .ok (.iload 6, 2) := by decide +kernel
theorem dX12_judge_169 : decode cX12_judge 169 = .ok (.ireturn, 1) := by decide +kernel
theorem dX12_perform_0 : decode cX12_perform 0 = .ok (.aload_n 0, 1) := by decide +kernel
theorem dX12_perform_1 : decode cX12_perform 1 = .ok (.aload_n 0, 1) := by decide +kernel
theorem dX12_perform_2 : decode cX12_perform 2 = .ok (.iload_n 1, 1) := by decide +kernel
theorem dX12_perform_3 : decode cX12_perform 3 = .ok (.invokevirtual 370, 3) := by decide +kernel
theorem dX12_perform_6 : decode cX12_perform 6 = .ok (.putfield 58, 3) := by decide +kernel
theorem dX12_perform_9 : decode cX12_perform 9 = .ok (.aload_n 0, 1) := by decide +kernel
theorem dX12_perform_10 : decode cX12_perform 10 = .ok (.getfield 58, 3) := by decide +kernel
theorem dX12_perform_13 : decode cX12_perform 13 = .ok (.ifCond .le 5, 3) := by decide +kernel
theorem dX12_perform_16 : decode cX12_perform 16 = .ok (.iconst 0, 1) := by decide +kernel
theorem dX12_perform_17 : decode cX12_perform 17 = .ok (.ireturn, 1) := by decide +kernel
theorem dX12_perform_18 : decode cX12_perform 18 = .ok (.iconst 0, 1) := by decide +kernel
theorem dX12_perform_19 : decode cX12_perform 19 = .ok (.istore_n 2, 1) := by decide +kernel
theorem dX12_perform_20 : decode cX12_perform 20 = .ok (.iload_n 2, 1) := by decide +kernel
theorem dX12_perform_21 : decode cX12_perform 21 = .ok (.aload_n 0, 1) := by decide +kernel
theorem dX12_perform_22 : decode cX12_perform 22 = .ok (.getfield 52, 3) := by decide +kernel
theorem dX12_perform_25 : decode cX12_perform 25 = .ok (.iload_n 1, 1) := by decide +kernel
theorem dX12_perform_26 : decode cX12_perform 26 = .ok (.iaload, 1) := by decide +kernel
theorem dX12_perform_27 : decode cX12_perform 27 = .ok (.if_icmp .ge 47, 3) := by decide +kernel
theorem dX12_perform_30 : decode cX12_perform 30 = .ok (.aload_n 0, 1) := by decide +kernel
theorem dX12_perform_31 : decode cX12_perform 31 = .ok (.aload_n 0, 1) := by decide +kernel
theorem dX12_perform_32 : decode cX12_perform 32 = .ok (.getfield 55, 3) := by decide +kernel
theorem dX12_perform_35 : decode cX12_perform 35 = .ok (.bipush 30, 2) := by decide +kernel
theorem dX12_perform_37 : decode cX12_perform 37 = .ok (.iload_n 1, 1) := by decide +kernel
theorem dX12_perform_38 : decode cX12_perform 38 = .ok (.imul, 1) := by decide +kernel
theorem dX12_perform_39 : decode cX12_perform 39 = .ok (.iload_n 2, 1) := by decide +kernel
theorem dX12_perform_40 : decode cX12_perform 40 = .ok (.iadd, 1) := by decide +kernel
theorem dX12_perform_41 : decode cX12_perform 41 = .ok (.laload, 1) := by decide +kernel
theorem dX12_perform_42 : decode cX12_perform 42 = .ok (.invokevirtual 378, 3) := by decide +kernel
theorem dX12_perform_45 : decode cX12_perform 45 = .ok (.ifCond .ne 29, 3) := by decide +kernel
theorem dX12_perform_48 : decode cX12_perform 48 = .ok (.aload_n 0, 1) := by decide +kernel
theorem dX12_perform_49 : decode cX12_perform 49 = .ok (.invokevirtual 329, 3) := by decide +kernel
theorem dX12_perform_52 : decode cX12_perform 52 = .ok (.aload_n 0, 1) := by decide +kernel
theorem dX12_perform_53 : decode cX12_perform 53 = .ok (.aload_n 0, 1) := by decide +kernel
theorem dX12_perform_54 : decode cX12_perform 54 = .ok (.getfield 55, 3) := by decide +kernel
theorem dX12_perform_57 : decode cX12_perform 57 = .ok (.bipush 30, 2) := by decide +kernel
theorem dX12_perform_59 : decode cX12_perform 59 = .ok (.iload_n 1, 1) := by decide +kernel
theorem dX12_perform_60 : decode cX12_perform 60 = .ok (.imul, 1) := by decide +kernel
theorem dX12_perform_61 : decode cX12_perform 61 = .ok (.iload_n 2, 1) := by decide +kernel
theorem dX12_perform_62 : decode cX12_perform 62 = .ok (.iadd, 1) := by decide +kernel
theorem dX12_perform_63 : decode cX12_perform 63 = .ok (.laload, 1) := by decide +kernel
theorem dX12_perform_64 : decode cX12_perform 64 = .ok (.l2i, 1) := by decide +kernel
theorem dX12_perform_65 : decode cX12_perform 65 = .ok (.invokevirtual 381, 3) := by decide +kernel
theorem dX12_perform_68 : decode cX12_perform 68 = .ok (.iinc 2 1, 3) := by decide +kernel
theorem dX12_perform_71 : decode cX12_perform 71 = .ok (.goto (-51), 3) := by decide +kernel
theorem dX12_perform_74 : decode cX12_perform 74 = .ok (.iload_n 2, 1) := by decide +kernel
theorem dX12_perform_75 : decode cX12_perform 75 = .ok (.ireturn, 1) := by decide +kernel
theorem dX12_numberOf_0 : decode cX12_numberOf 0 = .ok (.aload_n 0, 1) := by decide +kernel
theorem dX12_numberOf_1 : decode cX12_numberOf 1 = .ok (.ldc_w 387, 3) := by decide +kernel
theorem dX12_numberOf_4 : decode cX12_numberOf 4 = .ok (.aload_n 0, 1) := by decide +kernel
theorem dX12_numberOf_5 : decode cX12_numberOf 5 = .ok (.getfield 388, 3) := by decide +kernel
theorem dX12_numberOf_8 : decode cX12_numberOf 8 = .ok (.imul, 1) := by decide +kernel
theorem dX12_numberOf_9 : decode cX12_numberOf 9 = .ok (.sipush 12345, 3) := by decide +kernel
theorem dX12_numberOf_12 : decode cX12_numberOf 12 = .ok (.iadd, 1) := by decide +kernel
theorem dX12_numberOf_13 : decode cX12_numberOf 13 = .ok (.putfield 388, 3) := by decide +kernel
theorem dX12_numberOf_16 : decode cX12_numberOf 16 = .ok (.aload_n 0, 1) := by decide +kernel
theorem dX12_numberOf_17 : decode cX12_numberOf 17 = .ok (.getfield 388, 3) := by decide +kernel
theorem dX12_numberOf_20 : decode cX12_numberOf 20 = .ok (.bipush 16, 2) := by decide +kernel
theorem dX12_numberOf_22 : decode cX12_numberOf 22 = .ok (.iushr, 1) := by decide +kernel
theorem dX12_numberOf_23 : decode cX12_numberOf 23 = .ok (.iload_n 1, 1) := by decide +kernel
theorem dX12_numberOf_24 : decode cX12_numberOf 24 = .ok (.irem, 1) := by decide +kernel
theorem dX12_numberOf_25 : decode cX12_numberOf 25 = .ok (.ireturn, 1) := by decide +kernel
theorem dX12_year_0 : decode cX12_year 0 = .ok (.aload_n 0, 1) := by decide +kernel
theorem dX12_year_1 : decode cX12_year 1 = .ok (.iconst 0, 1) := by decide +kernel
theorem dX12_year_2 : decode cX12_year 2 = .ok (.putfield 58, 3) := by decide +kernel
theorem dX12_year_5 : decode cX12_year 5 = .ok (.iload_n 2, 1) := by decide +kernel
theorem dX12_year_6 : decode cX12_year 6 = .ok (.i2l, 1) := by decide +kernel
theorem dX12_year_7 : decode cX12_year 7 = .ok (.lconst 1, 1) := by decide +kernel
theorem dX12_year_8 : decode cX12_year 8 = .ok (.ldc2_w 391, 3) := by decide +kernel
theorem dX12_year_11 : decode cX12_year 11 = .ok (.invokestatic 119, 3) := by decide +kernel
theorem dX12_year_14 : decode cX12_year 14 = .ok (.ifCond .ne 9, 3) := by decide +kernel
theorem dX12_year_17 : decode cX12_year 17 = .ok (.aload_n 0, 1) := by decide +kernel
theorem dX12_year_18 : decode cX12_year 18 = .ok (.iconst 1, 1) := by decide +kernel
theorem dX12_year_19 : decode cX12_year 19 = .ok (.invokevirtual 230, 3) := by decide +kernel
theorem dX12_year_22 : decode cX12_year 22 = .ok (.ireturn, 1) := by decide +kernel
theorem dX12_year_23 : decode cX12_year 23 = .ok (.aload_n 0, 1) := by decide +kernel
theorem dX12_year_24 : decode cX12_year 24 = .ok (.iload_n 1, 1) := by decide +kernel
theorem dX12_year_25 : decode cX12_year 25 = .ok (.putfield 388, 3) := by decide +kernel
theorem dX12_year_28 : decode cX12_year 28 = .ok (.iconst 0, 1) := by decide +kernel
theorem dX12_year_29 : decode cX12_year 29 = .ok (.istore_n 3, 1) := by decide +kernel
theorem dX12_year_30 : decode cX12_year 30 = .ok (.iconst 0, 1) := by decide +kernel
theorem dX12_year_31 : decode cX12_year 31 = .ok (.istore 4, 2) := by decide +kernel
theorem dX12_year_33 : decode cX12_year 33 = .ok (.iload 4, 2) := by decide +kernel
theorem dX12_year_35 : decode cX12_year 35 = .ok (.iload_n 2, 1) := by decide +kernel
theorem dX12_year_36 : decode cX12_year 36 = .ok (.if_icmp .ge 141, 3) := by decide +kernel
theorem dX12_year_39 : decode cX12_year 39 = .ok (.aload_n 0, 1) := by decide +kernel
theorem dX12_year_40 : decode cX12_year 40 = .ok (.bipush 6, 2) := by decide +kernel
theorem dX12_year_42 : decode cX12_year 42 = .ok (.invokevirtual 393, 3) := by decide +kernel
theorem dX12_year_45 : decode cX12_year 45 = .ok (.istore 5, 2) := by decide +kernel
theorem dX12_year_47 : decode cX12_year 47 = .ok (.iload 5, 2) := by decide +kernel
theorem dX12_year_49 : decode cX12_year 49 = .ok (.iconst 1, 1) := by decide +kernel
theorem dX12_year_50 : decode cX12_year 50 = .ok (.if_icmp .le 13, 3) := by decide +kernel
theorem dX12_year_53 : decode cX12_year 53 = .ok (.aload_n 0, 1) := by decide +kernel
theorem dX12_year_54 : decode cX12_year 54 = .ok (.invokevirtual 239, 3) := by decide +kernel
theorem dX12_year_57 : decode cX12_year 57 = .ok (.ifCond .ne 6, 3) := by decide +kernel
theorem dX12_year_60 : decode cX12_year 60 = .ok (.goto 111, 3) := by decide +kernel
theorem dX12_year_63 : decode cX12_year 63 = .ok (.iconst (-1), 1) := by decide +kernel
theorem dX12_year_64 : decode cX12_year 64 = .ok (.istore 6, 2) := by decide +kernel
theorem dX12_year_66 : decode cX12_year 66 = .ok (.iload 5, 2) := by decide +kernel
theorem dX12_year_68 : decode cX12_year 68 = .ok (.iconst 1, 1) := by decide +kernel
theorem dX12_year_69 : decode cX12_year 69 = .ok (.if_icmp .le 52, 3) := by decide +kernel
theorem dX12_year_72 : decode cX12_year 72 = .ok (.aload_n 0, 1) := by decide +kernel
theorem dX12_year_73 : decode cX12_year 73 = .ok (.aload_n 0, 1) := by decide +kernel
theorem dX12_year_74 : decode cX12_year 74 = .ok (.invokevirtual 239, 3) := by decide +kernel
theorem dX12_year_77 : decode cX12_year 77 = .ok (.invokevirtual 393, 3) := by decide +kernel
theorem dX12_year_80 : decode cX12_year 80 = .ok (.iload 5, 2) := by decide +kernel
theorem dX12_year_82 : decode cX12_year 82 = .ok (.iconst 4, 1) := by decide +kernel
theorem dX12_year_83 : decode cX12_year 83 = .ok (.if_icmp .ge 8, 3) := by decide +kernel
theorem dX12_year_86 : decode cX12_year 86 = .ok (.bipush 100, 2) := by decide +kernel
theorem dX12_year_88 : decode cX12_year 88 = .ok (.goto 4, 3) := by decide +kernel
theorem dX12_year_91 : decode cX12_year 91 = .ok (.iconst 1, 1) := by decide +kernel
theorem dX12_year_92 : decode cX12_year 92 = .ok (.imul, 1) := by decide +kernel
theorem dX12_year_93 : decode cX12_year 93 = .ok (.iload 5, 2) := by decide +kernel
theorem dX12_year_95 : decode cX12_year 95 = .ok (.iconst 4, 1) := by decide +kernel
theorem dX12_year_96 : decode cX12_year 96 = .ok (.if_icmp .ge 7, 3) := by decide +kernel
theorem dX12_year_99 : decode cX12_year 99 = .ok (.iconst 0, 1) := by decide +kernel
theorem dX12_year_100 : decode cX12_year 100 = .ok (.goto 18, 3) := by decide +kernel
theorem dX12_year_103 : decode cX12_year 103 = .ok (.iload 5, 2) := by decide +kernel
theorem dX12_year_105 : decode cX12_year 105 = .ok (.iconst 4, 1) := by decide +kernel
theorem dX12_year_106 : decode cX12_year 106 = .ok (.if_icmp .ne 9, 3) := by decide +kernel
theorem dX12_year_109 : decode cX12_year 109 = .ok (.sipush 2000, 3) := by decide +kernel
theorem dX12_year_112 : decode cX12_year 112 = .ok (.goto 6, 3) := by decide +kernel
theorem dX12_year_115 : decode cX12_year 115 = .ok (.sipush 2100, 3) := by decide +kernel
theorem dX12_year_118 : decode cX12_year 118 = .ok (.iadd, 1) := by decide +kernel
theorem dX12_year_119 : decode cX12_year 119 = .ok (.istore 6, 2) := by decide +kernel
theorem dX12_year_121 : decode cX12_year 121 = .ok (.iload 5, 2) := by decide +kernel
theorem dX12_year_123 : decode cX12_year 123 = .ok (.iconst 2, 1) := by decide +kernel
theorem dX12_year_124 : decode cX12_year 124 = .ok (.if_icmp .eq 9, 3) := by decide +kernel
theorem dX12_year_127 : decode cX12_year 127 = .ok (.iload 5, 2) := by decide +kernel
theorem dX12_year_129 : decode cX12_year 129 = .ok (.iconst 3, 1) := by decide +kernel
theorem dX12_year_130 : decode cX12_year 130 = .ok (.if_icmp .ne 15, 3) := by decide +kernel
theorem dX12_year_133 : decode cX12_year 133 = .ok (.iload 6, 2) := by decide +kernel
theorem dX12_year_135 : decode cX12_year 135 = .ok (.iconst 1, 1) := by decide +kernel
theorem dX12_year_136 : decode cX12_year 136 = .ok (.aload_n 0, 1) := by decide +kernel
theorem dX12_year_137 : decode cX12_year 137 = .ok (.iconst 5, 1) := by decide +kernel
theorem dX12_year_138 : decode cX12_year 138 = .ok (.invokevirtual 393, 3) := by decide +kernel
theorem dX12_year_141 : decode cX12_year 141 = .ok (.iadd, 1) := by decide +kernel
theorem dX12_year_142 : decode cX12_year 142 = .ok (.iadd, 1) := by decide +kernel
theorem dX12_year_143 : decode cX12_year 143 = .ok (.istore 6, 2) := by decide +kernel
theorem dX12_year_145 : decode cX12_year 145 = .ok (.aload_n 0, 1) := by decide +kernel
theorem dX12_year_146 : decode cX12_year 146 = .ok (.iload 6, 2) := by decide +kernel
theorem dX12_year_148 : decode cX12_year 148 = .ok (.i2l, 1) := by decide +kernel
theorem dX12_year_149 : decode cX12_year 149 = .ok (.invokevirtual 378, 3) := by decide +kernel
theorem dX12_year_152 : decode cX12_year 152 = .ok (.ifCond .eq 6, 3) := by decide +kernel
theorem dX12_year_155 : decode cX12_year 155 = .ok (.goto 16, 3) := by decide +kernel
theorem dX12_year_158 : decode cX12_year 158 = .ok (.aload_n 0, 1) := by decide +kernel
theorem dX12_year_159 : decode cX12_year 159 = .ok (.invokevirtual 329, 3) := by decide +kernel
theorem dX12_year_162 : decode cX12_year 162 = .ok (.aload_n 0, 1) := by decide +kernel
theorem dX12_year_163 : decode cX12_year 163 = .ok (.iload 6, 2) := by decide +kernel
theorem dX12_year_165 : decode cX12_year 165 = .ok (.invokevirtual 381, 3) := by decide +kernel
theorem dX12_year_168 : decode cX12_year 168 = .ok (.iinc 3 1, 3) := by decide +kernel
theorem dX12_year_171 : decode cX12_year 171 = .ok (.iinc 4 1, 3) := by decide +kernel
theorem dX12_year_174 : decode cX12_year 174 = .ok (.goto (-141), 3) := by decide +kernel
theorem dX12_year_177 : decode cX12_year 177 = .ok (.iload_n 3, 1) := by decide +kernel
theorem dX12_year_178 : decode cX12_year 178 = .ok (.ireturn, 1) := by decide +kernel
theorem dX12_common_0 : decode cX12_common 0 = .ok (.iload_n 1, 1) := by decide +kernel
theorem dX12_common_1 : decode cX12_common 1 = .ok (.ifCond .ne 7, 3) := by decide +kernel
theorem dX12_common_4 : decode cX12_common 4 = .ok (.iload_n 0, 1) := by decide +kernel
theorem dX12_common_5 : decode cX12_common 5 = .ok (.goto 10, 3) := by decide +kernel
theorem dX12_common_8 : decode cX12_common 8 = .ok (.iload_n 1, 1) := by decide +kernel
theorem dX12_common_9 : decode cX12_common 9 = .ok (.iload_n 0, 1) := by decide +kernel
theorem dX12_common_10 : decode cX12_common 10 = .ok (.iload_n 1, 1) := by decide +kernel
theorem dX12_common_11 : decode cX12_common 11 = .ok (.irem, 1) := by decide +kernel
theorem dX12_common_12 : decode cX12_common 12 = .ok (.invokestatic 396, 3) := by decide +kernel
theorem dX12_common_15 : decode cX12_common 15 = .ok (.ireturn, 1) := by decide +kernel
theorem dX12_jointOf_0 : decode cX12_jointOf 0 = .ok (.iconst 1, 1) := by decide +kernel
theorem dX12_jointOf_1 : decode cX12_jointOf 1 = .ok (.istore_n 1, 1) := by decide +kernel
theorem dX12_jointOf_2 : decode cX12_jointOf 2 = .ok (.iconst 0, 1) := by decide +kernel
theorem dX12_jointOf_3 : decode cX12_jointOf 3 = .ok (.istore_n 2, 1) := by decide +kernel
theorem dX12_jointOf_4 : decode cX12_jointOf 4 = .ok (.iload_n 2, 1) := by decide +kernel
theorem dX12_jointOf_5 : decode cX12_jointOf 5 = .ok (.aload_n 0, 1) := by decide +kernel
theorem dX12_jointOf_6 : decode cX12_jointOf 6 = .ok (.invokevirtual 239, 3) := by decide +kernel
theorem dX12_jointOf_9 : decode cX12_jointOf 9 = .ok (.if_icmp .ge 35, 3) := by decide +kernel
theorem dX12_jointOf_12 : decode cX12_jointOf 12 = .ok (.iload_n 1, 1) := by decide +kernel
theorem dX12_jointOf_13 : decode cX12_jointOf 13 = .ok (.iload_n 1, 1) := by decide +kernel
theorem dX12_jointOf_14 : decode cX12_jointOf 14 = .ok (.aload_n 0, 1) := by decide +kernel
theorem dX12_jointOf_15 : decode cX12_jointOf 15 = .ok (.getfield 9, 3) := by decide +kernel
theorem dX12_jointOf_18 : decode cX12_jointOf 18 = .ok (.bipush 27, 2) := by decide +kernel
theorem dX12_jointOf_20 : decode cX12_jointOf 20 = .ok (.iload_n 2, 1) := by decide +kernel
theorem dX12_jointOf_21 : decode cX12_jointOf 21 = .ok (.iadd, 1) := by decide +kernel
theorem dX12_jointOf_22 : decode cX12_jointOf 22 = .ok (.iaload, 1) := by decide +kernel
theorem dX12_jointOf_23 : decode cX12_jointOf 23 = .ok (.invokestatic 396, 3) := by decide +kernel
theorem dX12_jointOf_26 : decode cX12_jointOf 26 = .ok (.idiv, 1) := by decide +kernel
theorem dX12_jointOf_27 : decode cX12_jointOf 27 = .ok (.aload_n 0, 1) := by decide +kernel
theorem dX12_jointOf_28 : decode cX12_jointOf 28 = .ok (.getfield 9, 3) := by decide +kernel
theorem dX12_jointOf_31 : decode cX12_jointOf 31 = .ok (.bipush 27, 2) := by decide +kernel
theorem dX12_jointOf_33 : decode cX12_jointOf 33 = .ok (.iload_n 2, 1) := by decide +kernel
theorem dX12_jointOf_34 : decode cX12_jointOf 34 = .ok (.iadd, 1) := by decide +kernel
theorem dX12_jointOf_35 : decode cX12_jointOf 35 = .ok (.iaload, 1) := by decide +kernel
theorem dX12_jointOf_36 : decode cX12_jointOf 36 = .ok (.imul, 1) := by decide +kernel
theorem dX12_jointOf_37 : decode cX12_jointOf 37 = .ok (.istore_n 1, 1) := by decide +kernel
theorem dX12_jointOf_38 : decode cX12_jointOf 38 = .ok (.iinc 2 1, 3) := by decide +kernel
theorem dX12_jointOf_41 : decode cX12_jointOf 41 = .ok (.goto (-37), 3) := by decide +kernel
theorem dX12_jointOf_44 : decode cX12_jointOf 44 = .ok (.iload_n 1, 1) := by decide +kernel
theorem dX12_jointOf_45 : decode cX12_jointOf 45 = .ok (.ireturn, 1) := by decide +kernel
theorem dX12_joint_0 : decode cX12_joint 0 = .ok (.aload_n 0, 1) := by decide +kernel
theorem dX12_joint_1 : decode cX12_joint 1 = .ok (.iconst 0, 1) := by decide +kernel
theorem dX12_joint_2 : decode cX12_joint 2 = .ok (.putfield 58, 3) := by decide +kernel
theorem dX12_joint_5 : decode cX12_joint 5 = .ok (.aload_n 0, 1) := by decide +kernel
theorem dX12_joint_6 : decode cX12_joint 6 = .ok (.invokevirtual 399, 3) := by decide +kernel
theorem dX12_joint_9 : decode cX12_joint 9 = .ok (.ireturn, 1) := by decide +kernel
theorem dX12_together_0 : decode cX12_together 0 = .ok (.aload_n 0, 1) := by decide +kernel
theorem dX12_together_1 : decode cX12_together 1 = .ok (.iconst 0, 1) := by decide +kernel
theorem dX12_together_2 : decode cX12_together 2 = .ok (.putfield 58, 3) := by decide +kernel
theorem dX12_together_5 : decode cX12_together 5 = .ok (.iload_n 1, 1) := by decide +kernel
theorem dX12_together_6 : decode cX12_together 6 = .ok (.aload_n 0, 1) := by decide +kernel
theorem dX12_together_7 : decode cX12_together 7 = .ok (.invokevirtual 322, 3) := by decide +kernel
theorem dX12_together_10 : decode cX12_together 10 = .ok (.iconst (-1), 1) := by decide +kernel
theorem dX12_together_11 : decode cX12_together 11 = .ok (.ixor, 1) := by decide +kernel
theorem dX12_together_12 : decode cX12_together 12 = .ok (.iand, 1) := by decide +kernel
theorem dX12_together_13 : decode cX12_together 13 = .ok (.ifCond .eq 9, 3) := by decide +kernel
theorem dX12_together_16 : decode cX12_together 16 = .ok (.aload_n 0, 1) := by decide +kernel
theorem dX12_together_17 : decode cX12_together 17 = .ok (.iconst 1, 1) := by decide +kernel
theorem dX12_together_18 : decode cX12_together 18 = .ok (.invokevirtual 230, 3) := by decide +kernel
theorem dX12_together_21 : decode cX12_together 21 = .ok (.ireturn, 1) := by decide +kernel
theorem dX12_together_22 : decode cX12_together 22 = .ok (.aload_n 0, 1) := by decide +kernel
theorem dX12_together_23 : decode cX12_together 23 = .ok (.invokevirtual 399, 3) := by decide +kernel
theorem dX12_together_26 : decode cX12_together 26 = .ok (.istore_n 3, 1) := by decide +kernel
theorem dX12_together_27 : decode cX12_together 27 = .ok (.iconst 0, 1) := by decide +kernel
theorem dX12_together_28 : decode cX12_together 28 = .ok (.istore 4, 2) := by decide +kernel
theorem dX12_together_30 : decode cX12_together 30 = .ok (.iload 4, 2) := by decide +kernel
theorem dX12_together_32 : decode cX12_together 32 = .ok (.iload_n 3, 1) := by decide +kernel
theorem dX12_together_33 : decode cX12_together 33 = .ok (.if_icmp .ge 32, 3) := by decide +kernel
theorem dX12_together_36 : decode cX12_together 36 = .ok (.aload_n 0, 1) := by decide +kernel
theorem dX12_together_37 : decode cX12_together 37 = .ok (.iload 4, 2) := by decide +kernel
theorem dX12_together_39 : decode cX12_together 39 = .ok (.invokevirtual 294, 3) := by decide +kernel
theorem dX12_together_42 : decode cX12_together 42 = .ok (.iload_n 1, 1) := by decide +kernel
theorem dX12_together_43 : decode cX12_together 43 = .ok (.iand, 1) := by decide +kernel
theorem dX12_together_44 : decode cX12_together 44 = .ok (.iload_n 2, 1) := by decide +kernel
theorem dX12_together_45 : decode cX12_together 45 = .ok (.ifCond .eq 7, 3) := by decide +kernel
theorem dX12_together_48 : decode cX12_together 48 = .ok (.iload_n 1, 1) := by decide +kernel
theorem dX12_together_49 : decode cX12_together 49 = .ok (.goto 4, 3) := by decide +kernel
theorem dX12_together_52 : decode cX12_together 52 = .ok (.iconst 0, 1) := by decide +kernel
theorem dX12_together_53 : decode cX12_together 53 = .ok (.if_icmp .ne 6, 3) := by decide +kernel
theorem dX12_together_56 : decode cX12_together 56 = .ok (.iload 4, 2) := by decide +kernel
theorem dX12_together_58 : decode cX12_together 58 = .ok (.ireturn, 1) := by decide +kernel
theorem dX12_together_59 : decode cX12_together 59 = .ok (.iinc 4 1, 3) := by decide +kernel
theorem dX12_together_62 : decode cX12_together 62 = .ok (.goto (-32), 3) := by decide +kernel
theorem dX12_together_65 : decode cX12_together 65 = .ok (.iconst (-1), 1) := by decide +kernel
theorem dX12_together_66 : decode cX12_together 66 = .ok (.ireturn, 1) := by decide +kernel
theorem dX12_wakesIn_0 : decode cX12_wakesIn 0 = .ok (.aload_n 0, 1) := by decide +kernel
theorem dX12_wakesIn_1 : decode cX12_wakesIn 1 = .ok (.iconst 0, 1) := by decide +kernel
theorem dX12_wakesIn_2 : decode cX12_wakesIn 2 = .ok (.putfield 58, 3) := by decide +kernel
theorem dX12_wakesIn_5 : decode cX12_wakesIn 5 = .ok (.aload_n 0, 1) := by decide +kernel
theorem dX12_wakesIn_6 : decode cX12_wakesIn 6 = .ok (.iload_n 1, 1) := by decide +kernel
theorem dX12_wakesIn_7 : decode cX12_wakesIn 7 = .ok (.i2l, 1) := by decide +kernel
theorem dX12_wakesIn_8 : decode cX12_wakesIn 8 = .ok (.invokevirtual 302, 3) := by decide +kernel
theorem dX12_wakesIn_11 : decode cX12_wakesIn 11 = .ok (.ifCond .ne 9, 3) := by decide +kernel
theorem dX12_wakesIn_14 : decode cX12_wakesIn 14 = .ok (.aload_n 0, 1) := by decide +kernel
theorem dX12_wakesIn_15 : decode cX12_wakesIn 15 = .ok (.iconst 1, 1) := by decide +kernel
theorem dX12_wakesIn_16 : decode cX12_wakesIn 16 = .ok (.invokevirtual 230, 3) := by decide +kernel
theorem dX12_wakesIn_19 : decode cX12_wakesIn 19 = .ok (.ireturn, 1) := by decide +kernel
theorem dX12_wakesIn_20 : decode cX12_wakesIn 20 = .ok (.aload_n 0, 1) := by decide +kernel
theorem dX12_wakesIn_21 : decode cX12_wakesIn 21 = .ok (.iload_n 1, 1) := by decide +kernel
theorem dX12_wakesIn_22 : decode cX12_wakesIn 22 = .ok (.invokevirtual 271, 3) := by decide +kernel
theorem dX12_wakesIn_25 : decode cX12_wakesIn 25 = .ok (.ifCond .eq 7, 3) := by decide +kernel
theorem dX12_wakesIn_28 : decode cX12_wakesIn 28 = .ok (.iconst 0, 1) := by decide +kernel
theorem dX12_wakesIn_29 : decode cX12_wakesIn 29 = .ok (.goto 19, 3) := by decide +kernel
theorem dX12_wakesIn_32 : decode cX12_wakesIn 32 = .ok (.aload_n 0, 1) := by decide +kernel
theorem dX12_wakesIn_33 : decode cX12_wakesIn 33 = .ok (.getfield 9, 3) := by decide +kernel
theorem dX12_wakesIn_36 : decode cX12_wakesIn 36 = .ok (.bipush 27, 2) := by decide +kernel
theorem dX12_wakesIn_38 : decode cX12_wakesIn 38 = .ok (.iload_n 1, 1) := by decide +kernel
theorem dX12_wakesIn_39 : decode cX12_wakesIn 39 = .ok (.iadd, 1) := by decide +kernel
theorem dX12_wakesIn_40 : decode cX12_wakesIn 40 = .ok (.iaload, 1) := by decide +kernel
theorem dX12_wakesIn_41 : decode cX12_wakesIn 41 = .ok (.aload_n 0, 1) := by decide +kernel
theorem dX12_wakesIn_42 : decode cX12_wakesIn 42 = .ok (.iload_n 1, 1) := by decide +kernel
theorem dX12_wakesIn_43 : decode cX12_wakesIn 43 = .ok (.iconst 0, 1) := by decide +kernel
theorem dX12_wakesIn_44 : decode cX12_wakesIn 44 = .ok (.invokevirtual 242, 3) := by decide +kernel
theorem dX12_wakesIn_47 : decode cX12_wakesIn 47 = .ok (.isub, 1) := by decide +kernel
theorem dX12_wakesIn_48 : decode cX12_wakesIn 48 = .ok (.ireturn, 1) := by decide +kernel
theorem dX12_stays_0 : decode cX12_stays 0 = .ok (.aload_n 0, 1) := by decide +kernel
theorem dX12_stays_1 : decode cX12_stays 1 = .ok (.iconst 0, 1) := by decide +kernel
theorem dX12_stays_2 : decode cX12_stays 2 = .ok (.putfield 58, 3) := by decide +kernel
theorem dX12_stays_5 : decode cX12_stays 5 = .ok (.aload_n 0, 1) := by decide +kernel
theorem dX12_stays_6 : decode cX12_stays 6 = .ok (.iload_n 1, 1) := by decide +kernel
theorem dX12_stays_7 : decode cX12_stays 7 = .ok (.i2l, 1) := by decide +kernel
theorem dX12_stays_8 : decode cX12_stays 8 = .ok (.invokevirtual 302, 3) := by decide +kernel
theorem dX12_stays_11 : decode cX12_stays 11 = .ok (.ifCond .ne 9, 3) := by decide +kernel
theorem dX12_stays_14 : decode cX12_stays 14 = .ok (.aload_n 0, 1) := by decide +kernel
theorem dX12_stays_15 : decode cX12_stays 15 = .ok (.iconst 1, 1) := by decide +kernel
theorem dX12_stays_16 : decode cX12_stays 16 = .ok (.invokevirtual 230, 3) := by decide +kernel
theorem dX12_stays_19 : decode cX12_stays 19 = .ok (.ireturn, 1) := by decide +kernel
theorem dX12_stays_20 : decode cX12_stays 20 = .ok (.aload_n 0, 1) := by decide +kernel
theorem dX12_stays_21 : decode cX12_stays 21 = .ok (.getfield 9, 3) := by decide +kernel
theorem dX12_stays_24 : decode cX12_stays 24 = .ok (.bipush 37, 2) := by decide +kernel
theorem dX12_stays_26 : decode cX12_stays 26 = .ok (.iload_n 1, 1) := by decide +kernel
theorem dX12_stays_27 : decode cX12_stays 27 = .ok (.iadd, 1) := by decide +kernel
theorem dX12_stays_28 : decode cX12_stays 28 = .ok (.iaload, 1) := by decide +kernel
theorem dX12_stays_29 : decode cX12_stays 29 = .ok (.aload_n 0, 1) := by decide +kernel
theorem dX12_stays_30 : decode cX12_stays 30 = .ok (.getfield 9, 3) := by decide +kernel
theorem dX12_stays_33 : decode cX12_stays 33 = .ok (.bipush 27, 2) := by decide +kernel
theorem dX12_stays_35 : decode cX12_stays 35 = .ok (.iload_n 1, 1) := by decide +kernel
theorem dX12_stays_36 : decode cX12_stays 36 = .ok (.iadd, 1) := by decide +kernel
theorem dX12_stays_37 : decode cX12_stays 37 = .ok (.iaload, 1) := by decide +kernel
theorem dX12_stays_38 : decode cX12_stays 38 = .ok (.if_icmp .ne 5, 3) := by decide +kernel
theorem dX12_stays_41 : decode cX12_stays 41 = .ok (.iconst (-1), 1) := by decide +kernel
theorem dX12_stays_42 : decode cX12_stays 42 = .ok (.ireturn, 1) := by decide +kernel
theorem dX12_stays_43 : decode cX12_stays 43 = .ok (.aload_n 0, 1) := by decide +kernel
theorem dX12_stays_44 : decode cX12_stays 44 = .ok (.iload_n 1, 1) := by decide +kernel
theorem dX12_stays_45 : decode cX12_stays 45 = .ok (.invokevirtual 271, 3) := by decide +kernel
theorem dX12_stays_48 : decode cX12_stays 48 = .ok (.ifCond .eq 15, 3) := by decide +kernel
theorem dX12_stays_51 : decode cX12_stays 51 = .ok (.aload_n 0, 1) := by decide +kernel
theorem dX12_stays_52 : decode cX12_stays 52 = .ok (.getfield 9, 3) := by decide +kernel
theorem dX12_stays_55 : decode cX12_stays 55 = .ok (.bipush 37, 2) := by decide +kernel
theorem dX12_stays_57 : decode cX12_stays 57 = .ok (.iload_n 1, 1) := by decide +kernel
theorem dX12_stays_58 : decode cX12_stays 58 = .ok (.iadd, 1) := by decide +kernel
theorem dX12_stays_59 : decode cX12_stays 59 = .ok (.iaload, 1) := by decide +kernel
theorem dX12_stays_60 : decode cX12_stays 60 = .ok (.goto 12, 3) := by decide +kernel
theorem dX12_stays_63 : decode cX12_stays 63 = .ok (.aload_n 0, 1) := by decide +kernel
theorem dX12_stays_64 : decode cX12_stays 64 = .ok (.getfield 9, 3) := by decide +kernel
theorem dX12_stays_67 : decode cX12_stays 67 = .ok (.bipush 27, 2) := by decide +kernel
theorem dX12_stays_69 : decode cX12_stays 69 = .ok (.iload_n 1, 1) := by decide +kernel
theorem dX12_stays_70 : decode cX12_stays 70 = .ok (.iadd, 1) := by decide +kernel
theorem dX12_stays_71 : decode cX12_stays 71 = .ok (.iaload, 1) := by decide +kernel
theorem dX12_stays_72 : decode cX12_stays 72 = .ok (.aload_n 0, 1) := by decide +kernel
theorem dX12_stays_73 : decode cX12_stays 73 = .ok (.iload_n 1, 1) := by decide +kernel
theorem dX12_stays_74 : decode cX12_stays 74 = .ok (.iconst 0, 1) := by decide +kernel
theorem dX12_stays_75 : decode cX12_stays 75 = .ok (.invokevirtual 242, 3) := by decide +kernel
theorem dX12_stays_78 : decode cX12_stays 78 = .ok (.isub, 1) := by decide +kernel
theorem dX12_stays_79 : decode cX12_stays 79 = .ok (.ireturn, 1) := by decide +kernel
theorem dX12_withAwake_0 : decode cX12_withAwake 0 = .ok (.aload_n 0, 1) := by decide +kernel
theorem dX12_withAwake_1 : decode cX12_withAwake 1 = .ok (.iconst 0, 1) := by decide +kernel
theorem dX12_withAwake_2 : decode cX12_withAwake 2 = .ok (.putfield 58, 3) := by decide +kernel
theorem dX12_withAwake_5 : decode cX12_withAwake 5 = .ok (.iload_n 1, 1) := by decide +kernel
theorem dX12_withAwake_6 : decode cX12_withAwake 6 = .ok (.i2l, 1) := by decide +kernel
theorem dX12_withAwake_7 : decode cX12_withAwake 7 = .ok (.lconst 0, 1) := by decide +kernel
theorem dX12_withAwake_8 : decode cX12_withAwake 8 = .ok (.aload_n 0, 1) := by decide +kernel
theorem dX12_withAwake_9 : decode cX12_withAwake 9 = .ok (.invokevirtual 239, 3) := by decide +kernel
theorem dX12_withAwake_12 : decode cX12_withAwake 12 = .ok (.i2l, 1) := by decide +kernel
theorem dX12_withAwake_13 : decode cX12_withAwake 13 = .ok (.invokestatic 119, 3) := by decide +kernel
theorem dX12_withAwake_16 : decode cX12_withAwake 16 = .ok (.ifCond .ne 9, 3) := by decide +kernel
theorem dX12_withAwake_19 : decode cX12_withAwake 19 = .ok (.aload_n 0, 1) := by decide +kernel
theorem dX12_withAwake_20 : decode cX12_withAwake 20 = .ok (.iconst 1, 1) := by decide +kernel
theorem dX12_withAwake_21 : decode cX12_withAwake 21 = .ok (.invokevirtual 230, 3) := by decide +kernel
theorem dX12_withAwake_24 : decode cX12_withAwake 24 = .ok (.ireturn, 1) := by decide +kernel
theorem dX12_withAwake_25 : decode cX12_withAwake 25 = .ok (.aload_n 0, 1) := by decide +kernel
theorem dX12_withAwake_26 : decode cX12_withAwake 26 = .ok (.invokevirtual 399, 3) := by decide +kernel
theorem dX12_withAwake_29 : decode cX12_withAwake 29 = .ok (.istore_n 2, 1) := by decide +kernel
theorem dX12_withAwake_30 : decode cX12_withAwake 30 = .ok (.iconst 0, 1) := by decide +kernel
theorem dX12_withAwake_31 : decode cX12_withAwake 31 = .ok (.istore_n 3, 1) := by decide +kernel
theorem dX12_withAwake_32 : decode cX12_withAwake 32 = .ok (.iconst 0, 1) := by decide +kernel
theorem dX12_withAwake_33 : decode cX12_withAwake 33 = .ok (.istore 4, 2) := by decide +kernel
theorem dX12_withAwake_35 : decode cX12_withAwake 35 = .ok (.iload 4, 2) := by decide +kernel
theorem dX12_withAwake_37 : decode cX12_withAwake 37 = .ok (.iload_n 2, 1) := by decide +kernel
theorem dX12_withAwake_38 : decode cX12_withAwake 38 = .ok (.if_icmp .ge 30, 3) := by decide +kernel
theorem dX12_withAwake_41 : decode cX12_withAwake 41 = .ok (.iload_n 3, 1) := by decide +kernel
theorem dX12_withAwake_42 : decode cX12_withAwake 42 = .ok (.aload_n 0, 1) := by decide +kernel
theorem dX12_withAwake_43 : decode cX12_withAwake 43 = .ok (.iload 4, 2) := by decide +kernel
theorem dX12_withAwake_45 : decode cX12_withAwake 45 = .ok (.invokevirtual 294, 3) := by decide +kernel
theorem dX12_withAwake_48 : decode cX12_withAwake 48 = .ok (.invokestatic 265, 3) := by decide +kernel
theorem dX12_withAwake_51 : decode cX12_withAwake 51 = .ok (.iload_n 1, 1) := by decide +kernel
theorem dX12_withAwake_52 : decode cX12_withAwake 52 = .ok (.if_icmp .ne 7, 3) := by decide +kernel
theorem dX12_withAwake_55 : decode cX12_withAwake 55 = .ok (.iconst 1, 1) := by decide +kernel
theorem dX12_withAwake_56 : decode cX12_withAwake 56 = .ok (.goto 4, 3) := by decide +kernel
theorem dX12_withAwake_59 : decode cX12_withAwake 59 = .ok (.iconst 0, 1) := by decide +kernel
theorem dX12_withAwake_60 : decode cX12_withAwake 60 = .ok (.iadd, 1) := by decide +kernel
theorem dX12_withAwake_61 : decode cX12_withAwake 61 = .ok (.istore_n 3, 1) := by decide +kernel
theorem dX12_withAwake_62 : decode cX12_withAwake 62 = .ok (.iinc 4 1, 3) := by decide +kernel
theorem dX12_withAwake_65 : decode cX12_withAwake 65 = .ok (.goto (-30), 3) := by decide +kernel
theorem dX12_withAwake_68 : decode cX12_withAwake 68 = .ok (.iload_n 3, 1) := by decide +kernel
theorem dX12_withAwake_69 : decode cX12_withAwake 69 = .ok (.ireturn, 1) := by decide +kernel
theorem dX12_stillest_0 : decode cX12_stillest 0 = .ok (.aload_n 0, 1) := by decide +kernel
theorem dX12_stillest_1 : decode cX12_stillest 1 = .ok (.iconst 0, 1) := by decide +kernel
theorem dX12_stillest_2 : decode cX12_stillest 2 = .ok (.putfield 58, 3) := by decide +kernel
theorem dX12_stillest_5 : decode cX12_stillest 5 = .ok (.iload_n 1, 1) := by decide +kernel
theorem dX12_stillest_6 : decode cX12_stillest 6 = .ok (.i2l, 1) := by decide +kernel
theorem dX12_stillest_7 : decode cX12_stillest 7 = .ok (.lconst 0, 1) := by decide +kernel
theorem dX12_stillest_8 : decode cX12_stillest 8 = .ok (.lconst 1, 1) := by decide +kernel
theorem dX12_stillest_9 : decode cX12_stillest 9 = .ok (.invokestatic 119, 3) := by decide +kernel
theorem dX12_stillest_12 : decode cX12_stillest 12 = .ok (.ifCond .ne 9, 3) := by decide +kernel
theorem dX12_stillest_15 : decode cX12_stillest 15 = .ok (.aload_n 0, 1) := by decide +kernel
theorem dX12_stillest_16 : decode cX12_stillest 16 = .ok (.iconst 1, 1) := by decide +kernel
theorem dX12_stillest_17 : decode cX12_stillest 17 = .ok (.invokevirtual 230, 3) := by decide +kernel
theorem dX12_stillest_20 : decode cX12_stillest 20 = .ok (.ireturn, 1) := by decide +kernel
theorem dX12_stillest_21 : decode cX12_stillest 21 = .ok (.aload_n 0, 1) := by decide +kernel
theorem dX12_stillest_22 : decode cX12_stillest 22 = .ok (.invokevirtual 399, 3) := by decide +kernel
theorem dX12_stillest_25 : decode cX12_stillest 25 = .ok (.istore_n 2, 1) := by decide +kernel
theorem dX12_stillest_26 : decode cX12_stillest 26 = .ok (.iconst 0, 1) := by decide +kernel
theorem dX12_stillest_27 : decode cX12_stillest 27 = .ok (.istore_n 3, 1) := by decide +kernel
theorem dX12_stillest_28 : decode cX12_stillest 28 = .ok (.iconst 1, 1) := by decide +kernel
theorem dX12_stillest_29 : decode cX12_stillest 29 = .ok (.istore 4, 2) := by decide +kernel
theorem dX12_stillest_31 : decode cX12_stillest 31 = .ok (.iload 4, 2) := by decide +kernel
theorem dX12_stillest_33 : decode cX12_stillest 33 = .ok (.iload_n 2, 1) := by decide +kernel
theorem dX12_stillest_34 : decode cX12_stillest 34 = .ok (.if_icmp .ge 32, 3) := by decide +kernel
theorem dX12_stillest_37 : decode cX12_stillest 37 = .ok (.aload_n 0, 1) := by decide +kernel
theorem dX12_stillest_38 : decode cX12_stillest 38 = .ok (.iload 4, 2) := by decide +kernel
theorem dX12_stillest_40 : decode cX12_stillest 40 = .ok (.invokevirtual 294, 3) := by decide +kernel
theorem dX12_stillest_43 : decode cX12_stillest 43 = .ok (.invokestatic 265, 3) := by decide +kernel
theorem dX12_stillest_46 : decode cX12_stillest 46 = .ok (.aload_n 0, 1) := by decide +kernel
theorem dX12_stillest_47 : decode cX12_stillest 47 = .ok (.iload_n 3, 1) := by decide +kernel
theorem dX12_stillest_48 : decode cX12_stillest 48 = .ok (.invokevirtual 294, 3) := by decide +kernel
theorem dX12_stillest_51 : decode cX12_stillest 51 = .ok (.invokestatic 265, 3) := by decide +kernel
theorem dX12_stillest_54 : decode cX12_stillest 54 = .ok (.if_icmp .ge 6, 3) := by decide +kernel
theorem dX12_stillest_57 : decode cX12_stillest 57 = .ok (.iload 4, 2) := by decide +kernel
theorem dX12_stillest_59 : decode cX12_stillest 59 = .ok (.istore_n 3, 1) := by decide +kernel
theorem dX12_stillest_60 : decode cX12_stillest 60 = .ok (.iinc 4 1, 3) := by decide +kernel
theorem dX12_stillest_63 : decode cX12_stillest 63 = .ok (.goto (-32), 3) := by decide +kernel
theorem dX12_stillest_66 : decode cX12_stillest 66 = .ok (.iload_n 1, 1) := by decide +kernel
theorem dX12_stillest_67 : decode cX12_stillest 67 = .ok (.ifCond .ne 7, 3) := by decide +kernel
theorem dX12_stillest_70 : decode cX12_stillest 70 = .ok (.iload_n 3, 1) := by decide +kernel
theorem dX12_stillest_71 : decode cX12_stillest 71 = .ok (.goto 11, 3) := by decide +kernel
theorem dX12_stillest_74 : decode cX12_stillest 74 = .ok (.aload_n 0, 1) := by decide +kernel
theorem dX12_stillest_75 : decode cX12_stillest 75 = .ok (.iload_n 3, 1) := by decide +kernel
theorem dX12_stillest_76 : decode cX12_stillest 76 = .ok (.invokevirtual 294, 3) := by decide +kernel
theorem dX12_stillest_79 : decode cX12_stillest 79 = .ok (.invokestatic 265, 3) := by decide +kernel
theorem dX12_stillest_82 : decode cX12_stillest 82 = .ok (.ireturn, 1) := by decide +kernel
theorem dX12_isNoise_0 : decode cX12_isNoise 0 = .ok (.iload_n 0, 1) := by decide +kernel
theorem dX12_isNoise_1 : decode cX12_isNoise 1 = .ok (.i2l, 1) := by decide +kernel
theorem dX12_isNoise_2 : decode cX12_isNoise 2 = .ok (.lconst 0, 1) := by decide +kernel
theorem dX12_isNoise_3 : decode cX12_isNoise 3 = .ok (.ldc2_w 314, 3) := by decide +kernel
theorem dX12_isNoise_6 : decode cX12_isNoise 6 = .ok (.invokestatic 119, 3) := by decide +kernel
theorem dX12_isNoise_9 : decode cX12_isNoise 9 = .ok (.ireturn, 1) := by decide +kernel
theorem dX12_chain_0 : decode cX12_chain 0 = .ok (.aload_n 0, 1) := by decide +kernel
theorem dX12_chain_1 : decode cX12_chain 1 = .ok (.aload_n 0, 1) := by decide +kernel
theorem dX12_chain_2 : decode cX12_chain 2 = .ok (.iload_n 1, 1) := by decide +kernel
theorem dX12_chain_3 : decode cX12_chain 3 = .ok (.i2l, 1) := by decide +kernel
theorem dX12_chain_4 : decode cX12_chain 4 = .ok (.invokevirtual 302, 3) := by decide +kernel
theorem dX12_chain_7 : decode cX12_chain 7 = .ok (.ifCond .ne 7, 3) := by decide +kernel
theorem dX12_chain_10 : decode cX12_chain 10 = .ok (.iconst 1, 1) := by decide +kernel
theorem dX12_chain_11 : decode cX12_chain 11 = .ok (.goto 15, 3) := by decide +kernel
theorem dX12_chain_14 : decode cX12_chain 14 = .ok (.iload_n 2, 1) := by decide +kernel
theorem dX12_chain_15 : decode cX12_chain 15 = .ok (.invokestatic 402, 3) := by decide +kernel
theorem dX12_chain_18 : decode cX12_chain 18 = .ok (.ifCond .eq 7, 3) := by decide +kernel
theorem dX12_chain_21 : decode cX12_chain 21 = .ok (.iconst 0, 1) := by decide +kernel
theorem dX12_chain_22 : decode cX12_chain 22 = .ok (.goto 4, 3) := by decide +kernel
theorem dX12_chain_25 : decode cX12_chain 25 = .ok (.iconst 2, 1) := by decide +kernel
theorem dX12_chain_26 : decode cX12_chain 26 = .ok (.putfield 58, 3) := by decide +kernel
theorem dX12_chain_29 : decode cX12_chain 29 = .ok (.aload_n 0, 1) := by decide +kernel
theorem dX12_chain_30 : decode cX12_chain 30 = .ok (.getfield 58, 3) := by decide +kernel
theorem dX12_chain_33 : decode cX12_chain 33 = .ok (.ifCond .le 7, 3) := by decide +kernel
theorem dX12_chain_36 : decode cX12_chain 36 = .ok (.iconst 0, 1) := by decide +kernel
theorem dX12_chain_37 : decode cX12_chain 37 = .ok (.goto 9, 3) := by decide +kernel
theorem dX12_chain_40 : decode cX12_chain 40 = .ok (.aload_n 0, 1) := by decide +kernel
theorem dX12_chain_41 : decode cX12_chain 41 = .ok (.iload_n 1, 1) := by decide +kernel
theorem dX12_chain_42 : decode cX12_chain 42 = .ok (.iload_n 2, 1) := by decide +kernel
theorem dX12_chain_43 : decode cX12_chain 43 = .ok (.invokevirtual 316, 3) := by decide +kernel
theorem dX12_chain_46 : decode cX12_chain 46 = .ok (.ireturn, 1) := by decide +kernel
theorem dX12_wakes_0 : decode cX12_wakes 0 = .ok (.aload_n 0, 1) := by decide +kernel
theorem dX12_wakes_1 : decode cX12_wakes 1 = .ok (.aload_n 0, 1) := by decide +kernel
theorem dX12_wakes_2 : decode cX12_wakes 2 = .ok (.iload_n 1, 1) := by decide +kernel
theorem dX12_wakes_3 : decode cX12_wakes 3 = .ok (.i2l, 1) := by decide +kernel
theorem dX12_wakes_4 : decode cX12_wakes 4 = .ok (.invokevirtual 302, 3) := by decide +kernel
theorem dX12_wakes_7 : decode cX12_wakes 7 = .ok (.ifCond .eq 12, 3) := by decide +kernel
theorem dX12_wakes_10 : decode cX12_wakes 10 = .ok (.aload_n 0, 1) := by decide +kernel
theorem dX12_wakes_11 : decode cX12_wakes 11 = .ok (.iload_n 2, 1) := by decide +kernel
theorem dX12_wakes_12 : decode cX12_wakes 12 = .ok (.i2l, 1) := by decide +kernel
theorem dX12_wakes_13 : decode cX12_wakes 13 = .ok (.invokevirtual 302, 3) := by decide +kernel
theorem dX12_wakes_16 : decode cX12_wakes 16 = .ok (.ifCond .ne 7, 3) := by decide +kernel
theorem dX12_wakes_19 : decode cX12_wakes 19 = .ok (.iconst 1, 1) := by decide +kernel
theorem dX12_wakes_20 : decode cX12_wakes 20 = .ok (.goto 20, 3) := by decide +kernel
theorem dX12_wakes_23 : decode cX12_wakes 23 = .ok (.iload_n 1, 1) := by decide +kernel
theorem dX12_wakes_24 : decode cX12_wakes 24 = .ok (.iload_n 2, 1) := by decide +kernel
theorem dX12_wakes_25 : decode cX12_wakes 25 = .ok (.if_icmp .eq 10, 3) := by decide +kernel
theorem dX12_wakes_28 : decode cX12_wakes 28 = .ok (.iload_n 3, 1) := by decide +kernel
theorem dX12_wakes_29 : decode cX12_wakes 29 = .ok (.invokestatic 402, 3) := by decide +kernel
theorem dX12_wakes_32 : decode cX12_wakes 32 = .ok (.ifCond .ne 7, 3) := by decide +kernel
theorem dX12_wakes_35 : decode cX12_wakes 35 = .ok (.iconst 2, 1) := by decide +kernel
theorem dX12_wakes_36 : decode cX12_wakes 36 = .ok (.goto 4, 3) := by decide +kernel
theorem dX12_wakes_39 : decode cX12_wakes 39 = .ok (.iconst 0, 1) := by decide +kernel
theorem dX12_wakes_40 : decode cX12_wakes 40 = .ok (.putfield 58, 3) := by decide +kernel
theorem dX12_wakes_43 : decode cX12_wakes 43 = .ok (.aload_n 0, 1) := by decide +kernel
theorem dX12_wakes_44 : decode cX12_wakes 44 = .ok (.getfield 58, 3) := by decide +kernel
theorem dX12_wakes_47 : decode cX12_wakes 47 = .ok (.ifCond .ne 17, 3) := by decide +kernel
theorem dX12_wakes_50 : decode cX12_wakes 50 = .ok (.aload_n 0, 1) := by decide +kernel
theorem dX12_wakes_51 : decode cX12_wakes 51 = .ok (.iload_n 1, 1) := by decide +kernel
theorem dX12_wakes_52 : decode cX12_wakes 52 = .ok (.iload_n 2, 1) := by decide +kernel
theorem dX12_wakes_53 : decode cX12_wakes 53 = .ok (.iload_n 3, 1) := by decide +kernel
theorem dX12_wakes_54 : decode cX12_wakes 54 = .ok (.invokevirtual 282, 3) := by decide +kernel
theorem dX12_wakes_57 : decode cX12_wakes 57 = .ok (.ifCond .eq 7, 3) := by decide +kernel
theorem dX12_wakes_60 : decode cX12_wakes 60 = .ok (.iconst 1, 1) := by decide +kernel
theorem dX12_wakes_61 : decode cX12_wakes 61 = .ok (.goto 4, 3) := by decide +kernel
theorem dX12_wakes_64 : decode cX12_wakes 64 = .ok (.iconst 0, 1) := by decide +kernel
theorem dX12_wakes_65 : decode cX12_wakes 65 = .ok (.ireturn, 1) := by decide +kernel
theorem dX12_isQuiet_0 : decode cX12_isQuiet 0 = .ok (.aload_n 0, 1) := by decide +kernel
theorem dX12_isQuiet_1 : decode cX12_isQuiet 1 = .ok (.iload_n 1, 1) := by decide +kernel
theorem dX12_isQuiet_2 : decode cX12_isQuiet 2 = .ok (.i2l, 1) := by decide +kernel
theorem dX12_isQuiet_3 : decode cX12_isQuiet 3 = .ok (.iload_n 2, 1) := by decide +kernel
theorem dX12_isQuiet_4 : decode cX12_isQuiet 4 = .ok (.i2l, 1) := by decide +kernel
theorem dX12_isQuiet_5 : decode cX12_isQuiet 5 = .ok (.invokevirtual 325, 3) := by decide +kernel
theorem dX12_isQuiet_8 : decode cX12_isQuiet 8 = .ok (.ifCond .ne 16, 3) := by decide +kernel
theorem dX12_isQuiet_11 : decode cX12_isQuiet 11 = .ok (.aload_n 0, 1) := by decide +kernel
theorem dX12_isQuiet_12 : decode cX12_isQuiet 12 = .ok (.iload_n 1, 1) := by decide +kernel
theorem dX12_isQuiet_13 : decode cX12_isQuiet 13 = .ok (.iload_n 2, 1) := by decide +kernel
theorem dX12_isQuiet_14 : decode cX12_isQuiet 14 = .ok (.invokevirtual 316, 3) := by decide +kernel
theorem dX12_isQuiet_17 : decode cX12_isQuiet 17 = .ok (.ifCond .ne 7, 3) := by decide +kernel
theorem dX12_isQuiet_20 : decode cX12_isQuiet 20 = .ok (.iconst 1, 1) := by decide +kernel
theorem dX12_isQuiet_21 : decode cX12_isQuiet 21 = .ok (.goto 4, 3) := by decide +kernel
theorem dX12_isQuiet_24 : decode cX12_isQuiet 24 = .ok (.iconst 0, 1) := by decide +kernel
theorem dX12_isQuiet_25 : decode cX12_isQuiet 25 = .ok (.ireturn, 1) := by decide +kernel
theorem dX12_quietest_0 : decode cX12_quietest 0 = .ok (.aload_n 0, 1) := by decide +kernel
theorem dX12_quietest_1 : decode cX12_quietest 1 = .ok (.iconst 0, 1) := by decide +kernel
theorem dX12_quietest_2 : decode cX12_quietest 2 = .ok (.putfield 58, 3) := by decide +kernel
theorem dX12_quietest_5 : decode cX12_quietest 5 = .ok (.aload_n 0, 1) := by decide +kernel
theorem dX12_quietest_6 : decode cX12_quietest 6 = .ok (.iload_n 1, 1) := by decide +kernel
theorem dX12_quietest_7 : decode cX12_quietest 7 = .ok (.i2l, 1) := by decide +kernel
theorem dX12_quietest_8 : decode cX12_quietest 8 = .ok (.invokevirtual 302, 3) := by decide +kernel
theorem dX12_quietest_11 : decode cX12_quietest 11 = .ok (.ifCond .ne 9, 3) := by decide +kernel
theorem dX12_quietest_14 : decode cX12_quietest 14 = .ok (.aload_n 0, 1) := by decide +kernel
theorem dX12_quietest_15 : decode cX12_quietest 15 = .ok (.iconst 1, 1) := by decide +kernel
theorem dX12_quietest_16 : decode cX12_quietest 16 = .ok (.invokevirtual 230, 3) := by decide +kernel
theorem dX12_quietest_19 : decode cX12_quietest 19 = .ok (.ireturn, 1) := by decide +kernel
theorem dX12_quietest_20 : decode cX12_quietest 20 = .ok (.bipush 99, 2) := by decide +kernel
theorem dX12_quietest_22 : decode cX12_quietest 22 = .ok (.aload_n 0, 1) := by decide +kernel
theorem dX12_quietest_23 : decode cX12_quietest 23 = .ok (.getfield 9, 3) := by decide +kernel
theorem dX12_quietest_26 : decode cX12_quietest 26 = .ok (.bipush 15, 2) := by decide +kernel
theorem dX12_quietest_28 : decode cX12_quietest 28 = .ok (.iload_n 1, 1) := by decide +kernel
theorem dX12_quietest_29 : decode cX12_quietest 29 = .ok (.iadd, 1) := by decide +kernel
theorem dX12_quietest_30 : decode cX12_quietest 30 = .ok (.iaload, 1) := by decide +kernel
theorem dX12_quietest_31 : decode cX12_quietest 31 = .ok (.invokestatic 297, 3) := by decide +kernel
theorem dX12_quietest_34 : decode cX12_quietest 34 = .ok (.istore_n 2, 1) := by decide +kernel
theorem dX12_quietest_35 : decode cX12_quietest 35 = .ok (.iload_n 2, 1) := by decide +kernel
theorem dX12_quietest_36 : decode cX12_quietest 36 = .ok (.ifCond .le 18, 3) := by decide +kernel
theorem dX12_quietest_39 : decode cX12_quietest 39 = .ok (.aload_n 0, 1) := by decide +kernel
theorem dX12_quietest_40 : decode cX12_quietest 40 = .ok (.iload_n 1, 1) := by decide +kernel
theorem dX12_quietest_41 : decode cX12_quietest 41 = .ok (.iload_n 2, 1) := by decide +kernel
theorem dX12_quietest_42 : decode cX12_quietest 42 = .ok (.invokevirtual 405, 3) := by decide +kernel
theorem dX12_quietest_45 : decode cX12_quietest 45 = .ok (.ifCond .ne 9, 3) := by decide +kernel
theorem dX12_quietest_48 : decode cX12_quietest 48 = .ok (.iinc 2 (-1), 3) := by decide +kernel
theorem dX12_quietest_51 : decode cX12_quietest 51 = .ok (.goto (-16), 3) := by decide +kernel
theorem dX12_quietest_54 : decode cX12_quietest 54 = .ok (.iload_n 2, 1) := by decide +kernel
theorem dX12_quietest_55 : decode cX12_quietest 55 = .ok (.ireturn, 1) := by decide +kernel
theorem dX12_wakersOf_0 : decode cX12_wakersOf 0 = .ok (.iconst 0, 1) := by decide +kernel
theorem dX12_wakersOf_1 : decode cX12_wakersOf 1 = .ok (.istore_n 3, 1) := by decide +kernel
theorem dX12_wakersOf_2 : decode cX12_wakersOf 2 = .ok (.iconst 0, 1) := by decide +kernel
theorem dX12_wakersOf_3 : decode cX12_wakersOf 3 = .ok (.istore 4, 2) := by decide +kernel
theorem dX12_wakersOf_5 : decode cX12_wakersOf 5 = .ok (.iload 4, 2) := by decide +kernel
theorem dX12_wakersOf_7 : decode cX12_wakersOf 7 = .ok (.aload_n 0, 1) := by decide +kernel
theorem dX12_wakersOf_8 : decode cX12_wakersOf 8 = .ok (.invokevirtual 239, 3) := by decide +kernel
theorem dX12_wakersOf_11 : decode cX12_wakersOf 11 = .ok (.if_icmp .ge 49, 3) := by decide +kernel
theorem dX12_wakersOf_14 : decode cX12_wakersOf 14 = .ok (.iload_n 3, 1) := by decide +kernel
theorem dX12_wakersOf_15 : decode cX12_wakersOf 15 = .ok (.iload 4, 2) := by decide +kernel
theorem dX12_wakersOf_17 : decode cX12_wakersOf 17 = .ok (.iload_n 1, 1) := by decide +kernel
theorem dX12_wakersOf_18 : decode cX12_wakersOf 18 = .ok (.if_icmp .eq 33, 3) := by decide +kernel
theorem dX12_wakersOf_21 : decode cX12_wakersOf 21 = .ok (.aload_n 0, 1) := by decide +kernel
theorem dX12_wakersOf_22 : decode cX12_wakersOf 22 = .ok (.iload 4, 2) := by decide +kernel
theorem dX12_wakersOf_24 : decode cX12_wakersOf 24 = .ok (.invokevirtual 271, 3) := by decide +kernel
theorem dX12_wakersOf_27 : decode cX12_wakersOf 27 = .ok (.ifCond .eq 24, 3) := by decide +kernel
theorem dX12_wakersOf_30 : decode cX12_wakersOf 30 = .ok (.aload_n 0, 1) := by decide +kernel
theorem dX12_wakersOf_31 : decode cX12_wakersOf 31 = .ok (.iload 4, 2) := by decide +kernel
theorem dX12_wakersOf_33 : decode cX12_wakersOf 33 = .ok (.iload_n 2, 1) := by decide +kernel
theorem dX12_wakersOf_34 : decode cX12_wakersOf 34 = .ok (.invokevirtual 316, 3) := by decide +kernel
theorem dX12_wakersOf_37 : decode cX12_wakersOf 37 = .ok (.iload_n 1, 1) := by decide +kernel
theorem dX12_wakersOf_38 : decode cX12_wakersOf 38 = .ok (.invokestatic 268, 3) := by decide +kernel
theorem dX12_wakersOf_41 : decode cX12_wakersOf 41 = .ok (.ifCond .eq 10, 3) := by decide +kernel
theorem dX12_wakersOf_44 : decode cX12_wakersOf 44 = .ok (.iconst 1, 1) := by decide +kernel
theorem dX12_wakersOf_45 : decode cX12_wakersOf 45 = .ok (.iload 4, 2) := by decide +kernel
theorem dX12_wakersOf_47 : decode cX12_wakersOf 47 = .ok (.ishl, 1) := by decide +kernel
theorem dX12_wakersOf_48 : decode cX12_wakersOf 48 = .ok (.goto 4, 3) := by decide +kernel
theorem dX12_wakersOf_51 : decode cX12_wakersOf 51 = .ok (.iconst 0, 1) := by decide +kernel
theorem dX12_wakersOf_52 : decode cX12_wakersOf 52 = .ok (.ior, 1) := by decide +kernel
theorem dX12_wakersOf_53 : decode cX12_wakersOf 53 = .ok (.istore_n 3, 1) := by decide +kernel
theorem dX12_wakersOf_54 : decode cX12_wakersOf 54 = .ok (.iinc 4 1, 3) := by decide +kernel
theorem dX12_wakersOf_57 : decode cX12_wakersOf 57 = .ok (.goto (-52), 3) := by decide +kernel
theorem dX12_wakersOf_60 : decode cX12_wakersOf 60 = .ok (.iload_n 3, 1) := by decide +kernel
theorem dX12_wakersOf_61 : decode cX12_wakersOf 61 = .ok (.ireturn, 1) := by decide +kernel
theorem dX12_wakers_0 : decode cX12_wakers 0 = .ok (.aload_n 0, 1) := by decide +kernel
theorem dX12_wakers_1 : decode cX12_wakers 1 = .ok (.aload_n 0, 1) := by decide +kernel
theorem dX12_wakers_2 : decode cX12_wakers 2 = .ok (.iload_n 1, 1) := by decide +kernel
theorem dX12_wakers_3 : decode cX12_wakers 3 = .ok (.i2l, 1) := by decide +kernel
theorem dX12_wakers_4 : decode cX12_wakers 4 = .ok (.invokevirtual 302, 3) := by decide +kernel
theorem dX12_wakers_7 : decode cX12_wakers 7 = .ok (.ifCond .ne 7, 3) := by decide +kernel
theorem dX12_wakers_10 : decode cX12_wakers 10 = .ok (.iconst 1, 1) := by decide +kernel
theorem dX12_wakers_11 : decode cX12_wakers 11 = .ok (.goto 15, 3) := by decide +kernel
theorem dX12_wakers_14 : decode cX12_wakers 14 = .ok (.iload_n 2, 1) := by decide +kernel
theorem dX12_wakers_15 : decode cX12_wakers 15 = .ok (.invokestatic 402, 3) := by decide +kernel
theorem dX12_wakers_18 : decode cX12_wakers 18 = .ok (.ifCond .eq 7, 3) := by decide +kernel
theorem dX12_wakers_21 : decode cX12_wakers 21 = .ok (.iconst 0, 1) := by decide +kernel
theorem dX12_wakers_22 : decode cX12_wakers 22 = .ok (.goto 4, 3) := by decide +kernel
theorem dX12_wakers_25 : decode cX12_wakers 25 = .ok (.iconst 2, 1) := by decide +kernel
theorem dX12_wakers_26 : decode cX12_wakers 26 = .ok (.putfield 58, 3) := by decide +kernel
theorem dX12_wakers_29 : decode cX12_wakers 29 = .ok (.aload_n 0, 1) := by decide +kernel
theorem dX12_wakers_30 : decode cX12_wakers 30 = .ok (.getfield 58, 3) := by decide +kernel
theorem dX12_wakers_33 : decode cX12_wakers 33 = .ok (.ifCond .le 7, 3) := by decide +kernel
theorem dX12_wakers_36 : decode cX12_wakers 36 = .ok (.iconst 0, 1) := by decide +kernel
theorem dX12_wakers_37 : decode cX12_wakers 37 = .ok (.goto 9, 3) := by decide +kernel
theorem dX12_wakers_40 : decode cX12_wakers 40 = .ok (.aload_n 0, 1) := by decide +kernel
theorem dX12_wakers_41 : decode cX12_wakers 41 = .ok (.iload_n 1, 1) := by decide +kernel
theorem dX12_wakers_42 : decode cX12_wakers 42 = .ok (.iload_n 2, 1) := by decide +kernel
theorem dX12_wakers_43 : decode cX12_wakers 43 = .ok (.invokevirtual 408, 3) := by decide +kernel
theorem dX12_wakers_46 : decode cX12_wakers 46 = .ok (.ireturn, 1) := by decide +kernel
theorem dX12_leastNoise_0 : decode cX12_leastNoise 0 = .ok (.aload_n 0, 1) := by decide +kernel
theorem dX12_leastNoise_1 : decode cX12_leastNoise 1 = .ok (.aload_n 0, 1) := by decide +kernel
theorem dX12_leastNoise_2 : decode cX12_leastNoise 2 = .ok (.iload_n 1, 1) := by decide +kernel
theorem dX12_leastNoise_3 : decode cX12_leastNoise 3 = .ok (.i2l, 1) := by decide +kernel
theorem dX12_leastNoise_4 : decode cX12_leastNoise 4 = .ok (.invokevirtual 302, 3) := by decide +kernel
theorem dX12_leastNoise_7 : decode cX12_leastNoise 7 = .ok (.ifCond .ne 7, 3) := by decide +kernel
theorem dX12_leastNoise_10 : decode cX12_leastNoise 10 = .ok (.iconst 1, 1) := by decide +kernel
theorem dX12_leastNoise_11 : decode cX12_leastNoise 11 = .ok (.goto 18, 3) := by decide +kernel
theorem dX12_leastNoise_14 : decode cX12_leastNoise 14 = .ok (.iload_n 2, 1) := by decide +kernel
theorem dX12_leastNoise_15 : decode cX12_leastNoise 15 = .ok (.i2l, 1) := by decide +kernel
theorem dX12_leastNoise_16 : decode cX12_leastNoise 16 = .ok (.lconst 0, 1) := by decide +kernel
theorem dX12_leastNoise_17 : decode cX12_leastNoise 17 = .ok (.lconst 1, 1) := by decide +kernel
theorem dX12_leastNoise_18 : decode cX12_leastNoise 18 = .ok (.invokestatic 119, 3) := by decide +kernel
theorem dX12_leastNoise_21 : decode cX12_leastNoise 21 = .ok (.ifCond .eq 7, 3) := by decide +kernel
theorem dX12_leastNoise_24 : decode cX12_leastNoise 24 = .ok (.iconst 0, 1) := by decide +kernel
theorem dX12_leastNoise_25 : decode cX12_leastNoise 25 = .ok (.goto 4, 3) := by decide +kernel
theorem dX12_leastNoise_28 : decode cX12_leastNoise 28 = .ok (.iconst 2, 1) := by decide +kernel
theorem dX12_leastNoise_29 : decode cX12_leastNoise 29 = .ok (.putfield 58, 3) := by decide +kernel
theorem dX12_leastNoise_32 : decode cX12_leastNoise 32 = .ok (.aload_n 0, 1) := by decide +kernel
theorem dX12_leastNoise_33 : decode cX12_leastNoise 33 = .ok (.getfield 58, 3) := by decide +kernel
theorem dX12_leastNoise_36 : decode cX12_leastNoise 36 = .ok (.ifCond .le 5, 3) := by decide +kernel
theorem dX12_leastNoise_39 : decode cX12_leastNoise 39 = .ok (.iconst 0, 1) := by decide +kernel
theorem dX12_leastNoise_40 : decode cX12_leastNoise 40 = .ok (.ireturn, 1) := by decide +kernel
theorem dX12_leastNoise_41 : decode cX12_leastNoise 41 = .ok (.iconst 0, 1) := by decide +kernel
theorem dX12_leastNoise_42 : decode cX12_leastNoise 42 = .ok (.istore_n 3, 1) := by decide +kernel
theorem dX12_leastNoise_43 : decode cX12_leastNoise 43 = .ok (.iload_n 3, 1) := by decide +kernel
theorem dX12_leastNoise_44 : decode cX12_leastNoise 44 = .ok (.bipush 99, 2) := by decide +kernel
theorem dX12_leastNoise_46 : decode cX12_leastNoise 46 = .ok (.if_icmp .gt 36, 3) := by decide +kernel
theorem dX12_leastNoise_49 : decode cX12_leastNoise 49 = .ok (.aload_n 0, 1) := by decide +kernel
theorem dX12_leastNoise_50 : decode cX12_leastNoise 50 = .ok (.iload_n 1, 1) := by decide +kernel
theorem dX12_leastNoise_51 : decode cX12_leastNoise 51 = .ok (.iload_n 3, 1) := by decide +kernel
theorem dX12_leastNoise_52 : decode cX12_leastNoise 52 = .ok (.invokevirtual 408, 3) := by decide +kernel
theorem dX12_leastNoise_55 : decode cX12_leastNoise 55 = .ok (.istore 4, 2) := by decide +kernel
theorem dX12_leastNoise_57 : decode cX12_leastNoise 57 = .ok (.iload 4, 2) := by decide +kernel
theorem dX12_leastNoise_59 : decode cX12_leastNoise 59 = .ok (.ifCond .eq 17, 3) := by decide +kernel
theorem dX12_leastNoise_62 : decode cX12_leastNoise 62 = .ok (.iload_n 2, 1) := by decide +kernel
theorem dX12_leastNoise_63 : decode cX12_leastNoise 63 = .ok (.ifCond .ne 7, 3) := by decide +kernel
theorem dX12_leastNoise_66 : decode cX12_leastNoise 66 = .ok (.iload_n 3, 1) := by decide +kernel
theorem dX12_leastNoise_67 : decode cX12_leastNoise 67 = .ok (.goto 8, 3) := by decide +kernel
theorem dX12_leastNoise_70 : decode cX12_leastNoise 70 = .ok (.iload 4, 2) := by decide +kernel
theorem dX12_leastNoise_72 : decode cX12_leastNoise 72 = .ok (.invokestatic 411, 3) := by decide +kernel
theorem dX12_leastNoise_75 : decode cX12_leastNoise 75 = .ok (.ireturn, 1) := by decide +kernel
theorem dX12_leastNoise_76 : decode cX12_leastNoise 76 = .ok (.iinc 3 1, 3) := by decide +kernel
theorem dX12_leastNoise_79 : decode cX12_leastNoise 79 = .ok (.goto (-36), 3) := by decide +kernel
theorem dX12_leastNoise_82 : decode cX12_leastNoise 82 = .ok (.iconst (-1), 1) := by decide +kernel
theorem dX12_leastNoise_83 : decode cX12_leastNoise 83 = .ok (.ireturn, 1) := by decide +kernel
theorem dX12_firstOf_0 : decode cX12_firstOf 0 = .ok (.iconst 0, 1) := by decide +kernel
theorem dX12_firstOf_1 : decode cX12_firstOf 1 = .ok (.istore_n 1, 1) := by decide +kernel
theorem dX12_firstOf_2 : decode cX12_firstOf 2 = .ok (.iload_n 0, 1) := by decide +kernel
theorem dX12_firstOf_3 : decode cX12_firstOf 3 = .ok (.iload_n 1, 1) := by decide +kernel
theorem dX12_firstOf_4 : decode cX12_firstOf 4 = .ok (.invokestatic 268, 3) := by decide +kernel
theorem dX12_firstOf_7 : decode cX12_firstOf 7 = .ok (.ifCond .ne 9, 3) := by decide +kernel
theorem dX12_firstOf_10 : decode cX12_firstOf 10 = .ok (.iinc 1 1, 3) := by decide +kernel
theorem dX12_firstOf_13 : decode cX12_firstOf 13 = .ok (.goto (-11), 3) := by decide +kernel
theorem dX12_firstOf_16 : decode cX12_firstOf 16 = .ok (.iload_n 1, 1) := by decide +kernel
theorem dX12_firstOf_17 : decode cX12_firstOf 17 = .ok (.ireturn, 1) := by decide +kernel
theorem dX12_shield_0 : decode cX12_shield 0 = .ok (.aload_n 0, 1) := by decide +kernel
theorem dX12_shield_1 : decode cX12_shield 1 = .ok (.aload_n 0, 1) := by decide +kernel
theorem dX12_shield_2 : decode cX12_shield 2 = .ok (.iload_n 1, 1) := by decide +kernel
theorem dX12_shield_3 : decode cX12_shield 3 = .ok (.i2l, 1) := by decide +kernel
theorem dX12_shield_4 : decode cX12_shield 4 = .ok (.invokevirtual 302, 3) := by decide +kernel
theorem dX12_shield_7 : decode cX12_shield 7 = .ok (.ifCond .eq 12, 3) := by decide +kernel
theorem dX12_shield_10 : decode cX12_shield 10 = .ok (.aload_n 0, 1) := by decide +kernel
theorem dX12_shield_11 : decode cX12_shield 11 = .ok (.iload_n 3, 1) := by decide +kernel
theorem dX12_shield_12 : decode cX12_shield 12 = .ok (.i2l, 1) := by decide +kernel
theorem dX12_shield_13 : decode cX12_shield 13 = .ok (.invokevirtual 302, 3) := by decide +kernel
theorem dX12_shield_16 : decode cX12_shield 16 = .ok (.ifCond .ne 7, 3) := by decide +kernel
theorem dX12_shield_19 : decode cX12_shield 19 = .ok (.iconst 1, 1) := by decide +kernel
theorem dX12_shield_20 : decode cX12_shield 20 = .ok (.goto 26, 3) := by decide +kernel
theorem dX12_shield_23 : decode cX12_shield 23 = .ok (.iload_n 2, 1) := by decide +kernel
theorem dX12_shield_24 : decode cX12_shield 24 = .ok (.invokestatic 402, 3) := by decide +kernel
theorem dX12_shield_27 : decode cX12_shield 27 = .ok (.ifCond .eq 18, 3) := by decide +kernel
theorem dX12_shield_30 : decode cX12_shield 30 = .ok (.iload 4, 2) := by decide +kernel
theorem dX12_shield_32 : decode cX12_shield 32 = .ok (.i2l, 1) := by decide +kernel
theorem dX12_shield_33 : decode cX12_shield 33 = .ok (.lconst 0, 1) := by decide +kernel
theorem dX12_shield_34 : decode cX12_shield 34 = .ok (.lconst 1, 1) := by decide +kernel
theorem dX12_shield_35 : decode cX12_shield 35 = .ok (.invokestatic 119, 3) := by decide +kernel
theorem dX12_shield_38 : decode cX12_shield 38 = .ok (.ifCond .eq 7, 3) := by decide +kernel
theorem dX12_shield_41 : decode cX12_shield 41 = .ok (.iconst 0, 1) := by decide +kernel
theorem dX12_shield_42 : decode cX12_shield 42 = .ok (.goto 4, 3) := by decide +kernel
theorem dX12_shield_45 : decode cX12_shield 45 = .ok (.iconst 2, 1) := by decide +kernel
theorem dX12_shield_46 : decode cX12_shield 46 = .ok (.putfield 58, 3) := by decide +kernel
theorem dX12_shield_49 : decode cX12_shield 49 = .ok (.aload_n 0, 1) := by decide +kernel
theorem dX12_shield_50 : decode cX12_shield 50 = .ok (.getfield 58, 3) := by decide +kernel
theorem dX12_shield_53 : decode cX12_shield 53 = .ok (.ifCond .le 5, 3) := by decide +kernel
theorem dX12_shield_56 : decode cX12_shield 56 = .ok (.iconst 0, 1) := by decide +kernel
theorem dX12_shield_57 : decode cX12_shield 57 = .ok (.ireturn, 1) := by decide +kernel
theorem dX12_shield_58 : decode cX12_shield 58 = .ok (.aload_n 0, 1) := by decide +kernel
theorem dX12_shield_59 : decode cX12_shield 59 = .ok (.iload_n 1, 1) := by decide +kernel
theorem dX12_shield_60 : decode cX12_shield 60 = .ok (.iload_n 2, 1) := by decide +kernel
theorem dX12_shield_61 : decode cX12_shield 61 = .ok (.invokevirtual 316, 3) := by decide +kernel
theorem dX12_shield_64 : decode cX12_shield 64 = .ok (.iconst 1, 1) := by decide +kernel
theorem dX12_shield_65 : decode cX12_shield 65 = .ok (.iload_n 3, 1) := by decide +kernel
theorem dX12_shield_66 : decode cX12_shield 66 = .ok (.ishl, 1) := by decide +kernel
theorem dX12_shield_67 : decode cX12_shield 67 = .ok (.iconst (-1), 1) := by decide +kernel
theorem dX12_shield_68 : decode cX12_shield 68 = .ok (.ixor, 1) := by decide +kernel
theorem dX12_shield_69 : decode cX12_shield 69 = .ok (.iand, 1) := by decide +kernel
theorem dX12_shield_70 : decode cX12_shield 70 = .ok (.istore 5, 2) := by decide +kernel
theorem dX12_shield_72 : decode cX12_shield 72 = .ok (.iconst (-1), 1) := by decide +kernel
theorem dX12_shield_73 : decode cX12_shield 73 = .ok (.istore 6, 2) := by decide +kernel
theorem dX12_shield_75 : decode cX12_shield 75 = .ok (.iconst 0, 1) := by decide +kernel
theorem dX12_shield_76 : decode cX12_shield 76 = .ok (.istore 7, 2) := by decide +kernel
theorem dX12_shield_78 : decode cX12_shield 78 = .ok (.iload 7, 2) := by decide +kernel
theorem dX12_shield_80 : decode cX12_shield 80 = .ok (.iload 5, 2) := by decide +kernel
theorem dX12_shield_82 : decode cX12_shield 82 = .ok (.if_icmp .gt 57, 3) := by decide +kernel
theorem dX12_shield_85 : decode cX12_shield 85 = .ok (.iload 7, 2) := by decide +kernel
theorem dX12_shield_87 : decode cX12_shield 87 = .ok (.iload 5, 2) := by decide +kernel
theorem dX12_shield_89 : decode cX12_shield 89 = .ok (.iconst (-1), 1) := by decide +kernel
theorem dX12_shield_90 : decode cX12_shield 90 = .ok (.ixor, 1) := by decide +kernel
theorem dX12_shield_91 : decode cX12_shield 91 = .ok (.iand, 1) := by decide +kernel
theorem dX12_shield_92 : decode cX12_shield 92 = .ok (.ifCond .ne 41, 3) := by decide +kernel
theorem dX12_shield_95 : decode cX12_shield 95 = .ok (.iload 6, 2) := by decide +kernel
theorem dX12_shield_97 : decode cX12_shield 97 = .ok (.iconst (-1), 1) := by decide +kernel
theorem dX12_shield_98 : decode cX12_shield 98 = .ok (.if_icmp .eq 16, 3) := by decide +kernel
theorem dX12_shield_101 : decode cX12_shield 101 = .ok (.iload 7, 2) := by decide +kernel
theorem dX12_shield_103 : decode cX12_shield 103 = .ok (.invokestatic 265, 3) := by decide +kernel
theorem dX12_shield_106 : decode cX12_shield 106 = .ok (.iload 6, 2) := by decide +kernel
theorem dX12_shield_108 : decode cX12_shield 108 = .ok (.invokestatic 265, 3) := by decide +kernel
theorem dX12_shield_111 : decode cX12_shield 111 = .ok (.if_icmp .ge 22, 3) := by decide +kernel
theorem dX12_shield_114 : decode cX12_shield 114 = .ok (.aload_n 0, 1) := by decide +kernel
theorem dX12_shield_115 : decode cX12_shield 115 = .ok (.iload_n 1, 1) := by decide +kernel
theorem dX12_shield_116 : decode cX12_shield 116 = .ok (.iload_n 2, 1) := by decide +kernel
theorem dX12_shield_117 : decode cX12_shield 117 = .ok (.iload 7, 2) := by decide +kernel
theorem dX12_shield_119 : decode cX12_shield 119 = .ok (.invokevirtual 286, 3) := by decide +kernel
theorem dX12_shield_122 : decode cX12_shield 122 = .ok (.iload_n 3, 1) := by decide +kernel
theorem dX12_shield_123 : decode cX12_shield 123 = .ok (.invokestatic 268, 3) := by decide +kernel
theorem dX12_shield_126 : decode cX12_shield 126 = .ok (.ifCond .ne 7, 3) := by decide +kernel
theorem dX12_shield_129 : decode cX12_shield 129 = .ok (.iload 7, 2) := by decide +kernel
theorem dX12_shield_131 : decode cX12_shield 131 = .ok (.istore 6, 2) := by decide +kernel
theorem dX12_shield_133 : decode cX12_shield 133 = .ok (.iinc 7 1, 3) := by decide +kernel
theorem dX12_shield_136 : decode cX12_shield 136 = .ok (.goto (-58), 3) := by decide +kernel
theorem dX12_shield_139 : decode cX12_shield 139 = .ok (.iload 6, 2) := by decide +kernel
theorem dX12_shield_141 : decode cX12_shield 141 = .ok (.iconst (-1), 1) := by decide +kernel
theorem dX12_shield_142 : decode cX12_shield 142 = .ok (.if_icmp .eq 9, 3) := by decide +kernel
theorem dX12_shield_145 : decode cX12_shield 145 = .ok (.iload 4, 2) := by decide +kernel
theorem dX12_shield_147 : decode cX12_shield 147 = .ok (.iconst 1, 1) := by decide +kernel
theorem dX12_shield_148 : decode cX12_shield 148 = .ok (.if_icmp .ne 8, 3) := by decide +kernel
theorem dX12_shield_151 : decode cX12_shield 151 = .ok (.iload 6, 2) := by decide +kernel
theorem dX12_shield_153 : decode cX12_shield 153 = .ok (.goto 8, 3) := by decide +kernel
theorem dX12_shield_156 : decode cX12_shield 156 = .ok (.iload 6, 2) := by decide +kernel
theorem dX12_shield_158 : decode cX12_shield 158 = .ok (.invokestatic 265, 3) := by decide +kernel
theorem dX12_shield_161 : decode cX12_shield 161 = .ok (.ireturn, 1) := by decide +kernel
theorem dX12_loudest_0 : decode cX12_loudest 0 = .ok (.aload_n 0, 1) := by decide +kernel
theorem dX12_loudest_1 : decode cX12_loudest 1 = .ok (.iconst 0, 1) := by decide +kernel
theorem dX12_loudest_2 : decode cX12_loudest 2 = .ok (.putfield 58, 3) := by decide +kernel
theorem dX12_loudest_5 : decode cX12_loudest 5 = .ok (.iload_n 1, 1) := by decide +kernel
theorem dX12_loudest_6 : decode cX12_loudest 6 = .ok (.invokestatic 402, 3) := by decide +kernel
theorem dX12_loudest_9 : decode cX12_loudest 9 = .ok (.ifCond .ne 9, 3) := by decide +kernel
theorem dX12_loudest_12 : decode cX12_loudest 12 = .ok (.aload_n 0, 1) := by decide +kernel
theorem dX12_loudest_13 : decode cX12_loudest 13 = .ok (.iconst 1, 1) := by decide +kernel
theorem dX12_loudest_14 : decode cX12_loudest 14 = .ok (.invokevirtual 230, 3) := by decide +kernel
theorem dX12_loudest_17 : decode cX12_loudest 17 = .ok (.ireturn, 1) := by decide +kernel
theorem dX12_loudest_18 : decode cX12_loudest 18 = .ok (.iconst (-1), 1) := by decide +kernel
theorem dX12_loudest_19 : decode cX12_loudest 19 = .ok (.istore_n 2, 1) := by decide +kernel
theorem dX12_loudest_20 : decode cX12_loudest 20 = .ok (.iconst 0, 1) := by decide +kernel
theorem dX12_loudest_21 : decode cX12_loudest 21 = .ok (.istore_n 3, 1) := by decide +kernel
theorem dX12_loudest_22 : decode cX12_loudest 22 = .ok (.iload_n 3, 1) := by decide +kernel
theorem dX12_loudest_23 : decode cX12_loudest 23 = .ok (.aload_n 0, 1) := by decide +kernel
theorem dX12_loudest_24 : decode cX12_loudest 24 = .ok (.invokevirtual 239, 3) := by decide +kernel
theorem dX12_loudest_27 : decode cX12_loudest 27 = .ok (.if_icmp .ge 37, 3) := by decide +kernel
theorem dX12_loudest_30 : decode cX12_loudest 30 = .ok (.iload_n 2, 1) := by decide +kernel
theorem dX12_loudest_31 : decode cX12_loudest 31 = .ok (.iconst (-1), 1) := by decide +kernel
theorem dX12_loudest_32 : decode cX12_loudest 32 = .ok (.if_icmp .eq 24, 3) := by decide +kernel
theorem dX12_loudest_35 : decode cX12_loudest 35 = .ok (.aload_n 0, 1) := by decide +kernel
theorem dX12_loudest_36 : decode cX12_loudest 36 = .ok (.iload_n 3, 1) := by decide +kernel
theorem dX12_loudest_37 : decode cX12_loudest 37 = .ok (.iload_n 1, 1) := by decide +kernel
theorem dX12_loudest_38 : decode cX12_loudest 38 = .ok (.invokevirtual 316, 3) := by decide +kernel
theorem dX12_loudest_41 : decode cX12_loudest 41 = .ok (.invokestatic 265, 3) := by decide +kernel
theorem dX12_loudest_44 : decode cX12_loudest 44 = .ok (.aload_n 0, 1) := by decide +kernel
theorem dX12_loudest_45 : decode cX12_loudest 45 = .ok (.iload_n 2, 1) := by decide +kernel
theorem dX12_loudest_46 : decode cX12_loudest 46 = .ok (.iload_n 1, 1) := by decide +kernel
theorem dX12_loudest_47 : decode cX12_loudest 47 = .ok (.invokevirtual 316, 3) := by decide +kernel
theorem dX12_loudest_50 : decode cX12_loudest 50 = .ok (.invokestatic 265, 3) := by decide +kernel
theorem dX12_loudest_53 : decode cX12_loudest 53 = .ok (.if_icmp .le 5, 3) := by decide +kernel
theorem dX12_loudest_56 : decode cX12_loudest 56 = .ok (.iload_n 3, 1) := by decide +kernel
theorem dX12_loudest_57 : decode cX12_loudest 57 = .ok (.istore_n 2, 1) := by decide +kernel
theorem dX12_loudest_58 : decode cX12_loudest 58 = .ok (.iinc 3 1, 3) := by decide +kernel
theorem dX12_loudest_61 : decode cX12_loudest 61 = .ok (.goto (-39), 3) := by decide +kernel
theorem dX12_loudest_64 : decode cX12_loudest 64 = .ok (.iload_n 2, 1) := by decide +kernel
theorem dX12_loudest_65 : decode cX12_loudest 65 = .ok (.ireturn, 1) := by decide +kernel
theorem dX12_areWoken_0 : decode cX12_areWoken 0 = .ok (.iconst 0, 1) := by decide +kernel
theorem dX12_areWoken_1 : decode cX12_areWoken 1 = .ok (.istore_n 3, 1) := by decide +kernel
theorem dX12_areWoken_2 : decode cX12_areWoken 2 = .ok (.iconst 0, 1) := by decide +kernel
theorem dX12_areWoken_3 : decode cX12_areWoken 3 = .ok (.istore 4, 2) := by decide +kernel
theorem dX12_areWoken_5 : decode cX12_areWoken 5 = .ok (.iload 4, 2) := by decide +kernel
theorem dX12_areWoken_7 : decode cX12_areWoken 7 = .ok (.aload_n 0, 1) := by decide +kernel
theorem dX12_areWoken_8 : decode cX12_areWoken 8 = .ok (.invokevirtual 239, 3) := by decide +kernel
theorem dX12_areWoken_11 : decode cX12_areWoken 11 = .ok (.if_icmp .ge 32, 3) := by decide +kernel
theorem dX12_areWoken_14 : decode cX12_areWoken 14 = .ok (.iload_n 3, 1) := by decide +kernel
theorem dX12_areWoken_15 : decode cX12_areWoken 15 = .ok (.iload_n 1, 1) := by decide +kernel
theorem dX12_areWoken_16 : decode cX12_areWoken 16 = .ok (.iload 4, 2) := by decide +kernel
theorem dX12_areWoken_18 : decode cX12_areWoken 18 = .ok (.invokestatic 268, 3) := by decide +kernel
theorem dX12_areWoken_21 : decode cX12_areWoken 21 = .ok (.ifCond .eq 13, 3) := by decide +kernel
theorem dX12_areWoken_24 : decode cX12_areWoken 24 = .ok (.aload_n 0, 1) := by decide +kernel
theorem dX12_areWoken_25 : decode cX12_areWoken 25 = .ok (.getfield 36, 3) := by decide +kernel
theorem dX12_areWoken_28 : decode cX12_areWoken 28 = .ok (.iload 4, 2) := by decide +kernel
theorem dX12_areWoken_30 : decode cX12_areWoken 30 = .ok (.iaload, 1) := by decide +kernel
theorem dX12_areWoken_31 : decode cX12_areWoken 31 = .ok (.goto 4, 3) := by decide +kernel
theorem dX12_areWoken_34 : decode cX12_areWoken 34 = .ok (.iconst 0, 1) := by decide +kernel
theorem dX12_areWoken_35 : decode cX12_areWoken 35 = .ok (.ior, 1) := by decide +kernel
theorem dX12_areWoken_36 : decode cX12_areWoken 36 = .ok (.istore_n 3, 1) := by decide +kernel
theorem dX12_areWoken_37 : decode cX12_areWoken 37 = .ok (.iinc 4 1, 3) := by decide +kernel
theorem dX12_areWoken_40 : decode cX12_areWoken 40 = .ok (.goto (-35), 3) := by decide +kernel
theorem dX12_areWoken_43 : decode cX12_areWoken 43 = .ok (.iload_n 3, 1) := by decide +kernel
theorem dX12_areWoken_44 : decode cX12_areWoken 44 = .ok (.iload_n 2, 1) := by decide +kernel
theorem dX12_areWoken_45 : decode cX12_areWoken 45 = .ok (.iand, 1) := by decide +kernel
theorem dX12_areWoken_46 : decode cX12_areWoken 46 = .ok (.iload_n 2, 1) := by decide +kernel
theorem dX12_areWoken_47 : decode cX12_areWoken 47 = .ok (.if_icmp .ne 7, 3) := by decide +kernel
theorem dX12_areWoken_50 : decode cX12_areWoken 50 = .ok (.iconst 1, 1) := by decide +kernel
theorem dX12_areWoken_51 : decode cX12_areWoken 51 = .ok (.goto 4, 3) := by decide +kernel
theorem dX12_areWoken_54 : decode cX12_areWoken 54 = .ok (.iconst 0, 1) := by decide +kernel
theorem dX12_areWoken_55 : decode cX12_areWoken 55 = .ok (.ireturn, 1) := by decide +kernel
theorem dX12_chorus_0 : decode cX12_chorus 0 = .ok (.aload_n 0, 1) := by decide +kernel
theorem dX12_chorus_1 : decode cX12_chorus 1 = .ok (.iconst 0, 1) := by decide +kernel
theorem dX12_chorus_2 : decode cX12_chorus 2 = .ok (.putfield 58, 3) := by decide +kernel
theorem dX12_chorus_5 : decode cX12_chorus 5 = .ok (.iload_n 1, 1) := by decide +kernel
theorem dX12_chorus_6 : decode cX12_chorus 6 = .ok (.invokestatic 402, 3) := by decide +kernel
theorem dX12_chorus_9 : decode cX12_chorus 9 = .ok (.ifCond .eq 13, 3) := by decide +kernel
theorem dX12_chorus_12 : decode cX12_chorus 12 = .ok (.iload_n 2, 1) := by decide +kernel
theorem dX12_chorus_13 : decode cX12_chorus 13 = .ok (.i2l, 1) := by decide +kernel
theorem dX12_chorus_14 : decode cX12_chorus 14 = .ok (.lconst 0, 1) := by decide +kernel
theorem dX12_chorus_15 : decode cX12_chorus 15 = .ok (.lconst 1, 1) := by decide +kernel
theorem dX12_chorus_16 : decode cX12_chorus 16 = .ok (.invokestatic 119, 3) := by decide +kernel
theorem dX12_chorus_19 : decode cX12_chorus 19 = .ok (.ifCond .ne 9, 3) := by decide +kernel
theorem dX12_chorus_22 : decode cX12_chorus 22 = .ok (.aload_n 0, 1) := by decide +kernel
theorem dX12_chorus_23 : decode cX12_chorus 23 = .ok (.iconst 1, 1) := by decide +kernel
theorem dX12_chorus_24 : decode cX12_chorus 24 = .ok (.invokevirtual 230, 3) := by decide +kernel
theorem dX12_chorus_27 : decode cX12_chorus 27 = .ok (.ireturn, 1) := by decide +kernel
theorem dX12_chorus_28 : decode cX12_chorus 28 = .ok (.aload_n 0, 1) := by decide +kernel
theorem dX12_chorus_29 : decode cX12_chorus 29 = .ok (.iconst 0, 1) := by decide +kernel
theorem dX12_chorus_30 : decode cX12_chorus 30 = .ok (.invokevirtual 294, 3) := by decide +kernel
theorem dX12_chorus_33 : decode cX12_chorus 33 = .ok (.istore_n 3, 1) := by decide +kernel
theorem dX12_chorus_34 : decode cX12_chorus 34 = .ok (.iconst 0, 1) := by decide +kernel
theorem dX12_chorus_35 : decode cX12_chorus 35 = .ok (.istore 4, 2) := by decide +kernel
theorem dX12_chorus_37 : decode cX12_chorus 37 = .ok (.iload 4, 2) := by decide +kernel
theorem dX12_chorus_39 : decode cX12_chorus 39 = .ok (.aload_n 0, 1) := by decide +kernel
theorem dX12_chorus_40 : decode cX12_chorus 40 = .ok (.invokevirtual 239, 3) := by decide +kernel
theorem dX12_chorus_43 : decode cX12_chorus 43 = .ok (.if_icmp .ge 23, 3) := by decide +kernel
theorem dX12_chorus_46 : decode cX12_chorus 46 = .ok (.aload_n 0, 1) := by decide +kernel
theorem dX12_chorus_47 : decode cX12_chorus 47 = .ok (.getfield 36, 3) := by decide +kernel
theorem dX12_chorus_50 : decode cX12_chorus 50 = .ok (.iload 4, 2) := by decide +kernel
theorem dX12_chorus_52 : decode cX12_chorus 52 = .ok (.aload_n 0, 1) := by decide +kernel
theorem dX12_chorus_53 : decode cX12_chorus 53 = .ok (.iload 4, 2) := by decide +kernel
theorem dX12_chorus_55 : decode cX12_chorus 55 = .ok (.iload_n 1, 1) := by decide +kernel
theorem dX12_chorus_56 : decode cX12_chorus 56 = .ok (.invokevirtual 316, 3) := by decide +kernel
theorem dX12_chorus_59 : decode cX12_chorus 59 = .ok (.iastore, 1) := by decide +kernel
theorem dX12_chorus_60 : decode cX12_chorus 60 = .ok (.iinc 4 1, 3) := by decide +kernel
theorem dX12_chorus_63 : decode cX12_chorus 63 = .ok (.goto (-26), 3) := by decide +kernel
theorem dX12_chorus_66 : decode cX12_chorus 66 = .ok (.iconst (-1), 1) := by decide +kernel
theorem dX12_chorus_67 : decode cX12_chorus 67 = .ok (.istore 4, 2) := by decide +kernel
theorem dX12_chorus_69 : decode cX12_chorus 69 = .ok (.iconst 0, 1) := by decide +kernel
theorem dX12_chorus_70 : decode cX12_chorus 70 = .ok (.istore 5, 2) := by decide +kernel
theorem dX12_chorus_72 : decode cX12_chorus 72 = .ok (.iload 5, 2) := by decide +kernel
theorem dX12_chorus_74 : decode cX12_chorus 74 = .ok (.iload_n 3, 1) := by decide +kernel
theorem dX12_chorus_75 : decode cX12_chorus 75 = .ok (.if_icmp .gt 58, 3) := by decide +kernel
theorem dX12_chorus_78 : decode cX12_chorus 78 = .ok (.iload 5, 2) := by decide +kernel
theorem dX12_chorus_80 : decode cX12_chorus 80 = .ok (.iload_n 3, 1) := by decide +kernel
theorem dX12_chorus_81 : decode cX12_chorus 81 = .ok (.iconst (-1), 1) := by decide +kernel
theorem dX12_chorus_82 : decode cX12_chorus 82 = .ok (.ixor, 1) := by decide +kernel
theorem dX12_chorus_83 : decode cX12_chorus 83 = .ok (.iand, 1) := by decide +kernel
theorem dX12_chorus_84 : decode cX12_chorus 84 = .ok (.ifCond .ne 43, 3) := by decide +kernel
theorem dX12_chorus_87 : decode cX12_chorus 87 = .ok (.iload 4, 2) := by decide +kernel
theorem dX12_chorus_89 : decode cX12_chorus 89 = .ok (.iconst (-1), 1) := by decide +kernel
theorem dX12_chorus_90 : decode cX12_chorus 90 = .ok (.if_icmp .eq 16, 3) := by decide +kernel
theorem dX12_chorus_93 : decode cX12_chorus 93 = .ok (.iload 5, 2) := by decide +kernel
theorem dX12_chorus_95 : decode cX12_chorus 95 = .ok (.invokestatic 265, 3) := by decide +kernel
theorem dX12_chorus_98 : decode cX12_chorus 98 = .ok (.iload 4, 2) := by decide +kernel
theorem dX12_chorus_100 : decode cX12_chorus 100 = .ok (.invokestatic 265, 3) := by decide +kernel
theorem dX12_chorus_103 : decode cX12_chorus 103 = .ok (.if_icmp .ge 24, 3) := by decide +kernel
theorem dX12_chorus_106 : decode cX12_chorus 106 = .ok (.aload_n 0, 1) := by decide +kernel
theorem dX12_chorus_107 : decode cX12_chorus 107 = .ok (.iload 5, 2) := by decide +kernel
theorem dX12_chorus_109 : decode cX12_chorus 109 = .ok (.aload_n 0, 1) := by decide +kernel
theorem dX12_chorus_110 : decode cX12_chorus 110 = .ok (.invokevirtual 322, 3) := by decide +kernel
theorem dX12_chorus_113 : decode cX12_chorus 113 = .ok (.iload_n 3, 1) := by decide +kernel
theorem dX12_chorus_114 : decode cX12_chorus 114 = .ok (.iconst (-1), 1) := by decide +kernel
theorem dX12_chorus_115 : decode cX12_chorus 115 = .ok (.ixor, 1) := by decide +kernel
theorem dX12_chorus_116 : decode cX12_chorus 116 = .ok (.iand, 1) := by decide +kernel
theorem dX12_chorus_117 : decode cX12_chorus 117 = .ok (.invokevirtual 414, 3) := by decide +kernel
theorem dX12_chorus_120 : decode cX12_chorus 120 = .ok (.ifCond .eq 7, 3) := by decide +kernel
theorem dX12_chorus_123 : decode cX12_chorus 123 = .ok (.iload 5, 2) := by decide +kernel
theorem dX12_chorus_125 : decode cX12_chorus 125 = .ok (.istore 4, 2) := by decide +kernel
theorem dX12_chorus_127 : decode cX12_chorus 127 = .ok (.iinc 5 1, 3) := by decide +kernel
theorem dX12_chorus_130 : decode cX12_chorus 130 = .ok (.goto (-58), 3) := by decide +kernel
theorem dX12_chorus_133 : decode cX12_chorus 133 = .ok (.iload 4, 2) := by decide +kernel
theorem dX12_chorus_135 : decode cX12_chorus 135 = .ok (.iconst (-1), 1) := by decide +kernel
theorem dX12_chorus_136 : decode cX12_chorus 136 = .ok (.if_icmp .eq 8, 3) := by decide +kernel
theorem dX12_chorus_139 : decode cX12_chorus 139 = .ok (.iload_n 2, 1) := by decide +kernel
theorem dX12_chorus_140 : decode cX12_chorus 140 = .ok (.iconst 1, 1) := by decide +kernel
theorem dX12_chorus_141 : decode cX12_chorus 141 = .ok (.if_icmp .ne 8, 3) := by decide +kernel
theorem dX12_chorus_144 : decode cX12_chorus 144 = .ok (.iload 4, 2) := by decide +kernel
theorem dX12_chorus_146 : decode cX12_chorus 146 = .ok (.goto 8, 3) := by decide +kernel
theorem dX12_chorus_149 : decode cX12_chorus 149 = .ok (.iload 4, 2) := by decide +kernel
theorem dX12_chorus_151 : decode cX12_chorus 151 = .ok (.invokestatic 265, 3) := by decide +kernel
theorem dX12_chorus_154 : decode cX12_chorus 154 = .ok (.ireturn, 1) := by decide +kernel
theorem dX12_reachedBy_0 : decode cX12_reachedBy 0 = .ok (.iconst 0, 1) := by decide +kernel
theorem dX12_reachedBy_1 : decode cX12_reachedBy 1 = .ok (.istore_n 2, 1) := by decide +kernel
theorem dX12_reachedBy_2 : decode cX12_reachedBy 2 = .ok (.iconst 0, 1) := by decide +kernel
theorem dX12_reachedBy_3 : decode cX12_reachedBy 3 = .ok (.istore_n 3, 1) := by decide +kernel
theorem dX12_reachedBy_4 : decode cX12_reachedBy 4 = .ok (.iload_n 3, 1) := by decide +kernel
theorem dX12_reachedBy_5 : decode cX12_reachedBy 5 = .ok (.aload_n 0, 1) := by decide +kernel
theorem dX12_reachedBy_6 : decode cX12_reachedBy 6 = .ok (.invokevirtual 239, 3) := by decide +kernel
theorem dX12_reachedBy_9 : decode cX12_reachedBy 9 = .ok (.if_icmp .ge 57, 3) := by decide +kernel
theorem dX12_reachedBy_12 : decode cX12_reachedBy 12 = .ok (.iconst 0, 1) := by decide +kernel
theorem dX12_reachedBy_13 : decode cX12_reachedBy 13 = .ok (.istore 4, 2) := by decide +kernel
theorem dX12_reachedBy_15 : decode cX12_reachedBy 15 = .ok (.iload 4, 2) := by decide +kernel
theorem dX12_reachedBy_17 : decode cX12_reachedBy 17 = .ok (.aload_n 0, 1) := by decide +kernel
theorem dX12_reachedBy_18 : decode cX12_reachedBy 18 = .ok (.invokevirtual 239, 3) := by decide +kernel
theorem dX12_reachedBy_21 : decode cX12_reachedBy 21 = .ok (.if_icmp .ge 39, 3) := by decide +kernel
theorem dX12_reachedBy_24 : decode cX12_reachedBy 24 = .ok (.iload_n 1, 1) := by decide +kernel
theorem dX12_reachedBy_25 : decode cX12_reachedBy 25 = .ok (.iload_n 3, 1) := by decide +kernel
theorem dX12_reachedBy_26 : decode cX12_reachedBy 26 = .ok (.invokestatic 268, 3) := by decide +kernel
theorem dX12_reachedBy_29 : decode cX12_reachedBy 29 = .ok (.ifCond .eq 31, 3) := by decide +kernel
theorem dX12_reachedBy_32 : decode cX12_reachedBy 32 = .ok (.iload_n 2, 1) := by decide +kernel
theorem dX12_reachedBy_33 : decode cX12_reachedBy 33 = .ok (.aload_n 0, 1) := by decide +kernel
theorem dX12_reachedBy_34 : decode cX12_reachedBy 34 = .ok (.iload_n 3, 1) := by decide +kernel
theorem dX12_reachedBy_35 : decode cX12_reachedBy 35 = .ok (.iload 4, 2) := by decide +kernel
theorem dX12_reachedBy_37 : decode cX12_reachedBy 37 = .ok (.iconst 0, 1) := by decide +kernel
theorem dX12_reachedBy_38 : decode cX12_reachedBy 38 = .ok (.invokevirtual 282, 3) := by decide +kernel
theorem dX12_reachedBy_41 : decode cX12_reachedBy 41 = .ok (.ifCond .eq 10, 3) := by decide +kernel
theorem dX12_reachedBy_44 : decode cX12_reachedBy 44 = .ok (.iconst 1, 1) := by decide +kernel
theorem dX12_reachedBy_45 : decode cX12_reachedBy 45 = .ok (.iload 4, 2) := by decide +kernel
theorem dX12_reachedBy_47 : decode cX12_reachedBy 47 = .ok (.ishl, 1) := by decide +kernel
theorem dX12_reachedBy_48 : decode cX12_reachedBy 48 = .ok (.goto 4, 3) := by decide +kernel
theorem dX12_reachedBy_51 : decode cX12_reachedBy 51 = .ok (.iconst 0, 1) := by decide +kernel
theorem dX12_reachedBy_52 : decode cX12_reachedBy 52 = .ok (.ior, 1) := by decide +kernel
theorem dX12_reachedBy_53 : decode cX12_reachedBy 53 = .ok (.istore_n 2, 1) := by decide +kernel
theorem dX12_reachedBy_54 : decode cX12_reachedBy 54 = .ok (.iinc 4 1, 3) := by decide +kernel
theorem dX12_reachedBy_57 : decode cX12_reachedBy 57 = .ok (.goto (-42), 3) := by decide +kernel
theorem dX12_reachedBy_60 : decode cX12_reachedBy 60 = .ok (.iinc 3 1, 3) := by decide +kernel
theorem dX12_reachedBy_63 : decode cX12_reachedBy 63 = .ok (.goto (-59), 3) := by decide +kernel
theorem dX12_reachedBy_66 : decode cX12_reachedBy 66 = .ok (.iload_n 2, 1) := by decide +kernel
theorem dX12_reachedBy_67 : decode cX12_reachedBy 67 = .ok (.ireturn, 1) := by decide +kernel
theorem dX12_yawns_0 : decode cX12_yawns 0 = .ok (.aload_n 0, 1) := by decide +kernel
theorem dX12_yawns_1 : decode cX12_yawns 1 = .ok (.aload_n 0, 1) := by decide +kernel
theorem dX12_yawns_2 : decode cX12_yawns 2 = .ok (.iload_n 1, 1) := by decide +kernel
theorem dX12_yawns_3 : decode cX12_yawns 3 = .ok (.i2l, 1) := by decide +kernel
theorem dX12_yawns_4 : decode cX12_yawns 4 = .ok (.invokevirtual 302, 3) := by decide +kernel
theorem dX12_yawns_7 : decode cX12_yawns 7 = .ok (.ifCond .eq 12, 3) := by decide +kernel
theorem dX12_yawns_10 : decode cX12_yawns 10 = .ok (.aload_n 0, 1) := by decide +kernel
theorem dX12_yawns_11 : decode cX12_yawns 11 = .ok (.iload_n 3, 1) := by decide +kernel
theorem dX12_yawns_12 : decode cX12_yawns 12 = .ok (.i2l, 1) := by decide +kernel
theorem dX12_yawns_13 : decode cX12_yawns 13 = .ok (.invokevirtual 302, 3) := by decide +kernel
theorem dX12_yawns_16 : decode cX12_yawns 16 = .ok (.ifCond .ne 7, 3) := by decide +kernel
theorem dX12_yawns_19 : decode cX12_yawns 19 = .ok (.iconst 1, 1) := by decide +kernel
theorem dX12_yawns_20 : decode cX12_yawns 20 = .ok (.goto 15, 3) := by decide +kernel
theorem dX12_yawns_23 : decode cX12_yawns 23 = .ok (.iload_n 2, 1) := by decide +kernel
theorem dX12_yawns_24 : decode cX12_yawns 24 = .ok (.invokestatic 402, 3) := by decide +kernel
theorem dX12_yawns_27 : decode cX12_yawns 27 = .ok (.ifCond .eq 7, 3) := by decide +kernel
theorem dX12_yawns_30 : decode cX12_yawns 30 = .ok (.iconst 0, 1) := by decide +kernel
theorem dX12_yawns_31 : decode cX12_yawns 31 = .ok (.goto 4, 3) := by decide +kernel
theorem dX12_yawns_34 : decode cX12_yawns 34 = .ok (.iconst 2, 1) := by decide +kernel
theorem dX12_yawns_35 : decode cX12_yawns 35 = .ok (.putfield 58, 3) := by decide +kernel
theorem dX12_yawns_38 : decode cX12_yawns 38 = .ok (.aload_n 0, 1) := by decide +kernel
theorem dX12_yawns_39 : decode cX12_yawns 39 = .ok (.getfield 58, 3) := by decide +kernel
theorem dX12_yawns_42 : decode cX12_yawns 42 = .ok (.ifCond .gt 16, 3) := by decide +kernel
theorem dX12_yawns_45 : decode cX12_yawns 45 = .ok (.aload_n 0, 1) := by decide +kernel
theorem dX12_yawns_46 : decode cX12_yawns 46 = .ok (.iload_n 1, 1) := by decide +kernel
theorem dX12_yawns_47 : decode cX12_yawns 47 = .ok (.iload_n 2, 1) := by decide +kernel
theorem dX12_yawns_48 : decode cX12_yawns 48 = .ok (.invokevirtual 316, 3) := by decide +kernel
theorem dX12_yawns_51 : decode cX12_yawns 51 = .ok (.iload_n 3, 1) := by decide +kernel
theorem dX12_yawns_52 : decode cX12_yawns 52 = .ok (.invokestatic 268, 3) := by decide +kernel
theorem dX12_yawns_55 : decode cX12_yawns 55 = .ok (.ifCond .ne 5, 3) := by decide +kernel
theorem dX12_yawns_58 : decode cX12_yawns 58 = .ok (.iconst 0, 1) := by decide +kernel
theorem dX12_yawns_59 : decode cX12_yawns 59 = .ok (.ireturn, 1) := by decide +kernel
theorem dX12_yawns_60 : decode cX12_yawns 60 = .ok (.iconst 0, 1) := by decide +kernel
theorem dX12_yawns_61 : decode cX12_yawns 61 = .ok (.istore 4, 2) := by decide +kernel
theorem dX12_yawns_63 : decode cX12_yawns 63 = .ok (.iconst 0, 1) := by decide +kernel
theorem dX12_yawns_64 : decode cX12_yawns 64 = .ok (.istore 5, 2) := by decide +kernel
theorem dX12_yawns_66 : decode cX12_yawns 66 = .ok (.iload 5, 2) := by decide +kernel
theorem dX12_yawns_68 : decode cX12_yawns 68 = .ok (.aload_n 0, 1) := by decide +kernel
theorem dX12_yawns_69 : decode cX12_yawns 69 = .ok (.invokevirtual 239, 3) := by decide +kernel
theorem dX12_yawns_72 : decode cX12_yawns 72 = .ok (.if_icmp .ge 39, 3) := by decide +kernel
theorem dX12_yawns_75 : decode cX12_yawns 75 = .ok (.iload 4, 2) := by decide +kernel
theorem dX12_yawns_77 : decode cX12_yawns 77 = .ok (.iload 5, 2) := by decide +kernel
theorem dX12_yawns_79 : decode cX12_yawns 79 = .ok (.iload_n 1, 1) := by decide +kernel
theorem dX12_yawns_80 : decode cX12_yawns 80 = .ok (.if_icmp .eq 21, 3) := by decide +kernel
theorem dX12_yawns_83 : decode cX12_yawns 83 = .ok (.aload_n 0, 1) := by decide +kernel
theorem dX12_yawns_84 : decode cX12_yawns 84 = .ok (.iload_n 1, 1) := by decide +kernel
theorem dX12_yawns_85 : decode cX12_yawns 85 = .ok (.iload 5, 2) := by decide +kernel
theorem dX12_yawns_87 : decode cX12_yawns 87 = .ok (.iload_n 2, 1) := by decide +kernel
theorem dX12_yawns_88 : decode cX12_yawns 88 = .ok (.invokevirtual 282, 3) := by decide +kernel
theorem dX12_yawns_91 : decode cX12_yawns 91 = .ok (.ifCond .eq 10, 3) := by decide +kernel
theorem dX12_yawns_94 : decode cX12_yawns 94 = .ok (.iconst 1, 1) := by decide +kernel
theorem dX12_yawns_95 : decode cX12_yawns 95 = .ok (.iload 5, 2) := by decide +kernel
theorem dX12_yawns_97 : decode cX12_yawns 97 = .ok (.ishl, 1) := by decide +kernel
theorem dX12_yawns_98 : decode cX12_yawns 98 = .ok (.goto 4, 3) := by decide +kernel
theorem dX12_yawns_101 : decode cX12_yawns 101 = .ok (.iconst 0, 1) := by decide +kernel
theorem dX12_yawns_102 : decode cX12_yawns 102 = .ok (.ior, 1) := by decide +kernel
theorem dX12_yawns_103 : decode cX12_yawns 103 = .ok (.istore 4, 2) := by decide +kernel
theorem dX12_yawns_105 : decode cX12_yawns 105 = .ok (.iinc 5 1, 3) := by decide +kernel
theorem dX12_yawns_108 : decode cX12_yawns 108 = .ok (.goto (-42), 3) := by decide +kernel
theorem dX12_yawns_111 : decode cX12_yawns 111 = .ok (.iconst 1, 1) := by decide +kernel
theorem dX12_yawns_112 : decode cX12_yawns 112 = .ok (.istore 5, 2) := by decide +kernel
theorem dX12_yawns_114 : decode cX12_yawns 114 = .ok (.iload 4, 2) := by decide +kernel
theorem dX12_yawns_116 : decode cX12_yawns 116 = .ok (.iload_n 3, 1) := by decide +kernel
theorem dX12_yawns_117 : decode cX12_yawns 117 = .ok (.invokestatic 268, 3) := by decide +kernel
theorem dX12_yawns_120 : decode cX12_yawns 120 = .ok (.ifCond .ne 26, 3) := by decide +kernel
theorem dX12_yawns_123 : decode cX12_yawns 123 = .ok (.iload 4, 2) := by decide +kernel
theorem dX12_yawns_125 : decode cX12_yawns 125 = .ok (.aload_n 0, 1) := by decide +kernel
theorem dX12_yawns_126 : decode cX12_yawns 126 = .ok (.iload 4, 2) := by decide +kernel
theorem dX12_yawns_128 : decode cX12_yawns 128 = .ok (.invokevirtual 417, 3) := by decide +kernel
theorem dX12_yawns_131 : decode cX12_yawns 131 = .ok (.iconst 1, 1) := by decide +kernel
theorem dX12_yawns_132 : decode cX12_yawns 132 = .ok (.iload_n 1, 1) := by decide +kernel
theorem dX12_yawns_133 : decode cX12_yawns 133 = .ok (.ishl, 1) := by decide +kernel
theorem dX12_yawns_134 : decode cX12_yawns 134 = .ok (.iconst (-1), 1) := by decide +kernel
theorem dX12_yawns_135 : decode cX12_yawns 135 = .ok (.ixor, 1) := by decide +kernel
theorem dX12_yawns_136 : decode cX12_yawns 136 = .ok (.iand, 1) := by decide +kernel
theorem dX12_yawns_137 : decode cX12_yawns 137 = .ok (.ior, 1) := by decide +kernel
theorem dX12_yawns_138 : decode cX12_yawns 138 = .ok (.istore 4, 2) := by decide +kernel
theorem dX12_yawns_140 : decode cX12_yawns 140 = .ok (.iinc 5 1, 3) := by decide +kernel
theorem dX12_yawns_143 : decode cX12_yawns 143 = .ok (.goto (-29), 3) := by decide +kernel
theorem dX12_yawns_146 : decode cX12_yawns 146 = .ok (.iload 5, 2) := by decide +kernel
theorem dX12_yawns_148 : decode cX12_yawns 148 = .ok (.ireturn, 1) := by decide +kernel
theorem dX12_loudHour_0 : decode cX12_loudHour 0 = .ok (.aload_n 0, 1) := by decide +kernel
theorem dX12_loudHour_1 : decode cX12_loudHour 1 = .ok (.aload_n 0, 1) := by decide +kernel
theorem dX12_loudHour_2 : decode cX12_loudHour 2 = .ok (.iload_n 1, 1) := by decide +kernel
theorem dX12_loudHour_3 : decode cX12_loudHour 3 = .ok (.i2l, 1) := by decide +kernel
theorem dX12_loudHour_4 : decode cX12_loudHour 4 = .ok (.invokevirtual 302, 3) := by decide +kernel
theorem dX12_loudHour_7 : decode cX12_loudHour 7 = .ok (.ifCond .ne 7, 3) := by decide +kernel
theorem dX12_loudHour_10 : decode cX12_loudHour 10 = .ok (.iconst 1, 1) := by decide +kernel
theorem dX12_loudHour_11 : decode cX12_loudHour 11 = .ok (.goto 15, 3) := by decide +kernel
theorem dX12_loudHour_14 : decode cX12_loudHour 14 = .ok (.iload_n 2, 1) := by decide +kernel
theorem dX12_loudHour_15 : decode cX12_loudHour 15 = .ok (.invokestatic 402, 3) := by decide +kernel
theorem dX12_loudHour_18 : decode cX12_loudHour 18 = .ok (.ifCond .eq 7, 3) := by decide +kernel
theorem dX12_loudHour_21 : decode cX12_loudHour 21 = .ok (.iconst 0, 1) := by decide +kernel
theorem dX12_loudHour_22 : decode cX12_loudHour 22 = .ok (.goto 4, 3) := by decide +kernel
theorem dX12_loudHour_25 : decode cX12_loudHour 25 = .ok (.iconst 2, 1) := by decide +kernel
theorem dX12_loudHour_26 : decode cX12_loudHour 26 = .ok (.putfield 58, 3) := by decide +kernel
theorem dX12_loudHour_29 : decode cX12_loudHour 29 = .ok (.aload_n 0, 1) := by decide +kernel
theorem dX12_loudHour_30 : decode cX12_loudHour 30 = .ok (.getfield 58, 3) := by decide +kernel
theorem dX12_loudHour_33 : decode cX12_loudHour 33 = .ok (.ifCond .le 5, 3) := by decide +kernel
theorem dX12_loudHour_36 : decode cX12_loudHour 36 = .ok (.iconst 0, 1) := by decide +kernel
theorem dX12_loudHour_37 : decode cX12_loudHour 37 = .ok (.ireturn, 1) := by decide +kernel
theorem dX12_loudHour_38 : decode cX12_loudHour 38 = .ok (.aload_n 0, 1) := by decide +kernel
theorem dX12_loudHour_39 : decode cX12_loudHour 39 = .ok (.invokevirtual 375, 3) := by decide +kernel
theorem dX12_loudHour_42 : decode cX12_loudHour 42 = .ok (.iconst 0, 1) := by decide +kernel
theorem dX12_loudHour_43 : decode cX12_loudHour 43 = .ok (.istore_n 3, 1) := by decide +kernel
theorem dX12_loudHour_44 : decode cX12_loudHour 44 = .ok (.iconst (-1), 1) := by decide +kernel
theorem dX12_loudHour_45 : decode cX12_loudHour 45 = .ok (.istore 4, 2) := by decide +kernel
theorem dX12_loudHour_47 : decode cX12_loudHour 47 = .ok (.iconst 0, 1) := by decide +kernel
theorem dX12_loudHour_48 : decode cX12_loudHour 48 = .ok (.istore 5, 2) := by decide +kernel
theorem dX12_loudHour_50 : decode cX12_loudHour 50 = .ok (.iload 5, 2) := by decide +kernel
theorem dX12_loudHour_52 : decode cX12_loudHour 52 = .ok (.bipush 40, 2) := by decide +kernel
theorem dX12_loudHour_54 : decode cX12_loudHour 54 = .ok (.if_icmp .gt 38, 3) := by decide +kernel
theorem dX12_loudHour_57 : decode cX12_loudHour 57 = .ok (.aload_n 0, 1) := by decide +kernel
theorem dX12_loudHour_58 : decode cX12_loudHour 58 = .ok (.iload_n 1, 1) := by decide +kernel
theorem dX12_loudHour_59 : decode cX12_loudHour 59 = .ok (.iload_n 2, 1) := by decide +kernel
theorem dX12_loudHour_60 : decode cX12_loudHour 60 = .ok (.invokevirtual 316, 3) := by decide +kernel
theorem dX12_loudHour_63 : decode cX12_loudHour 63 = .ok (.invokestatic 265, 3) := by decide +kernel
theorem dX12_loudHour_66 : decode cX12_loudHour 66 = .ok (.istore 6, 2) := by decide +kernel
theorem dX12_loudHour_68 : decode cX12_loudHour 68 = .ok (.iload 6, 2) := by decide +kernel
theorem dX12_loudHour_70 : decode cX12_loudHour 70 = .ok (.iload 4, 2) := by decide +kernel
theorem dX12_loudHour_72 : decode cX12_loudHour 72 = .ok (.if_icmp .le 10, 3) := by decide +kernel
theorem dX12_loudHour_75 : decode cX12_loudHour 75 = .ok (.iload 5, 2) := by decide +kernel
theorem dX12_loudHour_77 : decode cX12_loudHour 77 = .ok (.istore_n 3, 1) := by decide +kernel
theorem dX12_loudHour_78 : decode cX12_loudHour 78 = .ok (.iload 6, 2) := by decide +kernel
theorem dX12_loudHour_80 : decode cX12_loudHour 80 = .ok (.istore 4, 2) := by decide +kernel
theorem dX12_loudHour_82 : decode cX12_loudHour 82 = .ok (.aload_n 0, 1) := by decide +kernel
theorem dX12_loudHour_83 : decode cX12_loudHour 83 = .ok (.invokevirtual 347, 3) := by decide +kernel
theorem dX12_loudHour_86 : decode cX12_loudHour 86 = .ok (.iinc 5 1, 3) := by decide +kernel
theorem dX12_loudHour_89 : decode cX12_loudHour 89 = .ok (.goto (-39), 3) := by decide +kernel
theorem dX12_loudHour_92 : decode cX12_loudHour 92 = .ok (.aload_n 0, 1) := by decide +kernel
theorem dX12_loudHour_93 : decode cX12_loudHour 93 = .ok (.invokevirtual 384, 3) := by decide +kernel
theorem dX12_loudHour_96 : decode cX12_loudHour 96 = .ok (.iload_n 3, 1) := by decide +kernel
theorem dX12_loudHour_97 : decode cX12_loudHour 97 = .ok (.ireturn, 1) := by decide +kernel
theorem dX12_quietFor_0 : decode cX12_quietFor 0 = .ok (.iconst 0, 1) := by decide +kernel
theorem dX12_quietFor_1 : decode cX12_quietFor 1 = .ok (.istore_n 2, 1) := by decide +kernel
theorem dX12_quietFor_2 : decode cX12_quietFor 2 = .ok (.iload_n 2, 1) := by decide +kernel
theorem dX12_quietFor_3 : decode cX12_quietFor 3 = .ok (.aload_n 0, 1) := by decide +kernel
theorem dX12_quietFor_4 : decode cX12_quietFor 4 = .ok (.invokevirtual 239, 3) := by decide +kernel
theorem dX12_quietFor_7 : decode cX12_quietFor 7 = .ok (.if_icmp .ge 44, 3) := by decide +kernel
theorem dX12_quietFor_10 : decode cX12_quietFor 10 = .ok (.aload_n 0, 1) := by decide +kernel
theorem dX12_quietFor_11 : decode cX12_quietFor 11 = .ok (.getfield 9, 3) := by decide +kernel
theorem dX12_quietFor_14 : decode cX12_quietFor 14 = .ok (.bipush 73, 2) := by decide +kernel
theorem dX12_quietFor_16 : decode cX12_quietFor 16 = .ok (.iload_n 1, 1) := by decide +kernel
theorem dX12_quietFor_17 : decode cX12_quietFor 17 = .ok (.iadd, 1) := by decide +kernel
theorem dX12_quietFor_18 : decode cX12_quietFor 18 = .ok (.iaload, 1) := by decide +kernel
theorem dX12_quietFor_19 : decode cX12_quietFor 19 = .ok (.iload_n 2, 1) := by decide +kernel
theorem dX12_quietFor_20 : decode cX12_quietFor 20 = .ok (.invokestatic 268, 3) := by decide +kernel
theorem dX12_quietFor_23 : decode cX12_quietFor 23 = .ok (.ifCond .eq 22, 3) := by decide +kernel
theorem dX12_quietFor_26 : decode cX12_quietFor 26 = .ok (.aload_n 0, 1) := by decide +kernel
theorem dX12_quietFor_27 : decode cX12_quietFor 27 = .ok (.iload_n 2, 1) := by decide +kernel
theorem dX12_quietFor_28 : decode cX12_quietFor 28 = .ok (.aload_n 0, 1) := by decide +kernel
theorem dX12_quietFor_29 : decode cX12_quietFor 29 = .ok (.getfield 9, 3) := by decide +kernel
theorem dX12_quietFor_32 : decode cX12_quietFor 32 = .ok (.bipush 67, 2) := by decide +kernel
theorem dX12_quietFor_34 : decode cX12_quietFor 34 = .ok (.iload_n 1, 1) := by decide +kernel
theorem dX12_quietFor_35 : decode cX12_quietFor 35 = .ok (.iadd, 1) := by decide +kernel
theorem dX12_quietFor_36 : decode cX12_quietFor 36 = .ok (.iaload, 1) := by decide +kernel
theorem dX12_quietFor_37 : decode cX12_quietFor 37 = .ok (.invokevirtual 405, 3) := by decide +kernel
theorem dX12_quietFor_40 : decode cX12_quietFor 40 = .ok (.ifCond .eq 5, 3) := by decide +kernel
theorem dX12_quietFor_43 : decode cX12_quietFor 43 = .ok (.iload_n 2, 1) := by decide +kernel
theorem dX12_quietFor_44 : decode cX12_quietFor 44 = .ok (.ireturn, 1) := by decide +kernel
theorem dX12_quietFor_45 : decode cX12_quietFor 45 = .ok (.iinc 2 1, 3) := by decide +kernel
theorem dX12_quietFor_48 : decode cX12_quietFor 48 = .ok (.goto (-46), 3) := by decide +kernel
theorem dX12_quietFor_51 : decode cX12_quietFor 51 = .ok (.iconst (-1), 1) := by decide +kernel
theorem dX12_quietFor_52 : decode cX12_quietFor 52 = .ok (.ireturn, 1) := by decide +kernel
theorem dX12_laysQuiet_0 : decode cX12_laysQuiet 0 = .ok (.aload_n 0, 1) := by decide +kernel
theorem dX12_laysQuiet_1 : decode cX12_laysQuiet 1 = .ok (.invokevirtual 375, 3) := by decide +kernel
theorem dX12_laysQuiet_4 : decode cX12_laysQuiet 4 = .ok (.iconst 0, 1) := by decide +kernel
theorem dX12_laysQuiet_5 : decode cX12_laysQuiet 5 = .ok (.istore_n 1, 1) := by decide +kernel
theorem dX12_laysQuiet_6 : decode cX12_laysQuiet 6 = .ok (.iload_n 1, 1) := by decide +kernel
theorem dX12_laysQuiet_7 : decode cX12_laysQuiet 7 = .ok (.aload_n 0, 1) := by decide +kernel
theorem dX12_laysQuiet_8 : decode cX12_laysQuiet 8 = .ok (.getfield 9, 3) := by decide +kernel
theorem dX12_laysQuiet_11 : decode cX12_laysQuiet 11 = .ok (.iconst 2, 1) := by decide +kernel
theorem dX12_laysQuiet_12 : decode cX12_laysQuiet 12 = .ok (.iaload, 1) := by decide +kernel
theorem dX12_laysQuiet_13 : decode cX12_laysQuiet 13 = .ok (.if_icmp .ge 16, 3) := by decide +kernel
theorem dX12_laysQuiet_16 : decode cX12_laysQuiet 16 = .ok (.aload_n 0, 1) := by decide +kernel
theorem dX12_laysQuiet_17 : decode cX12_laysQuiet 17 = .ok (.getfield 39, 3) := by decide +kernel
theorem dX12_laysQuiet_20 : decode cX12_laysQuiet 20 = .ok (.iload_n 1, 1) := by decide +kernel
theorem dX12_laysQuiet_21 : decode cX12_laysQuiet 21 = .ok (.lconst 0, 1) := by decide +kernel
theorem dX12_laysQuiet_22 : decode cX12_laysQuiet 22 = .ok (.lastore, 1) := by decide +kernel
theorem dX12_laysQuiet_23 : decode cX12_laysQuiet 23 = .ok (.iinc 1 1, 3) := by decide +kernel
theorem dX12_laysQuiet_26 : decode cX12_laysQuiet 26 = .ok (.goto (-20), 3) := by decide +kernel
theorem dX12_laysQuiet_29 : decode cX12_laysQuiet 29 = .ok (.iconst 0, 1) := by decide +kernel
theorem dX12_laysQuiet_30 : decode cX12_laysQuiet 30 = .ok (.istore_n 1, 1) := by decide +kernel
theorem dX12_laysQuiet_31 : decode cX12_laysQuiet 31 = .ok (.iload_n 1, 1) := by decide +kernel
theorem dX12_laysQuiet_32 : decode cX12_laysQuiet 32 = .ok (.bipush 40, 2) := by decide +kernel
theorem dX12_laysQuiet_34 : decode cX12_laysQuiet 34 = .ok (.if_icmp .gt 56, 3) := by decide +kernel
theorem dX12_laysQuiet_37 : decode cX12_laysQuiet 37 = .ok (.iconst 0, 1) := by decide +kernel
theorem dX12_laysQuiet_38 : decode cX12_laysQuiet 38 = .ok (.istore_n 2, 1) := by decide +kernel
theorem dX12_laysQuiet_39 : decode cX12_laysQuiet 39 = .ok (.iload_n 2, 1) := by decide +kernel
theorem dX12_laysQuiet_40 : decode cX12_laysQuiet 40 = .ok (.aload_n 0, 1) := by decide +kernel
theorem dX12_laysQuiet_41 : decode cX12_laysQuiet 41 = .ok (.getfield 9, 3) := by decide +kernel
theorem dX12_laysQuiet_44 : decode cX12_laysQuiet 44 = .ok (.iconst 2, 1) := by decide +kernel
theorem dX12_laysQuiet_45 : decode cX12_laysQuiet 45 = .ok (.iaload, 1) := by decide +kernel
theorem dX12_laysQuiet_46 : decode cX12_laysQuiet 46 = .ok (.if_icmp .ge 34, 3) := by decide +kernel
theorem dX12_laysQuiet_49 : decode cX12_laysQuiet 49 = .ok (.aload_n 0, 1) := by decide +kernel
theorem dX12_laysQuiet_50 : decode cX12_laysQuiet 50 = .ok (.getfield 39, 3) := by decide +kernel
theorem dX12_laysQuiet_53 : decode cX12_laysQuiet 53 = .ok (.iload_n 2, 1) := by decide +kernel
theorem dX12_laysQuiet_54 : decode cX12_laysQuiet 54 = .ok (.dup2, 1) := by decide +kernel
theorem dX12_laysQuiet_55 : decode cX12_laysQuiet 55 = .ok (.laload, 1) := by decide +kernel
theorem dX12_laysQuiet_56 : decode cX12_laysQuiet 56 = .ok (.aload_n 0, 1) := by decide +kernel
theorem dX12_laysQuiet_57 : decode cX12_laysQuiet 57 = .ok (.iload_n 2, 1) := by decide +kernel
theorem dX12_laysQuiet_58 : decode cX12_laysQuiet 58 = .ok (.invokevirtual 420, 3) := by decide +kernel
theorem dX12_laysQuiet_61 : decode cX12_laysQuiet 61 = .ok (.iconst (-1), 1) := by decide +kernel
theorem dX12_laysQuiet_62 : decode cX12_laysQuiet 62 = .ok (.if_icmp .ne 7, 3) := by decide +kernel
theorem dX12_laysQuiet_65 : decode cX12_laysQuiet 65 = .ok (.lconst 0, 1) := by decide +kernel
theorem dX12_laysQuiet_66 : decode cX12_laysQuiet 66 = .ok (.goto 6, 3) := by decide +kernel
theorem dX12_laysQuiet_69 : decode cX12_laysQuiet 69 = .ok (.lconst 1, 1) := by decide +kernel
theorem dX12_laysQuiet_70 : decode cX12_laysQuiet 70 = .ok (.iload_n 1, 1) := by decide +kernel
theorem dX12_laysQuiet_71 : decode cX12_laysQuiet 71 = .ok (.lshl, 1) := by decide +kernel
theorem dX12_laysQuiet_72 : decode cX12_laysQuiet 72 = .ok (.lor, 1) := by decide +kernel
theorem dX12_laysQuiet_73 : decode cX12_laysQuiet 73 = .ok (.lastore, 1) := by decide +kernel
theorem dX12_laysQuiet_74 : decode cX12_laysQuiet 74 = .ok (.iinc 2 1, 3) := by decide +kernel
theorem dX12_laysQuiet_77 : decode cX12_laysQuiet 77 = .ok (.goto (-38), 3) := by decide +kernel
theorem dX12_laysQuiet_80 : decode cX12_laysQuiet 80 = .ok (.aload_n 0, 1) := by decide +kernel
theorem dX12_laysQuiet_81 : decode cX12_laysQuiet 81 = .ok (.invokevirtual 347, 3) := by decide +kernel
theorem dX12_laysQuiet_84 : decode cX12_laysQuiet 84 = .ok (.iinc 1 1, 3) := by decide +kernel
theorem dX12_laysQuiet_87 : decode cX12_laysQuiet 87 = .ok (.goto (-56), 3) := by decide +kernel
theorem dX12_laysQuiet_90 : decode cX12_laysQuiet 90 = .ok (.aload_n 0, 1) := by decide +kernel
theorem dX12_laysQuiet_91 : decode cX12_laysQuiet 91 = .ok (.invokevirtual 384, 3) := by decide +kernel
theorem dX12_laysQuiet_94 : decode cX12_laysQuiet 94 = .ok (.return_, 1) := by decide +kernel
theorem dX12_quietHours_0 : decode cX12_quietHours 0 = .ok (.aload_n 0, 1) := by decide +kernel
theorem dX12_quietHours_1 : decode cX12_quietHours 1 = .ok (.iconst 0, 1) := by decide +kernel
theorem dX12_quietHours_2 : decode cX12_quietHours 2 = .ok (.putfield 58, 3) := by decide +kernel
theorem dX12_quietHours_5 : decode cX12_quietHours 5 = .ok (.aload_n 0, 1) := by decide +kernel
theorem dX12_quietHours_6 : decode cX12_quietHours 6 = .ok (.iload_n 1, 1) := by decide +kernel
theorem dX12_quietHours_7 : decode cX12_quietHours 7 = .ok (.invokevirtual 308, 3) := by decide +kernel
theorem dX12_quietHours_10 : decode cX12_quietHours 10 = .ok (.ifCond .ne 10, 3) := by decide +kernel
theorem dX12_quietHours_13 : decode cX12_quietHours 13 = .ok (.aload_n 0, 1) := by decide +kernel
theorem dX12_quietHours_14 : decode cX12_quietHours 14 = .ok (.iconst 1, 1) := by decide +kernel
theorem dX12_quietHours_15 : decode cX12_quietHours 15 = .ok (.invokevirtual 230, 3) := by decide +kernel
theorem dX12_quietHours_18 : decode cX12_quietHours 18 = .ok (.i2l, 1) := by decide +kernel
theorem dX12_quietHours_19 : decode cX12_quietHours 19 = .ok (.lreturn, 1) := by decide +kernel
theorem dX12_quietHours_20 : decode cX12_quietHours 20 = .ok (.aload_n 0, 1) := by decide +kernel
theorem dX12_quietHours_21 : decode cX12_quietHours 21 = .ok (.invokevirtual 423, 3) := by decide +kernel
theorem dX12_quietHours_24 : decode cX12_quietHours 24 = .ok (.aload_n 0, 1) := by decide +kernel
theorem dX12_quietHours_25 : decode cX12_quietHours 25 = .ok (.getfield 39, 3) := by decide +kernel
theorem dX12_quietHours_28 : decode cX12_quietHours 28 = .ok (.iload_n 1, 1) := by decide +kernel
theorem dX12_quietHours_29 : decode cX12_quietHours 29 = .ok (.laload, 1) := by decide +kernel
theorem dX12_quietHours_30 : decode cX12_quietHours 30 = .ok (.lreturn, 1) := by decide +kernel
theorem dX12_quietWell_0 : decode cX12_quietWell 0 = .ok (.aload_n 0, 1) := by decide +kernel
theorem dX12_quietWell_1 : decode cX12_quietWell 1 = .ok (.aload_n 0, 1) := by decide +kernel
theorem dX12_quietWell_2 : decode cX12_quietWell 2 = .ok (.iload_n 1, 1) := by decide +kernel
theorem dX12_quietWell_3 : decode cX12_quietWell 3 = .ok (.invokevirtual 308, 3) := by decide +kernel
theorem dX12_quietWell_6 : decode cX12_quietWell 6 = .ok (.ifCond .ne 7, 3) := by decide +kernel
theorem dX12_quietWell_9 : decode cX12_quietWell 9 = .ok (.iconst 1, 1) := by decide +kernel
theorem dX12_quietWell_10 : decode cX12_quietWell 10 = .ok (.goto 20, 3) := by decide +kernel
theorem dX12_quietWell_13 : decode cX12_quietWell 13 = .ok (.iload_n 2, 1) := by decide +kernel
theorem dX12_quietWell_14 : decode cX12_quietWell 14 = .ok (.i2l, 1) := by decide +kernel
theorem dX12_quietWell_15 : decode cX12_quietWell 15 = .ok (.lconst 0, 1) := by decide +kernel
theorem dX12_quietWell_16 : decode cX12_quietWell 16 = .ok (.ldc2_w 426, 3) := by decide +kernel
theorem dX12_quietWell_19 : decode cX12_quietWell 19 = .ok (.invokestatic 119, 3) := by decide +kernel
theorem dX12_quietWell_22 : decode cX12_quietWell 22 = .ok (.ifCond .eq 7, 3) := by decide +kernel
theorem dX12_quietWell_25 : decode cX12_quietWell 25 = .ok (.iconst 0, 1) := by decide +kernel
theorem dX12_quietWell_26 : decode cX12_quietWell 26 = .ok (.goto 4, 3) := by decide +kernel
theorem dX12_quietWell_29 : decode cX12_quietWell 29 = .ok (.iconst 2, 1) := by decide +kernel
theorem dX12_quietWell_30 : decode cX12_quietWell 30 = .ok (.putfield 58, 3) := by decide +kernel
theorem dX12_quietWell_33 : decode cX12_quietWell 33 = .ok (.aload_n 0, 1) := by decide +kernel
theorem dX12_quietWell_34 : decode cX12_quietWell 34 = .ok (.getfield 58, 3) := by decide +kernel
theorem dX12_quietWell_37 : decode cX12_quietWell 37 = .ok (.ifCond .le 5, 3) := by decide +kernel
theorem dX12_quietWell_40 : decode cX12_quietWell 40 = .ok (.iconst 0, 1) := by decide +kernel
theorem dX12_quietWell_41 : decode cX12_quietWell 41 = .ok (.ireturn, 1) := by decide +kernel
theorem dX12_quietWell_42 : decode cX12_quietWell 42 = .ok (.aload_n 0, 1) := by decide +kernel
theorem dX12_quietWell_43 : decode cX12_quietWell 43 = .ok (.invokevirtual 375, 3) := by decide +kernel
theorem dX12_quietWell_46 : decode cX12_quietWell 46 = .ok (.iconst 0, 1) := by decide +kernel
theorem dX12_quietWell_47 : decode cX12_quietWell 47 = .ok (.istore_n 3, 1) := by decide +kernel
theorem dX12_quietWell_48 : decode cX12_quietWell 48 = .ok (.iload_n 3, 1) := by decide +kernel
theorem dX12_quietWell_49 : decode cX12_quietWell 49 = .ok (.iload_n 2, 1) := by decide +kernel
theorem dX12_quietWell_50 : decode cX12_quietWell 50 = .ok (.if_icmp .ge 13, 3) := by decide +kernel
theorem dX12_quietWell_53 : decode cX12_quietWell 53 = .ok (.aload_n 0, 1) := by decide +kernel
theorem dX12_quietWell_54 : decode cX12_quietWell 54 = .ok (.invokevirtual 347, 3) := by decide +kernel
theorem dX12_quietWell_57 : decode cX12_quietWell 57 = .ok (.iinc 3 1, 3) := by decide +kernel
theorem dX12_quietWell_60 : decode cX12_quietWell 60 = .ok (.goto (-12), 3) := by decide +kernel
theorem dX12_quietWell_63 : decode cX12_quietWell 63 = .ok (.aload_n 0, 1) := by decide +kernel
theorem dX12_quietWell_64 : decode cX12_quietWell 64 = .ok (.iload_n 1, 1) := by decide +kernel
theorem dX12_quietWell_65 : decode cX12_quietWell 65 = .ok (.invokevirtual 420, 3) := by decide +kernel
theorem dX12_quietWell_68 : decode cX12_quietWell 68 = .ok (.istore_n 3, 1) := by decide +kernel
theorem dX12_quietWell_69 : decode cX12_quietWell 69 = .ok (.aload_n 0, 1) := by decide +kernel
theorem dX12_quietWell_70 : decode cX12_quietWell 70 = .ok (.invokevirtual 384, 3) := by decide +kernel
theorem dX12_quietWell_73 : decode cX12_quietWell 73 = .ok (.iload_n 3, 1) := by decide +kernel
theorem dX12_quietWell_74 : decode cX12_quietWell 74 = .ok (.ireturn, 1) := by decide +kernel
theorem dX12_finds_0 : decode cX12_finds 0 = .ok (.iconst 0, 1) := by decide +kernel
theorem dX12_finds_1 : decode cX12_finds 1 = .ok (.istore_n 3, 1) := by decide +kernel
theorem dX12_finds_2 : decode cX12_finds 2 = .ok (.iload_n 3, 1) := by decide +kernel
theorem dX12_finds_3 : decode cX12_finds 3 = .ok (.iload_n 2, 1) := by decide +kernel
theorem dX12_finds_4 : decode cX12_finds 4 = .ok (.if_icmp .gt 120, 3) := by decide +kernel
theorem dX12_finds_7 : decode cX12_finds 7 = .ok (.aload_n 0, 1) := by decide +kernel
theorem dX12_finds_8 : decode cX12_finds 8 = .ok (.getfield 39, 3) := by decide +kernel
theorem dX12_finds_11 : decode cX12_finds 11 = .ok (.iload_n 1, 1) := by decide +kernel
theorem dX12_finds_12 : decode cX12_finds 12 = .ok (.laload, 1) := by decide +kernel
theorem dX12_finds_13 : decode cX12_finds 13 = .ok (.iload_n 3, 1) := by decide +kernel
theorem dX12_finds_14 : decode cX12_finds 14 = .ok (.lshr, 1) := by decide +kernel
theorem dX12_finds_15 : decode cX12_finds 15 = .ok (.lconst 1, 1) := by decide +kernel
theorem dX12_finds_16 : decode cX12_finds 16 = .ok (.land, 1) := by decide +kernel
theorem dX12_finds_17 : decode cX12_finds 17 = .ok (.lconst 1, 1) := by decide +kernel
theorem dX12_finds_18 : decode cX12_finds 18 = .ok (.lcmp, 1) := by decide +kernel
theorem dX12_finds_19 : decode cX12_finds 19 = .ok (.ifCond .ne 27, 3) := by decide +kernel
theorem dX12_finds_22 : decode cX12_finds 22 = .ok (.aload_n 0, 1) := by decide +kernel
theorem dX12_finds_23 : decode cX12_finds 23 = .ok (.getfield 46, 3) := by decide +kernel
theorem dX12_finds_26 : decode cX12_finds 26 = .ok (.iload_n 1, 1) := by decide +kernel
theorem dX12_finds_27 : decode cX12_finds 27 = .ok (.iaload, 1) := by decide +kernel
theorem dX12_finds_28 : decode cX12_finds 28 = .ok (.iconst (-1), 1) := by decide +kernel
theorem dX12_finds_29 : decode cX12_finds 29 = .ok (.if_icmp .eq 13, 3) := by decide +kernel
theorem dX12_finds_32 : decode cX12_finds 32 = .ok (.aload_n 0, 1) := by decide +kernel
theorem dX12_finds_33 : decode cX12_finds 33 = .ok (.getfield 46, 3) := by decide +kernel
theorem dX12_finds_36 : decode cX12_finds 36 = .ok (.iload_n 1, 1) := by decide +kernel
theorem dX12_finds_37 : decode cX12_finds 37 = .ok (.iaload, 1) := by decide +kernel
theorem dX12_finds_38 : decode cX12_finds 38 = .ok (.iload_n 3, 1) := by decide +kernel
theorem dX12_finds_39 : decode cX12_finds 39 = .ok (.if_icmp .ne 7, 3) := by decide +kernel
theorem dX12_finds_42 : decode cX12_finds 42 = .ok (.iconst 1, 1) := by decide +kernel
theorem dX12_finds_43 : decode cX12_finds 43 = .ok (.goto 4, 3) := by decide +kernel
theorem dX12_finds_46 : decode cX12_finds 46 = .ok (.iconst 0, 1) := by decide +kernel
theorem dX12_finds_47 : decode cX12_finds 47 = .ok (.istore 4, 2) := by decide +kernel
theorem dX12_finds_49 : decode cX12_finds 49 = .ok (.iload 4, 2) := by decide +kernel
theorem dX12_finds_51 : decode cX12_finds 51 = .ok (.ifCond .eq 67, 3) := by decide +kernel
theorem dX12_finds_54 : decode cX12_finds 54 = .ok (.aload_n 0, 1) := by decide +kernel
theorem dX12_finds_55 : decode cX12_finds 55 = .ok (.getfield 428, 3) := by decide +kernel
theorem dX12_finds_58 : decode cX12_finds 58 = .ok (.iload_n 3, 1) := by decide +kernel
theorem dX12_finds_59 : decode cX12_finds 59 = .ok (.lshr, 1) := by decide +kernel
theorem dX12_finds_60 : decode cX12_finds 60 = .ok (.lconst 1, 1) := by decide +kernel
theorem dX12_finds_61 : decode cX12_finds 61 = .ok (.land, 1) := by decide +kernel
theorem dX12_finds_62 : decode cX12_finds 62 = .ok (.lconst 1, 1) := by decide +kernel
theorem dX12_finds_63 : decode cX12_finds 63 = .ok (.lcmp, 1) := by decide +kernel
theorem dX12_finds_64 : decode cX12_finds 64 = .ok (.ifCond .ne 6, 3) := by decide +kernel
theorem dX12_finds_67 : decode cX12_finds 67 = .ok (.goto 51, 3) := by decide +kernel
theorem dX12_finds_70 : decode cX12_finds 70 = .ok (.aload_n 0, 1) := by decide +kernel
theorem dX12_finds_71 : decode cX12_finds 71 = .ok (.dup, 1) := by decide +kernel
theorem dX12_finds_72 : decode cX12_finds 72 = .ok (.getfield 428, 3) := by decide +kernel
theorem dX12_finds_75 : decode cX12_finds 75 = .ok (.lconst 1, 1) := by decide +kernel
theorem dX12_finds_76 : decode cX12_finds 76 = .ok (.iload_n 3, 1) := by decide +kernel
theorem dX12_finds_77 : decode cX12_finds 77 = .ok (.lshl, 1) := by decide +kernel
theorem dX12_finds_78 : decode cX12_finds 78 = .ok (.lor, 1) := by decide +kernel
theorem dX12_finds_79 : decode cX12_finds 79 = .ok (.putfield 428, 3) := by decide +kernel
theorem dX12_finds_82 : decode cX12_finds 82 = .ok (.aload_n 0, 1) := by decide +kernel
theorem dX12_finds_83 : decode cX12_finds 83 = .ok (.getfield 43, 3) := by decide +kernel
theorem dX12_finds_86 : decode cX12_finds 86 = .ok (.iload_n 3, 1) := by decide +kernel
theorem dX12_finds_87 : decode cX12_finds 87 = .ok (.iaload, 1) := by decide +kernel
theorem dX12_finds_88 : decode cX12_finds 88 = .ok (.iconst (-1), 1) := by decide +kernel
theorem dX12_finds_89 : decode cX12_finds 89 = .ok (.if_icmp .eq 20, 3) := by decide +kernel
theorem dX12_finds_92 : decode cX12_finds 92 = .ok (.aload_n 0, 1) := by decide +kernel
theorem dX12_finds_93 : decode cX12_finds 93 = .ok (.aload_n 0, 1) := by decide +kernel
theorem dX12_finds_94 : decode cX12_finds 94 = .ok (.getfield 43, 3) := by decide +kernel
theorem dX12_finds_97 : decode cX12_finds 97 = .ok (.iload_n 3, 1) := by decide +kernel
theorem dX12_finds_98 : decode cX12_finds 98 = .ok (.iaload, 1) := by decide +kernel
theorem dX12_finds_99 : decode cX12_finds 99 = .ok (.iload_n 2, 1) := by decide +kernel
theorem dX12_finds_100 : decode cX12_finds 100 = .ok (.invokevirtual 432, 3) := by decide +kernel
theorem dX12_finds_103 : decode cX12_finds 103 = .ok (.ifCond .ne 6, 3) := by decide +kernel
theorem dX12_finds_106 : decode cX12_finds 106 = .ok (.goto 12, 3) := by decide +kernel
theorem dX12_finds_109 : decode cX12_finds 109 = .ok (.aload_n 0, 1) := by decide +kernel
theorem dX12_finds_110 : decode cX12_finds 110 = .ok (.getfield 43, 3) := by decide +kernel
theorem dX12_finds_113 : decode cX12_finds 113 = .ok (.iload_n 3, 1) := by decide +kernel
theorem dX12_finds_114 : decode cX12_finds 114 = .ok (.iload_n 1, 1) := by decide +kernel
theorem dX12_finds_115 : decode cX12_finds 115 = .ok (.iastore, 1) := by decide +kernel
theorem dX12_finds_116 : decode cX12_finds 116 = .ok (.iconst 1, 1) := by decide +kernel
theorem dX12_finds_117 : decode cX12_finds 117 = .ok (.ireturn, 1) := by decide +kernel
theorem dX12_finds_118 : decode cX12_finds 118 = .ok (.iinc 3 1, 3) := by decide +kernel
theorem dX12_finds_121 : decode cX12_finds 121 = .ok (.goto (-119), 3) := by decide +kernel
theorem dX12_finds_124 : decode cX12_finds 124 = .ok (.iconst 0, 1) := by decide +kernel
theorem dX12_finds_125 : decode cX12_finds 125 = .ok (.ireturn, 1) := by decide +kernel
theorem dX12_servedBy_0 : decode cX12_servedBy 0 = .ok (.iconst 0, 1) := by decide +kernel
theorem dX12_servedBy_1 : decode cX12_servedBy 1 = .ok (.istore_n 2, 1) := by decide +kernel
theorem dX12_servedBy_2 : decode cX12_servedBy 2 = .ok (.iload_n 2, 1) := by decide +kernel
theorem dX12_servedBy_3 : decode cX12_servedBy 3 = .ok (.bipush 40, 2) := by decide +kernel
theorem dX12_servedBy_5 : decode cX12_servedBy 5 = .ok (.if_icmp .gt 16, 3) := by decide +kernel
theorem dX12_servedBy_8 : decode cX12_servedBy 8 = .ok (.aload_n 0, 1) := by decide +kernel
theorem dX12_servedBy_9 : decode cX12_servedBy 9 = .ok (.getfield 43, 3) := by decide +kernel
theorem dX12_servedBy_12 : decode cX12_servedBy 12 = .ok (.iload_n 2, 1) := by decide +kernel
theorem dX12_servedBy_13 : decode cX12_servedBy 13 = .ok (.iconst (-1), 1) := by decide +kernel
theorem dX12_servedBy_14 : decode cX12_servedBy 14 = .ok (.iastore, 1) := by decide +kernel
theorem dX12_servedBy_15 : decode cX12_servedBy 15 = .ok (.iinc 2 1, 3) := by decide +kernel
theorem dX12_servedBy_18 : decode cX12_servedBy 18 = .ok (.goto (-16), 3) := by decide +kernel
theorem dX12_servedBy_21 : decode cX12_servedBy 21 = .ok (.iconst 0, 1) := by decide +kernel
theorem dX12_servedBy_22 : decode cX12_servedBy 22 = .ok (.istore_n 2, 1) := by decide +kernel
theorem dX12_servedBy_23 : decode cX12_servedBy 23 = .ok (.iconst 0, 1) := by decide +kernel
theorem dX12_servedBy_24 : decode cX12_servedBy 24 = .ok (.istore_n 3, 1) := by decide +kernel
theorem dX12_servedBy_25 : decode cX12_servedBy 25 = .ok (.iload_n 3, 1) := by decide +kernel
theorem dX12_servedBy_26 : decode cX12_servedBy 26 = .ok (.aload_n 0, 1) := by decide +kernel
theorem dX12_servedBy_27 : decode cX12_servedBy 27 = .ok (.getfield 9, 3) := by decide +kernel
theorem dX12_servedBy_30 : decode cX12_servedBy 30 = .ok (.iconst 2, 1) := by decide +kernel
theorem dX12_servedBy_31 : decode cX12_servedBy 31 = .ok (.iaload, 1) := by decide +kernel
theorem dX12_servedBy_32 : decode cX12_servedBy 32 = .ok (.if_icmp .ge 31, 3) := by decide +kernel
theorem dX12_servedBy_35 : decode cX12_servedBy 35 = .ok (.aload_n 0, 1) := by decide +kernel
theorem dX12_servedBy_36 : decode cX12_servedBy 36 = .ok (.lconst 0, 1) := by decide +kernel
theorem dX12_servedBy_37 : decode cX12_servedBy 37 = .ok (.putfield 428, 3) := by decide +kernel
theorem dX12_servedBy_40 : decode cX12_servedBy 40 = .ok (.iload_n 2, 1) := by decide +kernel
theorem dX12_servedBy_41 : decode cX12_servedBy 41 = .ok (.aload_n 0, 1) := by decide +kernel
theorem dX12_servedBy_42 : decode cX12_servedBy 42 = .ok (.iload_n 3, 1) := by decide +kernel
theorem dX12_servedBy_43 : decode cX12_servedBy 43 = .ok (.iload_n 1, 1) := by decide +kernel
theorem dX12_servedBy_44 : decode cX12_servedBy 44 = .ok (.invokevirtual 432, 3) := by decide +kernel
theorem dX12_servedBy_47 : decode cX12_servedBy 47 = .ok (.ifCond .eq 7, 3) := by decide +kernel
theorem dX12_servedBy_50 : decode cX12_servedBy 50 = .ok (.iconst 1, 1) := by decide +kernel
theorem dX12_servedBy_51 : decode cX12_servedBy 51 = .ok (.goto 4, 3) := by decide +kernel
theorem dX12_servedBy_54 : decode cX12_servedBy 54 = .ok (.iconst 0, 1) := by decide +kernel
theorem dX12_servedBy_55 : decode cX12_servedBy 55 = .ok (.iadd, 1) := by decide +kernel
theorem dX12_servedBy_56 : decode cX12_servedBy 56 = .ok (.istore_n 2, 1) := by decide +kernel
theorem dX12_servedBy_57 : decode cX12_servedBy 57 = .ok (.iinc 3 1, 3) := by decide +kernel
theorem dX12_servedBy_60 : decode cX12_servedBy 60 = .ok (.goto (-35), 3) := by decide +kernel
theorem dX12_servedBy_63 : decode cX12_servedBy 63 = .ok (.iload_n 2, 1) := by decide +kernel
theorem dX12_servedBy_64 : decode cX12_servedBy 64 = .ok (.ireturn, 1) := by decide +kernel
theorem dX12_laysPlan_0 : decode cX12_laysPlan 0 = .ok (.aload_n 0, 1) := by decide +kernel
theorem dX12_laysPlan_1 : decode cX12_laysPlan 1 = .ok (.getfield 9, 3) := by decide +kernel
theorem dX12_laysPlan_4 : decode cX12_laysPlan 4 = .ok (.iconst 2, 1) := by decide +kernel
theorem dX12_laysPlan_5 : decode cX12_laysPlan 5 = .ok (.iaload, 1) := by decide +kernel
theorem dX12_laysPlan_6 : decode cX12_laysPlan 6 = .ok (.istore_n 1, 1) := by decide +kernel
theorem dX12_laysPlan_7 : decode cX12_laysPlan 7 = .ok (.aload_n 0, 1) := by decide +kernel
theorem dX12_laysPlan_8 : decode cX12_laysPlan 8 = .ok (.invokevirtual 423, 3) := by decide +kernel
theorem dX12_laysPlan_11 : decode cX12_laysPlan 11 = .ok (.iconst 0, 1) := by decide +kernel
theorem dX12_laysPlan_12 : decode cX12_laysPlan 12 = .ok (.istore_n 2, 1) := by decide +kernel
theorem dX12_laysPlan_13 : decode cX12_laysPlan 13 = .ok (.iload_n 2, 1) := by decide +kernel
theorem dX12_laysPlan_14 : decode cX12_laysPlan 14 = .ok (.bipush 6, 2) := by decide +kernel
theorem dX12_laysPlan_16 : decode cX12_laysPlan 16 = .ok (.if_icmp .ge 16, 3) := by decide +kernel
theorem dX12_laysPlan_19 : decode cX12_laysPlan 19 = .ok (.aload_n 0, 1) := by decide +kernel
theorem dX12_laysPlan_20 : decode cX12_laysPlan 20 = .ok (.getfield 46, 3) := by decide +kernel
theorem dX12_laysPlan_23 : decode cX12_laysPlan 23 = .ok (.iload_n 2, 1) := by decide +kernel
theorem dX12_laysPlan_24 : decode cX12_laysPlan 24 = .ok (.iconst (-1), 1) := by decide +kernel
theorem dX12_laysPlan_25 : decode cX12_laysPlan 25 = .ok (.iastore, 1) := by decide +kernel
theorem dX12_laysPlan_26 : decode cX12_laysPlan 26 = .ok (.iinc 2 1, 3) := by decide +kernel
theorem dX12_laysPlan_29 : decode cX12_laysPlan 29 = .ok (.goto (-16), 3) := by decide +kernel
theorem dX12_laysPlan_32 : decode cX12_laysPlan 32 = .ok (.iconst 0, 1) := by decide +kernel
theorem dX12_laysPlan_33 : decode cX12_laysPlan 33 = .ok (.istore_n 2, 1) := by decide +kernel
theorem dX12_laysPlan_34 : decode cX12_laysPlan 34 = .ok (.iload_n 2, 1) := by decide +kernel
theorem dX12_laysPlan_35 : decode cX12_laysPlan 35 = .ok (.bipush 40, 2) := by decide +kernel
theorem dX12_laysPlan_37 : decode cX12_laysPlan 37 = .ok (.if_icmp .gt 18, 3) := by decide +kernel
theorem dX12_laysPlan_40 : decode cX12_laysPlan 40 = .ok (.aload_n 0, 1) := by decide +kernel
theorem dX12_laysPlan_41 : decode cX12_laysPlan 41 = .ok (.iload_n 2, 1) := by decide +kernel
theorem dX12_laysPlan_42 : decode cX12_laysPlan 42 = .ok (.invokevirtual 435, 3) := by decide +kernel
theorem dX12_laysPlan_45 : decode cX12_laysPlan 45 = .ok (.iload_n 1, 1) := by decide +kernel
theorem dX12_laysPlan_46 : decode cX12_laysPlan 46 = .ok (.if_icmp .ge 9, 3) := by decide +kernel
theorem dX12_laysPlan_49 : decode cX12_laysPlan 49 = .ok (.iinc 2 1, 3) := by decide +kernel
theorem dX12_laysPlan_52 : decode cX12_laysPlan 52 = .ok (.goto (-18), 3) := by decide +kernel
theorem dX12_laysPlan_55 : decode cX12_laysPlan 55 = .ok (.iconst 0, 1) := by decide +kernel
theorem dX12_laysPlan_56 : decode cX12_laysPlan 56 = .ok (.istore_n 3, 1) := by decide +kernel
theorem dX12_laysPlan_57 : decode cX12_laysPlan 57 = .ok (.iload_n 3, 1) := by decide +kernel
theorem dX12_laysPlan_58 : decode cX12_laysPlan 58 = .ok (.iload_n 1, 1) := by decide +kernel
theorem dX12_laysPlan_59 : decode cX12_laysPlan 59 = .ok (.if_icmp .ge 49, 3) := by decide +kernel
theorem dX12_laysPlan_62 : decode cX12_laysPlan 62 = .ok (.iload_n 2, 1) := by decide +kernel
theorem dX12_laysPlan_63 : decode cX12_laysPlan 63 = .ok (.bipush 40, 2) := by decide +kernel
theorem dX12_laysPlan_65 : decode cX12_laysPlan 65 = .ok (.if_icmp .gt 43, 3) := by decide +kernel
theorem dX12_laysPlan_68 : decode cX12_laysPlan 68 = .ok (.iconst 0, 1) := by decide +kernel
theorem dX12_laysPlan_69 : decode cX12_laysPlan 69 = .ok (.istore 4, 2) := by decide +kernel
theorem dX12_laysPlan_71 : decode cX12_laysPlan 71 = .ok (.aload_n 0, 1) := by decide +kernel
theorem dX12_laysPlan_72 : decode cX12_laysPlan 72 = .ok (.getfield 46, 3) := by decide +kernel
theorem dX12_laysPlan_75 : decode cX12_laysPlan 75 = .ok (.iload_n 3, 1) := by decide +kernel
theorem dX12_laysPlan_76 : decode cX12_laysPlan 76 = .ok (.iload 4, 2) := by decide +kernel
theorem dX12_laysPlan_78 : decode cX12_laysPlan 78 = .ok (.iastore, 1) := by decide +kernel
theorem dX12_laysPlan_79 : decode cX12_laysPlan 79 = .ok (.aload_n 0, 1) := by decide +kernel
theorem dX12_laysPlan_80 : decode cX12_laysPlan 80 = .ok (.iload_n 2, 1) := by decide +kernel
theorem dX12_laysPlan_81 : decode cX12_laysPlan 81 = .ok (.invokevirtual 435, 3) := by decide +kernel
theorem dX12_laysPlan_84 : decode cX12_laysPlan 84 = .ok (.iload_n 1, 1) := by decide +kernel
theorem dX12_laysPlan_85 : decode cX12_laysPlan 85 = .ok (.if_icmp .ge 17, 3) := by decide +kernel
theorem dX12_laysPlan_88 : decode cX12_laysPlan 88 = .ok (.iinc 4 1, 3) := by decide +kernel
theorem dX12_laysPlan_91 : decode cX12_laysPlan 91 = .ok (.aload_n 0, 1) := by decide +kernel
theorem dX12_laysPlan_92 : decode cX12_laysPlan 92 = .ok (.getfield 46, 3) := by decide +kernel
theorem dX12_laysPlan_95 : decode cX12_laysPlan 95 = .ok (.iload_n 3, 1) := by decide +kernel
theorem dX12_laysPlan_96 : decode cX12_laysPlan 96 = .ok (.iload 4, 2) := by decide +kernel
theorem dX12_laysPlan_98 : decode cX12_laysPlan 98 = .ok (.iastore, 1) := by decide +kernel
theorem dX12_laysPlan_99 : decode cX12_laysPlan 99 = .ok (.goto (-20), 3) := by decide +kernel
theorem dX12_laysPlan_102 : decode cX12_laysPlan 102 = .ok (.iinc 3 1, 3) := by decide +kernel
theorem dX12_laysPlan_105 : decode cX12_laysPlan 105 = .ok (.goto (-48), 3) := by decide +kernel
theorem dX12_laysPlan_108 : decode cX12_laysPlan 108 = .ok (.iload_n 2, 1) := by decide +kernel
theorem dX12_laysPlan_109 : decode cX12_laysPlan 109 = .ok (.bipush 40, 2) := by decide +kernel
theorem dX12_laysPlan_111 : decode cX12_laysPlan 111 = .ok (.if_icmp .le 8, 3) := by decide +kernel
theorem dX12_laysPlan_114 : decode cX12_laysPlan 114 = .ok (.bipush (-2), 2) := by decide +kernel
theorem dX12_laysPlan_116 : decode cX12_laysPlan 116 = .ok (.goto 4, 3) := by decide +kernel
theorem dX12_laysPlan_119 : decode cX12_laysPlan 119 = .ok (.iload_n 2, 1) := by decide +kernel
theorem dX12_laysPlan_120 : decode cX12_laysPlan 120 = .ok (.ireturn, 1) := by decide +kernel
theorem dX12_plan_0 : decode cX12_plan 0 = .ok (.aload_n 0, 1) := by decide +kernel
theorem dX12_plan_1 : decode cX12_plan 1 = .ok (.iconst 0, 1) := by decide +kernel
theorem dX12_plan_2 : decode cX12_plan 2 = .ok (.putfield 58, 3) := by decide +kernel
theorem dX12_plan_5 : decode cX12_plan 5 = .ok (.iload_n 1, 1) := by decide +kernel
theorem dX12_plan_6 : decode cX12_plan 6 = .ok (.ifCond .eq 23, 3) := by decide +kernel
theorem dX12_plan_9 : decode cX12_plan 9 = .ok (.iload_n 1, 1) := by decide +kernel
theorem dX12_plan_10 : decode cX12_plan 10 = .ok (.i2l, 1) := by decide +kernel
theorem dX12_plan_11 : decode cX12_plan 11 = .ok (.ldc2_w 349, 3) := by decide +kernel
theorem dX12_plan_14 : decode cX12_plan 14 = .ok (.ldc2_w 438, 3) := by decide +kernel
theorem dX12_plan_17 : decode cX12_plan 17 = .ok (.invokestatic 119, 3) := by decide +kernel
theorem dX12_plan_20 : decode cX12_plan 20 = .ok (.ifCond .ne 9, 3) := by decide +kernel
theorem dX12_plan_23 : decode cX12_plan 23 = .ok (.aload_n 0, 1) := by decide +kernel
theorem dX12_plan_24 : decode cX12_plan 24 = .ok (.iconst 1, 1) := by decide +kernel
theorem dX12_plan_25 : decode cX12_plan 25 = .ok (.invokevirtual 230, 3) := by decide +kernel
theorem dX12_plan_28 : decode cX12_plan 28 = .ok (.ireturn, 1) := by decide +kernel
theorem dX12_plan_29 : decode cX12_plan 29 = .ok (.aload_n 0, 1) := by decide +kernel
theorem dX12_plan_30 : decode cX12_plan 30 = .ok (.getfield 9, 3) := by decide +kernel
theorem dX12_plan_33 : decode cX12_plan 33 = .ok (.iconst 2, 1) := by decide +kernel
theorem dX12_plan_34 : decode cX12_plan 34 = .ok (.iaload, 1) := by decide +kernel
theorem dX12_plan_35 : decode cX12_plan 35 = .ok (.ifCond .ne 5, 3) := by decide +kernel
theorem dX12_plan_38 : decode cX12_plan 38 = .ok (.iconst (-1), 1) := by decide +kernel
theorem dX12_plan_39 : decode cX12_plan 39 = .ok (.ireturn, 1) := by decide +kernel
theorem dX12_plan_40 : decode cX12_plan 40 = .ok (.aload_n 0, 1) := by decide +kernel
theorem dX12_plan_41 : decode cX12_plan 41 = .ok (.invokevirtual 440, 3) := by decide +kernel
theorem dX12_plan_44 : decode cX12_plan 44 = .ok (.istore_n 2, 1) := by decide +kernel
theorem dX12_plan_45 : decode cX12_plan 45 = .ok (.iload_n 2, 1) := by decide +kernel
theorem dX12_plan_46 : decode cX12_plan 46 = .ok (.bipush (-2), 2) := by decide +kernel
theorem dX12_plan_48 : decode cX12_plan 48 = .ok (.if_icmp .eq 7, 3) := by decide +kernel
theorem dX12_plan_51 : decode cX12_plan 51 = .ok (.iload_n 1, 1) := by decide +kernel
theorem dX12_plan_52 : decode cX12_plan 52 = .ok (.ifCond .ne 7, 3) := by decide +kernel
theorem dX12_plan_55 : decode cX12_plan 55 = .ok (.iload_n 2, 1) := by decide +kernel
theorem dX12_plan_56 : decode cX12_plan 56 = .ok (.goto 12, 3) := by decide +kernel
theorem dX12_plan_59 : decode cX12_plan 59 = .ok (.aload_n 0, 1) := by decide +kernel
theorem dX12_plan_60 : decode cX12_plan 60 = .ok (.getfield 46, 3) := by decide +kernel
theorem dX12_plan_63 : decode cX12_plan 63 = .ok (.iload_n 1, 1) := by decide +kernel
theorem dX12_plan_64 : decode cX12_plan 64 = .ok (.bipush 10, 2) := by decide +kernel
theorem dX12_plan_66 : decode cX12_plan 66 = .ok (.isub, 1) := by decide +kernel
theorem dX12_plan_67 : decode cX12_plan 67 = .ok (.iaload, 1) := by decide +kernel
theorem dX12_plan_68 : decode cX12_plan 68 = .ok (.ireturn, 1) := by decide +kernel
theorem dX12_served_0 : decode cX12_served 0 = .ok (.aload_n 0, 1) := by decide +kernel
theorem dX12_served_1 : decode cX12_served 1 = .ok (.iconst 0, 1) := by decide +kernel
theorem dX12_served_2 : decode cX12_served 2 = .ok (.putfield 58, 3) := by decide +kernel
theorem dX12_served_5 : decode cX12_served 5 = .ok (.iload_n 1, 1) := by decide +kernel
theorem dX12_served_6 : decode cX12_served 6 = .ok (.i2l, 1) := by decide +kernel
theorem dX12_served_7 : decode cX12_served 7 = .ok (.lconst 0, 1) := by decide +kernel
theorem dX12_served_8 : decode cX12_served 8 = .ok (.ldc2_w 426, 3) := by decide +kernel
theorem dX12_served_11 : decode cX12_served 11 = .ok (.invokestatic 119, 3) := by decide +kernel
theorem dX12_served_14 : decode cX12_served 14 = .ok (.ifCond .ne 9, 3) := by decide +kernel
theorem dX12_served_17 : decode cX12_served 17 = .ok (.aload_n 0, 1) := by decide +kernel
theorem dX12_served_18 : decode cX12_served 18 = .ok (.iconst 1, 1) := by decide +kernel
theorem dX12_served_19 : decode cX12_served 19 = .ok (.invokevirtual 230, 3) := by decide +kernel
theorem dX12_served_22 : decode cX12_served 22 = .ok (.ireturn, 1) := by decide +kernel
theorem dX12_served_23 : decode cX12_served 23 = .ok (.aload_n 0, 1) := by decide +kernel
theorem dX12_served_24 : decode cX12_served 24 = .ok (.invokevirtual 423, 3) := by decide +kernel
theorem dX12_served_27 : decode cX12_served 27 = .ok (.iconst 0, 1) := by decide +kernel
theorem dX12_served_28 : decode cX12_served 28 = .ok (.istore_n 2, 1) := by decide +kernel
theorem dX12_served_29 : decode cX12_served 29 = .ok (.iload_n 2, 1) := by decide +kernel
theorem dX12_served_30 : decode cX12_served 30 = .ok (.bipush 6, 2) := by decide +kernel
theorem dX12_served_32 : decode cX12_served 32 = .ok (.if_icmp .ge 16, 3) := by decide +kernel
theorem dX12_served_35 : decode cX12_served 35 = .ok (.aload_n 0, 1) := by decide +kernel
theorem dX12_served_36 : decode cX12_served 36 = .ok (.getfield 46, 3) := by decide +kernel
theorem dX12_served_39 : decode cX12_served 39 = .ok (.iload_n 2, 1) := by decide +kernel
theorem dX12_served_40 : decode cX12_served 40 = .ok (.iconst (-1), 1) := by decide +kernel
theorem dX12_served_41 : decode cX12_served 41 = .ok (.iastore, 1) := by decide +kernel
theorem dX12_served_42 : decode cX12_served 42 = .ok (.iinc 2 1, 3) := by decide +kernel
theorem dX12_served_45 : decode cX12_served 45 = .ok (.goto (-16), 3) := by decide +kernel
theorem dX12_served_48 : decode cX12_served 48 = .ok (.aload_n 0, 1) := by decide +kernel
theorem dX12_served_49 : decode cX12_served 49 = .ok (.iload_n 1, 1) := by decide +kernel
theorem dX12_served_50 : decode cX12_served 50 = .ok (.invokevirtual 435, 3) := by decide +kernel
theorem dX12_served_53 : decode cX12_served 53 = .ok (.ireturn, 1) := by decide +kernel
theorem dX12_dry_0 : decode cX12_dry 0 = .ok (.aload_n 0, 1) := by decide +kernel
theorem dX12_dry_1 : decode cX12_dry 1 = .ok (.iconst 0, 1) := by decide +kernel
theorem dX12_dry_2 : decode cX12_dry 2 = .ok (.putfield 58, 3) := by decide +kernel
theorem dX12_dry_5 : decode cX12_dry 5 = .ok (.aload_n 0, 1) := by decide +kernel
theorem dX12_dry_6 : decode cX12_dry 6 = .ok (.invokevirtual 423, 3) := by decide +kernel
theorem dX12_dry_9 : decode cX12_dry 9 = .ok (.iconst 0, 1) := by decide +kernel
theorem dX12_dry_10 : decode cX12_dry 10 = .ok (.istore_n 1, 1) := by decide +kernel
theorem dX12_dry_11 : decode cX12_dry 11 = .ok (.iconst 0, 1) := by decide +kernel
theorem dX12_dry_12 : decode cX12_dry 12 = .ok (.istore_n 2, 1) := by decide +kernel
theorem dX12_dry_13 : decode cX12_dry 13 = .ok (.iload_n 2, 1) := by decide +kernel
theorem dX12_dry_14 : decode cX12_dry 14 = .ok (.aload_n 0, 1) := by decide +kernel
theorem dX12_dry_15 : decode cX12_dry 15 = .ok (.getfield 9, 3) := by decide +kernel
theorem dX12_dry_18 : decode cX12_dry 18 = .ok (.iconst 2, 1) := by decide +kernel
theorem dX12_dry_19 : decode cX12_dry 19 = .ok (.iaload, 1) := by decide +kernel
theorem dX12_dry_20 : decode cX12_dry 20 = .ok (.if_icmp .ge 30, 3) := by decide +kernel
theorem dX12_dry_23 : decode cX12_dry 23 = .ok (.iload_n 1, 1) := by decide +kernel
theorem dX12_dry_24 : decode cX12_dry 24 = .ok (.aload_n 0, 1) := by decide +kernel
theorem dX12_dry_25 : decode cX12_dry 25 = .ok (.getfield 39, 3) := by decide +kernel
theorem dX12_dry_28 : decode cX12_dry 28 = .ok (.iload_n 2, 1) := by decide +kernel
theorem dX12_dry_29 : decode cX12_dry 29 = .ok (.laload, 1) := by decide +kernel
theorem dX12_dry_30 : decode cX12_dry 30 = .ok (.lconst 0, 1) := by decide +kernel
theorem dX12_dry_31 : decode cX12_dry 31 = .ok (.lcmp, 1) := by decide +kernel
theorem dX12_dry_32 : decode cX12_dry 32 = .ok (.ifCond .ne 9, 3) := by decide +kernel
theorem dX12_dry_35 : decode cX12_dry 35 = .ok (.iconst 1, 1) := by decide +kernel
theorem dX12_dry_36 : decode cX12_dry 36 = .ok (.iload_n 2, 1) := by decide +kernel
theorem dX12_dry_37 : decode cX12_dry 37 = .ok (.ishl, 1) := by decide +kernel
theorem dX12_dry_38 : decode cX12_dry 38 = .ok (.goto 4, 3) := by decide +kernel
theorem dX12_dry_41 : decode cX12_dry 41 = .ok (.iconst 0, 1) := by decide +kernel
theorem dX12_dry_42 : decode cX12_dry 42 = .ok (.ior, 1) := by decide +kernel
theorem dX12_dry_43 : decode cX12_dry 43 = .ok (.istore_n 1, 1) := by decide +kernel
theorem dX12_dry_44 : decode cX12_dry 44 = .ok (.iinc 2 1, 3) := by decide +kernel
theorem dX12_dry_47 : decode cX12_dry 47 = .ok (.goto (-34), 3) := by decide +kernel
theorem dX12_dry_50 : decode cX12_dry 50 = .ok (.iload_n 1, 1) := by decide +kernel
theorem dX12_dry_51 : decode cX12_dry 51 = .ok (.ireturn, 1) := by decide +kernel
theorem dX12_waterIn_0 : decode cX12_waterIn 0 = .ok (.aload_n 0, 1) := by decide +kernel
theorem dX12_waterIn_1 : decode cX12_waterIn 1 = .ok (.aload_n 0, 1) := by decide +kernel
theorem dX12_waterIn_2 : decode cX12_waterIn 2 = .ok (.iload_n 1, 1) := by decide +kernel
theorem dX12_waterIn_3 : decode cX12_waterIn 3 = .ok (.i2l, 1) := by decide +kernel
theorem dX12_waterIn_4 : decode cX12_waterIn 4 = .ok (.invokevirtual 302, 3) := by decide +kernel
theorem dX12_waterIn_7 : decode cX12_waterIn 7 = .ok (.ifCond .ne 7, 3) := by decide +kernel
theorem dX12_waterIn_10 : decode cX12_waterIn 10 = .ok (.iconst 1, 1) := by decide +kernel
theorem dX12_waterIn_11 : decode cX12_waterIn 11 = .ok (.goto 20, 3) := by decide +kernel
theorem dX12_waterIn_14 : decode cX12_waterIn 14 = .ok (.iload_n 2, 1) := by decide +kernel
theorem dX12_waterIn_15 : decode cX12_waterIn 15 = .ok (.i2l, 1) := by decide +kernel
theorem dX12_waterIn_16 : decode cX12_waterIn 16 = .ok (.lconst 0, 1) := by decide +kernel
theorem dX12_waterIn_17 : decode cX12_waterIn 17 = .ok (.ldc2_w 443, 3) := by decide +kernel
theorem dX12_waterIn_20 : decode cX12_waterIn 20 = .ok (.invokestatic 119, 3) := by decide +kernel
theorem dX12_waterIn_23 : decode cX12_waterIn 23 = .ok (.ifCond .eq 7, 3) := by decide +kernel
theorem dX12_waterIn_26 : decode cX12_waterIn 26 = .ok (.iconst 0, 1) := by decide +kernel
theorem dX12_waterIn_27 : decode cX12_waterIn 27 = .ok (.goto 4, 3) := by decide +kernel
theorem dX12_waterIn_30 : decode cX12_waterIn 30 = .ok (.iconst 2, 1) := by decide +kernel
theorem dX12_waterIn_31 : decode cX12_waterIn 31 = .ok (.putfield 58, 3) := by decide +kernel
theorem dX12_waterIn_34 : decode cX12_waterIn 34 = .ok (.aload_n 0, 1) := by decide +kernel
theorem dX12_waterIn_35 : decode cX12_waterIn 35 = .ok (.getfield 58, 3) := by decide +kernel
theorem dX12_waterIn_38 : decode cX12_waterIn 38 = .ok (.ifCond .le 5, 3) := by decide +kernel
theorem dX12_waterIn_41 : decode cX12_waterIn 41 = .ok (.iconst 0, 1) := by decide +kernel
theorem dX12_waterIn_42 : decode cX12_waterIn 42 = .ok (.ireturn, 1) := by decide +kernel
theorem dX12_waterIn_43 : decode cX12_waterIn 43 = .ok (.aload_n 0, 1) := by decide +kernel
theorem dX12_waterIn_44 : decode cX12_waterIn 44 = .ok (.invokevirtual 375, 3) := by decide +kernel
theorem dX12_waterIn_47 : decode cX12_waterIn 47 = .ok (.iconst 0, 1) := by decide +kernel
theorem dX12_waterIn_48 : decode cX12_waterIn 48 = .ok (.istore_n 3, 1) := by decide +kernel
theorem dX12_waterIn_49 : decode cX12_waterIn 49 = .ok (.iload_n 3, 1) := by decide +kernel
theorem dX12_waterIn_50 : decode cX12_waterIn 50 = .ok (.iload_n 2, 1) := by decide +kernel
theorem dX12_waterIn_51 : decode cX12_waterIn 51 = .ok (.if_icmp .ge 13, 3) := by decide +kernel
theorem dX12_waterIn_54 : decode cX12_waterIn 54 = .ok (.aload_n 0, 1) := by decide +kernel
theorem dX12_waterIn_55 : decode cX12_waterIn 55 = .ok (.invokevirtual 347, 3) := by decide +kernel
theorem dX12_waterIn_58 : decode cX12_waterIn 58 = .ok (.iinc 3 1, 3) := by decide +kernel
theorem dX12_waterIn_61 : decode cX12_waterIn 61 = .ok (.goto (-12), 3) := by decide +kernel
theorem dX12_waterIn_64 : decode cX12_waterIn 64 = .ok (.aload_n 0, 1) := by decide +kernel
theorem dX12_waterIn_65 : decode cX12_waterIn 65 = .ok (.getfield 9, 3) := by decide +kernel
theorem dX12_waterIn_68 : decode cX12_waterIn 68 = .ok (.bipush 15, 2) := by decide +kernel
theorem dX12_waterIn_70 : decode cX12_waterIn 70 = .ok (.iload_n 1, 1) := by decide +kernel
theorem dX12_waterIn_71 : decode cX12_waterIn 71 = .ok (.iadd, 1) := by decide +kernel
theorem dX12_waterIn_72 : decode cX12_waterIn 72 = .ok (.iaload, 1) := by decide +kernel
theorem dX12_waterIn_73 : decode cX12_waterIn 73 = .ok (.istore_n 3, 1) := by decide +kernel
theorem dX12_waterIn_74 : decode cX12_waterIn 74 = .ok (.aload_n 0, 1) := by decide +kernel
theorem dX12_waterIn_75 : decode cX12_waterIn 75 = .ok (.invokevirtual 384, 3) := by decide +kernel
theorem dX12_waterIn_78 : decode cX12_waterIn 78 = .ok (.iload_n 3, 1) := by decide +kernel
theorem dX12_waterIn_79 : decode cX12_waterIn 79 = .ok (.ireturn, 1) := by decide +kernel
theorem dX12_hasIn_0 : decode cX12_hasIn 0 = .ok (.aload_n 0, 1) := by decide +kernel
theorem dX12_hasIn_1 : decode cX12_hasIn 1 = .ok (.aload_n 0, 1) := by decide +kernel
theorem dX12_hasIn_2 : decode cX12_hasIn 2 = .ok (.iload_n 1, 1) := by decide +kernel
theorem dX12_hasIn_3 : decode cX12_hasIn 3 = .ok (.i2l, 1) := by decide +kernel
theorem dX12_hasIn_4 : decode cX12_hasIn 4 = .ok (.invokevirtual 302, 3) := by decide +kernel
theorem dX12_hasIn_7 : decode cX12_hasIn 7 = .ok (.ifCond .ne 7, 3) := by decide +kernel
theorem dX12_hasIn_10 : decode cX12_hasIn 10 = .ok (.iconst 1, 1) := by decide +kernel
theorem dX12_hasIn_11 : decode cX12_hasIn 11 = .ok (.goto 12, 3) := by decide +kernel
theorem dX12_hasIn_14 : decode cX12_hasIn 14 = .ok (.iload_n 2, 1) := by decide +kernel
theorem dX12_hasIn_15 : decode cX12_hasIn 15 = .ok (.ifCond .ge 7, 3) := by decide +kernel
theorem dX12_hasIn_18 : decode cX12_hasIn 18 = .ok (.iconst 2, 1) := by decide +kernel
theorem dX12_hasIn_19 : decode cX12_hasIn 19 = .ok (.goto 4, 3) := by decide +kernel
theorem dX12_hasIn_22 : decode cX12_hasIn 22 = .ok (.iconst 0, 1) := by decide +kernel
theorem dX12_hasIn_23 : decode cX12_hasIn 23 = .ok (.putfield 58, 3) := by decide +kernel
theorem dX12_hasIn_26 : decode cX12_hasIn 26 = .ok (.aload_n 0, 1) := by decide +kernel
theorem dX12_hasIn_27 : decode cX12_hasIn 27 = .ok (.getfield 58, 3) := by decide +kernel
theorem dX12_hasIn_30 : decode cX12_hasIn 30 = .ok (.ifCond .le 5, 3) := by decide +kernel
theorem dX12_hasIn_33 : decode cX12_hasIn 33 = .ok (.iconst 0, 1) := by decide +kernel
theorem dX12_hasIn_34 : decode cX12_hasIn 34 = .ok (.ireturn, 1) := by decide +kernel
theorem dX12_hasIn_35 : decode cX12_hasIn 35 = .ok (.aload_n 0, 1) := by decide +kernel
theorem dX12_hasIn_36 : decode cX12_hasIn 36 = .ok (.invokevirtual 375, 3) := by decide +kernel
theorem dX12_hasIn_39 : decode cX12_hasIn 39 = .ok (.iconst 0, 1) := by decide +kernel
theorem dX12_hasIn_40 : decode cX12_hasIn 40 = .ok (.istore_n 3, 1) := by decide +kernel
theorem dX12_hasIn_41 : decode cX12_hasIn 41 = .ok (.iload_n 3, 1) := by decide +kernel
theorem dX12_hasIn_42 : decode cX12_hasIn 42 = .ok (.sipush 200, 3) := by decide +kernel
theorem dX12_hasIn_45 : decode cX12_hasIn 45 = .ok (.if_icmp .gt 26, 3) := by decide +kernel
theorem dX12_hasIn_48 : decode cX12_hasIn 48 = .ok (.aload_n 0, 1) := by decide +kernel
theorem dX12_hasIn_49 : decode cX12_hasIn 49 = .ok (.getfield 9, 3) := by decide +kernel
theorem dX12_hasIn_52 : decode cX12_hasIn 52 = .ok (.bipush 15, 2) := by decide +kernel
theorem dX12_hasIn_54 : decode cX12_hasIn 54 = .ok (.iload_n 1, 1) := by decide +kernel
theorem dX12_hasIn_55 : decode cX12_hasIn 55 = .ok (.iadd, 1) := by decide +kernel
theorem dX12_hasIn_56 : decode cX12_hasIn 56 = .ok (.iaload, 1) := by decide +kernel
theorem dX12_hasIn_57 : decode cX12_hasIn 57 = .ok (.iload_n 2, 1) := by decide +kernel
theorem dX12_hasIn_58 : decode cX12_hasIn 58 = .ok (.if_icmp .ge 13, 3) := by decide +kernel
theorem dX12_hasIn_61 : decode cX12_hasIn 61 = .ok (.aload_n 0, 1) := by decide +kernel
theorem dX12_hasIn_62 : decode cX12_hasIn 62 = .ok (.invokevirtual 347, 3) := by decide +kernel
theorem dX12_hasIn_65 : decode cX12_hasIn 65 = .ok (.iinc 3 1, 3) := by decide +kernel
theorem dX12_hasIn_68 : decode cX12_hasIn 68 = .ok (.goto (-27), 3) := by decide +kernel
theorem dX12_hasIn_71 : decode cX12_hasIn 71 = .ok (.aload_n 0, 1) := by decide +kernel
theorem dX12_hasIn_72 : decode cX12_hasIn 72 = .ok (.invokevirtual 384, 3) := by decide +kernel
theorem dX12_hasIn_75 : decode cX12_hasIn 75 = .ok (.iload_n 3, 1) := by decide +kernel
theorem dX12_hasIn_76 : decode cX12_hasIn 76 = .ok (.sipush 200, 3) := by decide +kernel
theorem dX12_hasIn_79 : decode cX12_hasIn 79 = .ok (.if_icmp .le 7, 3) := by decide +kernel
theorem dX12_hasIn_82 : decode cX12_hasIn 82 = .ok (.iconst (-1), 1) := by decide +kernel
theorem dX12_hasIn_83 : decode cX12_hasIn 83 = .ok (.goto 4, 3) := by decide +kernel
theorem dX12_hasIn_86 : decode cX12_hasIn 86 = .ok (.iload_n 3, 1) := by decide +kernel
theorem dX12_hasIn_87 : decode cX12_hasIn 87 = .ok (.ireturn, 1) := by decide +kernel
theorem dX12_fullest_0 : decode cX12_fullest 0 = .ok (.aload_n 0, 1) := by decide +kernel
theorem dX12_fullest_1 : decode cX12_fullest 1 = .ok (.iconst 0, 1) := by decide +kernel
theorem dX12_fullest_2 : decode cX12_fullest 2 = .ok (.putfield 58, 3) := by decide +kernel
theorem dX12_fullest_5 : decode cX12_fullest 5 = .ok (.aload_n 0, 1) := by decide +kernel
theorem dX12_fullest_6 : decode cX12_fullest 6 = .ok (.invokevirtual 375, 3) := by decide +kernel
theorem dX12_fullest_9 : decode cX12_fullest 9 = .ok (.iconst 0, 1) := by decide +kernel
theorem dX12_fullest_10 : decode cX12_fullest 10 = .ok (.istore_n 1, 1) := by decide +kernel
theorem dX12_fullest_11 : decode cX12_fullest 11 = .ok (.aload_n 0, 1) := by decide +kernel
theorem dX12_fullest_12 : decode cX12_fullest 12 = .ok (.invokevirtual 311, 3) := by decide +kernel
theorem dX12_fullest_15 : decode cX12_fullest 15 = .ok (.istore_n 2, 1) := by decide +kernel
theorem dX12_fullest_16 : decode cX12_fullest 16 = .ok (.iconst 1, 1) := by decide +kernel
theorem dX12_fullest_17 : decode cX12_fullest 17 = .ok (.istore_n 3, 1) := by decide +kernel
theorem dX12_fullest_18 : decode cX12_fullest 18 = .ok (.iload_n 3, 1) := by decide +kernel
theorem dX12_fullest_19 : decode cX12_fullest 19 = .ok (.sipush 200, 3) := by decide +kernel
theorem dX12_fullest_22 : decode cX12_fullest 22 = .ok (.if_icmp .gt 31, 3) := by decide +kernel
theorem dX12_fullest_25 : decode cX12_fullest 25 = .ok (.aload_n 0, 1) := by decide +kernel
theorem dX12_fullest_26 : decode cX12_fullest 26 = .ok (.invokevirtual 347, 3) := by decide +kernel
theorem dX12_fullest_29 : decode cX12_fullest 29 = .ok (.aload_n 0, 1) := by decide +kernel
theorem dX12_fullest_30 : decode cX12_fullest 30 = .ok (.invokevirtual 311, 3) := by decide +kernel
theorem dX12_fullest_33 : decode cX12_fullest 33 = .ok (.iload_n 2, 1) := by decide +kernel
theorem dX12_fullest_34 : decode cX12_fullest 34 = .ok (.if_icmp .gt 6, 3) := by decide +kernel
theorem dX12_fullest_37 : decode cX12_fullest 37 = .ok (.goto 10, 3) := by decide +kernel
theorem dX12_fullest_40 : decode cX12_fullest 40 = .ok (.iload_n 3, 1) := by decide +kernel
theorem dX12_fullest_41 : decode cX12_fullest 41 = .ok (.istore_n 1, 1) := by decide +kernel
theorem dX12_fullest_42 : decode cX12_fullest 42 = .ok (.aload_n 0, 1) := by decide +kernel
theorem dX12_fullest_43 : decode cX12_fullest 43 = .ok (.invokevirtual 311, 3) := by decide +kernel
theorem dX12_fullest_46 : decode cX12_fullest 46 = .ok (.istore_n 2, 1) := by decide +kernel
theorem dX12_fullest_47 : decode cX12_fullest 47 = .ok (.iinc 3 1, 3) := by decide +kernel
theorem dX12_fullest_50 : decode cX12_fullest 50 = .ok (.goto (-32), 3) := by decide +kernel
theorem dX12_fullest_53 : decode cX12_fullest 53 = .ok (.aload_n 0, 1) := by decide +kernel
theorem dX12_fullest_54 : decode cX12_fullest 54 = .ok (.invokevirtual 384, 3) := by decide +kernel
theorem dX12_fullest_57 : decode cX12_fullest 57 = .ok (.iload_n 1, 1) := by decide +kernel
theorem dX12_fullest_58 : decode cX12_fullest 58 = .ok (.ireturn, 1) := by decide +kernel
theorem dX12_level_0 : decode cX12_level 0 = .ok (.aload_n 0, 1) := by decide +kernel
theorem dX12_level_1 : decode cX12_level 1 = .ok (.aload_n 0, 1) := by decide +kernel
theorem dX12_level_2 : decode cX12_level 2 = .ok (.iload_n 1, 1) := by decide +kernel
theorem dX12_level_3 : decode cX12_level 3 = .ok (.i2l, 1) := by decide +kernel
theorem dX12_level_4 : decode cX12_level 4 = .ok (.invokevirtual 302, 3) := by decide +kernel
theorem dX12_level_7 : decode cX12_level 7 = .ok (.ifCond .eq 12, 3) := by decide +kernel
theorem dX12_level_10 : decode cX12_level 10 = .ok (.aload_n 0, 1) := by decide +kernel
theorem dX12_level_11 : decode cX12_level 11 = .ok (.iload_n 2, 1) := by decide +kernel
theorem dX12_level_12 : decode cX12_level 12 = .ok (.i2l, 1) := by decide +kernel
theorem dX12_level_13 : decode cX12_level 13 = .ok (.invokevirtual 302, 3) := by decide +kernel
theorem dX12_level_16 : decode cX12_level 16 = .ok (.ifCond .ne 7, 3) := by decide +kernel
theorem dX12_level_19 : decode cX12_level 19 = .ok (.iconst 1, 1) := by decide +kernel
theorem dX12_level_20 : decode cX12_level 20 = .ok (.goto 29, 3) := by decide +kernel
theorem dX12_level_23 : decode cX12_level 23 = .ok (.iload_n 1, 1) := by decide +kernel
theorem dX12_level_24 : decode cX12_level 24 = .ok (.iload_n 2, 1) := by decide +kernel
theorem dX12_level_25 : decode cX12_level 25 = .ok (.if_icmp .eq 23, 3) := by decide +kernel
theorem dX12_level_28 : decode cX12_level 28 = .ok (.aload_n 0, 1) := by decide +kernel
theorem dX12_level_29 : decode cX12_level 29 = .ok (.getfield 9, 3) := by decide +kernel
theorem dX12_level_32 : decode cX12_level 32 = .ok (.bipush 57, 2) := by decide +kernel
theorem dX12_level_34 : decode cX12_level 34 = .ok (.iload_n 1, 1) := by decide +kernel
theorem dX12_level_35 : decode cX12_level 35 = .ok (.iadd, 1) := by decide +kernel
theorem dX12_level_36 : decode cX12_level 36 = .ok (.iaload, 1) := by decide +kernel
theorem dX12_level_37 : decode cX12_level 37 = .ok (.iload_n 2, 1) := by decide +kernel
theorem dX12_level_38 : decode cX12_level 38 = .ok (.invokestatic 268, 3) := by decide +kernel
theorem dX12_level_41 : decode cX12_level 41 = .ok (.ifCond .eq 7, 3) := by decide +kernel
theorem dX12_level_44 : decode cX12_level 44 = .ok (.iconst 0, 1) := by decide +kernel
theorem dX12_level_45 : decode cX12_level 45 = .ok (.goto 4, 3) := by decide +kernel
theorem dX12_level_48 : decode cX12_level 48 = .ok (.iconst 2, 1) := by decide +kernel
theorem dX12_level_49 : decode cX12_level 49 = .ok (.putfield 58, 3) := by decide +kernel
theorem dX12_level_52 : decode cX12_level 52 = .ok (.aload_n 0, 1) := by decide +kernel
theorem dX12_level_53 : decode cX12_level 53 = .ok (.getfield 58, 3) := by decide +kernel
theorem dX12_level_56 : decode cX12_level 56 = .ok (.ifCond .le 5, 3) := by decide +kernel
theorem dX12_level_59 : decode cX12_level 59 = .ok (.iconst 0, 1) := by decide +kernel
theorem dX12_level_60 : decode cX12_level 60 = .ok (.ireturn, 1) := by decide +kernel
theorem dX12_level_61 : decode cX12_level 61 = .ok (.aload_n 0, 1) := by decide +kernel
theorem dX12_level_62 : decode cX12_level 62 = .ok (.invokevirtual 375, 3) := by decide +kernel
theorem dX12_level_65 : decode cX12_level 65 = .ok (.iconst 0, 1) := by decide +kernel
theorem dX12_level_66 : decode cX12_level 66 = .ok (.istore_n 3, 1) := by decide +kernel
theorem dX12_level_67 : decode cX12_level 67 = .ok (.iload_n 3, 1) := by decide +kernel
theorem dX12_level_68 : decode cX12_level 68 = .ok (.sipush 200, 3) := by decide +kernel
theorem dX12_level_71 : decode cX12_level 71 = .ok (.if_icmp .gt 34, 3) := by decide +kernel
theorem dX12_level_74 : decode cX12_level 74 = .ok (.aload_n 0, 1) := by decide +kernel
theorem dX12_level_75 : decode cX12_level 75 = .ok (.getfield 9, 3) := by decide +kernel
theorem dX12_level_78 : decode cX12_level 78 = .ok (.bipush 15, 2) := by decide +kernel
theorem dX12_level_80 : decode cX12_level 80 = .ok (.iload_n 1, 1) := by decide +kernel
theorem dX12_level_81 : decode cX12_level 81 = .ok (.iadd, 1) := by decide +kernel
theorem dX12_level_82 : decode cX12_level 82 = .ok (.iaload, 1) := by decide +kernel
theorem dX12_level_83 : decode cX12_level 83 = .ok (.aload_n 0, 1) := by decide +kernel
theorem dX12_level_84 : decode cX12_level 84 = .ok (.getfield 9, 3) := by decide +kernel
theorem dX12_level_87 : decode cX12_level 87 = .ok (.bipush 15, 2) := by decide +kernel
theorem dX12_level_89 : decode cX12_level 89 = .ok (.iload_n 2, 1) := by decide +kernel
theorem dX12_level_90 : decode cX12_level 90 = .ok (.iadd, 1) := by decide +kernel
theorem dX12_level_91 : decode cX12_level 91 = .ok (.iaload, 1) := by decide +kernel
theorem dX12_level_92 : decode cX12_level 92 = .ok (.if_icmp .eq 13, 3) := by decide +kernel
theorem dX12_level_95 : decode cX12_level 95 = .ok (.aload_n 0, 1) := by decide +kernel
theorem dX12_level_96 : decode cX12_level 96 = .ok (.invokevirtual 347, 3) := by decide +kernel
theorem dX12_level_99 : decode cX12_level 99 = .ok (.iinc 3 1, 3) := by decide +kernel
theorem dX12_level_102 : decode cX12_level 102 = .ok (.goto (-35), 3) := by decide +kernel
theorem dX12_level_105 : decode cX12_level 105 = .ok (.aload_n 0, 1) := by decide +kernel
theorem dX12_level_106 : decode cX12_level 106 = .ok (.invokevirtual 384, 3) := by decide +kernel
theorem dX12_level_109 : decode cX12_level 109 = .ok (.iload_n 3, 1) := by decide +kernel
theorem dX12_level_110 : decode cX12_level 110 = .ok (.sipush 200, 3) := by decide +kernel
theorem dX12_level_113 : decode cX12_level 113 = .ok (.if_icmp .le 7, 3) := by decide +kernel
theorem dX12_level_116 : decode cX12_level 116 = .ok (.iconst (-1), 1) := by decide +kernel
theorem dX12_level_117 : decode cX12_level 117 = .ok (.goto 4, 3) := by decide +kernel
theorem dX12_level_120 : decode cX12_level 120 = .ok (.iload_n 3, 1) := by decide +kernel
theorem dX12_level_121 : decode cX12_level 121 = .ok (.ireturn, 1) := by decide +kernel
theorem dX12_seenFault_0 : decode cX12_seenFault 0 = .ok (.aload_n 0, 1) := by decide +kernel
theorem dX12_seenFault_1 : decode cX12_seenFault 1 = .ok (.iload_n 1, 1) := by decide +kernel
theorem dX12_seenFault_2 : decode cX12_seenFault 2 = .ok (.invokevirtual 370, 3) := by decide +kernel
theorem dX12_seenFault_5 : decode cX12_seenFault 5 = .ok (.istore_n 2, 1) := by decide +kernel
theorem dX12_seenFault_6 : decode cX12_seenFault 6 = .ok (.iload_n 2, 1) := by decide +kernel
theorem dX12_seenFault_7 : decode cX12_seenFault 7 = .ok (.ifCond .eq 5, 3) := by decide +kernel
theorem dX12_seenFault_10 : decode cX12_seenFault 10 = .ok (.iload_n 2, 1) := by decide +kernel
theorem dX12_seenFault_11 : decode cX12_seenFault 11 = .ok (.ireturn, 1) := by decide +kernel
theorem dX12_seenFault_12 : decode cX12_seenFault 12 = .ok (.aload_n 0, 1) := by decide +kernel
theorem dX12_seenFault_13 : decode cX12_seenFault 13 = .ok (.getfield 52, 3) := by decide +kernel
theorem dX12_seenFault_16 : decode cX12_seenFault 16 = .ok (.iload_n 1, 1) := by decide +kernel
theorem dX12_seenFault_17 : decode cX12_seenFault 17 = .ok (.iaload, 1) := by decide +kernel
theorem dX12_seenFault_18 : decode cX12_seenFault 18 = .ok (.i2l, 1) := by decide +kernel
theorem dX12_seenFault_19 : decode cX12_seenFault 19 = .ok (.lconst 1, 1) := by decide +kernel
theorem dX12_seenFault_20 : decode cX12_seenFault 20 = .ok (.ldc2_w 445, 3) := by decide +kernel
theorem dX12_seenFault_23 : decode cX12_seenFault 23 = .ok (.invokestatic 119, 3) := by decide +kernel
theorem dX12_seenFault_26 : decode cX12_seenFault 26 = .ok (.ifCond .ne 5, 3) := by decide +kernel
theorem dX12_seenFault_29 : decode cX12_seenFault 29 = .ok (.iconst 3, 1) := by decide +kernel
theorem dX12_seenFault_30 : decode cX12_seenFault 30 = .ok (.ireturn, 1) := by decide +kernel
theorem dX12_seenFault_31 : decode cX12_seenFault 31 = .ok (.iconst 0, 1) := by decide +kernel
theorem dX12_seenFault_32 : decode cX12_seenFault 32 = .ok (.istore_n 3, 1) := by decide +kernel
theorem dX12_seenFault_33 : decode cX12_seenFault 33 = .ok (.iload_n 3, 1) := by decide +kernel
theorem dX12_seenFault_34 : decode cX12_seenFault 34 = .ok (.aload_n 0, 1) := by decide +kernel
theorem dX12_seenFault_35 : decode cX12_seenFault 35 = .ok (.getfield 52, 3) := by decide +kernel
theorem dX12_seenFault_38 : decode cX12_seenFault 38 = .ok (.iload_n 1, 1) := by decide +kernel
theorem dX12_seenFault_39 : decode cX12_seenFault 39 = .ok (.iaload, 1) := by decide +kernel
theorem dX12_seenFault_40 : decode cX12_seenFault 40 = .ok (.if_icmp .ge 32, 3) := by decide +kernel
theorem dX12_seenFault_43 : decode cX12_seenFault 43 = .ok (.aload_n 0, 1) := by decide +kernel
theorem dX12_seenFault_44 : decode cX12_seenFault 44 = .ok (.getfield 55, 3) := by decide +kernel
theorem dX12_seenFault_47 : decode cX12_seenFault 47 = .ok (.bipush 30, 2) := by decide +kernel
theorem dX12_seenFault_49 : decode cX12_seenFault 49 = .ok (.iload_n 1, 1) := by decide +kernel
theorem dX12_seenFault_50 : decode cX12_seenFault 50 = .ok (.imul, 1) := by decide +kernel
theorem dX12_seenFault_51 : decode cX12_seenFault 51 = .ok (.iload_n 3, 1) := by decide +kernel
theorem dX12_seenFault_52 : decode cX12_seenFault 52 = .ok (.iadd, 1) := by decide +kernel
theorem dX12_seenFault_53 : decode cX12_seenFault 53 = .ok (.laload, 1) := by decide +kernel
theorem dX12_seenFault_54 : decode cX12_seenFault 54 = .ok (.ldc2_w 354, 3) := by decide +kernel
theorem dX12_seenFault_57 : decode cX12_seenFault 57 = .ok (.lconst 1, 1) := by decide +kernel
theorem dX12_seenFault_58 : decode cX12_seenFault 58 = .ok (.invokestatic 119, 3) := by decide +kernel
theorem dX12_seenFault_61 : decode cX12_seenFault 61 = .ok (.ifCond .ne 5, 3) := by decide +kernel
theorem dX12_seenFault_64 : decode cX12_seenFault 64 = .ok (.iconst 3, 1) := by decide +kernel
theorem dX12_seenFault_65 : decode cX12_seenFault 65 = .ok (.ireturn, 1) := by decide +kernel
theorem dX12_seenFault_66 : decode cX12_seenFault 66 = .ok (.iinc 3 1, 3) := by decide +kernel
theorem dX12_seenFault_69 : decode cX12_seenFault 69 = .ok (.goto (-36), 3) := by decide +kernel
theorem dX12_seenFault_72 : decode cX12_seenFault 72 = .ok (.iconst 0, 1) := by decide +kernel
theorem dX12_seenFault_73 : decode cX12_seenFault 73 = .ok (.ireturn, 1) := by decide +kernel
theorem dX12_heardIn_0 : decode cX12_heardIn 0 = .ok (.iload_n 3, 1) := by decide +kernel
theorem dX12_heardIn_1 : decode cX12_heardIn 1 = .ok (.iload_n 2, 1) := by decide +kernel
theorem dX12_heardIn_2 : decode cX12_heardIn 2 = .ok (.iadd, 1) := by decide +kernel
theorem dX12_heardIn_3 : decode cX12_heardIn 3 = .ok (.iload_n 0, 1) := by decide +kernel
theorem dX12_heardIn_4 : decode cX12_heardIn 4 = .ok (.irem, 1) := by decide +kernel
theorem dX12_heardIn_5 : decode cX12_heardIn 5 = .ok (.iload_n 1, 1) := by decide +kernel
theorem dX12_heardIn_6 : decode cX12_heardIn 6 = .ok (.if_icmp .ge 7, 3) := by decide +kernel
theorem dX12_heardIn_9 : decode cX12_heardIn 9 = .ok (.iconst 1, 1) := by decide +kernel
theorem dX12_heardIn_10 : decode cX12_heardIn 10 = .ok (.goto 4, 3) := by decide +kernel
theorem dX12_heardIn_13 : decode cX12_heardIn 13 = .ok (.iconst 0, 1) := by decide +kernel
theorem dX12_heardIn_14 : decode cX12_heardIn 14 = .ok (.ireturn, 1) := by decide +kernel
theorem dX12_fitsSeen_0 : decode cX12_fitsSeen 0 = .ok (.iconst 0, 1) := by decide +kernel
theorem dX12_fitsSeen_1 : decode cX12_fitsSeen 1 = .ok (.istore 5, 2) := by decide +kernel
theorem dX12_fitsSeen_3 : decode cX12_fitsSeen 3 = .ok (.iload 5, 2) := by decide +kernel
theorem dX12_fitsSeen_5 : decode cX12_fitsSeen 5 = .ok (.aload_n 0, 1) := by decide +kernel
theorem dX12_fitsSeen_6 : decode cX12_fitsSeen 6 = .ok (.getfield 52, 3) := by decide +kernel
theorem dX12_fitsSeen_9 : decode cX12_fitsSeen 9 = .ok (.iload_n 1, 1) := by decide +kernel
theorem dX12_fitsSeen_10 : decode cX12_fitsSeen 10 = .ok (.iaload, 1) := by decide +kernel
theorem dX12_fitsSeen_11 : decode cX12_fitsSeen 11 = .ok (.if_icmp .ge 50, 3) := by decide +kernel
theorem dX12_fitsSeen_14 : decode cX12_fitsSeen 14 = .ok (.aload_n 0, 1) := by decide +kernel
theorem dX12_fitsSeen_15 : decode cX12_fitsSeen 15 = .ok (.getfield 55, 3) := by decide +kernel
theorem dX12_fitsSeen_18 : decode cX12_fitsSeen 18 = .ok (.bipush 30, 2) := by decide +kernel
theorem dX12_fitsSeen_20 : decode cX12_fitsSeen 20 = .ok (.iload_n 1, 1) := by decide +kernel
theorem dX12_fitsSeen_21 : decode cX12_fitsSeen 21 = .ok (.imul, 1) := by decide +kernel
theorem dX12_fitsSeen_22 : decode cX12_fitsSeen 22 = .ok (.iload 5, 2) := by decide +kernel
theorem dX12_fitsSeen_24 : decode cX12_fitsSeen 24 = .ok (.iadd, 1) := by decide +kernel
theorem dX12_fitsSeen_25 : decode cX12_fitsSeen 25 = .ok (.laload, 1) := by decide +kernel
theorem dX12_fitsSeen_26 : decode cX12_fitsSeen 26 = .ok (.lstore 6, 2) := by decide +kernel
theorem dX12_fitsSeen_28 : decode cX12_fitsSeen 28 = .ok (.lload 6, 2) := by decide +kernel
theorem dX12_fitsSeen_30 : decode cX12_fitsSeen 30 = .ok (.ldc2_w 354, 3) := by decide +kernel
theorem dX12_fitsSeen_33 : decode cX12_fitsSeen 33 = .ok (.lcmp, 1) := by decide +kernel
theorem dX12_fitsSeen_34 : decode cX12_fitsSeen 34 = .ok (.ifCond .eq 21, 3) := by decide +kernel
theorem dX12_fitsSeen_37 : decode cX12_fitsSeen 37 = .ok (.lload 6, 2) := by decide +kernel
theorem dX12_fitsSeen_39 : decode cX12_fitsSeen 39 = .ok (.iload_n 2, 1) := by decide +kernel
theorem dX12_fitsSeen_40 : decode cX12_fitsSeen 40 = .ok (.iload_n 3, 1) := by decide +kernel
theorem dX12_fitsSeen_41 : decode cX12_fitsSeen 41 = .ok (.iload 4, 2) := by decide +kernel
theorem dX12_fitsSeen_43 : decode cX12_fitsSeen 43 = .ok (.iload 5, 2) := by decide +kernel
theorem dX12_fitsSeen_45 : decode cX12_fitsSeen 45 = .ok (.invokestatic 447, 3) := by decide +kernel
theorem dX12_fitsSeen_48 : decode cX12_fitsSeen 48 = .ok (.i2l, 1) := by decide +kernel
theorem dX12_fitsSeen_49 : decode cX12_fitsSeen 49 = .ok (.lcmp, 1) := by decide +kernel
theorem dX12_fitsSeen_50 : decode cX12_fitsSeen 50 = .ok (.ifCond .eq 5, 3) := by decide +kernel
theorem dX12_fitsSeen_53 : decode cX12_fitsSeen 53 = .ok (.iconst 0, 1) := by decide +kernel
theorem dX12_fitsSeen_54 : decode cX12_fitsSeen 54 = .ok (.ireturn, 1) := by decide +kernel
theorem dX12_fitsSeen_55 : decode cX12_fitsSeen 55 = .ok (.iinc 5 1, 3) := by decide +kernel
theorem dX12_fitsSeen_58 : decode cX12_fitsSeen 58 = .ok (.goto (-55), 3) := by decide +kernel
theorem dX12_fitsSeen_61 : decode cX12_fitsSeen 61 = .ok (.iconst 1, 1) := by decide +kernel
theorem dX12_fitsSeen_62 : decode cX12_fitsSeen 62 = .ok (.ireturn, 1) := by decide +kernel
theorem dX12_fitting_0 : decode cX12_fitting 0 = .ok (.iconst 0, 1) := by decide +kernel
theorem dX12_fitting_1 : decode cX12_fitting 1 = .ok (.istore 4, 2) := by decide +kernel
theorem dX12_fitting_3 : decode cX12_fitting 3 = .ok (.aload_n 0, 1) := by decide +kernel
theorem dX12_fitting_4 : decode cX12_fitting 4 = .ok (.iconst (-1), 1) := by decide +kernel
theorem dX12_fitting_5 : decode cX12_fitting 5 = .ok (.putfield 450, 3) := by decide +kernel
theorem dX12_fitting_8 : decode cX12_fitting 8 = .ok (.iconst 2, 1) := by decide +kernel
theorem dX12_fitting_9 : decode cX12_fitting 9 = .ok (.istore 5, 2) := by decide +kernel
theorem dX12_fitting_11 : decode cX12_fitting 11 = .ok (.iload 5, 2) := by decide +kernel
theorem dX12_fitting_13 : decode cX12_fitting 13 = .ok (.bipush 12, 2) := by decide +kernel
theorem dX12_fitting_15 : decode cX12_fitting 15 = .ok (.if_icmp .gt 104, 3) := by decide +kernel
theorem dX12_fitting_18 : decode cX12_fitting 18 = .ok (.iconst 1, 1) := by decide +kernel
theorem dX12_fitting_19 : decode cX12_fitting 19 = .ok (.istore 6, 2) := by decide +kernel
theorem dX12_fitting_21 : decode cX12_fitting 21 = .ok (.iload 6, 2) := by decide +kernel
theorem dX12_fitting_23 : decode cX12_fitting 23 = .ok (.iload 5, 2) := by decide +kernel
theorem dX12_fitting_25 : decode cX12_fitting 25 = .ok (.if_icmp .gt 88, 3) := by decide +kernel
theorem dX12_fitting_28 : decode cX12_fitting 28 = .ok (.iconst 0, 1) := by decide +kernel
theorem dX12_fitting_29 : decode cX12_fitting 29 = .ok (.istore 7, 2) := by decide +kernel
theorem dX12_fitting_31 : decode cX12_fitting 31 = .ok (.iload 7, 2) := by decide +kernel
theorem dX12_fitting_33 : decode cX12_fitting 33 = .ok (.iload 5, 2) := by decide +kernel
theorem dX12_fitting_35 : decode cX12_fitting 35 = .ok (.if_icmp .ge 72, 3) := by decide +kernel
theorem dX12_fitting_38 : decode cX12_fitting 38 = .ok (.aload_n 0, 1) := by decide +kernel
theorem dX12_fitting_39 : decode cX12_fitting 39 = .ok (.iload_n 1, 1) := by decide +kernel
theorem dX12_fitting_40 : decode cX12_fitting 40 = .ok (.iload 5, 2) := by decide +kernel
theorem dX12_fitting_42 : decode cX12_fitting 42 = .ok (.iload 6, 2) := by decide +kernel
theorem dX12_fitting_44 : decode cX12_fitting 44 = .ok (.iload 7, 2) := by decide +kernel
theorem dX12_fitting_46 : decode cX12_fitting 46 = .ok (.invokevirtual 453, 3) := by decide +kernel
theorem dX12_fitting_49 : decode cX12_fitting 49 = .ok (.ifCond .eq 52, 3) := by decide +kernel
theorem dX12_fitting_52 : decode cX12_fitting 52 = .ok (.iload_n 2, 1) := by decide +kernel
theorem dX12_fitting_53 : decode cX12_fitting 53 = .ok (.iconst (-1), 1) := by decide +kernel
theorem dX12_fitting_54 : decode cX12_fitting 54 = .ok (.if_icmp .eq 19, 3) := by decide +kernel
theorem dX12_fitting_57 : decode cX12_fitting 57 = .ok (.iload 5, 2) := by decide +kernel
theorem dX12_fitting_59 : decode cX12_fitting 59 = .ok (.iload 6, 2) := by decide +kernel
theorem dX12_fitting_61 : decode cX12_fitting 61 = .ok (.iload 7, 2) := by decide +kernel
theorem dX12_fitting_63 : decode cX12_fitting 63 = .ok (.iload_n 2, 1) := by decide +kernel
theorem dX12_fitting_64 : decode cX12_fitting 64 = .ok (.invokestatic 447, 3) := by decide +kernel
theorem dX12_fitting_67 : decode cX12_fitting 67 = .ok (.ifCond .ne 6, 3) := by decide +kernel
theorem dX12_fitting_70 : decode cX12_fitting 70 = .ok (.goto 31, 3) := by decide +kernel
theorem dX12_fitting_73 : decode cX12_fitting 73 = .ok (.iload 4, 2) := by decide +kernel
theorem dX12_fitting_75 : decode cX12_fitting 75 = .ok (.iload_n 3, 1) := by decide +kernel
theorem dX12_fitting_76 : decode cX12_fitting 76 = .ok (.if_icmp .ne 22, 3) := by decide +kernel
theorem dX12_fitting_79 : decode cX12_fitting 79 = .ok (.aload_n 0, 1) := by decide +kernel
theorem dX12_fitting_80 : decode cX12_fitting 80 = .ok (.sipush 10000, 3) := by decide +kernel
theorem dX12_fitting_83 : decode cX12_fitting 83 = .ok (.iload 5, 2) := by decide +kernel
theorem dX12_fitting_85 : decode cX12_fitting 85 = .ok (.imul, 1) := by decide +kernel
theorem dX12_fitting_86 : decode cX12_fitting 86 = .ok (.bipush 100, 2) := by decide +kernel
theorem dX12_fitting_88 : decode cX12_fitting 88 = .ok (.iload 6, 2) := by decide +kernel
theorem dX12_fitting_90 : decode cX12_fitting 90 = .ok (.imul, 1) := by decide +kernel
theorem dX12_fitting_91 : decode cX12_fitting 91 = .ok (.iadd, 1) := by decide +kernel
theorem dX12_fitting_92 : decode cX12_fitting 92 = .ok (.iload 7, 2) := by decide +kernel
theorem dX12_fitting_94 : decode cX12_fitting 94 = .ok (.iadd, 1) := by decide +kernel
theorem dX12_fitting_95 : decode cX12_fitting 95 = .ok (.putfield 450, 3) := by decide +kernel
theorem dX12_fitting_98 : decode cX12_fitting 98 = .ok (.iinc 4 1, 3) := by decide +kernel
theorem dX12_fitting_101 : decode cX12_fitting 101 = .ok (.iinc 7 1, 3) := by decide +kernel
theorem dX12_fitting_104 : decode cX12_fitting 104 = .ok (.goto (-73), 3) := by decide +kernel
theorem dX12_fitting_107 : decode cX12_fitting 107 = .ok (.iinc 6 1, 3) := by decide +kernel
theorem dX12_fitting_110 : decode cX12_fitting 110 = .ok (.goto (-89), 3) := by decide +kernel
theorem dX12_fitting_113 : decode cX12_fitting 113 = .ok (.iinc 5 1, 3) := by decide +kernel
theorem dX12_fitting_116 : decode cX12_fitting 116 = .ok (.goto (-105), 3) := by decide +kernel
theorem dX12_fitting_119 : decode cX12_fitting 119 = .ok (.iload 4, 2) := by decide +kernel
theorem dX12_fitting_121 : decode cX12_fitting 121 = .ok (.ireturn, 1) := by decide +kernel
theorem dX12_seen_0 : decode cX12_seen 0 = .ok (.aload_n 0, 1) := by decide +kernel
theorem dX12_seen_1 : decode cX12_seen 1 = .ok (.aload_n 0, 1) := by decide +kernel
theorem dX12_seen_2 : decode cX12_seen 2 = .ok (.iload_n 1, 1) := by decide +kernel
theorem dX12_seen_3 : decode cX12_seen 3 = .ok (.invokevirtual 457, 3) := by decide +kernel
theorem dX12_seen_6 : decode cX12_seen 6 = .ok (.putfield 58, 3) := by decide +kernel
theorem dX12_seen_9 : decode cX12_seen 9 = .ok (.aload_n 0, 1) := by decide +kernel
theorem dX12_seen_10 : decode cX12_seen 10 = .ok (.getfield 58, 3) := by decide +kernel
theorem dX12_seen_13 : decode cX12_seen 13 = .ok (.ifCond .le 7, 3) := by decide +kernel
theorem dX12_seen_16 : decode cX12_seen 16 = .ok (.iconst 0, 1) := by decide +kernel
theorem dX12_seen_17 : decode cX12_seen 17 = .ok (.goto 10, 3) := by decide +kernel
theorem dX12_seen_20 : decode cX12_seen 20 = .ok (.aload_n 0, 1) := by decide +kernel
theorem dX12_seen_21 : decode cX12_seen 21 = .ok (.iload_n 1, 1) := by decide +kernel
theorem dX12_seen_22 : decode cX12_seen 22 = .ok (.iconst (-1), 1) := by decide +kernel
theorem dX12_seen_23 : decode cX12_seen 23 = .ok (.iconst (-1), 1) := by decide +kernel
theorem dX12_seen_24 : decode cX12_seen 24 = .ok (.invokevirtual 460, 3) := by decide +kernel
theorem dX12_seen_27 : decode cX12_seen 27 = .ok (.ireturn, 1) := by decide +kernel
theorem dX12_roundAt_0 : decode cX12_roundAt 0 = .ok (.aload_n 0, 1) := by decide +kernel
theorem dX12_roundAt_1 : decode cX12_roundAt 1 = .ok (.aload_n 0, 1) := by decide +kernel
theorem dX12_roundAt_2 : decode cX12_roundAt 2 = .ok (.iload_n 1, 1) := by decide +kernel
theorem dX12_roundAt_3 : decode cX12_roundAt 3 = .ok (.invokevirtual 457, 3) := by decide +kernel
theorem dX12_roundAt_6 : decode cX12_roundAt 6 = .ok (.putfield 58, 3) := by decide +kernel
theorem dX12_roundAt_9 : decode cX12_roundAt 9 = .ok (.aload_n 0, 1) := by decide +kernel
theorem dX12_roundAt_10 : decode cX12_roundAt 10 = .ok (.getfield 58, 3) := by decide +kernel
theorem dX12_roundAt_13 : decode cX12_roundAt 13 = .ok (.ifCond .ne 12, 3) := by decide +kernel
theorem dX12_roundAt_16 : decode cX12_roundAt 16 = .ok (.iload_n 2, 1) := by decide +kernel
theorem dX12_roundAt_17 : decode cX12_roundAt 17 = .ok (.ifCond .ge 8, 3) := by decide +kernel
theorem dX12_roundAt_20 : decode cX12_roundAt 20 = .ok (.aload_n 0, 1) := by decide +kernel
theorem dX12_roundAt_21 : decode cX12_roundAt 21 = .ok (.iconst 3, 1) := by decide +kernel
theorem dX12_roundAt_22 : decode cX12_roundAt 22 = .ok (.putfield 58, 3) := by decide +kernel
theorem dX12_roundAt_25 : decode cX12_roundAt 25 = .ok (.aload_n 0, 1) := by decide +kernel
theorem dX12_roundAt_26 : decode cX12_roundAt 26 = .ok (.getfield 58, 3) := by decide +kernel
theorem dX12_roundAt_29 : decode cX12_roundAt 29 = .ok (.ifCond .le 5, 3) := by decide +kernel
theorem dX12_roundAt_32 : decode cX12_roundAt 32 = .ok (.iconst 0, 1) := by decide +kernel
theorem dX12_roundAt_33 : decode cX12_roundAt 33 = .ok (.ireturn, 1) := by decide +kernel
theorem dX12_roundAt_34 : decode cX12_roundAt 34 = .ok (.aload_n 0, 1) := by decide +kernel
theorem dX12_roundAt_35 : decode cX12_roundAt 35 = .ok (.iload_n 1, 1) := by decide +kernel
theorem dX12_roundAt_36 : decode cX12_roundAt 36 = .ok (.iconst (-1), 1) := by decide +kernel
theorem dX12_roundAt_37 : decode cX12_roundAt 37 = .ok (.iload_n 2, 1) := by decide +kernel
theorem dX12_roundAt_38 : decode cX12_roundAt 38 = .ok (.invokevirtual 460, 3) := by decide +kernel
theorem dX12_roundAt_41 : decode cX12_roundAt 41 = .ok (.pop, 1) := by decide +kernel
theorem dX12_roundAt_42 : decode cX12_roundAt 42 = .ok (.aload_n 0, 1) := by decide +kernel
theorem dX12_roundAt_43 : decode cX12_roundAt 43 = .ok (.getfield 450, 3) := by decide +kernel
theorem dX12_roundAt_46 : decode cX12_roundAt 46 = .ok (.ireturn, 1) := by decide +kernel
theorem dX12_listen_0 : decode cX12_listen 0 = .ok (.aload_n 0, 1) := by decide +kernel
theorem dX12_listen_1 : decode cX12_listen 1 = .ok (.aload_n 0, 1) := by decide +kernel
theorem dX12_listen_2 : decode cX12_listen 2 = .ok (.iload_n 1, 1) := by decide +kernel
theorem dX12_listen_3 : decode cX12_listen 3 = .ok (.invokevirtual 457, 3) := by decide +kernel
theorem dX12_listen_6 : decode cX12_listen 6 = .ok (.putfield 58, 3) := by decide +kernel
theorem dX12_listen_9 : decode cX12_listen 9 = .ok (.aload_n 0, 1) := by decide +kernel
theorem dX12_listen_10 : decode cX12_listen 10 = .ok (.getfield 58, 3) := by decide +kernel
theorem dX12_listen_13 : decode cX12_listen 13 = .ok (.ifCond .le 5, 3) := by decide +kernel
theorem dX12_listen_16 : decode cX12_listen 16 = .ok (.iconst 0, 1) := by decide +kernel
theorem dX12_listen_17 : decode cX12_listen 17 = .ok (.ireturn, 1) := by decide +kernel
theorem dX12_listen_18 : decode cX12_listen 18 = .ok (.aload_n 0, 1) := by decide +kernel
theorem dX12_listen_19 : decode cX12_listen 19 = .ok (.iload_n 1, 1) := by decide +kernel
theorem dX12_listen_20 : decode cX12_listen 20 = .ok (.iconst (-1), 1) := by decide +kernel
theorem dX12_listen_21 : decode cX12_listen 21 = .ok (.iconst (-1), 1) := by decide +kernel
theorem dX12_listen_22 : decode cX12_listen 22 = .ok (.invokevirtual 460, 3) := by decide +kernel
theorem dX12_listen_25 : decode cX12_listen 25 = .ok (.istore_n 2, 1) := by decide +kernel
theorem dX12_listen_26 : decode cX12_listen 26 = .ok (.iload_n 2, 1) := by decide +kernel
theorem dX12_listen_27 : decode cX12_listen 27 = .ok (.ifCond .ne 5, 3) := by decide +kernel
theorem dX12_listen_30 : decode cX12_listen 30 = .ok (.iconst (-1), 1) := by decide +kernel
theorem dX12_listen_31 : decode cX12_listen 31 = .ok (.ireturn, 1) := by decide +kernel
theorem dX12_listen_32 : decode cX12_listen 32 = .ok (.iconst (-1), 1) := by decide +kernel
theorem dX12_listen_33 : decode cX12_listen 33 = .ok (.istore_n 3, 1) := by decide +kernel
theorem dX12_listen_34 : decode cX12_listen 34 = .ok (.iconst (-1), 1) := by decide +kernel
theorem dX12_listen_35 : decode cX12_listen 35 = .ok (.istore 4, 2) := by decide +kernel
theorem dX12_listen_37 : decode cX12_listen 37 = .ok (.iconst 0, 1) := by decide +kernel
theorem dX12_listen_38 : decode cX12_listen 38 = .ok (.istore 5, 2) := by decide +kernel
theorem dX12_listen_40 : decode cX12_listen 40 = .ok (.iload 5, 2) := by decide +kernel
theorem dX12_listen_42 : decode cX12_listen 42 = .ok (.bipush 24, 2) := by decide +kernel
theorem dX12_listen_44 : decode cX12_listen 44 = .ok (.if_icmp .ge 56, 3) := by decide +kernel
theorem dX12_listen_47 : decode cX12_listen 47 = .ok (.aload_n 0, 1) := by decide +kernel
theorem dX12_listen_48 : decode cX12_listen 48 = .ok (.iload_n 1, 1) := by decide +kernel
theorem dX12_listen_49 : decode cX12_listen 49 = .ok (.aload_n 0, 1) := by decide +kernel
theorem dX12_listen_50 : decode cX12_listen 50 = .ok (.getfield 52, 3) := by decide +kernel
theorem dX12_listen_53 : decode cX12_listen 53 = .ok (.iload_n 1, 1) := by decide +kernel
theorem dX12_listen_54 : decode cX12_listen 54 = .ok (.iaload, 1) := by decide +kernel
theorem dX12_listen_55 : decode cX12_listen 55 = .ok (.iload 5, 2) := by decide +kernel
theorem dX12_listen_57 : decode cX12_listen 57 = .ok (.iadd, 1) := by decide +kernel
theorem dX12_listen_58 : decode cX12_listen 58 = .ok (.iconst (-1), 1) := by decide +kernel
theorem dX12_listen_59 : decode cX12_listen 59 = .ok (.invokevirtual 460, 3) := by decide +kernel
theorem dX12_listen_62 : decode cX12_listen 62 = .ok (.istore 6, 2) := by decide +kernel
theorem dX12_listen_64 : decode cX12_listen 64 = .ok (.iload 6, 2) := by decide +kernel
theorem dX12_listen_66 : decode cX12_listen 66 = .ok (.iload_n 2, 1) := by decide +kernel
theorem dX12_listen_67 : decode cX12_listen 67 = .ok (.iload 6, 2) := by decide +kernel
theorem dX12_listen_69 : decode cX12_listen 69 = .ok (.isub, 1) := by decide +kernel
theorem dX12_listen_70 : decode cX12_listen 70 = .ok (.invokestatic 297, 3) := by decide +kernel
theorem dX12_listen_73 : decode cX12_listen 73 = .ok (.istore 7, 2) := by decide +kernel
theorem dX12_listen_75 : decode cX12_listen 75 = .ok (.iload 7, 2) := by decide +kernel
theorem dX12_listen_77 : decode cX12_listen 77 = .ok (.iload 4, 2) := by decide +kernel
theorem dX12_listen_79 : decode cX12_listen 79 = .ok (.if_icmp .gt 6, 3) := by decide +kernel
theorem dX12_listen_82 : decode cX12_listen 82 = .ok (.goto 12, 3) := by decide +kernel
theorem dX12_listen_85 : decode cX12_listen 85 = .ok (.iload 5, 2) := by decide +kernel
theorem dX12_listen_87 : decode cX12_listen 87 = .ok (.iconst 1, 1) := by decide +kernel
theorem dX12_listen_88 : decode cX12_listen 88 = .ok (.iadd, 1) := by decide +kernel
theorem dX12_listen_89 : decode cX12_listen 89 = .ok (.istore_n 3, 1) := by decide +kernel
theorem dX12_listen_90 : decode cX12_listen 90 = .ok (.iload 7, 2) := by decide +kernel
theorem dX12_listen_92 : decode cX12_listen 92 = .ok (.istore 4, 2) := by decide +kernel
theorem dX12_listen_94 : decode cX12_listen 94 = .ok (.iinc 5 1, 3) := by decide +kernel
theorem dX12_listen_97 : decode cX12_listen 97 = .ok (.goto (-57), 3) := by decide +kernel
theorem dX12_listen_100 : decode cX12_listen 100 = .ok (.iload_n 3, 1) := by decide +kernel
theorem dX12_listen_101 : decode cX12_listen 101 = .ok (.ireturn, 1) := by decide +kernel
theorem dX12_whose_0 : decode cX12_whose 0 = .ok (.aload_n 0, 1) := by decide +kernel
theorem dX12_whose_1 : decode cX12_whose 1 = .ok (.aload_n 0, 1) := by decide +kernel
theorem dX12_whose_2 : decode cX12_whose 2 = .ok (.iload_n 1, 1) := by decide +kernel
theorem dX12_whose_3 : decode cX12_whose 3 = .ok (.invokevirtual 457, 3) := by decide +kernel
theorem dX12_whose_6 : decode cX12_whose 6 = .ok (.putfield 58, 3) := by decide +kernel
theorem dX12_whose_9 : decode cX12_whose 9 = .ok (.aload_n 0, 1) := by decide +kernel
theorem dX12_whose_10 : decode cX12_whose 10 = .ok (.getfield 58, 3) := by decide +kernel
theorem dX12_whose_13 : decode cX12_whose 13 = .ok (.ifCond .le 5, 3) := by decide +kernel
theorem dX12_whose_16 : decode cX12_whose 16 = .ok (.iconst 0, 1) := by decide +kernel
theorem dX12_whose_17 : decode cX12_whose 17 = .ok (.ireturn, 1) := by decide +kernel
theorem dX12_whose_18 : decode cX12_whose 18 = .ok (.iconst 0, 1) := by decide +kernel
theorem dX12_whose_19 : decode cX12_whose 19 = .ok (.istore_n 2, 1) := by decide +kernel
theorem dX12_whose_20 : decode cX12_whose 20 = .ok (.iconst 0, 1) := by decide +kernel
theorem dX12_whose_21 : decode cX12_whose 21 = .ok (.istore_n 3, 1) := by decide +kernel
theorem dX12_whose_22 : decode cX12_whose 22 = .ok (.iload_n 3, 1) := by decide +kernel
theorem dX12_whose_23 : decode cX12_whose 23 = .ok (.aload_n 0, 1) := by decide +kernel
theorem dX12_whose_24 : decode cX12_whose 24 = .ok (.invokevirtual 239, 3) := by decide +kernel
theorem dX12_whose_27 : decode cX12_whose 27 = .ok (.if_icmp .ge 51, 3) := by decide +kernel
theorem dX12_whose_30 : decode cX12_whose 30 = .ok (.iload_n 2, 1) := by decide +kernel
theorem dX12_whose_31 : decode cX12_whose 31 = .ok (.aload_n 0, 1) := by decide +kernel
theorem dX12_whose_32 : decode cX12_whose 32 = .ok (.iload_n 1, 1) := by decide +kernel
theorem dX12_whose_33 : decode cX12_whose 33 = .ok (.aload_n 0, 1) := by decide +kernel
theorem dX12_whose_34 : decode cX12_whose 34 = .ok (.getfield 9, 3) := by decide +kernel
theorem dX12_whose_37 : decode cX12_whose 37 = .ok (.bipush 27, 2) := by decide +kernel
theorem dX12_whose_39 : decode cX12_whose 39 = .ok (.iload_n 3, 1) := by decide +kernel
theorem dX12_whose_40 : decode cX12_whose 40 = .ok (.iadd, 1) := by decide +kernel
theorem dX12_whose_41 : decode cX12_whose 41 = .ok (.iaload, 1) := by decide +kernel
theorem dX12_whose_42 : decode cX12_whose 42 = .ok (.aload_n 0, 1) := by decide +kernel
theorem dX12_whose_43 : decode cX12_whose 43 = .ok (.getfield 9, 3) := by decide +kernel
theorem dX12_whose_46 : decode cX12_whose 46 = .ok (.bipush 37, 2) := by decide +kernel
theorem dX12_whose_48 : decode cX12_whose 48 = .ok (.iload_n 3, 1) := by decide +kernel
theorem dX12_whose_49 : decode cX12_whose 49 = .ok (.iadd, 1) := by decide +kernel
theorem dX12_whose_50 : decode cX12_whose 50 = .ok (.iaload, 1) := by decide +kernel
theorem dX12_whose_51 : decode cX12_whose 51 = .ok (.aload_n 0, 1) := by decide +kernel
theorem dX12_whose_52 : decode cX12_whose 52 = .ok (.iload_n 3, 1) := by decide +kernel
theorem dX12_whose_53 : decode cX12_whose 53 = .ok (.iconst 0, 1) := by decide +kernel
theorem dX12_whose_54 : decode cX12_whose 54 = .ok (.invokevirtual 242, 3) := by decide +kernel
theorem dX12_whose_57 : decode cX12_whose 57 = .ok (.invokevirtual 453, 3) := by decide +kernel
theorem dX12_whose_60 : decode cX12_whose 60 = .ok (.ifCond .eq 9, 3) := by decide +kernel
theorem dX12_whose_63 : decode cX12_whose 63 = .ok (.iconst 1, 1) := by decide +kernel
theorem dX12_whose_64 : decode cX12_whose 64 = .ok (.iload_n 3, 1) := by decide +kernel
theorem dX12_whose_65 : decode cX12_whose 65 = .ok (.ishl, 1) := by decide +kernel
theorem dX12_whose_66 : decode cX12_whose 66 = .ok (.goto 4, 3) := by decide +kernel
theorem dX12_whose_69 : decode cX12_whose 69 = .ok (.iconst 0, 1) := by decide +kernel
theorem dX12_whose_70 : decode cX12_whose 70 = .ok (.ior, 1) := by decide +kernel
theorem dX12_whose_71 : decode cX12_whose 71 = .ok (.istore_n 2, 1) := by decide +kernel
theorem dX12_whose_72 : decode cX12_whose 72 = .ok (.iinc 3 1, 3) := by decide +kernel
theorem dX12_whose_75 : decode cX12_whose 75 = .ok (.goto (-53), 3) := by decide +kernel
theorem dX12_whose_78 : decode cX12_whose 78 = .ok (.iload_n 2, 1) := by decide +kernel
theorem dX12_whose_79 : decode cX12_whose 79 = .ok (.ireturn, 1) := by decide +kernel
theorem dX12_isTray_0 : decode cX12_isTray 0 = .ok (.iload_n 0, 1) := by decide +kernel
theorem dX12_isTray_1 : decode cX12_isTray 1 = .ok (.i2l, 1) := by decide +kernel
theorem dX12_isTray_2 : decode cX12_isTray 2 = .ok (.lconst 0, 1) := by decide +kernel
theorem dX12_isTray_3 : decode cX12_isTray 3 = .ok (.ldc2_w 373, 3) := by decide +kernel
theorem dX12_isTray_6 : decode cX12_isTray 6 = .ok (.invokestatic 119, 3) := by decide +kernel
theorem dX12_isTray_9 : decode cX12_isTray 9 = .ok (.ireturn, 1) := by decide +kernel
theorem dX12_tray_0 : decode cX12_tray 0 = .ok (.aload_n 0, 1) := by decide +kernel
theorem dX12_tray_1 : decode cX12_tray 1 = .ok (.iload_n 1, 1) := by decide +kernel
theorem dX12_tray_2 : decode cX12_tray 2 = .ok (.invokestatic 351, 3) := by decide +kernel
theorem dX12_tray_5 : decode cX12_tray 5 = .ok (.ifCond .ne 7, 3) := by decide +kernel
theorem dX12_tray_8 : decode cX12_tray 8 = .ok (.iconst 1, 1) := by decide +kernel
theorem dX12_tray_9 : decode cX12_tray 9 = .ok (.goto 32, 3) := by decide +kernel
theorem dX12_tray_12 : decode cX12_tray 12 = .ok (.iload_n 2, 1) := by decide +kernel
theorem dX12_tray_13 : decode cX12_tray 13 = .ok (.i2l, 1) := by decide +kernel
theorem dX12_tray_14 : decode cX12_tray 14 = .ok (.lconst 0, 1) := by decide +kernel
theorem dX12_tray_15 : decode cX12_tray 15 = .ok (.ldc2_w 373, 3) := by decide +kernel
theorem dX12_tray_18 : decode cX12_tray 18 = .ok (.invokestatic 119, 3) := by decide +kernel
theorem dX12_tray_21 : decode cX12_tray 21 = .ok (.ifCond .eq 15, 3) := by decide +kernel
theorem dX12_tray_24 : decode cX12_tray 24 = .ok (.iload_n 3, 1) := by decide +kernel
theorem dX12_tray_25 : decode cX12_tray 25 = .ok (.i2l, 1) := by decide +kernel
theorem dX12_tray_26 : decode cX12_tray 26 = .ok (.lconst 0, 1) := by decide +kernel
theorem dX12_tray_27 : decode cX12_tray 27 = .ok (.ldc2_w 391, 3) := by decide +kernel
theorem dX12_tray_30 : decode cX12_tray 30 = .ok (.invokestatic 119, 3) := by decide +kernel
theorem dX12_tray_33 : decode cX12_tray 33 = .ok (.ifCond .ne 7, 3) := by decide +kernel
theorem dX12_tray_36 : decode cX12_tray 36 = .ok (.iconst 2, 1) := by decide +kernel
theorem dX12_tray_37 : decode cX12_tray 37 = .ok (.goto 4, 3) := by decide +kernel
theorem dX12_tray_40 : decode cX12_tray 40 = .ok (.iconst 0, 1) := by decide +kernel
theorem dX12_tray_41 : decode cX12_tray 41 = .ok (.putfield 58, 3) := by decide +kernel
theorem dX12_tray_44 : decode cX12_tray 44 = .ok (.aload_n 0, 1) := by decide +kernel
theorem dX12_tray_45 : decode cX12_tray 45 = .ok (.getfield 58, 3) := by decide +kernel
theorem dX12_tray_48 : decode cX12_tray 48 = .ok (.ifCond .le 4, 3) := by decide +kernel
theorem dX12_tray_51 : decode cX12_tray 51 = .ok (.return_, 1) := by decide +kernel
theorem dX12_tray_52 : decode cX12_tray 52 = .ok (.aload_n 0, 1) := by decide +kernel
theorem dX12_tray_53 : decode cX12_tray 53 = .ok (.getfield 49, 3) := by decide +kernel
theorem dX12_tray_56 : decode cX12_tray 56 = .ok (.iload_n 1, 1) := by decide +kernel
theorem dX12_tray_57 : decode cX12_tray 57 = .ok (.iload_n 2, 1) := by decide +kernel
theorem dX12_tray_58 : decode cX12_tray 58 = .ok (.iastore, 1) := by decide +kernel
theorem dX12_tray_59 : decode cX12_tray 59 = .ok (.aload_n 0, 1) := by decide +kernel
theorem dX12_tray_60 : decode cX12_tray 60 = .ok (.getfield 52, 3) := by decide +kernel
theorem dX12_tray_63 : decode cX12_tray 63 = .ok (.iload_n 1, 1) := by decide +kernel
theorem dX12_tray_64 : decode cX12_tray 64 = .ok (.iload_n 3, 1) := by decide +kernel
theorem dX12_tray_65 : decode cX12_tray 65 = .ok (.iastore, 1) := by decide +kernel
theorem dX12_tray_66 : decode cX12_tray 66 = .ok (.iconst 0, 1) := by decide +kernel
theorem dX12_tray_67 : decode cX12_tray 67 = .ok (.istore 4, 2) := by decide +kernel
theorem dX12_tray_69 : decode cX12_tray 69 = .ok (.iload 4, 2) := by decide +kernel
theorem dX12_tray_71 : decode cX12_tray 71 = .ok (.bipush 30, 2) := by decide +kernel
theorem dX12_tray_73 : decode cX12_tray 73 = .ok (.if_icmp .ge 22, 3) := by decide +kernel
theorem dX12_tray_76 : decode cX12_tray 76 = .ok (.aload_n 0, 1) := by decide +kernel
theorem dX12_tray_77 : decode cX12_tray 77 = .ok (.getfield 55, 3) := by decide +kernel
theorem dX12_tray_80 : decode cX12_tray 80 = .ok (.bipush 30, 2) := by decide +kernel
theorem dX12_tray_82 : decode cX12_tray 82 = .ok (.iload_n 1, 1) := by decide +kernel
theorem dX12_tray_83 : decode cX12_tray 83 = .ok (.imul, 1) := by decide +kernel
theorem dX12_tray_84 : decode cX12_tray 84 = .ok (.iload 4, 2) := by decide +kernel
theorem dX12_tray_86 : decode cX12_tray 86 = .ok (.iadd, 1) := by decide +kernel
theorem dX12_tray_87 : decode cX12_tray 87 = .ok (.lconst 0, 1) := by decide +kernel
theorem dX12_tray_88 : decode cX12_tray 88 = .ok (.lastore, 1) := by decide +kernel
theorem dX12_tray_89 : decode cX12_tray 89 = .ok (.iinc 4 1, 3) := by decide +kernel
theorem dX12_tray_92 : decode cX12_tray 92 = .ok (.goto (-23), 3) := by decide +kernel
theorem dX12_tray_95 : decode cX12_tray 95 = .ok (.return_, 1) := by decide +kernel
theorem dX12_cut_0 : decode cX12_cut 0 = .ok (.bipush 64, 2) := by decide +kernel
theorem dX12_cut_2 : decode cX12_cut 2 = .ok (.bipush 8, 2) := by decide +kernel
theorem dX12_cut_4 : decode cX12_cut 4 = .ok (.aload_n 0, 1) := by decide +kernel
theorem dX12_cut_5 : decode cX12_cut 5 = .ok (.getfield 49, 3) := by decide +kernel
theorem dX12_cut_8 : decode cX12_cut 8 = .ok (.iload_n 1, 1) := by decide +kernel
theorem dX12_cut_9 : decode cX12_cut 9 = .ok (.iaload, 1) := by decide +kernel
theorem dX12_cut_10 : decode cX12_cut 10 = .ok (.ishl, 1) := by decide +kernel
theorem dX12_cut_11 : decode cX12_cut 11 = .ok (.isub, 1) := by decide +kernel
theorem dX12_cut_12 : decode cX12_cut 12 = .ok (.istore 5, 2) := by decide +kernel
theorem dX12_cut_14 : decode cX12_cut 14 = .ok (.aload_n 0, 1) := by decide +kernel
theorem dX12_cut_15 : decode cX12_cut 15 = .ok (.getfield 55, 3) := by decide +kernel
theorem dX12_cut_18 : decode cX12_cut 18 = .ok (.bipush 30, 2) := by decide +kernel
theorem dX12_cut_20 : decode cX12_cut 20 = .ok (.iload_n 1, 1) := by decide +kernel
theorem dX12_cut_21 : decode cX12_cut 21 = .ok (.imul, 1) := by decide +kernel
theorem dX12_cut_22 : decode cX12_cut 22 = .ok (.iload_n 2, 1) := by decide +kernel
theorem dX12_cut_23 : decode cX12_cut 23 = .ok (.iadd, 1) := by decide +kernel
theorem dX12_cut_24 : decode cX12_cut 24 = .ok (.lload_n 3, 1) := by decide +kernel
theorem dX12_cut_25 : decode cX12_cut 25 = .ok (.iload 5, 2) := by decide +kernel
theorem dX12_cut_27 : decode cX12_cut 27 = .ok (.lshl, 1) := by decide +kernel
theorem dX12_cut_28 : decode cX12_cut 28 = .ok (.iload 5, 2) := by decide +kernel
theorem dX12_cut_30 : decode cX12_cut 30 = .ok (.lshr, 1) := by decide +kernel
theorem dX12_cut_31 : decode cX12_cut 31 = .ok (.lastore, 1) := by decide +kernel
theorem dX12_cut_32 : decode cX12_cut 32 = .ok (.aload_n 0, 1) := by decide +kernel
theorem dX12_cut_33 : decode cX12_cut 33 = .ok (.getfield 55, 3) := by decide +kernel
theorem dX12_cut_36 : decode cX12_cut 36 = .ok (.bipush 30, 2) := by decide +kernel
theorem dX12_cut_38 : decode cX12_cut 38 = .ok (.iload_n 1, 1) := by decide +kernel
theorem dX12_cut_39 : decode cX12_cut 39 = .ok (.imul, 1) := by decide +kernel
theorem dX12_cut_40 : decode cX12_cut 40 = .ok (.iload_n 2, 1) := by decide +kernel
theorem dX12_cut_41 : decode cX12_cut 41 = .ok (.iadd, 1) := by decide +kernel
theorem dX12_cut_42 : decode cX12_cut 42 = .ok (.laload, 1) := by decide +kernel
theorem dX12_cut_43 : decode cX12_cut 43 = .ok (.lreturn, 1) := by decide +kernel
theorem dX12_write_0 : decode cX12_write 0 = .ok (.aload_n 0, 1) := by decide +kernel
theorem dX12_write_1 : decode cX12_write 1 = .ok (.aload_n 0, 1) := by decide +kernel
theorem dX12_write_2 : decode cX12_write 2 = .ok (.iload_n 1, 1) := by decide +kernel
theorem dX12_write_3 : decode cX12_write 3 = .ok (.invokevirtual 370, 3) := by decide +kernel
theorem dX12_write_6 : decode cX12_write 6 = .ok (.putfield 58, 3) := by decide +kernel
theorem dX12_write_9 : decode cX12_write 9 = .ok (.aload_n 0, 1) := by decide +kernel
theorem dX12_write_10 : decode cX12_write 10 = .ok (.getfield 58, 3) := by decide +kernel
theorem dX12_write_13 : decode cX12_write 13 = .ok (.ifCond .le 5, 3) := by decide +kernel
theorem dX12_write_16 : decode cX12_write 16 = .ok (.lconst 0, 1) := by decide +kernel
theorem dX12_write_17 : decode cX12_write 17 = .ok (.lreturn, 1) := by decide +kernel
theorem dX12_write_18 : decode cX12_write 18 = .ok (.iload_n 2, 1) := by decide +kernel
theorem dX12_write_19 : decode cX12_write 19 = .ok (.i2l, 1) := by decide +kernel
theorem dX12_write_20 : decode cX12_write 20 = .ok (.lconst 0, 1) := by decide +kernel
theorem dX12_write_21 : decode cX12_write 21 = .ok (.aload_n 0, 1) := by decide +kernel
theorem dX12_write_22 : decode cX12_write 22 = .ok (.getfield 52, 3) := by decide +kernel
theorem dX12_write_25 : decode cX12_write 25 = .ok (.iload_n 1, 1) := by decide +kernel
theorem dX12_write_26 : decode cX12_write 26 = .ok (.iaload, 1) := by decide +kernel
theorem dX12_write_27 : decode cX12_write 27 = .ok (.iconst 1, 1) := by decide +kernel
theorem dX12_write_28 : decode cX12_write 28 = .ok (.isub, 1) := by decide +kernel
theorem dX12_write_29 : decode cX12_write 29 = .ok (.i2l, 1) := by decide +kernel
theorem dX12_write_30 : decode cX12_write 30 = .ok (.invokestatic 119, 3) := by decide +kernel
theorem dX12_write_33 : decode cX12_write 33 = .ok (.ifCond .eq 13, 3) := by decide +kernel
theorem dX12_write_36 : decode cX12_write 36 = .ok (.aload_n 0, 1) := by decide +kernel
theorem dX12_write_37 : decode cX12_write 37 = .ok (.iload_n 1, 1) := by decide +kernel
theorem dX12_write_38 : decode cX12_write 38 = .ok (.iload_n 2, 1) := by decide +kernel
theorem dX12_write_39 : decode cX12_write 39 = .ok (.lload_n 3, 1) := by decide +kernel
theorem dX12_write_40 : decode cX12_write 40 = .ok (.invokevirtual 463, 3) := by decide +kernel
theorem dX12_write_43 : decode cX12_write 43 = .ok (.goto 9, 3) := by decide +kernel
theorem dX12_write_46 : decode cX12_write 46 = .ok (.aload_n 0, 1) := by decide +kernel
theorem dX12_write_47 : decode cX12_write 47 = .ok (.iconst 3, 1) := by decide +kernel
theorem dX12_write_48 : decode cX12_write 48 = .ok (.invokevirtual 230, 3) := by decide +kernel
theorem dX12_write_51 : decode cX12_write 51 = .ok (.i2l, 1) := by decide +kernel
theorem dX12_write_52 : decode cX12_write 52 = .ok (.lreturn, 1) := by decide +kernel
theorem dX12_copy_0 : decode cX12_copy 0 = .ok (.aload_n 0, 1) := by decide +kernel
theorem dX12_copy_1 : decode cX12_copy 1 = .ok (.iload_n 1, 1) := by decide +kernel
theorem dX12_copy_2 : decode cX12_copy 2 = .ok (.invokestatic 351, 3) := by decide +kernel
theorem dX12_copy_5 : decode cX12_copy 5 = .ok (.ifCond .eq 12, 3) := by decide +kernel
theorem dX12_copy_8 : decode cX12_copy 8 = .ok (.aload_n 0, 1) := by decide +kernel
theorem dX12_copy_9 : decode cX12_copy 9 = .ok (.iload_n 2, 1) := by decide +kernel
theorem dX12_copy_10 : decode cX12_copy 10 = .ok (.i2l, 1) := by decide +kernel
theorem dX12_copy_11 : decode cX12_copy 11 = .ok (.invokevirtual 302, 3) := by decide +kernel
theorem dX12_copy_14 : decode cX12_copy 14 = .ok (.ifCond .ne 7, 3) := by decide +kernel
theorem dX12_copy_17 : decode cX12_copy 17 = .ok (.iconst 1, 1) := by decide +kernel
theorem dX12_copy_18 : decode cX12_copy 18 = .ok (.goto 18, 3) := by decide +kernel
theorem dX12_copy_21 : decode cX12_copy 21 = .ok (.aload_n 0, 1) := by decide +kernel
theorem dX12_copy_22 : decode cX12_copy 22 = .ok (.getfield 49, 3) := by decide +kernel
theorem dX12_copy_25 : decode cX12_copy 25 = .ok (.iload_n 1, 1) := by decide +kernel
theorem dX12_copy_26 : decode cX12_copy 26 = .ok (.iaload, 1) := by decide +kernel
theorem dX12_copy_27 : decode cX12_copy 27 = .ok (.iconst (-1), 1) := by decide +kernel
theorem dX12_copy_28 : decode cX12_copy 28 = .ok (.if_icmp .ne 7, 3) := by decide +kernel
theorem dX12_copy_31 : decode cX12_copy 31 = .ok (.iconst 2, 1) := by decide +kernel
theorem dX12_copy_32 : decode cX12_copy 32 = .ok (.goto 4, 3) := by decide +kernel
theorem dX12_copy_35 : decode cX12_copy 35 = .ok (.iconst 0, 1) := by decide +kernel
theorem dX12_copy_36 : decode cX12_copy 36 = .ok (.putfield 58, 3) := by decide +kernel
theorem dX12_copy_39 : decode cX12_copy 39 = .ok (.aload_n 0, 1) := by decide +kernel
theorem dX12_copy_40 : decode cX12_copy 40 = .ok (.getfield 58, 3) := by decide +kernel
theorem dX12_copy_43 : decode cX12_copy 43 = .ok (.ifCond .le 5, 3) := by decide +kernel
theorem dX12_copy_46 : decode cX12_copy 46 = .ok (.iconst 0, 1) := by decide +kernel
theorem dX12_copy_47 : decode cX12_copy 47 = .ok (.ireturn, 1) := by decide +kernel
theorem dX12_copy_48 : decode cX12_copy 48 = .ok (.iconst 0, 1) := by decide +kernel
theorem dX12_copy_49 : decode cX12_copy 49 = .ok (.istore_n 3, 1) := by decide +kernel
theorem dX12_copy_50 : decode cX12_copy 50 = .ok (.iload_n 3, 1) := by decide +kernel
theorem dX12_copy_51 : decode cX12_copy 51 = .ok (.aload_n 0, 1) := by decide +kernel
theorem dX12_copy_52 : decode cX12_copy 52 = .ok (.getfield 52, 3) := by decide +kernel
theorem dX12_copy_55 : decode cX12_copy 55 = .ok (.iload_n 1, 1) := by decide +kernel
theorem dX12_copy_56 : decode cX12_copy 56 = .ok (.iaload, 1) := by decide +kernel
theorem dX12_copy_57 : decode cX12_copy 57 = .ok (.if_icmp .ge 30, 3) := by decide +kernel
theorem dX12_copy_60 : decode cX12_copy 60 = .ok (.aload_n 0, 1) := by decide +kernel
theorem dX12_copy_61 : decode cX12_copy 61 = .ok (.iload_n 1, 1) := by decide +kernel
theorem dX12_copy_62 : decode cX12_copy 62 = .ok (.iload_n 3, 1) := by decide +kernel
theorem dX12_copy_63 : decode cX12_copy 63 = .ok (.aload_n 0, 1) := by decide +kernel
theorem dX12_copy_64 : decode cX12_copy 64 = .ok (.iload_n 2, 1) := by decide +kernel
theorem dX12_copy_65 : decode cX12_copy 65 = .ok (.iload_n 3, 1) := by decide +kernel
theorem dX12_copy_66 : decode cX12_copy 66 = .ok (.invokevirtual 245, 3) := by decide +kernel
theorem dX12_copy_69 : decode cX12_copy 69 = .ok (.ifCond .eq 7, 3) := by decide +kernel
theorem dX12_copy_72 : decode cX12_copy 72 = .ok (.lconst 1, 1) := by decide +kernel
theorem dX12_copy_73 : decode cX12_copy 73 = .ok (.goto 4, 3) := by decide +kernel
theorem dX12_copy_76 : decode cX12_copy 76 = .ok (.lconst 0, 1) := by decide +kernel
theorem dX12_copy_77 : decode cX12_copy 77 = .ok (.invokevirtual 463, 3) := by decide +kernel
theorem dX12_copy_80 : decode cX12_copy 80 = .ok (.pop2, 1) := by decide +kernel
theorem dX12_copy_81 : decode cX12_copy 81 = .ok (.iinc 3 1, 3) := by decide +kernel
theorem dX12_copy_84 : decode cX12_copy 84 = .ok (.goto (-34), 3) := by decide +kernel
theorem dX12_copy_87 : decode cX12_copy 87 = .ok (.aload_n 0, 1) := by decide +kernel
theorem dX12_copy_88 : decode cX12_copy 88 = .ok (.getfield 52, 3) := by decide +kernel
theorem dX12_copy_91 : decode cX12_copy 91 = .ok (.iload_n 1, 1) := by decide +kernel
theorem dX12_copy_92 : decode cX12_copy 92 = .ok (.iaload, 1) := by decide +kernel
theorem dX12_copy_93 : decode cX12_copy 93 = .ok (.ireturn, 1) := by decide +kernel
theorem dX12_image_0 : decode cX12_image 0 = .ok (.aload_n 0, 1) := by decide +kernel
theorem dX12_image_1 : decode cX12_image 1 = .ok (.iload_n 1, 1) := by decide +kernel
theorem dX12_image_2 : decode cX12_image 2 = .ok (.i2l, 1) := by decide +kernel
theorem dX12_image_3 : decode cX12_image 3 = .ok (.lconst 0, 1) := by decide +kernel
theorem dX12_image_4 : decode cX12_image 4 = .ok (.ldc2_w 467, 3) := by decide +kernel
theorem dX12_image_7 : decode cX12_image 7 = .ok (.invokestatic 119, 3) := by decide +kernel
theorem dX12_image_10 : decode cX12_image 10 = .ok (.ifCond .eq 7, 3) := by decide +kernel
theorem dX12_image_13 : decode cX12_image 13 = .ok (.iconst 0, 1) := by decide +kernel
theorem dX12_image_14 : decode cX12_image 14 = .ok (.goto 4, 3) := by decide +kernel
theorem dX12_image_17 : decode cX12_image 17 = .ok (.iconst 1, 1) := by decide +kernel
theorem dX12_image_18 : decode cX12_image 18 = .ok (.putfield 58, 3) := by decide +kernel
theorem dX12_image_21 : decode cX12_image 21 = .ok (.aload_n 0, 1) := by decide +kernel
theorem dX12_image_22 : decode cX12_image 22 = .ok (.getfield 58, 3) := by decide +kernel
theorem dX12_image_25 : decode cX12_image 25 = .ok (.ifCond .le 4, 3) := by decide +kernel
theorem dX12_image_28 : decode cX12_image 28 = .ok (.return_, 1) := by decide +kernel
theorem dX12_image_29 : decode cX12_image 29 = .ok (.aload_n 0, 1) := by decide +kernel
theorem dX12_image_30 : decode cX12_image 30 = .ok (.getfield 19, 3) := by decide +kernel
theorem dX12_image_33 : decode cX12_image 33 = .ok (.iload_n 1, 1) := by decide +kernel
theorem dX12_image_34 : decode cX12_image 34 = .ok (.iconst 1, 1) := by decide +kernel
theorem dX12_image_35 : decode cX12_image 35 = .ok (.bastore, 1) := by decide +kernel
theorem dX12_image_36 : decode cX12_image 36 = .ok (.iconst 0, 1) := by decide +kernel
theorem dX12_image_37 : decode cX12_image 37 = .ok (.istore_n 2, 1) := by decide +kernel
theorem dX12_image_38 : decode cX12_image 38 = .ok (.iload_n 2, 1) := by decide +kernel
theorem dX12_image_39 : decode cX12_image 39 = .ok (.sipush 1215, 3) := by decide +kernel
theorem dX12_image_42 : decode cX12_image 42 = .ok (.if_icmp .ge 27, 3) := by decide +kernel
theorem dX12_image_45 : decode cX12_image 45 = .ok (.aload_n 0, 1) := by decide +kernel
theorem dX12_image_46 : decode cX12_image 46 = .ok (.getfield 16, 3) := by decide +kernel
theorem dX12_image_49 : decode cX12_image 49 = .ok (.sipush 1215, 3) := by decide +kernel
theorem dX12_image_52 : decode cX12_image 52 = .ok (.iload_n 1, 1) := by decide +kernel
theorem dX12_image_53 : decode cX12_image 53 = .ok (.imul, 1) := by decide +kernel
theorem dX12_image_54 : decode cX12_image 54 = .ok (.iload_n 2, 1) := by decide +kernel
theorem dX12_image_55 : decode cX12_image 55 = .ok (.iadd, 1) := by decide +kernel
theorem dX12_image_56 : decode cX12_image 56 = .ok (.aload_n 0, 1) := by decide +kernel
theorem dX12_image_57 : decode cX12_image 57 = .ok (.getfield 9, 3) := by decide +kernel
theorem dX12_image_60 : decode cX12_image 60 = .ok (.iload_n 2, 1) := by decide +kernel
theorem dX12_image_61 : decode cX12_image 61 = .ok (.iaload, 1) := by decide +kernel
theorem dX12_image_62 : decode cX12_image 62 = .ok (.iastore, 1) := by decide +kernel
theorem dX12_image_63 : decode cX12_image 63 = .ok (.iinc 2 1, 3) := by decide +kernel
theorem dX12_image_66 : decode cX12_image 66 = .ok (.goto (-28), 3) := by decide +kernel
theorem dX12_image_69 : decode cX12_image 69 = .ok (.return_, 1) := by decide +kernel
theorem dX12_restore_0 : decode cX12_restore 0 = .ok (.aload_n 0, 1) := by decide +kernel
theorem dX12_restore_1 : decode cX12_restore 1 = .ok (.iload_n 1, 1) := by decide +kernel
theorem dX12_restore_2 : decode cX12_restore 2 = .ok (.i2l, 1) := by decide +kernel
theorem dX12_restore_3 : decode cX12_restore 3 = .ok (.lconst 0, 1) := by decide +kernel
theorem dX12_restore_4 : decode cX12_restore 4 = .ok (.ldc2_w 467, 3) := by decide +kernel
theorem dX12_restore_7 : decode cX12_restore 7 = .ok (.invokestatic 119, 3) := by decide +kernel
theorem dX12_restore_10 : decode cX12_restore 10 = .ok (.ifCond .ne 7, 3) := by decide +kernel
theorem dX12_restore_13 : decode cX12_restore 13 = .ok (.iconst 1, 1) := by decide +kernel
theorem dX12_restore_14 : decode cX12_restore 14 = .ok (.goto 17, 3) := by decide +kernel
theorem dX12_restore_17 : decode cX12_restore 17 = .ok (.aload_n 0, 1) := by decide +kernel
theorem dX12_restore_18 : decode cX12_restore 18 = .ok (.getfield 19, 3) := by decide +kernel
theorem dX12_restore_21 : decode cX12_restore 21 = .ok (.iload_n 1, 1) := by decide +kernel
theorem dX12_restore_22 : decode cX12_restore 22 = .ok (.baload, 1) := by decide +kernel
theorem dX12_restore_23 : decode cX12_restore 23 = .ok (.ifCond .ne 7, 3) := by decide +kernel
theorem dX12_restore_26 : decode cX12_restore 26 = .ok (.iconst 2, 1) := by decide +kernel
theorem dX12_restore_27 : decode cX12_restore 27 = .ok (.goto 4, 3) := by decide +kernel
theorem dX12_restore_30 : decode cX12_restore 30 = .ok (.iconst 0, 1) := by decide +kernel
theorem dX12_restore_31 : decode cX12_restore 31 = .ok (.putfield 58, 3) := by decide +kernel
theorem dX12_restore_34 : decode cX12_restore 34 = .ok (.aload_n 0, 1) := by decide +kernel
theorem dX12_restore_35 : decode cX12_restore 35 = .ok (.getfield 58, 3) := by decide +kernel
theorem dX12_restore_38 : decode cX12_restore 38 = .ok (.ifCond .le 4, 3) := by decide +kernel
theorem dX12_restore_41 : decode cX12_restore 41 = .ok (.return_, 1) := by decide +kernel
theorem dX12_restore_42 : decode cX12_restore 42 = .ok (.iconst 0, 1) := by decide +kernel
theorem dX12_restore_43 : decode cX12_restore 43 = .ok (.istore_n 2, 1) := by decide +kernel
theorem dX12_restore_44 : decode cX12_restore 44 = .ok (.iload_n 2, 1) := by decide +kernel
theorem dX12_restore_45 : decode cX12_restore 45 = .ok (.sipush 1215, 3) := by decide +kernel
theorem dX12_restore_48 : decode cX12_restore 48 = .ok (.if_icmp .ge 27, 3) := by decide +kernel
theorem dX12_restore_51 : decode cX12_restore 51 = .ok (.aload_n 0, 1) := by decide +kernel
theorem dX12_restore_52 : decode cX12_restore 52 = .ok (.getfield 9, 3) := by decide +kernel
theorem dX12_restore_55 : decode cX12_restore 55 = .ok (.iload_n 2, 1) := by decide +kernel
theorem dX12_restore_56 : decode cX12_restore 56 = .ok (.aload_n 0, 1) := by decide +kernel
theorem dX12_restore_57 : decode cX12_restore 57 = .ok (.getfield 16, 3) := by decide +kernel
theorem dX12_restore_60 : decode cX12_restore 60 = .ok (.sipush 1215, 3) := by decide +kernel
theorem dX12_restore_63 : decode cX12_restore 63 = .ok (.iload_n 1, 1) := by decide +kernel
theorem dX12_restore_64 : decode cX12_restore 64 = .ok (.imul, 1) := by decide +kernel
theorem dX12_restore_65 : decode cX12_restore 65 = .ok (.iload_n 2, 1) := by decide +kernel
theorem dX12_restore_66 : decode cX12_restore 66 = .ok (.iadd, 1) := by decide +kernel
theorem dX12_restore_67 : decode cX12_restore 67 = .ok (.iaload, 1) := by decide +kernel
theorem dX12_restore_68 : decode cX12_restore 68 = .ok (.iastore, 1) := by decide +kernel
theorem dX12_restore_69 : decode cX12_restore 69 = .ok (.iinc 2 1, 3) := by decide +kernel
theorem dX12_restore_72 : decode cX12_restore 72 = .ok (.goto (-28), 3) := by decide +kernel
theorem dX12_restore_75 : decode cX12_restore 75 = .ok (.return_, 1) := by decide +kernel
theorem dX12_pairs_0 : decode cX12_pairs 0 = .ok (.iconst 0, 1) := by decide +kernel
theorem dX12_pairs_1 : decode cX12_pairs 1 = .ok (.istore_n 1, 1) := by decide +kernel
theorem dX12_pairs_2 : decode cX12_pairs 2 = .ok (.iconst 0, 1) := by decide +kernel
theorem dX12_pairs_3 : decode cX12_pairs 3 = .ok (.istore_n 2, 1) := by decide +kernel
theorem dX12_pairs_4 : decode cX12_pairs 4 = .ok (.iload_n 2, 1) := by decide +kernel
theorem dX12_pairs_5 : decode cX12_pairs 5 = .ok (.aload_n 0, 1) := by decide +kernel
theorem dX12_pairs_6 : decode cX12_pairs 6 = .ok (.invokevirtual 239, 3) := by decide +kernel
theorem dX12_pairs_9 : decode cX12_pairs 9 = .ok (.if_icmp .ge 24, 3) := by decide +kernel
theorem dX12_pairs_12 : decode cX12_pairs 12 = .ok (.iload_n 1, 1) := by decide +kernel
theorem dX12_pairs_13 : decode cX12_pairs 13 = .ok (.aload_n 0, 1) := by decide +kernel
theorem dX12_pairs_14 : decode cX12_pairs 14 = .ok (.getfield 9, 3) := by decide +kernel
theorem dX12_pairs_17 : decode cX12_pairs 17 = .ok (.bipush 57, 2) := by decide +kernel
theorem dX12_pairs_19 : decode cX12_pairs 19 = .ok (.iload_n 2, 1) := by decide +kernel
theorem dX12_pairs_20 : decode cX12_pairs 20 = .ok (.iadd, 1) := by decide +kernel
theorem dX12_pairs_21 : decode cX12_pairs 21 = .ok (.iaload, 1) := by decide +kernel
theorem dX12_pairs_22 : decode cX12_pairs 22 = .ok (.invokestatic 265, 3) := by decide +kernel
theorem dX12_pairs_25 : decode cX12_pairs 25 = .ok (.iadd, 1) := by decide +kernel
theorem dX12_pairs_26 : decode cX12_pairs 26 = .ok (.istore_n 1, 1) := by decide +kernel
theorem dX12_pairs_27 : decode cX12_pairs 27 = .ok (.iinc 2 1, 3) := by decide +kernel
theorem dX12_pairs_30 : decode cX12_pairs 30 = .ok (.goto (-26), 3) := by decide +kernel
theorem dX12_pairs_33 : decode cX12_pairs 33 = .ok (.iload_n 1, 1) := by decide +kernel
theorem dX12_pairs_34 : decode cX12_pairs 34 = .ok (.iconst 2, 1) := by decide +kernel
theorem dX12_pairs_35 : decode cX12_pairs 35 = .ok (.idiv, 1) := by decide +kernel
theorem dX12_pairs_36 : decode cX12_pairs 36 = .ok (.ireturn, 1) := by decide +kernel
theorem dX12_count_0 : decode cX12_count 0 = .ok (.aload_n 0, 1) := by decide +kernel
theorem dX12_count_1 : decode cX12_count 1 = .ok (.iconst 0, 1) := by decide +kernel
theorem dX12_count_2 : decode cX12_count 2 = .ok (.putfield 58, 3) := by decide +kernel
theorem dX12_count_5 : decode cX12_count 5 = .ok (.iload_n 1, 1) := by decide +kernel
theorem dX12_count_6 : decode cX12_count 6 = .ok (.tableswitch 133 0 9 #[54, 61, 66, 73, 81, 90, 101, 106, 113, 118], 54) := by decide +kernel
theorem dX12_count_60 : decode cX12_count 60 = .ok (.aload_n 0, 1) := by decide +kernel
theorem dX12_count_61 : decode cX12_count 61 = .ok (.getfield 9, 3) := by decide +kernel
theorem dX12_count_64 : decode cX12_count 64 = .ok (.iconst 0, 1) := by decide +kernel
theorem dX12_count_65 : decode cX12_count 65 = .ok (.iaload, 1) := by decide +kernel
theorem dX12_count_66 : decode cX12_count 66 = .ok (.ireturn, 1) := by decide +kernel
theorem dX12_count_67 : decode cX12_count 67 = .ok (.aload_n 0, 1) := by decide +kernel
theorem dX12_count_68 : decode cX12_count 68 = .ok (.invokevirtual 239, 3) := by decide +kernel
theorem dX12_count_71 : decode cX12_count 71 = .ok (.ireturn, 1) := by decide +kernel
theorem dX12_count_72 : decode cX12_count 72 = .ok (.aload_n 0, 1) := by decide +kernel
theorem dX12_count_73 : decode cX12_count 73 = .ok (.getfield 9, 3) := by decide +kernel
theorem dX12_count_76 : decode cX12_count 76 = .ok (.iconst 2, 1) := by decide +kernel
theorem dX12_count_77 : decode cX12_count 77 = .ok (.iaload, 1) := by decide +kernel
theorem dX12_count_78 : decode cX12_count 78 = .ok (.ireturn, 1) := by decide +kernel
theorem dX12_count_79 : decode cX12_count 79 = .ok (.aload_n 0, 1) := by decide +kernel
theorem dX12_count_80 : decode cX12_count 80 = .ok (.getfield 9, 3) := by decide +kernel
theorem dX12_count_83 : decode cX12_count 83 = .ok (.bipush 26, 2) := by decide +kernel
theorem dX12_count_85 : decode cX12_count 85 = .ok (.iaload, 1) := by decide +kernel
theorem dX12_count_86 : decode cX12_count 86 = .ok (.ireturn, 1) := by decide +kernel
theorem dX12_count_87 : decode cX12_count 87 = .ok (.aload_n 0, 1) := by decide +kernel
theorem dX12_count_88 : decode cX12_count 88 = .ok (.iconst 0, 1) := by decide +kernel
theorem dX12_count_89 : decode cX12_count 89 = .ok (.invokevirtual 294, 3) := by decide +kernel
theorem dX12_count_92 : decode cX12_count 92 = .ok (.invokestatic 265, 3) := by decide +kernel
theorem dX12_count_95 : decode cX12_count 95 = .ok (.ireturn, 1) := by decide +kernel
theorem dX12_count_96 : decode cX12_count 96 = .ok (.aload_n 0, 1) := by decide +kernel
theorem dX12_count_97 : decode cX12_count 97 = .ok (.getfield 9, 3) := by decide +kernel
theorem dX12_count_100 : decode cX12_count 100 = .ok (.bipush 25, 2) := by decide +kernel
theorem dX12_count_102 : decode cX12_count 102 = .ok (.iaload, 1) := by decide +kernel
theorem dX12_count_103 : decode cX12_count 103 = .ok (.invokestatic 265, 3) := by decide +kernel
theorem dX12_count_106 : decode cX12_count 106 = .ok (.ireturn, 1) := by decide +kernel
theorem dX12_count_107 : decode cX12_count 107 = .ok (.aload_n 0, 1) := by decide +kernel
theorem dX12_count_108 : decode cX12_count 108 = .ok (.invokevirtual 469, 3) := by decide +kernel
theorem dX12_count_111 : decode cX12_count 111 = .ok (.ireturn, 1) := by decide +kernel
theorem dX12_count_112 : decode cX12_count 112 = .ok (.aload_n 0, 1) := by decide +kernel
theorem dX12_count_113 : decode cX12_count 113 = .ok (.getfield 9, 3) := by decide +kernel
theorem dX12_count_116 : decode cX12_count 116 = .ok (.iconst 4, 1) := by decide +kernel
theorem dX12_count_117 : decode cX12_count 117 = .ok (.iaload, 1) := by decide +kernel
theorem dX12_count_118 : decode cX12_count 118 = .ok (.ireturn, 1) := by decide +kernel
theorem dX12_count_119 : decode cX12_count 119 = .ok (.aload_n 0, 1) := by decide +kernel
theorem dX12_count_120 : decode cX12_count 120 = .ok (.getfield 61, 3) := by decide +kernel
theorem dX12_count_123 : decode cX12_count 123 = .ok (.ireturn, 1) := by decide +kernel
theorem dX12_count_124 : decode cX12_count 124 = .ok (.aload_n 0, 1) := by decide +kernel
theorem dX12_count_125 : decode cX12_count 125 = .ok (.getfield 9, 3) := by decide +kernel
theorem dX12_count_128 : decode cX12_count 128 = .ok (.iconst 3, 1) := by decide +kernel
theorem dX12_count_129 : decode cX12_count 129 = .ok (.iaload, 1) := by decide +kernel
theorem dX12_count_130 : decode cX12_count 130 = .ok (.ifCond .le 7, 3) := by decide +kernel
theorem dX12_count_133 : decode cX12_count 133 = .ok (.iconst 1, 1) := by decide +kernel
theorem dX12_count_134 : decode cX12_count 134 = .ok (.goto 4, 3) := by decide +kernel
theorem dX12_count_137 : decode cX12_count 137 = .ok (.iconst 0, 1) := by decide +kernel
theorem dX12_count_138 : decode cX12_count 138 = .ok (.ireturn, 1) := by decide +kernel
theorem dX12_count_139 : decode cX12_count 139 = .ok (.iconst (-1), 1) := by decide +kernel
theorem dX12_count_140 : decode cX12_count 140 = .ok (.ireturn, 1) := by decide +kernel
theorem dJ6_bitCount_0f7a4_0 : decode cJ6_bitCount_0f7a4 0 = .ok (.iload_n 0, 1) := by decide +kernel
theorem dJ6_bitCount_0f7a4_1 : decode cJ6_bitCount_0f7a4 1 = .ok (.iload_n 0, 1) := by decide +kernel
theorem dJ6_bitCount_0f7a4_2 : decode cJ6_bitCount_0f7a4 2 = .ok (.iconst 1, 1) := by decide +kernel
theorem dJ6_bitCount_0f7a4_3 : decode cJ6_bitCount_0f7a4 3 = .ok (.iushr, 1) := by decide +kernel
theorem dJ6_bitCount_0f7a4_4 : decode cJ6_bitCount_0f7a4 4 = .ok (.ldc_w 265, 3) := by decide +kernel
theorem dJ6_bitCount_0f7a4_7 : decode cJ6_bitCount_0f7a4 7 = .ok (.iand, 1) := by decide +kernel
theorem dJ6_bitCount_0f7a4_8 : decode cJ6_bitCount_0f7a4 8 = .ok (.isub, 1) := by decide +kernel
theorem dJ6_bitCount_0f7a4_9 : decode cJ6_bitCount_0f7a4 9 = .ok (.istore_n 0, 1) := by decide +kernel
theorem dJ6_bitCount_0f7a4_10 : decode cJ6_bitCount_0f7a4 10 = .ok (.iload_n 0, 1) := by decide +kernel
theorem dJ6_bitCount_0f7a4_11 : decode cJ6_bitCount_0f7a4 11 = .ok (.ldc_w 266, 3) := by decide +kernel
theorem dJ6_bitCount_0f7a4_14 : decode cJ6_bitCount_0f7a4 14 = .ok (.iand, 1) := by decide +kernel
theorem dJ6_bitCount_0f7a4_15 : decode cJ6_bitCount_0f7a4 15 = .ok (.iload_n 0, 1) := by decide +kernel
theorem dJ6_bitCount_0f7a4_16 : decode cJ6_bitCount_0f7a4 16 = .ok (.iconst 2, 1) := by decide +kernel
theorem dJ6_bitCount_0f7a4_17 : decode cJ6_bitCount_0f7a4 17 = .ok (.iushr, 1) := by decide +kernel
theorem dJ6_bitCount_0f7a4_18 : decode cJ6_bitCount_0f7a4 18 = .ok (.ldc_w 266, 3) := by decide +kernel
theorem dJ6_bitCount_0f7a4_21 : decode cJ6_bitCount_0f7a4 21 = .ok (.iand, 1) := by decide +kernel
theorem dJ6_bitCount_0f7a4_22 : decode cJ6_bitCount_0f7a4 22 = .ok (.iadd, 1) := by decide +kernel
theorem dJ6_bitCount_0f7a4_23 : decode cJ6_bitCount_0f7a4 23 = .ok (.istore_n 0, 1) := by decide +kernel
theorem dJ6_bitCount_0f7a4_24 : decode cJ6_bitCount_0f7a4 24 = .ok (.iload_n 0, 1) := by decide +kernel
theorem dJ6_bitCount_0f7a4_25 : decode cJ6_bitCount_0f7a4 25 = .ok (.iload_n 0, 1) := by decide +kernel
theorem dJ6_bitCount_0f7a4_26 : decode cJ6_bitCount_0f7a4 26 = .ok (.iconst 4, 1) := by decide +kernel
theorem dJ6_bitCount_0f7a4_27 : decode cJ6_bitCount_0f7a4 27 = .ok (.iushr, 1) := by decide +kernel
theorem dJ6_bitCount_0f7a4_28 : decode cJ6_bitCount_0f7a4 28 = .ok (.iadd, 1) := by decide +kernel
theorem dJ6_bitCount_0f7a4_29 : decode cJ6_bitCount_0f7a4 29 = .ok (.ldc_w 267, 3) := by decide +kernel
theorem dJ6_bitCount_0f7a4_32 : decode cJ6_bitCount_0f7a4 32 = .ok (.iand, 1) := by decide +kernel
theorem dJ6_bitCount_0f7a4_33 : decode cJ6_bitCount_0f7a4 33 = .ok (.istore_n 0, 1) := by decide +kernel
theorem dJ6_bitCount_0f7a4_34 : decode cJ6_bitCount_0f7a4 34 = .ok (.iload_n 0, 1) := by decide +kernel
theorem dJ6_bitCount_0f7a4_35 : decode cJ6_bitCount_0f7a4 35 = .ok (.iload_n 0, 1) := by decide +kernel
theorem dJ6_bitCount_0f7a4_36 : decode cJ6_bitCount_0f7a4 36 = .ok (.bipush 8, 2) := by decide +kernel
theorem dJ6_bitCount_0f7a4_38 : decode cJ6_bitCount_0f7a4 38 = .ok (.iushr, 1) := by decide +kernel
theorem dJ6_bitCount_0f7a4_39 : decode cJ6_bitCount_0f7a4 39 = .ok (.iadd, 1) := by decide +kernel
theorem dJ6_bitCount_0f7a4_40 : decode cJ6_bitCount_0f7a4 40 = .ok (.istore_n 0, 1) := by decide +kernel
theorem dJ6_bitCount_0f7a4_41 : decode cJ6_bitCount_0f7a4 41 = .ok (.iload_n 0, 1) := by decide +kernel
theorem dJ6_bitCount_0f7a4_42 : decode cJ6_bitCount_0f7a4 42 = .ok (.iload_n 0, 1) := by decide +kernel
theorem dJ6_bitCount_0f7a4_43 : decode cJ6_bitCount_0f7a4 43 = .ok (.bipush 16, 2) := by decide +kernel
theorem dJ6_bitCount_0f7a4_45 : decode cJ6_bitCount_0f7a4 45 = .ok (.iushr, 1) := by decide +kernel
theorem dJ6_bitCount_0f7a4_46 : decode cJ6_bitCount_0f7a4 46 = .ok (.iadd, 1) := by decide +kernel
theorem dJ6_bitCount_0f7a4_47 : decode cJ6_bitCount_0f7a4 47 = .ok (.istore_n 0, 1) := by decide +kernel
theorem dJ6_bitCount_0f7a4_48 : decode cJ6_bitCount_0f7a4 48 = .ok (.iload_n 0, 1) := by decide +kernel
theorem dJ6_bitCount_0f7a4_49 : decode cJ6_bitCount_0f7a4 49 = .ok (.bipush 63, 2) := by decide +kernel
theorem dJ6_bitCount_0f7a4_51 : decode cJ6_bitCount_0f7a4 51 = .ok (.iand, 1) := by decide +kernel
theorem dJ6_bitCount_0f7a4_52 : decode cJ6_bitCount_0f7a4 52 = .ok (.ireturn, 1) := by decide +kernel
theorem dJ6_numberOfTrailingZeros_0f7a4_0 : decode cJ6_numberOfTrailingZeros_0f7a4 0 = .ok (.iload_n 0, 1) := by decide +kernel
theorem dJ6_numberOfTrailingZeros_0f7a4_1 : decode cJ6_numberOfTrailingZeros_0f7a4 1 = .ok (.iconst (-1), 1) := by decide +kernel
theorem dJ6_numberOfTrailingZeros_0f7a4_2 : decode cJ6_numberOfTrailingZeros_0f7a4 2 = .ok (.ixor, 1) := by decide +kernel
theorem dJ6_numberOfTrailingZeros_0f7a4_3 : decode cJ6_numberOfTrailingZeros_0f7a4 3 = .ok (.iload_n 0, 1) := by decide +kernel
theorem dJ6_numberOfTrailingZeros_0f7a4_4 : decode cJ6_numberOfTrailingZeros_0f7a4 4 = .ok (.iconst 1, 1) := by decide +kernel
theorem dJ6_numberOfTrailingZeros_0f7a4_5 : decode cJ6_numberOfTrailingZeros_0f7a4 5 = .ok (.isub, 1) := by decide +kernel
theorem dJ6_numberOfTrailingZeros_0f7a4_6 : decode cJ6_numberOfTrailingZeros_0f7a4 6 = .ok (.iand, 1) := by decide +kernel
theorem dJ6_numberOfTrailingZeros_0f7a4_7 : decode cJ6_numberOfTrailingZeros_0f7a4 7 = .ok (.istore_n 0, 1) := by decide +kernel
theorem dJ6_numberOfTrailingZeros_0f7a4_8 : decode cJ6_numberOfTrailingZeros_0f7a4 8 = .ok (.iload_n 0, 1) := by decide +kernel
theorem dJ6_numberOfTrailingZeros_0f7a4_9 : decode cJ6_numberOfTrailingZeros_0f7a4 9 = .ok (.ifCond .gt 8, 3) := by decide +kernel
theorem dJ6_numberOfTrailingZeros_0f7a4_12 : decode cJ6_numberOfTrailingZeros_0f7a4 12 = .ok (.iload_n 0, 1) := by decide +kernel
theorem dJ6_numberOfTrailingZeros_0f7a4_13 : decode cJ6_numberOfTrailingZeros_0f7a4 13 = .ok (.bipush 32, 2) := by decide +kernel
theorem dJ6_numberOfTrailingZeros_0f7a4_15 : decode cJ6_numberOfTrailingZeros_0f7a4 15 = .ok (.iand, 1) := by decide +kernel
theorem dJ6_numberOfTrailingZeros_0f7a4_16 : decode cJ6_numberOfTrailingZeros_0f7a4 16 = .ok (.ireturn, 1) := by decide +kernel
theorem dJ6_numberOfTrailingZeros_0f7a4_17 : decode cJ6_numberOfTrailingZeros_0f7a4 17 = .ok (.iconst 1, 1) := by decide +kernel
theorem dJ6_numberOfTrailingZeros_0f7a4_18 : decode cJ6_numberOfTrailingZeros_0f7a4 18 = .ok (.istore_n 1, 1) := by decide +kernel
theorem dJ6_numberOfTrailingZeros_0f7a4_19 : decode cJ6_numberOfTrailingZeros_0f7a4 19 = .ok (.iload_n 0, 1) := by decide +kernel
theorem dJ6_numberOfTrailingZeros_0f7a4_20 : decode cJ6_numberOfTrailingZeros_0f7a4 20 = .ok (.ldc_w 264, 3) := by decide +kernel
theorem dJ6_numberOfTrailingZeros_0f7a4_23 : decode cJ6_numberOfTrailingZeros_0f7a4 23 = .ok (.if_icmp .le 11, 3) := by decide +kernel
theorem dJ6_numberOfTrailingZeros_0f7a4_26 : decode cJ6_numberOfTrailingZeros_0f7a4 26 = .ok (.iinc 1 16, 3) := by decide +kernel
theorem dJ6_numberOfTrailingZeros_0f7a4_29 : decode cJ6_numberOfTrailingZeros_0f7a4 29 = .ok (.iload_n 0, 1) := by decide +kernel
theorem dJ6_numberOfTrailingZeros_0f7a4_30 : decode cJ6_numberOfTrailingZeros_0f7a4 30 = .ok (.bipush 16, 2) := by decide +kernel
theorem dJ6_numberOfTrailingZeros_0f7a4_32 : decode cJ6_numberOfTrailingZeros_0f7a4 32 = .ok (.iushr, 1) := by decide +kernel
theorem dJ6_numberOfTrailingZeros_0f7a4_33 : decode cJ6_numberOfTrailingZeros_0f7a4 33 = .ok (.istore_n 0, 1) := by decide +kernel
theorem dJ6_numberOfTrailingZeros_0f7a4_34 : decode cJ6_numberOfTrailingZeros_0f7a4 34 = .ok (.iload_n 0, 1) := by decide +kernel
theorem dJ6_numberOfTrailingZeros_0f7a4_35 : decode cJ6_numberOfTrailingZeros_0f7a4 35 = .ok (.sipush 256, 3) := by decide +kernel
theorem dJ6_numberOfTrailingZeros_0f7a4_38 : decode cJ6_numberOfTrailingZeros_0f7a4 38 = .ok (.if_icmp .le 11, 3) := by decide +kernel
theorem dJ6_numberOfTrailingZeros_0f7a4_41 : decode cJ6_numberOfTrailingZeros_0f7a4 41 = .ok (.iinc 1 8, 3) := by decide +kernel
theorem dJ6_numberOfTrailingZeros_0f7a4_44 : decode cJ6_numberOfTrailingZeros_0f7a4 44 = .ok (.iload_n 0, 1) := by decide +kernel
theorem dJ6_numberOfTrailingZeros_0f7a4_45 : decode cJ6_numberOfTrailingZeros_0f7a4 45 = .ok (.bipush 8, 2) := by decide +kernel
theorem dJ6_numberOfTrailingZeros_0f7a4_47 : decode cJ6_numberOfTrailingZeros_0f7a4 47 = .ok (.iushr, 1) := by decide +kernel
theorem dJ6_numberOfTrailingZeros_0f7a4_48 : decode cJ6_numberOfTrailingZeros_0f7a4 48 = .ok (.istore_n 0, 1) := by decide +kernel
theorem dJ6_numberOfTrailingZeros_0f7a4_49 : decode cJ6_numberOfTrailingZeros_0f7a4 49 = .ok (.iload_n 0, 1) := by decide +kernel
theorem dJ6_numberOfTrailingZeros_0f7a4_50 : decode cJ6_numberOfTrailingZeros_0f7a4 50 = .ok (.bipush 16, 2) := by decide +kernel
theorem dJ6_numberOfTrailingZeros_0f7a4_52 : decode cJ6_numberOfTrailingZeros_0f7a4 52 = .ok (.if_icmp .le 10, 3) := by decide +kernel
theorem dJ6_numberOfTrailingZeros_0f7a4_55 : decode cJ6_numberOfTrailingZeros_0f7a4 55 = .ok (.iinc 1 4, 3) := by decide +kernel
theorem dJ6_numberOfTrailingZeros_0f7a4_58 : decode cJ6_numberOfTrailingZeros_0f7a4 58 = .ok (.iload_n 0, 1) := by decide +kernel
theorem dJ6_numberOfTrailingZeros_0f7a4_59 : decode cJ6_numberOfTrailingZeros_0f7a4 59 = .ok (.iconst 4, 1) := by decide +kernel
theorem dJ6_numberOfTrailingZeros_0f7a4_60 : decode cJ6_numberOfTrailingZeros_0f7a4 60 = .ok (.iushr, 1) := by decide +kernel
theorem dJ6_numberOfTrailingZeros_0f7a4_61 : decode cJ6_numberOfTrailingZeros_0f7a4 61 = .ok (.istore_n 0, 1) := by decide +kernel
theorem dJ6_numberOfTrailingZeros_0f7a4_62 : decode cJ6_numberOfTrailingZeros_0f7a4 62 = .ok (.iload_n 0, 1) := by decide +kernel
theorem dJ6_numberOfTrailingZeros_0f7a4_63 : decode cJ6_numberOfTrailingZeros_0f7a4 63 = .ok (.iconst 4, 1) := by decide +kernel
theorem dJ6_numberOfTrailingZeros_0f7a4_64 : decode cJ6_numberOfTrailingZeros_0f7a4 64 = .ok (.if_icmp .le 10, 3) := by decide +kernel
theorem dJ6_numberOfTrailingZeros_0f7a4_67 : decode cJ6_numberOfTrailingZeros_0f7a4 67 = .ok (.iinc 1 2, 3) := by decide +kernel
theorem dJ6_numberOfTrailingZeros_0f7a4_70 : decode cJ6_numberOfTrailingZeros_0f7a4 70 = .ok (.iload_n 0, 1) := by decide +kernel
theorem dJ6_numberOfTrailingZeros_0f7a4_71 : decode cJ6_numberOfTrailingZeros_0f7a4 71 = .ok (.iconst 2, 1) := by decide +kernel
theorem dJ6_numberOfTrailingZeros_0f7a4_72 : decode cJ6_numberOfTrailingZeros_0f7a4 72 = .ok (.iushr, 1) := by decide +kernel
theorem dJ6_numberOfTrailingZeros_0f7a4_73 : decode cJ6_numberOfTrailingZeros_0f7a4 73 = .ok (.istore_n 0, 1) := by decide +kernel
theorem dJ6_numberOfTrailingZeros_0f7a4_74 : decode cJ6_numberOfTrailingZeros_0f7a4 74 = .ok (.iload_n 1, 1) := by decide +kernel
theorem dJ6_numberOfTrailingZeros_0f7a4_75 : decode cJ6_numberOfTrailingZeros_0f7a4 75 = .ok (.iload_n 0, 1) := by decide +kernel
theorem dJ6_numberOfTrailingZeros_0f7a4_76 : decode cJ6_numberOfTrailingZeros_0f7a4 76 = .ok (.iconst 1, 1) := by decide +kernel
theorem dJ6_numberOfTrailingZeros_0f7a4_77 : decode cJ6_numberOfTrailingZeros_0f7a4 77 = .ok (.iushr, 1) := by decide +kernel
theorem dJ6_numberOfTrailingZeros_0f7a4_78 : decode cJ6_numberOfTrailingZeros_0f7a4 78 = .ok (.iadd, 1) := by decide +kernel
theorem dJ6_numberOfTrailingZeros_0f7a4_79 : decode cJ6_numberOfTrailingZeros_0f7a4 79 = .ok (.ireturn, 1) := by decide +kernel
theorem dJ9_floorMod_7cf53_0 : decode cJ9_floorMod_7cf53 0 = .ok (.iload_n 0, 1) := by decide +kernel
theorem dJ9_floorMod_7cf53_1 : decode cJ9_floorMod_7cf53 1 = .ok (.iload_n 1, 1) := by decide +kernel
theorem dJ9_floorMod_7cf53_2 : decode cJ9_floorMod_7cf53 2 = .ok (.irem, 1) := by decide +kernel
theorem dJ9_floorMod_7cf53_3 : decode cJ9_floorMod_7cf53 3 = .ok (.istore_n 2, 1) := by decide +kernel
theorem dJ9_floorMod_7cf53_4 : decode cJ9_floorMod_7cf53 4 = .ok (.iload_n 0, 1) := by decide +kernel
theorem dJ9_floorMod_7cf53_5 : decode cJ9_floorMod_7cf53 5 = .ok (.iload_n 1, 1) := by decide +kernel
theorem dJ9_floorMod_7cf53_6 : decode cJ9_floorMod_7cf53 6 = .ok (.ixor, 1) := by decide +kernel
theorem dJ9_floorMod_7cf53_7 : decode cJ9_floorMod_7cf53 7 = .ok (.ifCond .ge 11, 3) := by decide +kernel
theorem dJ9_floorMod_7cf53_10 : decode cJ9_floorMod_7cf53 10 = .ok (.iload_n 2, 1) := by decide +kernel
theorem dJ9_floorMod_7cf53_11 : decode cJ9_floorMod_7cf53 11 = .ok (.ifCond .eq 7, 3) := by decide +kernel
theorem dJ9_floorMod_7cf53_14 : decode cJ9_floorMod_7cf53 14 = .ok (.iload_n 2, 1) := by decide +kernel
theorem dJ9_floorMod_7cf53_15 : decode cJ9_floorMod_7cf53 15 = .ok (.iload_n 1, 1) := by decide +kernel
theorem dJ9_floorMod_7cf53_16 : decode cJ9_floorMod_7cf53 16 = .ok (.iadd, 1) := by decide +kernel
theorem dJ9_floorMod_7cf53_17 : decode cJ9_floorMod_7cf53 17 = .ok (.ireturn, 1) := by decide +kernel
theorem dJ9_floorMod_7cf53_18 : decode cJ9_floorMod_7cf53 18 = .ok (.iload_n 2, 1) := by decide +kernel
theorem dJ9_floorMod_7cf53_19 : decode cJ9_floorMod_7cf53 19 = .ok (.ireturn, 1) := by decide +kernel
theorem dJ9_max_7cf53_0 : decode cJ9_max_7cf53 0 = .ok (.iload_n 0, 1) := by decide +kernel
theorem dJ9_max_7cf53_1 : decode cJ9_max_7cf53 1 = .ok (.iload_n 1, 1) := by decide +kernel
theorem dJ9_max_7cf53_2 : decode cJ9_max_7cf53 2 = .ok (.if_icmp .lt 7, 3) := by decide +kernel
theorem dJ9_max_7cf53_5 : decode cJ9_max_7cf53 5 = .ok (.iload_n 0, 1) := by decide +kernel
theorem dJ9_max_7cf53_6 : decode cJ9_max_7cf53 6 = .ok (.goto 4, 3) := by decide +kernel
theorem dJ9_max_7cf53_9 : decode cJ9_max_7cf53 9 = .ok (.iload_n 1, 1) := by decide +kernel
theorem dJ9_max_7cf53_10 : decode cJ9_max_7cf53 10 = .ok (.ireturn, 1) := by decide +kernel
theorem dJ9_max_f86c9_0 : decode cJ9_max_f86c9 0 = .ok (.lload_n 0, 1) := by decide +kernel
theorem dJ9_max_f86c9_1 : decode cJ9_max_f86c9 1 = .ok (.lload_n 2, 1) := by decide +kernel
theorem dJ9_max_f86c9_2 : decode cJ9_max_f86c9 2 = .ok (.lcmp, 1) := by decide +kernel
theorem dJ9_max_f86c9_3 : decode cJ9_max_f86c9 3 = .ok (.ifCond .lt 7, 3) := by decide +kernel
theorem dJ9_max_f86c9_6 : decode cJ9_max_f86c9 6 = .ok (.lload_n 0, 1) := by decide +kernel
theorem dJ9_max_f86c9_7 : decode cJ9_max_f86c9 7 = .ok (.goto 4, 3) := by decide +kernel
theorem dJ9_max_f86c9_10 : decode cJ9_max_f86c9 10 = .ok (.lload_n 2, 1) := by decide +kernel
theorem dJ9_max_f86c9_11 : decode cJ9_max_f86c9 11 = .ok (.lreturn, 1) := by decide +kernel
theorem dJ9_min_7cf53_0 : decode cJ9_min_7cf53 0 = .ok (.iload_n 0, 1) := by decide +kernel
theorem dJ9_min_7cf53_1 : decode cJ9_min_7cf53 1 = .ok (.iload_n 1, 1) := by decide +kernel
theorem dJ9_min_7cf53_2 : decode cJ9_min_7cf53 2 = .ok (.if_icmp .gt 7, 3) := by decide +kernel
theorem dJ9_min_7cf53_5 : decode cJ9_min_7cf53 5 = .ok (.iload_n 0, 1) := by decide +kernel
theorem dJ9_min_7cf53_6 : decode cJ9_min_7cf53 6 = .ok (.goto 4, 3) := by decide +kernel
theorem dJ9_min_7cf53_9 : decode cJ9_min_7cf53 9 = .ok (.iload_n 1, 1) := by decide +kernel
theorem dJ9_min_7cf53_10 : decode cJ9_min_7cf53 10 = .ok (.ireturn, 1) := by decide +kernel
theorem dJ9_min_f86c9_0 : decode cJ9_min_f86c9 0 = .ok (.lload_n 0, 1) := by decide +kernel
theorem dJ9_min_f86c9_1 : decode cJ9_min_f86c9 1 = .ok (.lload_n 2, 1) := by decide +kernel
theorem dJ9_min_f86c9_2 : decode cJ9_min_f86c9 2 = .ok (.lcmp, 1) := by decide +kernel
theorem dJ9_min_f86c9_3 : decode cJ9_min_f86c9 3 = .ok (.ifCond .gt 7, 3) := by decide +kernel
theorem dJ9_min_f86c9_6 : decode cJ9_min_f86c9 6 = .ok (.lload_n 0, 1) := by decide +kernel
theorem dJ9_min_f86c9_7 : decode cJ9_min_f86c9 7 = .ok (.goto 4, 3) := by decide +kernel
theorem dJ9_min_f86c9_10 : decode cJ9_min_f86c9 10 = .ok (.lload_n 2, 1) := by decide +kernel
theorem dJ9_min_f86c9_11 : decode cJ9_min_f86c9 11 = .ok (.lreturn, 1) := by decide +kernel
theorem dJ13_bitCount_95d88_0 : decode cJ13_bitCount_95d88 0 = .ok (.lload_n 0, 1) := by decide +kernel
theorem dJ13_bitCount_95d88_1 : decode cJ13_bitCount_95d88 1 = .ok (.lload_n 0, 1) := by decide +kernel
theorem dJ13_bitCount_95d88_2 : decode cJ13_bitCount_95d88 2 = .ok (.iconst 1, 1) := by decide +kernel
theorem dJ13_bitCount_95d88_3 : decode cJ13_bitCount_95d88 3 = .ok (.lushr, 1) := by decide +kernel
theorem dJ13_bitCount_95d88_4 : decode cJ13_bitCount_95d88 4 = .ok (.ldc2_w 314, 3) := by decide +kernel
theorem dJ13_bitCount_95d88_7 : decode cJ13_bitCount_95d88 7 = .ok (.land, 1) := by decide +kernel
theorem dJ13_bitCount_95d88_8 : decode cJ13_bitCount_95d88 8 = .ok (.lsub, 1) := by decide +kernel
theorem dJ13_bitCount_95d88_9 : decode cJ13_bitCount_95d88 9 = .ok (.lstore_n 0, 1) := by decide +kernel
theorem dJ13_bitCount_95d88_10 : decode cJ13_bitCount_95d88 10 = .ok (.lload_n 0, 1) := by decide +kernel
theorem dJ13_bitCount_95d88_11 : decode cJ13_bitCount_95d88 11 = .ok (.ldc2_w 316, 3) := by decide +kernel
theorem dJ13_bitCount_95d88_14 : decode cJ13_bitCount_95d88 14 = .ok (.land, 1) := by decide +kernel
theorem dJ13_bitCount_95d88_15 : decode cJ13_bitCount_95d88 15 = .ok (.lload_n 0, 1) := by decide +kernel
theorem dJ13_bitCount_95d88_16 : decode cJ13_bitCount_95d88 16 = .ok (.iconst 2, 1) := by decide +kernel
theorem dJ13_bitCount_95d88_17 : decode cJ13_bitCount_95d88 17 = .ok (.lushr, 1) := by decide +kernel
theorem dJ13_bitCount_95d88_18 : decode cJ13_bitCount_95d88 18 = .ok (.ldc2_w 316, 3) := by decide +kernel
theorem dJ13_bitCount_95d88_21 : decode cJ13_bitCount_95d88 21 = .ok (.land, 1) := by decide +kernel
theorem dJ13_bitCount_95d88_22 : decode cJ13_bitCount_95d88 22 = .ok (.ladd, 1) := by decide +kernel
theorem dJ13_bitCount_95d88_23 : decode cJ13_bitCount_95d88 23 = .ok (.lstore_n 0, 1) := by decide +kernel
theorem dJ13_bitCount_95d88_24 : decode cJ13_bitCount_95d88 24 = .ok (.lload_n 0, 1) := by decide +kernel
theorem dJ13_bitCount_95d88_25 : decode cJ13_bitCount_95d88 25 = .ok (.lload_n 0, 1) := by decide +kernel
theorem dJ13_bitCount_95d88_26 : decode cJ13_bitCount_95d88 26 = .ok (.iconst 4, 1) := by decide +kernel
theorem dJ13_bitCount_95d88_27 : decode cJ13_bitCount_95d88 27 = .ok (.lushr, 1) := by decide +kernel
theorem dJ13_bitCount_95d88_28 : decode cJ13_bitCount_95d88 28 = .ok (.ladd, 1) := by decide +kernel
theorem dJ13_bitCount_95d88_29 : decode cJ13_bitCount_95d88 29 = .ok (.ldc2_w 318, 3) := by decide +kernel
theorem dJ13_bitCount_95d88_32 : decode cJ13_bitCount_95d88 32 = .ok (.land, 1) := by decide +kernel
theorem dJ13_bitCount_95d88_33 : decode cJ13_bitCount_95d88 33 = .ok (.lstore_n 0, 1) := by decide +kernel
theorem dJ13_bitCount_95d88_34 : decode cJ13_bitCount_95d88 34 = .ok (.lload_n 0, 1) := by decide +kernel
theorem dJ13_bitCount_95d88_35 : decode cJ13_bitCount_95d88 35 = .ok (.lload_n 0, 1) := by decide +kernel
theorem dJ13_bitCount_95d88_36 : decode cJ13_bitCount_95d88 36 = .ok (.bipush 8, 2) := by decide +kernel
theorem dJ13_bitCount_95d88_38 : decode cJ13_bitCount_95d88 38 = .ok (.lushr, 1) := by decide +kernel
theorem dJ13_bitCount_95d88_39 : decode cJ13_bitCount_95d88 39 = .ok (.ladd, 1) := by decide +kernel
theorem dJ13_bitCount_95d88_40 : decode cJ13_bitCount_95d88 40 = .ok (.lstore_n 0, 1) := by decide +kernel
theorem dJ13_bitCount_95d88_41 : decode cJ13_bitCount_95d88 41 = .ok (.lload_n 0, 1) := by decide +kernel
theorem dJ13_bitCount_95d88_42 : decode cJ13_bitCount_95d88 42 = .ok (.lload_n 0, 1) := by decide +kernel
theorem dJ13_bitCount_95d88_43 : decode cJ13_bitCount_95d88 43 = .ok (.bipush 16, 2) := by decide +kernel
theorem dJ13_bitCount_95d88_45 : decode cJ13_bitCount_95d88 45 = .ok (.lushr, 1) := by decide +kernel
theorem dJ13_bitCount_95d88_46 : decode cJ13_bitCount_95d88 46 = .ok (.ladd, 1) := by decide +kernel
theorem dJ13_bitCount_95d88_47 : decode cJ13_bitCount_95d88 47 = .ok (.lstore_n 0, 1) := by decide +kernel
theorem dJ13_bitCount_95d88_48 : decode cJ13_bitCount_95d88 48 = .ok (.lload_n 0, 1) := by decide +kernel
theorem dJ13_bitCount_95d88_49 : decode cJ13_bitCount_95d88 49 = .ok (.lload_n 0, 1) := by decide +kernel
theorem dJ13_bitCount_95d88_50 : decode cJ13_bitCount_95d88 50 = .ok (.bipush 32, 2) := by decide +kernel
theorem dJ13_bitCount_95d88_52 : decode cJ13_bitCount_95d88 52 = .ok (.lushr, 1) := by decide +kernel
theorem dJ13_bitCount_95d88_53 : decode cJ13_bitCount_95d88 53 = .ok (.ladd, 1) := by decide +kernel
theorem dJ13_bitCount_95d88_54 : decode cJ13_bitCount_95d88 54 = .ok (.lstore_n 0, 1) := by decide +kernel
theorem dJ13_bitCount_95d88_55 : decode cJ13_bitCount_95d88 55 = .ok (.lload_n 0, 1) := by decide +kernel
theorem dJ13_bitCount_95d88_56 : decode cJ13_bitCount_95d88 56 = .ok (.l2i, 1) := by decide +kernel
theorem dJ13_bitCount_95d88_57 : decode cJ13_bitCount_95d88 57 = .ok (.bipush 127, 2) := by decide +kernel
theorem dJ13_bitCount_95d88_59 : decode cJ13_bitCount_95d88 59 = .ok (.iand, 1) := by decide +kernel
theorem dJ13_bitCount_95d88_60 : decode cJ13_bitCount_95d88 60 = .ok (.ireturn, 1) := by decide +kernel
