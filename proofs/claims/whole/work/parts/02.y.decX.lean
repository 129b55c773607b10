theorem dX0_init_0 : decode cX0_init 0 = .ok (.aload_n 0, 1) := by decide +kernel
theorem dX0_init_1 : decode cX0_init 1 = .ok (.invokespecial 3, 3) := by decide +kernel
theorem dX0_init_4 : decode cX0_init 4 = .ok (.aload_n 0, 1) := by decide +kernel
theorem dX0_init_5 : decode cX0_init 5 = .ok (.aload_n 1, 1) := by decide +kernel
theorem dX0_init_6 : decode cX0_init 6 = .ok (.putfield 9, 3) := by decide +kernel
theorem dX0_init_9 : decode cX0_init 9 = .ok (.return_, 1) := by decide +kernel
theorem dX0_whyNotDraw_0 : decode cX0_whyNotDraw 0 = .ok (.aload_n 0, 1) := by decide +kernel
theorem dX0_whyNotDraw_1 : decode cX0_whyNotDraw 1 = .ok (.getfield 15, 3) := by decide +kernel
theorem dX0_whyNotDraw_4 : decode cX0_whyNotDraw 4 = .ok (.iload_n 1, 1) := by decide +kernel
theorem dX0_whyNotDraw_5 : decode cX0_whyNotDraw 5 = .ok (.invokevirtual 21, 3) := by decide +kernel
theorem dX0_whyNotDraw_8 : decode cX0_whyNotDraw 8 = .ok (.ifCond .eq 14, 3) := by decide +kernel
theorem dX0_whyNotDraw_11 : decode cX0_whyNotDraw 11 = .ok (.iload_n 2, 1) := by decide +kernel
theorem dX0_whyNotDraw_12 : decode cX0_whyNotDraw 12 = .ok (.iconst 1, 1) := by decide +kernel
theorem dX0_whyNotDraw_13 : decode cX0_whyNotDraw 13 = .ok (.if_icmp .lt 9, 3) := by decide +kernel
theorem dX0_whyNotDraw_16 : decode cX0_whyNotDraw 16 = .ok (.iload_n 2, 1) := by decide +kernel
theorem dX0_whyNotDraw_17 : decode cX0_whyNotDraw 17 = .ok (.bipush 99, 2) := by decide +kernel
theorem dX0_whyNotDraw_19 : decode cX0_whyNotDraw 19 = .ok (.if_icmp .le 5, 3) := by decide +kernel
theorem dX0_whyNotDraw_22 : decode cX0_whyNotDraw 22 = .ok (.iconst 1, 1) := by decide +kernel
theorem dX0_whyNotDraw_23 : decode cX0_whyNotDraw 23 = .ok (.ireturn, 1) := by decide +kernel
theorem dX0_whyNotDraw_24 : decode cX0_whyNotDraw 24 = .ok (.aload_n 0, 1) := by decide +kernel
theorem dX0_whyNotDraw_25 : decode cX0_whyNotDraw 25 = .ok (.iload_n 1, 1) := by decide +kernel
theorem dX0_whyNotDraw_26 : decode cX0_whyNotDraw 26 = .ok (.invokevirtual 27, 3) := by decide +kernel
theorem dX0_whyNotDraw_29 : decode cX0_whyNotDraw 29 = .ok (.ifCond .ne 5, 3) := by decide +kernel
theorem dX0_whyNotDraw_32 : decode cX0_whyNotDraw 32 = .ok (.iconst 2, 1) := by decide +kernel
theorem dX0_whyNotDraw_33 : decode cX0_whyNotDraw 33 = .ok (.ireturn, 1) := by decide +kernel
theorem dX0_whyNotDraw_34 : decode cX0_whyNotDraw 34 = .ok (.aload_n 0, 1) := by decide +kernel
theorem dX0_whyNotDraw_35 : decode cX0_whyNotDraw 35 = .ok (.iload_n 1, 1) := by decide +kernel
theorem dX0_whyNotDraw_36 : decode cX0_whyNotDraw 36 = .ok (.invokevirtual 30, 3) := by decide +kernel
theorem dX0_whyNotDraw_39 : decode cX0_whyNotDraw 39 = .ok (.ifCond .eq 5, 3) := by decide +kernel
theorem dX0_whyNotDraw_42 : decode cX0_whyNotDraw 42 = .ok (.iconst 3, 1) := by decide +kernel
theorem dX0_whyNotDraw_43 : decode cX0_whyNotDraw 43 = .ok (.ireturn, 1) := by decide +kernel
theorem dX0_whyNotDraw_44 : decode cX0_whyNotDraw 44 = .ok (.aload_n 0, 1) := by decide +kernel
theorem dX0_whyNotDraw_45 : decode cX0_whyNotDraw 45 = .ok (.iload_n 1, 1) := by decide +kernel
theorem dX0_whyNotDraw_46 : decode cX0_whyNotDraw 46 = .ok (.invokevirtual 33, 3) := by decide +kernel
theorem dX0_whyNotDraw_49 : decode cX0_whyNotDraw 49 = .ok (.iload_n 2, 1) := by decide +kernel
theorem dX0_whyNotDraw_50 : decode cX0_whyNotDraw 50 = .ok (.if_icmp .ge 7, 3) := by decide +kernel
theorem dX0_whyNotDraw_53 : decode cX0_whyNotDraw 53 = .ok (.iconst 4, 1) := by decide +kernel
theorem dX0_whyNotDraw_54 : decode cX0_whyNotDraw 54 = .ok (.goto 4, 3) := by decide +kernel
theorem dX0_whyNotDraw_57 : decode cX0_whyNotDraw 57 = .ok (.iconst 0, 1) := by decide +kernel
theorem dX0_whyNotDraw_58 : decode cX0_whyNotDraw 58 = .ok (.ireturn, 1) := by decide +kernel
theorem dX0_whyNotLull_0 : decode cX0_whyNotLull 0 = .ok (.aload_n 0, 1) := by decide +kernel
theorem dX0_whyNotLull_1 : decode cX0_whyNotLull 1 = .ok (.getfield 15, 3) := by decide +kernel
theorem dX0_whyNotLull_4 : decode cX0_whyNotLull 4 = .ok (.iload_n 1, 1) := by decide +kernel
theorem dX0_whyNotLull_5 : decode cX0_whyNotLull 5 = .ok (.invokevirtual 21, 3) := by decide +kernel
theorem dX0_whyNotLull_8 : decode cX0_whyNotLull 8 = .ok (.ifCond .ne 5, 3) := by decide +kernel
theorem dX0_whyNotLull_11 : decode cX0_whyNotLull 11 = .ok (.iconst 1, 1) := by decide +kernel
theorem dX0_whyNotLull_12 : decode cX0_whyNotLull 12 = .ok (.ireturn, 1) := by decide +kernel
theorem dX0_whyNotLull_13 : decode cX0_whyNotLull 13 = .ok (.aload_n 0, 1) := by decide +kernel
theorem dX0_whyNotLull_14 : decode cX0_whyNotLull 14 = .ok (.iload_n 1, 1) := by decide +kernel
theorem dX0_whyNotLull_15 : decode cX0_whyNotLull 15 = .ok (.invokevirtual 27, 3) := by decide +kernel
theorem dX0_whyNotLull_18 : decode cX0_whyNotLull 18 = .ok (.ifCond .ne 5, 3) := by decide +kernel
theorem dX0_whyNotLull_21 : decode cX0_whyNotLull 21 = .ok (.iconst 2, 1) := by decide +kernel
theorem dX0_whyNotLull_22 : decode cX0_whyNotLull 22 = .ok (.ireturn, 1) := by decide +kernel
theorem dX0_whyNotLull_23 : decode cX0_whyNotLull 23 = .ok (.aload_n 0, 1) := by decide +kernel
theorem dX0_whyNotLull_24 : decode cX0_whyNotLull 24 = .ok (.getfield 15, 3) := by decide +kernel
theorem dX0_whyNotLull_27 : decode cX0_whyNotLull 27 = .ok (.iload_n 1, 1) := by decide +kernel
theorem dX0_whyNotLull_28 : decode cX0_whyNotLull 28 = .ok (.invokevirtual 37, 3) := by decide +kernel
theorem dX0_whyNotLull_31 : decode cX0_whyNotLull 31 = .ok (.ifCond .eq 7, 3) := by decide +kernel
theorem dX0_whyNotLull_34 : decode cX0_whyNotLull 34 = .ok (.iconst 0, 1) := by decide +kernel
theorem dX0_whyNotLull_35 : decode cX0_whyNotLull 35 = .ok (.goto 4, 3) := by decide +kernel
theorem dX0_whyNotLull_38 : decode cX0_whyNotLull 38 = .ok (.iconst 3, 1) := by decide +kernel
theorem dX0_whyNotLull_39 : decode cX0_whyNotLull 39 = .ok (.ireturn, 1) := by decide +kernel
theorem dX0_whyNotCoin_0 : decode cX0_whyNotCoin 0 = .ok (.aload_n 0, 1) := by decide +kernel
theorem dX0_whyNotCoin_1 : decode cX0_whyNotCoin 1 = .ok (.getfield 15, 3) := by decide +kernel
theorem dX0_whyNotCoin_4 : decode cX0_whyNotCoin 4 = .ok (.iload_n 1, 1) := by decide +kernel
theorem dX0_whyNotCoin_5 : decode cX0_whyNotCoin 5 = .ok (.invokevirtual 21, 3) := by decide +kernel
theorem dX0_whyNotCoin_8 : decode cX0_whyNotCoin 8 = .ok (.ifCond .ne 5, 3) := by decide +kernel
theorem dX0_whyNotCoin_11 : decode cX0_whyNotCoin 11 = .ok (.iconst 1, 1) := by decide +kernel
theorem dX0_whyNotCoin_12 : decode cX0_whyNotCoin 12 = .ok (.ireturn, 1) := by decide +kernel
theorem dX0_whyNotCoin_13 : decode cX0_whyNotCoin 13 = .ok (.aload_n 0, 1) := by decide +kernel
theorem dX0_whyNotCoin_14 : decode cX0_whyNotCoin 14 = .ok (.iload_n 1, 1) := by decide +kernel
theorem dX0_whyNotCoin_15 : decode cX0_whyNotCoin 15 = .ok (.invokevirtual 27, 3) := by decide +kernel
theorem dX0_whyNotCoin_18 : decode cX0_whyNotCoin 18 = .ok (.ifCond .eq 7, 3) := by decide +kernel
theorem dX0_whyNotCoin_21 : decode cX0_whyNotCoin 21 = .ok (.iconst 2, 1) := by decide +kernel
theorem dX0_whyNotCoin_22 : decode cX0_whyNotCoin 22 = .ok (.goto 4, 3) := by decide +kernel
theorem dX0_whyNotCoin_25 : decode cX0_whyNotCoin 25 = .ok (.iconst 0, 1) := by decide +kernel
theorem dX0_whyNotCoin_26 : decode cX0_whyNotCoin 26 = .ok (.ireturn, 1) := by decide +kernel
theorem dX0_whyNotTold_0 : decode cX0_whyNotTold 0 = .ok (.lload_n 1, 1) := by decide +kernel
theorem dX0_whyNotTold_1 : decode cX0_whyNotTold 1 = .ok (.ldc2_w 40, 3) := by decide +kernel
theorem dX0_whyNotTold_4 : decode cX0_whyNotTold 4 = .ok (.lcmp, 1) := by decide +kernel
theorem dX0_whyNotTold_5 : decode cX0_whyNotTold 5 = .ok (.ifCond .eq 11, 3) := by decide +kernel
theorem dX0_whyNotTold_8 : decode cX0_whyNotTold 8 = .ok (.lload_n 1, 1) := by decide +kernel
theorem dX0_whyNotTold_9 : decode cX0_whyNotTold 9 = .ok (.ldc2_w 42, 3) := by decide +kernel
theorem dX0_whyNotTold_12 : decode cX0_whyNotTold 12 = .ok (.lcmp, 1) := by decide +kernel
theorem dX0_whyNotTold_13 : decode cX0_whyNotTold 13 = .ok (.ifCond .ne 5, 3) := by decide +kernel
theorem dX0_whyNotTold_16 : decode cX0_whyNotTold 16 = .ok (.iconst 0, 1) := by decide +kernel
theorem dX0_whyNotTold_17 : decode cX0_whyNotTold 17 = .ok (.ireturn, 1) := by decide +kernel
theorem dX0_whyNotTold_18 : decode cX0_whyNotTold 18 = .ok (.lload_n 1, 1) := by decide +kernel
theorem dX0_whyNotTold_19 : decode cX0_whyNotTold 19 = .ok (.lconst 0, 1) := by decide +kernel
theorem dX0_whyNotTold_20 : decode cX0_whyNotTold 20 = .ok (.lcmp, 1) := by decide +kernel
theorem dX0_whyNotTold_21 : decode cX0_whyNotTold 21 = .ok (.ifCond .lt 11, 3) := by decide +kernel
theorem dX0_whyNotTold_24 : decode cX0_whyNotTold 24 = .ok (.lload_n 1, 1) := by decide +kernel
theorem dX0_whyNotTold_25 : decode cX0_whyNotTold 25 = .ok (.ldc2_w 44, 3) := by decide +kernel
theorem dX0_whyNotTold_28 : decode cX0_whyNotTold 28 = .ok (.lcmp, 1) := by decide +kernel
theorem dX0_whyNotTold_29 : decode cX0_whyNotTold 29 = .ok (.ifCond .lt 5, 3) := by decide +kernel
theorem dX0_whyNotTold_32 : decode cX0_whyNotTold 32 = .ok (.iconst 1, 1) := by decide +kernel
theorem dX0_whyNotTold_33 : decode cX0_whyNotTold 33 = .ok (.ireturn, 1) := by decide +kernel
theorem dX0_whyNotTold_34 : decode cX0_whyNotTold 34 = .ok (.lload_n 1, 1) := by decide +kernel
theorem dX0_whyNotTold_35 : decode cX0_whyNotTold 35 = .ok (.l2i, 1) := by decide +kernel
theorem dX0_whyNotTold_36 : decode cX0_whyNotTold 36 = .ok (.istore_n 3, 1) := by decide +kernel
theorem dX0_whyNotTold_37 : decode cX0_whyNotTold 37 = .ok (.iload_n 3, 1) := by decide +kernel
theorem dX0_whyNotTold_38 : decode cX0_whyNotTold 38 = .ok (.sipush 1000, 3) := by decide +kernel
theorem dX0_whyNotTold_41 : decode cX0_whyNotTold 41 = .ok (.if_icmp .ge 16, 3) := by decide +kernel
theorem dX0_whyNotTold_44 : decode cX0_whyNotTold 44 = .ok (.aload_n 0, 1) := by decide +kernel
theorem dX0_whyNotTold_45 : decode cX0_whyNotTold 45 = .ok (.iload_n 3, 1) := by decide +kernel
theorem dX0_whyNotTold_46 : decode cX0_whyNotTold 46 = .ok (.bipush 100, 2) := by decide +kernel
theorem dX0_whyNotTold_48 : decode cX0_whyNotTold 48 = .ok (.idiv, 1) := by decide +kernel
theorem dX0_whyNotTold_49 : decode cX0_whyNotTold 49 = .ok (.iload_n 3, 1) := by decide +kernel
theorem dX0_whyNotTold_50 : decode cX0_whyNotTold 50 = .ok (.bipush 100, 2) := by decide +kernel
theorem dX0_whyNotTold_52 : decode cX0_whyNotTold 52 = .ok (.irem, 1) := by decide +kernel
theorem dX0_whyNotTold_53 : decode cX0_whyNotTold 53 = .ok (.invokestatic 46, 3) := by decide +kernel
theorem dX0_whyNotTold_56 : decode cX0_whyNotTold 56 = .ok (.ireturn, 1) := by decide +kernel
theorem dX0_whyNotTold_57 : decode cX0_whyNotTold 57 = .ok (.iload_n 3, 1) := by decide +kernel
theorem dX0_whyNotTold_58 : decode cX0_whyNotTold 58 = .ok (.sipush 2000, 3) := by decide +kernel
theorem dX0_whyNotTold_61 : decode cX0_whyNotTold 61 = .ok (.if_icmp .ge 5, 3) := by decide +kernel
theorem dX0_whyNotTold_64 : decode cX0_whyNotTold 64 = .ok (.iconst 1, 1) := by decide +kernel
theorem dX0_whyNotTold_65 : decode cX0_whyNotTold 65 = .ok (.ireturn, 1) := by decide +kernel
theorem dX0_whyNotTold_66 : decode cX0_whyNotTold 66 = .ok (.iload_n 3, 1) := by decide +kernel
theorem dX0_whyNotTold_67 : decode cX0_whyNotTold 67 = .ok (.sipush 2100, 3) := by decide +kernel
theorem dX0_whyNotTold_70 : decode cX0_whyNotTold 70 = .ok (.if_icmp .ge 15, 3) := by decide +kernel
theorem dX0_whyNotTold_73 : decode cX0_whyNotTold 73 = .ok (.aload_n 0, 1) := by decide +kernel
theorem dX0_whyNotTold_74 : decode cX0_whyNotTold 74 = .ok (.iload_n 3, 1) := by decide +kernel
theorem dX0_whyNotTold_75 : decode cX0_whyNotTold 75 = .ok (.sipush 2000, 3) := by decide +kernel
theorem dX0_whyNotTold_78 : decode cX0_whyNotTold 78 = .ok (.isub, 1) := by decide +kernel
theorem dX0_whyNotTold_79 : decode cX0_whyNotTold 79 = .ok (.invokestatic 50, 3) := by decide +kernel
theorem dX0_whyNotTold_82 : decode cX0_whyNotTold 82 = .ok (.goto 12, 3) := by decide +kernel
theorem dX0_whyNotTold_85 : decode cX0_whyNotTold 85 = .ok (.aload_n 0, 1) := by decide +kernel
theorem dX0_whyNotTold_86 : decode cX0_whyNotTold 86 = .ok (.iload_n 3, 1) := by decide +kernel
theorem dX0_whyNotTold_87 : decode cX0_whyNotTold 87 = .ok (.sipush 2100, 3) := by decide +kernel
theorem dX0_whyNotTold_90 : decode cX0_whyNotTold 90 = .ok (.isub, 1) := by decide +kernel
theorem dX0_whyNotTold_91 : decode cX0_whyNotTold 91 = .ok (.invokestatic 54, 3) := by decide +kernel
theorem dX0_whyNotTold_94 : decode cX0_whyNotTold 94 = .ok (.ireturn, 1) := by decide +kernel
theorem dX0_carryOut_0 : decode cX0_carryOut 0 = .ok (.lload_n 2, 1) := by decide +kernel
theorem dX0_carryOut_1 : decode cX0_carryOut 1 = .ok (.l2i, 1) := by decide +kernel
theorem dX0_carryOut_2 : decode cX0_carryOut 2 = .ok (.istore 4, 2) := by decide +kernel
theorem dX0_carryOut_4 : decode cX0_carryOut 4 = .ok (.iload 4, 2) := by decide +kernel
theorem dX0_carryOut_6 : decode cX0_carryOut 6 = .ok (.iconst (-1), 1) := by decide +kernel
theorem dX0_carryOut_7 : decode cX0_carryOut 7 = .ok (.if_icmp .ne 10, 3) := by decide +kernel
theorem dX0_carryOut_10 : decode cX0_carryOut 10 = .ok (.aload_n 1, 1) := by decide +kernel
theorem dX0_carryOut_11 : decode cX0_carryOut 11 = .ok (.invokevirtual 57, 3) := by decide +kernel
theorem dX0_carryOut_14 : decode cX0_carryOut 14 = .ok (.goto 80, 3) := by decide +kernel
theorem dX0_carryOut_17 : decode cX0_carryOut 17 = .ok (.iload 4, 2) := by decide +kernel
theorem dX0_carryOut_19 : decode cX0_carryOut 19 = .ok (.sipush 3000, 3) := by decide +kernel
theorem dX0_carryOut_22 : decode cX0_carryOut 22 = .ok (.if_icmp .ne 12, 3) := by decide +kernel
theorem dX0_carryOut_25 : decode cX0_carryOut 25 = .ok (.aload_n 0, 1) := by decide +kernel
theorem dX0_carryOut_26 : decode cX0_carryOut 26 = .ok (.aload_n 1, 1) := by decide +kernel
theorem dX0_carryOut_27 : decode cX0_carryOut 27 = .ok (.invokevirtual 60, 3) := by decide +kernel
theorem dX0_carryOut_30 : decode cX0_carryOut 30 = .ok (.pop, 1) := by decide +kernel
theorem dX0_carryOut_31 : decode cX0_carryOut 31 = .ok (.goto 63, 3) := by decide +kernel
theorem dX0_carryOut_34 : decode cX0_carryOut 34 = .ok (.iload 4, 2) := by decide +kernel
theorem dX0_carryOut_36 : decode cX0_carryOut 36 = .ok (.sipush 1000, 3) := by decide +kernel
theorem dX0_carryOut_39 : decode cX0_carryOut 39 = .ok (.if_icmp .ge 22, 3) := by decide +kernel
theorem dX0_carryOut_42 : decode cX0_carryOut 42 = .ok (.aload_n 0, 1) := by decide +kernel
theorem dX0_carryOut_43 : decode cX0_carryOut 43 = .ok (.aload_n 1, 1) := by decide +kernel
theorem dX0_carryOut_44 : decode cX0_carryOut 44 = .ok (.iload 4, 2) := by decide +kernel
theorem dX0_carryOut_46 : decode cX0_carryOut 46 = .ok (.bipush 100, 2) := by decide +kernel
theorem dX0_carryOut_48 : decode cX0_carryOut 48 = .ok (.idiv, 1) := by decide +kernel
theorem dX0_carryOut_49 : decode cX0_carryOut 49 = .ok (.iload 4, 2) := by decide +kernel
theorem dX0_carryOut_51 : decode cX0_carryOut 51 = .ok (.bipush 100, 2) := by decide +kernel
theorem dX0_carryOut_53 : decode cX0_carryOut 53 = .ok (.irem, 1) := by decide +kernel
theorem dX0_carryOut_54 : decode cX0_carryOut 54 = .ok (.invokevirtual 64, 3) := by decide +kernel
theorem dX0_carryOut_57 : decode cX0_carryOut 57 = .ok (.pop, 1) := by decide +kernel
theorem dX0_carryOut_58 : decode cX0_carryOut 58 = .ok (.goto 36, 3) := by decide +kernel
theorem dX0_carryOut_61 : decode cX0_carryOut 61 = .ok (.iload 4, 2) := by decide +kernel
theorem dX0_carryOut_63 : decode cX0_carryOut 63 = .ok (.sipush 2100, 3) := by decide +kernel
theorem dX0_carryOut_66 : decode cX0_carryOut 66 = .ok (.if_icmp .ge 16, 3) := by decide +kernel
theorem dX0_carryOut_69 : decode cX0_carryOut 69 = .ok (.aload_n 1, 1) := by decide +kernel
theorem dX0_carryOut_70 : decode cX0_carryOut 70 = .ok (.iload 4, 2) := by decide +kernel
theorem dX0_carryOut_72 : decode cX0_carryOut 72 = .ok (.sipush 2000, 3) := by decide +kernel
theorem dX0_carryOut_75 : decode cX0_carryOut 75 = .ok (.isub, 1) := by decide +kernel
theorem dX0_carryOut_76 : decode cX0_carryOut 76 = .ok (.invokevirtual 67, 3) := by decide +kernel
theorem dX0_carryOut_79 : decode cX0_carryOut 79 = .ok (.goto 15, 3) := by decide +kernel
theorem dX0_carryOut_82 : decode cX0_carryOut 82 = .ok (.aload_n 0, 1) := by decide +kernel
theorem dX0_carryOut_83 : decode cX0_carryOut 83 = .ok (.aload_n 1, 1) := by decide +kernel
theorem dX0_carryOut_84 : decode cX0_carryOut 84 = .ok (.iload 4, 2) := by decide +kernel
theorem dX0_carryOut_86 : decode cX0_carryOut 86 = .ok (.sipush 2100, 3) := by decide +kernel
theorem dX0_carryOut_89 : decode cX0_carryOut 89 = .ok (.isub, 1) := by decide +kernel
theorem dX0_carryOut_90 : decode cX0_carryOut 90 = .ok (.invokevirtual 71, 3) := by decide +kernel
theorem dX0_carryOut_93 : decode cX0_carryOut 93 = .ok (.pop, 1) := by decide +kernel
theorem dX0_carryOut_94 : decode cX0_carryOut 94 = .ok (.return_, 1) := by decide +kernel
theorem dX0_drawFrom_0 : decode cX0_drawFrom 0 = .ok (.aload_n 0, 1) := by decide +kernel
theorem dX0_drawFrom_1 : decode cX0_drawFrom 1 = .ok (.getfield 9, 3) := by decide +kernel
theorem dX0_drawFrom_4 : decode cX0_drawFrom 4 = .ok (.aload_n 1, 1) := by decide +kernel
theorem dX0_drawFrom_5 : decode cX0_drawFrom 5 = .ok (.invokevirtual 74, 3) := by decide +kernel
theorem dX0_drawFrom_8 : decode cX0_drawFrom 8 = .ok (.aload_n 0, 1) := by decide +kernel
theorem dX0_drawFrom_9 : decode cX0_drawFrom 9 = .ok (.getfield 9, 3) := by decide +kernel
theorem dX0_drawFrom_12 : decode cX0_drawFrom 12 = .ok (.iload_n 2, 1) := by decide +kernel
theorem dX0_drawFrom_13 : decode cX0_drawFrom 13 = .ok (.iload_n 3, 1) := by decide +kernel
theorem dX0_drawFrom_14 : decode cX0_drawFrom 14 = .ok (.invokevirtual 80, 3) := by decide +kernel
theorem dX0_drawFrom_17 : decode cX0_drawFrom 17 = .ok (.istore 4, 2) := by decide +kernel
theorem dX0_drawFrom_19 : decode cX0_drawFrom 19 = .ok (.aload_n 1, 1) := by decide +kernel
theorem dX0_drawFrom_20 : decode cX0_drawFrom 20 = .ok (.iload 4, 2) := by decide +kernel
theorem dX0_drawFrom_22 : decode cX0_drawFrom 22 = .ok (.invokestatic 84, 3) := by decide +kernel
theorem dX0_drawFrom_25 : decode cX0_drawFrom 25 = .ok (.aload_n 1, 1) := by decide +kernel
theorem dX0_drawFrom_26 : decode cX0_drawFrom 26 = .ok (.iload_n 2, 1) := by decide +kernel
theorem dX0_drawFrom_27 : decode cX0_drawFrom 27 = .ok (.iload_n 3, 1) := by decide +kernel
theorem dX0_drawFrom_28 : decode cX0_drawFrom 28 = .ok (.invokevirtual 88, 3) := by decide +kernel
theorem dX0_drawFrom_31 : decode cX0_drawFrom 31 = .ok (.iload 4, 2) := by decide +kernel
theorem dX0_drawFrom_33 : decode cX0_drawFrom 33 = .ok (.invokestatic 92, 3) := by decide +kernel
theorem dX0_drawFrom_36 : decode cX0_drawFrom 36 = .ok (.ireturn, 1) := by decide +kernel
theorem dX0_coinInto_0 : decode cX0_coinInto 0 = .ok (.aload_n 0, 1) := by decide +kernel
theorem dX0_coinInto_1 : decode cX0_coinInto 1 = .ok (.getfield 9, 3) := by decide +kernel
theorem dX0_coinInto_4 : decode cX0_coinInto 4 = .ok (.aload_n 1, 1) := by decide +kernel
theorem dX0_coinInto_5 : decode cX0_coinInto 5 = .ok (.invokevirtual 74, 3) := by decide +kernel
theorem dX0_coinInto_8 : decode cX0_coinInto 8 = .ok (.aload_n 0, 1) := by decide +kernel
theorem dX0_coinInto_9 : decode cX0_coinInto 9 = .ok (.getfield 9, 3) := by decide +kernel
theorem dX0_coinInto_12 : decode cX0_coinInto 12 = .ok (.iload_n 2, 1) := by decide +kernel
theorem dX0_coinInto_13 : decode cX0_coinInto 13 = .ok (.iconst 0, 1) := by decide +kernel
theorem dX0_coinInto_14 : decode cX0_coinInto 14 = .ok (.invokevirtual 80, 3) := by decide +kernel
theorem dX0_coinInto_17 : decode cX0_coinInto 17 = .ok (.istore_n 3, 1) := by decide +kernel
theorem dX0_coinInto_18 : decode cX0_coinInto 18 = .ok (.aload_n 1, 1) := by decide +kernel
theorem dX0_coinInto_19 : decode cX0_coinInto 19 = .ok (.iload_n 2, 1) := by decide +kernel
theorem dX0_coinInto_20 : decode cX0_coinInto 20 = .ok (.invokevirtual 97, 3) := by decide +kernel
theorem dX0_coinInto_23 : decode cX0_coinInto 23 = .ok (.aload_n 1, 1) := by decide +kernel
theorem dX0_coinInto_24 : decode cX0_coinInto 24 = .ok (.iload_n 3, 1) := by decide +kernel
theorem dX0_coinInto_25 : decode cX0_coinInto 25 = .ok (.invokestatic 84, 3) := by decide +kernel
theorem dX0_coinInto_28 : decode cX0_coinInto 28 = .ok (.iload_n 3, 1) := by decide +kernel
theorem dX0_coinInto_29 : decode cX0_coinInto 29 = .ok (.invokestatic 92, 3) := by decide +kernel
theorem dX0_coinInto_32 : decode cX0_coinInto 32 = .ok (.ireturn, 1) := by decide +kernel
theorem dX0_thunderOver_0 : decode cX0_thunderOver 0 = .ok (.aload_n 1, 1) := by decide +kernel
theorem dX0_thunderOver_1 : decode cX0_thunderOver 1 = .ok (.invokevirtual 100, 3) := by decide +kernel
theorem dX0_thunderOver_4 : decode cX0_thunderOver 4 = .ok (.istore_n 2, 1) := by decide +kernel
theorem dX0_thunderOver_5 : decode cX0_thunderOver 5 = .ok (.aload_n 1, 1) := by decide +kernel
theorem dX0_thunderOver_6 : decode cX0_thunderOver 6 = .ok (.iload_n 2, 1) := by decide +kernel
theorem dX0_thunderOver_7 : decode cX0_thunderOver 7 = .ok (.invokestatic 84, 3) := by decide +kernel
theorem dX0_thunderOver_10 : decode cX0_thunderOver 10 = .ok (.iload_n 2, 1) := by decide +kernel
theorem dX0_thunderOver_11 : decode cX0_thunderOver 11 = .ok (.invokestatic 92, 3) := by decide +kernel
theorem dX0_thunderOver_14 : decode cX0_thunderOver 14 = .ok (.ireturn, 1) := by decide +kernel
theorem dX0_rouse_0 : decode cX0_rouse 0 = .ok (.iconst 0, 1) := by decide +kernel
theorem dX0_rouse_1 : decode cX0_rouse 1 = .ok (.istore_n 2, 1) := by decide +kernel
theorem dX0_rouse_2 : decode cX0_rouse 2 = .ok (.iload_n 2, 1) := by decide +kernel
theorem dX0_rouse_3 : decode cX0_rouse 3 = .ok (.bipush 10, 2) := by decide +kernel
theorem dX0_rouse_5 : decode cX0_rouse 5 = .ok (.if_icmp .ge 22, 3) := by decide +kernel
theorem dX0_rouse_8 : decode cX0_rouse 8 = .ok (.iload_n 1, 1) := by decide +kernel
theorem dX0_rouse_9 : decode cX0_rouse 9 = .ok (.iload_n 2, 1) := by decide +kernel
theorem dX0_rouse_10 : decode cX0_rouse 10 = .ok (.invokestatic 104, 3) := by decide +kernel
theorem dX0_rouse_13 : decode cX0_rouse 13 = .ok (.ifCond .eq 8, 3) := by decide +kernel
theorem dX0_rouse_16 : decode cX0_rouse 16 = .ok (.aload_n 0, 1) := by decide +kernel
theorem dX0_rouse_17 : decode cX0_rouse 17 = .ok (.iload_n 2, 1) := by decide +kernel
theorem dX0_rouse_18 : decode cX0_rouse 18 = .ok (.invokevirtual 97, 3) := by decide +kernel
theorem dX0_rouse_21 : decode cX0_rouse 21 = .ok (.iinc 2 1, 3) := by decide +kernel
theorem dX0_rouse_24 : decode cX0_rouse 24 = .ok (.goto (-22), 3) := by decide +kernel
theorem dX0_rouse_27 : decode cX0_rouse 27 = .ok (.iload_n 1, 1) := by decide +kernel
theorem dX0_rouse_28 : decode cX0_rouse 28 = .ok (.invokestatic 92, 3) := by decide +kernel
theorem dX0_rouse_31 : decode cX0_rouse 31 = .ok (.iconst 2, 1) := by decide +kernel
theorem dX0_rouse_32 : decode cX0_rouse 32 = .ok (.if_icmp .lt 13, 3) := by decide +kernel
theorem dX0_rouse_35 : decode cX0_rouse 35 = .ok (.aload_n 0, 1) := by decide +kernel
theorem dX0_rouse_36 : decode cX0_rouse 36 = .ok (.dup, 1) := by decide +kernel
theorem dX0_rouse_37 : decode cX0_rouse 37 = .ok (.getfield 108, 3) := by decide +kernel
theorem dX0_rouse_40 : decode cX0_rouse 40 = .ok (.iload_n 1, 1) := by decide +kernel
theorem dX0_rouse_41 : decode cX0_rouse 41 = .ok (.ior, 1) := by decide +kernel
theorem dX0_rouse_42 : decode cX0_rouse 42 = .ok (.putfield 108, 3) := by decide +kernel
theorem dX0_rouse_45 : decode cX0_rouse 45 = .ok (.return_, 1) := by decide +kernel
theorem dX1_init_0 : decode cX1_init 0 = .ok (.aload_n 0, 1) := by decide +kernel
theorem dX1_init_1 : decode cX1_init 1 = .ok (.invokespecial 3, 3) := by decide +kernel
theorem dX1_init_4 : decode cX1_init 4 = .ok (.aload_n 0, 1) := by decide +kernel
theorem dX1_init_5 : decode cX1_init 5 = .ok (.iconst 0, 1) := by decide +kernel
theorem dX1_init_6 : decode cX1_init 6 = .ok (.putfield 9, 3) := by decide +kernel
theorem dX1_init_9 : decode cX1_init 9 = .ok (.aload_n 0, 1) := by decide +kernel
theorem dX1_init_10 : decode cX1_init 10 = .ok (.iconst 0, 1) := by decide +kernel
theorem dX1_init_11 : decode cX1_init 11 = .ok (.putfield 15, 3) := by decide +kernel
theorem dX1_init_14 : decode cX1_init 14 = .ok (.aload_n 0, 1) := by decide +kernel
theorem dX1_init_15 : decode cX1_init 15 = .ok (.iconst 0, 1) := by decide +kernel
theorem dX1_init_16 : decode cX1_init 16 = .ok (.putfield 18, 3) := by decide +kernel
theorem dX1_init_19 : decode cX1_init 19 = .ok (.aload_n 0, 1) := by decide +kernel
theorem dX1_init_20 : decode cX1_init 20 = .ok (.iconst 0, 1) := by decide +kernel
theorem dX1_init_21 : decode cX1_init 21 = .ok (.putfield 21, 3) := by decide +kernel
theorem dX1_init_24 : decode cX1_init 24 = .ok (.aload_n 0, 1) := by decide +kernel
theorem dX1_init_25 : decode cX1_init 25 = .ok (.getstatic 24, 3) := by decide +kernel
theorem dX1_init_28 : decode cX1_init 28 = .ok (.putfield 28, 3) := by decide +kernel
theorem dX1_init_31 : decode cX1_init 31 = .ok (.aload_n 0, 1) := by decide +kernel
theorem dX1_init_32 : decode cX1_init 32 = .ok (.bipush 10, 2) := by decide +kernel
theorem dX1_init_34 : decode cX1_init 34 = .ok (.newarray .int, 2) := by decide +kernel
theorem dX1_init_36 : decode cX1_init 36 = .ok (.putfield 31, 3) := by decide +kernel
theorem dX1_init_39 : decode cX1_init 39 = .ok (.aload_n 0, 1) := by decide +kernel
theorem dX1_init_40 : decode cX1_init 40 = .ok (.bipush 10, 2) := by decide +kernel
theorem dX1_init_42 : decode cX1_init 42 = .ok (.newarray .int, 2) := by decide +kernel
theorem dX1_init_44 : decode cX1_init 44 = .ok (.putfield 34, 3) := by decide +kernel
theorem dX1_init_47 : decode cX1_init 47 = .ok (.aload_n 0, 1) := by decide +kernel
theorem dX1_init_48 : decode cX1_init 48 = .ok (.bipush 10, 2) := by decide +kernel
theorem dX1_init_50 : decode cX1_init 50 = .ok (.newarray .int, 2) := by decide +kernel
theorem dX1_init_52 : decode cX1_init 52 = .ok (.putfield 37, 3) := by decide +kernel
theorem dX1_init_55 : decode cX1_init 55 = .ok (.aload_n 0, 1) := by decide +kernel
theorem dX1_init_56 : decode cX1_init 56 = .ok (.bipush 10, 2) := by decide +kernel
theorem dX1_init_58 : decode cX1_init 58 = .ok (.newarray .int, 2) := by decide +kernel
theorem dX1_init_60 : decode cX1_init 60 = .ok (.putfield 40, 3) := by decide +kernel
theorem dX1_init_63 : decode cX1_init 63 = .ok (.aload_n 0, 1) := by decide +kernel
theorem dX1_init_64 : decode cX1_init 64 = .ok (.bipush 10, 2) := by decide +kernel
theorem dX1_init_66 : decode cX1_init 66 = .ok (.newarray .int, 2) := by decide +kernel
theorem dX1_init_68 : decode cX1_init 68 = .ok (.putfield 43, 3) := by decide +kernel
theorem dX1_init_71 : decode cX1_init 71 = .ok (.aload_n 0, 1) := by decide +kernel
theorem dX1_init_72 : decode cX1_init 72 = .ok (.bipush 10, 2) := by decide +kernel
theorem dX1_init_74 : decode cX1_init 74 = .ok (.newarray .int, 2) := by decide +kernel
theorem dX1_init_76 : decode cX1_init 76 = .ok (.putfield 46, 3) := by decide +kernel
theorem dX1_init_79 : decode cX1_init 79 = .ok (.aload_n 0, 1) := by decide +kernel
theorem dX1_init_80 : decode cX1_init 80 = .ok (.bipush 6, 2) := by decide +kernel
theorem dX1_init_82 : decode cX1_init 82 = .ok (.newarray .int, 2) := by decide +kernel
theorem dX1_init_84 : decode cX1_init 84 = .ok (.putfield 49, 3) := by decide +kernel
theorem dX1_init_87 : decode cX1_init 87 = .ok (.aload_n 0, 1) := by decide +kernel
theorem dX1_init_88 : decode cX1_init 88 = .ok (.bipush 6, 2) := by decide +kernel
theorem dX1_init_90 : decode cX1_init 90 = .ok (.newarray .int, 2) := by decide +kernel
theorem dX1_init_92 : decode cX1_init 92 = .ok (.putfield 52, 3) := by decide +kernel
theorem dX1_init_95 : decode cX1_init 95 = .ok (.return_, 1) := by decide +kernel
theorem dX1_hasWell_0 : decode cX1_hasWell 0 = .ok (.iload_n 1, 1) := by decide +kernel
theorem dX1_hasWell_1 : decode cX1_hasWell 1 = .ok (.ifCond .lt 21, 3) := by decide +kernel
theorem dX1_hasWell_4 : decode cX1_hasWell 4 = .ok (.iload_n 1, 1) := by decide +kernel
theorem dX1_hasWell_5 : decode cX1_hasWell 5 = .ok (.aload_n 0, 1) := by decide +kernel
theorem dX1_hasWell_6 : decode cX1_hasWell 6 = .ok (.getfield 15, 3) := by decide +kernel
theorem dX1_hasWell_9 : decode cX1_hasWell 9 = .ok (.if_icmp .ge 13, 3) := by decide +kernel
theorem dX1_hasWell_12 : decode cX1_hasWell 12 = .ok (.iload_n 1, 1) := by decide +kernel
theorem dX1_hasWell_13 : decode cX1_hasWell 13 = .ok (.bipush 10, 2) := by decide +kernel
theorem dX1_hasWell_15 : decode cX1_hasWell 15 = .ok (.if_icmp .ge 7, 3) := by decide +kernel
theorem dX1_hasWell_18 : decode cX1_hasWell 18 = .ok (.iconst 1, 1) := by decide +kernel
theorem dX1_hasWell_19 : decode cX1_hasWell 19 = .ok (.goto 4, 3) := by decide +kernel
theorem dX1_hasWell_22 : decode cX1_hasWell 22 = .ok (.iconst 0, 1) := by decide +kernel
theorem dX1_hasWell_23 : decode cX1_hasWell 23 = .ok (.ireturn, 1) := by decide +kernel
theorem dX1_hasHouse_0 : decode cX1_hasHouse 0 = .ok (.iload_n 1, 1) := by decide +kernel
theorem dX1_hasHouse_1 : decode cX1_hasHouse 1 = .ok (.ifCond .lt 21, 3) := by decide +kernel
theorem dX1_hasHouse_4 : decode cX1_hasHouse 4 = .ok (.iload_n 1, 1) := by decide +kernel
theorem dX1_hasHouse_5 : decode cX1_hasHouse 5 = .ok (.aload_n 0, 1) := by decide +kernel
theorem dX1_hasHouse_6 : decode cX1_hasHouse 6 = .ok (.getfield 18, 3) := by decide +kernel
theorem dX1_hasHouse_9 : decode cX1_hasHouse 9 = .ok (.if_icmp .ge 13, 3) := by decide +kernel
theorem dX1_hasHouse_12 : decode cX1_hasHouse 12 = .ok (.iload_n 1, 1) := by decide +kernel
theorem dX1_hasHouse_13 : decode cX1_hasHouse 13 = .ok (.bipush 6, 2) := by decide +kernel
theorem dX1_hasHouse_15 : decode cX1_hasHouse 15 = .ok (.if_icmp .ge 7, 3) := by decide +kernel
theorem dX1_hasHouse_18 : decode cX1_hasHouse 18 = .ok (.iconst 1, 1) := by decide +kernel
theorem dX1_hasHouse_19 : decode cX1_hasHouse 19 = .ok (.goto 4, 3) := by decide +kernel
theorem dX1_hasHouse_22 : decode cX1_hasHouse 22 = .ok (.iconst 0, 1) := by decide +kernel
theorem dX1_hasHouse_23 : decode cX1_hasHouse 23 = .ok (.ireturn, 1) := by decide +kernel
theorem dX1_allWells_0 : decode cX1_allWells 0 = .ok (.iconst 1, 1) := by decide +kernel
theorem dX1_allWells_1 : decode cX1_allWells 1 = .ok (.aload_n 0, 1) := by decide +kernel
theorem dX1_allWells_2 : decode cX1_allWells 2 = .ok (.getfield 15, 3) := by decide +kernel
theorem dX1_allWells_5 : decode cX1_allWells 5 = .ok (.ishl, 1) := by decide +kernel
theorem dX1_allWells_6 : decode cX1_allWells 6 = .ok (.iconst 1, 1) := by decide +kernel
theorem dX1_allWells_7 : decode cX1_allWells 7 = .ok (.isub, 1) := by decide +kernel
theorem dX1_allWells_8 : decode cX1_allWells 8 = .ok (.ireturn, 1) := by decide +kernel
theorem dX1_roundOf_0 : decode cX1_roundOf 0 = .ok (.iload_n 1, 1) := by decide +kernel
theorem dX1_roundOf_1 : decode cX1_roundOf 1 = .ok (.ifCond .lt 21, 3) := by decide +kernel
theorem dX1_roundOf_4 : decode cX1_roundOf 4 = .ok (.iload_n 1, 1) := by decide +kernel
theorem dX1_roundOf_5 : decode cX1_roundOf 5 = .ok (.aload_n 0, 1) := by decide +kernel
theorem dX1_roundOf_6 : decode cX1_roundOf 6 = .ok (.getfield 31, 3) := by decide +kernel
theorem dX1_roundOf_9 : decode cX1_roundOf 9 = .ok (.arraylength, 1) := by decide +kernel
theorem dX1_roundOf_10 : decode cX1_roundOf 10 = .ok (.if_icmp .ge 12, 3) := by decide +kernel
theorem dX1_roundOf_13 : decode cX1_roundOf 13 = .ok (.aload_n 0, 1) := by decide +kernel
theorem dX1_roundOf_14 : decode cX1_roundOf 14 = .ok (.getfield 31, 3) := by decide +kernel
theorem dX1_roundOf_17 : decode cX1_roundOf 17 = .ok (.iload_n 1, 1) := by decide +kernel
theorem dX1_roundOf_18 : decode cX1_roundOf 18 = .ok (.iaload, 1) := by decide +kernel
theorem dX1_roundOf_19 : decode cX1_roundOf 19 = .ok (.goto 4, 3) := by decide +kernel
theorem dX1_roundOf_22 : decode cX1_roundOf 22 = .ok (.iconst 0, 1) := by decide +kernel
theorem dX1_roundOf_23 : decode cX1_roundOf 23 = .ok (.ireturn, 1) := by decide +kernel
theorem dX1_upOf_0 : decode cX1_upOf 0 = .ok (.iload_n 1, 1) := by decide +kernel
theorem dX1_upOf_1 : decode cX1_upOf 1 = .ok (.ifCond .lt 21, 3) := by decide +kernel
theorem dX1_upOf_4 : decode cX1_upOf 4 = .ok (.iload_n 1, 1) := by decide +kernel
theorem dX1_upOf_5 : decode cX1_upOf 5 = .ok (.aload_n 0, 1) := by decide +kernel
theorem dX1_upOf_6 : decode cX1_upOf 6 = .ok (.getfield 34, 3) := by decide +kernel
theorem dX1_upOf_9 : decode cX1_upOf 9 = .ok (.arraylength, 1) := by decide +kernel
theorem dX1_upOf_10 : decode cX1_upOf 10 = .ok (.if_icmp .ge 12, 3) := by decide +kernel
theorem dX1_upOf_13 : decode cX1_upOf 13 = .ok (.aload_n 0, 1) := by decide +kernel
theorem dX1_upOf_14 : decode cX1_upOf 14 = .ok (.getfield 34, 3) := by decide +kernel
theorem dX1_upOf_17 : decode cX1_upOf 17 = .ok (.iload_n 1, 1) := by decide +kernel
theorem dX1_upOf_18 : decode cX1_upOf 18 = .ok (.iaload, 1) := by decide +kernel
theorem dX1_upOf_19 : decode cX1_upOf 19 = .ok (.goto 4, 3) := by decide +kernel
theorem dX1_upOf_22 : decode cX1_upOf 22 = .ok (.iconst 0, 1) := by decide +kernel
theorem dX1_upOf_23 : decode cX1_upOf 23 = .ok (.ireturn, 1) := by decide +kernel
theorem dX1_toldShiftOf_0 : decode cX1_toldShiftOf 0 = .ok (.iload_n 1, 1) := by decide +kernel
theorem dX1_toldShiftOf_1 : decode cX1_toldShiftOf 1 = .ok (.ifCond .lt 21, 3) := by decide +kernel
theorem dX1_toldShiftOf_4 : decode cX1_toldShiftOf 4 = .ok (.iload_n 1, 1) := by decide +kernel
theorem dX1_toldShiftOf_5 : decode cX1_toldShiftOf 5 = .ok (.aload_n 0, 1) := by decide +kernel
theorem dX1_toldShiftOf_6 : decode cX1_toldShiftOf 6 = .ok (.getfield 37, 3) := by decide +kernel
theorem dX1_toldShiftOf_9 : decode cX1_toldShiftOf 9 = .ok (.arraylength, 1) := by decide +kernel
theorem dX1_toldShiftOf_10 : decode cX1_toldShiftOf 10 = .ok (.if_icmp .ge 12, 3) := by decide +kernel
theorem dX1_toldShiftOf_13 : decode cX1_toldShiftOf 13 = .ok (.aload_n 0, 1) := by decide +kernel
theorem dX1_toldShiftOf_14 : decode cX1_toldShiftOf 14 = .ok (.getfield 37, 3) := by decide +kernel
theorem dX1_toldShiftOf_17 : decode cX1_toldShiftOf 17 = .ok (.iload_n 1, 1) := by decide +kernel
theorem dX1_toldShiftOf_18 : decode cX1_toldShiftOf 18 = .ok (.iaload, 1) := by decide +kernel
theorem dX1_toldShiftOf_19 : decode cX1_toldShiftOf 19 = .ok (.goto 4, 3) := by decide +kernel
theorem dX1_toldShiftOf_22 : decode cX1_toldShiftOf 22 = .ok (.iconst 0, 1) := by decide +kernel
theorem dX1_toldShiftOf_23 : decode cX1_toldShiftOf 23 = .ok (.ireturn, 1) := by decide +kernel
theorem dX1_deepOf_0 : decode cX1_deepOf 0 = .ok (.iload_n 1, 1) := by decide +kernel
theorem dX1_deepOf_1 : decode cX1_deepOf 1 = .ok (.ifCond .lt 21, 3) := by decide +kernel
theorem dX1_deepOf_4 : decode cX1_deepOf 4 = .ok (.iload_n 1, 1) := by decide +kernel
theorem dX1_deepOf_5 : decode cX1_deepOf 5 = .ok (.aload_n 0, 1) := by decide +kernel
theorem dX1_deepOf_6 : decode cX1_deepOf 6 = .ok (.getfield 40, 3) := by decide +kernel
theorem dX1_deepOf_9 : decode cX1_deepOf 9 = .ok (.arraylength, 1) := by decide +kernel
theorem dX1_deepOf_10 : decode cX1_deepOf 10 = .ok (.if_icmp .ge 12, 3) := by decide +kernel
theorem dX1_deepOf_13 : decode cX1_deepOf 13 = .ok (.aload_n 0, 1) := by decide +kernel
theorem dX1_deepOf_14 : decode cX1_deepOf 14 = .ok (.getfield 40, 3) := by decide +kernel
theorem dX1_deepOf_17 : decode cX1_deepOf 17 = .ok (.iload_n 1, 1) := by decide +kernel
theorem dX1_deepOf_18 : decode cX1_deepOf 18 = .ok (.iaload, 1) := by decide +kernel
theorem dX1_deepOf_19 : decode cX1_deepOf 19 = .ok (.goto 4, 3) := by decide +kernel
theorem dX1_deepOf_22 : decode cX1_deepOf 22 = .ok (.iconst 0, 1) := by decide +kernel
theorem dX1_deepOf_23 : decode cX1_deepOf 23 = .ok (.ireturn, 1) := by decide +kernel
theorem dX1_toldWaterOf_0 : decode cX1_toldWaterOf 0 = .ok (.iload_n 1, 1) := by decide +kernel
theorem dX1_toldWaterOf_1 : decode cX1_toldWaterOf 1 = .ok (.ifCond .lt 21, 3) := by decide +kernel
theorem dX1_toldWaterOf_4 : decode cX1_toldWaterOf 4 = .ok (.iload_n 1, 1) := by decide +kernel
theorem dX1_toldWaterOf_5 : decode cX1_toldWaterOf 5 = .ok (.aload_n 0, 1) := by decide +kernel
theorem dX1_toldWaterOf_6 : decode cX1_toldWaterOf 6 = .ok (.getfield 43, 3) := by decide +kernel
theorem dX1_toldWaterOf_9 : decode cX1_toldWaterOf 9 = .ok (.arraylength, 1) := by decide +kernel
theorem dX1_toldWaterOf_10 : decode cX1_toldWaterOf 10 = .ok (.if_icmp .ge 12, 3) := by decide +kernel
theorem dX1_toldWaterOf_13 : decode cX1_toldWaterOf 13 = .ok (.aload_n 0, 1) := by decide +kernel
theorem dX1_toldWaterOf_14 : decode cX1_toldWaterOf 14 = .ok (.getfield 43, 3) := by decide +kernel
theorem dX1_toldWaterOf_17 : decode cX1_toldWaterOf 17 = .ok (.iload_n 1, 1) := by decide +kernel
theorem dX1_toldWaterOf_18 : decode cX1_toldWaterOf 18 = .ok (.iaload, 1) := by decide +kernel
theorem dX1_toldWaterOf_19 : decode cX1_toldWaterOf 19 = .ok (.goto 4, 3) := by decide +kernel
theorem dX1_toldWaterOf_22 : decode cX1_toldWaterOf 22 = .ok (.iconst 0, 1) := by decide +kernel
theorem dX1_toldWaterOf_23 : decode cX1_toldWaterOf 23 = .ok (.ireturn, 1) := by decide +kernel
theorem dX1_besideOf_0 : decode cX1_besideOf 0 = .ok (.iload_n 1, 1) := by decide +kernel
theorem dX1_besideOf_1 : decode cX1_besideOf 1 = .ok (.ifCond .lt 21, 3) := by decide +kernel
theorem dX1_besideOf_4 : decode cX1_besideOf 4 = .ok (.iload_n 1, 1) := by decide +kernel
theorem dX1_besideOf_5 : decode cX1_besideOf 5 = .ok (.aload_n 0, 1) := by decide +kernel
theorem dX1_besideOf_6 : decode cX1_besideOf 6 = .ok (.getfield 46, 3) := by decide +kernel
theorem dX1_besideOf_9 : decode cX1_besideOf 9 = .ok (.arraylength, 1) := by decide +kernel
theorem dX1_besideOf_10 : decode cX1_besideOf 10 = .ok (.if_icmp .ge 12, 3) := by decide +kernel
theorem dX1_besideOf_13 : decode cX1_besideOf 13 = .ok (.aload_n 0, 1) := by decide +kernel
theorem dX1_besideOf_14 : decode cX1_besideOf 14 = .ok (.getfield 46, 3) := by decide +kernel
theorem dX1_besideOf_17 : decode cX1_besideOf 17 = .ok (.iload_n 1, 1) := by decide +kernel
theorem dX1_besideOf_18 : decode cX1_besideOf 18 = .ok (.iaload, 1) := by decide +kernel
theorem dX1_besideOf_19 : decode cX1_besideOf 19 = .ok (.goto 4, 3) := by decide +kernel
theorem dX1_besideOf_22 : decode cX1_besideOf 22 = .ok (.iconst 0, 1) := by decide +kernel
theorem dX1_besideOf_23 : decode cX1_besideOf 23 = .ok (.ireturn, 1) := by decide +kernel
theorem dX1_needOf_0 : decode cX1_needOf 0 = .ok (.iload_n 1, 1) := by decide +kernel
theorem dX1_needOf_1 : decode cX1_needOf 1 = .ok (.ifCond .lt 21, 3) := by decide +kernel
theorem dX1_needOf_4 : decode cX1_needOf 4 = .ok (.iload_n 1, 1) := by decide +kernel
theorem dX1_needOf_5 : decode cX1_needOf 5 = .ok (.aload_n 0, 1) := by decide +kernel
theorem dX1_needOf_6 : decode cX1_needOf 6 = .ok (.getfield 49, 3) := by decide +kernel
theorem dX1_needOf_9 : decode cX1_needOf 9 = .ok (.arraylength, 1) := by decide +kernel
theorem dX1_needOf_10 : decode cX1_needOf 10 = .ok (.if_icmp .ge 12, 3) := by decide +kernel
theorem dX1_needOf_13 : decode cX1_needOf 13 = .ok (.aload_n 0, 1) := by decide +kernel
theorem dX1_needOf_14 : decode cX1_needOf 14 = .ok (.getfield 49, 3) := by decide +kernel
theorem dX1_needOf_17 : decode cX1_needOf 17 = .ok (.iload_n 1, 1) := by decide +kernel
theorem dX1_needOf_18 : decode cX1_needOf 18 = .ok (.iaload, 1) := by decide +kernel
theorem dX1_needOf_19 : decode cX1_needOf 19 = .ok (.goto 4, 3) := by decide +kernel
theorem dX1_needOf_22 : decode cX1_needOf 22 = .ok (.iconst 0, 1) := by decide +kernel
theorem dX1_needOf_23 : decode cX1_needOf 23 = .ok (.ireturn, 1) := by decide +kernel
theorem dX1_fromOf_0 : decode cX1_fromOf 0 = .ok (.iload_n 1, 1) := by decide +kernel
theorem dX1_fromOf_1 : decode cX1_fromOf 1 = .ok (.ifCond .lt 21, 3) := by decide +kernel
theorem dX1_fromOf_4 : decode cX1_fromOf 4 = .ok (.iload_n 1, 1) := by decide +kernel
theorem dX1_fromOf_5 : decode cX1_fromOf 5 = .ok (.aload_n 0, 1) := by decide +kernel
theorem dX1_fromOf_6 : decode cX1_fromOf 6 = .ok (.getfield 52, 3) := by decide +kernel
theorem dX1_fromOf_9 : decode cX1_fromOf 9 = .ok (.arraylength, 1) := by decide +kernel
theorem dX1_fromOf_10 : decode cX1_fromOf 10 = .ok (.if_icmp .ge 12, 3) := by decide +kernel
theorem dX1_fromOf_13 : decode cX1_fromOf 13 = .ok (.aload_n 0, 1) := by decide +kernel
theorem dX1_fromOf_14 : decode cX1_fromOf 14 = .ok (.getfield 52, 3) := by decide +kernel
theorem dX1_fromOf_17 : decode cX1_fromOf 17 = .ok (.iload_n 1, 1) := by decide +kernel
theorem dX1_fromOf_18 : decode cX1_fromOf 18 = .ok (.iaload, 1) := by decide +kernel
theorem dX1_fromOf_19 : decode cX1_fromOf 19 = .ok (.goto 4, 3) := by decide +kernel
theorem dX1_fromOf_22 : decode cX1_fromOf 22 = .ok (.iconst 0, 1) := by decide +kernel
theorem dX1_fromOf_23 : decode cX1_fromOf 23 = .ok (.ireturn, 1) := by decide +kernel
theorem dX1_everSleeps_0 : decode cX1_everSleeps 0 = .ok (.aload_n 0, 1) := by decide +kernel
theorem dX1_everSleeps_1 : decode cX1_everSleeps 1 = .ok (.iload_n 1, 1) := by decide +kernel
theorem dX1_everSleeps_2 : decode cX1_everSleeps 2 = .ok (.invokevirtual 55, 3) := by decide +kernel
theorem dX1_everSleeps_5 : decode cX1_everSleeps 5 = .ok (.aload_n 0, 1) := by decide +kernel
theorem dX1_everSleeps_6 : decode cX1_everSleeps 6 = .ok (.iload_n 1, 1) := by decide +kernel
theorem dX1_everSleeps_7 : decode cX1_everSleeps 7 = .ok (.invokevirtual 59, 3) := by decide +kernel
theorem dX1_everSleeps_10 : decode cX1_everSleeps 10 = .ok (.if_icmp .ge 7, 3) := by decide +kernel
theorem dX1_everSleeps_13 : decode cX1_everSleeps 13 = .ok (.iconst 1, 1) := by decide +kernel
theorem dX1_everSleeps_14 : decode cX1_everSleeps 14 = .ok (.goto 4, 3) := by decide +kernel
theorem dX1_everSleeps_17 : decode cX1_everSleeps 17 = .ok (.iconst 0, 1) := by decide +kernel
theorem dX1_everSleeps_18 : decode cX1_everSleeps 18 = .ok (.ireturn, 1) := by decide +kernel
theorem dX1_pairs_0 : decode cX1_pairs 0 = .ok (.iconst 0, 1) := by decide +kernel
theorem dX1_pairs_1 : decode cX1_pairs 1 = .ok (.istore_n 1, 1) := by decide +kernel
theorem dX1_pairs_2 : decode cX1_pairs 2 = .ok (.iconst 0, 1) := by decide +kernel
theorem dX1_pairs_3 : decode cX1_pairs 3 = .ok (.istore_n 2, 1) := by decide +kernel
theorem dX1_pairs_4 : decode cX1_pairs 4 = .ok (.iload_n 2, 1) := by decide +kernel
theorem dX1_pairs_5 : decode cX1_pairs 5 = .ok (.aload_n 0, 1) := by decide +kernel
theorem dX1_pairs_6 : decode cX1_pairs 6 = .ok (.getfield 15, 3) := by decide +kernel
theorem dX1_pairs_9 : decode cX1_pairs 9 = .ok (.if_icmp .ge 20, 3) := by decide +kernel
theorem dX1_pairs_12 : decode cX1_pairs 12 = .ok (.iload_n 1, 1) := by decide +kernel
theorem dX1_pairs_13 : decode cX1_pairs 13 = .ok (.aload_n 0, 1) := by decide +kernel
theorem dX1_pairs_14 : decode cX1_pairs 14 = .ok (.iload_n 2, 1) := by decide +kernel
theorem dX1_pairs_15 : decode cX1_pairs 15 = .ok (.invokevirtual 62, 3) := by decide +kernel
theorem dX1_pairs_18 : decode cX1_pairs 18 = .ok (.invokestatic 65, 3) := by decide +kernel
theorem dX1_pairs_21 : decode cX1_pairs 21 = .ok (.iadd, 1) := by decide +kernel
theorem dX1_pairs_22 : decode cX1_pairs 22 = .ok (.istore_n 1, 1) := by decide +kernel
theorem dX1_pairs_23 : decode cX1_pairs 23 = .ok (.iinc 2 1, 3) := by decide +kernel
theorem dX1_pairs_26 : decode cX1_pairs 26 = .ok (.goto (-22), 3) := by decide +kernel
theorem dX1_pairs_29 : decode cX1_pairs 29 = .ok (.iload_n 1, 1) := by decide +kernel
theorem dX1_pairs_30 : decode cX1_pairs 30 = .ok (.iconst 2, 1) := by decide +kernel
theorem dX1_pairs_31 : decode cX1_pairs 31 = .ok (.idiv, 1) := by decide +kernel
theorem dX1_pairs_32 : decode cX1_pairs 32 = .ok (.ireturn, 1) := by decide +kernel
theorem dX1_addWell_0 : decode cX1_addWell 0 = .ok (.aload_n 0, 1) := by decide +kernel
theorem dX1_addWell_1 : decode cX1_addWell 1 = .ok (.getfield 15, 3) := by decide +kernel
theorem dX1_addWell_4 : decode cX1_addWell 4 = .ok (.ifCond .lt 12, 3) := by decide +kernel
theorem dX1_addWell_7 : decode cX1_addWell 7 = .ok (.aload_n 0, 1) := by decide +kernel
theorem dX1_addWell_8 : decode cX1_addWell 8 = .ok (.getfield 15, 3) := by decide +kernel
theorem dX1_addWell_11 : decode cX1_addWell 11 = .ok (.bipush 10, 2) := by decide +kernel
theorem dX1_addWell_13 : decode cX1_addWell 13 = .ok (.if_icmp .lt 4, 3) := by decide +kernel
theorem dX1_addWell_16 : decode cX1_addWell 16 = .ok (.return_, 1) := by decide +kernel
theorem dX1_addWell_17 : decode cX1_addWell 17 = .ok (.aload_n 0, 1) := by decide +kernel
theorem dX1_addWell_18 : decode cX1_addWell 18 = .ok (.getfield 31, 3) := by decide +kernel
theorem dX1_addWell_21 : decode cX1_addWell 21 = .ok (.aload_n 0, 1) := by decide +kernel
theorem dX1_addWell_22 : decode cX1_addWell 22 = .ok (.getfield 15, 3) := by decide +kernel
theorem dX1_addWell_25 : decode cX1_addWell 25 = .ok (.iload_n 1, 1) := by decide +kernel
theorem dX1_addWell_26 : decode cX1_addWell 26 = .ok (.iastore, 1) := by decide +kernel
theorem dX1_addWell_27 : decode cX1_addWell 27 = .ok (.aload_n 0, 1) := by decide +kernel
theorem dX1_addWell_28 : decode cX1_addWell 28 = .ok (.getfield 34, 3) := by decide +kernel
theorem dX1_addWell_31 : decode cX1_addWell 31 = .ok (.aload_n 0, 1) := by decide +kernel
theorem dX1_addWell_32 : decode cX1_addWell 32 = .ok (.getfield 15, 3) := by decide +kernel
theorem dX1_addWell_35 : decode cX1_addWell 35 = .ok (.iload_n 2, 1) := by decide +kernel
theorem dX1_addWell_36 : decode cX1_addWell 36 = .ok (.iastore, 1) := by decide +kernel
theorem dX1_addWell_37 : decode cX1_addWell 37 = .ok (.aload_n 0, 1) := by decide +kernel
theorem dX1_addWell_38 : decode cX1_addWell 38 = .ok (.getfield 37, 3) := by decide +kernel
theorem dX1_addWell_41 : decode cX1_addWell 41 = .ok (.aload_n 0, 1) := by decide +kernel
theorem dX1_addWell_42 : decode cX1_addWell 42 = .ok (.getfield 15, 3) := by decide +kernel
theorem dX1_addWell_45 : decode cX1_addWell 45 = .ok (.iload_n 3, 1) := by decide +kernel
theorem dX1_addWell_46 : decode cX1_addWell 46 = .ok (.iastore, 1) := by decide +kernel
theorem dX1_addWell_47 : decode cX1_addWell 47 = .ok (.aload_n 0, 1) := by decide +kernel
theorem dX1_addWell_48 : decode cX1_addWell 48 = .ok (.getfield 40, 3) := by decide +kernel
theorem dX1_addWell_51 : decode cX1_addWell 51 = .ok (.aload_n 0, 1) := by decide +kernel
theorem dX1_addWell_52 : decode cX1_addWell 52 = .ok (.getfield 15, 3) := by decide +kernel
theorem dX1_addWell_55 : decode cX1_addWell 55 = .ok (.iload 4, 2) := by decide +kernel
theorem dX1_addWell_57 : decode cX1_addWell 57 = .ok (.iastore, 1) := by decide +kernel
theorem dX1_addWell_58 : decode cX1_addWell 58 = .ok (.aload_n 0, 1) := by decide +kernel
theorem dX1_addWell_59 : decode cX1_addWell 59 = .ok (.getfield 43, 3) := by decide +kernel
theorem dX1_addWell_62 : decode cX1_addWell 62 = .ok (.aload_n 0, 1) := by decide +kernel
theorem dX1_addWell_63 : decode cX1_addWell 63 = .ok (.getfield 15, 3) := by decide +kernel
theorem dX1_addWell_66 : decode cX1_addWell 66 = .ok (.iload 5, 2) := by decide +kernel
theorem dX1_addWell_68 : decode cX1_addWell 68 = .ok (.iastore, 1) := by decide +kernel
theorem dX1_addWell_69 : decode cX1_addWell 69 = .ok (.aload_n 0, 1) := by decide +kernel
theorem dX1_addWell_70 : decode cX1_addWell 70 = .ok (.dup, 1) := by decide +kernel
theorem dX1_addWell_71 : decode cX1_addWell 71 = .ok (.getfield 15, 3) := by decide +kernel
theorem dX1_addWell_74 : decode cX1_addWell 74 = .ok (.iconst 1, 1) := by decide +kernel
theorem dX1_addWell_75 : decode cX1_addWell 75 = .ok (.iadd, 1) := by decide +kernel
theorem dX1_addWell_76 : decode cX1_addWell 76 = .ok (.putfield 15, 3) := by decide +kernel
theorem dX1_addWell_79 : decode cX1_addWell 79 = .ok (.return_, 1) := by decide +kernel
theorem dX1_joinWells_0 : decode cX1_joinWells 0 = .ok (.aload_n 0, 1) := by decide +kernel
theorem dX1_joinWells_1 : decode cX1_joinWells 1 = .ok (.iload_n 1, 1) := by decide +kernel
theorem dX1_joinWells_2 : decode cX1_joinWells 2 = .ok (.invokevirtual 70, 3) := by decide +kernel
theorem dX1_joinWells_5 : decode cX1_joinWells 5 = .ok (.ifCond .eq 35, 3) := by decide +kernel
theorem dX1_joinWells_8 : decode cX1_joinWells 8 = .ok (.aload_n 0, 1) := by decide +kernel
theorem dX1_joinWells_9 : decode cX1_joinWells 9 = .ok (.iload_n 2, 1) := by decide +kernel
theorem dX1_joinWells_10 : decode cX1_joinWells 10 = .ok (.invokevirtual 70, 3) := by decide +kernel
theorem dX1_joinWells_13 : decode cX1_joinWells 13 = .ok (.ifCond .eq 27, 3) := by decide +kernel
theorem dX1_joinWells_16 : decode cX1_joinWells 16 = .ok (.aload_n 0, 1) := by decide +kernel
theorem dX1_joinWells_17 : decode cX1_joinWells 17 = .ok (.getfield 46, 3) := by decide +kernel
theorem dX1_joinWells_20 : decode cX1_joinWells 20 = .ok (.iload_n 1, 1) := by decide +kernel
theorem dX1_joinWells_21 : decode cX1_joinWells 21 = .ok (.dup2, 1) := by decide +kernel
theorem dX1_joinWells_22 : decode cX1_joinWells 22 = .ok (.iaload, 1) := by decide +kernel
theorem dX1_joinWells_23 : decode cX1_joinWells 23 = .ok (.iconst 1, 1) := by decide +kernel
theorem dX1_joinWells_24 : decode cX1_joinWells 24 = .ok (.iload_n 2, 1) := by decide +kernel
theorem dX1_joinWells_25 : decode cX1_joinWells 25 = .ok (.ishl, 1) := by decide +kernel
theorem dX1_joinWells_26 : decode cX1_joinWells 26 = .ok (.ior, 1) := by decide +kernel
theorem dX1_joinWells_27 : decode cX1_joinWells 27 = .ok (.iastore, 1) := by decide +kernel
theorem dX1_joinWells_28 : decode cX1_joinWells 28 = .ok (.aload_n 0, 1) := by decide +kernel
theorem dX1_joinWells_29 : decode cX1_joinWells 29 = .ok (.getfield 46, 3) := by decide +kernel
theorem dX1_joinWells_32 : decode cX1_joinWells 32 = .ok (.iload_n 2, 1) := by decide +kernel
theorem dX1_joinWells_33 : decode cX1_joinWells 33 = .ok (.dup2, 1) := by decide +kernel
theorem dX1_joinWells_34 : decode cX1_joinWells 34 = .ok (.iaload, 1) := by decide +kernel
theorem dX1_joinWells_35 : decode cX1_joinWells 35 = .ok (.iconst 1, 1) := by decide +kernel
theorem dX1_joinWells_36 : decode cX1_joinWells 36 = .ok (.iload_n 1, 1) := by decide +kernel
theorem dX1_joinWells_37 : decode cX1_joinWells 37 = .ok (.ishl, 1) := by decide +kernel
theorem dX1_joinWells_38 : decode cX1_joinWells 38 = .ok (.ior, 1) := by decide +kernel
theorem dX1_joinWells_39 : decode cX1_joinWells 39 = .ok (.iastore, 1) := by decide +kernel
theorem dX1_joinWells_40 : decode cX1_joinWells 40 = .ok (.return_, 1) := by decide +kernel
theorem dX1_addHouse_0 : decode cX1_addHouse 0 = .ok (.aload_n 0, 1) := by decide +kernel
theorem dX1_addHouse_1 : decode cX1_addHouse 1 = .ok (.getfield 18, 3) := by decide +kernel
theorem dX1_addHouse_4 : decode cX1_addHouse 4 = .ok (.ifCond .lt 12, 3) := by decide +kernel
theorem dX1_addHouse_7 : decode cX1_addHouse 7 = .ok (.aload_n 0, 1) := by decide +kernel
theorem dX1_addHouse_8 : decode cX1_addHouse 8 = .ok (.getfield 18, 3) := by decide +kernel
theorem dX1_addHouse_11 : decode cX1_addHouse 11 = .ok (.bipush 6, 2) := by decide +kernel
theorem dX1_addHouse_13 : decode cX1_addHouse 13 = .ok (.if_icmp .lt 4, 3) := by decide +kernel
theorem dX1_addHouse_16 : decode cX1_addHouse 16 = .ok (.return_, 1) := by decide +kernel
theorem dX1_addHouse_17 : decode cX1_addHouse 17 = .ok (.aload_n 0, 1) := by decide +kernel
theorem dX1_addHouse_18 : decode cX1_addHouse 18 = .ok (.getfield 49, 3) := by decide +kernel
theorem dX1_addHouse_21 : decode cX1_addHouse 21 = .ok (.aload_n 0, 1) := by decide +kernel
theorem dX1_addHouse_22 : decode cX1_addHouse 22 = .ok (.getfield 18, 3) := by decide +kernel
theorem dX1_addHouse_25 : decode cX1_addHouse 25 = .ok (.iload_n 1, 1) := by decide +kernel
theorem dX1_addHouse_26 : decode cX1_addHouse 26 = .ok (.iastore, 1) := by decide +kernel
theorem dX1_addHouse_27 : decode cX1_addHouse 27 = .ok (.aload_n 0, 1) := by decide +kernel
theorem dX1_addHouse_28 : decode cX1_addHouse 28 = .ok (.getfield 52, 3) := by decide +kernel
theorem dX1_addHouse_31 : decode cX1_addHouse 31 = .ok (.aload_n 0, 1) := by decide +kernel
theorem dX1_addHouse_32 : decode cX1_addHouse 32 = .ok (.getfield 18, 3) := by decide +kernel
theorem dX1_addHouse_35 : decode cX1_addHouse 35 = .ok (.iload_n 2, 1) := by decide +kernel
theorem dX1_addHouse_36 : decode cX1_addHouse 36 = .ok (.iastore, 1) := by decide +kernel
theorem dX1_addHouse_37 : decode cX1_addHouse 37 = .ok (.aload_n 0, 1) := by decide +kernel
theorem dX1_addHouse_38 : decode cX1_addHouse 38 = .ok (.dup, 1) := by decide +kernel
theorem dX1_addHouse_39 : decode cX1_addHouse 39 = .ok (.getfield 18, 3) := by decide +kernel
theorem dX1_addHouse_42 : decode cX1_addHouse 42 = .ok (.iconst 1, 1) := by decide +kernel
theorem dX1_addHouse_43 : decode cX1_addHouse 43 = .ok (.iadd, 1) := by decide +kernel
theorem dX1_addHouse_44 : decode cX1_addHouse 44 = .ok (.putfield 18, 3) := by decide +kernel
theorem dX1_addHouse_47 : decode cX1_addHouse 47 = .ok (.return_, 1) := by decide +kernel
theorem dX2_init_0 : decode cX2_init 0 = .ok (.aload_n 0, 1) := by decide +kernel
theorem dX2_init_1 : decode cX2_init 1 = .ok (.invokespecial 3, 3) := by decide +kernel
theorem dX2_init_4 : decode cX2_init 4 = .ok (.aload_n 0, 1) := by decide +kernel
theorem dX2_init_5 : decode cX2_init 5 = .ok (.iconst 0, 1) := by decide +kernel
theorem dX2_init_6 : decode cX2_init 6 = .ok (.putfield 9, 3) := by decide +kernel
theorem dX2_init_9 : decode cX2_init 9 = .ok (.aload_n 0, 1) := by decide +kernel
theorem dX2_init_10 : decode cX2_init 10 = .ok (.iconst 0, 1) := by decide +kernel
theorem dX2_init_11 : decode cX2_init 11 = .ok (.putfield 15, 3) := by decide +kernel
theorem dX2_init_14 : decode cX2_init 14 = .ok (.aload_n 0, 1) := by decide +kernel
theorem dX2_init_15 : decode cX2_init 15 = .ok (.bipush 10, 2) := by decide +kernel
theorem dX2_init_17 : decode cX2_init 17 = .ok (.newarray .int, 2) := by decide +kernel
theorem dX2_init_19 : decode cX2_init 19 = .ok (.putfield 18, 3) := by decide +kernel
theorem dX2_init_22 : decode cX2_init 22 = .ok (.aload_n 0, 1) := by decide +kernel
theorem dX2_init_23 : decode cX2_init 23 = .ok (.bipush 10, 2) := by decide +kernel
theorem dX2_init_25 : decode cX2_init 25 = .ok (.newarray .int, 2) := by decide +kernel
theorem dX2_init_27 : decode cX2_init 27 = .ok (.putfield 22, 3) := by decide +kernel
theorem dX2_init_30 : decode cX2_init 30 = .ok (.aload_n 0, 1) := by decide +kernel
theorem dX2_init_31 : decode cX2_init 31 = .ok (.aload_n 1, 1) := by decide +kernel
theorem dX2_init_32 : decode cX2_init 32 = .ok (.putfield 25, 3) := by decide +kernel
theorem dX2_init_35 : decode cX2_init 35 = .ok (.return_, 1) := by decide +kernel
theorem dX2_beginWith_0 : decode cX2_beginWith 0 = .ok (.aload_n 0, 1) := by decide +kernel
theorem dX2_beginWith_1 : decode cX2_beginWith 1 = .ok (.aload_n 1, 1) := by decide +kernel
theorem dX2_beginWith_2 : decode cX2_beginWith 2 = .ok (.putfield 25, 3) := by decide +kernel
theorem dX2_beginWith_5 : decode cX2_beginWith 5 = .ok (.aload_n 0, 1) := by decide +kernel
theorem dX2_beginWith_6 : decode cX2_beginWith 6 = .ok (.aload_n 1, 1) := by decide +kernel
theorem dX2_beginWith_7 : decode cX2_beginWith 7 = .ok (.getfield 29, 3) := by decide +kernel
theorem dX2_beginWith_10 : decode cX2_beginWith 10 = .ok (.putfield 9, 3) := by decide +kernel
theorem dX2_beginWith_13 : decode cX2_beginWith 13 = .ok (.aload_n 0, 1) := by decide +kernel
theorem dX2_beginWith_14 : decode cX2_beginWith 14 = .ok (.iconst 0, 1) := by decide +kernel
theorem dX2_beginWith_15 : decode cX2_beginWith 15 = .ok (.putfield 15, 3) := by decide +kernel
theorem dX2_beginWith_18 : decode cX2_beginWith 18 = .ok (.iconst 0, 1) := by decide +kernel
theorem dX2_beginWith_19 : decode cX2_beginWith 19 = .ok (.istore_n 2, 1) := by decide +kernel
theorem dX2_beginWith_20 : decode cX2_beginWith 20 = .ok (.iload_n 2, 1) := by decide +kernel
theorem dX2_beginWith_21 : decode cX2_beginWith 21 = .ok (.bipush 10, 2) := by decide +kernel
theorem dX2_beginWith_23 : decode cX2_beginWith 23 = .ok (.if_icmp .ge 31, 3) := by decide +kernel
theorem dX2_beginWith_26 : decode cX2_beginWith 26 = .ok (.aload_n 0, 1) := by decide +kernel
theorem dX2_beginWith_27 : decode cX2_beginWith 27 = .ok (.getfield 18, 3) := by decide +kernel
theorem dX2_beginWith_30 : decode cX2_beginWith 30 = .ok (.iload_n 2, 1) := by decide +kernel
theorem dX2_beginWith_31 : decode cX2_beginWith 31 = .ok (.aload_n 1, 1) := by decide +kernel
theorem dX2_beginWith_32 : decode cX2_beginWith 32 = .ok (.iload_n 2, 1) := by decide +kernel
theorem dX2_beginWith_33 : decode cX2_beginWith 33 = .ok (.invokevirtual 34, 3) := by decide +kernel
theorem dX2_beginWith_36 : decode cX2_beginWith 36 = .ok (.iastore, 1) := by decide +kernel
theorem dX2_beginWith_37 : decode cX2_beginWith 37 = .ok (.aload_n 0, 1) := by decide +kernel
theorem dX2_beginWith_38 : decode cX2_beginWith 38 = .ok (.getfield 22, 3) := by decide +kernel
theorem dX2_beginWith_41 : decode cX2_beginWith 41 = .ok (.iload_n 2, 1) := by decide +kernel
theorem dX2_beginWith_42 : decode cX2_beginWith 42 = .ok (.aload_n 1, 1) := by decide +kernel
theorem dX2_beginWith_43 : decode cX2_beginWith 43 = .ok (.iload_n 2, 1) := by decide +kernel
theorem dX2_beginWith_44 : decode cX2_beginWith 44 = .ok (.invokevirtual 38, 3) := by decide +kernel
theorem dX2_beginWith_47 : decode cX2_beginWith 47 = .ok (.iastore, 1) := by decide +kernel
theorem dX2_beginWith_48 : decode cX2_beginWith 48 = .ok (.iinc 2 1, 3) := by decide +kernel
theorem dX2_beginWith_51 : decode cX2_beginWith 51 = .ok (.goto (-31), 3) := by decide +kernel
theorem dX2_beginWith_54 : decode cX2_beginWith 54 = .ok (.return_, 1) := by decide +kernel
theorem dX2_become_0 : decode cX2_become 0 = .ok (.aload_n 0, 1) := by decide +kernel
theorem dX2_become_1 : decode cX2_become 1 = .ok (.aload_n 1, 1) := by decide +kernel
theorem dX2_become_2 : decode cX2_become 2 = .ok (.getfield 25, 3) := by decide +kernel
theorem dX2_become_5 : decode cX2_become 5 = .ok (.putfield 25, 3) := by decide +kernel
theorem dX2_become_8 : decode cX2_become 8 = .ok (.aload_n 0, 1) := by decide +kernel
theorem dX2_become_9 : decode cX2_become 9 = .ok (.aload_n 1, 1) := by decide +kernel
theorem dX2_become_10 : decode cX2_become 10 = .ok (.getfield 9, 3) := by decide +kernel
theorem dX2_become_13 : decode cX2_become 13 = .ok (.putfield 9, 3) := by decide +kernel
theorem dX2_become_16 : decode cX2_become 16 = .ok (.aload_n 0, 1) := by decide +kernel
theorem dX2_become_17 : decode cX2_become 17 = .ok (.aload_n 1, 1) := by decide +kernel
theorem dX2_become_18 : decode cX2_become 18 = .ok (.getfield 15, 3) := by decide +kernel
theorem dX2_become_21 : decode cX2_become 21 = .ok (.putfield 15, 3) := by decide +kernel
theorem dX2_become_24 : decode cX2_become 24 = .ok (.iconst 0, 1) := by decide +kernel
theorem dX2_become_25 : decode cX2_become 25 = .ok (.istore_n 2, 1) := by decide +kernel
theorem dX2_become_26 : decode cX2_become 26 = .ok (.iload_n 2, 1) := by decide +kernel
theorem dX2_become_27 : decode cX2_become 27 = .ok (.bipush 10, 2) := by decide +kernel
theorem dX2_become_29 : decode cX2_become 29 = .ok (.if_icmp .ge 33, 3) := by decide +kernel
theorem dX2_become_32 : decode cX2_become 32 = .ok (.aload_n 0, 1) := by decide +kernel
theorem dX2_become_33 : decode cX2_become 33 = .ok (.getfield 18, 3) := by decide +kernel
theorem dX2_become_36 : decode cX2_become 36 = .ok (.iload_n 2, 1) := by decide +kernel
theorem dX2_become_37 : decode cX2_become 37 = .ok (.aload_n 1, 1) := by decide +kernel
theorem dX2_become_38 : decode cX2_become 38 = .ok (.getfield 18, 3) := by decide +kernel
theorem dX2_become_41 : decode cX2_become 41 = .ok (.iload_n 2, 1) := by decide +kernel
theorem dX2_become_42 : decode cX2_become 42 = .ok (.iaload, 1) := by decide +kernel
theorem dX2_become_43 : decode cX2_become 43 = .ok (.iastore, 1) := by decide +kernel
theorem dX2_become_44 : decode cX2_become 44 = .ok (.aload_n 0, 1) := by decide +kernel
theorem dX2_become_45 : decode cX2_become 45 = .ok (.getfield 22, 3) := by decide +kernel
theorem dX2_become_48 : decode cX2_become 48 = .ok (.iload_n 2, 1) := by decide +kernel
theorem dX2_become_49 : decode cX2_become 49 = .ok (.aload_n 1, 1) := by decide +kernel
theorem dX2_become_50 : decode cX2_become 50 = .ok (.getfield 22, 3) := by decide +kernel
theorem dX2_become_53 : decode cX2_become 53 = .ok (.iload_n 2, 1) := by decide +kernel
theorem dX2_become_54 : decode cX2_become 54 = .ok (.iaload, 1) := by decide +kernel
theorem dX2_become_55 : decode cX2_become 55 = .ok (.iastore, 1) := by decide +kernel
theorem dX2_become_56 : decode cX2_become 56 = .ok (.iinc 2 1, 3) := by decide +kernel
theorem dX2_become_59 : decode cX2_become 59 = .ok (.goto (-33), 3) := by decide +kernel
theorem dX2_become_62 : decode cX2_become 62 = .ok (.return_, 1) := by decide +kernel
theorem dX2_shiftOf_0 : decode cX2_shiftOf 0 = .ok (.iload_n 1, 1) := by decide +kernel
theorem dX2_shiftOf_1 : decode cX2_shiftOf 1 = .ok (.ifCond .lt 21, 3) := by decide +kernel
theorem dX2_shiftOf_4 : decode cX2_shiftOf 4 = .ok (.iload_n 1, 1) := by decide +kernel
theorem dX2_shiftOf_5 : decode cX2_shiftOf 5 = .ok (.aload_n 0, 1) := by decide +kernel
theorem dX2_shiftOf_6 : decode cX2_shiftOf 6 = .ok (.getfield 18, 3) := by decide +kernel
theorem dX2_shiftOf_9 : decode cX2_shiftOf 9 = .ok (.arraylength, 1) := by decide +kernel
theorem dX2_shiftOf_10 : decode cX2_shiftOf 10 = .ok (.if_icmp .ge 12, 3) := by decide +kernel
theorem dX2_shiftOf_13 : decode cX2_shiftOf 13 = .ok (.aload_n 0, 1) := by decide +kernel
theorem dX2_shiftOf_14 : decode cX2_shiftOf 14 = .ok (.getfield 18, 3) := by decide +kernel
theorem dX2_shiftOf_17 : decode cX2_shiftOf 17 = .ok (.iload_n 1, 1) := by decide +kernel
theorem dX2_shiftOf_18 : decode cX2_shiftOf 18 = .ok (.iaload, 1) := by decide +kernel
theorem dX2_shiftOf_19 : decode cX2_shiftOf 19 = .ok (.goto 4, 3) := by decide +kernel
theorem dX2_shiftOf_22 : decode cX2_shiftOf 22 = .ok (.iconst 0, 1) := by decide +kernel
theorem dX2_shiftOf_23 : decode cX2_shiftOf 23 = .ok (.ireturn, 1) := by decide +kernel
theorem dX2_waterOf_0 : decode cX2_waterOf 0 = .ok (.iload_n 1, 1) := by decide +kernel
theorem dX2_waterOf_1 : decode cX2_waterOf 1 = .ok (.ifCond .lt 21, 3) := by decide +kernel
theorem dX2_waterOf_4 : decode cX2_waterOf 4 = .ok (.iload_n 1, 1) := by decide +kernel
theorem dX2_waterOf_5 : decode cX2_waterOf 5 = .ok (.aload_n 0, 1) := by decide +kernel
theorem dX2_waterOf_6 : decode cX2_waterOf 6 = .ok (.getfield 22, 3) := by decide +kernel
theorem dX2_waterOf_9 : decode cX2_waterOf 9 = .ok (.arraylength, 1) := by decide +kernel
theorem dX2_waterOf_10 : decode cX2_waterOf 10 = .ok (.if_icmp .ge 12, 3) := by decide +kernel
theorem dX2_waterOf_13 : decode cX2_waterOf 13 = .ok (.aload_n 0, 1) := by decide +kernel
theorem dX2_waterOf_14 : decode cX2_waterOf 14 = .ok (.getfield 22, 3) := by decide +kernel
theorem dX2_waterOf_17 : decode cX2_waterOf 17 = .ok (.iload_n 1, 1) := by decide +kernel
theorem dX2_waterOf_18 : decode cX2_waterOf 18 = .ok (.iaload, 1) := by decide +kernel
theorem dX2_waterOf_19 : decode cX2_waterOf 19 = .ok (.goto 4, 3) := by decide +kernel
theorem dX2_waterOf_22 : decode cX2_waterOf 22 = .ok (.iconst 0, 1) := by decide +kernel
theorem dX2_waterOf_23 : decode cX2_waterOf 23 = .ok (.ireturn, 1) := by decide +kernel
theorem dX2_phaseOf_0 : decode cX2_phaseOf 0 = .ok (.iload_n 1, 1) := by decide +kernel
theorem dX2_phaseOf_1 : decode cX2_phaseOf 1 = .ok (.ifCond .lt 37, 3) := by decide +kernel
theorem dX2_phaseOf_4 : decode cX2_phaseOf 4 = .ok (.iload_n 1, 1) := by decide +kernel
theorem dX2_phaseOf_5 : decode cX2_phaseOf 5 = .ok (.aload_n 0, 1) := by decide +kernel
theorem dX2_phaseOf_6 : decode cX2_phaseOf 6 = .ok (.getfield 18, 3) := by decide +kernel
theorem dX2_phaseOf_9 : decode cX2_phaseOf 9 = .ok (.arraylength, 1) := by decide +kernel
theorem dX2_phaseOf_10 : decode cX2_phaseOf 10 = .ok (.if_icmp .ge 28, 3) := by decide +kernel
theorem dX2_phaseOf_13 : decode cX2_phaseOf 13 = .ok (.iload_n 1, 1) := by decide +kernel
theorem dX2_phaseOf_14 : decode cX2_phaseOf 14 = .ok (.aload_n 0, 1) := by decide +kernel
theorem dX2_phaseOf_15 : decode cX2_phaseOf 15 = .ok (.getfield 25, 3) := by decide +kernel
theorem dX2_phaseOf_18 : decode cX2_phaseOf 18 = .ok (.getfield 41, 3) := by decide +kernel
theorem dX2_phaseOf_21 : decode cX2_phaseOf 21 = .ok (.arraylength, 1) := by decide +kernel
theorem dX2_phaseOf_22 : decode cX2_phaseOf 22 = .ok (.if_icmp .ge 16, 3) := by decide +kernel
theorem dX2_phaseOf_25 : decode cX2_phaseOf 25 = .ok (.aload_n 0, 1) := by decide +kernel
theorem dX2_phaseOf_26 : decode cX2_phaseOf 26 = .ok (.getfield 25, 3) := by decide +kernel
theorem dX2_phaseOf_29 : decode cX2_phaseOf 29 = .ok (.getfield 41, 3) := by decide +kernel
theorem dX2_phaseOf_32 : decode cX2_phaseOf 32 = .ok (.iload_n 1, 1) := by decide +kernel
theorem dX2_phaseOf_33 : decode cX2_phaseOf 33 = .ok (.iaload, 1) := by decide +kernel
theorem dX2_phaseOf_34 : decode cX2_phaseOf 34 = .ok (.iconst 1, 1) := by decide +kernel
theorem dX2_phaseOf_35 : decode cX2_phaseOf 35 = .ok (.if_icmp .ge 5, 3) := by decide +kernel
theorem dX2_phaseOf_38 : decode cX2_phaseOf 38 = .ok (.iconst 0, 1) := by decide +kernel
theorem dX2_phaseOf_39 : decode cX2_phaseOf 39 = .ok (.ireturn, 1) := by decide +kernel
theorem dX2_phaseOf_40 : decode cX2_phaseOf 40 = .ok (.aload_n 0, 1) := by decide +kernel
theorem dX2_phaseOf_41 : decode cX2_phaseOf 41 = .ok (.getfield 9, 3) := by decide +kernel
theorem dX2_phaseOf_44 : decode cX2_phaseOf 44 = .ok (.aload_n 0, 1) := by decide +kernel
theorem dX2_phaseOf_45 : decode cX2_phaseOf 45 = .ok (.getfield 18, 3) := by decide +kernel
theorem dX2_phaseOf_48 : decode cX2_phaseOf 48 = .ok (.iload_n 1, 1) := by decide +kernel
theorem dX2_phaseOf_49 : decode cX2_phaseOf 49 = .ok (.iaload, 1) := by decide +kernel
theorem dX2_phaseOf_50 : decode cX2_phaseOf 50 = .ok (.iadd, 1) := by decide +kernel
theorem dX2_phaseOf_51 : decode cX2_phaseOf 51 = .ok (.aload_n 0, 1) := by decide +kernel
theorem dX2_phaseOf_52 : decode cX2_phaseOf 52 = .ok (.getfield 25, 3) := by decide +kernel
theorem dX2_phaseOf_55 : decode cX2_phaseOf 55 = .ok (.getfield 41, 3) := by decide +kernel
theorem dX2_phaseOf_58 : decode cX2_phaseOf 58 = .ok (.iload_n 1, 1) := by decide +kernel
theorem dX2_phaseOf_59 : decode cX2_phaseOf 59 = .ok (.iaload, 1) := by decide +kernel
theorem dX2_phaseOf_60 : decode cX2_phaseOf 60 = .ok (.irem, 1) := by decide +kernel
theorem dX2_phaseOf_61 : decode cX2_phaseOf 61 = .ok (.ireturn, 1) := by decide +kernel
theorem dX2_isAwakeIn_0 : decode cX2_isAwakeIn 0 = .ok (.aload_n 0, 1) := by decide +kernel
theorem dX2_isAwakeIn_1 : decode cX2_isAwakeIn 1 = .ok (.getfield 25, 3) := by decide +kernel
theorem dX2_isAwakeIn_4 : decode cX2_isAwakeIn 4 = .ok (.iload_n 1, 1) := by decide +kernel
theorem dX2_isAwakeIn_5 : decode cX2_isAwakeIn 5 = .ok (.invokevirtual 44, 3) := by decide +kernel
theorem dX2_isAwakeIn_8 : decode cX2_isAwakeIn 8 = .ok (.istore_n 3, 1) := by decide +kernel
theorem dX2_isAwakeIn_9 : decode cX2_isAwakeIn 9 = .ok (.iload_n 3, 1) := by decide +kernel
theorem dX2_isAwakeIn_10 : decode cX2_isAwakeIn 10 = .ok (.iconst 1, 1) := by decide +kernel
theorem dX2_isAwakeIn_11 : decode cX2_isAwakeIn 11 = .ok (.if_icmp .lt 32, 3) := by decide +kernel
theorem dX2_isAwakeIn_14 : decode cX2_isAwakeIn 14 = .ok (.aload_n 0, 1) := by decide +kernel
theorem dX2_isAwakeIn_15 : decode cX2_isAwakeIn 15 = .ok (.getfield 9, 3) := by decide +kernel
theorem dX2_isAwakeIn_18 : decode cX2_isAwakeIn 18 = .ok (.iload_n 2, 1) := by decide +kernel
theorem dX2_isAwakeIn_19 : decode cX2_isAwakeIn 19 = .ok (.iadd, 1) := by decide +kernel
theorem dX2_isAwakeIn_20 : decode cX2_isAwakeIn 20 = .ok (.aload_n 0, 1) := by decide +kernel
theorem dX2_isAwakeIn_21 : decode cX2_isAwakeIn 21 = .ok (.iload_n 1, 1) := by decide +kernel
theorem dX2_isAwakeIn_22 : decode cX2_isAwakeIn 22 = .ok (.invokevirtual 47, 3) := by decide +kernel
theorem dX2_isAwakeIn_25 : decode cX2_isAwakeIn 25 = .ok (.iadd, 1) := by decide +kernel
theorem dX2_isAwakeIn_26 : decode cX2_isAwakeIn 26 = .ok (.iload_n 3, 1) := by decide +kernel
theorem dX2_isAwakeIn_27 : decode cX2_isAwakeIn 27 = .ok (.irem, 1) := by decide +kernel
theorem dX2_isAwakeIn_28 : decode cX2_isAwakeIn 28 = .ok (.aload_n 0, 1) := by decide +kernel
theorem dX2_isAwakeIn_29 : decode cX2_isAwakeIn 29 = .ok (.getfield 25, 3) := by decide +kernel
theorem dX2_isAwakeIn_32 : decode cX2_isAwakeIn 32 = .ok (.iload_n 1, 1) := by decide +kernel
theorem dX2_isAwakeIn_33 : decode cX2_isAwakeIn 33 = .ok (.invokevirtual 50, 3) := by decide +kernel
theorem dX2_isAwakeIn_36 : decode cX2_isAwakeIn 36 = .ok (.if_icmp .ge 7, 3) := by decide +kernel
theorem dX2_isAwakeIn_39 : decode cX2_isAwakeIn 39 = .ok (.iconst 1, 1) := by decide +kernel
theorem dX2_isAwakeIn_40 : decode cX2_isAwakeIn 40 = .ok (.goto 4, 3) := by decide +kernel
theorem dX2_isAwakeIn_43 : decode cX2_isAwakeIn 43 = .ok (.iconst 0, 1) := by decide +kernel
theorem dX2_isAwakeIn_44 : decode cX2_isAwakeIn 44 = .ok (.ireturn, 1) := by decide +kernel
theorem dX2_isAwake_0 : decode cX2_isAwake 0 = .ok (.aload_n 0, 1) := by decide +kernel
theorem dX2_isAwake_1 : decode cX2_isAwake 1 = .ok (.iload_n 1, 1) := by decide +kernel
theorem dX2_isAwake_2 : decode cX2_isAwake 2 = .ok (.iconst 0, 1) := by decide +kernel
theorem dX2_isAwake_3 : decode cX2_isAwake 3 = .ok (.invokevirtual 53, 3) := by decide +kernel
theorem dX2_isAwake_6 : decode cX2_isAwake 6 = .ok (.ireturn, 1) := by decide +kernel
theorem dX2_isSour_0 : decode cX2_isSour 0 = .ok (.aload_n 0, 1) := by decide +kernel
theorem dX2_isSour_1 : decode cX2_isSour 1 = .ok (.getfield 15, 3) := by decide +kernel
theorem dX2_isSour_4 : decode cX2_isSour 4 = .ok (.iload_n 1, 1) := by decide +kernel
theorem dX2_isSour_5 : decode cX2_isSour 5 = .ok (.invokestatic 57, 3) := by decide +kernel
theorem dX2_isSour_8 : decode cX2_isSour 8 = .ok (.ireturn, 1) := by decide +kernel
theorem dX2_awakeBits_0 : decode cX2_awakeBits 0 = .ok (.iconst 0, 1) := by decide +kernel
theorem dX2_awakeBits_1 : decode cX2_awakeBits 1 = .ok (.istore_n 1, 1) := by decide +kernel
theorem dX2_awakeBits_2 : decode cX2_awakeBits 2 = .ok (.iconst 0, 1) := by decide +kernel
theorem dX2_awakeBits_3 : decode cX2_awakeBits 3 = .ok (.istore_n 2, 1) := by decide +kernel
theorem dX2_awakeBits_4 : decode cX2_awakeBits 4 = .ok (.iload_n 2, 1) := by decide +kernel
theorem dX2_awakeBits_5 : decode cX2_awakeBits 5 = .ok (.aload_n 0, 1) := by decide +kernel
theorem dX2_awakeBits_6 : decode cX2_awakeBits 6 = .ok (.getfield 25, 3) := by decide +kernel
theorem dX2_awakeBits_9 : decode cX2_awakeBits 9 = .ok (.getfield 60, 3) := by decide +kernel
theorem dX2_awakeBits_12 : decode cX2_awakeBits 12 = .ok (.if_icmp .ge 24, 3) := by decide +kernel
theorem dX2_awakeBits_15 : decode cX2_awakeBits 15 = .ok (.aload_n 0, 1) := by decide +kernel
theorem dX2_awakeBits_16 : decode cX2_awakeBits 16 = .ok (.iload_n 2, 1) := by decide +kernel
theorem dX2_awakeBits_17 : decode cX2_awakeBits 17 = .ok (.iconst 0, 1) := by decide +kernel
theorem dX2_awakeBits_18 : decode cX2_awakeBits 18 = .ok (.invokevirtual 53, 3) := by decide +kernel
theorem dX2_awakeBits_21 : decode cX2_awakeBits 21 = .ok (.ifCond .eq 9, 3) := by decide +kernel
theorem dX2_awakeBits_24 : decode cX2_awakeBits 24 = .ok (.iload_n 1, 1) := by decide +kernel
theorem dX2_awakeBits_25 : decode cX2_awakeBits 25 = .ok (.iconst 1, 1) := by decide +kernel
theorem dX2_awakeBits_26 : decode cX2_awakeBits 26 = .ok (.iload_n 2, 1) := by decide +kernel
theorem dX2_awakeBits_27 : decode cX2_awakeBits 27 = .ok (.ishl, 1) := by decide +kernel
theorem dX2_awakeBits_28 : decode cX2_awakeBits 28 = .ok (.ior, 1) := by decide +kernel
theorem dX2_awakeBits_29 : decode cX2_awakeBits 29 = .ok (.istore_n 1, 1) := by decide +kernel
theorem dX2_awakeBits_30 : decode cX2_awakeBits 30 = .ok (.iinc 2 1, 3) := by decide +kernel
theorem dX2_awakeBits_33 : decode cX2_awakeBits 33 = .ok (.goto (-29), 3) := by decide +kernel
theorem dX2_awakeBits_36 : decode cX2_awakeBits 36 = .ok (.iload_n 1, 1) := by decide +kernel
theorem dX2_awakeBits_37 : decode cX2_awakeBits 37 = .ok (.ireturn, 1) := by decide +kernel
theorem dX2_asleepBits_0 : decode cX2_asleepBits 0 = .ok (.iconst 0, 1) := by decide +kernel
theorem dX2_asleepBits_1 : decode cX2_asleepBits 1 = .ok (.istore_n 1, 1) := by decide +kernel
theorem dX2_asleepBits_2 : decode cX2_asleepBits 2 = .ok (.iconst 0, 1) := by decide +kernel
theorem dX2_asleepBits_3 : decode cX2_asleepBits 3 = .ok (.istore_n 2, 1) := by decide +kernel
theorem dX2_asleepBits_4 : decode cX2_asleepBits 4 = .ok (.iload_n 2, 1) := by decide +kernel
theorem dX2_asleepBits_5 : decode cX2_asleepBits 5 = .ok (.aload_n 0, 1) := by decide +kernel
theorem dX2_asleepBits_6 : decode cX2_asleepBits 6 = .ok (.getfield 25, 3) := by decide +kernel
theorem dX2_asleepBits_9 : decode cX2_asleepBits 9 = .ok (.getfield 60, 3) := by decide +kernel
theorem dX2_asleepBits_12 : decode cX2_asleepBits 12 = .ok (.if_icmp .ge 24, 3) := by decide +kernel
theorem dX2_asleepBits_15 : decode cX2_asleepBits 15 = .ok (.aload_n 0, 1) := by decide +kernel
theorem dX2_asleepBits_16 : decode cX2_asleepBits 16 = .ok (.iload_n 2, 1) := by decide +kernel
theorem dX2_asleepBits_17 : decode cX2_asleepBits 17 = .ok (.iconst 0, 1) := by decide +kernel
theorem dX2_asleepBits_18 : decode cX2_asleepBits 18 = .ok (.invokevirtual 53, 3) := by decide +kernel
theorem dX2_asleepBits_21 : decode cX2_asleepBits 21 = .ok (.ifCond .ne 9, 3) := by decide +kernel
theorem dX2_asleepBits_24 : decode cX2_asleepBits 24 = .ok (.iload_n 1, 1) := by decide +kernel
theorem dX2_asleepBits_25 : decode cX2_asleepBits 25 = .ok (.iconst 1, 1) := by decide +kernel
theorem dX2_asleepBits_26 : decode cX2_asleepBits 26 = .ok (.iload_n 2, 1) := by decide +kernel
theorem dX2_asleepBits_27 : decode cX2_asleepBits 27 = .ok (.ishl, 1) := by decide +kernel
theorem dX2_asleepBits_28 : decode cX2_asleepBits 28 = .ok (.ior, 1) := by decide +kernel
theorem dX2_asleepBits_29 : decode cX2_asleepBits 29 = .ok (.istore_n 1, 1) := by decide +kernel
theorem dX2_asleepBits_30 : decode cX2_asleepBits 30 = .ok (.iinc 2 1, 3) := by decide +kernel
theorem dX2_asleepBits_33 : decode cX2_asleepBits 33 = .ok (.goto (-29), 3) := by decide +kernel
theorem dX2_asleepBits_36 : decode cX2_asleepBits 36 = .ok (.iload_n 1, 1) := by decide +kernel
theorem dX2_asleepBits_37 : decode cX2_asleepBits 37 = .ok (.ireturn, 1) := by decide +kernel
theorem dX2_allWater_0 : decode cX2_allWater 0 = .ok (.iconst 0, 1) := by decide +kernel
theorem dX2_allWater_1 : decode cX2_allWater 1 = .ok (.istore_n 1, 1) := by decide +kernel
theorem dX2_allWater_2 : decode cX2_allWater 2 = .ok (.iconst 0, 1) := by decide +kernel
theorem dX2_allWater_3 : decode cX2_allWater 3 = .ok (.istore_n 2, 1) := by decide +kernel
theorem dX2_allWater_4 : decode cX2_allWater 4 = .ok (.iload_n 2, 1) := by decide +kernel
theorem dX2_allWater_5 : decode cX2_allWater 5 = .ok (.aload_n 0, 1) := by decide +kernel
theorem dX2_allWater_6 : decode cX2_allWater 6 = .ok (.getfield 25, 3) := by decide +kernel
theorem dX2_allWater_9 : decode cX2_allWater 9 = .ok (.getfield 60, 3) := by decide +kernel
theorem dX2_allWater_12 : decode cX2_allWater 12 = .ok (.if_icmp .ge 17, 3) := by decide +kernel
theorem dX2_allWater_15 : decode cX2_allWater 15 = .ok (.iload_n 1, 1) := by decide +kernel
theorem dX2_allWater_16 : decode cX2_allWater 16 = .ok (.aload_n 0, 1) := by decide +kernel
theorem dX2_allWater_17 : decode cX2_allWater 17 = .ok (.iload_n 2, 1) := by decide +kernel
theorem dX2_allWater_18 : decode cX2_allWater 18 = .ok (.invokevirtual 63, 3) := by decide +kernel
theorem dX2_allWater_21 : decode cX2_allWater 21 = .ok (.iadd, 1) := by decide +kernel
theorem dX2_allWater_22 : decode cX2_allWater 22 = .ok (.istore_n 1, 1) := by decide +kernel
theorem dX2_allWater_23 : decode cX2_allWater 23 = .ok (.iinc 2 1, 3) := by decide +kernel
theorem dX2_allWater_26 : decode cX2_allWater 26 = .ok (.goto (-22), 3) := by decide +kernel
theorem dX2_allWater_29 : decode cX2_allWater 29 = .ok (.iload_n 1, 1) := by decide +kernel
theorem dX2_allWater_30 : decode cX2_allWater 30 = .ok (.ireturn, 1) := by decide +kernel
theorem dX2_wakeUp_0 : decode cX2_wakeUp 0 = .ok (.aload_n 0, 1) := by decide +kernel
theorem dX2_wakeUp_1 : decode cX2_wakeUp 1 = .ok (.iload_n 1, 1) := by decide +kernel
theorem dX2_wakeUp_2 : decode cX2_wakeUp 2 = .ok (.iconst 0, 1) := by decide +kernel
theorem dX2_wakeUp_3 : decode cX2_wakeUp 3 = .ok (.invokevirtual 66, 3) := by decide +kernel
theorem dX2_wakeUp_6 : decode cX2_wakeUp 6 = .ok (.return_, 1) := by decide +kernel
theorem dX2_putToSleep_0 : decode cX2_putToSleep 0 = .ok (.aload_n 0, 1) := by decide +kernel
theorem dX2_putToSleep_1 : decode cX2_putToSleep 1 = .ok (.iload_n 1, 1) := by decide +kernel
theorem dX2_putToSleep_2 : decode cX2_putToSleep 2 = .ok (.aload_n 0, 1) := by decide +kernel
theorem dX2_putToSleep_3 : decode cX2_putToSleep 3 = .ok (.getfield 25, 3) := by decide +kernel
theorem dX2_putToSleep_6 : decode cX2_putToSleep 6 = .ok (.iload_n 1, 1) := by decide +kernel
theorem dX2_putToSleep_7 : decode cX2_putToSleep 7 = .ok (.invokevirtual 50, 3) := by decide +kernel
theorem dX2_putToSleep_10 : decode cX2_putToSleep 10 = .ok (.invokevirtual 66, 3) := by decide +kernel
theorem dX2_putToSleep_13 : decode cX2_putToSleep 13 = .ok (.return_, 1) := by decide +kernel
theorem dX2_turnTo_0 : decode cX2_turnTo 0 = .ok (.aload_n 0, 1) := by decide +kernel
theorem dX2_turnTo_1 : decode cX2_turnTo 1 = .ok (.getfield 25, 3) := by decide +kernel
theorem dX2_turnTo_4 : decode cX2_turnTo 4 = .ok (.iload_n 1, 1) := by decide +kernel
theorem dX2_turnTo_5 : decode cX2_turnTo 5 = .ok (.invokevirtual 44, 3) := by decide +kernel
theorem dX2_turnTo_8 : decode cX2_turnTo 8 = .ok (.istore_n 3, 1) := by decide +kernel
theorem dX2_turnTo_9 : decode cX2_turnTo 9 = .ok (.iload_n 3, 1) := by decide +kernel
theorem dX2_turnTo_10 : decode cX2_turnTo 10 = .ok (.iconst 1, 1) := by decide +kernel
theorem dX2_turnTo_11 : decode cX2_turnTo 11 = .ok (.if_icmp .lt 32, 3) := by decide +kernel
theorem dX2_turnTo_14 : decode cX2_turnTo 14 = .ok (.iload_n 1, 1) := by decide +kernel
theorem dX2_turnTo_15 : decode cX2_turnTo 15 = .ok (.ifCond .lt 28, 3) := by decide +kernel
theorem dX2_turnTo_18 : decode cX2_turnTo 18 = .ok (.iload_n 1, 1) := by decide +kernel
theorem dX2_turnTo_19 : decode cX2_turnTo 19 = .ok (.aload_n 0, 1) := by decide +kernel
theorem dX2_turnTo_20 : decode cX2_turnTo 20 = .ok (.getfield 18, 3) := by decide +kernel
theorem dX2_turnTo_23 : decode cX2_turnTo 23 = .ok (.arraylength, 1) := by decide +kernel
theorem dX2_turnTo_24 : decode cX2_turnTo 24 = .ok (.if_icmp .ge 19, 3) := by decide +kernel
theorem dX2_turnTo_27 : decode cX2_turnTo 27 = .ok (.aload_n 0, 1) := by decide +kernel
theorem dX2_turnTo_28 : decode cX2_turnTo 28 = .ok (.getfield 18, 3) := by decide +kernel
theorem dX2_turnTo_31 : decode cX2_turnTo 31 = .ok (.iload_n 1, 1) := by decide +kernel
theorem dX2_turnTo_32 : decode cX2_turnTo 32 = .ok (.iload_n 2, 1) := by decide +kernel
theorem dX2_turnTo_33 : decode cX2_turnTo 33 = .ok (.aload_n 0, 1) := by decide +kernel
theorem dX2_turnTo_34 : decode cX2_turnTo 34 = .ok (.getfield 9, 3) := by decide +kernel
theorem dX2_turnTo_37 : decode cX2_turnTo 37 = .ok (.isub, 1) := by decide +kernel
theorem dX2_turnTo_38 : decode cX2_turnTo 38 = .ok (.iload_n 3, 1) := by decide +kernel
theorem dX2_turnTo_39 : decode cX2_turnTo 39 = .ok (.invokestatic 70, 3) := by decide +kernel
theorem dX2_turnTo_42 : decode cX2_turnTo 42 = .ok (.iastore, 1) := by decide +kernel
theorem dX2_turnTo_43 : decode cX2_turnTo 43 = .ok (.return_, 1) := by decide +kernel
theorem dX2_pourOut_0 : decode cX2_pourOut 0 = .ok (.iload_n 1, 1) := by decide +kernel
theorem dX2_pourOut_1 : decode cX2_pourOut 1 = .ok (.ifCond .lt 22, 3) := by decide +kernel
theorem dX2_pourOut_4 : decode cX2_pourOut 4 = .ok (.iload_n 1, 1) := by decide +kernel
theorem dX2_pourOut_5 : decode cX2_pourOut 5 = .ok (.aload_n 0, 1) := by decide +kernel
theorem dX2_pourOut_6 : decode cX2_pourOut 6 = .ok (.getfield 22, 3) := by decide +kernel
theorem dX2_pourOut_9 : decode cX2_pourOut 9 = .ok (.arraylength, 1) := by decide +kernel
theorem dX2_pourOut_10 : decode cX2_pourOut 10 = .ok (.if_icmp .ge 13, 3) := by decide +kernel
theorem dX2_pourOut_13 : decode cX2_pourOut 13 = .ok (.aload_n 0, 1) := by decide +kernel
theorem dX2_pourOut_14 : decode cX2_pourOut 14 = .ok (.getfield 22, 3) := by decide +kernel
theorem dX2_pourOut_17 : decode cX2_pourOut 17 = .ok (.iload_n 1, 1) := by decide +kernel
theorem dX2_pourOut_18 : decode cX2_pourOut 18 = .ok (.dup2, 1) := by decide +kernel
theorem dX2_pourOut_19 : decode cX2_pourOut 19 = .ok (.iaload, 1) := by decide +kernel
theorem dX2_pourOut_20 : decode cX2_pourOut 20 = .ok (.iload_n 2, 1) := by decide +kernel
theorem dX2_pourOut_21 : decode cX2_pourOut 21 = .ok (.isub, 1) := by decide +kernel
theorem dX2_pourOut_22 : decode cX2_pourOut 22 = .ok (.iastore, 1) := by decide +kernel
theorem dX2_pourOut_23 : decode cX2_pourOut 23 = .ok (.return_, 1) := by decide +kernel
theorem dX2_passHour_0 : decode cX2_passHour 0 = .ok (.aload_n 0, 1) := by decide +kernel
theorem dX2_passHour_1 : decode cX2_passHour 1 = .ok (.invokevirtual 76, 3) := by decide +kernel
theorem dX2_passHour_4 : decode cX2_passHour 4 = .ok (.istore_n 1, 1) := by decide +kernel
theorem dX2_passHour_5 : decode cX2_passHour 5 = .ok (.iconst 0, 1) := by decide +kernel
theorem dX2_passHour_6 : decode cX2_passHour 6 = .ok (.istore_n 2, 1) := by decide +kernel
theorem dX2_passHour_7 : decode cX2_passHour 7 = .ok (.iload_n 2, 1) := by decide +kernel
theorem dX2_passHour_8 : decode cX2_passHour 8 = .ok (.aload_n 0, 1) := by decide +kernel
theorem dX2_passHour_9 : decode cX2_passHour 9 = .ok (.getfield 25, 3) := by decide +kernel
theorem dX2_passHour_12 : decode cX2_passHour 12 = .ok (.getfield 60, 3) := by decide +kernel
theorem dX2_passHour_15 : decode cX2_passHour 15 = .ok (.if_icmp .ge 39, 3) := by decide +kernel
theorem dX2_passHour_18 : decode cX2_passHour 18 = .ok (.iload_n 1, 1) := by decide +kernel
theorem dX2_passHour_19 : decode cX2_passHour 19 = .ok (.iload_n 2, 1) := by decide +kernel
theorem dX2_passHour_20 : decode cX2_passHour 20 = .ok (.invokestatic 57, 3) := by decide +kernel
theorem dX2_passHour_23 : decode cX2_passHour 23 = .ok (.ifCond .eq 25, 3) := by decide +kernel
theorem dX2_passHour_26 : decode cX2_passHour 26 = .ok (.aload_n 0, 1) := by decide +kernel
theorem dX2_passHour_27 : decode cX2_passHour 27 = .ok (.iload_n 2, 1) := by decide +kernel
theorem dX2_passHour_28 : decode cX2_passHour 28 = .ok (.invokevirtual 63, 3) := by decide +kernel
theorem dX2_passHour_31 : decode cX2_passHour 31 = .ok (.aload_n 0, 1) := by decide +kernel
theorem dX2_passHour_32 : decode cX2_passHour 32 = .ok (.getfield 25, 3) := by decide +kernel
theorem dX2_passHour_35 : decode cX2_passHour 35 = .ok (.iload_n 2, 1) := by decide +kernel
theorem dX2_passHour_36 : decode cX2_passHour 36 = .ok (.invokevirtual 80, 3) := by decide +kernel
theorem dX2_passHour_39 : decode cX2_passHour 39 = .ok (.if_icmp .ge 9, 3) := by decide +kernel
theorem dX2_passHour_42 : decode cX2_passHour 42 = .ok (.aload_n 0, 1) := by decide +kernel
theorem dX2_passHour_43 : decode cX2_passHour 43 = .ok (.iload_n 2, 1) := by decide +kernel
theorem dX2_passHour_44 : decode cX2_passHour 44 = .ok (.iconst (-1), 1) := by decide +kernel
theorem dX2_passHour_45 : decode cX2_passHour 45 = .ok (.invokevirtual 83, 3) := by decide +kernel
theorem dX2_passHour_48 : decode cX2_passHour 48 = .ok (.iinc 2 1, 3) := by decide +kernel
theorem dX2_passHour_51 : decode cX2_passHour 51 = .ok (.goto (-44), 3) := by decide +kernel
theorem dX2_passHour_54 : decode cX2_passHour 54 = .ok (.iconst 0, 1) := by decide +kernel
theorem dX2_passHour_55 : decode cX2_passHour 55 = .ok (.istore_n 2, 1) := by decide +kernel
theorem dX2_passHour_56 : decode cX2_passHour 56 = .ok (.iload_n 2, 1) := by decide +kernel
theorem dX2_passHour_57 : decode cX2_passHour 57 = .ok (.aload_n 0, 1) := by decide +kernel
theorem dX2_passHour_58 : decode cX2_passHour 58 = .ok (.getfield 25, 3) := by decide +kernel
theorem dX2_passHour_61 : decode cX2_passHour 61 = .ok (.getfield 60, 3) := by decide +kernel
theorem dX2_passHour_64 : decode cX2_passHour 64 = .ok (.if_icmp .ge 71, 3) := by decide +kernel
theorem dX2_passHour_67 : decode cX2_passHour 67 = .ok (.iload_n 1, 1) := by decide +kernel
theorem dX2_passHour_68 : decode cX2_passHour 68 = .ok (.iload_n 2, 1) := by decide +kernel
theorem dX2_passHour_69 : decode cX2_passHour 69 = .ok (.invokestatic 57, 3) := by decide +kernel
theorem dX2_passHour_72 : decode cX2_passHour 72 = .ok (.ifCond .eq 16, 3) := by decide +kernel
theorem dX2_passHour_75 : decode cX2_passHour 75 = .ok (.aload_n 0, 1) := by decide +kernel
theorem dX2_passHour_76 : decode cX2_passHour 76 = .ok (.getfield 25, 3) := by decide +kernel
theorem dX2_passHour_79 : decode cX2_passHour 79 = .ok (.iload_n 2, 1) := by decide +kernel
theorem dX2_passHour_80 : decode cX2_passHour 80 = .ok (.invokevirtual 86, 3) := by decide +kernel
theorem dX2_passHour_83 : decode cX2_passHour 83 = .ok (.iload_n 1, 1) := by decide +kernel
theorem dX2_passHour_84 : decode cX2_passHour 84 = .ok (.iand, 1) := by decide +kernel
theorem dX2_passHour_85 : decode cX2_passHour 85 = .ok (.goto 4, 3) := by decide +kernel
theorem dX2_passHour_88 : decode cX2_passHour 88 = .ok (.iconst 0, 1) := by decide +kernel
theorem dX2_passHour_89 : decode cX2_passHour 89 = .ok (.istore_n 3, 1) := by decide +kernel
theorem dX2_passHour_90 : decode cX2_passHour 90 = .ok (.iload_n 2, 1) := by decide +kernel
theorem dX2_passHour_91 : decode cX2_passHour 91 = .ok (.iconst 1, 1) := by decide +kernel
theorem dX2_passHour_92 : decode cX2_passHour 92 = .ok (.iadd, 1) := by decide +kernel
theorem dX2_passHour_93 : decode cX2_passHour 93 = .ok (.istore 4, 2) := by decide +kernel
theorem dX2_passHour_95 : decode cX2_passHour 95 = .ok (.iload 4, 2) := by decide +kernel
theorem dX2_passHour_97 : decode cX2_passHour 97 = .ok (.aload_n 0, 1) := by decide +kernel
theorem dX2_passHour_98 : decode cX2_passHour 98 = .ok (.getfield 25, 3) := by decide +kernel
theorem dX2_passHour_101 : decode cX2_passHour 101 = .ok (.getfield 60, 3) := by decide +kernel
theorem dX2_passHour_104 : decode cX2_passHour 104 = .ok (.if_icmp .ge 25, 3) := by decide +kernel
theorem dX2_passHour_107 : decode cX2_passHour 107 = .ok (.iload_n 3, 1) := by decide +kernel
theorem dX2_passHour_108 : decode cX2_passHour 108 = .ok (.iload 4, 2) := by decide +kernel
theorem dX2_passHour_110 : decode cX2_passHour 110 = .ok (.invokestatic 57, 3) := by decide +kernel
theorem dX2_passHour_113 : decode cX2_passHour 113 = .ok (.ifCond .eq 10, 3) := by decide +kernel
theorem dX2_passHour_116 : decode cX2_passHour 116 = .ok (.aload_n 0, 1) := by decide +kernel
theorem dX2_passHour_117 : decode cX2_passHour 117 = .ok (.iload_n 2, 1) := by decide +kernel
theorem dX2_passHour_118 : decode cX2_passHour 118 = .ok (.iload 4, 2) := by decide +kernel
theorem dX2_passHour_120 : decode cX2_passHour 120 = .ok (.invokevirtual 89, 3) := by decide +kernel
theorem dX2_passHour_123 : decode cX2_passHour 123 = .ok (.iinc 4 1, 3) := by decide +kernel
theorem dX2_passHour_126 : decode cX2_passHour 126 = .ok (.goto (-31), 3) := by decide +kernel
theorem dX2_passHour_129 : decode cX2_passHour 129 = .ok (.iinc 2 1, 3) := by decide +kernel
theorem dX2_passHour_132 : decode cX2_passHour 132 = .ok (.goto (-76), 3) := by decide +kernel
theorem dX2_passHour_135 : decode cX2_passHour 135 = .ok (.aload_n 0, 1) := by decide +kernel
theorem dX2_passHour_136 : decode cX2_passHour 136 = .ok (.dup, 1) := by decide +kernel
theorem dX2_passHour_137 : decode cX2_passHour 137 = .ok (.getfield 9, 3) := by decide +kernel
theorem dX2_passHour_140 : decode cX2_passHour 140 = .ok (.iconst 1, 1) := by decide +kernel
theorem dX2_passHour_141 : decode cX2_passHour 141 = .ok (.iadd, 1) := by decide +kernel
theorem dX2_passHour_142 : decode cX2_passHour 142 = .ok (.putfield 9, 3) := by decide +kernel
theorem dX2_passHour_145 : decode cX2_passHour 145 = .ok (.aload_n 0, 1) := by decide +kernel
theorem dX2_passHour_146 : decode cX2_passHour 146 = .ok (.dup, 1) := by decide +kernel
theorem dX2_passHour_147 : decode cX2_passHour 147 = .ok (.getfield 15, 3) := by decide +kernel
theorem dX2_passHour_150 : decode cX2_passHour 150 = .ok (.aload_n 0, 1) := by decide +kernel
theorem dX2_passHour_151 : decode cX2_passHour 151 = .ok (.invokevirtual 76, 3) := by decide +kernel
theorem dX2_passHour_154 : decode cX2_passHour 154 = .ok (.iconst (-1), 1) := by decide +kernel
theorem dX2_passHour_155 : decode cX2_passHour 155 = .ok (.ixor, 1) := by decide +kernel
theorem dX2_passHour_156 : decode cX2_passHour 156 = .ok (.iand, 1) := by decide +kernel
theorem dX2_passHour_157 : decode cX2_passHour 157 = .ok (.putfield 15, 3) := by decide +kernel
theorem dX2_passHour_160 : decode cX2_passHour 160 = .ok (.return_, 1) := by decide +kernel
theorem dX2_dreamLevel_0 : decode cX2_dreamLevel 0 = .ok (.aload_n 0, 1) := by decide +kernel
theorem dX2_dreamLevel_1 : decode cX2_dreamLevel 1 = .ok (.iload_n 1, 1) := by decide +kernel
theorem dX2_dreamLevel_2 : decode cX2_dreamLevel 2 = .ok (.invokevirtual 63, 3) := by decide +kernel
theorem dX2_dreamLevel_5 : decode cX2_dreamLevel 5 = .ok (.aload_n 0, 1) := by decide +kernel
theorem dX2_dreamLevel_6 : decode cX2_dreamLevel 6 = .ok (.iload_n 2, 1) := by decide +kernel
theorem dX2_dreamLevel_7 : decode cX2_dreamLevel 7 = .ok (.invokevirtual 63, 3) := by decide +kernel
theorem dX2_dreamLevel_10 : decode cX2_dreamLevel 10 = .ok (.isub, 1) := by decide +kernel
theorem dX2_dreamLevel_11 : decode cX2_dreamLevel 11 = .ok (.istore_n 3, 1) := by decide +kernel
theorem dX2_dreamLevel_12 : decode cX2_dreamLevel 12 = .ok (.iload_n 3, 1) := by decide +kernel
theorem dX2_dreamLevel_13 : decode cX2_dreamLevel 13 = .ok (.iconst 2, 1) := by decide +kernel
theorem dX2_dreamLevel_14 : decode cX2_dreamLevel 14 = .ok (.if_icmp .lt 12, 3) := by decide +kernel
theorem dX2_dreamLevel_17 : decode cX2_dreamLevel 17 = .ok (.aload_n 0, 1) := by decide +kernel
theorem dX2_dreamLevel_18 : decode cX2_dreamLevel 18 = .ok (.iload_n 1, 1) := by decide +kernel
theorem dX2_dreamLevel_19 : decode cX2_dreamLevel 19 = .ok (.iload_n 2, 1) := by decide +kernel
theorem dX2_dreamLevel_20 : decode cX2_dreamLevel 20 = .ok (.invokevirtual 92, 3) := by decide +kernel
theorem dX2_dreamLevel_23 : decode cX2_dreamLevel 23 = .ok (.goto 15, 3) := by decide +kernel
theorem dX2_dreamLevel_26 : decode cX2_dreamLevel 26 = .ok (.iload_n 3, 1) := by decide +kernel
theorem dX2_dreamLevel_27 : decode cX2_dreamLevel 27 = .ok (.bipush (-2), 2) := by decide +kernel
theorem dX2_dreamLevel_29 : decode cX2_dreamLevel 29 = .ok (.if_icmp .gt 9, 3) := by decide +kernel
theorem dX2_dreamLevel_32 : decode cX2_dreamLevel 32 = .ok (.aload_n 0, 1) := by decide +kernel
theorem dX2_dreamLevel_33 : decode cX2_dreamLevel 33 = .ok (.iload_n 2, 1) := by decide +kernel
theorem dX2_dreamLevel_34 : decode cX2_dreamLevel 34 = .ok (.iload_n 1, 1) := by decide +kernel
theorem dX2_dreamLevel_35 : decode cX2_dreamLevel 35 = .ok (.invokevirtual 92, 3) := by decide +kernel
theorem dX2_dreamLevel_38 : decode cX2_dreamLevel 38 = .ok (.return_, 1) := by decide +kernel
theorem dX2_pass_0 : decode cX2_pass 0 = .ok (.aload_n 0, 1) := by decide +kernel
theorem dX2_pass_1 : decode cX2_pass 1 = .ok (.iload_n 2, 1) := by decide +kernel
theorem dX2_pass_2 : decode cX2_pass 2 = .ok (.invokevirtual 63, 3) := by decide +kernel
theorem dX2_pass_5 : decode cX2_pass 5 = .ok (.aload_n 0, 1) := by decide +kernel
theorem dX2_pass_6 : decode cX2_pass 6 = .ok (.getfield 25, 3) := by decide +kernel
theorem dX2_pass_9 : decode cX2_pass 9 = .ok (.iload_n 2, 1) := by decide +kernel
theorem dX2_pass_10 : decode cX2_pass 10 = .ok (.invokevirtual 80, 3) := by decide +kernel
theorem dX2_pass_13 : decode cX2_pass 13 = .ok (.if_icmp .ge 15, 3) := by decide +kernel
theorem dX2_pass_16 : decode cX2_pass 16 = .ok (.aload_n 0, 1) := by decide +kernel
theorem dX2_pass_17 : decode cX2_pass 17 = .ok (.iload_n 1, 1) := by decide +kernel
theorem dX2_pass_18 : decode cX2_pass 18 = .ok (.iconst 1, 1) := by decide +kernel
theorem dX2_pass_19 : decode cX2_pass 19 = .ok (.invokevirtual 83, 3) := by decide +kernel
theorem dX2_pass_22 : decode cX2_pass 22 = .ok (.aload_n 0, 1) := by decide +kernel
theorem dX2_pass_23 : decode cX2_pass 23 = .ok (.iload_n 2, 1) := by decide +kernel
theorem dX2_pass_24 : decode cX2_pass 24 = .ok (.iconst (-1), 1) := by decide +kernel
theorem dX2_pass_25 : decode cX2_pass 25 = .ok (.invokevirtual 83, 3) := by decide +kernel
theorem dX2_pass_28 : decode cX2_pass 28 = .ok (.return_, 1) := by decide +kernel
theorem dX3_init_0 : decode cX3_init 0 = .ok (.aload_n 0, 1) := by decide +kernel
theorem dX3_init_1 : decode cX3_init 1 = .ok (.invokespecial 3, 3) := by decide +kernel
theorem dX3_init_4 : decode cX3_init 4 = .ok (.aload_n 0, 1) := by decide +kernel
theorem dX3_init_5 : decode cX3_init 5 = .ok (.iload_n 1, 1) := by decide +kernel
theorem dX3_init_6 : decode cX3_init 6 = .ok (.putfield 9, 3) := by decide +kernel
theorem dX3_init_9 : decode cX3_init 9 = .ok (.return_, 1) := by decide +kernel
theorem dX3_next_0 : decode cX3_next 0 = .ok (.aload_n 0, 1) := by decide +kernel
theorem dX3_next_1 : decode cX3_next 1 = .ok (.ldc 15, 2) := by decide +kernel
theorem dX3_next_3 : decode cX3_next 3 = .ok (.aload_n 0, 1) := by decide +kernel
theorem dX3_next_4 : decode cX3_next 4 = .ok (.getfield 9, 3) := by decide +kernel
theorem dX3_next_7 : decode cX3_next 7 = .ok (.imul, 1) := by decide +kernel
theorem dX3_next_8 : decode cX3_next 8 = .ok (.sipush 12345, 3) := by decide +kernel
theorem dX3_next_11 : decode cX3_next 11 = .ok (.iadd, 1) := by decide +kernel
theorem dX3_next_12 : decode cX3_next 12 = .ok (.putfield 9, 3) := by decide +kernel
theorem dX3_next_15 : decode cX3_next 15 = .ok (.aload_n 0, 1) := by decide +kernel
theorem dX3_next_16 : decode cX3_next 16 = .ok (.getfield 9, 3) := by decide +kernel
theorem dX3_next_19 : decode cX3_next 19 = .ok (.bipush 16, 2) := by decide +kernel
theorem dX3_next_21 : decode cX3_next 21 = .ok (.iushr, 1) := by decide +kernel
theorem dX3_next_22 : decode cX3_next 22 = .ok (.ireturn, 1) := by decide +kernel
theorem dX3_nextDeed_0 : decode cX3_nextDeed 0 = .ok (.aload_n 0, 1) := by decide +kernel
theorem dX3_nextDeed_1 : decode cX3_nextDeed 1 = .ok (.invokevirtual 16, 3) := by decide +kernel
theorem dX3_nextDeed_4 : decode cX3_nextDeed 4 = .ok (.bipush 6, 2) := by decide +kernel
theorem dX3_nextDeed_6 : decode cX3_nextDeed 6 = .ok (.irem, 1) := by decide +kernel
theorem dX3_nextDeed_7 : decode cX3_nextDeed 7 = .ok (.istore_n 2, 1) := by decide +kernel
theorem dX3_nextDeed_8 : decode cX3_nextDeed 8 = .ok (.iload_n 2, 1) := by decide +kernel
theorem dX3_nextDeed_9 : decode cX3_nextDeed 9 = .ok (.iconst 2, 1) := by decide +kernel
theorem dX3_nextDeed_10 : decode cX3_nextDeed 10 = .ok (.if_icmp .ge 5, 3) := by decide +kernel
theorem dX3_nextDeed_13 : decode cX3_nextDeed 13 = .ok (.iconst (-1), 1) := by decide +kernel
theorem dX3_nextDeed_14 : decode cX3_nextDeed 14 = .ok (.ireturn, 1) := by decide +kernel
theorem dX3_nextDeed_15 : decode cX3_nextDeed 15 = .ok (.iload_n 1, 1) := by decide +kernel
theorem dX3_nextDeed_16 : decode cX3_nextDeed 16 = .ok (.iconst 1, 1) := by decide +kernel
theorem dX3_nextDeed_17 : decode cX3_nextDeed 17 = .ok (.if_icmp .ge 6, 3) := by decide +kernel
theorem dX3_nextDeed_20 : decode cX3_nextDeed 20 = .ok (.bipush (-2), 2) := by decide +kernel
theorem dX3_nextDeed_22 : decode cX3_nextDeed 22 = .ok (.ireturn, 1) := by decide +kernel
theorem dX3_nextDeed_23 : decode cX3_nextDeed 23 = .ok (.aload_n 0, 1) := by decide +kernel
theorem dX3_nextDeed_24 : decode cX3_nextDeed 24 = .ok (.invokevirtual 16, 3) := by decide +kernel
theorem dX3_nextDeed_27 : decode cX3_nextDeed 27 = .ok (.iload_n 1, 1) := by decide +kernel
theorem dX3_nextDeed_28 : decode cX3_nextDeed 28 = .ok (.irem, 1) := by decide +kernel
theorem dX3_nextDeed_29 : decode cX3_nextDeed 29 = .ok (.istore_n 3, 1) := by decide +kernel
theorem dX3_nextDeed_30 : decode cX3_nextDeed 30 = .ok (.iload_n 2, 1) := by decide +kernel
theorem dX3_nextDeed_31 : decode cX3_nextDeed 31 = .ok (.iconst 4, 1) := by decide +kernel
theorem dX3_nextDeed_32 : decode cX3_nextDeed 32 = .ok (.if_icmp .ge 17, 3) := by decide +kernel
theorem dX3_nextDeed_35 : decode cX3_nextDeed 35 = .ok (.iload_n 3, 1) := by decide +kernel
theorem dX3_nextDeed_36 : decode cX3_nextDeed 36 = .ok (.bipush 100, 2) := by decide +kernel
theorem dX3_nextDeed_38 : decode cX3_nextDeed 38 = .ok (.imul, 1) := by decide +kernel
theorem dX3_nextDeed_39 : decode cX3_nextDeed 39 = .ok (.iconst 1, 1) := by decide +kernel
theorem dX3_nextDeed_40 : decode cX3_nextDeed 40 = .ok (.iadd, 1) := by decide +kernel
theorem dX3_nextDeed_41 : decode cX3_nextDeed 41 = .ok (.aload_n 0, 1) := by decide +kernel
theorem dX3_nextDeed_42 : decode cX3_nextDeed 42 = .ok (.invokevirtual 16, 3) := by decide +kernel
theorem dX3_nextDeed_45 : decode cX3_nextDeed 45 = .ok (.iconst 5, 1) := by decide +kernel
theorem dX3_nextDeed_46 : decode cX3_nextDeed 46 = .ok (.irem, 1) := by decide +kernel
theorem dX3_nextDeed_47 : decode cX3_nextDeed 47 = .ok (.iadd, 1) := by decide +kernel
theorem dX3_nextDeed_48 : decode cX3_nextDeed 48 = .ok (.ireturn, 1) := by decide +kernel
theorem dX3_nextDeed_49 : decode cX3_nextDeed 49 = .ok (.iload_n 2, 1) := by decide +kernel
theorem dX3_nextDeed_50 : decode cX3_nextDeed 50 = .ok (.iconst 4, 1) := by decide +kernel
theorem dX3_nextDeed_51 : decode cX3_nextDeed 51 = .ok (.if_icmp .ne 9, 3) := by decide +kernel
theorem dX3_nextDeed_54 : decode cX3_nextDeed 54 = .ok (.sipush 2000, 3) := by decide +kernel
theorem dX3_nextDeed_57 : decode cX3_nextDeed 57 = .ok (.goto 6, 3) := by decide +kernel
theorem dX3_nextDeed_60 : decode cX3_nextDeed 60 = .ok (.sipush 2100, 3) := by decide +kernel
theorem dX3_nextDeed_63 : decode cX3_nextDeed 63 = .ok (.iload_n 3, 1) := by decide +kernel
theorem dX3_nextDeed_64 : decode cX3_nextDeed 64 = .ok (.iadd, 1) := by decide +kernel
theorem dX3_nextDeed_65 : decode cX3_nextDeed 65 = .ok (.ireturn, 1) := by decide +kernel
theorem dX4_init_0 : decode cX4_init 0 = .ok (.aload_n 0, 1) := by decide +kernel
theorem dX4_init_1 : decode cX4_init 1 = .ok (.invokespecial 3, 3) := by decide +kernel
theorem dX4_init_4 : decode cX4_init 4 = .ok (.aload_n 0, 1) := by decide +kernel
theorem dX4_init_5 : decode cX4_init 5 = .ok (.iconst 0, 1) := by decide +kernel
theorem dX4_init_6 : decode cX4_init 6 = .ok (.putfield 9, 3) := by decide +kernel
theorem dX4_init_9 : decode cX4_init 9 = .ok (.aload_n 0, 1) := by decide +kernel
theorem dX4_init_10 : decode cX4_init 10 = .ok (.bipush 10, 2) := by decide +kernel
theorem dX4_init_12 : decode cX4_init 12 = .ok (.newarray .int, 2) := by decide +kernel
theorem dX4_init_14 : decode cX4_init 14 = .ok (.putfield 15, 3) := by decide +kernel
theorem dX4_init_17 : decode cX4_init 17 = .ok (.aload_n 0, 1) := by decide +kernel
theorem dX4_init_18 : decode cX4_init 18 = .ok (.bipush 10, 2) := by decide +kernel
theorem dX4_init_20 : decode cX4_init 20 = .ok (.newarray .int, 2) := by decide +kernel
theorem dX4_init_22 : decode cX4_init 22 = .ok (.putfield 19, 3) := by decide +kernel
theorem dX4_init_25 : decode cX4_init 25 = .ok (.aload_n 0, 1) := by decide +kernel
theorem dX4_init_26 : decode cX4_init 26 = .ok (.bipush 8, 2) := by decide +kernel
theorem dX4_init_28 : decode cX4_init 28 = .ok (.newarray .int, 2) := by decide +kernel
theorem dX4_init_30 : decode cX4_init 30 = .ok (.putfield 22, 3) := by decide +kernel
theorem dX4_init_33 : decode cX4_init 33 = .ok (.aload_n 0, 1) := by decide +kernel
theorem dX4_init_34 : decode cX4_init 34 = .ok (.bipush 64, 2) := by decide +kernel
theorem dX4_init_36 : decode cX4_init 36 = .ok (.newarray .int, 2) := by decide +kernel
theorem dX4_init_38 : decode cX4_init 38 = .ok (.putfield 25, 3) := by decide +kernel
theorem dX4_init_41 : decode cX4_init 41 = .ok (.aload_n 0, 1) := by decide +kernel
theorem dX4_init_42 : decode cX4_init 42 = .ok (.aload_n 1, 1) := by decide +kernel
theorem dX4_init_43 : decode cX4_init 43 = .ok (.putfield 28, 3) := by decide +kernel
theorem dX4_init_46 : decode cX4_init 46 = .ok (.return_, 1) := by decide +kernel
theorem dX4_lookAt_0 : decode cX4_lookAt 0 = .ok (.aload_n 0, 1) := by decide +kernel
theorem dX4_lookAt_1 : decode cX4_lookAt 1 = .ok (.aload_n 1, 1) := by decide +kernel
theorem dX4_lookAt_2 : decode cX4_lookAt 2 = .ok (.putfield 28, 3) := by decide +kernel
theorem dX4_lookAt_5 : decode cX4_lookAt 5 = .ok (.aload_n 0, 1) := by decide +kernel
theorem dX4_lookAt_6 : decode cX4_lookAt 6 = .ok (.aload_n 1, 1) := by decide +kernel
theorem dX4_lookAt_7 : decode cX4_lookAt 7 = .ok (.invokevirtual 32, 3) := by decide +kernel
theorem dX4_lookAt_10 : decode cX4_lookAt 10 = .ok (.putfield 9, 3) := by decide +kernel
theorem dX4_lookAt_13 : decode cX4_lookAt 13 = .ok (.return_, 1) := by decide +kernel
theorem dX4_over_0 : decode cX4_over 0 = .ok (.aload_n 0, 1) := by decide +kernel
theorem dX4_over_1 : decode cX4_over 1 = .ok (.aload_n 1, 1) := by decide +kernel
theorem dX4_over_2 : decode cX4_over 2 = .ok (.putfield 28, 3) := by decide +kernel
theorem dX4_over_5 : decode cX4_over 5 = .ok (.aload_n 0, 1) := by decide +kernel
theorem dX4_over_6 : decode cX4_over 6 = .ok (.aload_n 1, 1) := by decide +kernel
theorem dX4_over_7 : decode cX4_over 7 = .ok (.invokevirtual 32, 3) := by decide +kernel
theorem dX4_over_10 : decode cX4_over 10 = .ok (.putfield 9, 3) := by decide +kernel
theorem dX4_over_13 : decode cX4_over 13 = .ok (.iconst 0, 1) := by decide +kernel
theorem dX4_over_14 : decode cX4_over 14 = .ok (.istore_n 2, 1) := by decide +kernel
theorem dX4_over_15 : decode cX4_over 15 = .ok (.iload_n 2, 1) := by decide +kernel
theorem dX4_over_16 : decode cX4_over 16 = .ok (.aload_n 0, 1) := by decide +kernel
theorem dX4_over_17 : decode cX4_over 17 = .ok (.getfield 15, 3) := by decide +kernel
theorem dX4_over_20 : decode cX4_over 20 = .ok (.arraylength, 1) := by decide +kernel
theorem dX4_over_21 : decode cX4_over 21 = .ok (.if_icmp .ge 36, 3) := by decide +kernel
theorem dX4_over_24 : decode cX4_over 24 = .ok (.aload_n 0, 1) := by decide +kernel
theorem dX4_over_25 : decode cX4_over 25 = .ok (.getfield 15, 3) := by decide +kernel
theorem dX4_over_28 : decode cX4_over 28 = .ok (.iload_n 2, 1) := by decide +kernel
theorem dX4_over_29 : decode cX4_over 29 = .ok (.aload_n 0, 1) := by decide +kernel
theorem dX4_over_30 : decode cX4_over 30 = .ok (.getfield 9, 3) := by decide +kernel
theorem dX4_over_33 : decode cX4_over 33 = .ok (.iload_n 2, 1) := by decide +kernel
theorem dX4_over_34 : decode cX4_over 34 = .ok (.invokestatic 38, 3) := by decide +kernel
theorem dX4_over_37 : decode cX4_over 37 = .ok (.ifCond .eq 12, 3) := by decide +kernel
theorem dX4_over_40 : decode cX4_over 40 = .ok (.aload_n 0, 1) := by decide +kernel
theorem dX4_over_41 : decode cX4_over 41 = .ok (.iload_n 2, 1) := by decide +kernel
theorem dX4_over_42 : decode cX4_over 42 = .ok (.iconst 0, 1) := by decide +kernel
theorem dX4_over_43 : decode cX4_over 43 = .ok (.invokevirtual 42, 3) := by decide +kernel
theorem dX4_over_46 : decode cX4_over 46 = .ok (.goto 4, 3) := by decide +kernel
theorem dX4_over_49 : decode cX4_over 49 = .ok (.iconst 0, 1) := by decide +kernel
theorem dX4_over_50 : decode cX4_over 50 = .ok (.iastore, 1) := by decide +kernel
theorem dX4_over_51 : decode cX4_over 51 = .ok (.iinc 2 1, 3) := by decide +kernel
theorem dX4_over_54 : decode cX4_over 54 = .ok (.goto (-39), 3) := by decide +kernel
theorem dX4_over_57 : decode cX4_over 57 = .ok (.return_, 1) := by decide +kernel
theorem dX4_wokenAtOnce_0 : decode cX4_wokenAtOnce 0 = .ok (.aload_n 0, 1) := by decide +kernel
theorem dX4_wokenAtOnce_1 : decode cX4_wokenAtOnce 1 = .ok (.getfield 28, 3) := by decide +kernel
theorem dX4_wokenAtOnce_4 : decode cX4_wokenAtOnce 4 = .ok (.getfield 46, 3) := by decide +kernel
theorem dX4_wokenAtOnce_7 : decode cX4_wokenAtOnce 7 = .ok (.iload_n 1, 1) := by decide +kernel
theorem dX4_wokenAtOnce_8 : decode cX4_wokenAtOnce 8 = .ok (.invokevirtual 50, 3) := by decide +kernel
theorem dX4_wokenAtOnce_11 : decode cX4_wokenAtOnce 11 = .ok (.aload_n 0, 1) := by decide +kernel
theorem dX4_wokenAtOnce_12 : decode cX4_wokenAtOnce 12 = .ok (.getfield 9, 3) := by decide +kernel
theorem dX4_wokenAtOnce_15 : decode cX4_wokenAtOnce 15 = .ok (.iand, 1) := by decide +kernel
theorem dX4_wokenAtOnce_16 : decode cX4_wokenAtOnce 16 = .ok (.istore_n 3, 1) := by decide +kernel
theorem dX4_wokenAtOnce_17 : decode cX4_wokenAtOnce 17 = .ok (.iconst 0, 1) := by decide +kernel
theorem dX4_wokenAtOnce_18 : decode cX4_wokenAtOnce 18 = .ok (.istore 4, 2) := by decide +kernel
theorem dX4_wokenAtOnce_20 : decode cX4_wokenAtOnce 20 = .ok (.iconst 0, 1) := by decide +kernel
theorem dX4_wokenAtOnce_21 : decode cX4_wokenAtOnce 21 = .ok (.istore 5, 2) := by decide +kernel
theorem dX4_wokenAtOnce_23 : decode cX4_wokenAtOnce 23 = .ok (.iload 5, 2) := by decide +kernel
theorem dX4_wokenAtOnce_25 : decode cX4_wokenAtOnce 25 = .ok (.bipush 10, 2) := by decide +kernel
theorem dX4_wokenAtOnce_27 : decode cX4_wokenAtOnce 27 = .ok (.if_icmp .ge 38, 3) := by decide +kernel
theorem dX4_wokenAtOnce_30 : decode cX4_wokenAtOnce 30 = .ok (.iload_n 3, 1) := by decide +kernel
theorem dX4_wokenAtOnce_31 : decode cX4_wokenAtOnce 31 = .ok (.iload 5, 2) := by decide +kernel
theorem dX4_wokenAtOnce_33 : decode cX4_wokenAtOnce 33 = .ok (.invokestatic 38, 3) := by decide +kernel
theorem dX4_wokenAtOnce_36 : decode cX4_wokenAtOnce 36 = .ok (.ifCond .eq 23, 3) := by decide +kernel
theorem dX4_wokenAtOnce_39 : decode cX4_wokenAtOnce 39 = .ok (.aload_n 0, 1) := by decide +kernel
theorem dX4_wokenAtOnce_40 : decode cX4_wokenAtOnce 40 = .ok (.iload_n 1, 1) := by decide +kernel
theorem dX4_wokenAtOnce_41 : decode cX4_wokenAtOnce 41 = .ok (.iload 5, 2) := by decide +kernel
theorem dX4_wokenAtOnce_43 : decode cX4_wokenAtOnce 43 = .ok (.iload_n 2, 1) := by decide +kernel
theorem dX4_wokenAtOnce_44 : decode cX4_wokenAtOnce 44 = .ok (.invokevirtual 56, 3) := by decide +kernel
theorem dX4_wokenAtOnce_47 : decode cX4_wokenAtOnce 47 = .ok (.ifCond .eq 12, 3) := by decide +kernel
theorem dX4_wokenAtOnce_50 : decode cX4_wokenAtOnce 50 = .ok (.iload 4, 2) := by decide +kernel
theorem dX4_wokenAtOnce_52 : decode cX4_wokenAtOnce 52 = .ok (.iconst 1, 1) := by decide +kernel
theorem dX4_wokenAtOnce_53 : decode cX4_wokenAtOnce 53 = .ok (.iload 5, 2) := by decide +kernel
theorem dX4_wokenAtOnce_55 : decode cX4_wokenAtOnce 55 = .ok (.ishl, 1) := by decide +kernel
theorem dX4_wokenAtOnce_56 : decode cX4_wokenAtOnce 56 = .ok (.ior, 1) := by decide +kernel
theorem dX4_wokenAtOnce_57 : decode cX4_wokenAtOnce 57 = .ok (.istore 4, 2) := by decide +kernel
theorem dX4_wokenAtOnce_59 : decode cX4_wokenAtOnce 59 = .ok (.iinc 5 1, 3) := by decide +kernel
theorem dX4_wokenAtOnce_62 : decode cX4_wokenAtOnce 62 = .ok (.goto (-39), 3) := by decide +kernel
theorem dX4_wokenAtOnce_65 : decode cX4_wokenAtOnce 65 = .ok (.iload 4, 2) := by decide +kernel
theorem dX4_wokenAtOnce_67 : decode cX4_wokenAtOnce 67 = .ok (.ireturn, 1) := by decide +kernel
theorem dX4_wokenBy_0 : decode cX4_wokenBy 0 = .ok (.aload_n 0, 1) := by decide +kernel
theorem dX4_wokenBy_1 : decode cX4_wokenBy 1 = .ok (.aload_n 0, 1) := by decide +kernel
theorem dX4_wokenBy_2 : decode cX4_wokenBy 2 = .ok (.iload_n 1, 1) := by decide +kernel
theorem dX4_wokenBy_3 : decode cX4_wokenBy 3 = .ok (.iload_n 2, 1) := by decide +kernel
theorem dX4_wokenBy_4 : decode cX4_wokenBy 4 = .ok (.invokevirtual 42, 3) := by decide +kernel
theorem dX4_wokenBy_7 : decode cX4_wokenBy 7 = .ok (.aload_n 0, 1) := by decide +kernel
theorem dX4_wokenBy_8 : decode cX4_wokenBy 8 = .ok (.getfield 9, 3) := by decide +kernel
theorem dX4_wokenBy_11 : decode cX4_wokenBy 11 = .ok (.iconst 1, 1) := by decide +kernel
theorem dX4_wokenBy_12 : decode cX4_wokenBy 12 = .ok (.iload_n 1, 1) := by decide +kernel
theorem dX4_wokenBy_13 : decode cX4_wokenBy 13 = .ok (.ishl, 1) := by decide +kernel
theorem dX4_wokenBy_14 : decode cX4_wokenBy 14 = .ok (.iconst (-1), 1) := by decide +kernel
theorem dX4_wokenBy_15 : decode cX4_wokenBy 15 = .ok (.ixor, 1) := by decide +kernel
theorem dX4_wokenBy_16 : decode cX4_wokenBy 16 = .ok (.iand, 1) := by decide +kernel
theorem dX4_wokenBy_17 : decode cX4_wokenBy 17 = .ok (.invokevirtual 60, 3) := by decide +kernel
theorem dX4_wokenBy_20 : decode cX4_wokenBy 20 = .ok (.ireturn, 1) := by decide +kernel
theorem dX4_yawnsTill_0 : decode cX4_yawnsTill 0 = .ok (.aload_n 0, 1) := by decide +kernel
theorem dX4_yawnsTill_1 : decode cX4_yawnsTill 1 = .ok (.getfield 9, 3) := by decide +kernel
theorem dX4_yawnsTill_4 : decode cX4_yawnsTill 4 = .ok (.iconst 1, 1) := by decide +kernel
theorem dX4_yawnsTill_5 : decode cX4_yawnsTill 5 = .ok (.iload_n 1, 1) := by decide +kernel
theorem dX4_yawnsTill_6 : decode cX4_yawnsTill 6 = .ok (.ishl, 1) := by decide +kernel
theorem dX4_yawnsTill_7 : decode cX4_yawnsTill 7 = .ok (.iconst (-1), 1) := by decide +kernel
theorem dX4_yawnsTill_8 : decode cX4_yawnsTill 8 = .ok (.ixor, 1) := by decide +kernel
theorem dX4_yawnsTill_9 : decode cX4_yawnsTill 9 = .ok (.iand, 1) := by decide +kernel
theorem dX4_yawnsTill_10 : decode cX4_yawnsTill 10 = .ok (.istore 4, 2) := by decide +kernel
theorem dX4_yawnsTill_12 : decode cX4_yawnsTill 12 = .ok (.aload_n 0, 1) := by decide +kernel
theorem dX4_yawnsTill_13 : decode cX4_yawnsTill 13 = .ok (.iload_n 1, 1) := by decide +kernel
theorem dX4_yawnsTill_14 : decode cX4_yawnsTill 14 = .ok (.iload_n 2, 1) := by decide +kernel
theorem dX4_yawnsTill_15 : decode cX4_yawnsTill 15 = .ok (.invokevirtual 42, 3) := by decide +kernel
theorem dX4_yawnsTill_18 : decode cX4_yawnsTill 18 = .ok (.istore 5, 2) := by decide +kernel
theorem dX4_yawnsTill_20 : decode cX4_yawnsTill 20 = .ok (.iload 5, 2) := by decide +kernel
theorem dX4_yawnsTill_22 : decode cX4_yawnsTill 22 = .ok (.istore 6, 2) := by decide +kernel
theorem dX4_yawnsTill_24 : decode cX4_yawnsTill 24 = .ok (.iconst 1, 1) := by decide +kernel
theorem dX4_yawnsTill_25 : decode cX4_yawnsTill 25 = .ok (.istore 7, 2) := by decide +kernel
theorem dX4_yawnsTill_27 : decode cX4_yawnsTill 27 = .ok (.iload 7, 2) := by decide +kernel
theorem dX4_yawnsTill_29 : decode cX4_yawnsTill 29 = .ok (.bipush 10, 2) := by decide +kernel
theorem dX4_yawnsTill_31 : decode cX4_yawnsTill 31 = .ok (.if_icmp .gt 49, 3) := by decide +kernel
theorem dX4_yawnsTill_34 : decode cX4_yawnsTill 34 = .ok (.iload 5, 2) := by decide +kernel
theorem dX4_yawnsTill_36 : decode cX4_yawnsTill 36 = .ok (.ifCond .eq 44, 3) := by decide +kernel
theorem dX4_yawnsTill_39 : decode cX4_yawnsTill 39 = .ok (.iload 5, 2) := by decide +kernel
theorem dX4_yawnsTill_41 : decode cX4_yawnsTill 41 = .ok (.iload_n 3, 1) := by decide +kernel
theorem dX4_yawnsTill_42 : decode cX4_yawnsTill 42 = .ok (.invokestatic 38, 3) := by decide +kernel
theorem dX4_yawnsTill_45 : decode cX4_yawnsTill 45 = .ok (.ifCond .eq 6, 3) := by decide +kernel
theorem dX4_yawnsTill_48 : decode cX4_yawnsTill 48 = .ok (.iload 7, 2) := by decide +kernel
theorem dX4_yawnsTill_50 : decode cX4_yawnsTill 50 = .ok (.ireturn, 1) := by decide +kernel
theorem dX4_yawnsTill_51 : decode cX4_yawnsTill 51 = .ok (.aload_n 0, 1) := by decide +kernel
theorem dX4_yawnsTill_52 : decode cX4_yawnsTill 52 = .ok (.iload 5, 2) := by decide +kernel
theorem dX4_yawnsTill_54 : decode cX4_yawnsTill 54 = .ok (.invokevirtual 63, 3) := by decide +kernel
theorem dX4_yawnsTill_57 : decode cX4_yawnsTill 57 = .ok (.iload 4, 2) := by decide +kernel
theorem dX4_yawnsTill_59 : decode cX4_yawnsTill 59 = .ok (.iand, 1) := by decide +kernel
theorem dX4_yawnsTill_60 : decode cX4_yawnsTill 60 = .ok (.iload 6, 2) := by decide +kernel
theorem dX4_yawnsTill_62 : decode cX4_yawnsTill 62 = .ok (.iconst (-1), 1) := by decide +kernel
theorem dX4_yawnsTill_63 : decode cX4_yawnsTill 63 = .ok (.ixor, 1) := by decide +kernel
theorem dX4_yawnsTill_64 : decode cX4_yawnsTill 64 = .ok (.iand, 1) := by decide +kernel
theorem dX4_yawnsTill_65 : decode cX4_yawnsTill 65 = .ok (.istore 5, 2) := by decide +kernel
theorem dX4_yawnsTill_67 : decode cX4_yawnsTill 67 = .ok (.iload 6, 2) := by decide +kernel
theorem dX4_yawnsTill_69 : decode cX4_yawnsTill 69 = .ok (.iload 5, 2) := by decide +kernel
theorem dX4_yawnsTill_71 : decode cX4_yawnsTill 71 = .ok (.ior, 1) := by decide +kernel
theorem dX4_yawnsTill_72 : decode cX4_yawnsTill 72 = .ok (.istore 6, 2) := by decide +kernel
theorem dX4_yawnsTill_74 : decode cX4_yawnsTill 74 = .ok (.iinc 7 1, 3) := by decide +kernel
theorem dX4_yawnsTill_77 : decode cX4_yawnsTill 77 = .ok (.goto (-50), 3) := by decide +kernel
theorem dX4_yawnsTill_80 : decode cX4_yawnsTill 80 = .ok (.iconst 0, 1) := by decide +kernel
theorem dX4_yawnsTill_81 : decode cX4_yawnsTill 81 = .ok (.ireturn, 1) := by decide +kernel
theorem dX4_awakeOnesThatWake_0 : decode cX4_awakeOnesThatWake 0 = .ok (.iconst 0, 1) := by decide +kernel
theorem dX4_awakeOnesThatWake_1 : decode cX4_awakeOnesThatWake 1 = .ok (.istore_n 3, 1) := by decide +kernel
theorem dX4_awakeOnesThatWake_2 : decode cX4_awakeOnesThatWake 2 = .ok (.aload_n 0, 1) := by decide +kernel
theorem dX4_awakeOnesThatWake_3 : decode cX4_awakeOnesThatWake 3 = .ok (.getfield 9, 3) := by decide +kernel
theorem dX4_awakeOnesThatWake_6 : decode cX4_awakeOnesThatWake 6 = .ok (.iload_n 1, 1) := by decide +kernel
theorem dX4_awakeOnesThatWake_7 : decode cX4_awakeOnesThatWake 7 = .ok (.invokestatic 38, 3) := by decide +kernel
theorem dX4_awakeOnesThatWake_10 : decode cX4_awakeOnesThatWake 10 = .ok (.ifCond .ne 5, 3) := by decide +kernel
theorem dX4_awakeOnesThatWake_13 : decode cX4_awakeOnesThatWake 13 = .ok (.iload_n 3, 1) := by decide +kernel
theorem dX4_awakeOnesThatWake_14 : decode cX4_awakeOnesThatWake 14 = .ok (.ireturn, 1) := by decide +kernel
theorem dX4_awakeOnesThatWake_15 : decode cX4_awakeOnesThatWake 15 = .ok (.aload_n 0, 1) := by decide +kernel
theorem dX4_awakeOnesThatWake_16 : decode cX4_awakeOnesThatWake 16 = .ok (.getfield 28, 3) := by decide +kernel
theorem dX4_awakeOnesThatWake_19 : decode cX4_awakeOnesThatWake 19 = .ok (.getfield 46, 3) := by decide +kernel
theorem dX4_awakeOnesThatWake_22 : decode cX4_awakeOnesThatWake 22 = .ok (.invokevirtual 66, 3) := by decide +kernel
theorem dX4_awakeOnesThatWake_25 : decode cX4_awakeOnesThatWake 25 = .ok (.aload_n 0, 1) := by decide +kernel
theorem dX4_awakeOnesThatWake_26 : decode cX4_awakeOnesThatWake 26 = .ok (.getfield 9, 3) := by decide +kernel
theorem dX4_awakeOnesThatWake_29 : decode cX4_awakeOnesThatWake 29 = .ok (.iconst (-1), 1) := by decide +kernel
theorem dX4_awakeOnesThatWake_30 : decode cX4_awakeOnesThatWake 30 = .ok (.ixor, 1) := by decide +kernel
theorem dX4_awakeOnesThatWake_31 : decode cX4_awakeOnesThatWake 31 = .ok (.iand, 1) := by decide +kernel
theorem dX4_awakeOnesThatWake_32 : decode cX4_awakeOnesThatWake 32 = .ok (.istore 4, 2) := by decide +kernel
theorem dX4_awakeOnesThatWake_34 : decode cX4_awakeOnesThatWake 34 = .ok (.iconst 0, 1) := by decide +kernel
theorem dX4_awakeOnesThatWake_35 : decode cX4_awakeOnesThatWake 35 = .ok (.istore 5, 2) := by decide +kernel
theorem dX4_awakeOnesThatWake_37 : decode cX4_awakeOnesThatWake 37 = .ok (.iload 5, 2) := by decide +kernel
theorem dX4_awakeOnesThatWake_39 : decode cX4_awakeOnesThatWake 39 = .ok (.bipush 10, 2) := by decide +kernel
theorem dX4_awakeOnesThatWake_41 : decode cX4_awakeOnesThatWake 41 = .ok (.if_icmp .ge 40, 3) := by decide +kernel
theorem dX4_awakeOnesThatWake_44 : decode cX4_awakeOnesThatWake 44 = .ok (.iload 4, 2) := by decide +kernel
theorem dX4_awakeOnesThatWake_46 : decode cX4_awakeOnesThatWake 46 = .ok (.iload 5, 2) := by decide +kernel
theorem dX4_awakeOnesThatWake_48 : decode cX4_awakeOnesThatWake 48 = .ok (.invokestatic 38, 3) := by decide +kernel
theorem dX4_awakeOnesThatWake_51 : decode cX4_awakeOnesThatWake 51 = .ok (.ifCond .eq 24, 3) := by decide +kernel
theorem dX4_awakeOnesThatWake_54 : decode cX4_awakeOnesThatWake 54 = .ok (.aload_n 0, 1) := by decide +kernel
theorem dX4_awakeOnesThatWake_55 : decode cX4_awakeOnesThatWake 55 = .ok (.iload 5, 2) := by decide +kernel
theorem dX4_awakeOnesThatWake_57 : decode cX4_awakeOnesThatWake 57 = .ok (.iload_n 2, 1) := by decide +kernel
theorem dX4_awakeOnesThatWake_58 : decode cX4_awakeOnesThatWake 58 = .ok (.invokevirtual 69, 3) := by decide +kernel
theorem dX4_awakeOnesThatWake_61 : decode cX4_awakeOnesThatWake 61 = .ok (.iload_n 1, 1) := by decide +kernel
theorem dX4_awakeOnesThatWake_62 : decode cX4_awakeOnesThatWake 62 = .ok (.invokestatic 38, 3) := by decide +kernel
theorem dX4_awakeOnesThatWake_65 : decode cX4_awakeOnesThatWake 65 = .ok (.ifCond .eq 10, 3) := by decide +kernel
theorem dX4_awakeOnesThatWake_68 : decode cX4_awakeOnesThatWake 68 = .ok (.iload_n 3, 1) := by decide +kernel
theorem dX4_awakeOnesThatWake_69 : decode cX4_awakeOnesThatWake 69 = .ok (.iconst 1, 1) := by decide +kernel
theorem dX4_awakeOnesThatWake_70 : decode cX4_awakeOnesThatWake 70 = .ok (.iload 5, 2) := by decide +kernel
theorem dX4_awakeOnesThatWake_72 : decode cX4_awakeOnesThatWake 72 = .ok (.ishl, 1) := by decide +kernel
theorem dX4_awakeOnesThatWake_73 : decode cX4_awakeOnesThatWake 73 = .ok (.ior, 1) := by decide +kernel
theorem dX4_awakeOnesThatWake_74 : decode cX4_awakeOnesThatWake 74 = .ok (.istore_n 3, 1) := by decide +kernel
theorem dX4_awakeOnesThatWake_75 : decode cX4_awakeOnesThatWake 75 = .ok (.iinc 5 1, 3) := by decide +kernel
theorem dX4_awakeOnesThatWake_78 : decode cX4_awakeOnesThatWake 78 = .ok (.goto (-41), 3) := by decide +kernel
theorem dX4_awakeOnesThatWake_81 : decode cX4_awakeOnesThatWake 81 = .ok (.iload_n 3, 1) := by decide +kernel
theorem dX4_awakeOnesThatWake_82 : decode cX4_awakeOnesThatWake 82 = .ok (.ireturn, 1) := by decide +kernel
theorem dX4_leastShield_0 : decode cX4_leastShield 0 = .ok (.aload_n 0, 1) := by decide +kernel
theorem dX4_leastShield_1 : decode cX4_leastShield 1 = .ok (.iload_n 1, 1) := by decide +kernel
theorem dX4_leastShield_2 : decode cX4_leastShield 2 = .ok (.iload_n 2, 1) := by decide +kernel
theorem dX4_leastShield_3 : decode cX4_leastShield 3 = .ok (.invokevirtual 42, 3) := by decide +kernel
theorem dX4_leastShield_6 : decode cX4_leastShield 6 = .ok (.istore 4, 2) := by decide +kernel
theorem dX4_leastShield_8 : decode cX4_leastShield 8 = .ok (.aload_n 0, 1) := by decide +kernel
theorem dX4_leastShield_9 : decode cX4_leastShield 9 = .ok (.getfield 9, 3) := by decide +kernel
theorem dX4_leastShield_12 : decode cX4_leastShield 12 = .ok (.iconst 1, 1) := by decide +kernel
theorem dX4_leastShield_13 : decode cX4_leastShield 13 = .ok (.iload_n 1, 1) := by decide +kernel
theorem dX4_leastShield_14 : decode cX4_leastShield 14 = .ok (.ishl, 1) := by decide +kernel
theorem dX4_leastShield_15 : decode cX4_leastShield 15 = .ok (.iconst (-1), 1) := by decide +kernel
theorem dX4_leastShield_16 : decode cX4_leastShield 16 = .ok (.ixor, 1) := by decide +kernel
theorem dX4_leastShield_17 : decode cX4_leastShield 17 = .ok (.iand, 1) := by decide +kernel
theorem dX4_leastShield_18 : decode cX4_leastShield 18 = .ok (.istore 5, 2) := by decide +kernel
theorem dX4_leastShield_20 : decode cX4_leastShield 20 = .ok (.aload_n 0, 1) := by decide +kernel
theorem dX4_leastShield_21 : decode cX4_leastShield 21 = .ok (.iload 4, 2) := by decide +kernel
theorem dX4_leastShield_23 : decode cX4_leastShield 23 = .ok (.iload 5, 2) := by decide +kernel
theorem dX4_leastShield_25 : decode cX4_leastShield 25 = .ok (.invokevirtual 60, 3) := by decide +kernel
theorem dX4_leastShield_28 : decode cX4_leastShield 28 = .ok (.istore 6, 2) := by decide +kernel
theorem dX4_leastShield_30 : decode cX4_leastShield 30 = .ok (.iload 6, 2) := by decide +kernel
theorem dX4_leastShield_32 : decode cX4_leastShield 32 = .ok (.iload_n 3, 1) := by decide +kernel
theorem dX4_leastShield_33 : decode cX4_leastShield 33 = .ok (.invokestatic 38, 3) := by decide +kernel
theorem dX4_leastShield_36 : decode cX4_leastShield 36 = .ok (.ifCond .ne 5, 3) := by decide +kernel
theorem dX4_leastShield_39 : decode cX4_leastShield 39 = .ok (.iconst 0, 1) := by decide +kernel
theorem dX4_leastShield_40 : decode cX4_leastShield 40 = .ok (.ireturn, 1) := by decide +kernel
theorem dX4_leastShield_41 : decode cX4_leastShield 41 = .ok (.iload 6, 2) := by decide +kernel
theorem dX4_leastShield_43 : decode cX4_leastShield 43 = .ok (.iconst 1, 1) := by decide +kernel
theorem dX4_leastShield_44 : decode cX4_leastShield 44 = .ok (.iload_n 3, 1) := by decide +kernel
theorem dX4_leastShield_45 : decode cX4_leastShield 45 = .ok (.ishl, 1) := by decide +kernel
theorem dX4_leastShield_46 : decode cX4_leastShield 46 = .ok (.iconst (-1), 1) := by decide +kernel
theorem dX4_leastShield_47 : decode cX4_leastShield 47 = .ok (.ixor, 1) := by decide +kernel
theorem dX4_leastShield_48 : decode cX4_leastShield 48 = .ok (.iand, 1) := by decide +kernel
theorem dX4_leastShield_49 : decode cX4_leastShield 49 = .ok (.istore 7, 2) := by decide +kernel
theorem dX4_leastShield_51 : decode cX4_leastShield 51 = .ok (.iconst (-1), 1) := by decide +kernel
theorem dX4_leastShield_52 : decode cX4_leastShield 52 = .ok (.istore 8, 2) := by decide +kernel
theorem dX4_leastShield_54 : decode cX4_leastShield 54 = .ok (.iconst 1, 1) := by decide +kernel
theorem dX4_leastShield_55 : decode cX4_leastShield 55 = .ok (.istore 9, 2) := by decide +kernel
theorem dX4_leastShield_57 : decode cX4_leastShield 57 = .ok (.iload 9, 2) := by decide +kernel
theorem dX4_leastShield_59 : decode cX4_leastShield 59 = .ok (.sipush 1024, 3) := by decide +kernel
theorem dX4_leastShield_62 : decode cX4_leastShield 62 = .ok (.if_icmp .ge 62, 3) := by decide +kernel
theorem dX4_leastShield_65 : decode cX4_leastShield 65 = .ok (.iload 4, 2) := by decide +kernel
theorem dX4_leastShield_67 : decode cX4_leastShield 67 = .ok (.iload_n 3, 1) := by decide +kernel
theorem dX4_leastShield_68 : decode cX4_leastShield 68 = .ok (.invokestatic 38, 3) := by decide +kernel
theorem dX4_leastShield_71 : decode cX4_leastShield 71 = .ok (.ifCond .ne 53, 3) := by decide +kernel
theorem dX4_leastShield_74 : decode cX4_leastShield 74 = .ok (.iload 9, 2) := by decide +kernel
theorem dX4_leastShield_76 : decode cX4_leastShield 76 = .ok (.iload 7, 2) := by decide +kernel
theorem dX4_leastShield_78 : decode cX4_leastShield 78 = .ok (.iconst (-1), 1) := by decide +kernel
theorem dX4_leastShield_79 : decode cX4_leastShield 79 = .ok (.ixor, 1) := by decide +kernel
theorem dX4_leastShield_80 : decode cX4_leastShield 80 = .ok (.iand, 1) := by decide +kernel
theorem dX4_leastShield_81 : decode cX4_leastShield 81 = .ok (.ifCond .ne 37, 3) := by decide +kernel
theorem dX4_leastShield_84 : decode cX4_leastShield 84 = .ok (.iload 9, 2) := by decide +kernel
theorem dX4_leastShield_86 : decode cX4_leastShield 86 = .ok (.iload 8, 2) := by decide +kernel
theorem dX4_leastShield_88 : decode cX4_leastShield 88 = .ok (.invokestatic 72, 3) := by decide +kernel
theorem dX4_leastShield_91 : decode cX4_leastShield 91 = .ok (.ifCond .eq 27, 3) := by decide +kernel
theorem dX4_leastShield_94 : decode cX4_leastShield 94 = .ok (.aload_n 0, 1) := by decide +kernel
theorem dX4_leastShield_95 : decode cX4_leastShield 95 = .ok (.iload 4, 2) := by decide +kernel
theorem dX4_leastShield_97 : decode cX4_leastShield 97 = .ok (.iload 5, 2) := by decide +kernel
theorem dX4_leastShield_99 : decode cX4_leastShield 99 = .ok (.iload 9, 2) := by decide +kernel
theorem dX4_leastShield_101 : decode cX4_leastShield 101 = .ok (.iconst (-1), 1) := by decide +kernel
theorem dX4_leastShield_102 : decode cX4_leastShield 102 = .ok (.ixor, 1) := by decide +kernel
theorem dX4_leastShield_103 : decode cX4_leastShield 103 = .ok (.iand, 1) := by decide +kernel
theorem dX4_leastShield_104 : decode cX4_leastShield 104 = .ok (.invokevirtual 60, 3) := by decide +kernel
theorem dX4_leastShield_107 : decode cX4_leastShield 107 = .ok (.iload_n 3, 1) := by decide +kernel
theorem dX4_leastShield_108 : decode cX4_leastShield 108 = .ok (.invokestatic 38, 3) := by decide +kernel
theorem dX4_leastShield_111 : decode cX4_leastShield 111 = .ok (.ifCond .ne 7, 3) := by decide +kernel
theorem dX4_leastShield_114 : decode cX4_leastShield 114 = .ok (.iload 9, 2) := by decide +kernel
theorem dX4_leastShield_116 : decode cX4_leastShield 116 = .ok (.istore 8, 2) := by decide +kernel
theorem dX4_leastShield_118 : decode cX4_leastShield 118 = .ok (.iinc 9 1, 3) := by decide +kernel
theorem dX4_leastShield_121 : decode cX4_leastShield 121 = .ok (.goto (-64), 3) := by decide +kernel
theorem dX4_leastShield_124 : decode cX4_leastShield 124 = .ok (.iload 8, 2) := by decide +kernel
theorem dX4_leastShield_126 : decode cX4_leastShield 126 = .ok (.ireturn, 1) := by decide +kernel
theorem dX4_leastChorus_0 : decode cX4_leastChorus 0 = .ok (.aload_n 0, 1) := by decide +kernel
theorem dX4_leastChorus_1 : decode cX4_leastChorus 1 = .ok (.getfield 28, 3) := by decide +kernel
theorem dX4_leastChorus_4 : decode cX4_leastChorus 4 = .ok (.getfield 46, 3) := by decide +kernel
theorem dX4_leastChorus_7 : decode cX4_leastChorus 7 = .ok (.invokevirtual 66, 3) := by decide +kernel
theorem dX4_leastChorus_10 : decode cX4_leastChorus 10 = .ok (.aload_n 0, 1) := by decide +kernel
theorem dX4_leastChorus_11 : decode cX4_leastChorus 11 = .ok (.getfield 9, 3) := by decide +kernel
theorem dX4_leastChorus_14 : decode cX4_leastChorus 14 = .ok (.iconst (-1), 1) := by decide +kernel
theorem dX4_leastChorus_15 : decode cX4_leastChorus 15 = .ok (.ixor, 1) := by decide +kernel
theorem dX4_leastChorus_16 : decode cX4_leastChorus 16 = .ok (.iand, 1) := by decide +kernel
theorem dX4_leastChorus_17 : decode cX4_leastChorus 17 = .ok (.istore_n 2, 1) := by decide +kernel
theorem dX4_leastChorus_18 : decode cX4_leastChorus 18 = .ok (.iconst 0, 1) := by decide +kernel
theorem dX4_leastChorus_19 : decode cX4_leastChorus 19 = .ok (.istore_n 3, 1) := by decide +kernel
theorem dX4_leastChorus_20 : decode cX4_leastChorus 20 = .ok (.iload_n 3, 1) := by decide +kernel
theorem dX4_leastChorus_21 : decode cX4_leastChorus 21 = .ok (.aload_n 0, 1) := by decide +kernel
theorem dX4_leastChorus_22 : decode cX4_leastChorus 22 = .ok (.getfield 19, 3) := by decide +kernel
theorem dX4_leastChorus_25 : decode cX4_leastChorus 25 = .ok (.arraylength, 1) := by decide +kernel
theorem dX4_leastChorus_26 : decode cX4_leastChorus 26 = .ok (.if_icmp .ge 33, 3) := by decide +kernel
theorem dX4_leastChorus_29 : decode cX4_leastChorus 29 = .ok (.aload_n 0, 1) := by decide +kernel
theorem dX4_leastChorus_30 : decode cX4_leastChorus 30 = .ok (.getfield 19, 3) := by decide +kernel
theorem dX4_leastChorus_33 : decode cX4_leastChorus 33 = .ok (.iload_n 3, 1) := by decide +kernel
theorem dX4_leastChorus_34 : decode cX4_leastChorus 34 = .ok (.iload_n 2, 1) := by decide +kernel
theorem dX4_leastChorus_35 : decode cX4_leastChorus 35 = .ok (.iload_n 3, 1) := by decide +kernel
theorem dX4_leastChorus_36 : decode cX4_leastChorus 36 = .ok (.invokestatic 38, 3) := by decide +kernel
theorem dX4_leastChorus_39 : decode cX4_leastChorus 39 = .ok (.ifCond .eq 12, 3) := by decide +kernel
theorem dX4_leastChorus_42 : decode cX4_leastChorus 42 = .ok (.aload_n 0, 1) := by decide +kernel
theorem dX4_leastChorus_43 : decode cX4_leastChorus 43 = .ok (.iload_n 3, 1) := by decide +kernel
theorem dX4_leastChorus_44 : decode cX4_leastChorus 44 = .ok (.iload_n 1, 1) := by decide +kernel
theorem dX4_leastChorus_45 : decode cX4_leastChorus 45 = .ok (.invokevirtual 69, 3) := by decide +kernel
theorem dX4_leastChorus_48 : decode cX4_leastChorus 48 = .ok (.goto 4, 3) := by decide +kernel
theorem dX4_leastChorus_51 : decode cX4_leastChorus 51 = .ok (.iconst 0, 1) := by decide +kernel
theorem dX4_leastChorus_52 : decode cX4_leastChorus 52 = .ok (.iastore, 1) := by decide +kernel
theorem dX4_leastChorus_53 : decode cX4_leastChorus 53 = .ok (.iinc 3 1, 3) := by decide +kernel
theorem dX4_leastChorus_56 : decode cX4_leastChorus 56 = .ok (.goto (-36), 3) := by decide +kernel
theorem dX4_leastChorus_59 : decode cX4_leastChorus 59 = .ok (.iconst (-1), 1) := by decide +kernel
theorem dX4_leastChorus_60 : decode cX4_leastChorus 60 = .ok (.istore_n 3, 1) := by decide +kernel
theorem dX4_leastChorus_61 : decode cX4_leastChorus 61 = .ok (.iconst 0, 1) := by decide +kernel
theorem dX4_leastChorus_62 : decode cX4_leastChorus 62 = .ok (.istore 4, 2) := by decide +kernel
theorem dX4_leastChorus_64 : decode cX4_leastChorus 64 = .ok (.iload 4, 2) := by decide +kernel
theorem dX4_leastChorus_66 : decode cX4_leastChorus 66 = .ok (.sipush 1024, 3) := by decide +kernel
theorem dX4_leastChorus_69 : decode cX4_leastChorus 69 = .ok (.if_icmp .ge 46, 3) := by decide +kernel
theorem dX4_leastChorus_72 : decode cX4_leastChorus 72 = .ok (.iload 4, 2) := by decide +kernel
theorem dX4_leastChorus_74 : decode cX4_leastChorus 74 = .ok (.iload_n 2, 1) := by decide +kernel
theorem dX4_leastChorus_75 : decode cX4_leastChorus 75 = .ok (.iconst (-1), 1) := by decide +kernel
theorem dX4_leastChorus_76 : decode cX4_leastChorus 76 = .ok (.ixor, 1) := by decide +kernel
theorem dX4_leastChorus_77 : decode cX4_leastChorus 77 = .ok (.iand, 1) := by decide +kernel
theorem dX4_leastChorus_78 : decode cX4_leastChorus 78 = .ok (.ifCond .ne 31, 3) := by decide +kernel
theorem dX4_leastChorus_81 : decode cX4_leastChorus 81 = .ok (.iload 4, 2) := by decide +kernel
theorem dX4_leastChorus_83 : decode cX4_leastChorus 83 = .ok (.iload_n 3, 1) := by decide +kernel
theorem dX4_leastChorus_84 : decode cX4_leastChorus 84 = .ok (.invokestatic 72, 3) := by decide +kernel
theorem dX4_leastChorus_87 : decode cX4_leastChorus 87 = .ok (.ifCond .eq 22, 3) := by decide +kernel
theorem dX4_leastChorus_90 : decode cX4_leastChorus 90 = .ok (.aload_n 0, 1) := by decide +kernel
theorem dX4_leastChorus_91 : decode cX4_leastChorus 91 = .ok (.getfield 9, 3) := by decide +kernel
theorem dX4_leastChorus_94 : decode cX4_leastChorus 94 = .ok (.aload_n 0, 1) := by decide +kernel
theorem dX4_leastChorus_95 : decode cX4_leastChorus 95 = .ok (.iload 4, 2) := by decide +kernel
theorem dX4_leastChorus_97 : decode cX4_leastChorus 97 = .ok (.invokevirtual 75, 3) := by decide +kernel
theorem dX4_leastChorus_100 : decode cX4_leastChorus 100 = .ok (.iconst (-1), 1) := by decide +kernel
theorem dX4_leastChorus_101 : decode cX4_leastChorus 101 = .ok (.ixor, 1) := by decide +kernel
theorem dX4_leastChorus_102 : decode cX4_leastChorus 102 = .ok (.iand, 1) := by decide +kernel
theorem dX4_leastChorus_103 : decode cX4_leastChorus 103 = .ok (.ifCond .ne 6, 3) := by decide +kernel
theorem dX4_leastChorus_106 : decode cX4_leastChorus 106 = .ok (.iload 4, 2) := by decide +kernel
theorem dX4_leastChorus_108 : decode cX4_leastChorus 108 = .ok (.istore_n 3, 1) := by decide +kernel
theorem dX4_leastChorus_109 : decode cX4_leastChorus 109 = .ok (.iinc 4 1, 3) := by decide +kernel
theorem dX4_leastChorus_112 : decode cX4_leastChorus 112 = .ok (.goto (-48), 3) := by decide +kernel
theorem dX4_leastChorus_115 : decode cX4_leastChorus 115 = .ok (.iload_n 3, 1) := by decide +kernel
theorem dX4_leastChorus_116 : decode cX4_leastChorus 116 = .ok (.ireturn, 1) := by decide +kernel
theorem dX4_isFewer_0 : decode cX4_isFewer 0 = .ok (.iload_n 1, 1) := by decide +kernel
theorem dX4_isFewer_1 : decode cX4_isFewer 1 = .ok (.ifCond .lt 14, 3) := by decide +kernel
theorem dX4_isFewer_4 : decode cX4_isFewer 4 = .ok (.iload_n 0, 1) := by decide +kernel
theorem dX4_isFewer_5 : decode cX4_isFewer 5 = .ok (.invokestatic 78, 3) := by decide +kernel
theorem dX4_isFewer_8 : decode cX4_isFewer 8 = .ok (.iload_n 1, 1) := by decide +kernel
theorem dX4_isFewer_9 : decode cX4_isFewer 9 = .ok (.invokestatic 78, 3) := by decide +kernel
theorem dX4_isFewer_12 : decode cX4_isFewer 12 = .ok (.if_icmp .ge 7, 3) := by decide +kernel
theorem dX4_isFewer_15 : decode cX4_isFewer 15 = .ok (.iconst 1, 1) := by decide +kernel
theorem dX4_isFewer_16 : decode cX4_isFewer 16 = .ok (.goto 4, 3) := by decide +kernel
theorem dX4_isFewer_19 : decode cX4_isFewer 19 = .ok (.iconst 0, 1) := by decide +kernel
theorem dX4_isFewer_20 : decode cX4_isFewer 20 = .ok (.ireturn, 1) := by decide +kernel
theorem dX4_reachOf_0 : decode cX4_reachOf 0 = .ok (.iconst 0, 1) := by decide +kernel
theorem dX4_reachOf_1 : decode cX4_reachOf 1 = .ok (.istore_n 2, 1) := by decide +kernel
theorem dX4_reachOf_2 : decode cX4_reachOf 2 = .ok (.iconst 0, 1) := by decide +kernel
theorem dX4_reachOf_3 : decode cX4_reachOf 3 = .ok (.istore_n 3, 1) := by decide +kernel
theorem dX4_reachOf_4 : decode cX4_reachOf 4 = .ok (.iload_n 3, 1) := by decide +kernel
theorem dX4_reachOf_5 : decode cX4_reachOf 5 = .ok (.aload_n 0, 1) := by decide +kernel
theorem dX4_reachOf_6 : decode cX4_reachOf 6 = .ok (.getfield 19, 3) := by decide +kernel
theorem dX4_reachOf_9 : decode cX4_reachOf 9 = .ok (.arraylength, 1) := by decide +kernel
theorem dX4_reachOf_10 : decode cX4_reachOf 10 = .ok (.if_icmp .ge 26, 3) := by decide +kernel
theorem dX4_reachOf_13 : decode cX4_reachOf 13 = .ok (.iload_n 1, 1) := by decide +kernel
theorem dX4_reachOf_14 : decode cX4_reachOf 14 = .ok (.iload_n 3, 1) := by decide +kernel
theorem dX4_reachOf_15 : decode cX4_reachOf 15 = .ok (.invokestatic 38, 3) := by decide +kernel
theorem dX4_reachOf_18 : decode cX4_reachOf 18 = .ok (.ifCond .eq 12, 3) := by decide +kernel
theorem dX4_reachOf_21 : decode cX4_reachOf 21 = .ok (.iload_n 2, 1) := by decide +kernel
theorem dX4_reachOf_22 : decode cX4_reachOf 22 = .ok (.aload_n 0, 1) := by decide +kernel
theorem dX4_reachOf_23 : decode cX4_reachOf 23 = .ok (.getfield 19, 3) := by decide +kernel
theorem dX4_reachOf_26 : decode cX4_reachOf 26 = .ok (.iload_n 3, 1) := by decide +kernel
theorem dX4_reachOf_27 : decode cX4_reachOf 27 = .ok (.iaload, 1) := by decide +kernel
theorem dX4_reachOf_28 : decode cX4_reachOf 28 = .ok (.ior, 1) := by decide +kernel
theorem dX4_reachOf_29 : decode cX4_reachOf 29 = .ok (.istore_n 2, 1) := by decide +kernel
theorem dX4_reachOf_30 : decode cX4_reachOf 30 = .ok (.iinc 3 1, 3) := by decide +kernel
theorem dX4_reachOf_33 : decode cX4_reachOf 33 = .ok (.goto (-29), 3) := by decide +kernel
theorem dX4_reachOf_36 : decode cX4_reachOf 36 = .ok (.iload_n 2, 1) := by decide +kernel
theorem dX4_reachOf_37 : decode cX4_reachOf 37 = .ok (.ireturn, 1) := by decide +kernel
theorem dX4_spread_0 : decode cX4_spread 0 = .ok (.iload_n 1, 1) := by decide +kernel
theorem dX4_spread_1 : decode cX4_spread 1 = .ok (.iload_n 2, 1) := by decide +kernel
theorem dX4_spread_2 : decode cX4_spread 2 = .ok (.iand, 1) := by decide +kernel
theorem dX4_spread_3 : decode cX4_spread 3 = .ok (.istore_n 3, 1) := by decide +kernel
theorem dX4_spread_4 : decode cX4_spread 4 = .ok (.iload_n 3, 1) := by decide +kernel
theorem dX4_spread_5 : decode cX4_spread 5 = .ok (.istore 4, 2) := by decide +kernel
theorem dX4_spread_7 : decode cX4_spread 7 = .ok (.iconst 0, 1) := by decide +kernel
theorem dX4_spread_8 : decode cX4_spread 8 = .ok (.istore 5, 2) := by decide +kernel
theorem dX4_spread_10 : decode cX4_spread 10 = .ok (.iload 5, 2) := by decide +kernel
theorem dX4_spread_12 : decode cX4_spread 12 = .ok (.bipush 10, 2) := by decide +kernel
theorem dX4_spread_14 : decode cX4_spread 14 = .ok (.if_icmp .ge 32, 3) := by decide +kernel
theorem dX4_spread_17 : decode cX4_spread 17 = .ok (.iload_n 3, 1) := by decide +kernel
theorem dX4_spread_18 : decode cX4_spread 18 = .ok (.ifCond .eq 28, 3) := by decide +kernel
theorem dX4_spread_21 : decode cX4_spread 21 = .ok (.aload_n 0, 1) := by decide +kernel
theorem dX4_spread_22 : decode cX4_spread 22 = .ok (.iload_n 3, 1) := by decide +kernel
theorem dX4_spread_23 : decode cX4_spread 23 = .ok (.invokevirtual 63, 3) := by decide +kernel
theorem dX4_spread_26 : decode cX4_spread 26 = .ok (.iload_n 2, 1) := by decide +kernel
theorem dX4_spread_27 : decode cX4_spread 27 = .ok (.iand, 1) := by decide +kernel
theorem dX4_spread_28 : decode cX4_spread 28 = .ok (.iload 4, 2) := by decide +kernel
theorem dX4_spread_30 : decode cX4_spread 30 = .ok (.iconst (-1), 1) := by decide +kernel
theorem dX4_spread_31 : decode cX4_spread 31 = .ok (.ixor, 1) := by decide +kernel
theorem dX4_spread_32 : decode cX4_spread 32 = .ok (.iand, 1) := by decide +kernel
theorem dX4_spread_33 : decode cX4_spread 33 = .ok (.istore_n 3, 1) := by decide +kernel
theorem dX4_spread_34 : decode cX4_spread 34 = .ok (.iload 4, 2) := by decide +kernel
theorem dX4_spread_36 : decode cX4_spread 36 = .ok (.iload_n 3, 1) := by decide +kernel
theorem dX4_spread_37 : decode cX4_spread 37 = .ok (.ior, 1) := by decide +kernel
theorem dX4_spread_38 : decode cX4_spread 38 = .ok (.istore 4, 2) := by decide +kernel
theorem dX4_spread_40 : decode cX4_spread 40 = .ok (.iinc 5 1, 3) := by decide +kernel
theorem dX4_spread_43 : decode cX4_spread 43 = .ok (.goto (-33), 3) := by decide +kernel
theorem dX4_spread_46 : decode cX4_spread 46 = .ok (.iload 4, 2) := by decide +kernel
theorem dX4_spread_48 : decode cX4_spread 48 = .ok (.ireturn, 1) := by decide +kernel
theorem dX4_wokenByYawns_0 : decode cX4_wokenByYawns 0 = .ok (.iconst 0, 1) := by decide +kernel
theorem dX4_wokenByYawns_1 : decode cX4_wokenByYawns 1 = .ok (.istore_n 2, 1) := by decide +kernel
theorem dX4_wokenByYawns_2 : decode cX4_wokenByYawns 2 = .ok (.iconst 0, 1) := by decide +kernel
theorem dX4_wokenByYawns_3 : decode cX4_wokenByYawns 3 = .ok (.istore_n 3, 1) := by decide +kernel
theorem dX4_wokenByYawns_4 : decode cX4_wokenByYawns 4 = .ok (.iload_n 3, 1) := by decide +kernel
theorem dX4_wokenByYawns_5 : decode cX4_wokenByYawns 5 = .ok (.aload_n 0, 1) := by decide +kernel
theorem dX4_wokenByYawns_6 : decode cX4_wokenByYawns 6 = .ok (.getfield 15, 3) := by decide +kernel
theorem dX4_wokenByYawns_9 : decode cX4_wokenByYawns 9 = .ok (.arraylength, 1) := by decide +kernel
theorem dX4_wokenByYawns_10 : decode cX4_wokenByYawns 10 = .ok (.if_icmp .ge 26, 3) := by decide +kernel
theorem dX4_wokenByYawns_13 : decode cX4_wokenByYawns 13 = .ok (.iload_n 1, 1) := by decide +kernel
theorem dX4_wokenByYawns_14 : decode cX4_wokenByYawns 14 = .ok (.iload_n 3, 1) := by decide +kernel
theorem dX4_wokenByYawns_15 : decode cX4_wokenByYawns 15 = .ok (.invokestatic 38, 3) := by decide +kernel
theorem dX4_wokenByYawns_18 : decode cX4_wokenByYawns 18 = .ok (.ifCond .eq 12, 3) := by decide +kernel
theorem dX4_wokenByYawns_21 : decode cX4_wokenByYawns 21 = .ok (.iload_n 2, 1) := by decide +kernel
theorem dX4_wokenByYawns_22 : decode cX4_wokenByYawns 22 = .ok (.aload_n 0, 1) := by decide +kernel
theorem dX4_wokenByYawns_23 : decode cX4_wokenByYawns 23 = .ok (.getfield 15, 3) := by decide +kernel
theorem dX4_wokenByYawns_26 : decode cX4_wokenByYawns 26 = .ok (.iload_n 3, 1) := by decide +kernel
theorem dX4_wokenByYawns_27 : decode cX4_wokenByYawns 27 = .ok (.iaload, 1) := by decide +kernel
theorem dX4_wokenByYawns_28 : decode cX4_wokenByYawns 28 = .ok (.ior, 1) := by decide +kernel
theorem dX4_wokenByYawns_29 : decode cX4_wokenByYawns 29 = .ok (.istore_n 2, 1) := by decide +kernel
theorem dX4_wokenByYawns_30 : decode cX4_wokenByYawns 30 = .ok (.iinc 3 1, 3) := by decide +kernel
theorem dX4_wokenByYawns_33 : decode cX4_wokenByYawns 33 = .ok (.goto (-29), 3) := by decide +kernel
theorem dX4_wokenByYawns_36 : decode cX4_wokenByYawns 36 = .ok (.iload_n 2, 1) := by decide +kernel
theorem dX4_wokenByYawns_37 : decode cX4_wokenByYawns 37 = .ok (.ireturn, 1) := by decide +kernel
theorem dX4_lawHolds_0 : decode cX4_lawHolds 0 = .ok (.aload_n 0, 1) := by decide +kernel
theorem dX4_lawHolds_1 : decode cX4_lawHolds 1 = .ok (.getfield 22, 3) := by decide +kernel
theorem dX4_lawHolds_4 : decode cX4_lawHolds 4 = .ok (.iconst 0, 1) := by decide +kernel
theorem dX4_lawHolds_5 : decode cX4_lawHolds 5 = .ok (.aload_n 0, 1) := by decide +kernel
theorem dX4_lawHolds_6 : decode cX4_lawHolds 6 = .ok (.getfield 28, 3) := by decide +kernel
theorem dX4_lawHolds_9 : decode cX4_lawHolds 9 = .ok (.getfield 46, 3) := by decide +kernel
theorem dX4_lawHolds_12 : decode cX4_lawHolds 12 = .ok (.iload_n 1, 1) := by decide +kernel
theorem dX4_lawHolds_13 : decode cX4_lawHolds 13 = .ok (.invokevirtual 83, 3) := by decide +kernel
theorem dX4_lawHolds_16 : decode cX4_lawHolds 16 = .ok (.iastore, 1) := by decide +kernel
theorem dX4_lawHolds_17 : decode cX4_lawHolds 17 = .ok (.aload_n 0, 1) := by decide +kernel
theorem dX4_lawHolds_18 : decode cX4_lawHolds 18 = .ok (.getfield 22, 3) := by decide +kernel
theorem dX4_lawHolds_21 : decode cX4_lawHolds 21 = .ok (.iconst 1, 1) := by decide +kernel
theorem dX4_lawHolds_22 : decode cX4_lawHolds 22 = .ok (.aload_n 0, 1) := by decide +kernel
theorem dX4_lawHolds_23 : decode cX4_lawHolds 23 = .ok (.getfield 28, 3) := by decide +kernel
theorem dX4_lawHolds_26 : decode cX4_lawHolds 26 = .ok (.getfield 46, 3) := by decide +kernel
theorem dX4_lawHolds_29 : decode cX4_lawHolds 29 = .ok (.iload_n 2, 1) := by decide +kernel
theorem dX4_lawHolds_30 : decode cX4_lawHolds 30 = .ok (.invokevirtual 83, 3) := by decide +kernel
theorem dX4_lawHolds_33 : decode cX4_lawHolds 33 = .ok (.iastore, 1) := by decide +kernel
theorem dX4_lawHolds_34 : decode cX4_lawHolds 34 = .ok (.aload_n 0, 1) := by decide +kernel
theorem dX4_lawHolds_35 : decode cX4_lawHolds 35 = .ok (.getfield 22, 3) := by decide +kernel
theorem dX4_lawHolds_38 : decode cX4_lawHolds 38 = .ok (.iconst 2, 1) := by decide +kernel
theorem dX4_lawHolds_39 : decode cX4_lawHolds 39 = .ok (.aload_n 0, 1) := by decide +kernel
theorem dX4_lawHolds_40 : decode cX4_lawHolds 40 = .ok (.getfield 28, 3) := by decide +kernel
theorem dX4_lawHolds_43 : decode cX4_lawHolds 43 = .ok (.iload_n 1, 1) := by decide +kernel
theorem dX4_lawHolds_44 : decode cX4_lawHolds 44 = .ok (.invokevirtual 86, 3) := by decide +kernel
theorem dX4_lawHolds_47 : decode cX4_lawHolds 47 = .ok (.iastore, 1) := by decide +kernel
theorem dX4_lawHolds_48 : decode cX4_lawHolds 48 = .ok (.aload_n 0, 1) := by decide +kernel
theorem dX4_lawHolds_49 : decode cX4_lawHolds 49 = .ok (.getfield 22, 3) := by decide +kernel
theorem dX4_lawHolds_52 : decode cX4_lawHolds 52 = .ok (.iconst 3, 1) := by decide +kernel
theorem dX4_lawHolds_53 : decode cX4_lawHolds 53 = .ok (.aload_n 0, 1) := by decide +kernel
theorem dX4_lawHolds_54 : decode cX4_lawHolds 54 = .ok (.getfield 28, 3) := by decide +kernel
theorem dX4_lawHolds_57 : decode cX4_lawHolds 57 = .ok (.iload_n 2, 1) := by decide +kernel
theorem dX4_lawHolds_58 : decode cX4_lawHolds 58 = .ok (.invokevirtual 86, 3) := by decide +kernel
theorem dX4_lawHolds_61 : decode cX4_lawHolds 61 = .ok (.iastore, 1) := by decide +kernel
theorem dX4_lawHolds_62 : decode cX4_lawHolds 62 = .ok (.aload_n 0, 1) := by decide +kernel
theorem dX4_lawHolds_63 : decode cX4_lawHolds 63 = .ok (.getfield 22, 3) := by decide +kernel
theorem dX4_lawHolds_66 : decode cX4_lawHolds 66 = .ok (.iconst 4, 1) := by decide +kernel
theorem dX4_lawHolds_67 : decode cX4_lawHolds 67 = .ok (.iload_n 3, 1) := by decide +kernel
theorem dX4_lawHolds_68 : decode cX4_lawHolds 68 = .ok (.iastore, 1) := by decide +kernel
theorem dX4_lawHolds_69 : decode cX4_lawHolds 69 = .ok (.aload_n 0, 1) := by decide +kernel
theorem dX4_lawHolds_70 : decode cX4_lawHolds 70 = .ok (.getfield 22, 3) := by decide +kernel
theorem dX4_lawHolds_73 : decode cX4_lawHolds 73 = .ok (.iconst 5, 1) := by decide +kernel
theorem dX4_lawHolds_74 : decode cX4_lawHolds 74 = .ok (.aload_n 0, 1) := by decide +kernel
theorem dX4_lawHolds_75 : decode cX4_lawHolds 75 = .ok (.getfield 28, 3) := by decide +kernel
theorem dX4_lawHolds_78 : decode cX4_lawHolds 78 = .ok (.getfield 89, 3) := by decide +kernel
theorem dX4_lawHolds_81 : decode cX4_lawHolds 81 = .ok (.bipush 24, 2) := by decide +kernel
theorem dX4_lawHolds_83 : decode cX4_lawHolds 83 = .ok (.irem, 1) := by decide +kernel
theorem dX4_lawHolds_84 : decode cX4_lawHolds 84 = .ok (.iastore, 1) := by decide +kernel
theorem dX4_lawHolds_85 : decode cX4_lawHolds 85 = .ok (.aload_n 0, 1) := by decide +kernel
theorem dX4_lawHolds_86 : decode cX4_lawHolds 86 = .ok (.getfield 22, 3) := by decide +kernel
theorem dX4_lawHolds_89 : decode cX4_lawHolds 89 = .ok (.bipush 6, 2) := by decide +kernel
theorem dX4_lawHolds_91 : decode cX4_lawHolds 91 = .ok (.aload_n 0, 1) := by decide +kernel
theorem dX4_lawHolds_92 : decode cX4_lawHolds 92 = .ok (.getfield 28, 3) := by decide +kernel
theorem dX4_lawHolds_95 : decode cX4_lawHolds 95 = .ok (.iload_n 2, 1) := by decide +kernel
theorem dX4_lawHolds_96 : decode cX4_lawHolds 96 = .ok (.invokevirtual 92, 3) := by decide +kernel
theorem dX4_lawHolds_99 : decode cX4_lawHolds 99 = .ok (.iastore, 1) := by decide +kernel
theorem dX4_lawHolds_100 : decode cX4_lawHolds 100 = .ok (.aload_n 0, 1) := by decide +kernel
theorem dX4_lawHolds_101 : decode cX4_lawHolds 101 = .ok (.getfield 22, 3) := by decide +kernel
theorem dX4_lawHolds_104 : decode cX4_lawHolds 104 = .ok (.bipush 7, 2) := by decide +kernel
theorem dX4_lawHolds_106 : decode cX4_lawHolds 106 = .ok (.aload_n 0, 1) := by decide +kernel
theorem dX4_lawHolds_107 : decode cX4_lawHolds 107 = .ok (.getfield 28, 3) := by decide +kernel
theorem dX4_lawHolds_110 : decode cX4_lawHolds 110 = .ok (.getfield 46, 3) := by decide +kernel
theorem dX4_lawHolds_113 : decode cX4_lawHolds 113 = .ok (.iload_n 1, 1) := by decide +kernel
theorem dX4_lawHolds_114 : decode cX4_lawHolds 114 = .ok (.invokevirtual 50, 3) := by decide +kernel
theorem dX4_lawHolds_117 : decode cX4_lawHolds 117 = .ok (.invokestatic 78, 3) := by decide +kernel
theorem dX4_lawHolds_120 : decode cX4_lawHolds 120 = .ok (.iastore, 1) := by decide +kernel
theorem dX4_lawHolds_121 : decode cX4_lawHolds 121 = .ok (.aload_n 0, 1) := by decide +kernel
theorem dX4_lawHolds_122 : decode cX4_lawHolds 122 = .ok (.getfield 28, 3) := by decide +kernel
theorem dX4_lawHolds_125 : decode cX4_lawHolds 125 = .ok (.getfield 46, 3) := by decide +kernel
theorem dX4_lawHolds_128 : decode cX4_lawHolds 128 = .ok (.getfield 95, 3) := by decide +kernel
theorem dX4_lawHolds_131 : decode cX4_lawHolds 131 = .ok (.astore 4, 2) := by decide +kernel
theorem dX4_lawHolds_133 : decode cX4_lawHolds 133 = .ok (.iconst 0, 1) := by decide +kernel
theorem dX4_lawHolds_134 : decode cX4_lawHolds 134 = .ok (.istore 5, 2) := by decide +kernel
theorem dX4_lawHolds_136 : decode cX4_lawHolds 136 = .ok (.iconst 0, 1) := by decide +kernel
theorem dX4_lawHolds_137 : decode cX4_lawHolds 137 = .ok (.istore 6, 2) := by decide +kernel
theorem dX4_lawHolds_139 : decode cX4_lawHolds 139 = .ok (.iload 6, 2) := by decide +kernel
theorem dX4_lawHolds_141 : decode cX4_lawHolds 141 = .ok (.aload 4, 2) := by decide +kernel
theorem dX4_lawHolds_143 : decode cX4_lawHolds 143 = .ok (.arraylength, 1) := by decide +kernel
theorem dX4_lawHolds_144 : decode cX4_lawHolds 144 = .ok (.if_icmp .ge 150, 3) := by decide +kernel
theorem dX4_lawHolds_147 : decode cX4_lawHolds 147 = .ok (.aload 4, 2) := by decide +kernel
theorem dX4_lawHolds_149 : decode cX4_lawHolds 149 = .ok (.iload 6, 2) := by decide +kernel
theorem dX4_lawHolds_151 : decode cX4_lawHolds 151 = .ok (.iaload, 1) := by decide +kernel
theorem dX4_lawHolds_152 : decode cX4_lawHolds 152 = .ok (.istore 7, 2) := by decide +kernel
theorem dX4_lawHolds_154 : decode cX4_lawHolds 154 = .ok (.iload 7, 2) := by decide +kernel
theorem dX4_lawHolds_156 : decode cX4_lawHolds 156 = .ok (.sipush 2000, 3) := by decide +kernel
theorem dX4_lawHolds_159 : decode cX4_lawHolds 159 = .ok (.if_icmp .ge 49, 3) := by decide +kernel
theorem dX4_lawHolds_162 : decode cX4_lawHolds 162 = .ok (.iload 5, 2) := by decide +kernel
theorem dX4_lawHolds_164 : decode cX4_lawHolds 164 = .ok (.aload_n 0, 1) := by decide +kernel
theorem dX4_lawHolds_165 : decode cX4_lawHolds 165 = .ok (.getfield 25, 3) := by decide +kernel
theorem dX4_lawHolds_168 : decode cX4_lawHolds 168 = .ok (.arraylength, 1) := by decide +kernel
theorem dX4_lawHolds_169 : decode cX4_lawHolds 169 = .ok (.if_icmp .ge 39, 3) := by decide +kernel
theorem dX4_lawHolds_172 : decode cX4_lawHolds 172 = .ok (.aload_n 0, 1) := by decide +kernel
theorem dX4_lawHolds_173 : decode cX4_lawHolds 173 = .ok (.getfield 25, 3) := by decide +kernel
theorem dX4_lawHolds_176 : decode cX4_lawHolds 176 = .ok (.iload 5, 2) := by decide +kernel
theorem dX4_lawHolds_178 : decode cX4_lawHolds 178 = .ok (.iload 7, 2) := by decide +kernel
theorem dX4_lawHolds_180 : decode cX4_lawHolds 180 = .ok (.sipush 1000, 3) := by decide +kernel
theorem dX4_lawHolds_183 : decode cX4_lawHolds 183 = .ok (.if_icmp .ge 8, 3) := by decide +kernel
theorem dX4_lawHolds_186 : decode cX4_lawHolds 186 = .ok (.iload 7, 2) := by decide +kernel
theorem dX4_lawHolds_188 : decode cX4_lawHolds 188 = .ok (.goto 13, 3) := by decide +kernel
theorem dX4_lawHolds_191 : decode cX4_lawHolds 191 = .ok (.aload_n 0, 1) := by decide +kernel
theorem dX4_lawHolds_192 : decode cX4_lawHolds 192 = .ok (.iload 7, 2) := by decide +kernel
theorem dX4_lawHolds_194 : decode cX4_lawHolds 194 = .ok (.sipush 1000, 3) := by decide +kernel
theorem dX4_lawHolds_197 : decode cX4_lawHolds 197 = .ok (.isub, 1) := by decide +kernel
theorem dX4_lawHolds_198 : decode cX4_lawHolds 198 = .ok (.invokevirtual 98, 3) := by decide +kernel
theorem dX4_lawHolds_201 : decode cX4_lawHolds 201 = .ok (.iastore, 1) := by decide +kernel
theorem dX4_lawHolds_202 : decode cX4_lawHolds 202 = .ok (.iinc 5 1, 3) := by decide +kernel
theorem dX4_lawHolds_205 : decode cX4_lawHolds 205 = .ok (.goto 83, 3) := by decide +kernel
theorem dX4_lawHolds_208 : decode cX4_lawHolds 208 = .ok (.iload 7, 2) := by decide +kernel
theorem dX4_lawHolds_210 : decode cX4_lawHolds 210 = .ok (.sipush 2008, 3) := by decide +kernel
theorem dX4_lawHolds_213 : decode cX4_lawHolds 213 = .ok (.if_icmp .ne 32, 3) := by decide +kernel
theorem dX4_lawHolds_216 : decode cX4_lawHolds 216 = .ok (.iload 5, 2) := by decide +kernel
theorem dX4_lawHolds_218 : decode cX4_lawHolds 218 = .ok (.iconst 1, 1) := by decide +kernel
theorem dX4_lawHolds_219 : decode cX4_lawHolds 219 = .ok (.if_icmp .lt 26, 3) := by decide +kernel
theorem dX4_lawHolds_222 : decode cX4_lawHolds 222 = .ok (.aload_n 0, 1) := by decide +kernel
theorem dX4_lawHolds_223 : decode cX4_lawHolds 223 = .ok (.getfield 25, 3) := by decide +kernel
theorem dX4_lawHolds_226 : decode cX4_lawHolds 226 = .ok (.iload 5, 2) := by decide +kernel
theorem dX4_lawHolds_228 : decode cX4_lawHolds 228 = .ok (.iconst 1, 1) := by decide +kernel
theorem dX4_lawHolds_229 : decode cX4_lawHolds 229 = .ok (.isub, 1) := by decide +kernel
theorem dX4_lawHolds_230 : decode cX4_lawHolds 230 = .ok (.iconst 1, 1) := by decide +kernel
theorem dX4_lawHolds_231 : decode cX4_lawHolds 231 = .ok (.aload_n 0, 1) := by decide +kernel
theorem dX4_lawHolds_232 : decode cX4_lawHolds 232 = .ok (.getfield 25, 3) := by decide +kernel
theorem dX4_lawHolds_235 : decode cX4_lawHolds 235 = .ok (.iload 5, 2) := by decide +kernel
theorem dX4_lawHolds_237 : decode cX4_lawHolds 237 = .ok (.iconst 1, 1) := by decide +kernel
theorem dX4_lawHolds_238 : decode cX4_lawHolds 238 = .ok (.isub, 1) := by decide +kernel
theorem dX4_lawHolds_239 : decode cX4_lawHolds 239 = .ok (.iaload, 1) := by decide +kernel
theorem dX4_lawHolds_240 : decode cX4_lawHolds 240 = .ok (.isub, 1) := by decide +kernel
theorem dX4_lawHolds_241 : decode cX4_lawHolds 241 = .ok (.iastore, 1) := by decide +kernel
theorem dX4_lawHolds_242 : decode cX4_lawHolds 242 = .ok (.goto 46, 3) := by decide +kernel
theorem dX4_lawHolds_245 : decode cX4_lawHolds 245 = .ok (.iload 5, 2) := by decide +kernel
theorem dX4_lawHolds_247 : decode cX4_lawHolds 247 = .ok (.iconst 2, 1) := by decide +kernel
theorem dX4_lawHolds_248 : decode cX4_lawHolds 248 = .ok (.if_icmp .lt 40, 3) := by decide +kernel
theorem dX4_lawHolds_251 : decode cX4_lawHolds 251 = .ok (.aload_n 0, 1) := by decide +kernel
theorem dX4_lawHolds_252 : decode cX4_lawHolds 252 = .ok (.getfield 25, 3) := by decide +kernel
theorem dX4_lawHolds_255 : decode cX4_lawHolds 255 = .ok (.iload 5, 2) := by decide +kernel
theorem dX4_lawHolds_257 : decode cX4_lawHolds 257 = .ok (.iconst 2, 1) := by decide +kernel
theorem dX4_lawHolds_258 : decode cX4_lawHolds 258 = .ok (.isub, 1) := by decide +kernel
theorem dX4_lawHolds_259 : decode cX4_lawHolds 259 = .ok (.iload 7, 2) := by decide +kernel
theorem dX4_lawHolds_261 : decode cX4_lawHolds 261 = .ok (.aload_n 0, 1) := by decide +kernel
theorem dX4_lawHolds_262 : decode cX4_lawHolds 262 = .ok (.getfield 25, 3) := by decide +kernel
theorem dX4_lawHolds_265 : decode cX4_lawHolds 265 = .ok (.iload 5, 2) := by decide +kernel
theorem dX4_lawHolds_267 : decode cX4_lawHolds 267 = .ok (.iconst 2, 1) := by decide +kernel
theorem dX4_lawHolds_268 : decode cX4_lawHolds 268 = .ok (.isub, 1) := by decide +kernel
theorem dX4_lawHolds_269 : decode cX4_lawHolds 269 = .ok (.iaload, 1) := by decide +kernel
theorem dX4_lawHolds_270 : decode cX4_lawHolds 270 = .ok (.i2l, 1) := by decide +kernel
theorem dX4_lawHolds_271 : decode cX4_lawHolds 271 = .ok (.aload_n 0, 1) := by decide +kernel
theorem dX4_lawHolds_272 : decode cX4_lawHolds 272 = .ok (.getfield 25, 3) := by decide +kernel
theorem dX4_lawHolds_275 : decode cX4_lawHolds 275 = .ok (.iload 5, 2) := by decide +kernel
theorem dX4_lawHolds_277 : decode cX4_lawHolds 277 = .ok (.iconst 1, 1) := by decide +kernel
theorem dX4_lawHolds_278 : decode cX4_lawHolds 278 = .ok (.isub, 1) := by decide +kernel
theorem dX4_lawHolds_279 : decode cX4_lawHolds 279 = .ok (.iaload, 1) := by decide +kernel
theorem dX4_lawHolds_280 : decode cX4_lawHolds 280 = .ok (.i2l, 1) := by decide +kernel
theorem dX4_lawHolds_281 : decode cX4_lawHolds 281 = .ok (.invokestatic 101, 3) := by decide +kernel
theorem dX4_lawHolds_284 : decode cX4_lawHolds 284 = .ok (.iastore, 1) := by decide +kernel
theorem dX4_lawHolds_285 : decode cX4_lawHolds 285 = .ok (.iinc 5 (-1), 3) := by decide +kernel
theorem dX4_lawHolds_288 : decode cX4_lawHolds 288 = .ok (.iinc 6 1, 3) := by decide +kernel
theorem dX4_lawHolds_291 : decode cX4_lawHolds 291 = .ok (.goto (-152), 3) := by decide +kernel
theorem dX4_lawHolds_294 : decode cX4_lawHolds 294 = .ok (.iload 5, 2) := by decide +kernel
theorem dX4_lawHolds_296 : decode cX4_lawHolds 296 = .ok (.iconst 1, 1) := by decide +kernel
theorem dX4_lawHolds_297 : decode cX4_lawHolds 297 = .ok (.if_icmp .lt 16, 3) := by decide +kernel
theorem dX4_lawHolds_300 : decode cX4_lawHolds 300 = .ok (.aload_n 0, 1) := by decide +kernel
theorem dX4_lawHolds_301 : decode cX4_lawHolds 301 = .ok (.getfield 25, 3) := by decide +kernel
theorem dX4_lawHolds_304 : decode cX4_lawHolds 304 = .ok (.iconst 0, 1) := by decide +kernel
theorem dX4_lawHolds_305 : decode cX4_lawHolds 305 = .ok (.iaload, 1) := by decide +kernel
theorem dX4_lawHolds_306 : decode cX4_lawHolds 306 = .ok (.ifCond .eq 7, 3) := by decide +kernel
theorem dX4_lawHolds_309 : decode cX4_lawHolds 309 = .ok (.iconst 1, 1) := by decide +kernel
theorem dX4_lawHolds_310 : decode cX4_lawHolds 310 = .ok (.goto 4, 3) := by decide +kernel
theorem dX4_lawHolds_313 : decode cX4_lawHolds 313 = .ok (.iconst 0, 1) := by decide +kernel
theorem dX4_lawHolds_314 : decode cX4_lawHolds 314 = .ok (.ireturn, 1) := by decide +kernel
theorem dX4_valueOf_0 : decode cX4_valueOf 0 = .ok (.iload_n 1, 1) := by decide +kernel
theorem dX4_valueOf_1 : decode cX4_valueOf 1 = .ok (.ifCond .lt 21, 3) := by decide +kernel
theorem dX4_valueOf_4 : decode cX4_valueOf 4 = .ok (.iload_n 1, 1) := by decide +kernel
theorem dX4_valueOf_5 : decode cX4_valueOf 5 = .ok (.aload_n 0, 1) := by decide +kernel
theorem dX4_valueOf_6 : decode cX4_valueOf 6 = .ok (.getfield 22, 3) := by decide +kernel
theorem dX4_valueOf_9 : decode cX4_valueOf 9 = .ok (.arraylength, 1) := by decide +kernel
theorem dX4_valueOf_10 : decode cX4_valueOf 10 = .ok (.if_icmp .ge 12, 3) := by decide +kernel
theorem dX4_valueOf_13 : decode cX4_valueOf 13 = .ok (.aload_n 0, 1) := by decide +kernel
theorem dX4_valueOf_14 : decode cX4_valueOf 14 = .ok (.getfield 22, 3) := by decide +kernel
theorem dX4_valueOf_17 : decode cX4_valueOf 17 = .ok (.iload_n 1, 1) := by decide +kernel
theorem dX4_valueOf_18 : decode cX4_valueOf 18 = .ok (.iaload, 1) := by decide +kernel
theorem dX4_valueOf_19 : decode cX4_valueOf 19 = .ok (.goto 4, 3) := by decide +kernel
theorem dX4_valueOf_22 : decode cX4_valueOf 22 = .ok (.iconst 0, 1) := by decide +kernel
theorem dX4_valueOf_23 : decode cX4_valueOf 23 = .ok (.ireturn, 1) := by decide +kernel
theorem dX4_joinTwo_0 : decode cX4_joinTwo 0 = .ok (.iload_n 0, 1) := by decide +kernel
theorem dX4_joinTwo_1 : decode cX4_joinTwo 1 = .ok (.tableswitch 123 2000 2006 #[43, 51, 59, 67, 83, 99, 115], 43) := by decide +kernel
theorem dX4_joinTwo_44 : decode cX4_joinTwo 44 = .ok (.lload_n 1, 1) := by decide +kernel
theorem dX4_joinTwo_45 : decode cX4_joinTwo 45 = .ok (.lload_n 3, 1) := by decide +kernel
theorem dX4_joinTwo_46 : decode cX4_joinTwo 46 = .ok (.ladd, 1) := by decide +kernel
theorem dX4_joinTwo_47 : decode cX4_joinTwo 47 = .ok (.lstore 5, 2) := by decide +kernel
theorem dX4_joinTwo_49 : decode cX4_joinTwo 49 = .ok (.goto 80, 3) := by decide +kernel
theorem dX4_joinTwo_52 : decode cX4_joinTwo 52 = .ok (.lload_n 1, 1) := by decide +kernel
theorem dX4_joinTwo_53 : decode cX4_joinTwo 53 = .ok (.lload_n 3, 1) := by decide +kernel
theorem dX4_joinTwo_54 : decode cX4_joinTwo 54 = .ok (.lsub, 1) := by decide +kernel
theorem dX4_joinTwo_55 : decode cX4_joinTwo 55 = .ok (.lstore 5, 2) := by decide +kernel
theorem dX4_joinTwo_57 : decode cX4_joinTwo 57 = .ok (.goto 72, 3) := by decide +kernel
theorem dX4_joinTwo_60 : decode cX4_joinTwo 60 = .ok (.lload_n 1, 1) := by decide +kernel
theorem dX4_joinTwo_61 : decode cX4_joinTwo 61 = .ok (.lload_n 3, 1) := by decide +kernel
theorem dX4_joinTwo_62 : decode cX4_joinTwo 62 = .ok (.lmul, 1) := by decide +kernel
theorem dX4_joinTwo_63 : decode cX4_joinTwo 63 = .ok (.lstore 5, 2) := by decide +kernel
theorem dX4_joinTwo_65 : decode cX4_joinTwo 65 = .ok (.goto 64, 3) := by decide +kernel
theorem dX4_joinTwo_68 : decode cX4_joinTwo 68 = .ok (.lload_n 1, 1) := by decide +kernel
theorem dX4_joinTwo_69 : decode cX4_joinTwo 69 = .ok (.lload_n 3, 1) := by decide +kernel
theorem dX4_joinTwo_70 : decode cX4_joinTwo 70 = .ok (.lcmp, 1) := by decide +kernel
theorem dX4_joinTwo_71 : decode cX4_joinTwo 71 = .ok (.ifCond .ne 7, 3) := by decide +kernel
theorem dX4_joinTwo_74 : decode cX4_joinTwo 74 = .ok (.lconst 1, 1) := by decide +kernel
theorem dX4_joinTwo_75 : decode cX4_joinTwo 75 = .ok (.goto 4, 3) := by decide +kernel
theorem dX4_joinTwo_78 : decode cX4_joinTwo 78 = .ok (.lconst 0, 1) := by decide +kernel
theorem dX4_joinTwo_79 : decode cX4_joinTwo 79 = .ok (.lstore 5, 2) := by decide +kernel
theorem dX4_joinTwo_81 : decode cX4_joinTwo 81 = .ok (.goto 48, 3) := by decide +kernel
theorem dX4_joinTwo_84 : decode cX4_joinTwo 84 = .ok (.lload_n 1, 1) := by decide +kernel
theorem dX4_joinTwo_85 : decode cX4_joinTwo 85 = .ok (.lload_n 3, 1) := by decide +kernel
theorem dX4_joinTwo_86 : decode cX4_joinTwo 86 = .ok (.lcmp, 1) := by decide +kernel
theorem dX4_joinTwo_87 : decode cX4_joinTwo 87 = .ok (.ifCond .ge 7, 3) := by decide +kernel
theorem dX4_joinTwo_90 : decode cX4_joinTwo 90 = .ok (.lconst 1, 1) := by decide +kernel
theorem dX4_joinTwo_91 : decode cX4_joinTwo 91 = .ok (.goto 4, 3) := by decide +kernel
theorem dX4_joinTwo_94 : decode cX4_joinTwo 94 = .ok (.lconst 0, 1) := by decide +kernel
theorem dX4_joinTwo_95 : decode cX4_joinTwo 95 = .ok (.lstore 5, 2) := by decide +kernel
theorem dX4_joinTwo_97 : decode cX4_joinTwo 97 = .ok (.goto 32, 3) := by decide +kernel
theorem dX4_joinTwo_100 : decode cX4_joinTwo 100 = .ok (.lload_n 1, 1) := by decide +kernel
theorem dX4_joinTwo_101 : decode cX4_joinTwo 101 = .ok (.lload_n 3, 1) := by decide +kernel
theorem dX4_joinTwo_102 : decode cX4_joinTwo 102 = .ok (.lcmp, 1) := by decide +kernel
theorem dX4_joinTwo_103 : decode cX4_joinTwo 103 = .ok (.ifCond .le 7, 3) := by decide +kernel
theorem dX4_joinTwo_106 : decode cX4_joinTwo 106 = .ok (.lconst 1, 1) := by decide +kernel
theorem dX4_joinTwo_107 : decode cX4_joinTwo 107 = .ok (.goto 4, 3) := by decide +kernel
theorem dX4_joinTwo_110 : decode cX4_joinTwo 110 = .ok (.lconst 0, 1) := by decide +kernel
theorem dX4_joinTwo_111 : decode cX4_joinTwo 111 = .ok (.lstore 5, 2) := by decide +kernel
theorem dX4_joinTwo_113 : decode cX4_joinTwo 113 = .ok (.goto 16, 3) := by decide +kernel
theorem dX4_joinTwo_116 : decode cX4_joinTwo 116 = .ok (.lload_n 1, 1) := by decide +kernel
theorem dX4_joinTwo_117 : decode cX4_joinTwo 117 = .ok (.lload_n 3, 1) := by decide +kernel
theorem dX4_joinTwo_118 : decode cX4_joinTwo 118 = .ok (.land, 1) := by decide +kernel
theorem dX4_joinTwo_119 : decode cX4_joinTwo 119 = .ok (.lstore 5, 2) := by decide +kernel
theorem dX4_joinTwo_121 : decode cX4_joinTwo 121 = .ok (.goto 8, 3) := by decide +kernel
theorem dX4_joinTwo_124 : decode cX4_joinTwo 124 = .ok (.lload_n 1, 1) := by decide +kernel
theorem dX4_joinTwo_125 : decode cX4_joinTwo 125 = .ok (.lload_n 3, 1) := by decide +kernel
theorem dX4_joinTwo_126 : decode cX4_joinTwo 126 = .ok (.lor, 1) := by decide +kernel
theorem dX4_joinTwo_127 : decode cX4_joinTwo 127 = .ok (.lstore 5, 2) := by decide +kernel
theorem dX4_joinTwo_129 : decode cX4_joinTwo 129 = .ok (.lload 5, 2) := by decide +kernel
theorem dX4_joinTwo_131 : decode cX4_joinTwo 131 = .ok (.ldc2_w 105, 3) := by decide +kernel
theorem dX4_joinTwo_134 : decode cX4_joinTwo 134 = .ok (.lcmp, 1) := by decide +kernel
theorem dX4_joinTwo_135 : decode cX4_joinTwo 135 = .ok (.ifCond .le 9, 3) := by decide +kernel
theorem dX4_joinTwo_138 : decode cX4_joinTwo 138 = .ok (.ldc2_w 105, 3) := by decide +kernel
theorem dX4_joinTwo_141 : decode cX4_joinTwo 141 = .ok (.goto 20, 3) := by decide +kernel
theorem dX4_joinTwo_144 : decode cX4_joinTwo 144 = .ok (.lload 5, 2) := by decide +kernel
theorem dX4_joinTwo_146 : decode cX4_joinTwo 146 = .ok (.ldc2_w 107, 3) := by decide +kernel
theorem dX4_joinTwo_149 : decode cX4_joinTwo 149 = .ok (.lcmp, 1) := by decide +kernel
theorem dX4_joinTwo_150 : decode cX4_joinTwo 150 = .ok (.ifCond .ge 9, 3) := by decide +kernel
theorem dX4_joinTwo_153 : decode cX4_joinTwo 153 = .ok (.ldc2_w 107, 3) := by decide +kernel
theorem dX4_joinTwo_156 : decode cX4_joinTwo 156 = .ok (.goto 5, 3) := by decide +kernel
theorem dX4_joinTwo_159 : decode cX4_joinTwo 159 = .ok (.lload 5, 2) := by decide +kernel
theorem dX4_joinTwo_161 : decode cX4_joinTwo 161 = .ok (.l2i, 1) := by decide +kernel
theorem dX4_joinTwo_162 : decode cX4_joinTwo 162 = .ok (.ireturn, 1) := by decide +kernel
theorem dX5_init_0 : decode cX5_init 0 = .ok (.aload_n 0, 1) := by decide +kernel
theorem dX5_init_1 : decode cX5_init 1 = .ok (.invokespecial 3, 3) := by decide +kernel
theorem dX5_init_4 : decode cX5_init 4 = .ok (.aload_n 0, 1) := by decide +kernel
theorem dX5_init_5 : decode cX5_init 5 = .ok (.iconst 0, 1) := by decide +kernel
theorem dX5_init_6 : decode cX5_init 6 = .ok (.putfield 9, 3) := by decide +kernel
theorem dX5_init_9 : decode cX5_init 9 = .ok (.aload_n 0, 1) := by decide +kernel
theorem dX5_init_10 : decode cX5_init 10 = .ok (.iconst 0, 1) := by decide +kernel
theorem dX5_init_11 : decode cX5_init 11 = .ok (.putfield 15, 3) := by decide +kernel
theorem dX5_init_14 : decode cX5_init 14 = .ok (.aload_n 0, 1) := by decide +kernel
theorem dX5_init_15 : decode cX5_init 15 = .ok (.iconst 0, 1) := by decide +kernel
theorem dX5_init_16 : decode cX5_init 16 = .ok (.putfield 19, 3) := by decide +kernel
theorem dX5_init_19 : decode cX5_init 19 = .ok (.aload_n 0, 1) := by decide +kernel
theorem dX5_init_20 : decode cX5_init 20 = .ok (.bipush 10, 2) := by decide +kernel
theorem dX5_init_22 : decode cX5_init 22 = .ok (.anewarray 22, 3) := by decide +kernel
theorem dX5_init_25 : decode cX5_init 25 = .ok (.putfield 24, 3) := by decide +kernel
theorem dX5_init_28 : decode cX5_init 28 = .ok (.aload_n 0, 1) := by decide +kernel
theorem dX5_init_29 : decode cX5_init 29 = .ok (.new 22, 3) := by decide +kernel
theorem dX5_init_32 : decode cX5_init 32 = .ok (.dup, 1) := by decide +kernel
theorem dX5_init_33 : decode cX5_init 33 = .ok (.aload_n 1, 1) := by decide +kernel
theorem dX5_init_34 : decode cX5_init 34 = .ok (.invokespecial 28, 3) := by decide +kernel
theorem dX5_init_37 : decode cX5_init 37 = .ok (.putfield 31, 3) := by decide +kernel
theorem dX5_init_40 : decode cX5_init 40 = .ok (.iconst 0, 1) := by decide +kernel
theorem dX5_init_41 : decode cX5_init 41 = .ok (.istore_n 2, 1) := by decide +kernel
theorem dX5_init_42 : decode cX5_init 42 = .ok (.iload_n 2, 1) := by decide +kernel
theorem dX5_init_43 : decode cX5_init 43 = .ok (.aload_n 0, 1) := by decide +kernel
theorem dX5_init_44 : decode cX5_init 44 = .ok (.getfield 24, 3) := by decide +kernel
theorem dX5_init_47 : decode cX5_init 47 = .ok (.arraylength, 1) := by decide +kernel
theorem dX5_init_48 : decode cX5_init 48 = .ok (.if_icmp .ge 23, 3) := by decide +kernel
theorem dX5_init_51 : decode cX5_init 51 = .ok (.aload_n 0, 1) := by decide +kernel
theorem dX5_init_52 : decode cX5_init 52 = .ok (.getfield 24, 3) := by decide +kernel
theorem dX5_init_55 : decode cX5_init 55 = .ok (.iload_n 2, 1) := by decide +kernel
theorem dX5_init_56 : decode cX5_init 56 = .ok (.new 22, 3) := by decide +kernel
theorem dX5_init_59 : decode cX5_init 59 = .ok (.dup, 1) := by decide +kernel
theorem dX5_init_60 : decode cX5_init 60 = .ok (.aload_n 1, 1) := by decide +kernel
theorem dX5_init_61 : decode cX5_init 61 = .ok (.invokespecial 28, 3) := by decide +kernel
theorem dX5_init_64 : decode cX5_init 64 = .ok (.aastore, 1) := by decide +kernel
theorem dX5_init_65 : decode cX5_init 65 = .ok (.iinc 2 1, 3) := by decide +kernel
theorem dX5_init_68 : decode cX5_init 68 = .ok (.goto (-26), 3) := by decide +kernel
theorem dX5_init_71 : decode cX5_init 71 = .ok (.return_, 1) := by decide +kernel
theorem dX5_beginWith_0 : decode cX5_beginWith 0 = .ok (.aload_n 0, 1) := by decide +kernel
theorem dX5_beginWith_1 : decode cX5_beginWith 1 = .ok (.getfield 31, 3) := by decide +kernel
theorem dX5_beginWith_4 : decode cX5_beginWith 4 = .ok (.aload_n 1, 1) := by decide +kernel
theorem dX5_beginWith_5 : decode cX5_beginWith 5 = .ok (.invokevirtual 35, 3) := by decide +kernel
theorem dX5_beginWith_8 : decode cX5_beginWith 8 = .ok (.aload_n 0, 1) := by decide +kernel
theorem dX5_beginWith_9 : decode cX5_beginWith 9 = .ok (.iconst 0, 1) := by decide +kernel
theorem dX5_beginWith_10 : decode cX5_beginWith 10 = .ok (.putfield 15, 3) := by decide +kernel
theorem dX5_beginWith_13 : decode cX5_beginWith 13 = .ok (.return_, 1) := by decide +kernel
theorem dX5_become_0 : decode cX5_become 0 = .ok (.aload_n 0, 1) := by decide +kernel
theorem dX5_become_1 : decode cX5_become 1 = .ok (.getfield 31, 3) := by decide +kernel
theorem dX5_become_4 : decode cX5_become 4 = .ok (.aload_n 1, 1) := by decide +kernel
theorem dX5_become_5 : decode cX5_become 5 = .ok (.getfield 31, 3) := by decide +kernel
theorem dX5_become_8 : decode cX5_become 8 = .ok (.invokevirtual 38, 3) := by decide +kernel
theorem dX5_become_11 : decode cX5_become 11 = .ok (.aload_n 0, 1) := by decide +kernel
theorem dX5_become_12 : decode cX5_become 12 = .ok (.aload_n 1, 1) := by decide +kernel
theorem dX5_become_13 : decode cX5_become 13 = .ok (.getfield 15, 3) := by decide +kernel
theorem dX5_become_16 : decode cX5_become 16 = .ok (.putfield 15, 3) := by decide +kernel
theorem dX5_become_19 : decode cX5_become 19 = .ok (.aload_n 0, 1) := by decide +kernel
theorem dX5_become_20 : decode cX5_become 20 = .ok (.aload_n 1, 1) := by decide +kernel
theorem dX5_become_21 : decode cX5_become 21 = .ok (.getfield 19, 3) := by decide +kernel
theorem dX5_become_24 : decode cX5_become 24 = .ok (.putfield 19, 3) := by decide +kernel
theorem dX5_become_27 : decode cX5_become 27 = .ok (.iconst 0, 1) := by decide +kernel
theorem dX5_become_28 : decode cX5_become 28 = .ok (.istore_n 2, 1) := by decide +kernel
theorem dX5_become_29 : decode cX5_become 29 = .ok (.iload_n 2, 1) := by decide +kernel
theorem dX5_become_30 : decode cX5_become 30 = .ok (.bipush 10, 2) := by decide +kernel
theorem dX5_become_32 : decode cX5_become 32 = .ok (.if_icmp .ge 24, 3) := by decide +kernel
theorem dX5_become_35 : decode cX5_become 35 = .ok (.aload_n 0, 1) := by decide +kernel
theorem dX5_become_36 : decode cX5_become 36 = .ok (.getfield 24, 3) := by decide +kernel
theorem dX5_become_39 : decode cX5_become 39 = .ok (.iload_n 2, 1) := by decide +kernel
theorem dX5_become_40 : decode cX5_become 40 = .ok (.aaload, 1) := by decide +kernel
theorem dX5_become_41 : decode cX5_become 41 = .ok (.aload_n 1, 1) := by decide +kernel
theorem dX5_become_42 : decode cX5_become 42 = .ok (.getfield 24, 3) := by decide +kernel
theorem dX5_become_45 : decode cX5_become 45 = .ok (.iload_n 2, 1) := by decide +kernel
theorem dX5_become_46 : decode cX5_become 46 = .ok (.aaload, 1) := by decide +kernel
theorem dX5_become_47 : decode cX5_become 47 = .ok (.invokevirtual 38, 3) := by decide +kernel
theorem dX5_become_50 : decode cX5_become 50 = .ok (.iinc 2 1, 3) := by decide +kernel
theorem dX5_become_53 : decode cX5_become 53 = .ok (.goto (-24), 3) := by decide +kernel
theorem dX5_become_56 : decode cX5_become 56 = .ok (.return_, 1) := by decide +kernel
theorem dX5_remember_0 : decode cX5_remember 0 = .ok (.aload_n 0, 1) := by decide +kernel
theorem dX5_remember_1 : decode cX5_remember 1 = .ok (.getfield 15, 3) := by decide +kernel
theorem dX5_remember_4 : decode cX5_remember 4 = .ok (.bipush 10, 2) := by decide +kernel
theorem dX5_remember_6 : decode cX5_remember 6 = .ok (.if_icmp .lt 18, 3) := by decide +kernel
theorem dX5_remember_9 : decode cX5_remember 9 = .ok (.aload_n 0, 1) := by decide +kernel
theorem dX5_remember_10 : decode cX5_remember 10 = .ok (.aload_n 0, 1) := by decide +kernel
theorem dX5_remember_11 : decode cX5_remember 11 = .ok (.iconst 1, 1) := by decide +kernel
theorem dX5_remember_12 : decode cX5_remember 12 = .ok (.invokevirtual 42, 3) := by decide +kernel
theorem dX5_remember_15 : decode cX5_remember 15 = .ok (.putfield 19, 3) := by decide +kernel
theorem dX5_remember_18 : decode cX5_remember 18 = .ok (.aload_n 0, 1) := by decide +kernel
theorem dX5_remember_19 : decode cX5_remember 19 = .ok (.bipush 9, 2) := by decide +kernel
theorem dX5_remember_21 : decode cX5_remember 21 = .ok (.putfield 15, 3) := by decide +kernel
theorem dX5_remember_24 : decode cX5_remember 24 = .ok (.aload_n 0, 1) := by decide +kernel
theorem dX5_remember_25 : decode cX5_remember 25 = .ok (.getfield 24, 3) := by decide +kernel
theorem dX5_remember_28 : decode cX5_remember 28 = .ok (.aload_n 0, 1) := by decide +kernel
theorem dX5_remember_29 : decode cX5_remember 29 = .ok (.aload_n 0, 1) := by decide +kernel
theorem dX5_remember_30 : decode cX5_remember 30 = .ok (.getfield 15, 3) := by decide +kernel
theorem dX5_remember_33 : decode cX5_remember 33 = .ok (.invokevirtual 42, 3) := by decide +kernel
theorem dX5_remember_36 : decode cX5_remember 36 = .ok (.aaload, 1) := by decide +kernel
theorem dX5_remember_37 : decode cX5_remember 37 = .ok (.aload_n 0, 1) := by decide +kernel
theorem dX5_remember_38 : decode cX5_remember 38 = .ok (.getfield 31, 3) := by decide +kernel
theorem dX5_remember_41 : decode cX5_remember 41 = .ok (.invokevirtual 38, 3) := by decide +kernel
theorem dX5_remember_44 : decode cX5_remember 44 = .ok (.aload_n 0, 1) := by decide +kernel
theorem dX5_remember_45 : decode cX5_remember 45 = .ok (.dup, 1) := by decide +kernel
theorem dX5_remember_46 : decode cX5_remember 46 = .ok (.getfield 15, 3) := by decide +kernel
theorem dX5_remember_49 : decode cX5_remember 49 = .ok (.iconst 1, 1) := by decide +kernel
theorem dX5_remember_50 : decode cX5_remember 50 = .ok (.iadd, 1) := by decide +kernel
theorem dX5_remember_51 : decode cX5_remember 51 = .ok (.putfield 15, 3) := by decide +kernel
theorem dX5_remember_54 : decode cX5_remember 54 = .ok (.return_, 1) := by decide +kernel
theorem dX5_goBack_0 : decode cX5_goBack 0 = .ok (.iload_n 1, 1) := by decide +kernel
theorem dX5_goBack_1 : decode cX5_goBack 1 = .ok (.iconst 1, 1) := by decide +kernel
theorem dX5_goBack_2 : decode cX5_goBack 2 = .ok (.if_icmp .lt 41, 3) := by decide +kernel
theorem dX5_goBack_5 : decode cX5_goBack 5 = .ok (.iload_n 1, 1) := by decide +kernel
theorem dX5_goBack_6 : decode cX5_goBack 6 = .ok (.aload_n 0, 1) := by decide +kernel
theorem dX5_goBack_7 : decode cX5_goBack 7 = .ok (.getfield 15, 3) := by decide +kernel
theorem dX5_goBack_10 : decode cX5_goBack 10 = .ok (.if_icmp .gt 33, 3) := by decide +kernel
theorem dX5_goBack_13 : decode cX5_goBack 13 = .ok (.aload_n 0, 1) := by decide +kernel
theorem dX5_goBack_14 : decode cX5_goBack 14 = .ok (.dup, 1) := by decide +kernel
theorem dX5_goBack_15 : decode cX5_goBack 15 = .ok (.getfield 15, 3) := by decide +kernel
theorem dX5_goBack_18 : decode cX5_goBack 18 = .ok (.iload_n 1, 1) := by decide +kernel
theorem dX5_goBack_19 : decode cX5_goBack 19 = .ok (.isub, 1) := by decide +kernel
theorem dX5_goBack_20 : decode cX5_goBack 20 = .ok (.putfield 15, 3) := by decide +kernel
theorem dX5_goBack_23 : decode cX5_goBack 23 = .ok (.aload_n 0, 1) := by decide +kernel
theorem dX5_goBack_24 : decode cX5_goBack 24 = .ok (.getfield 31, 3) := by decide +kernel
theorem dX5_goBack_27 : decode cX5_goBack 27 = .ok (.aload_n 0, 1) := by decide +kernel
theorem dX5_goBack_28 : decode cX5_goBack 28 = .ok (.getfield 24, 3) := by decide +kernel
theorem dX5_goBack_31 : decode cX5_goBack 31 = .ok (.aload_n 0, 1) := by decide +kernel
theorem dX5_goBack_32 : decode cX5_goBack 32 = .ok (.aload_n 0, 1) := by decide +kernel
theorem dX5_goBack_33 : decode cX5_goBack 33 = .ok (.getfield 15, 3) := by decide +kernel
theorem dX5_goBack_36 : decode cX5_goBack 36 = .ok (.invokevirtual 42, 3) := by decide +kernel
theorem dX5_goBack_39 : decode cX5_goBack 39 = .ok (.aaload, 1) := by decide +kernel
theorem dX5_goBack_40 : decode cX5_goBack 40 = .ok (.invokevirtual 38, 3) := by decide +kernel
theorem dX5_goBack_43 : decode cX5_goBack 43 = .ok (.return_, 1) := by decide +kernel
theorem dX5_slot_0 : decode cX5_slot 0 = .ok (.aload_n 0, 1) := by decide +kernel
theorem dX5_slot_1 : decode cX5_slot 1 = .ok (.getfield 19, 3) := by decide +kernel
theorem dX5_slot_4 : decode cX5_slot 4 = .ok (.iload_n 1, 1) := by decide +kernel
theorem dX5_slot_5 : decode cX5_slot 5 = .ok (.iadd, 1) := by decide +kernel
theorem dX5_slot_6 : decode cX5_slot 6 = .ok (.bipush 10, 2) := by decide +kernel
theorem dX5_slot_8 : decode cX5_slot 8 = .ok (.invokestatic 46, 3) := by decide +kernel
theorem dX5_slot_11 : decode cX5_slot 11 = .ok (.ireturn, 1) := by decide +kernel
theorem dX6_init_0 : decode cX6_init 0 = .ok (.aload_n 0, 1) := by decide +kernel
theorem dX6_init_1 : decode cX6_init 1 = .ok (.invokespecial 3, 3) := by decide +kernel
theorem dX6_init_4 : decode cX6_init 4 = .ok (.aload_n 0, 1) := by decide +kernel
theorem dX6_init_5 : decode cX6_init 5 = .ok (.bipush 6, 2) := by decide +kernel
theorem dX6_init_7 : decode cX6_init 7 = .ok (.newarray .long, 2) := by decide +kernel
theorem dX6_init_9 : decode cX6_init 9 = .ok (.putfield 9, 3) := by decide +kernel
theorem dX6_init_12 : decode cX6_init 12 = .ok (.aload_n 0, 1) := by decide +kernel
theorem dX6_init_13 : decode cX6_init 13 = .ok (.bipush 64, 2) := by decide +kernel
theorem dX6_init_15 : decode cX6_init 15 = .ok (.newarray .long, 2) := by decide +kernel
theorem dX6_init_17 : decode cX6_init 17 = .ok (.putfield 15, 3) := by decide +kernel
theorem dX6_init_20 : decode cX6_init 20 = .ok (.aload_n 0, 1) := by decide +kernel
theorem dX6_init_21 : decode cX6_init 21 = .ok (.aload_n 1, 1) := by decide +kernel
theorem dX6_init_22 : decode cX6_init 22 = .ok (.putfield 18, 3) := by decide +kernel
theorem dX6_init_25 : decode cX6_init 25 = .ok (.aload_n 0, 1) := by decide +kernel
theorem dX6_init_26 : decode cX6_init 26 = .ok (.aload_n 2, 1) := by decide +kernel
theorem dX6_init_27 : decode cX6_init 27 = .ok (.putfield 22, 3) := by decide +kernel
theorem dX6_init_30 : decode cX6_init 30 = .ok (.return_, 1) := by decide +kernel
theorem dX6_lookAhead_0 : decode cX6_lookAhead 0 = .ok (.iconst 0, 1) := by decide +kernel
theorem dX6_lookAhead_1 : decode cX6_lookAhead 1 = .ok (.istore_n 2, 1) := by decide +kernel
theorem dX6_lookAhead_2 : decode cX6_lookAhead 2 = .ok (.iload_n 2, 1) := by decide +kernel
theorem dX6_lookAhead_3 : decode cX6_lookAhead 3 = .ok (.aload_n 0, 1) := by decide +kernel
theorem dX6_lookAhead_4 : decode cX6_lookAhead 4 = .ok (.getfield 9, 3) := by decide +kernel
theorem dX6_lookAhead_7 : decode cX6_lookAhead 7 = .ok (.arraylength, 1) := by decide +kernel
theorem dX6_lookAhead_8 : decode cX6_lookAhead 8 = .ok (.if_icmp .ge 16, 3) := by decide +kernel
theorem dX6_lookAhead_11 : decode cX6_lookAhead 11 = .ok (.aload_n 0, 1) := by decide +kernel
theorem dX6_lookAhead_12 : decode cX6_lookAhead 12 = .ok (.getfield 9, 3) := by decide +kernel
theorem dX6_lookAhead_15 : decode cX6_lookAhead 15 = .ok (.iload_n 2, 1) := by decide +kernel
theorem dX6_lookAhead_16 : decode cX6_lookAhead 16 = .ok (.lconst 0, 1) := by decide +kernel
theorem dX6_lookAhead_17 : decode cX6_lookAhead 17 = .ok (.lastore, 1) := by decide +kernel
theorem dX6_lookAhead_18 : decode cX6_lookAhead 18 = .ok (.iinc 2 1, 3) := by decide +kernel
theorem dX6_lookAhead_21 : decode cX6_lookAhead 21 = .ok (.goto (-19), 3) := by decide +kernel
theorem dX6_lookAhead_24 : decode cX6_lookAhead 24 = .ok (.aload_n 0, 1) := by decide +kernel
theorem dX6_lookAhead_25 : decode cX6_lookAhead 25 = .ok (.getfield 22, 3) := by decide +kernel
theorem dX6_lookAhead_28 : decode cX6_lookAhead 28 = .ok (.aload_n 1, 1) := by decide +kernel
theorem dX6_lookAhead_29 : decode cX6_lookAhead 29 = .ok (.invokevirtual 26, 3) := by decide +kernel
theorem dX6_lookAhead_32 : decode cX6_lookAhead 32 = .ok (.iconst 0, 1) := by decide +kernel
theorem dX6_lookAhead_33 : decode cX6_lookAhead 33 = .ok (.istore_n 2, 1) := by decide +kernel
theorem dX6_lookAhead_34 : decode cX6_lookAhead 34 = .ok (.iload_n 2, 1) := by decide +kernel
theorem dX6_lookAhead_35 : decode cX6_lookAhead 35 = .ok (.bipush 40, 2) := by decide +kernel
theorem dX6_lookAhead_37 : decode cX6_lookAhead 37 = .ok (.if_icmp .gt 76, 3) := by decide +kernel
theorem dX6_lookAhead_40 : decode cX6_lookAhead 40 = .ok (.aload_n 0, 1) := by decide +kernel
theorem dX6_lookAhead_41 : decode cX6_lookAhead 41 = .ok (.getfield 18, 3) := by decide +kernel
theorem dX6_lookAhead_44 : decode cX6_lookAhead 44 = .ok (.aload_n 0, 1) := by decide +kernel
theorem dX6_lookAhead_45 : decode cX6_lookAhead 45 = .ok (.getfield 22, 3) := by decide +kernel
theorem dX6_lookAhead_48 : decode cX6_lookAhead 48 = .ok (.invokevirtual 32, 3) := by decide +kernel
theorem dX6_lookAhead_51 : decode cX6_lookAhead 51 = .ok (.iconst 0, 1) := by decide +kernel
theorem dX6_lookAhead_52 : decode cX6_lookAhead 52 = .ok (.istore_n 3, 1) := by decide +kernel
theorem dX6_lookAhead_53 : decode cX6_lookAhead 53 = .ok (.iload_n 3, 1) := by decide +kernel
theorem dX6_lookAhead_54 : decode cX6_lookAhead 54 = .ok (.aload_n 0, 1) := by decide +kernel
theorem dX6_lookAhead_55 : decode cX6_lookAhead 55 = .ok (.getfield 9, 3) := by decide +kernel
theorem dX6_lookAhead_58 : decode cX6_lookAhead 58 = .ok (.arraylength, 1) := by decide +kernel
theorem dX6_lookAhead_59 : decode cX6_lookAhead 59 = .ok (.if_icmp .ge 41, 3) := by decide +kernel
theorem dX6_lookAhead_62 : decode cX6_lookAhead 62 = .ok (.iload_n 3, 1) := by decide +kernel
theorem dX6_lookAhead_63 : decode cX6_lookAhead 63 = .ok (.aload_n 1, 1) := by decide +kernel
theorem dX6_lookAhead_64 : decode cX6_lookAhead 64 = .ok (.getfield 37, 3) := by decide +kernel
theorem dX6_lookAhead_67 : decode cX6_lookAhead 67 = .ok (.getfield 41, 3) := by decide +kernel
theorem dX6_lookAhead_70 : decode cX6_lookAhead 70 = .ok (.if_icmp .ge 30, 3) := by decide +kernel
theorem dX6_lookAhead_73 : decode cX6_lookAhead 73 = .ok (.aload_n 0, 1) := by decide +kernel
theorem dX6_lookAhead_74 : decode cX6_lookAhead 74 = .ok (.iload_n 3, 1) := by decide +kernel
theorem dX6_lookAhead_75 : decode cX6_lookAhead 75 = .ok (.invokevirtual 47, 3) := by decide +kernel
theorem dX6_lookAhead_78 : decode cX6_lookAhead 78 = .ok (.iconst (-1), 1) := by decide +kernel
theorem dX6_lookAhead_79 : decode cX6_lookAhead 79 = .ok (.if_icmp .eq 15, 3) := by decide +kernel
theorem dX6_lookAhead_82 : decode cX6_lookAhead 82 = .ok (.aload_n 0, 1) := by decide +kernel
theorem dX6_lookAhead_83 : decode cX6_lookAhead 83 = .ok (.getfield 9, 3) := by decide +kernel
theorem dX6_lookAhead_86 : decode cX6_lookAhead 86 = .ok (.iload_n 3, 1) := by decide +kernel
theorem dX6_lookAhead_87 : decode cX6_lookAhead 87 = .ok (.dup2, 1) := by decide +kernel
theorem dX6_lookAhead_88 : decode cX6_lookAhead 88 = .ok (.laload, 1) := by decide +kernel
theorem dX6_lookAhead_89 : decode cX6_lookAhead 89 = .ok (.lconst 1, 1) := by decide +kernel
theorem dX6_lookAhead_90 : decode cX6_lookAhead 90 = .ok (.iload_n 2, 1) := by decide +kernel
theorem dX6_lookAhead_91 : decode cX6_lookAhead 91 = .ok (.lshl, 1) := by decide +kernel
theorem dX6_lookAhead_92 : decode cX6_lookAhead 92 = .ok (.lor, 1) := by decide +kernel
theorem dX6_lookAhead_93 : decode cX6_lookAhead 93 = .ok (.lastore, 1) := by decide +kernel
theorem dX6_lookAhead_94 : decode cX6_lookAhead 94 = .ok (.iinc 3 1, 3) := by decide +kernel
theorem dX6_lookAhead_97 : decode cX6_lookAhead 97 = .ok (.goto (-44), 3) := by decide +kernel
theorem dX6_lookAhead_100 : decode cX6_lookAhead 100 = .ok (.aload_n 0, 1) := by decide +kernel
theorem dX6_lookAhead_101 : decode cX6_lookAhead 101 = .ok (.getfield 22, 3) := by decide +kernel
theorem dX6_lookAhead_104 : decode cX6_lookAhead 104 = .ok (.invokevirtual 51, 3) := by decide +kernel
theorem dX6_lookAhead_107 : decode cX6_lookAhead 107 = .ok (.iinc 2 1, 3) := by decide +kernel
theorem dX6_lookAhead_110 : decode cX6_lookAhead 110 = .ok (.goto (-76), 3) := by decide +kernel
theorem dX6_lookAhead_113 : decode cX6_lookAhead 113 = .ok (.return_, 1) := by decide +kernel
theorem dX6_quietWellNow_0 : decode cX6_quietWellNow 0 = .ok (.aload_n 0, 1) := by decide +kernel
theorem dX6_quietWellNow_1 : decode cX6_quietWellNow 1 = .ok (.getfield 22, 3) := by decide +kernel
theorem dX6_quietWellNow_4 : decode cX6_quietWellNow 4 = .ok (.getfield 37, 3) := by decide +kernel
theorem dX6_quietWellNow_7 : decode cX6_quietWellNow 7 = .ok (.iload_n 1, 1) := by decide +kernel
theorem dX6_quietWellNow_8 : decode cX6_quietWellNow 8 = .ok (.invokevirtual 54, 3) := by decide +kernel
theorem dX6_quietWellNow_11 : decode cX6_quietWellNow 11 = .ok (.istore_n 2, 1) := by decide +kernel
theorem dX6_quietWellNow_12 : decode cX6_quietWellNow 12 = .ok (.aload_n 0, 1) := by decide +kernel
theorem dX6_quietWellNow_13 : decode cX6_quietWellNow 13 = .ok (.getfield 22, 3) := by decide +kernel
theorem dX6_quietWellNow_16 : decode cX6_quietWellNow 16 = .ok (.getfield 37, 3) := by decide +kernel
theorem dX6_quietWellNow_19 : decode cX6_quietWellNow 19 = .ok (.iload_n 1, 1) := by decide +kernel
theorem dX6_quietWellNow_20 : decode cX6_quietWellNow 20 = .ok (.invokevirtual 57, 3) := by decide +kernel
theorem dX6_quietWellNow_23 : decode cX6_quietWellNow 23 = .ok (.istore_n 3, 1) := by decide +kernel
theorem dX6_quietWellNow_24 : decode cX6_quietWellNow 24 = .ok (.iconst 0, 1) := by decide +kernel
theorem dX6_quietWellNow_25 : decode cX6_quietWellNow 25 = .ok (.istore 4, 2) := by decide +kernel
theorem dX6_quietWellNow_27 : decode cX6_quietWellNow 27 = .ok (.iload 4, 2) := by decide +kernel
theorem dX6_quietWellNow_29 : decode cX6_quietWellNow 29 = .ok (.bipush 10, 2) := by decide +kernel
theorem dX6_quietWellNow_31 : decode cX6_quietWellNow 31 = .ok (.if_icmp .ge 47, 3) := by decide +kernel
theorem dX6_quietWellNow_34 : decode cX6_quietWellNow 34 = .ok (.iload_n 2, 1) := by decide +kernel
theorem dX6_quietWellNow_35 : decode cX6_quietWellNow 35 = .ok (.iload 4, 2) := by decide +kernel
theorem dX6_quietWellNow_37 : decode cX6_quietWellNow 37 = .ok (.invokestatic 60, 3) := by decide +kernel
theorem dX6_quietWellNow_40 : decode cX6_quietWellNow 40 = .ok (.ifCond .eq 32, 3) := by decide +kernel
theorem dX6_quietWellNow_43 : decode cX6_quietWellNow 43 = .ok (.aload_n 0, 1) := by decide +kernel
theorem dX6_quietWellNow_44 : decode cX6_quietWellNow 44 = .ok (.getfield 22, 3) := by decide +kernel
theorem dX6_quietWellNow_47 : decode cX6_quietWellNow 47 = .ok (.iload 4, 2) := by decide +kernel
theorem dX6_quietWellNow_49 : decode cX6_quietWellNow 49 = .ok (.iload_n 3, 1) := by decide +kernel
theorem dX6_quietWellNow_50 : decode cX6_quietWellNow 50 = .ok (.invokestatic 64, 3) := by decide +kernel
theorem dX6_quietWellNow_53 : decode cX6_quietWellNow 53 = .ok (.ifCond .ne 19, 3) := by decide +kernel
theorem dX6_quietWellNow_56 : decode cX6_quietWellNow 56 = .ok (.aload_n 0, 1) := by decide +kernel
theorem dX6_quietWellNow_57 : decode cX6_quietWellNow 57 = .ok (.getfield 18, 3) := by decide +kernel
theorem dX6_quietWellNow_60 : decode cX6_quietWellNow 60 = .ok (.iload 4, 2) := by decide +kernel
theorem dX6_quietWellNow_62 : decode cX6_quietWellNow 62 = .ok (.iload_n 3, 1) := by decide +kernel
theorem dX6_quietWellNow_63 : decode cX6_quietWellNow 63 = .ok (.invokevirtual 70, 3) := by decide +kernel
theorem dX6_quietWellNow_66 : decode cX6_quietWellNow 66 = .ok (.ifCond .ne 6, 3) := by decide +kernel
theorem dX6_quietWellNow_69 : decode cX6_quietWellNow 69 = .ok (.iload 4, 2) := by decide +kernel
theorem dX6_quietWellNow_71 : decode cX6_quietWellNow 71 = .ok (.ireturn, 1) := by decide +kernel
theorem dX6_quietWellNow_72 : decode cX6_quietWellNow 72 = .ok (.iinc 4 1, 3) := by decide +kernel
theorem dX6_quietWellNow_75 : decode cX6_quietWellNow 75 = .ok (.goto (-48), 3) := by decide +kernel
theorem dX6_quietWellNow_78 : decode cX6_quietWellNow 78 = .ok (.iconst (-1), 1) := by decide +kernel
theorem dX6_quietWellNow_79 : decode cX6_quietWellNow 79 = .ok (.ireturn, 1) := by decide +kernel
theorem dX6_hoursOf_0 : decode cX6_hoursOf 0 = .ok (.iload_n 1, 1) := by decide +kernel
theorem dX6_hoursOf_1 : decode cX6_hoursOf 1 = .ok (.ifCond .lt 21, 3) := by decide +kernel
theorem dX6_hoursOf_4 : decode cX6_hoursOf 4 = .ok (.iload_n 1, 1) := by decide +kernel
theorem dX6_hoursOf_5 : decode cX6_hoursOf 5 = .ok (.aload_n 0, 1) := by decide +kernel
theorem dX6_hoursOf_6 : decode cX6_hoursOf 6 = .ok (.getfield 9, 3) := by decide +kernel
theorem dX6_hoursOf_9 : decode cX6_hoursOf 9 = .ok (.arraylength, 1) := by decide +kernel
theorem dX6_hoursOf_10 : decode cX6_hoursOf 10 = .ok (.if_icmp .ge 12, 3) := by decide +kernel
theorem dX6_hoursOf_13 : decode cX6_hoursOf 13 = .ok (.aload_n 0, 1) := by decide +kernel
theorem dX6_hoursOf_14 : decode cX6_hoursOf 14 = .ok (.getfield 9, 3) := by decide +kernel
theorem dX6_hoursOf_17 : decode cX6_hoursOf 17 = .ok (.iload_n 1, 1) := by decide +kernel
theorem dX6_hoursOf_18 : decode cX6_hoursOf 18 = .ok (.laload, 1) := by decide +kernel
theorem dX6_hoursOf_19 : decode cX6_hoursOf 19 = .ok (.goto 4, 3) := by decide +kernel
theorem dX6_hoursOf_22 : decode cX6_hoursOf 22 = .ok (.lconst 0, 1) := by decide +kernel
theorem dX6_hoursOf_23 : decode cX6_hoursOf 23 = .ok (.lreturn, 1) := by decide +kernel
theorem dX6_mostServed_0 : decode cX6_mostServed 0 = .ok (.aload_n 0, 1) := by decide +kernel
theorem dX6_mostServed_1 : decode cX6_mostServed 1 = .ok (.getfield 22, 3) := by decide +kernel
theorem dX6_mostServed_4 : decode cX6_mostServed 4 = .ok (.getfield 37, 3) := by decide +kernel
theorem dX6_mostServed_7 : decode cX6_mostServed 7 = .ok (.getfield 41, 3) := by decide +kernel
theorem dX6_mostServed_10 : decode cX6_mostServed 10 = .ok (.aload_n 0, 1) := by decide +kernel
theorem dX6_mostServed_11 : decode cX6_mostServed 11 = .ok (.iload_n 1, 1) := by decide +kernel
theorem dX6_mostServed_12 : decode cX6_mostServed 12 = .ok (.invokestatic 74, 3) := by decide +kernel
theorem dX6_mostServed_15 : decode cX6_mostServed 15 = .ok (.iconst 0, 1) := by decide +kernel
theorem dX6_mostServed_16 : decode cX6_mostServed 16 = .ok (.invokevirtual 78, 3) := by decide +kernel
theorem dX6_mostServed_19 : decode cX6_mostServed 19 = .ok (.isub, 1) := by decide +kernel
theorem dX6_mostServed_20 : decode cX6_mostServed 20 = .ok (.ireturn, 1) := by decide +kernel
theorem dX6_soonestEnd_0 : decode cX6_soonestEnd 0 = .ok (.iconst 0, 1) := by decide +kernel
theorem dX6_soonestEnd_1 : decode cX6_soonestEnd 1 = .ok (.istore_n 1, 1) := by decide +kernel
theorem dX6_soonestEnd_2 : decode cX6_soonestEnd 2 = .ok (.iload_n 1, 1) := by decide +kernel
theorem dX6_soonestEnd_3 : decode cX6_soonestEnd 3 = .ok (.bipush 40, 2) := by decide +kernel
theorem dX6_soonestEnd_5 : decode cX6_soonestEnd 5 = .ok (.if_icmp .gt 23, 3) := by decide +kernel
theorem dX6_soonestEnd_8 : decode cX6_soonestEnd 8 = .ok (.aload_n 0, 1) := by decide +kernel
theorem dX6_soonestEnd_9 : decode cX6_soonestEnd 9 = .ok (.iload_n 1, 1) := by decide +kernel
theorem dX6_soonestEnd_10 : decode cX6_soonestEnd 10 = .ok (.invokestatic 74, 3) := by decide +kernel
theorem dX6_soonestEnd_13 : decode cX6_soonestEnd 13 = .ok (.iconst 0, 1) := by decide +kernel
theorem dX6_soonestEnd_14 : decode cX6_soonestEnd 14 = .ok (.invokevirtual 78, 3) := by decide +kernel
theorem dX6_soonestEnd_17 : decode cX6_soonestEnd 17 = .ok (.ifCond .ne 5, 3) := by decide +kernel
theorem dX6_soonestEnd_20 : decode cX6_soonestEnd 20 = .ok (.iload_n 1, 1) := by decide +kernel
theorem dX6_soonestEnd_21 : decode cX6_soonestEnd 21 = .ok (.ireturn, 1) := by decide +kernel
theorem dX6_soonestEnd_22 : decode cX6_soonestEnd 22 = .ok (.iinc 1 1, 3) := by decide +kernel
theorem dX6_soonestEnd_25 : decode cX6_soonestEnd 25 = .ok (.goto (-23), 3) := by decide +kernel
theorem dX6_soonestEnd_28 : decode cX6_soonestEnd 28 = .ok (.iconst (-1), 1) := by decide +kernel
theorem dX6_soonestEnd_29 : decode cX6_soonestEnd 29 = .ok (.ireturn, 1) := by decide +kernel
theorem dX6_hourInPlan_0 : decode cX6_hourInPlan 0 = .ok (.iload_n 2, 1) := by decide +kernel
theorem dX6_hourInPlan_1 : decode cX6_hourInPlan 1 = .ok (.invokestatic 74, 3) := by decide +kernel
theorem dX6_hourInPlan_4 : decode cX6_hourInPlan 4 = .ok (.lstore_n 3, 1) := by decide +kernel
theorem dX6_hourInPlan_5 : decode cX6_hourInPlan 5 = .ok (.iconst (-1), 1) := by decide +kernel
theorem dX6_hourInPlan_6 : decode cX6_hourInPlan 6 = .ok (.istore 5, 2) := by decide +kernel
theorem dX6_hourInPlan_8 : decode cX6_hourInPlan 8 = .ok (.iconst 0, 1) := by decide +kernel
theorem dX6_hourInPlan_9 : decode cX6_hourInPlan 9 = .ok (.istore 6, 2) := by decide +kernel
theorem dX6_hourInPlan_11 : decode cX6_hourInPlan 11 = .ok (.iload 6, 2) := by decide +kernel
theorem dX6_hourInPlan_13 : decode cX6_hourInPlan 13 = .ok (.iload_n 1, 1) := by decide +kernel
theorem dX6_hourInPlan_14 : decode cX6_hourInPlan 14 = .ok (.if_icmp .gt 43, 3) := by decide +kernel
theorem dX6_hourInPlan_17 : decode cX6_hourInPlan 17 = .ok (.iload 6, 2) := by decide +kernel
theorem dX6_hourInPlan_19 : decode cX6_hourInPlan 19 = .ok (.bipush 6, 2) := by decide +kernel
theorem dX6_hourInPlan_21 : decode cX6_hourInPlan 21 = .ok (.if_icmp .ge 36, 3) := by decide +kernel
theorem dX6_hourInPlan_24 : decode cX6_hourInPlan 24 = .ok (.aload_n 0, 1) := by decide +kernel
theorem dX6_hourInPlan_25 : decode cX6_hourInPlan 25 = .ok (.iload 6, 2) := by decide +kernel
theorem dX6_hourInPlan_27 : decode cX6_hourInPlan 27 = .ok (.lload_n 3, 1) := by decide +kernel
theorem dX6_hourInPlan_28 : decode cX6_hourInPlan 28 = .ok (.invokevirtual 82, 3) := by decide +kernel
theorem dX6_hourInPlan_31 : decode cX6_hourInPlan 31 = .ok (.istore 5, 2) := by decide +kernel
theorem dX6_hourInPlan_33 : decode cX6_hourInPlan 33 = .ok (.iload 5, 2) := by decide +kernel
theorem dX6_hourInPlan_35 : decode cX6_hourInPlan 35 = .ok (.ifCond .ge 5, 3) := by decide +kernel
theorem dX6_hourInPlan_38 : decode cX6_hourInPlan 38 = .ok (.iconst (-1), 1) := by decide +kernel
theorem dX6_hourInPlan_39 : decode cX6_hourInPlan 39 = .ok (.ireturn, 1) := by decide +kernel
theorem dX6_hourInPlan_40 : decode cX6_hourInPlan 40 = .ok (.lload_n 3, 1) := by decide +kernel
theorem dX6_hourInPlan_41 : decode cX6_hourInPlan 41 = .ok (.lconst 1, 1) := by decide +kernel
theorem dX6_hourInPlan_42 : decode cX6_hourInPlan 42 = .ok (.iload 5, 2) := by decide +kernel
theorem dX6_hourInPlan_44 : decode cX6_hourInPlan 44 = .ok (.lshl, 1) := by decide +kernel
theorem dX6_hourInPlan_45 : decode cX6_hourInPlan 45 = .ok (.ldc2_w 86, 3) := by decide +kernel
theorem dX6_hourInPlan_48 : decode cX6_hourInPlan 48 = .ok (.lxor, 1) := by decide +kernel
theorem dX6_hourInPlan_49 : decode cX6_hourInPlan 49 = .ok (.land, 1) := by decide +kernel
theorem dX6_hourInPlan_50 : decode cX6_hourInPlan 50 = .ok (.lstore_n 3, 1) := by decide +kernel
theorem dX6_hourInPlan_51 : decode cX6_hourInPlan 51 = .ok (.iinc 6 1, 3) := by decide +kernel
theorem dX6_hourInPlan_54 : decode cX6_hourInPlan 54 = .ok (.goto (-43), 3) := by decide +kernel
theorem dX6_hourInPlan_57 : decode cX6_hourInPlan 57 = .ok (.iload 5, 2) := by decide +kernel
theorem dX6_hourInPlan_59 : decode cX6_hourInPlan 59 = .ok (.ireturn, 1) := by decide +kernel
theorem dX6_firstHourFor_0 : decode cX6_firstHourFor 0 = .ok (.iconst 0, 1) := by decide +kernel
theorem dX6_firstHourFor_1 : decode cX6_firstHourFor 1 = .ok (.istore 4, 2) := by decide +kernel
theorem dX6_firstHourFor_3 : decode cX6_firstHourFor 3 = .ok (.iload 4, 2) := by decide +kernel
theorem dX6_firstHourFor_5 : decode cX6_firstHourFor 5 = .ok (.bipush 40, 2) := by decide +kernel
theorem dX6_firstHourFor_7 : decode cX6_firstHourFor 7 = .ok (.if_icmp .gt 61, 3) := by decide +kernel
theorem dX6_firstHourFor_10 : decode cX6_firstHourFor 10 = .ok (.aload_n 0, 1) := by decide +kernel
theorem dX6_firstHourFor_11 : decode cX6_firstHourFor 11 = .ok (.iload_n 1, 1) := by decide +kernel
theorem dX6_firstHourFor_12 : decode cX6_firstHourFor 12 = .ok (.invokevirtual 88, 3) := by decide +kernel
theorem dX6_firstHourFor_15 : decode cX6_firstHourFor 15 = .ok (.lload_n 2, 1) := by decide +kernel
theorem dX6_firstHourFor_16 : decode cX6_firstHourFor 16 = .ok (.land, 1) := by decide +kernel
theorem dX6_firstHourFor_17 : decode cX6_firstHourFor 17 = .ok (.lconst 1, 1) := by decide +kernel
theorem dX6_firstHourFor_18 : decode cX6_firstHourFor 18 = .ok (.iload 4, 2) := by decide +kernel
theorem dX6_firstHourFor_20 : decode cX6_firstHourFor 20 = .ok (.lshl, 1) := by decide +kernel
theorem dX6_firstHourFor_21 : decode cX6_firstHourFor 21 = .ok (.land, 1) := by decide +kernel
theorem dX6_firstHourFor_22 : decode cX6_firstHourFor 22 = .ok (.lconst 0, 1) := by decide +kernel
theorem dX6_firstHourFor_23 : decode cX6_firstHourFor 23 = .ok (.lcmp, 1) := by decide +kernel
theorem dX6_firstHourFor_24 : decode cX6_firstHourFor 24 = .ok (.ifCond .eq 7, 3) := by decide +kernel
theorem dX6_firstHourFor_27 : decode cX6_firstHourFor 27 = .ok (.iconst 1, 1) := by decide +kernel
theorem dX6_firstHourFor_28 : decode cX6_firstHourFor 28 = .ok (.goto 4, 3) := by decide +kernel
theorem dX6_firstHourFor_31 : decode cX6_firstHourFor 31 = .ok (.iconst 0, 1) := by decide +kernel
theorem dX6_firstHourFor_32 : decode cX6_firstHourFor 32 = .ok (.istore 5, 2) := by decide +kernel
theorem dX6_firstHourFor_34 : decode cX6_firstHourFor 34 = .ok (.iload 5, 2) := by decide +kernel
theorem dX6_firstHourFor_36 : decode cX6_firstHourFor 36 = .ok (.ifCond .eq 26, 3) := by decide +kernel
theorem dX6_firstHourFor_39 : decode cX6_firstHourFor 39 = .ok (.aload_n 0, 1) := by decide +kernel
theorem dX6_firstHourFor_40 : decode cX6_firstHourFor 40 = .ok (.lload_n 2, 1) := by decide +kernel
theorem dX6_firstHourFor_41 : decode cX6_firstHourFor 41 = .ok (.lconst 1, 1) := by decide +kernel
theorem dX6_firstHourFor_42 : decode cX6_firstHourFor 42 = .ok (.iload 4, 2) := by decide +kernel
theorem dX6_firstHourFor_44 : decode cX6_firstHourFor 44 = .ok (.lshl, 1) := by decide +kernel
theorem dX6_firstHourFor_45 : decode cX6_firstHourFor 45 = .ok (.ldc2_w 86, 3) := by decide +kernel
theorem dX6_firstHourFor_48 : decode cX6_firstHourFor 48 = .ok (.lxor, 1) := by decide +kernel
theorem dX6_firstHourFor_49 : decode cX6_firstHourFor 49 = .ok (.land, 1) := by decide +kernel
theorem dX6_firstHourFor_50 : decode cX6_firstHourFor 50 = .ok (.iload_n 1, 1) := by decide +kernel
theorem dX6_firstHourFor_51 : decode cX6_firstHourFor 51 = .ok (.iconst 1, 1) := by decide +kernel
theorem dX6_firstHourFor_52 : decode cX6_firstHourFor 52 = .ok (.iadd, 1) := by decide +kernel
theorem dX6_firstHourFor_53 : decode cX6_firstHourFor 53 = .ok (.invokevirtual 78, 3) := by decide +kernel
theorem dX6_firstHourFor_56 : decode cX6_firstHourFor 56 = .ok (.ifCond .ne 6, 3) := by decide +kernel
theorem dX6_firstHourFor_59 : decode cX6_firstHourFor 59 = .ok (.iload 4, 2) := by decide +kernel
theorem dX6_firstHourFor_61 : decode cX6_firstHourFor 61 = .ok (.ireturn, 1) := by decide +kernel
theorem dX6_firstHourFor_62 : decode cX6_firstHourFor 62 = .ok (.iinc 4 1, 3) := by decide +kernel
theorem dX6_firstHourFor_65 : decode cX6_firstHourFor 65 = .ok (.goto (-62), 3) := by decide +kernel
theorem dX6_firstHourFor_68 : decode cX6_firstHourFor 68 = .ok (.iconst (-1), 1) := by decide +kernel
theorem dX6_firstHourFor_69 : decode cX6_firstHourFor 69 = .ok (.ireturn, 1) := by decide +kernel
theorem dX6_lacking_0 : decode cX6_lacking 0 = .ok (.iconst 1, 1) := by decide +kernel
theorem dX6_lacking_1 : decode cX6_lacking 1 = .ok (.iload_n 3, 1) := by decide +kernel
theorem dX6_lacking_2 : decode cX6_lacking 2 = .ok (.ishl, 1) := by decide +kernel
theorem dX6_lacking_3 : decode cX6_lacking 3 = .ok (.iconst 1, 1) := by decide +kernel
theorem dX6_lacking_4 : decode cX6_lacking 4 = .ok (.isub, 1) := by decide +kernel
theorem dX6_lacking_5 : decode cX6_lacking 5 = .ok (.istore 4, 2) := by decide +kernel
theorem dX6_lacking_7 : decode cX6_lacking 7 = .ok (.iconst 0, 1) := by decide +kernel
theorem dX6_lacking_8 : decode cX6_lacking 8 = .ok (.istore 5, 2) := by decide +kernel
theorem dX6_lacking_10 : decode cX6_lacking 10 = .ok (.aload_n 0, 1) := by decide +kernel
theorem dX6_lacking_11 : decode cX6_lacking 11 = .ok (.getfield 15, 3) := by decide +kernel
theorem dX6_lacking_14 : decode cX6_lacking 14 = .ok (.iconst 0, 1) := by decide +kernel
theorem dX6_lacking_15 : decode cX6_lacking 15 = .ok (.lconst 0, 1) := by decide +kernel
theorem dX6_lacking_16 : decode cX6_lacking 16 = .ok (.lastore, 1) := by decide +kernel
theorem dX6_lacking_17 : decode cX6_lacking 17 = .ok (.iconst 1, 1) := by decide +kernel
theorem dX6_lacking_18 : decode cX6_lacking 18 = .ok (.istore 6, 2) := by decide +kernel
theorem dX6_lacking_20 : decode cX6_lacking 20 = .ok (.iload 6, 2) := by decide +kernel
theorem dX6_lacking_22 : decode cX6_lacking 22 = .ok (.aload_n 0, 1) := by decide +kernel
theorem dX6_lacking_23 : decode cX6_lacking 23 = .ok (.getfield 15, 3) := by decide +kernel
theorem dX6_lacking_26 : decode cX6_lacking 26 = .ok (.arraylength, 1) := by decide +kernel
theorem dX6_lacking_27 : decode cX6_lacking 27 = .ok (.if_icmp .ge 88, 3) := by decide +kernel
theorem dX6_lacking_30 : decode cX6_lacking 30 = .ok (.iload 6, 2) := by decide +kernel
theorem dX6_lacking_32 : decode cX6_lacking 32 = .ok (.iconst 1, 1) := by decide +kernel
theorem dX6_lacking_33 : decode cX6_lacking 33 = .ok (.aload_n 0, 1) := by decide +kernel
theorem dX6_lacking_34 : decode cX6_lacking 34 = .ok (.getfield 22, 3) := by decide +kernel
theorem dX6_lacking_37 : decode cX6_lacking 37 = .ok (.getfield 37, 3) := by decide +kernel
theorem dX6_lacking_40 : decode cX6_lacking 40 = .ok (.getfield 41, 3) := by decide +kernel
theorem dX6_lacking_43 : decode cX6_lacking 43 = .ok (.ishl, 1) := by decide +kernel
theorem dX6_lacking_44 : decode cX6_lacking 44 = .ok (.if_icmp .ge 71, 3) := by decide +kernel
theorem dX6_lacking_47 : decode cX6_lacking 47 = .ok (.iload 6, 2) := by decide +kernel
theorem dX6_lacking_49 : decode cX6_lacking 49 = .ok (.iload 4, 2) := by decide +kernel
theorem dX6_lacking_51 : decode cX6_lacking 51 = .ok (.iand, 1) := by decide +kernel
theorem dX6_lacking_52 : decode cX6_lacking 52 = .ok (.ifCond .ne 57, 3) := by decide +kernel
theorem dX6_lacking_55 : decode cX6_lacking 55 = .ok (.aload_n 0, 1) := by decide +kernel
theorem dX6_lacking_56 : decode cX6_lacking 56 = .ok (.getfield 15, 3) := by decide +kernel
theorem dX6_lacking_59 : decode cX6_lacking 59 = .ok (.iload 6, 2) := by decide +kernel
theorem dX6_lacking_61 : decode cX6_lacking 61 = .ok (.aload_n 0, 1) := by decide +kernel
theorem dX6_lacking_62 : decode cX6_lacking 62 = .ok (.getfield 15, 3) := by decide +kernel
theorem dX6_lacking_65 : decode cX6_lacking 65 = .ok (.iload 6, 2) := by decide +kernel
theorem dX6_lacking_67 : decode cX6_lacking 67 = .ok (.iload 6, 2) := by decide +kernel
theorem dX6_lacking_69 : decode cX6_lacking 69 = .ok (.iconst 1, 1) := by decide +kernel
theorem dX6_lacking_70 : decode cX6_lacking 70 = .ok (.isub, 1) := by decide +kernel
theorem dX6_lacking_71 : decode cX6_lacking 71 = .ok (.iand, 1) := by decide +kernel
theorem dX6_lacking_72 : decode cX6_lacking 72 = .ok (.laload, 1) := by decide +kernel
theorem dX6_lacking_73 : decode cX6_lacking 73 = .ok (.aload_n 0, 1) := by decide +kernel
theorem dX6_lacking_74 : decode cX6_lacking 74 = .ok (.iload 6, 2) := by decide +kernel
theorem dX6_lacking_76 : decode cX6_lacking 76 = .ok (.invokestatic 91, 3) := by decide +kernel
theorem dX6_lacking_79 : decode cX6_lacking 79 = .ok (.invokevirtual 88, 3) := by decide +kernel
theorem dX6_lacking_82 : decode cX6_lacking 82 = .ok (.lor, 1) := by decide +kernel
theorem dX6_lacking_83 : decode cX6_lacking 83 = .ok (.lastore, 1) := by decide +kernel
theorem dX6_lacking_84 : decode cX6_lacking 84 = .ok (.iload 5, 2) := by decide +kernel
theorem dX6_lacking_86 : decode cX6_lacking 86 = .ok (.iload 6, 2) := by decide +kernel
theorem dX6_lacking_88 : decode cX6_lacking 88 = .ok (.invokestatic 96, 3) := by decide +kernel
theorem dX6_lacking_91 : decode cX6_lacking 91 = .ok (.aload_n 0, 1) := by decide +kernel
theorem dX6_lacking_92 : decode cX6_lacking 92 = .ok (.getfield 15, 3) := by decide +kernel
theorem dX6_lacking_95 : decode cX6_lacking 95 = .ok (.iload 6, 2) := by decide +kernel
theorem dX6_lacking_97 : decode cX6_lacking 97 = .ok (.laload, 1) := by decide +kernel
theorem dX6_lacking_98 : decode cX6_lacking 98 = .ok (.lload_n 1, 1) := by decide +kernel
theorem dX6_lacking_99 : decode cX6_lacking 99 = .ok (.land, 1) := by decide +kernel
theorem dX6_lacking_100 : decode cX6_lacking 100 = .ok (.invokestatic 99, 3) := by decide +kernel
theorem dX6_lacking_103 : decode cX6_lacking 103 = .ok (.isub, 1) := by decide +kernel
theorem dX6_lacking_104 : decode cX6_lacking 104 = .ok (.invokestatic 104, 3) := by decide +kernel
theorem dX6_lacking_107 : decode cX6_lacking 107 = .ok (.istore 5, 2) := by decide +kernel
theorem dX6_lacking_109 : decode cX6_lacking 109 = .ok (.iinc 6 1, 3) := by decide +kernel
theorem dX6_lacking_112 : decode cX6_lacking 112 = .ok (.goto (-92), 3) := by decide +kernel
theorem dX6_lacking_115 : decode cX6_lacking 115 = .ok (.iload 5, 2) := by decide +kernel
theorem dX6_lacking_117 : decode cX6_lacking 117 = .ok (.ireturn, 1) := by decide +kernel
theorem dX6_hoursTill_0 : decode cX6_hoursTill 0 = .ok (.lconst 1, 1) := by decide +kernel
theorem dX6_hoursTill_1 : decode cX6_hoursTill 1 = .ok (.iload_n 0, 1) := by decide +kernel
theorem dX6_hoursTill_2 : decode cX6_hoursTill 2 = .ok (.iconst 1, 1) := by decide +kernel
theorem dX6_hoursTill_3 : decode cX6_hoursTill 3 = .ok (.iadd, 1) := by decide +kernel
theorem dX6_hoursTill_4 : decode cX6_hoursTill 4 = .ok (.lshl, 1) := by decide +kernel
theorem dX6_hoursTill_5 : decode cX6_hoursTill 5 = .ok (.lconst 1, 1) := by decide +kernel
theorem dX6_hoursTill_6 : decode cX6_hoursTill 6 = .ok (.lsub, 1) := by decide +kernel
theorem dX6_hoursTill_7 : decode cX6_hoursTill 7 = .ok (.lreturn, 1) := by decide +kernel
theorem dX7_init_0 : decode cX7_init 0 = .ok (.aload_n 0, 1) := by decide +kernel
theorem dX7_init_1 : decode cX7_init 1 = .ok (.invokespecial 3, 3) := by decide +kernel
theorem dX7_init_4 : decode cX7_init 4 = .ok (.aload_n 0, 1) := by decide +kernel
theorem dX7_init_5 : decode cX7_init 5 = .ok (.iconst 0, 1) := by decide +kernel
theorem dX7_init_6 : decode cX7_init 6 = .ok (.putfield 9, 3) := by decide +kernel
theorem dX7_init_9 : decode cX7_init 9 = .ok (.aload_n 0, 1) := by decide +kernel
theorem dX7_init_10 : decode cX7_init 10 = .ok (.iconst 0, 1) := by decide +kernel
theorem dX7_init_11 : decode cX7_init 11 = .ok (.putfield 15, 3) := by decide +kernel
theorem dX7_init_14 : decode cX7_init 14 = .ok (.aload_n 0, 1) := by decide +kernel
theorem dX7_init_15 : decode cX7_init 15 = .ok (.iconst (-1), 1) := by decide +kernel
theorem dX7_init_16 : decode cX7_init 16 = .ok (.putfield 18, 3) := by decide +kernel
theorem dX7_init_19 : decode cX7_init 19 = .ok (.aload_n 0, 1) := by decide +kernel
theorem dX7_init_20 : decode cX7_init 20 = .ok (.sipush 900, 3) := by decide +kernel
theorem dX7_init_23 : decode cX7_init 23 = .ok (.newarray .byte, 2) := by decide +kernel
theorem dX7_init_25 : decode cX7_init 25 = .ok (.putfield 21, 3) := by decide +kernel
theorem dX7_init_28 : decode cX7_init 28 = .ok (.aload_n 0, 1) := by decide +kernel
theorem dX7_init_29 : decode cX7_init 29 = .ok (.iconst 0, 1) := by decide +kernel
theorem dX7_init_30 : decode cX7_init 30 = .ok (.putfield 25, 3) := by decide +kernel
theorem dX7_init_33 : decode cX7_init 33 = .ok (.aload_n 0, 1) := by decide +kernel
theorem dX7_init_34 : decode cX7_init 34 = .ok (.iconst 0, 1) := by decide +kernel
theorem dX7_init_35 : decode cX7_init 35 = .ok (.putfield 28, 3) := by decide +kernel
theorem dX7_init_38 : decode cX7_init 38 = .ok (.aload_n 0, 1) := by decide +kernel
theorem dX7_init_39 : decode cX7_init 39 = .ok (.iconst 0, 1) := by decide +kernel
theorem dX7_init_40 : decode cX7_init 40 = .ok (.putfield 31, 3) := by decide +kernel
theorem dX7_init_43 : decode cX7_init 43 = .ok (.aload_n 0, 1) := by decide +kernel
theorem dX7_init_44 : decode cX7_init 44 = .ok (.iconst 4, 1) := by decide +kernel
theorem dX7_init_45 : decode cX7_init 45 = .ok (.putfield 34, 3) := by decide +kernel
theorem dX7_init_48 : decode cX7_init 48 = .ok (.aload_n 0, 1) := by decide +kernel
theorem dX7_init_49 : decode cX7_init 49 = .ok (.iconst 0, 1) := by decide +kernel
theorem dX7_init_50 : decode cX7_init 50 = .ok (.putfield 37, 3) := by decide +kernel
theorem dX7_init_53 : decode cX7_init 53 = .ok (.aload_n 0, 1) := by decide +kernel
theorem dX7_init_54 : decode cX7_init 54 = .ok (.iconst 0, 1) := by decide +kernel
theorem dX7_init_55 : decode cX7_init 55 = .ok (.putfield 40, 3) := by decide +kernel
theorem dX7_init_58 : decode cX7_init 58 = .ok (.aload_n 0, 1) := by decide +kernel
theorem dX7_init_59 : decode cX7_init 59 = .ok (.sipush 900, 3) := by decide +kernel
theorem dX7_init_62 : decode cX7_init 62 = .ok (.newarray .int, 2) := by decide +kernel
theorem dX7_init_64 : decode cX7_init 64 = .ok (.putfield 43, 3) := by decide +kernel
theorem dX7_init_67 : decode cX7_init 67 = .ok (.aload_n 0, 1) := by decide +kernel
theorem dX7_init_68 : decode cX7_init 68 = .ok (.iconst 0, 1) := by decide +kernel
theorem dX7_init_69 : decode cX7_init 69 = .ok (.putfield 47, 3) := by decide +kernel
theorem dX7_init_72 : decode cX7_init 72 = .ok (.aload_n 0, 1) := by decide +kernel
theorem dX7_init_73 : decode cX7_init 73 = .ok (.aload_n 1, 1) := by decide +kernel
theorem dX7_init_74 : decode cX7_init 74 = .ok (.putfield 50, 3) := by decide +kernel
theorem dX7_init_77 : decode cX7_init 77 = .ok (.return_, 1) := by decide +kernel
theorem dX7_append_0 : decode cX7_append 0 = .ok (.bipush 24, 2) := by decide +kernel
theorem dX7_append_2 : decode cX7_append 2 = .ok (.istore_n 2, 1) := by decide +kernel
theorem dX7_append_3 : decode cX7_append 3 = .ok (.iload_n 2, 1) := by decide +kernel
theorem dX7_append_4 : decode cX7_append 4 = .ok (.ifCond .lt 51, 3) := by decide +kernel
theorem dX7_append_7 : decode cX7_append 7 = .ok (.aload_n 0, 1) := by decide +kernel
theorem dX7_append_8 : decode cX7_append 8 = .ok (.getfield 9, 3) := by decide +kernel
theorem dX7_append_11 : decode cX7_append 11 = .ok (.ifCond .lt 38, 3) := by decide +kernel
theorem dX7_append_14 : decode cX7_append 14 = .ok (.aload_n 0, 1) := by decide +kernel
theorem dX7_append_15 : decode cX7_append 15 = .ok (.getfield 9, 3) := by decide +kernel
theorem dX7_append_18 : decode cX7_append 18 = .ok (.aload_n 0, 1) := by decide +kernel
theorem dX7_append_19 : decode cX7_append 19 = .ok (.getfield 21, 3) := by decide +kernel
theorem dX7_append_22 : decode cX7_append 22 = .ok (.arraylength, 1) := by decide +kernel
theorem dX7_append_23 : decode cX7_append 23 = .ok (.if_icmp .ge 26, 3) := by decide +kernel
theorem dX7_append_26 : decode cX7_append 26 = .ok (.aload_n 0, 1) := by decide +kernel
theorem dX7_append_27 : decode cX7_append 27 = .ok (.getfield 21, 3) := by decide +kernel
theorem dX7_append_30 : decode cX7_append 30 = .ok (.aload_n 0, 1) := by decide +kernel
theorem dX7_append_31 : decode cX7_append 31 = .ok (.getfield 9, 3) := by decide +kernel
theorem dX7_append_34 : decode cX7_append 34 = .ok (.iload_n 1, 1) := by decide +kernel
theorem dX7_append_35 : decode cX7_append 35 = .ok (.iload_n 2, 1) := by decide +kernel
theorem dX7_append_36 : decode cX7_append 36 = .ok (.iushr, 1) := by decide +kernel
theorem dX7_append_37 : decode cX7_append 37 = .ok (.i2b, 1) := by decide +kernel
theorem dX7_append_38 : decode cX7_append 38 = .ok (.bastore, 1) := by decide +kernel
theorem dX7_append_39 : decode cX7_append 39 = .ok (.aload_n 0, 1) := by decide +kernel
theorem dX7_append_40 : decode cX7_append 40 = .ok (.dup, 1) := by decide +kernel
theorem dX7_append_41 : decode cX7_append 41 = .ok (.getfield 9, 3) := by decide +kernel
theorem dX7_append_44 : decode cX7_append 44 = .ok (.iconst 1, 1) := by decide +kernel
theorem dX7_append_45 : decode cX7_append 45 = .ok (.iadd, 1) := by decide +kernel
theorem dX7_append_46 : decode cX7_append 46 = .ok (.putfield 9, 3) := by decide +kernel
theorem dX7_append_49 : decode cX7_append 49 = .ok (.iinc 2 (-8), 3) := by decide +kernel
theorem dX7_append_52 : decode cX7_append 52 = .ok (.goto (-49), 3) := by decide +kernel
theorem dX7_append_55 : decode cX7_append 55 = .ok (.return_, 1) := by decide +kernel
theorem dX7_readText_0 : decode cX7_readText 0 = .ok (.aload_n 0, 1) := by decide +kernel
theorem dX7_readText_1 : decode cX7_readText 1 = .ok (.iconst 0, 1) := by decide +kernel
theorem dX7_readText_2 : decode cX7_readText 2 = .ok (.putfield 9, 3) := by decide +kernel
theorem dX7_readText_5 : decode cX7_readText 5 = .ok (.aload_n 0, 1) := by decide +kernel
theorem dX7_readText_6 : decode cX7_readText 6 = .ok (.iload_n 1, 1) := by decide +kernel
theorem dX7_readText_7 : decode cX7_readText 7 = .ok (.putfield 25, 3) := by decide +kernel
theorem dX7_readText_10 : decode cX7_readText 10 = .ok (.aload_n 0, 1) := by decide +kernel
theorem dX7_readText_11 : decode cX7_readText 11 = .ok (.iconst 0, 1) := by decide +kernel
theorem dX7_readText_12 : decode cX7_readText 12 = .ok (.putfield 31, 3) := by decide +kernel
theorem dX7_readText_15 : decode cX7_readText 15 = .ok (.aload_n 0, 1) := by decide +kernel
theorem dX7_readText_16 : decode cX7_readText 16 = .ok (.iconst 0, 1) := by decide +kernel
theorem dX7_readText_17 : decode cX7_readText 17 = .ok (.putfield 15, 3) := by decide +kernel
theorem dX7_readText_20 : decode cX7_readText 20 = .ok (.aload_n 0, 1) := by decide +kernel
theorem dX7_readText_21 : decode cX7_readText 21 = .ok (.iconst (-1), 1) := by decide +kernel
theorem dX7_readText_22 : decode cX7_readText 22 = .ok (.putfield 18, 3) := by decide +kernel
theorem dX7_readText_25 : decode cX7_readText 25 = .ok (.aload_n 0, 1) := by decide +kernel
theorem dX7_readText_26 : decode cX7_readText 26 = .ok (.new 54, 3) := by decide +kernel
theorem dX7_readText_29 : decode cX7_readText 29 = .ok (.dup, 1) := by decide +kernel
theorem dX7_readText_30 : decode cX7_readText 30 = .ok (.invokespecial 56, 3) := by decide +kernel
theorem dX7_readText_33 : decode cX7_readText 33 = .ok (.putfield 50, 3) := by decide +kernel
theorem dX7_readText_36 : decode cX7_readText 36 = .ok (.aload_n 0, 1) := by decide +kernel
theorem dX7_readText_37 : decode cX7_readText 37 = .ok (.invokevirtual 57, 3) := by decide +kernel
theorem dX7_readText_40 : decode cX7_readText 40 = .ok (.ifCond .ne 5, 3) := by decide +kernel
theorem dX7_readText_43 : decode cX7_readText 43 = .ok (.iconst 0, 1) := by decide +kernel
theorem dX7_readText_44 : decode cX7_readText 44 = .ok (.ireturn, 1) := by decide +kernel
theorem dX7_readText_45 : decode cX7_readText 45 = .ok (.iconst 0, 1) := by decide +kernel
theorem dX7_readText_46 : decode cX7_readText 46 = .ok (.istore_n 2, 1) := by decide +kernel
theorem dX7_readText_47 : decode cX7_readText 47 = .ok (.iload_n 2, 1) := by decide +kernel
theorem dX7_readText_48 : decode cX7_readText 48 = .ok (.sipush 900, 3) := by decide +kernel
theorem dX7_readText_51 : decode cX7_readText 51 = .ok (.if_icmp .ge 48, 3) := by decide +kernel
theorem dX7_readText_54 : decode cX7_readText 54 = .ok (.aload_n 0, 1) := by decide +kernel
theorem dX7_readText_55 : decode cX7_readText 55 = .ok (.getfield 34, 3) := by decide +kernel
theorem dX7_readText_58 : decode cX7_readText 58 = .ok (.iconst 4, 1) := by decide +kernel
theorem dX7_readText_59 : decode cX7_readText 59 = .ok (.if_icmp .eq 40, 3) := by decide +kernel
theorem dX7_readText_62 : decode cX7_readText 62 = .ok (.aload_n 0, 1) := by decide +kernel
theorem dX7_readText_63 : decode cX7_readText 63 = .ok (.invokevirtual 61, 3) := by decide +kernel
theorem dX7_readText_66 : decode cX7_readText 66 = .ok (.ifCond .eq 12, 3) := by decide +kernel
theorem dX7_readText_69 : decode cX7_readText 69 = .ok (.aload_n 0, 1) := by decide +kernel
theorem dX7_readText_70 : decode cX7_readText 70 = .ok (.bipush 59, 2) := by decide +kernel
theorem dX7_readText_72 : decode cX7_readText 72 = .ok (.invokevirtual 64, 3) := by decide +kernel
theorem dX7_readText_75 : decode cX7_readText 75 = .ok (.ifCond .ne 5, 3) := by decide +kernel
theorem dX7_readText_78 : decode cX7_readText 78 = .ok (.iconst 0, 1) := by decide +kernel
theorem dX7_readText_79 : decode cX7_readText 79 = .ok (.ireturn, 1) := by decide +kernel
theorem dX7_readText_80 : decode cX7_readText 80 = .ok (.aload_n 0, 1) := by decide +kernel
theorem dX7_readText_81 : decode cX7_readText 81 = .ok (.getfield 50, 3) := by decide +kernel
theorem dX7_readText_84 : decode cX7_readText 84 = .ok (.dup, 1) := by decide +kernel
theorem dX7_readText_85 : decode cX7_readText 85 = .ok (.getfield 68, 3) := by decide +kernel
theorem dX7_readText_88 : decode cX7_readText 88 = .ok (.iconst 1, 1) := by decide +kernel
theorem dX7_readText_89 : decode cX7_readText 89 = .ok (.iadd, 1) := by decide +kernel
theorem dX7_readText_90 : decode cX7_readText 90 = .ok (.putfield 68, 3) := by decide +kernel
theorem dX7_readText_93 : decode cX7_readText 93 = .ok (.iinc 2 1, 3) := by decide +kernel
theorem dX7_readText_96 : decode cX7_readText 96 = .ok (.goto (-49), 3) := by decide +kernel
theorem dX7_readText_99 : decode cX7_readText 99 = .ok (.iconst 1, 1) := by decide +kernel
theorem dX7_readText_100 : decode cX7_readText 100 = .ok (.ireturn, 1) := by decide +kernel
theorem dX7_readLine_0 : decode cX7_readLine 0 = .ok (.aload_n 0, 1) := by decide +kernel
theorem dX7_readLine_1 : decode cX7_readLine 1 = .ok (.ldc 71, 2) := by decide +kernel
theorem dX7_readLine_3 : decode cX7_readLine 3 = .ok (.invokevirtual 73, 3) := by decide +kernel
theorem dX7_readLine_6 : decode cX7_readLine 6 = .ok (.ifCond .eq 8, 3) := by decide +kernel
theorem dX7_readLine_9 : decode cX7_readLine 9 = .ok (.aload_n 0, 1) := by decide +kernel
theorem dX7_readLine_10 : decode cX7_readLine 10 = .ok (.invokevirtual 77, 3) := by decide +kernel
theorem dX7_readLine_13 : decode cX7_readLine 13 = .ok (.ireturn, 1) := by decide +kernel
theorem dX7_readLine_14 : decode cX7_readLine 14 = .ok (.aload_n 0, 1) := by decide +kernel
theorem dX7_readLine_15 : decode cX7_readLine 15 = .ok (.ldc 80, 2) := by decide +kernel
theorem dX7_readLine_17 : decode cX7_readLine 17 = .ok (.invokevirtual 73, 3) := by decide +kernel
theorem dX7_readLine_20 : decode cX7_readLine 20 = .ok (.ifCond .eq 8, 3) := by decide +kernel
theorem dX7_readLine_23 : decode cX7_readLine 23 = .ok (.aload_n 0, 1) := by decide +kernel
theorem dX7_readLine_24 : decode cX7_readLine 24 = .ok (.invokevirtual 82, 3) := by decide +kernel
theorem dX7_readLine_27 : decode cX7_readLine 27 = .ok (.ireturn, 1) := by decide +kernel
theorem dX7_readLine_28 : decode cX7_readLine 28 = .ok (.aload_n 0, 1) := by decide +kernel
theorem dX7_readLine_29 : decode cX7_readLine 29 = .ok (.ldc 85, 2) := by decide +kernel
theorem dX7_readLine_31 : decode cX7_readLine 31 = .ok (.invokevirtual 73, 3) := by decide +kernel
theorem dX7_readLine_34 : decode cX7_readLine 34 = .ok (.ifCond .eq 8, 3) := by decide +kernel
theorem dX7_readLine_37 : decode cX7_readLine 37 = .ok (.aload_n 0, 1) := by decide +kernel
theorem dX7_readLine_38 : decode cX7_readLine 38 = .ok (.invokevirtual 87, 3) := by decide +kernel
theorem dX7_readLine_41 : decode cX7_readLine 41 = .ok (.ireturn, 1) := by decide +kernel
theorem dX7_readLine_42 : decode cX7_readLine 42 = .ok (.aload_n 0, 1) := by decide +kernel
theorem dX7_readLine_43 : decode cX7_readLine 43 = .ok (.ldc 90, 2) := by decide +kernel
theorem dX7_readLine_45 : decode cX7_readLine 45 = .ok (.invokevirtual 73, 3) := by decide +kernel
theorem dX7_readLine_48 : decode cX7_readLine 48 = .ok (.ifCond .eq 8, 3) := by decide +kernel
theorem dX7_readLine_51 : decode cX7_readLine 51 = .ok (.aload_n 0, 1) := by decide +kernel
theorem dX7_readLine_52 : decode cX7_readLine 52 = .ok (.invokevirtual 92, 3) := by decide +kernel
theorem dX7_readLine_55 : decode cX7_readLine 55 = .ok (.ireturn, 1) := by decide +kernel
theorem dX7_readLine_56 : decode cX7_readLine 56 = .ok (.aload_n 0, 1) := by decide +kernel
theorem dX7_readLine_57 : decode cX7_readLine 57 = .ok (.ldc 95, 2) := by decide +kernel
theorem dX7_readLine_59 : decode cX7_readLine 59 = .ok (.invokevirtual 73, 3) := by decide +kernel
theorem dX7_readLine_62 : decode cX7_readLine 62 = .ok (.ifCond .eq 8, 3) := by decide +kernel
theorem dX7_readLine_65 : decode cX7_readLine 65 = .ok (.aload_n 0, 1) := by decide +kernel
theorem dX7_readLine_66 : decode cX7_readLine 66 = .ok (.invokevirtual 97, 3) := by decide +kernel
theorem dX7_readLine_69 : decode cX7_readLine 69 = .ok (.ireturn, 1) := by decide +kernel
theorem dX7_readLine_70 : decode cX7_readLine 70 = .ok (.aload_n 0, 1) := by decide +kernel
theorem dX7_readLine_71 : decode cX7_readLine 71 = .ok (.iconst 2, 1) := by decide +kernel
theorem dX7_readLine_72 : decode cX7_readLine 72 = .ok (.invokevirtual 100, 3) := by decide +kernel
theorem dX7_readLine_75 : decode cX7_readLine 75 = .ok (.ireturn, 1) := by decide +kernel
theorem dX7_readWell_0 : decode cX7_readWell 0 = .ok (.aload_n 0, 1) := by decide +kernel
theorem dX7_readWell_1 : decode cX7_readWell 1 = .ok (.getfield 50, 3) := by decide +kernel
theorem dX7_readWell_4 : decode cX7_readWell 4 = .ok (.getfield 104, 3) := by decide +kernel
theorem dX7_readWell_7 : decode cX7_readWell 7 = .ok (.bipush 10, 2) := by decide +kernel
theorem dX7_readWell_9 : decode cX7_readWell 9 = .ok (.if_icmp .lt 9, 3) := by decide +kernel
theorem dX7_readWell_12 : decode cX7_readWell 12 = .ok (.aload_n 0, 1) := by decide +kernel
theorem dX7_readWell_13 : decode cX7_readWell 13 = .ok (.iconst 4, 1) := by decide +kernel
theorem dX7_readWell_14 : decode cX7_readWell 14 = .ok (.invokevirtual 100, 3) := by decide +kernel
theorem dX7_readWell_17 : decode cX7_readWell 17 = .ok (.ireturn, 1) := by decide +kernel
theorem dX7_readWell_18 : decode cX7_readWell 18 = .ok (.aload_n 0, 1) := by decide +kernel
theorem dX7_readWell_19 : decode cX7_readWell 19 = .ok (.invokevirtual 57, 3) := by decide +kernel
theorem dX7_readWell_22 : decode cX7_readWell 22 = .ok (.ifCond .eq 22, 3) := by decide +kernel
theorem dX7_readWell_25 : decode cX7_readWell 25 = .ok (.aload_n 0, 1) := by decide +kernel
theorem dX7_readWell_26 : decode cX7_readWell 26 = .ok (.ldc 107, 2) := by decide +kernel
theorem dX7_readWell_28 : decode cX7_readWell 28 = .ok (.invokevirtual 109, 3) := by decide +kernel
theorem dX7_readWell_31 : decode cX7_readWell 31 = .ok (.ifCond .eq 13, 3) := by decide +kernel
theorem dX7_readWell_34 : decode cX7_readWell 34 = .ok (.aload_n 0, 1) := by decide +kernel
theorem dX7_readWell_35 : decode cX7_readWell 35 = .ok (.iconst 2, 1) := by decide +kernel
theorem dX7_readWell_36 : decode cX7_readWell 36 = .ok (.bipush 12, 2) := by decide +kernel
theorem dX7_readWell_38 : decode cX7_readWell 38 = .ok (.invokevirtual 112, 3) := by decide +kernel
theorem dX7_readWell_41 : decode cX7_readWell 41 = .ok (.ifCond .ne 5, 3) := by decide +kernel
theorem dX7_readWell_44 : decode cX7_readWell 44 = .ok (.iconst 0, 1) := by decide +kernel
theorem dX7_readWell_45 : decode cX7_readWell 45 = .ok (.ireturn, 1) := by decide +kernel
theorem dX7_readWell_46 : decode cX7_readWell 46 = .ok (.aload_n 0, 1) := by decide +kernel
theorem dX7_readWell_47 : decode cX7_readWell 47 = .ok (.getfield 40, 3) := by decide +kernel
theorem dX7_readWell_50 : decode cX7_readWell 50 = .ok (.istore_n 1, 1) := by decide +kernel
theorem dX7_readWell_51 : decode cX7_readWell 51 = .ok (.aload_n 0, 1) := by decide +kernel
theorem dX7_readWell_52 : decode cX7_readWell 52 = .ok (.ldc 116, 2) := by decide +kernel
theorem dX7_readWell_54 : decode cX7_readWell 54 = .ok (.invokevirtual 109, 3) := by decide +kernel
theorem dX7_readWell_57 : decode cX7_readWell 57 = .ok (.ifCond .eq 12, 3) := by decide +kernel
theorem dX7_readWell_60 : decode cX7_readWell 60 = .ok (.aload_n 0, 1) := by decide +kernel
theorem dX7_readWell_61 : decode cX7_readWell 61 = .ok (.iconst 1, 1) := by decide +kernel
theorem dX7_readWell_62 : decode cX7_readWell 62 = .ok (.iload_n 1, 1) := by decide +kernel
theorem dX7_readWell_63 : decode cX7_readWell 63 = .ok (.invokevirtual 112, 3) := by decide +kernel
theorem dX7_readWell_66 : decode cX7_readWell 66 = .ok (.ifCond .ne 5, 3) := by decide +kernel
theorem dX7_readWell_69 : decode cX7_readWell 69 = .ok (.iconst 0, 1) := by decide +kernel
theorem dX7_readWell_70 : decode cX7_readWell 70 = .ok (.ireturn, 1) := by decide +kernel
theorem dX7_readWell_71 : decode cX7_readWell 71 = .ok (.aload_n 0, 1) := by decide +kernel
theorem dX7_readWell_72 : decode cX7_readWell 72 = .ok (.getfield 40, 3) := by decide +kernel
theorem dX7_readWell_75 : decode cX7_readWell 75 = .ok (.istore_n 2, 1) := by decide +kernel
theorem dX7_readWell_76 : decode cX7_readWell 76 = .ok (.aload_n 0, 1) := by decide +kernel
theorem dX7_readWell_77 : decode cX7_readWell 77 = .ok (.ldc 118, 2) := by decide +kernel
theorem dX7_readWell_79 : decode cX7_readWell 79 = .ok (.iconst 0, 1) := by decide +kernel
theorem dX7_readWell_80 : decode cX7_readWell 80 = .ok (.iload_n 1, 1) := by decide +kernel
theorem dX7_readWell_81 : decode cX7_readWell 81 = .ok (.iconst 1, 1) := by decide +kernel
theorem dX7_readWell_82 : decode cX7_readWell 82 = .ok (.isub, 1) := by decide +kernel
theorem dX7_readWell_83 : decode cX7_readWell 83 = .ok (.iconst 0, 1) := by decide +kernel
theorem dX7_readWell_84 : decode cX7_readWell 84 = .ok (.invokevirtual 120, 3) := by decide +kernel
theorem dX7_readWell_87 : decode cX7_readWell 87 = .ok (.ifCond .ne 5, 3) := by decide +kernel
theorem dX7_readWell_90 : decode cX7_readWell 90 = .ok (.iconst 0, 1) := by decide +kernel
theorem dX7_readWell_91 : decode cX7_readWell 91 = .ok (.ireturn, 1) := by decide +kernel
theorem dX7_readWell_92 : decode cX7_readWell 92 = .ok (.aload_n 0, 1) := by decide +kernel
theorem dX7_readWell_93 : decode cX7_readWell 93 = .ok (.getfield 40, 3) := by decide +kernel
theorem dX7_readWell_96 : decode cX7_readWell 96 = .ok (.istore_n 3, 1) := by decide +kernel
theorem dX7_readWell_97 : decode cX7_readWell 97 = .ok (.aload_n 0, 1) := by decide +kernel
theorem dX7_readWell_98 : decode cX7_readWell 98 = .ok (.ldc 124, 2) := by decide +kernel
theorem dX7_readWell_100 : decode cX7_readWell 100 = .ok (.iconst 1, 1) := by decide +kernel
theorem dX7_readWell_101 : decode cX7_readWell 101 = .ok (.bipush 99, 2) := by decide +kernel
theorem dX7_readWell_103 : decode cX7_readWell 103 = .ok (.bipush 10, 2) := by decide +kernel
theorem dX7_readWell_105 : decode cX7_readWell 105 = .ok (.invokevirtual 120, 3) := by decide +kernel
theorem dX7_readWell_108 : decode cX7_readWell 108 = .ok (.ifCond .ne 5, 3) := by decide +kernel
theorem dX7_readWell_111 : decode cX7_readWell 111 = .ok (.iconst 0, 1) := by decide +kernel
theorem dX7_readWell_112 : decode cX7_readWell 112 = .ok (.ireturn, 1) := by decide +kernel
theorem dX7_readWell_113 : decode cX7_readWell 113 = .ok (.aload_n 0, 1) := by decide +kernel
theorem dX7_readWell_114 : decode cX7_readWell 114 = .ok (.getfield 40, 3) := by decide +kernel
theorem dX7_readWell_117 : decode cX7_readWell 117 = .ok (.istore 4, 2) := by decide +kernel
theorem dX7_readWell_119 : decode cX7_readWell 119 = .ok (.aload_n 0, 1) := by decide +kernel
theorem dX7_readWell_120 : decode cX7_readWell 120 = .ok (.ldc 126, 2) := by decide +kernel
theorem dX7_readWell_122 : decode cX7_readWell 122 = .ok (.iconst 0, 1) := by decide +kernel
theorem dX7_readWell_123 : decode cX7_readWell 123 = .ok (.iload 4, 2) := by decide +kernel
theorem dX7_readWell_125 : decode cX7_readWell 125 = .ok (.iload 4, 2) := by decide +kernel
theorem dX7_readWell_127 : decode cX7_readWell 127 = .ok (.invokevirtual 120, 3) := by decide +kernel
theorem dX7_readWell_130 : decode cX7_readWell 130 = .ok (.ifCond .ne 5, 3) := by decide +kernel
theorem dX7_readWell_133 : decode cX7_readWell 133 = .ok (.iconst 0, 1) := by decide +kernel
theorem dX7_readWell_134 : decode cX7_readWell 134 = .ok (.ireturn, 1) := by decide +kernel
theorem dX7_readWell_135 : decode cX7_readWell 135 = .ok (.aload_n 0, 1) := by decide +kernel
theorem dX7_readWell_136 : decode cX7_readWell 136 = .ok (.getfield 50, 3) := by decide +kernel
theorem dX7_readWell_139 : decode cX7_readWell 139 = .ok (.iload_n 1, 1) := by decide +kernel
theorem dX7_readWell_140 : decode cX7_readWell 140 = .ok (.iload_n 2, 1) := by decide +kernel
theorem dX7_readWell_141 : decode cX7_readWell 141 = .ok (.iload_n 3, 1) := by decide +kernel
theorem dX7_readWell_142 : decode cX7_readWell 142 = .ok (.iload 4, 2) := by decide +kernel
theorem dX7_readWell_144 : decode cX7_readWell 144 = .ok (.aload_n 0, 1) := by decide +kernel
theorem dX7_readWell_145 : decode cX7_readWell 145 = .ok (.getfield 40, 3) := by decide +kernel
theorem dX7_readWell_148 : decode cX7_readWell 148 = .ok (.invokevirtual 128, 3) := by decide +kernel
theorem dX7_readWell_151 : decode cX7_readWell 151 = .ok (.iconst 1, 1) := by decide +kernel
theorem dX7_readWell_152 : decode cX7_readWell 152 = .ok (.ireturn, 1) := by decide +kernel
theorem dX7_readChoice_0 : decode cX7_readChoice 0 = .ok (.aload_n 0, 1) := by decide +kernel
theorem dX7_readChoice_1 : decode cX7_readChoice 1 = .ok (.aload_n 1, 1) := by decide +kernel
theorem dX7_readChoice_2 : decode cX7_readChoice 2 = .ok (.invokevirtual 73, 3) := by decide +kernel
theorem dX7_readChoice_5 : decode cX7_readChoice 5 = .ok (.ifCond .eq 25, 3) := by decide +kernel
theorem dX7_readChoice_8 : decode cX7_readChoice 8 = .ok (.aload_n 0, 1) := by decide +kernel
theorem dX7_readChoice_9 : decode cX7_readChoice 9 = .ok (.invokevirtual 57, 3) := by decide +kernel
theorem dX7_readChoice_12 : decode cX7_readChoice 12 = .ok (.ifCond .eq 16, 3) := by decide +kernel
theorem dX7_readChoice_15 : decode cX7_readChoice 15 = .ok (.aload_n 0, 1) := by decide +kernel
theorem dX7_readChoice_16 : decode cX7_readChoice 16 = .ok (.iload_n 2, 1) := by decide +kernel
theorem dX7_readChoice_17 : decode cX7_readChoice 17 = .ok (.iload_n 3, 1) := by decide +kernel
theorem dX7_readChoice_18 : decode cX7_readChoice 18 = .ok (.invokevirtual 112, 3) := by decide +kernel
theorem dX7_readChoice_21 : decode cX7_readChoice 21 = .ok (.ifCond .eq 7, 3) := by decide +kernel
theorem dX7_readChoice_24 : decode cX7_readChoice 24 = .ok (.iconst 1, 1) := by decide +kernel
theorem dX7_readChoice_25 : decode cX7_readChoice 25 = .ok (.goto 4, 3) := by decide +kernel
theorem dX7_readChoice_28 : decode cX7_readChoice 28 = .ok (.iconst 0, 1) := by decide +kernel
theorem dX7_readChoice_29 : decode cX7_readChoice 29 = .ok (.ireturn, 1) := by decide +kernel
theorem dX7_readChoice_30 : decode cX7_readChoice 30 = .ok (.aload_n 0, 1) := by decide +kernel
theorem dX7_readChoice_31 : decode cX7_readChoice 31 = .ok (.iload 4, 2) := by decide +kernel
theorem dX7_readChoice_33 : decode cX7_readChoice 33 = .ok (.putfield 40, 3) := by decide +kernel
theorem dX7_readChoice_36 : decode cX7_readChoice 36 = .ok (.iconst 1, 1) := by decide +kernel
theorem dX7_readChoice_37 : decode cX7_readChoice 37 = .ok (.ireturn, 1) := by decide +kernel
theorem dX7_readBeside_0 : decode cX7_readBeside 0 = .ok (.aload_n 0, 1) := by decide +kernel
theorem dX7_readBeside_1 : decode cX7_readBeside 1 = .ok (.invokevirtual 57, 3) := by decide +kernel
theorem dX7_readBeside_4 : decode cX7_readBeside 4 = .ok (.ifCond .eq 11, 3) := by decide +kernel
theorem dX7_readBeside_7 : decode cX7_readBeside 7 = .ok (.aload_n 0, 1) := by decide +kernel
theorem dX7_readBeside_8 : decode cX7_readBeside 8 = .ok (.iconst (-1), 1) := by decide +kernel
theorem dX7_readBeside_9 : decode cX7_readBeside 9 = .ok (.invokevirtual 132, 3) := by decide +kernel
theorem dX7_readBeside_12 : decode cX7_readBeside 12 = .ok (.ifCond .ne 5, 3) := by decide +kernel
theorem dX7_readBeside_15 : decode cX7_readBeside 15 = .ok (.iconst 0, 1) := by decide +kernel
theorem dX7_readBeside_16 : decode cX7_readBeside 16 = .ok (.ireturn, 1) := by decide +kernel
theorem dX7_readBeside_17 : decode cX7_readBeside 17 = .ok (.aload_n 0, 1) := by decide +kernel
theorem dX7_readBeside_18 : decode cX7_readBeside 18 = .ok (.getfield 40, 3) := by decide +kernel
theorem dX7_readBeside_21 : decode cX7_readBeside 21 = .ok (.istore_n 1, 1) := by decide +kernel
theorem dX7_readBeside_22 : decode cX7_readBeside 22 = .ok (.aload_n 0, 1) := by decide +kernel
theorem dX7_readBeside_23 : decode cX7_readBeside 23 = .ok (.iload_n 1, 1) := by decide +kernel
theorem dX7_readBeside_24 : decode cX7_readBeside 24 = .ok (.invokevirtual 132, 3) := by decide +kernel
theorem dX7_readBeside_27 : decode cX7_readBeside 27 = .ok (.ifCond .ne 5, 3) := by decide +kernel
theorem dX7_readBeside_30 : decode cX7_readBeside 30 = .ok (.iconst 0, 1) := by decide +kernel
theorem dX7_readBeside_31 : decode cX7_readBeside 31 = .ok (.ireturn, 1) := by decide +kernel
theorem dX7_readBeside_32 : decode cX7_readBeside 32 = .ok (.aload_n 0, 1) := by decide +kernel
theorem dX7_readBeside_33 : decode cX7_readBeside 33 = .ok (.getfield 50, 3) := by decide +kernel
theorem dX7_readBeside_36 : decode cX7_readBeside 36 = .ok (.iload_n 1, 1) := by decide +kernel
theorem dX7_readBeside_37 : decode cX7_readBeside 37 = .ok (.aload_n 0, 1) := by decide +kernel
theorem dX7_readBeside_38 : decode cX7_readBeside 38 = .ok (.getfield 40, 3) := by decide +kernel
theorem dX7_readBeside_41 : decode cX7_readBeside 41 = .ok (.invokevirtual 135, 3) := by decide +kernel
theorem dX7_readBeside_44 : decode cX7_readBeside 44 = .ok (.iconst 1, 1) := by decide +kernel
theorem dX7_readBeside_45 : decode cX7_readBeside 45 = .ok (.ireturn, 1) := by decide +kernel
theorem dX7_readHouse_0 : decode cX7_readHouse 0 = .ok (.aload_n 0, 1) := by decide +kernel
theorem dX7_readHouse_1 : decode cX7_readHouse 1 = .ok (.getfield 50, 3) := by decide +kernel
theorem dX7_readHouse_4 : decode cX7_readHouse 4 = .ok (.getfield 139, 3) := by decide +kernel
theorem dX7_readHouse_7 : decode cX7_readHouse 7 = .ok (.bipush 6, 2) := by decide +kernel
theorem dX7_readHouse_9 : decode cX7_readHouse 9 = .ok (.if_icmp .lt 9, 3) := by decide +kernel
theorem dX7_readHouse_12 : decode cX7_readHouse 12 = .ok (.aload_n 0, 1) := by decide +kernel
theorem dX7_readHouse_13 : decode cX7_readHouse 13 = .ok (.iconst 4, 1) := by decide +kernel
theorem dX7_readHouse_14 : decode cX7_readHouse 14 = .ok (.invokevirtual 100, 3) := by decide +kernel
theorem dX7_readHouse_17 : decode cX7_readHouse 17 = .ok (.ireturn, 1) := by decide +kernel
theorem dX7_readHouse_18 : decode cX7_readHouse 18 = .ok (.aload_n 0, 1) := by decide +kernel
theorem dX7_readHouse_19 : decode cX7_readHouse 19 = .ok (.invokevirtual 57, 3) := by decide +kernel
theorem dX7_readHouse_22 : decode cX7_readHouse 22 = .ok (.ifCond .eq 13, 3) := by decide +kernel
theorem dX7_readHouse_25 : decode cX7_readHouse 25 = .ok (.aload_n 0, 1) := by decide +kernel
theorem dX7_readHouse_26 : decode cX7_readHouse 26 = .ok (.iconst 1, 1) := by decide +kernel
theorem dX7_readHouse_27 : decode cX7_readHouse 27 = .ok (.bipush 99, 2) := by decide +kernel
theorem dX7_readHouse_29 : decode cX7_readHouse 29 = .ok (.invokevirtual 112, 3) := by decide +kernel
theorem dX7_readHouse_32 : decode cX7_readHouse 32 = .ok (.ifCond .ne 5, 3) := by decide +kernel
theorem dX7_readHouse_35 : decode cX7_readHouse 35 = .ok (.iconst 0, 1) := by decide +kernel
theorem dX7_readHouse_36 : decode cX7_readHouse 36 = .ok (.ireturn, 1) := by decide +kernel
theorem dX7_readHouse_37 : decode cX7_readHouse 37 = .ok (.aload_n 0, 1) := by decide +kernel
theorem dX7_readHouse_38 : decode cX7_readHouse 38 = .ok (.getfield 40, 3) := by decide +kernel
theorem dX7_readHouse_41 : decode cX7_readHouse 41 = .ok (.istore_n 1, 1) := by decide +kernel
theorem dX7_readHouse_42 : decode cX7_readHouse 42 = .ok (.aload_n 0, 1) := by decide +kernel
theorem dX7_readHouse_43 : decode cX7_readHouse 43 = .ok (.ldc 142, 2) := by decide +kernel
theorem dX7_readHouse_45 : decode cX7_readHouse 45 = .ok (.invokevirtual 109, 3) := by decide +kernel
theorem dX7_readHouse_48 : decode cX7_readHouse 48 = .ok (.ifCond .eq 11, 3) := by decide +kernel
theorem dX7_readHouse_51 : decode cX7_readHouse 51 = .ok (.aload_n 0, 1) := by decide +kernel
theorem dX7_readHouse_52 : decode cX7_readHouse 52 = .ok (.iconst (-1), 1) := by decide +kernel
theorem dX7_readHouse_53 : decode cX7_readHouse 53 = .ok (.invokevirtual 132, 3) := by decide +kernel
theorem dX7_readHouse_56 : decode cX7_readHouse 56 = .ok (.ifCond .ne 5, 3) := by decide +kernel
theorem dX7_readHouse_59 : decode cX7_readHouse 59 = .ok (.iconst 0, 1) := by decide +kernel
theorem dX7_readHouse_60 : decode cX7_readHouse 60 = .ok (.ireturn, 1) := by decide +kernel
theorem dX7_readHouse_61 : decode cX7_readHouse 61 = .ok (.iconst 1, 1) := by decide +kernel
theorem dX7_readHouse_62 : decode cX7_readHouse 62 = .ok (.aload_n 0, 1) := by decide +kernel
theorem dX7_readHouse_63 : decode cX7_readHouse 63 = .ok (.getfield 40, 3) := by decide +kernel
theorem dX7_readHouse_66 : decode cX7_readHouse 66 = .ok (.ishl, 1) := by decide +kernel
theorem dX7_readHouse_67 : decode cX7_readHouse 67 = .ok (.istore_n 2, 1) := by decide +kernel
theorem dX7_readHouse_68 : decode cX7_readHouse 68 = .ok (.iconst 0, 1) := by decide +kernel
theorem dX7_readHouse_69 : decode cX7_readHouse 69 = .ok (.istore_n 3, 1) := by decide +kernel
theorem dX7_readHouse_70 : decode cX7_readHouse 70 = .ok (.iload_n 3, 1) := by decide +kernel
theorem dX7_readHouse_71 : decode cX7_readHouse 71 = .ok (.sipush 900, 3) := by decide +kernel
theorem dX7_readHouse_74 : decode cX7_readHouse 74 = .ok (.if_icmp .ge 36, 3) := by decide +kernel
theorem dX7_readHouse_77 : decode cX7_readHouse 77 = .ok (.aload_n 0, 1) := by decide +kernel
theorem dX7_readHouse_78 : decode cX7_readHouse 78 = .ok (.getfield 34, 3) := by decide +kernel
theorem dX7_readHouse_81 : decode cX7_readHouse 81 = .ok (.iconst 1, 1) := by decide +kernel
theorem dX7_readHouse_82 : decode cX7_readHouse 82 = .ok (.if_icmp .ne 28, 3) := by decide +kernel
theorem dX7_readHouse_85 : decode cX7_readHouse 85 = .ok (.aload_n 0, 1) := by decide +kernel
theorem dX7_readHouse_86 : decode cX7_readHouse 86 = .ok (.iconst (-1), 1) := by decide +kernel
theorem dX7_readHouse_87 : decode cX7_readHouse 87 = .ok (.invokevirtual 132, 3) := by decide +kernel
theorem dX7_readHouse_90 : decode cX7_readHouse 90 = .ok (.ifCond .ne 5, 3) := by decide +kernel
theorem dX7_readHouse_93 : decode cX7_readHouse 93 = .ok (.iconst 0, 1) := by decide +kernel
theorem dX7_readHouse_94 : decode cX7_readHouse 94 = .ok (.ireturn, 1) := by decide +kernel
theorem dX7_readHouse_95 : decode cX7_readHouse 95 = .ok (.iload_n 2, 1) := by decide +kernel
theorem dX7_readHouse_96 : decode cX7_readHouse 96 = .ok (.iconst 1, 1) := by decide +kernel
theorem dX7_readHouse_97 : decode cX7_readHouse 97 = .ok (.aload_n 0, 1) := by decide +kernel
theorem dX7_readHouse_98 : decode cX7_readHouse 98 = .ok (.getfield 40, 3) := by decide +kernel
theorem dX7_readHouse_101 : decode cX7_readHouse 101 = .ok (.ishl, 1) := by decide +kernel
theorem dX7_readHouse_102 : decode cX7_readHouse 102 = .ok (.ior, 1) := by decide +kernel
theorem dX7_readHouse_103 : decode cX7_readHouse 103 = .ok (.istore_n 2, 1) := by decide +kernel
theorem dX7_readHouse_104 : decode cX7_readHouse 104 = .ok (.iinc 3 1, 3) := by decide +kernel
theorem dX7_readHouse_107 : decode cX7_readHouse 107 = .ok (.goto (-37), 3) := by decide +kernel
theorem dX7_readHouse_110 : decode cX7_readHouse 110 = .ok (.aload_n 0, 1) := by decide +kernel
theorem dX7_readHouse_111 : decode cX7_readHouse 111 = .ok (.getfield 50, 3) := by decide +kernel
theorem dX7_readHouse_114 : decode cX7_readHouse 114 = .ok (.iload_n 1, 1) := by decide +kernel
theorem dX7_readHouse_115 : decode cX7_readHouse 115 = .ok (.iload_n 2, 1) := by decide +kernel
theorem dX7_readHouse_116 : decode cX7_readHouse 116 = .ok (.invokevirtual 144, 3) := by decide +kernel
theorem dX7_readHouse_119 : decode cX7_readHouse 119 = .ok (.iconst 1, 1) := by decide +kernel
theorem dX7_readHouse_120 : decode cX7_readHouse 120 = .ok (.ireturn, 1) := by decide +kernel
theorem dX7_readHour_0 : decode cX7_readHour 0 = .ok (.aload_n 0, 1) := by decide +kernel
theorem dX7_readHour_1 : decode cX7_readHour 1 = .ok (.invokevirtual 57, 3) := by decide +kernel
theorem dX7_readHour_4 : decode cX7_readHour 4 = .ok (.ifCond .eq 14, 3) := by decide +kernel
theorem dX7_readHour_7 : decode cX7_readHour 7 = .ok (.aload_n 0, 1) := by decide +kernel
theorem dX7_readHour_8 : decode cX7_readHour 8 = .ok (.iconst 0, 1) := by decide +kernel
theorem dX7_readHour_9 : decode cX7_readHour 9 = .ok (.sipush 999, 3) := by decide +kernel
theorem dX7_readHour_12 : decode cX7_readHour 12 = .ok (.invokevirtual 112, 3) := by decide +kernel
theorem dX7_readHour_15 : decode cX7_readHour 15 = .ok (.ifCond .ne 5, 3) := by decide +kernel
theorem dX7_readHour_18 : decode cX7_readHour 18 = .ok (.iconst 0, 1) := by decide +kernel
theorem dX7_readHour_19 : decode cX7_readHour 19 = .ok (.ireturn, 1) := by decide +kernel
theorem dX7_readHour_20 : decode cX7_readHour 20 = .ok (.aload_n 0, 1) := by decide +kernel
theorem dX7_readHour_21 : decode cX7_readHour 21 = .ok (.getfield 50, 3) := by decide +kernel
theorem dX7_readHour_24 : decode cX7_readHour 24 = .ok (.aload_n 0, 1) := by decide +kernel
theorem dX7_readHour_25 : decode cX7_readHour 25 = .ok (.getfield 40, 3) := by decide +kernel
theorem dX7_readHour_28 : decode cX7_readHour 28 = .ok (.putfield 147, 3) := by decide +kernel
theorem dX7_readHour_31 : decode cX7_readHour 31 = .ok (.iconst 1, 1) := by decide +kernel
theorem dX7_readHour_32 : decode cX7_readHour 32 = .ok (.ireturn, 1) := by decide +kernel
theorem dX7_readLaw_0 : decode cX7_readLaw 0 = .ok (.aload_n 0, 1) := by decide +kernel
theorem dX7_readLaw_1 : decode cX7_readLaw 1 = .ok (.iconst 0, 1) := by decide +kernel
theorem dX7_readLaw_2 : decode cX7_readLaw 2 = .ok (.putfield 47, 3) := by decide +kernel
theorem dX7_readLaw_5 : decode cX7_readLaw 5 = .ok (.aload_n 0, 1) := by decide +kernel
theorem dX7_readLaw_6 : decode cX7_readLaw 6 = .ok (.invokevirtual 57, 3) := by decide +kernel
theorem dX7_readLaw_9 : decode cX7_readLaw 9 = .ok (.ifCond .eq 11, 3) := by decide +kernel
theorem dX7_readLaw_12 : decode cX7_readLaw 12 = .ok (.aload_n 0, 1) := by decide +kernel
theorem dX7_readLaw_13 : decode cX7_readLaw 13 = .ok (.iconst 0, 1) := by decide +kernel
theorem dX7_readLaw_14 : decode cX7_readLaw 14 = .ok (.invokevirtual 150, 3) := by decide +kernel
theorem dX7_readLaw_17 : decode cX7_readLaw 17 = .ok (.ifCond .ne 5, 3) := by decide +kernel
theorem dX7_readLaw_20 : decode cX7_readLaw 20 = .ok (.iconst 0, 1) := by decide +kernel
theorem dX7_readLaw_21 : decode cX7_readLaw 21 = .ok (.ireturn, 1) := by decide +kernel
theorem dX7_readLaw_22 : decode cX7_readLaw 22 = .ok (.aload_n 0, 1) := by decide +kernel
theorem dX7_readLaw_23 : decode cX7_readLaw 23 = .ok (.getfield 47, 3) := by decide +kernel
theorem dX7_readLaw_26 : decode cX7_readLaw 26 = .ok (.iconst 0, 1) := by decide +kernel
theorem dX7_readLaw_27 : decode cX7_readLaw 27 = .ok (.invokestatic 153, 3) := by decide +kernel
theorem dX7_readLaw_30 : decode cX7_readLaw 30 = .ok (.newarray .int, 2) := by decide +kernel
theorem dX7_readLaw_32 : decode cX7_readLaw 32 = .ok (.astore_n 1, 1) := by decide +kernel
theorem dX7_readLaw_33 : decode cX7_readLaw 33 = .ok (.iconst 0, 1) := by decide +kernel
theorem dX7_readLaw_34 : decode cX7_readLaw 34 = .ok (.istore_n 2, 1) := by decide +kernel
theorem dX7_readLaw_35 : decode cX7_readLaw 35 = .ok (.iload_n 2, 1) := by decide +kernel
theorem dX7_readLaw_36 : decode cX7_readLaw 36 = .ok (.aload_n 1, 1) := by decide +kernel
theorem dX7_readLaw_37 : decode cX7_readLaw 37 = .ok (.arraylength, 1) := by decide +kernel
theorem dX7_readLaw_38 : decode cX7_readLaw 38 = .ok (.if_icmp .ge 27, 3) := by decide +kernel
theorem dX7_readLaw_41 : decode cX7_readLaw 41 = .ok (.iload_n 2, 1) := by decide +kernel
theorem dX7_readLaw_42 : decode cX7_readLaw 42 = .ok (.aload_n 0, 1) := by decide +kernel
theorem dX7_readLaw_43 : decode cX7_readLaw 43 = .ok (.getfield 43, 3) := by decide +kernel
theorem dX7_readLaw_46 : decode cX7_readLaw 46 = .ok (.arraylength, 1) := by decide +kernel
theorem dX7_readLaw_47 : decode cX7_readLaw 47 = .ok (.if_icmp .ge 18, 3) := by decide +kernel
theorem dX7_readLaw_50 : decode cX7_readLaw 50 = .ok (.aload_n 1, 1) := by decide +kernel
theorem dX7_readLaw_51 : decode cX7_readLaw 51 = .ok (.iload_n 2, 1) := by decide +kernel
theorem dX7_readLaw_52 : decode cX7_readLaw 52 = .ok (.aload_n 0, 1) := by decide +kernel
theorem dX7_readLaw_53 : decode cX7_readLaw 53 = .ok (.getfield 43, 3) := by decide +kernel
theorem dX7_readLaw_56 : decode cX7_readLaw 56 = .ok (.iload_n 2, 1) := by decide +kernel
theorem dX7_readLaw_57 : decode cX7_readLaw 57 = .ok (.iaload, 1) := by decide +kernel
theorem dX7_readLaw_58 : decode cX7_readLaw 58 = .ok (.iastore, 1) := by decide +kernel
theorem dX7_readLaw_59 : decode cX7_readLaw 59 = .ok (.iinc 2 1, 3) := by decide +kernel
theorem dX7_readLaw_62 : decode cX7_readLaw 62 = .ok (.goto (-27), 3) := by decide +kernel
theorem dX7_readLaw_65 : decode cX7_readLaw 65 = .ok (.aload_n 0, 1) := by decide +kernel
theorem dX7_readLaw_66 : decode cX7_readLaw 66 = .ok (.getfield 50, 3) := by decide +kernel
theorem dX7_readLaw_69 : decode cX7_readLaw 69 = .ok (.aload_n 1, 1) := by decide +kernel
theorem dX7_readLaw_70 : decode cX7_readLaw 70 = .ok (.putfield 159, 3) := by decide +kernel
theorem dX7_readLaw_73 : decode cX7_readLaw 73 = .ok (.iconst 1, 1) := by decide +kernel
theorem dX7_readLaw_74 : decode cX7_readLaw 74 = .ok (.ireturn, 1) := by decide +kernel
theorem dX7_readTruth_0 : decode cX7_readTruth 0 = .ok (.aload_n 0, 1) := by decide +kernel
theorem dX7_readTruth_1 : decode cX7_readTruth 1 = .ok (.iload_n 1, 1) := by decide +kernel
theorem dX7_readTruth_2 : decode cX7_readTruth 2 = .ok (.invokevirtual 162, 3) := by decide +kernel
theorem dX7_readTruth_5 : decode cX7_readTruth 5 = .ok (.ifCond .ne 5, 3) := by decide +kernel
theorem dX7_readTruth_8 : decode cX7_readTruth 8 = .ok (.iconst 0, 1) := by decide +kernel
theorem dX7_readTruth_9 : decode cX7_readTruth 9 = .ok (.ireturn, 1) := by decide +kernel
theorem dX7_readTruth_10 : decode cX7_readTruth 10 = .ok (.iconst 0, 1) := by decide +kernel
theorem dX7_readTruth_11 : decode cX7_readTruth 11 = .ok (.istore_n 2, 1) := by decide +kernel
theorem dX7_readTruth_12 : decode cX7_readTruth 12 = .ok (.iload_n 2, 1) := by decide +kernel
theorem dX7_readTruth_13 : decode cX7_readTruth 13 = .ok (.sipush 900, 3) := by decide +kernel
theorem dX7_readTruth_16 : decode cX7_readTruth 16 = .ok (.if_icmp .ge 42, 3) := by decide +kernel
theorem dX7_readTruth_19 : decode cX7_readTruth 19 = .ok (.aload_n 0, 1) := by decide +kernel
theorem dX7_readTruth_20 : decode cX7_readTruth 20 = .ok (.ldc 165, 2) := by decide +kernel
theorem dX7_readTruth_22 : decode cX7_readTruth 22 = .ok (.invokevirtual 73, 3) := by decide +kernel
theorem dX7_readTruth_25 : decode cX7_readTruth 25 = .ok (.ifCond .eq 33, 3) := by decide +kernel
theorem dX7_readTruth_28 : decode cX7_readTruth 28 = .ok (.aload_n 0, 1) := by decide +kernel
theorem dX7_readTruth_29 : decode cX7_readTruth 29 = .ok (.invokevirtual 57, 3) := by decide +kernel
theorem dX7_readTruth_32 : decode cX7_readTruth 32 = .ok (.ifCond .eq 11, 3) := by decide +kernel
theorem dX7_readTruth_35 : decode cX7_readTruth 35 = .ok (.aload_n 0, 1) := by decide +kernel
theorem dX7_readTruth_36 : decode cX7_readTruth 36 = .ok (.iload_n 1, 1) := by decide +kernel
theorem dX7_readTruth_37 : decode cX7_readTruth 37 = .ok (.invokevirtual 162, 3) := by decide +kernel
theorem dX7_readTruth_40 : decode cX7_readTruth 40 = .ok (.ifCond .ne 5, 3) := by decide +kernel
theorem dX7_readTruth_43 : decode cX7_readTruth 43 = .ok (.iconst 0, 1) := by decide +kernel
theorem dX7_readTruth_44 : decode cX7_readTruth 44 = .ok (.ireturn, 1) := by decide +kernel
theorem dX7_readTruth_45 : decode cX7_readTruth 45 = .ok (.aload_n 0, 1) := by decide +kernel
theorem dX7_readTruth_46 : decode cX7_readTruth 46 = .ok (.sipush 2007, 3) := by decide +kernel
theorem dX7_readTruth_49 : decode cX7_readTruth 49 = .ok (.invokevirtual 167, 3) := by decide +kernel
theorem dX7_readTruth_52 : decode cX7_readTruth 52 = .ok (.iinc 2 1, 3) := by decide +kernel
theorem dX7_readTruth_55 : decode cX7_readTruth 55 = .ok (.goto (-43), 3) := by decide +kernel
theorem dX7_readTruth_58 : decode cX7_readTruth 58 = .ok (.iconst 1, 1) := by decide +kernel
theorem dX7_readTruth_59 : decode cX7_readTruth 59 = .ok (.ireturn, 1) := by decide +kernel
theorem dX7_readBoth_0 : decode cX7_readBoth 0 = .ok (.aload_n 0, 1) := by decide +kernel
theorem dX7_readBoth_1 : decode cX7_readBoth 1 = .ok (.iload_n 1, 1) := by decide +kernel
theorem dX7_readBoth_2 : decode cX7_readBoth 2 = .ok (.invokevirtual 171, 3) := by decide +kernel
theorem dX7_readBoth_5 : decode cX7_readBoth 5 = .ok (.ifCond .ne 5, 3) := by decide +kernel
theorem dX7_readBoth_8 : decode cX7_readBoth 8 = .ok (.iconst 0, 1) := by decide +kernel
theorem dX7_readBoth_9 : decode cX7_readBoth 9 = .ok (.ireturn, 1) := by decide +kernel
theorem dX7_readBoth_10 : decode cX7_readBoth 10 = .ok (.iconst 0, 1) := by decide +kernel
theorem dX7_readBoth_11 : decode cX7_readBoth 11 = .ok (.istore_n 2, 1) := by decide +kernel
theorem dX7_readBoth_12 : decode cX7_readBoth 12 = .ok (.iload_n 2, 1) := by decide +kernel
theorem dX7_readBoth_13 : decode cX7_readBoth 13 = .ok (.sipush 900, 3) := by decide +kernel
theorem dX7_readBoth_16 : decode cX7_readBoth 16 = .ok (.if_icmp .ge 42, 3) := by decide +kernel
theorem dX7_readBoth_19 : decode cX7_readBoth 19 = .ok (.aload_n 0, 1) := by decide +kernel
theorem dX7_readBoth_20 : decode cX7_readBoth 20 = .ok (.ldc 174, 2) := by decide +kernel
theorem dX7_readBoth_22 : decode cX7_readBoth 22 = .ok (.invokevirtual 73, 3) := by decide +kernel
theorem dX7_readBoth_25 : decode cX7_readBoth 25 = .ok (.ifCond .eq 33, 3) := by decide +kernel
theorem dX7_readBoth_28 : decode cX7_readBoth 28 = .ok (.aload_n 0, 1) := by decide +kernel
theorem dX7_readBoth_29 : decode cX7_readBoth 29 = .ok (.invokevirtual 57, 3) := by decide +kernel
theorem dX7_readBoth_32 : decode cX7_readBoth 32 = .ok (.ifCond .eq 11, 3) := by decide +kernel
theorem dX7_readBoth_35 : decode cX7_readBoth 35 = .ok (.aload_n 0, 1) := by decide +kernel
theorem dX7_readBoth_36 : decode cX7_readBoth 36 = .ok (.iload_n 1, 1) := by decide +kernel
theorem dX7_readBoth_37 : decode cX7_readBoth 37 = .ok (.invokevirtual 171, 3) := by decide +kernel
theorem dX7_readBoth_40 : decode cX7_readBoth 40 = .ok (.ifCond .ne 5, 3) := by decide +kernel
theorem dX7_readBoth_43 : decode cX7_readBoth 43 = .ok (.iconst 0, 1) := by decide +kernel
theorem dX7_readBoth_44 : decode cX7_readBoth 44 = .ok (.ireturn, 1) := by decide +kernel
theorem dX7_readBoth_45 : decode cX7_readBoth 45 = .ok (.aload_n 0, 1) := by decide +kernel
theorem dX7_readBoth_46 : decode cX7_readBoth 46 = .ok (.sipush 2006, 3) := by decide +kernel
theorem dX7_readBoth_49 : decode cX7_readBoth 49 = .ok (.invokevirtual 167, 3) := by decide +kernel
theorem dX7_readBoth_52 : decode cX7_readBoth 52 = .ok (.iinc 2 1, 3) := by decide +kernel
theorem dX7_readBoth_55 : decode cX7_readBoth 55 = .ok (.goto (-43), 3) := by decide +kernel
theorem dX7_readBoth_58 : decode cX7_readBoth 58 = .ok (.iconst 1, 1) := by decide +kernel
theorem dX7_readBoth_59 : decode cX7_readBoth 59 = .ok (.ireturn, 1) := by decide +kernel
theorem dX7_readUnit_0 : decode cX7_readUnit 0 = .ok (.aload_n 0, 1) := by decide +kernel
theorem dX7_readUnit_1 : decode cX7_readUnit 1 = .ok (.ldc 176, 2) := by decide +kernel
theorem dX7_readUnit_3 : decode cX7_readUnit 3 = .ok (.invokevirtual 73, 3) := by decide +kernel
theorem dX7_readUnit_6 : decode cX7_readUnit 6 = .ok (.ifCond .eq 39, 3) := by decide +kernel
theorem dX7_readUnit_9 : decode cX7_readUnit 9 = .ok (.aload_n 0, 1) := by decide +kernel
theorem dX7_readUnit_10 : decode cX7_readUnit 10 = .ok (.iload_n 1, 1) := by decide +kernel
theorem dX7_readUnit_11 : decode cX7_readUnit 11 = .ok (.invokevirtual 178, 3) := by decide +kernel
theorem dX7_readUnit_14 : decode cX7_readUnit 14 = .ok (.ifCond .eq 20, 3) := by decide +kernel
theorem dX7_readUnit_17 : decode cX7_readUnit 17 = .ok (.aload_n 0, 1) := by decide +kernel
theorem dX7_readUnit_18 : decode cX7_readUnit 18 = .ok (.invokevirtual 57, 3) := by decide +kernel
theorem dX7_readUnit_21 : decode cX7_readUnit 21 = .ok (.ifCond .eq 13, 3) := by decide +kernel
theorem dX7_readUnit_24 : decode cX7_readUnit 24 = .ok (.aload_n 0, 1) := by decide +kernel
theorem dX7_readUnit_25 : decode cX7_readUnit 25 = .ok (.iload_n 1, 1) := by decide +kernel
theorem dX7_readUnit_26 : decode cX7_readUnit 26 = .ok (.iconst 1, 1) := by decide +kernel
theorem dX7_readUnit_27 : decode cX7_readUnit 27 = .ok (.iadd, 1) := by decide +kernel
theorem dX7_readUnit_28 : decode cX7_readUnit 28 = .ok (.invokevirtual 171, 3) := by decide +kernel
theorem dX7_readUnit_31 : decode cX7_readUnit 31 = .ok (.ifCond .ne 5, 3) := by decide +kernel
theorem dX7_readUnit_34 : decode cX7_readUnit 34 = .ok (.iconst 0, 1) := by decide +kernel
theorem dX7_readUnit_35 : decode cX7_readUnit 35 = .ok (.ireturn, 1) := by decide +kernel
theorem dX7_readUnit_36 : decode cX7_readUnit 36 = .ok (.aload_n 0, 1) := by decide +kernel
theorem dX7_readUnit_37 : decode cX7_readUnit 37 = .ok (.sipush 2008, 3) := by decide +kernel
theorem dX7_readUnit_40 : decode cX7_readUnit 40 = .ok (.invokevirtual 167, 3) := by decide +kernel
theorem dX7_readUnit_43 : decode cX7_readUnit 43 = .ok (.iconst 1, 1) := by decide +kernel
theorem dX7_readUnit_44 : decode cX7_readUnit 44 = .ok (.ireturn, 1) := by decide +kernel
theorem dX7_readUnit_45 : decode cX7_readUnit 45 = .ok (.aload_n 0, 1) := by decide +kernel
theorem dX7_readUnit_46 : decode cX7_readUnit 46 = .ok (.bipush 91, 2) := by decide +kernel
theorem dX7_readUnit_48 : decode cX7_readUnit 48 = .ok (.invokevirtual 181, 3) := by decide +kernel
theorem dX7_readUnit_51 : decode cX7_readUnit 51 = .ok (.ifCond .eq 43, 3) := by decide +kernel
theorem dX7_readUnit_54 : decode cX7_readUnit 54 = .ok (.aload_n 0, 1) := by decide +kernel
theorem dX7_readUnit_55 : decode cX7_readUnit 55 = .ok (.iload_n 1, 1) := by decide +kernel
theorem dX7_readUnit_56 : decode cX7_readUnit 56 = .ok (.invokevirtual 178, 3) := by decide +kernel
theorem dX7_readUnit_59 : decode cX7_readUnit 59 = .ok (.ifCond .eq 33, 3) := by decide +kernel
theorem dX7_readUnit_62 : decode cX7_readUnit 62 = .ok (.aload_n 0, 1) := by decide +kernel
theorem dX7_readUnit_63 : decode cX7_readUnit 63 = .ok (.invokevirtual 57, 3) := by decide +kernel
theorem dX7_readUnit_66 : decode cX7_readUnit 66 = .ok (.ifCond .eq 26, 3) := by decide +kernel
theorem dX7_readUnit_69 : decode cX7_readUnit 69 = .ok (.aload_n 0, 1) := by decide +kernel
theorem dX7_readUnit_70 : decode cX7_readUnit 70 = .ok (.iload_n 1, 1) := by decide +kernel
theorem dX7_readUnit_71 : decode cX7_readUnit 71 = .ok (.iconst 1, 1) := by decide +kernel
theorem dX7_readUnit_72 : decode cX7_readUnit 72 = .ok (.iadd, 1) := by decide +kernel
theorem dX7_readUnit_73 : decode cX7_readUnit 73 = .ok (.invokevirtual 150, 3) := by decide +kernel
theorem dX7_readUnit_76 : decode cX7_readUnit 76 = .ok (.ifCond .eq 16, 3) := by decide +kernel
theorem dX7_readUnit_79 : decode cX7_readUnit 79 = .ok (.aload_n 0, 1) := by decide +kernel
theorem dX7_readUnit_80 : decode cX7_readUnit 80 = .ok (.bipush 93, 2) := by decide +kernel
theorem dX7_readUnit_82 : decode cX7_readUnit 82 = .ok (.invokevirtual 64, 3) := by decide +kernel
theorem dX7_readUnit_85 : decode cX7_readUnit 85 = .ok (.ifCond .eq 7, 3) := by decide +kernel
theorem dX7_readUnit_88 : decode cX7_readUnit 88 = .ok (.iconst 1, 1) := by decide +kernel
theorem dX7_readUnit_89 : decode cX7_readUnit 89 = .ok (.goto 4, 3) := by decide +kernel
theorem dX7_readUnit_92 : decode cX7_readUnit 92 = .ok (.iconst 0, 1) := by decide +kernel
theorem dX7_readUnit_93 : decode cX7_readUnit 93 = .ok (.ireturn, 1) := by decide +kernel
theorem dX7_readUnit_94 : decode cX7_readUnit 94 = .ok (.aload_n 0, 1) := by decide +kernel
theorem dX7_readUnit_95 : decode cX7_readUnit 95 = .ok (.iload_n 1, 1) := by decide +kernel
theorem dX7_readUnit_96 : decode cX7_readUnit 96 = .ok (.invokevirtual 184, 3) := by decide +kernel
theorem dX7_readUnit_99 : decode cX7_readUnit 99 = .ok (.ifCond .ne 5, 3) := by decide +kernel
theorem dX7_readUnit_102 : decode cX7_readUnit 102 = .ok (.iconst 0, 1) := by decide +kernel
theorem dX7_readUnit_103 : decode cX7_readUnit 103 = .ok (.ireturn, 1) := by decide +kernel
theorem dX7_readUnit_104 : decode cX7_readUnit 104 = .ok (.aload_n 0, 1) := by decide +kernel
theorem dX7_readUnit_105 : decode cX7_readUnit 105 = .ok (.invokevirtual 187, 3) := by decide +kernel
theorem dX7_readUnit_108 : decode cX7_readUnit 108 = .ok (.istore_n 2, 1) := by decide +kernel
theorem dX7_readUnit_109 : decode cX7_readUnit 109 = .ok (.iload_n 2, 1) := by decide +kernel
theorem dX7_readUnit_110 : decode cX7_readUnit 110 = .ok (.ifCond .ne 9, 3) := by decide +kernel
theorem dX7_readUnit_113 : decode cX7_readUnit 113 = .ok (.aload_n 0, 1) := by decide +kernel
theorem dX7_readUnit_114 : decode cX7_readUnit 114 = .ok (.iconst 2, 1) := by decide +kernel
theorem dX7_readUnit_115 : decode cX7_readUnit 115 = .ok (.invokevirtual 100, 3) := by decide +kernel
theorem dX7_readUnit_118 : decode cX7_readUnit 118 = .ok (.ireturn, 1) := by decide +kernel
theorem dX7_readUnit_119 : decode cX7_readUnit 119 = .ok (.aload_n 0, 1) := by decide +kernel
theorem dX7_readUnit_120 : decode cX7_readUnit 120 = .ok (.invokevirtual 57, 3) := by decide +kernel
theorem dX7_readUnit_123 : decode cX7_readUnit 123 = .ok (.ifCond .eq 11, 3) := by decide +kernel
theorem dX7_readUnit_126 : decode cX7_readUnit 126 = .ok (.aload_n 0, 1) := by decide +kernel
theorem dX7_readUnit_127 : decode cX7_readUnit 127 = .ok (.iload_n 1, 1) := by decide +kernel
theorem dX7_readUnit_128 : decode cX7_readUnit 128 = .ok (.invokevirtual 184, 3) := by decide +kernel
theorem dX7_readUnit_131 : decode cX7_readUnit 131 = .ok (.ifCond .ne 5, 3) := by decide +kernel
theorem dX7_readUnit_134 : decode cX7_readUnit 134 = .ok (.iconst 0, 1) := by decide +kernel
theorem dX7_readUnit_135 : decode cX7_readUnit 135 = .ok (.ireturn, 1) := by decide +kernel
theorem dX7_readUnit_136 : decode cX7_readUnit 136 = .ok (.aload_n 0, 1) := by decide +kernel
theorem dX7_readUnit_137 : decode cX7_readUnit 137 = .ok (.iload_n 2, 1) := by decide +kernel
theorem dX7_readUnit_138 : decode cX7_readUnit 138 = .ok (.invokevirtual 167, 3) := by decide +kernel
theorem dX7_readUnit_141 : decode cX7_readUnit 141 = .ok (.iconst 1, 1) := by decide +kernel
theorem dX7_readUnit_142 : decode cX7_readUnit 142 = .ok (.ireturn, 1) := by decide +kernel
theorem dX7_readSum_0 : decode cX7_readSum 0 = .ok (.aload_n 0, 1) := by decide +kernel
theorem dX7_readSum_1 : decode cX7_readSum 1 = .ok (.iload_n 1, 1) := by decide +kernel
theorem dX7_readSum_2 : decode cX7_readSum 2 = .ok (.invokevirtual 191, 3) := by decide +kernel
theorem dX7_readSum_5 : decode cX7_readSum 5 = .ok (.ifCond .ne 5, 3) := by decide +kernel
theorem dX7_readSum_8 : decode cX7_readSum 8 = .ok (.iconst 0, 1) := by decide +kernel
theorem dX7_readSum_9 : decode cX7_readSum 9 = .ok (.ireturn, 1) := by decide +kernel
theorem dX7_readSum_10 : decode cX7_readSum 10 = .ok (.iconst 0, 1) := by decide +kernel
theorem dX7_readSum_11 : decode cX7_readSum 11 = .ok (.istore_n 2, 1) := by decide +kernel
theorem dX7_readSum_12 : decode cX7_readSum 12 = .ok (.iload_n 2, 1) := by decide +kernel
theorem dX7_readSum_13 : decode cX7_readSum 13 = .ok (.sipush 900, 3) := by decide +kernel
theorem dX7_readSum_16 : decode cX7_readSum 16 = .ok (.if_icmp .ge 68, 3) := by decide +kernel
theorem dX7_readSum_19 : decode cX7_readSum 19 = .ok (.aload_n 0, 1) := by decide +kernel
theorem dX7_readSum_20 : decode cX7_readSum 20 = .ok (.bipush 43, 2) := by decide +kernel
theorem dX7_readSum_22 : decode cX7_readSum 22 = .ok (.invokevirtual 181, 3) := by decide +kernel
theorem dX7_readSum_25 : decode cX7_readSum 25 = .ok (.ifCond .ne 12, 3) := by decide +kernel
theorem dX7_readSum_28 : decode cX7_readSum 28 = .ok (.aload_n 0, 1) := by decide +kernel
theorem dX7_readSum_29 : decode cX7_readSum 29 = .ok (.bipush 45, 2) := by decide +kernel
theorem dX7_readSum_31 : decode cX7_readSum 31 = .ok (.invokevirtual 181, 3) := by decide +kernel
theorem dX7_readSum_34 : decode cX7_readSum 34 = .ok (.ifCond .eq 50, 3) := by decide +kernel
theorem dX7_readSum_37 : decode cX7_readSum 37 = .ok (.aload_n 0, 1) := by decide +kernel
theorem dX7_readSum_38 : decode cX7_readSum 38 = .ok (.bipush 43, 2) := by decide +kernel
theorem dX7_readSum_40 : decode cX7_readSum 40 = .ok (.invokevirtual 181, 3) := by decide +kernel
theorem dX7_readSum_43 : decode cX7_readSum 43 = .ok (.ifCond .eq 9, 3) := by decide +kernel
theorem dX7_readSum_46 : decode cX7_readSum 46 = .ok (.sipush 2000, 3) := by decide +kernel
theorem dX7_readSum_49 : decode cX7_readSum 49 = .ok (.goto 6, 3) := by decide +kernel
theorem dX7_readSum_52 : decode cX7_readSum 52 = .ok (.sipush 2001, 3) := by decide +kernel
theorem dX7_readSum_55 : decode cX7_readSum 55 = .ok (.istore_n 3, 1) := by decide +kernel
theorem dX7_readSum_56 : decode cX7_readSum 56 = .ok (.aload_n 0, 1) := by decide +kernel
theorem dX7_readSum_57 : decode cX7_readSum 57 = .ok (.invokevirtual 57, 3) := by decide +kernel
theorem dX7_readSum_60 : decode cX7_readSum 60 = .ok (.ifCond .eq 11, 3) := by decide +kernel
theorem dX7_readSum_63 : decode cX7_readSum 63 = .ok (.aload_n 0, 1) := by decide +kernel
theorem dX7_readSum_64 : decode cX7_readSum 64 = .ok (.iload_n 1, 1) := by decide +kernel
theorem dX7_readSum_65 : decode cX7_readSum 65 = .ok (.invokevirtual 191, 3) := by decide +kernel
theorem dX7_readSum_68 : decode cX7_readSum 68 = .ok (.ifCond .ne 5, 3) := by decide +kernel
theorem dX7_readSum_71 : decode cX7_readSum 71 = .ok (.iconst 0, 1) := by decide +kernel
theorem dX7_readSum_72 : decode cX7_readSum 72 = .ok (.ireturn, 1) := by decide +kernel
theorem dX7_readSum_73 : decode cX7_readSum 73 = .ok (.aload_n 0, 1) := by decide +kernel
theorem dX7_readSum_74 : decode cX7_readSum 74 = .ok (.iload_n 3, 1) := by decide +kernel
theorem dX7_readSum_75 : decode cX7_readSum 75 = .ok (.invokevirtual 167, 3) := by decide +kernel
theorem dX7_readSum_78 : decode cX7_readSum 78 = .ok (.iinc 2 1, 3) := by decide +kernel
theorem dX7_readSum_81 : decode cX7_readSum 81 = .ok (.goto (-69), 3) := by decide +kernel
theorem dX7_readSum_84 : decode cX7_readSum 84 = .ok (.iconst 1, 1) := by decide +kernel
theorem dX7_readSum_85 : decode cX7_readSum 85 = .ok (.ireturn, 1) := by decide +kernel
theorem dX7_readTerm_0 : decode cX7_readTerm 0 = .ok (.aload_n 0, 1) := by decide +kernel
theorem dX7_readTerm_1 : decode cX7_readTerm 1 = .ok (.iload_n 1, 1) := by decide +kernel
theorem dX7_readTerm_2 : decode cX7_readTerm 2 = .ok (.invokevirtual 194, 3) := by decide +kernel
theorem dX7_readTerm_5 : decode cX7_readTerm 5 = .ok (.ifCond .ne 5, 3) := by decide +kernel
theorem dX7_readTerm_8 : decode cX7_readTerm 8 = .ok (.iconst 0, 1) := by decide +kernel
theorem dX7_readTerm_9 : decode cX7_readTerm 9 = .ok (.ireturn, 1) := by decide +kernel
theorem dX7_readTerm_10 : decode cX7_readTerm 10 = .ok (.iconst 0, 1) := by decide +kernel
theorem dX7_readTerm_11 : decode cX7_readTerm 11 = .ok (.istore_n 2, 1) := by decide +kernel
theorem dX7_readTerm_12 : decode cX7_readTerm 12 = .ok (.iload_n 2, 1) := by decide +kernel
theorem dX7_readTerm_13 : decode cX7_readTerm 13 = .ok (.sipush 900, 3) := by decide +kernel
theorem dX7_readTerm_16 : decode cX7_readTerm 16 = .ok (.if_icmp .ge 42, 3) := by decide +kernel
theorem dX7_readTerm_19 : decode cX7_readTerm 19 = .ok (.aload_n 0, 1) := by decide +kernel
theorem dX7_readTerm_20 : decode cX7_readTerm 20 = .ok (.bipush 42, 2) := by decide +kernel
theorem dX7_readTerm_22 : decode cX7_readTerm 22 = .ok (.invokevirtual 181, 3) := by decide +kernel
theorem dX7_readTerm_25 : decode cX7_readTerm 25 = .ok (.ifCond .eq 33, 3) := by decide +kernel
theorem dX7_readTerm_28 : decode cX7_readTerm 28 = .ok (.aload_n 0, 1) := by decide +kernel
theorem dX7_readTerm_29 : decode cX7_readTerm 29 = .ok (.invokevirtual 57, 3) := by decide +kernel
theorem dX7_readTerm_32 : decode cX7_readTerm 32 = .ok (.ifCond .eq 11, 3) := by decide +kernel
theorem dX7_readTerm_35 : decode cX7_readTerm 35 = .ok (.aload_n 0, 1) := by decide +kernel
theorem dX7_readTerm_36 : decode cX7_readTerm 36 = .ok (.iload_n 1, 1) := by decide +kernel
theorem dX7_readTerm_37 : decode cX7_readTerm 37 = .ok (.invokevirtual 194, 3) := by decide +kernel
theorem dX7_readTerm_40 : decode cX7_readTerm 40 = .ok (.ifCond .ne 5, 3) := by decide +kernel
theorem dX7_readTerm_43 : decode cX7_readTerm 43 = .ok (.iconst 0, 1) := by decide +kernel
theorem dX7_readTerm_44 : decode cX7_readTerm 44 = .ok (.ireturn, 1) := by decide +kernel
theorem dX7_readTerm_45 : decode cX7_readTerm 45 = .ok (.aload_n 0, 1) := by decide +kernel
theorem dX7_readTerm_46 : decode cX7_readTerm 46 = .ok (.sipush 2002, 3) := by decide +kernel
theorem dX7_readTerm_49 : decode cX7_readTerm 49 = .ok (.invokevirtual 167, 3) := by decide +kernel
theorem dX7_readTerm_52 : decode cX7_readTerm 52 = .ok (.iinc 2 1, 3) := by decide +kernel
theorem dX7_readTerm_55 : decode cX7_readTerm 55 = .ok (.goto (-43), 3) := by decide +kernel
theorem dX7_readTerm_58 : decode cX7_readTerm 58 = .ok (.iconst 1, 1) := by decide +kernel
theorem dX7_readTerm_59 : decode cX7_readTerm 59 = .ok (.ireturn, 1) := by decide +kernel
theorem dX7_readAtom_0 : decode cX7_readAtom 0 = .ok (.aload_n 0, 1) := by decide +kernel
theorem dX7_readAtom_1 : decode cX7_readAtom 1 = .ok (.bipush 40, 2) := by decide +kernel
theorem dX7_readAtom_3 : decode cX7_readAtom 3 = .ok (.invokevirtual 181, 3) := by decide +kernel
theorem dX7_readAtom_6 : decode cX7_readAtom 6 = .ok (.ifCond .eq 43, 3) := by decide +kernel
theorem dX7_readAtom_9 : decode cX7_readAtom 9 = .ok (.aload_n 0, 1) := by decide +kernel
theorem dX7_readAtom_10 : decode cX7_readAtom 10 = .ok (.iload_n 1, 1) := by decide +kernel
theorem dX7_readAtom_11 : decode cX7_readAtom 11 = .ok (.invokevirtual 178, 3) := by decide +kernel
theorem dX7_readAtom_14 : decode cX7_readAtom 14 = .ok (.ifCond .eq 33, 3) := by decide +kernel
theorem dX7_readAtom_17 : decode cX7_readAtom 17 = .ok (.aload_n 0, 1) := by decide +kernel
theorem dX7_readAtom_18 : decode cX7_readAtom 18 = .ok (.invokevirtual 57, 3) := by decide +kernel
theorem dX7_readAtom_21 : decode cX7_readAtom 21 = .ok (.ifCond .eq 26, 3) := by decide +kernel
theorem dX7_readAtom_24 : decode cX7_readAtom 24 = .ok (.aload_n 0, 1) := by decide +kernel
theorem dX7_readAtom_25 : decode cX7_readAtom 25 = .ok (.iload_n 1, 1) := by decide +kernel
theorem dX7_readAtom_26 : decode cX7_readAtom 26 = .ok (.iconst 1, 1) := by decide +kernel
theorem dX7_readAtom_27 : decode cX7_readAtom 27 = .ok (.iadd, 1) := by decide +kernel
theorem dX7_readAtom_28 : decode cX7_readAtom 28 = .ok (.invokevirtual 184, 3) := by decide +kernel
theorem dX7_readAtom_31 : decode cX7_readAtom 31 = .ok (.ifCond .eq 16, 3) := by decide +kernel
theorem dX7_readAtom_34 : decode cX7_readAtom 34 = .ok (.aload_n 0, 1) := by decide +kernel
theorem dX7_readAtom_35 : decode cX7_readAtom 35 = .ok (.bipush 41, 2) := by decide +kernel
theorem dX7_readAtom_37 : decode cX7_readAtom 37 = .ok (.invokevirtual 64, 3) := by decide +kernel
theorem dX7_readAtom_40 : decode cX7_readAtom 40 = .ok (.ifCond .eq 7, 3) := by decide +kernel
theorem dX7_readAtom_43 : decode cX7_readAtom 43 = .ok (.iconst 1, 1) := by decide +kernel
theorem dX7_readAtom_44 : decode cX7_readAtom 44 = .ok (.goto 4, 3) := by decide +kernel
theorem dX7_readAtom_47 : decode cX7_readAtom 47 = .ok (.iconst 0, 1) := by decide +kernel
theorem dX7_readAtom_48 : decode cX7_readAtom 48 = .ok (.ireturn, 1) := by decide +kernel
theorem dX7_readAtom_49 : decode cX7_readAtom 49 = .ok (.aload_n 0, 1) := by decide +kernel
theorem dX7_readAtom_50 : decode cX7_readAtom 50 = .ok (.getfield 34, 3) := by decide +kernel
theorem dX7_readAtom_53 : decode cX7_readAtom 53 = .ok (.iconst 1, 1) := by decide +kernel
theorem dX7_readAtom_54 : decode cX7_readAtom 54 = .ok (.if_icmp .ne 10, 3) := by decide +kernel
theorem dX7_readAtom_57 : decode cX7_readAtom 57 = .ok (.aload_n 0, 1) := by decide +kernel
theorem dX7_readAtom_58 : decode cX7_readAtom 58 = .ok (.getfield 37, 3) := by decide +kernel
theorem dX7_readAtom_61 : decode cX7_readAtom 61 = .ok (.goto 7, 3) := by decide +kernel
theorem dX7_readAtom_64 : decode cX7_readAtom 64 = .ok (.aload_n 0, 1) := by decide +kernel
theorem dX7_readAtom_65 : decode cX7_readAtom 65 = .ok (.invokevirtual 197, 3) := by decide +kernel
theorem dX7_readAtom_68 : decode cX7_readAtom 68 = .ok (.istore_n 2, 1) := by decide +kernel
theorem dX7_readAtom_69 : decode cX7_readAtom 69 = .ok (.iload_n 2, 1) := by decide +kernel
theorem dX7_readAtom_70 : decode cX7_readAtom 70 = .ok (.ifCond .ge 9, 3) := by decide +kernel
theorem dX7_readAtom_73 : decode cX7_readAtom 73 = .ok (.aload_n 0, 1) := by decide +kernel
theorem dX7_readAtom_74 : decode cX7_readAtom 74 = .ok (.iconst 2, 1) := by decide +kernel
theorem dX7_readAtom_75 : decode cX7_readAtom 75 = .ok (.invokevirtual 100, 3) := by decide +kernel
theorem dX7_readAtom_78 : decode cX7_readAtom 78 = .ok (.ireturn, 1) := by decide +kernel
theorem dX7_readAtom_79 : decode cX7_readAtom 79 = .ok (.aload_n 0, 1) := by decide +kernel
theorem dX7_readAtom_80 : decode cX7_readAtom 80 = .ok (.iload_n 2, 1) := by decide +kernel
theorem dX7_readAtom_81 : decode cX7_readAtom 81 = .ok (.invokevirtual 167, 3) := by decide +kernel
theorem dX7_readAtom_84 : decode cX7_readAtom 84 = .ok (.aload_n 0, 1) := by decide +kernel
theorem dX7_readAtom_85 : decode cX7_readAtom 85 = .ok (.invokevirtual 57, 3) := by decide +kernel
theorem dX7_readAtom_88 : decode cX7_readAtom 88 = .ok (.ireturn, 1) := by decide +kernel
theorem dX7_mayNest_0 : decode cX7_mayNest 0 = .ok (.iload_n 1, 1) := by decide +kernel
theorem dX7_mayNest_1 : decode cX7_mayNest 1 = .ok (.bipush 6, 2) := by decide +kernel
theorem dX7_mayNest_3 : decode cX7_mayNest 3 = .ok (.if_icmp .lt 11, 3) := by decide +kernel
theorem dX7_mayNest_6 : decode cX7_mayNest 6 = .ok (.aload_n 0, 1) := by decide +kernel
theorem dX7_mayNest_7 : decode cX7_mayNest 7 = .ok (.iconst 4, 1) := by decide +kernel
theorem dX7_mayNest_8 : decode cX7_mayNest 8 = .ok (.invokevirtual 100, 3) := by decide +kernel
theorem dX7_mayNest_11 : decode cX7_mayNest 11 = .ok (.ifCond .eq 7, 3) := by decide +kernel
theorem dX7_mayNest_14 : decode cX7_mayNest 14 = .ok (.iconst 1, 1) := by decide +kernel
theorem dX7_mayNest_15 : decode cX7_mayNest 15 = .ok (.goto 4, 3) := by decide +kernel
theorem dX7_mayNest_18 : decode cX7_mayNest 18 = .ok (.iconst 0, 1) := by decide +kernel
theorem dX7_mayNest_19 : decode cX7_mayNest 19 = .ok (.ireturn, 1) := by decide +kernel
theorem dX7_comparisonHere_0 : decode cX7_comparisonHere 0 = .ok (.aload_n 0, 1) := by decide +kernel
theorem dX7_comparisonHere_1 : decode cX7_comparisonHere 1 = .ok (.bipush 61, 2) := by decide +kernel
theorem dX7_comparisonHere_3 : decode cX7_comparisonHere 3 = .ok (.invokevirtual 181, 3) := by decide +kernel
theorem dX7_comparisonHere_6 : decode cX7_comparisonHere 6 = .ok (.ifCond .eq 7, 3) := by decide +kernel
theorem dX7_comparisonHere_9 : decode cX7_comparisonHere 9 = .ok (.sipush 2003, 3) := by decide +kernel
theorem dX7_comparisonHere_12 : decode cX7_comparisonHere 12 = .ok (.ireturn, 1) := by decide +kernel
theorem dX7_comparisonHere_13 : decode cX7_comparisonHere 13 = .ok (.aload_n 0, 1) := by decide +kernel
theorem dX7_comparisonHere_14 : decode cX7_comparisonHere 14 = .ok (.bipush 60, 2) := by decide +kernel
theorem dX7_comparisonHere_16 : decode cX7_comparisonHere 16 = .ok (.invokevirtual 181, 3) := by decide +kernel
theorem dX7_comparisonHere_19 : decode cX7_comparisonHere 19 = .ok (.ifCond .eq 7, 3) := by decide +kernel
theorem dX7_comparisonHere_22 : decode cX7_comparisonHere 22 = .ok (.sipush 2004, 3) := by decide +kernel
theorem dX7_comparisonHere_25 : decode cX7_comparisonHere 25 = .ok (.ireturn, 1) := by decide +kernel
theorem dX7_comparisonHere_26 : decode cX7_comparisonHere 26 = .ok (.aload_n 0, 1) := by decide +kernel
theorem dX7_comparisonHere_27 : decode cX7_comparisonHere 27 = .ok (.bipush 62, 2) := by decide +kernel
theorem dX7_comparisonHere_29 : decode cX7_comparisonHere 29 = .ok (.invokevirtual 181, 3) := by decide +kernel
theorem dX7_comparisonHere_32 : decode cX7_comparisonHere 32 = .ok (.ifCond .eq 9, 3) := by decide +kernel
theorem dX7_comparisonHere_35 : decode cX7_comparisonHere 35 = .ok (.sipush 2005, 3) := by decide +kernel
theorem dX7_comparisonHere_38 : decode cX7_comparisonHere 38 = .ok (.goto 4, 3) := by decide +kernel
theorem dX7_comparisonHere_41 : decode cX7_comparisonHere 41 = .ok (.iconst 0, 1) := by decide +kernel
theorem dX7_comparisonHere_42 : decode cX7_comparisonHere 42 = .ok (.ireturn, 1) := by decide +kernel
theorem dX7_nameHere_0 : decode cX7_nameHere 0 = .ok (.aload_n 0, 1) := by decide +kernel
theorem dX7_nameHere_1 : decode cX7_nameHere 1 = .ok (.ldc 200, 2) := by decide +kernel
theorem dX7_nameHere_3 : decode cX7_nameHere 3 = .ok (.invokevirtual 73, 3) := by decide +kernel
theorem dX7_nameHere_6 : decode cX7_nameHere 6 = .ok (.ifCond .eq 7, 3) := by decide +kernel
theorem dX7_nameHere_9 : decode cX7_nameHere 9 = .ok (.sipush 1000, 3) := by decide +kernel
theorem dX7_nameHere_12 : decode cX7_nameHere 12 = .ok (.ireturn, 1) := by decide +kernel
theorem dX7_nameHere_13 : decode cX7_nameHere 13 = .ok (.aload_n 0, 1) := by decide +kernel
theorem dX7_nameHere_14 : decode cX7_nameHere 14 = .ok (.ldc 202, 2) := by decide +kernel
theorem dX7_nameHere_16 : decode cX7_nameHere 16 = .ok (.invokevirtual 73, 3) := by decide +kernel
theorem dX7_nameHere_19 : decode cX7_nameHere 19 = .ok (.ifCond .eq 7, 3) := by decide +kernel
theorem dX7_nameHere_22 : decode cX7_nameHere 22 = .ok (.sipush 1001, 3) := by decide +kernel
theorem dX7_nameHere_25 : decode cX7_nameHere 25 = .ok (.ireturn, 1) := by decide +kernel
theorem dX7_nameHere_26 : decode cX7_nameHere 26 = .ok (.aload_n 0, 1) := by decide +kernel
theorem dX7_nameHere_27 : decode cX7_nameHere 27 = .ok (.ldc 204, 2) := by decide +kernel
theorem dX7_nameHere_29 : decode cX7_nameHere 29 = .ok (.invokevirtual 73, 3) := by decide +kernel
theorem dX7_nameHere_32 : decode cX7_nameHere 32 = .ok (.ifCond .eq 7, 3) := by decide +kernel
theorem dX7_nameHere_35 : decode cX7_nameHere 35 = .ok (.sipush 1002, 3) := by decide +kernel
theorem dX7_nameHere_38 : decode cX7_nameHere 38 = .ok (.ireturn, 1) := by decide +kernel
theorem dX7_nameHere_39 : decode cX7_nameHere 39 = .ok (.aload_n 0, 1) := by decide +kernel
theorem dX7_nameHere_40 : decode cX7_nameHere 40 = .ok (.ldc 206, 2) := by decide +kernel
theorem dX7_nameHere_42 : decode cX7_nameHere 42 = .ok (.invokevirtual 73, 3) := by decide +kernel
theorem dX7_nameHere_45 : decode cX7_nameHere 45 = .ok (.ifCond .eq 7, 3) := by decide +kernel
theorem dX7_nameHere_48 : decode cX7_nameHere 48 = .ok (.sipush 1003, 3) := by decide +kernel
theorem dX7_nameHere_51 : decode cX7_nameHere 51 = .ok (.ireturn, 1) := by decide +kernel
theorem dX7_nameHere_52 : decode cX7_nameHere 52 = .ok (.aload_n 0, 1) := by decide +kernel
theorem dX7_nameHere_53 : decode cX7_nameHere 53 = .ok (.ldc 208, 2) := by decide +kernel
theorem dX7_nameHere_55 : decode cX7_nameHere 55 = .ok (.invokevirtual 73, 3) := by decide +kernel
theorem dX7_nameHere_58 : decode cX7_nameHere 58 = .ok (.ifCond .eq 7, 3) := by decide +kernel
theorem dX7_nameHere_61 : decode cX7_nameHere 61 = .ok (.sipush 1004, 3) := by decide +kernel
theorem dX7_nameHere_64 : decode cX7_nameHere 64 = .ok (.ireturn, 1) := by decide +kernel
theorem dX7_nameHere_65 : decode cX7_nameHere 65 = .ok (.aload_n 0, 1) := by decide +kernel
theorem dX7_nameHere_66 : decode cX7_nameHere 66 = .ok (.ldc 95, 2) := by decide +kernel
theorem dX7_nameHere_68 : decode cX7_nameHere 68 = .ok (.invokevirtual 73, 3) := by decide +kernel
theorem dX7_nameHere_71 : decode cX7_nameHere 71 = .ok (.ifCond .eq 7, 3) := by decide +kernel
theorem dX7_nameHere_74 : decode cX7_nameHere 74 = .ok (.sipush 1005, 3) := by decide +kernel
theorem dX7_nameHere_77 : decode cX7_nameHere 77 = .ok (.ireturn, 1) := by decide +kernel
theorem dX7_nameHere_78 : decode cX7_nameHere 78 = .ok (.aload_n 0, 1) := by decide +kernel
theorem dX7_nameHere_79 : decode cX7_nameHere 79 = .ok (.ldc 210, 2) := by decide +kernel
theorem dX7_nameHere_81 : decode cX7_nameHere 81 = .ok (.invokevirtual 73, 3) := by decide +kernel
theorem dX7_nameHere_84 : decode cX7_nameHere 84 = .ok (.ifCond .eq 7, 3) := by decide +kernel
theorem dX7_nameHere_87 : decode cX7_nameHere 87 = .ok (.sipush 1006, 3) := by decide +kernel
theorem dX7_nameHere_90 : decode cX7_nameHere 90 = .ok (.ireturn, 1) := by decide +kernel
theorem dX7_nameHere_91 : decode cX7_nameHere 91 = .ok (.aload_n 0, 1) := by decide +kernel
theorem dX7_nameHere_92 : decode cX7_nameHere 92 = .ok (.ldc 212, 2) := by decide +kernel
theorem dX7_nameHere_94 : decode cX7_nameHere 94 = .ok (.invokevirtual 73, 3) := by decide +kernel
theorem dX7_nameHere_97 : decode cX7_nameHere 97 = .ok (.ifCond .eq 9, 3) := by decide +kernel
theorem dX7_nameHere_100 : decode cX7_nameHere 100 = .ok (.sipush 1007, 3) := by decide +kernel
theorem dX7_nameHere_103 : decode cX7_nameHere 103 = .ok (.goto 4, 3) := by decide +kernel
theorem dX7_nameHere_106 : decode cX7_nameHere 106 = .ok (.iconst (-1), 1) := by decide +kernel
theorem dX7_nameHere_107 : decode cX7_nameHere 107 = .ok (.ireturn, 1) := by decide +kernel
theorem dX7_emit_0 : decode cX7_emit 0 = .ok (.aload_n 0, 1) := by decide +kernel
theorem dX7_emit_1 : decode cX7_emit 1 = .ok (.getfield 47, 3) := by decide +kernel
theorem dX7_emit_4 : decode cX7_emit 4 = .ok (.ifCond .lt 35, 3) := by decide +kernel
theorem dX7_emit_7 : decode cX7_emit 7 = .ok (.aload_n 0, 1) := by decide +kernel
theorem dX7_emit_8 : decode cX7_emit 8 = .ok (.getfield 47, 3) := by decide +kernel
theorem dX7_emit_11 : decode cX7_emit 11 = .ok (.aload_n 0, 1) := by decide +kernel
theorem dX7_emit_12 : decode cX7_emit 12 = .ok (.getfield 43, 3) := by decide +kernel
theorem dX7_emit_15 : decode cX7_emit 15 = .ok (.arraylength, 1) := by decide +kernel
theorem dX7_emit_16 : decode cX7_emit 16 = .ok (.if_icmp .ge 23, 3) := by decide +kernel
theorem dX7_emit_19 : decode cX7_emit 19 = .ok (.aload_n 0, 1) := by decide +kernel
theorem dX7_emit_20 : decode cX7_emit 20 = .ok (.getfield 43, 3) := by decide +kernel
theorem dX7_emit_23 : decode cX7_emit 23 = .ok (.aload_n 0, 1) := by decide +kernel
theorem dX7_emit_24 : decode cX7_emit 24 = .ok (.getfield 47, 3) := by decide +kernel
theorem dX7_emit_27 : decode cX7_emit 27 = .ok (.iload_n 1, 1) := by decide +kernel
theorem dX7_emit_28 : decode cX7_emit 28 = .ok (.iastore, 1) := by decide +kernel
theorem dX7_emit_29 : decode cX7_emit 29 = .ok (.aload_n 0, 1) := by decide +kernel
theorem dX7_emit_30 : decode cX7_emit 30 = .ok (.dup, 1) := by decide +kernel
theorem dX7_emit_31 : decode cX7_emit 31 = .ok (.getfield 47, 3) := by decide +kernel
theorem dX7_emit_34 : decode cX7_emit 34 = .ok (.iconst 1, 1) := by decide +kernel
theorem dX7_emit_35 : decode cX7_emit 35 = .ok (.iadd, 1) := by decide +kernel
theorem dX7_emit_36 : decode cX7_emit 36 = .ok (.putfield 47, 3) := by decide +kernel
theorem dX7_emit_39 : decode cX7_emit 39 = .ok (.return_, 1) := by decide +kernel
theorem dX7_expectWord_0 : decode cX7_expectWord 0 = .ok (.aload_n 0, 1) := by decide +kernel
theorem dX7_expectWord_1 : decode cX7_expectWord 1 = .ok (.aload_n 1, 1) := by decide +kernel
theorem dX7_expectWord_2 : decode cX7_expectWord 2 = .ok (.invokevirtual 73, 3) := by decide +kernel
theorem dX7_expectWord_5 : decode cX7_expectWord 5 = .ok (.ifCond .eq 10, 3) := by decide +kernel
theorem dX7_expectWord_8 : decode cX7_expectWord 8 = .ok (.aload_n 0, 1) := by decide +kernel
theorem dX7_expectWord_9 : decode cX7_expectWord 9 = .ok (.invokevirtual 57, 3) := by decide +kernel
theorem dX7_expectWord_12 : decode cX7_expectWord 12 = .ok (.goto 8, 3) := by decide +kernel
theorem dX7_expectWord_15 : decode cX7_expectWord 15 = .ok (.aload_n 0, 1) := by decide +kernel
theorem dX7_expectWord_16 : decode cX7_expectWord 16 = .ok (.iconst 2, 1) := by decide +kernel
theorem dX7_expectWord_17 : decode cX7_expectWord 17 = .ok (.invokevirtual 100, 3) := by decide +kernel
theorem dX7_expectWord_20 : decode cX7_expectWord 20 = .ok (.ireturn, 1) := by decide +kernel
theorem dX7_expectSign_0 : decode cX7_expectSign 0 = .ok (.aload_n 0, 1) := by decide +kernel
theorem dX7_expectSign_1 : decode cX7_expectSign 1 = .ok (.iload_n 1, 1) := by decide +kernel
theorem dX7_expectSign_2 : decode cX7_expectSign 2 = .ok (.invokevirtual 181, 3) := by decide +kernel
theorem dX7_expectSign_5 : decode cX7_expectSign 5 = .ok (.ifCond .eq 10, 3) := by decide +kernel
theorem dX7_expectSign_8 : decode cX7_expectSign 8 = .ok (.aload_n 0, 1) := by decide +kernel
theorem dX7_expectSign_9 : decode cX7_expectSign 9 = .ok (.invokevirtual 57, 3) := by decide +kernel
theorem dX7_expectSign_12 : decode cX7_expectSign 12 = .ok (.goto 8, 3) := by decide +kernel
theorem dX7_expectSign_15 : decode cX7_expectSign 15 = .ok (.aload_n 0, 1) := by decide +kernel
theorem dX7_expectSign_16 : decode cX7_expectSign 16 = .ok (.iconst 2, 1) := by decide +kernel
theorem dX7_expectSign_17 : decode cX7_expectSign 17 = .ok (.invokevirtual 100, 3) := by decide +kernel
theorem dX7_expectSign_20 : decode cX7_expectSign 20 = .ok (.ireturn, 1) := by decide +kernel
theorem dX7_expectNumber_0 : decode cX7_expectNumber 0 = .ok (.aload_n 0, 1) := by decide +kernel
theorem dX7_expectNumber_1 : decode cX7_expectNumber 1 = .ok (.getfield 34, 3) := by decide +kernel
theorem dX7_expectNumber_4 : decode cX7_expectNumber 4 = .ok (.iconst 1, 1) := by decide +kernel
theorem dX7_expectNumber_5 : decode cX7_expectNumber 5 = .ok (.if_icmp .eq 9, 3) := by decide +kernel
theorem dX7_expectNumber_8 : decode cX7_expectNumber 8 = .ok (.aload_n 0, 1) := by decide +kernel
theorem dX7_expectNumber_9 : decode cX7_expectNumber 9 = .ok (.iconst 2, 1) := by decide +kernel
theorem dX7_expectNumber_10 : decode cX7_expectNumber 10 = .ok (.invokevirtual 100, 3) := by decide +kernel
theorem dX7_expectNumber_13 : decode cX7_expectNumber 13 = .ok (.ireturn, 1) := by decide +kernel
theorem dX7_expectNumber_14 : decode cX7_expectNumber 14 = .ok (.aload_n 0, 1) := by decide +kernel
theorem dX7_expectNumber_15 : decode cX7_expectNumber 15 = .ok (.getfield 37, 3) := by decide +kernel
theorem dX7_expectNumber_18 : decode cX7_expectNumber 18 = .ok (.iload_n 1, 1) := by decide +kernel
theorem dX7_expectNumber_19 : decode cX7_expectNumber 19 = .ok (.if_icmp .lt 11, 3) := by decide +kernel
theorem dX7_expectNumber_22 : decode cX7_expectNumber 22 = .ok (.aload_n 0, 1) := by decide +kernel
theorem dX7_expectNumber_23 : decode cX7_expectNumber 23 = .ok (.getfield 37, 3) := by decide +kernel
theorem dX7_expectNumber_26 : decode cX7_expectNumber 26 = .ok (.iload_n 2, 1) := by decide +kernel
theorem dX7_expectNumber_27 : decode cX7_expectNumber 27 = .ok (.if_icmp .le 9, 3) := by decide +kernel
theorem dX7_expectNumber_30 : decode cX7_expectNumber 30 = .ok (.aload_n 0, 1) := by decide +kernel
theorem dX7_expectNumber_31 : decode cX7_expectNumber 31 = .ok (.iconst 3, 1) := by decide +kernel
theorem dX7_expectNumber_32 : decode cX7_expectNumber 32 = .ok (.invokevirtual 100, 3) := by decide +kernel
theorem dX7_expectNumber_35 : decode cX7_expectNumber 35 = .ok (.ireturn, 1) := by decide +kernel
theorem dX7_expectNumber_36 : decode cX7_expectNumber 36 = .ok (.aload_n 0, 1) := by decide +kernel
theorem dX7_expectNumber_37 : decode cX7_expectNumber 37 = .ok (.aload_n 0, 1) := by decide +kernel
theorem dX7_expectNumber_38 : decode cX7_expectNumber 38 = .ok (.getfield 37, 3) := by decide +kernel
theorem dX7_expectNumber_41 : decode cX7_expectNumber 41 = .ok (.putfield 40, 3) := by decide +kernel
theorem dX7_expectNumber_44 : decode cX7_expectNumber 44 = .ok (.aload_n 0, 1) := by decide +kernel
theorem dX7_expectNumber_45 : decode cX7_expectNumber 45 = .ok (.invokevirtual 57, 3) := by decide +kernel
theorem dX7_expectNumber_48 : decode cX7_expectNumber 48 = .ok (.ireturn, 1) := by decide +kernel
theorem dX7_expectToldWell_0 : decode cX7_expectToldWell 0 = .ok (.aload_n 0, 1) := by decide +kernel
theorem dX7_expectToldWell_1 : decode cX7_expectToldWell 1 = .ok (.getfield 34, 3) := by decide +kernel
theorem dX7_expectToldWell_4 : decode cX7_expectToldWell 4 = .ok (.iconst 1, 1) := by decide +kernel
theorem dX7_expectToldWell_5 : decode cX7_expectToldWell 5 = .ok (.if_icmp .eq 9, 3) := by decide +kernel
theorem dX7_expectToldWell_8 : decode cX7_expectToldWell 8 = .ok (.aload_n 0, 1) := by decide +kernel
theorem dX7_expectToldWell_9 : decode cX7_expectToldWell 9 = .ok (.iconst 2, 1) := by decide +kernel
theorem dX7_expectToldWell_10 : decode cX7_expectToldWell 10 = .ok (.invokevirtual 100, 3) := by decide +kernel
theorem dX7_expectToldWell_13 : decode cX7_expectToldWell 13 = .ok (.ireturn, 1) := by decide +kernel
theorem dX7_expectToldWell_14 : decode cX7_expectToldWell 14 = .ok (.aload_n 0, 1) := by decide +kernel
theorem dX7_expectToldWell_15 : decode cX7_expectToldWell 15 = .ok (.getfield 50, 3) := by decide +kernel
theorem dX7_expectToldWell_18 : decode cX7_expectToldWell 18 = .ok (.aload_n 0, 1) := by decide +kernel
theorem dX7_expectToldWell_19 : decode cX7_expectToldWell 19 = .ok (.getfield 37, 3) := by decide +kernel
theorem dX7_expectToldWell_22 : decode cX7_expectToldWell 22 = .ok (.invokevirtual 214, 3) := by decide +kernel
theorem dX7_expectToldWell_25 : decode cX7_expectToldWell 25 = .ok (.ifCond .eq 11, 3) := by decide +kernel
theorem dX7_expectToldWell_28 : decode cX7_expectToldWell 28 = .ok (.aload_n 0, 1) := by decide +kernel
theorem dX7_expectToldWell_29 : decode cX7_expectToldWell 29 = .ok (.getfield 37, 3) := by decide +kernel
theorem dX7_expectToldWell_32 : decode cX7_expectToldWell 32 = .ok (.iload_n 1, 1) := by decide +kernel
theorem dX7_expectToldWell_33 : decode cX7_expectToldWell 33 = .ok (.if_icmp .ne 9, 3) := by decide +kernel
theorem dX7_expectToldWell_36 : decode cX7_expectToldWell 36 = .ok (.aload_n 0, 1) := by decide +kernel
theorem dX7_expectToldWell_37 : decode cX7_expectToldWell 37 = .ok (.iconst 3, 1) := by decide +kernel
theorem dX7_expectToldWell_38 : decode cX7_expectToldWell 38 = .ok (.invokevirtual 100, 3) := by decide +kernel
theorem dX7_expectToldWell_41 : decode cX7_expectToldWell 41 = .ok (.ireturn, 1) := by decide +kernel
theorem dX7_expectToldWell_42 : decode cX7_expectToldWell 42 = .ok (.aload_n 0, 1) := by decide +kernel
theorem dX7_expectToldWell_43 : decode cX7_expectToldWell 43 = .ok (.aload_n 0, 1) := by decide +kernel
theorem dX7_expectToldWell_44 : decode cX7_expectToldWell 44 = .ok (.getfield 37, 3) := by decide +kernel
theorem dX7_expectToldWell_47 : decode cX7_expectToldWell 47 = .ok (.putfield 40, 3) := by decide +kernel
theorem dX7_expectToldWell_50 : decode cX7_expectToldWell 50 = .ok (.aload_n 0, 1) := by decide +kernel
theorem dX7_expectToldWell_51 : decode cX7_expectToldWell 51 = .ok (.invokevirtual 57, 3) := by decide +kernel
theorem dX7_expectToldWell_54 : decode cX7_expectToldWell 54 = .ok (.ireturn, 1) := by decide +kernel
theorem dX7_isWord_0 : decode cX7_isWord 0 = .ok (.aload_n 0, 1) := by decide +kernel
theorem dX7_isWord_1 : decode cX7_isWord 1 = .ok (.getfield 34, 3) := by decide +kernel
theorem dX7_isWord_4 : decode cX7_isWord 4 = .ok (.iconst 2, 1) := by decide +kernel
theorem dX7_isWord_5 : decode cX7_isWord 5 = .ok (.if_icmp .ne 19, 3) := by decide +kernel
theorem dX7_isWord_8 : decode cX7_isWord 8 = .ok (.aload_n 0, 1) := by decide +kernel
theorem dX7_isWord_9 : decode cX7_isWord 9 = .ok (.getfield 31, 3) := by decide +kernel
theorem dX7_isWord_12 : decode cX7_isWord 12 = .ok (.aload_n 0, 1) := by decide +kernel
theorem dX7_isWord_13 : decode cX7_isWord 13 = .ok (.getfield 28, 3) := by decide +kernel
theorem dX7_isWord_16 : decode cX7_isWord 16 = .ok (.isub, 1) := by decide +kernel
theorem dX7_isWord_17 : decode cX7_isWord 17 = .ok (.aload_n 1, 1) := by decide +kernel
theorem dX7_isWord_18 : decode cX7_isWord 18 = .ok (.invokevirtual 217, 3) := by decide +kernel
theorem dX7_isWord_21 : decode cX7_isWord 21 = .ok (.if_icmp .eq 5, 3) := by decide +kernel
theorem dX7_isWord_24 : decode cX7_isWord 24 = .ok (.iconst 0, 1) := by decide +kernel
theorem dX7_isWord_25 : decode cX7_isWord 25 = .ok (.ireturn, 1) := by decide +kernel
theorem dX7_isWord_26 : decode cX7_isWord 26 = .ok (.iconst 0, 1) := by decide +kernel
theorem dX7_isWord_27 : decode cX7_isWord 27 = .ok (.istore_n 2, 1) := by decide +kernel
theorem dX7_isWord_28 : decode cX7_isWord 28 = .ok (.iload_n 2, 1) := by decide +kernel
theorem dX7_isWord_29 : decode cX7_isWord 29 = .ok (.aload_n 1, 1) := by decide +kernel
theorem dX7_isWord_30 : decode cX7_isWord 30 = .ok (.invokevirtual 217, 3) := by decide +kernel
theorem dX7_isWord_33 : decode cX7_isWord 33 = .ok (.if_icmp .ge 29, 3) := by decide +kernel
theorem dX7_isWord_36 : decode cX7_isWord 36 = .ok (.aload_n 0, 1) := by decide +kernel
theorem dX7_isWord_37 : decode cX7_isWord 37 = .ok (.aload_n 0, 1) := by decide +kernel
theorem dX7_isWord_38 : decode cX7_isWord 38 = .ok (.getfield 28, 3) := by decide +kernel
theorem dX7_isWord_41 : decode cX7_isWord 41 = .ok (.iload_n 2, 1) := by decide +kernel
theorem dX7_isWord_42 : decode cX7_isWord 42 = .ok (.iadd, 1) := by decide +kernel
theorem dX7_isWord_43 : decode cX7_isWord 43 = .ok (.invokevirtual 221, 3) := by decide +kernel
theorem dX7_isWord_46 : decode cX7_isWord 46 = .ok (.aload_n 1, 1) := by decide +kernel
theorem dX7_isWord_47 : decode cX7_isWord 47 = .ok (.iload_n 2, 1) := by decide +kernel
theorem dX7_isWord_48 : decode cX7_isWord 48 = .ok (.invokevirtual 225, 3) := by decide +kernel
theorem dX7_isWord_51 : decode cX7_isWord 51 = .ok (.if_icmp .eq 5, 3) := by decide +kernel
theorem dX7_isWord_54 : decode cX7_isWord 54 = .ok (.iconst 0, 1) := by decide +kernel
theorem dX7_isWord_55 : decode cX7_isWord 55 = .ok (.ireturn, 1) := by decide +kernel
theorem dX7_isWord_56 : decode cX7_isWord 56 = .ok (.iinc 2 1, 3) := by decide +kernel
theorem dX7_isWord_59 : decode cX7_isWord 59 = .ok (.goto (-31), 3) := by decide +kernel
theorem dX7_isWord_62 : decode cX7_isWord 62 = .ok (.iconst 1, 1) := by decide +kernel
theorem dX7_isWord_63 : decode cX7_isWord 63 = .ok (.ireturn, 1) := by decide +kernel
theorem dX7_isSign_0 : decode cX7_isSign 0 = .ok (.aload_n 0, 1) := by decide +kernel
theorem dX7_isSign_1 : decode cX7_isSign 1 = .ok (.getfield 34, 3) := by decide +kernel
theorem dX7_isSign_4 : decode cX7_isSign 4 = .ok (.iconst 3, 1) := by decide +kernel
theorem dX7_isSign_5 : decode cX7_isSign 5 = .ok (.if_icmp .ne 19, 3) := by decide +kernel
theorem dX7_isSign_8 : decode cX7_isSign 8 = .ok (.aload_n 0, 1) := by decide +kernel
theorem dX7_isSign_9 : decode cX7_isSign 9 = .ok (.aload_n 0, 1) := by decide +kernel
theorem dX7_isSign_10 : decode cX7_isSign 10 = .ok (.getfield 28, 3) := by decide +kernel
theorem dX7_isSign_13 : decode cX7_isSign 13 = .ok (.invokevirtual 221, 3) := by decide +kernel
theorem dX7_isSign_16 : decode cX7_isSign 16 = .ok (.iload_n 1, 1) := by decide +kernel
theorem dX7_isSign_17 : decode cX7_isSign 17 = .ok (.if_icmp .ne 7, 3) := by decide +kernel
theorem dX7_isSign_20 : decode cX7_isSign 20 = .ok (.iconst 1, 1) := by decide +kernel
theorem dX7_isSign_21 : decode cX7_isSign 21 = .ok (.goto 4, 3) := by decide +kernel
theorem dX7_isSign_24 : decode cX7_isSign 24 = .ok (.iconst 0, 1) := by decide +kernel
theorem dX7_isSign_25 : decode cX7_isSign 25 = .ok (.ireturn, 1) := by decide +kernel
theorem dX7_refuse_0 : decode cX7_refuse 0 = .ok (.aload_n 0, 1) := by decide +kernel
theorem dX7_refuse_1 : decode cX7_refuse 1 = .ok (.iload_n 1, 1) := by decide +kernel
theorem dX7_refuse_2 : decode cX7_refuse 2 = .ok (.putfield 15, 3) := by decide +kernel
theorem dX7_refuse_5 : decode cX7_refuse 5 = .ok (.aload_n 0, 1) := by decide +kernel
theorem dX7_refuse_6 : decode cX7_refuse 6 = .ok (.aload_n 0, 1) := by decide +kernel
theorem dX7_refuse_7 : decode cX7_refuse 7 = .ok (.getfield 28, 3) := by decide +kernel
theorem dX7_refuse_10 : decode cX7_refuse 10 = .ok (.putfield 18, 3) := by decide +kernel
theorem dX7_refuse_13 : decode cX7_refuse 13 = .ok (.iconst 0, 1) := by decide +kernel
theorem dX7_refuse_14 : decode cX7_refuse 14 = .ok (.ireturn, 1) := by decide +kernel
theorem dX7_advance_0 : decode cX7_advance 0 = .ok (.aload_n 0, 1) := by decide +kernel
theorem dX7_advance_1 : decode cX7_advance 1 = .ok (.aload_n 0, 1) := by decide +kernel
theorem dX7_advance_2 : decode cX7_advance 2 = .ok (.getfield 31, 3) := by decide +kernel
theorem dX7_advance_5 : decode cX7_advance 5 = .ok (.putfield 28, 3) := by decide +kernel
theorem dX7_advance_8 : decode cX7_advance 8 = .ok (.iconst 0, 1) := by decide +kernel
theorem dX7_advance_9 : decode cX7_advance 9 = .ok (.istore_n 1, 1) := by decide +kernel
theorem dX7_advance_10 : decode cX7_advance 10 = .ok (.iload_n 1, 1) := by decide +kernel
theorem dX7_advance_11 : decode cX7_advance 11 = .ok (.sipush 900, 3) := by decide +kernel
theorem dX7_advance_14 : decode cX7_advance 14 = .ok (.if_icmp .ge 33, 3) := by decide +kernel
theorem dX7_advance_17 : decode cX7_advance 17 = .ok (.aload_n 0, 1) := by decide +kernel
theorem dX7_advance_18 : decode cX7_advance 18 = .ok (.aload_n 0, 1) := by decide +kernel
theorem dX7_advance_19 : decode cX7_advance 19 = .ok (.getfield 28, 3) := by decide +kernel
theorem dX7_advance_22 : decode cX7_advance 22 = .ok (.invokevirtual 221, 3) := by decide +kernel
theorem dX7_advance_25 : decode cX7_advance 25 = .ok (.invokestatic 229, 3) := by decide +kernel
theorem dX7_advance_28 : decode cX7_advance 28 = .ok (.ifCond .eq 19, 3) := by decide +kernel
theorem dX7_advance_31 : decode cX7_advance 31 = .ok (.aload_n 0, 1) := by decide +kernel
theorem dX7_advance_32 : decode cX7_advance 32 = .ok (.dup, 1) := by decide +kernel
theorem dX7_advance_33 : decode cX7_advance 33 = .ok (.getfield 28, 3) := by decide +kernel
theorem dX7_advance_36 : decode cX7_advance 36 = .ok (.iconst 1, 1) := by decide +kernel
theorem dX7_advance_37 : decode cX7_advance 37 = .ok (.iadd, 1) := by decide +kernel
theorem dX7_advance_38 : decode cX7_advance 38 = .ok (.putfield 28, 3) := by decide +kernel
theorem dX7_advance_41 : decode cX7_advance 41 = .ok (.iinc 1 1, 3) := by decide +kernel
theorem dX7_advance_44 : decode cX7_advance 44 = .ok (.goto (-34), 3) := by decide +kernel
theorem dX7_advance_47 : decode cX7_advance 47 = .ok (.aload_n 0, 1) := by decide +kernel
theorem dX7_advance_48 : decode cX7_advance 48 = .ok (.aload_n 0, 1) := by decide +kernel
theorem dX7_advance_49 : decode cX7_advance 49 = .ok (.getfield 28, 3) := by decide +kernel
theorem dX7_advance_52 : decode cX7_advance 52 = .ok (.putfield 31, 3) := by decide +kernel
theorem dX7_advance_55 : decode cX7_advance 55 = .ok (.aload_n 0, 1) := by decide +kernel
theorem dX7_advance_56 : decode cX7_advance 56 = .ok (.aload_n 0, 1) := by decide +kernel
theorem dX7_advance_57 : decode cX7_advance 57 = .ok (.aload_n 0, 1) := by decide +kernel
theorem dX7_advance_58 : decode cX7_advance 58 = .ok (.getfield 28, 3) := by decide +kernel
theorem dX7_advance_61 : decode cX7_advance 61 = .ok (.invokevirtual 221, 3) := by decide +kernel
theorem dX7_advance_64 : decode cX7_advance 64 = .ok (.invokestatic 232, 3) := by decide +kernel
theorem dX7_advance_67 : decode cX7_advance 67 = .ok (.putfield 34, 3) := by decide +kernel
theorem dX7_advance_70 : decode cX7_advance 70 = .ok (.aload_n 0, 1) := by decide +kernel
theorem dX7_advance_71 : decode cX7_advance 71 = .ok (.iconst 0, 1) := by decide +kernel
theorem dX7_advance_72 : decode cX7_advance 72 = .ok (.putfield 37, 3) := by decide +kernel
theorem dX7_advance_75 : decode cX7_advance 75 = .ok (.aload_n 0, 1) := by decide +kernel
theorem dX7_advance_76 : decode cX7_advance 76 = .ok (.getfield 34, 3) := by decide +kernel
theorem dX7_advance_79 : decode cX7_advance 79 = .ok (.iconst 2, 1) := by decide +kernel
theorem dX7_advance_80 : decode cX7_advance 80 = .ok (.if_icmp .ne 9, 3) := by decide +kernel
theorem dX7_advance_83 : decode cX7_advance 83 = .ok (.sipush 900, 3) := by decide +kernel
theorem dX7_advance_86 : decode cX7_advance 86 = .ok (.goto 16, 3) := by decide +kernel
theorem dX7_advance_89 : decode cX7_advance 89 = .ok (.aload_n 0, 1) := by decide +kernel
theorem dX7_advance_90 : decode cX7_advance 90 = .ok (.getfield 34, 3) := by decide +kernel
theorem dX7_advance_93 : decode cX7_advance 93 = .ok (.iconst 1, 1) := by decide +kernel
theorem dX7_advance_94 : decode cX7_advance 94 = .ok (.if_icmp .ne 7, 3) := by decide +kernel
theorem dX7_advance_97 : decode cX7_advance 97 = .ok (.iconst 4, 1) := by decide +kernel
theorem dX7_advance_98 : decode cX7_advance 98 = .ok (.goto 4, 3) := by decide +kernel
theorem dX7_advance_101 : decode cX7_advance 101 = .ok (.iconst 1, 1) := by decide +kernel
theorem dX7_advance_102 : decode cX7_advance 102 = .ok (.istore_n 1, 1) := by decide +kernel
theorem dX7_advance_103 : decode cX7_advance 103 = .ok (.iconst 0, 1) := by decide +kernel
theorem dX7_advance_104 : decode cX7_advance 104 = .ok (.istore_n 2, 1) := by decide +kernel
theorem dX7_advance_105 : decode cX7_advance 105 = .ok (.iload_n 2, 1) := by decide +kernel
theorem dX7_advance_106 : decode cX7_advance 106 = .ok (.iload_n 1, 1) := by decide +kernel
theorem dX7_advance_107 : decode cX7_advance 107 = .ok (.if_icmp .ge 80, 3) := by decide +kernel
theorem dX7_advance_110 : decode cX7_advance 110 = .ok (.aload_n 0, 1) := by decide +kernel
theorem dX7_advance_111 : decode cX7_advance 111 = .ok (.getfield 34, 3) := by decide +kernel
theorem dX7_advance_114 : decode cX7_advance 114 = .ok (.iconst 4, 1) := by decide +kernel
theorem dX7_advance_115 : decode cX7_advance 115 = .ok (.if_icmp .eq 72, 3) := by decide +kernel
theorem dX7_advance_118 : decode cX7_advance 118 = .ok (.aload_n 0, 1) := by decide +kernel
theorem dX7_advance_119 : decode cX7_advance 119 = .ok (.aload_n 0, 1) := by decide +kernel
theorem dX7_advance_120 : decode cX7_advance 120 = .ok (.getfield 31, 3) := by decide +kernel
theorem dX7_advance_123 : decode cX7_advance 123 = .ok (.invokevirtual 221, 3) := by decide +kernel
theorem dX7_advance_126 : decode cX7_advance 126 = .ok (.invokestatic 232, 3) := by decide +kernel
theorem dX7_advance_129 : decode cX7_advance 129 = .ok (.aload_n 0, 1) := by decide +kernel
theorem dX7_advance_130 : decode cX7_advance 130 = .ok (.getfield 34, 3) := by decide +kernel
theorem dX7_advance_133 : decode cX7_advance 133 = .ok (.if_icmp .ne 54, 3) := by decide +kernel
theorem dX7_advance_136 : decode cX7_advance 136 = .ok (.aload_n 0, 1) := by decide +kernel
theorem dX7_advance_137 : decode cX7_advance 137 = .ok (.aload_n 0, 1) := by decide +kernel
theorem dX7_advance_138 : decode cX7_advance 138 = .ok (.getfield 34, 3) := by decide +kernel
theorem dX7_advance_141 : decode cX7_advance 141 = .ok (.iconst 1, 1) := by decide +kernel
theorem dX7_advance_142 : decode cX7_advance 142 = .ok (.if_icmp .ne 25, 3) := by decide +kernel
theorem dX7_advance_145 : decode cX7_advance 145 = .ok (.aload_n 0, 1) := by decide +kernel
theorem dX7_advance_146 : decode cX7_advance 146 = .ok (.getfield 37, 3) := by decide +kernel
theorem dX7_advance_149 : decode cX7_advance 149 = .ok (.bipush 10, 2) := by decide +kernel
theorem dX7_advance_151 : decode cX7_advance 151 = .ok (.imul, 1) := by decide +kernel
theorem dX7_advance_152 : decode cX7_advance 152 = .ok (.aload_n 0, 1) := by decide +kernel
theorem dX7_advance_153 : decode cX7_advance 153 = .ok (.aload_n 0, 1) := by decide +kernel
theorem dX7_advance_154 : decode cX7_advance 154 = .ok (.getfield 31, 3) := by decide +kernel
theorem dX7_advance_157 : decode cX7_advance 157 = .ok (.invokevirtual 221, 3) := by decide +kernel
theorem dX7_advance_160 : decode cX7_advance 160 = .ok (.iadd, 1) := by decide +kernel
theorem dX7_advance_161 : decode cX7_advance 161 = .ok (.bipush 48, 2) := by decide +kernel
theorem dX7_advance_163 : decode cX7_advance 163 = .ok (.isub, 1) := by decide +kernel
theorem dX7_advance_164 : decode cX7_advance 164 = .ok (.goto 4, 3) := by decide +kernel
theorem dX7_advance_167 : decode cX7_advance 167 = .ok (.iconst 0, 1) := by decide +kernel
theorem dX7_advance_168 : decode cX7_advance 168 = .ok (.putfield 37, 3) := by decide +kernel
theorem dX7_advance_171 : decode cX7_advance 171 = .ok (.aload_n 0, 1) := by decide +kernel
theorem dX7_advance_172 : decode cX7_advance 172 = .ok (.dup, 1) := by decide +kernel
theorem dX7_advance_173 : decode cX7_advance 173 = .ok (.getfield 31, 3) := by decide +kernel
theorem dX7_advance_176 : decode cX7_advance 176 = .ok (.iconst 1, 1) := by decide +kernel
theorem dX7_advance_177 : decode cX7_advance 177 = .ok (.iadd, 1) := by decide +kernel
theorem dX7_advance_178 : decode cX7_advance 178 = .ok (.putfield 31, 3) := by decide +kernel
theorem dX7_advance_181 : decode cX7_advance 181 = .ok (.iinc 2 1, 3) := by decide +kernel
theorem dX7_advance_184 : decode cX7_advance 184 = .ok (.goto (-79), 3) := by decide +kernel
theorem dX7_advance_187 : decode cX7_advance 187 = .ok (.aload_n 0, 1) := by decide +kernel
theorem dX7_advance_188 : decode cX7_advance 188 = .ok (.getfield 34, 3) := by decide +kernel
theorem dX7_advance_191 : decode cX7_advance 191 = .ok (.iconst 1, 1) := by decide +kernel
theorem dX7_advance_192 : decode cX7_advance 192 = .ok (.if_icmp .ne 20, 3) := by decide +kernel
theorem dX7_advance_195 : decode cX7_advance 195 = .ok (.aload_n 0, 1) := by decide +kernel
theorem dX7_advance_196 : decode cX7_advance 196 = .ok (.getfield 31, 3) := by decide +kernel
theorem dX7_advance_199 : decode cX7_advance 199 = .ok (.aload_n 0, 1) := by decide +kernel
theorem dX7_advance_200 : decode cX7_advance 200 = .ok (.getfield 28, 3) := by decide +kernel
theorem dX7_advance_203 : decode cX7_advance 203 = .ok (.isub, 1) := by decide +kernel
theorem dX7_advance_204 : decode cX7_advance 204 = .ok (.iconst 3, 1) := by decide +kernel
theorem dX7_advance_205 : decode cX7_advance 205 = .ok (.if_icmp .le 7, 3) := by decide +kernel
theorem dX7_advance_208 : decode cX7_advance 208 = .ok (.iconst 1, 1) := by decide +kernel
theorem dX7_advance_209 : decode cX7_advance 209 = .ok (.goto 4, 3) := by decide +kernel
theorem dX7_advance_212 : decode cX7_advance 212 = .ok (.iconst 0, 1) := by decide +kernel
theorem dX7_advance_213 : decode cX7_advance 213 = .ok (.istore_n 2, 1) := by decide +kernel
theorem dX7_advance_214 : decode cX7_advance 214 = .ok (.aload_n 0, 1) := by decide +kernel
theorem dX7_advance_215 : decode cX7_advance 215 = .ok (.getfield 34, 3) := by decide +kernel
theorem dX7_advance_218 : decode cX7_advance 218 = .ok (.ifCond .eq 7, 3) := by decide +kernel
theorem dX7_advance_221 : decode cX7_advance 221 = .ok (.iload_n 2, 1) := by decide +kernel
theorem dX7_advance_222 : decode cX7_advance 222 = .ok (.ifCond .eq 11, 3) := by decide +kernel
theorem dX7_advance_225 : decode cX7_advance 225 = .ok (.aload_n 0, 1) := by decide +kernel
theorem dX7_advance_226 : decode cX7_advance 226 = .ok (.iconst 1, 1) := by decide +kernel
theorem dX7_advance_227 : decode cX7_advance 227 = .ok (.invokevirtual 100, 3) := by decide +kernel
theorem dX7_advance_230 : decode cX7_advance 230 = .ok (.goto 4, 3) := by decide +kernel
theorem dX7_advance_233 : decode cX7_advance 233 = .ok (.iconst 1, 1) := by decide +kernel
theorem dX7_advance_234 : decode cX7_advance 234 = .ok (.ireturn, 1) := by decide +kernel
theorem dX7_byteAt_0 : decode cX7_byteAt 0 = .ok (.iload_n 1, 1) := by decide +kernel
theorem dX7_byteAt_1 : decode cX7_byteAt 1 = .ok (.ifCond .lt 33, 3) := by decide +kernel
theorem dX7_byteAt_4 : decode cX7_byteAt 4 = .ok (.iload_n 1, 1) := by decide +kernel
theorem dX7_byteAt_5 : decode cX7_byteAt 5 = .ok (.aload_n 0, 1) := by decide +kernel
theorem dX7_byteAt_6 : decode cX7_byteAt 6 = .ok (.getfield 25, 3) := by decide +kernel
theorem dX7_byteAt_9 : decode cX7_byteAt 9 = .ok (.if_icmp .ge 25, 3) := by decide +kernel
theorem dX7_byteAt_12 : decode cX7_byteAt 12 = .ok (.iload_n 1, 1) := by decide +kernel
theorem dX7_byteAt_13 : decode cX7_byteAt 13 = .ok (.aload_n 0, 1) := by decide +kernel
theorem dX7_byteAt_14 : decode cX7_byteAt 14 = .ok (.getfield 21, 3) := by decide +kernel
theorem dX7_byteAt_17 : decode cX7_byteAt 17 = .ok (.arraylength, 1) := by decide +kernel
theorem dX7_byteAt_18 : decode cX7_byteAt 18 = .ok (.if_icmp .ge 16, 3) := by decide +kernel
theorem dX7_byteAt_21 : decode cX7_byteAt 21 = .ok (.aload_n 0, 1) := by decide +kernel
theorem dX7_byteAt_22 : decode cX7_byteAt 22 = .ok (.getfield 21, 3) := by decide +kernel
theorem dX7_byteAt_25 : decode cX7_byteAt 25 = .ok (.iload_n 1, 1) := by decide +kernel
theorem dX7_byteAt_26 : decode cX7_byteAt 26 = .ok (.baload, 1) := by decide +kernel
theorem dX7_byteAt_27 : decode cX7_byteAt 27 = .ok (.sipush 255, 3) := by decide +kernel
theorem dX7_byteAt_30 : decode cX7_byteAt 30 = .ok (.iand, 1) := by decide +kernel
theorem dX7_byteAt_31 : decode cX7_byteAt 31 = .ok (.goto 4, 3) := by decide +kernel
theorem dX7_byteAt_34 : decode cX7_byteAt 34 = .ok (.iconst (-1), 1) := by decide +kernel
theorem dX7_byteAt_35 : decode cX7_byteAt 35 = .ok (.ireturn, 1) := by decide +kernel
theorem dX7_isBlank_0 : decode cX7_isBlank 0 = .ok (.iload_n 0, 1) := by decide +kernel
theorem dX7_isBlank_1 : decode cX7_isBlank 1 = .ok (.bipush 10, 2) := by decide +kernel
theorem dX7_isBlank_3 : decode cX7_isBlank 3 = .ok (.if_icmp .eq 9, 3) := by decide +kernel
theorem dX7_isBlank_6 : decode cX7_isBlank 6 = .ok (.iload_n 0, 1) := by decide +kernel
theorem dX7_isBlank_7 : decode cX7_isBlank 7 = .ok (.bipush 32, 2) := by decide +kernel
theorem dX7_isBlank_9 : decode cX7_isBlank 9 = .ok (.if_icmp .ne 7, 3) := by decide +kernel
theorem dX7_isBlank_12 : decode cX7_isBlank 12 = .ok (.iconst 1, 1) := by decide +kernel
theorem dX7_isBlank_13 : decode cX7_isBlank 13 = .ok (.goto 4, 3) := by decide +kernel
theorem dX7_isBlank_16 : decode cX7_isBlank 16 = .ok (.iconst 0, 1) := by decide +kernel
theorem dX7_isBlank_17 : decode cX7_isBlank 17 = .ok (.ireturn, 1) := by decide +kernel
theorem dX7_kindOf_0 : decode cX7_kindOf 0 = .ok (.iload_n 0, 1) := by decide +kernel
theorem dX7_kindOf_1 : decode cX7_kindOf 1 = .ok (.bipush 97, 2) := by decide +kernel
theorem dX7_kindOf_3 : decode cX7_kindOf 3 = .ok (.if_icmp .lt 11, 3) := by decide +kernel
theorem dX7_kindOf_6 : decode cX7_kindOf 6 = .ok (.iload_n 0, 1) := by decide +kernel
theorem dX7_kindOf_7 : decode cX7_kindOf 7 = .ok (.bipush 122, 2) := by decide +kernel
theorem dX7_kindOf_9 : decode cX7_kindOf 9 = .ok (.if_icmp .gt 5, 3) := by decide +kernel
theorem dX7_kindOf_12 : decode cX7_kindOf 12 = .ok (.iconst 2, 1) := by decide +kernel
theorem dX7_kindOf_13 : decode cX7_kindOf 13 = .ok (.ireturn, 1) := by decide +kernel
theorem dX7_kindOf_14 : decode cX7_kindOf 14 = .ok (.iload_n 0, 1) := by decide +kernel
theorem dX7_kindOf_15 : decode cX7_kindOf 15 = .ok (.bipush 48, 2) := by decide +kernel
theorem dX7_kindOf_17 : decode cX7_kindOf 17 = .ok (.if_icmp .lt 11, 3) := by decide +kernel
theorem dX7_kindOf_20 : decode cX7_kindOf 20 = .ok (.iload_n 0, 1) := by decide +kernel
theorem dX7_kindOf_21 : decode cX7_kindOf 21 = .ok (.bipush 57, 2) := by decide +kernel
theorem dX7_kindOf_23 : decode cX7_kindOf 23 = .ok (.if_icmp .gt 5, 3) := by decide +kernel
theorem dX7_kindOf_26 : decode cX7_kindOf 26 = .ok (.iconst 1, 1) := by decide +kernel
theorem dX7_kindOf_27 : decode cX7_kindOf 27 = .ok (.ireturn, 1) := by decide +kernel
theorem dX7_kindOf_28 : decode cX7_kindOf 28 = .ok (.iload_n 0, 1) := by decide +kernel
theorem dX7_kindOf_29 : decode cX7_kindOf 29 = .ok (.lookupswitch 111 #[(-1, 107), (40, 109), (41, 109), (42, 109), (43, 109), (45, 109), (59, 109), (60, 109), (61, 109), (62, 109), (91, 109), (93, 109)], 107) := by decide +kernel
theorem dX7_kindOf_136 : decode cX7_kindOf 136 = .ok (.iconst 4, 1) := by decide +kernel
theorem dX7_kindOf_137 : decode cX7_kindOf 137 = .ok (.ireturn, 1) := by decide +kernel
theorem dX7_kindOf_138 : decode cX7_kindOf 138 = .ok (.iconst 3, 1) := by decide +kernel
theorem dX7_kindOf_139 : decode cX7_kindOf 139 = .ok (.ireturn, 1) := by decide +kernel
theorem dX7_kindOf_140 : decode cX7_kindOf 140 = .ok (.iconst 0, 1) := by decide +kernel
theorem dX7_kindOf_141 : decode cX7_kindOf 141 = .ok (.ireturn, 1) := by decide +kernel
theorem dX8_init_0 : decode cX8_init 0 = .ok (.aload_n 0, 1) := by decide +kernel
theorem dX8_init_1 : decode cX8_init 1 = .ok (.invokespecial 3, 3) := by decide +kernel
theorem dX8_init_4 : decode cX8_init 4 = .ok (.aload_n 0, 1) := by decide +kernel
theorem dX8_init_5 : decode cX8_init 5 = .ok (.sipush 360, 3) := by decide +kernel
theorem dX8_init_8 : decode cX8_init 8 = .ok (.newarray .int, 2) := by decide +kernel
theorem dX8_init_10 : decode cX8_init 10 = .ok (.putfield 9, 3) := by decide +kernel
theorem dX8_init_13 : decode cX8_init 13 = .ok (.aload_n 0, 1) := by decide +kernel
theorem dX8_init_14 : decode cX8_init 14 = .ok (.bipush 7, 2) := by decide +kernel
theorem dX8_init_16 : decode cX8_init 16 = .ok (.newarray .int, 2) := by decide +kernel
theorem dX8_init_18 : decode cX8_init 18 = .ok (.putfield 15, 3) := by decide +kernel
theorem dX8_init_21 : decode cX8_init 21 = .ok (.aload_n 0, 1) := by decide +kernel
theorem dX8_init_22 : decode cX8_init 22 = .ok (.bipush 11, 2) := by decide +kernel
theorem dX8_init_24 : decode cX8_init 24 = .ok (.newarray .int, 2) := by decide +kernel
theorem dX8_init_26 : decode cX8_init 26 = .ok (.putfield 18, 3) := by decide +kernel
theorem dX8_init_29 : decode cX8_init 29 = .ok (.aload_n 0, 1) := by decide +kernel
theorem dX8_init_30 : decode cX8_init 30 = .ok (.iconst 1, 1) := by decide +kernel
theorem dX8_init_31 : decode cX8_init 31 = .ok (.putfield 21, 3) := by decide +kernel
theorem dX8_init_34 : decode cX8_init 34 = .ok (.aload_n 0, 1) := by decide +kernel
theorem dX8_init_35 : decode cX8_init 35 = .ok (.iconst 1, 1) := by decide +kernel
theorem dX8_init_36 : decode cX8_init 36 = .ok (.putfield 25, 3) := by decide +kernel
theorem dX8_init_39 : decode cX8_init 39 = .ok (.aload_n 0, 1) := by decide +kernel
theorem dX8_init_40 : decode cX8_init 40 = .ok (.iconst 1, 1) := by decide +kernel
theorem dX8_init_41 : decode cX8_init 41 = .ok (.putfield 28, 3) := by decide +kernel
theorem dX8_init_44 : decode cX8_init 44 = .ok (.return_, 1) := by decide +kernel
theorem dX8_over_0 : decode cX8_over 0 = .ok (.aload_n 0, 1) := by decide +kernel
theorem dX8_over_1 : decode cX8_over 1 = .ok (.iconst 1, 1) := by decide +kernel
theorem dX8_over_2 : decode cX8_over 2 = .ok (.putfield 21, 3) := by decide +kernel
theorem dX8_over_5 : decode cX8_over 5 = .ok (.aload_n 0, 1) := by decide +kernel
theorem dX8_over_6 : decode cX8_over 6 = .ok (.iconst 1, 1) := by decide +kernel
theorem dX8_over_7 : decode cX8_over 7 = .ok (.putfield 25, 3) := by decide +kernel
theorem dX8_over_10 : decode cX8_over 10 = .ok (.aload_n 0, 1) := by decide +kernel
theorem dX8_over_11 : decode cX8_over 11 = .ok (.iconst 1, 1) := by decide +kernel
theorem dX8_over_12 : decode cX8_over 12 = .ok (.putfield 28, 3) := by decide +kernel
theorem dX8_over_15 : decode cX8_over 15 = .ok (.iconst 0, 1) := by decide +kernel
theorem dX8_over_16 : decode cX8_over 16 = .ok (.istore_n 3, 1) := by decide +kernel
theorem dX8_over_17 : decode cX8_over 17 = .ok (.iload_n 3, 1) := by decide +kernel
theorem dX8_over_18 : decode cX8_over 18 = .ok (.aload_n 1, 1) := by decide +kernel
theorem dX8_over_19 : decode cX8_over 19 = .ok (.getfield 31, 3) := by decide +kernel
theorem dX8_over_22 : decode cX8_over 22 = .ok (.getfield 37, 3) := by decide +kernel
theorem dX8_over_25 : decode cX8_over 25 = .ok (.if_icmp .ge 29, 3) := by decide +kernel
theorem dX8_over_28 : decode cX8_over 28 = .ok (.iload_n 2, 1) := by decide +kernel
theorem dX8_over_29 : decode cX8_over 29 = .ok (.iload_n 3, 1) := by decide +kernel
theorem dX8_over_30 : decode cX8_over 30 = .ok (.invokestatic 42, 3) := by decide +kernel
theorem dX8_over_33 : decode cX8_over 33 = .ok (.ifCond .eq 15, 3) := by decide +kernel
theorem dX8_over_36 : decode cX8_over 36 = .ok (.aload_n 0, 1) := by decide +kernel
theorem dX8_over_37 : decode cX8_over 37 = .ok (.aload_n 1, 1) := by decide +kernel
theorem dX8_over_38 : decode cX8_over 38 = .ok (.getfield 31, 3) := by decide +kernel
theorem dX8_over_41 : decode cX8_over 41 = .ok (.iload_n 3, 1) := by decide +kernel
theorem dX8_over_42 : decode cX8_over 42 = .ok (.invokevirtual 46, 3) := by decide +kernel
theorem dX8_over_45 : decode cX8_over 45 = .ok (.invokevirtual 50, 3) := by decide +kernel
theorem dX8_over_48 : decode cX8_over 48 = .ok (.iinc 3 1, 3) := by decide +kernel
theorem dX8_over_51 : decode cX8_over 51 = .ok (.goto (-34), 3) := by decide +kernel
theorem dX8_over_54 : decode cX8_over 54 = .ok (.aload_n 0, 1) := by decide +kernel
theorem dX8_over_55 : decode cX8_over 55 = .ok (.getfield 9, 3) := by decide +kernel
theorem dX8_over_58 : decode cX8_over 58 = .ok (.invokestatic 54, 3) := by decide +kernel
theorem dX8_over_61 : decode cX8_over 61 = .ok (.aload_n 0, 1) := by decide +kernel
theorem dX8_over_62 : decode cX8_over 62 = .ok (.getfield 15, 3) := by decide +kernel
theorem dX8_over_65 : decode cX8_over 65 = .ok (.invokestatic 54, 3) := by decide +kernel
theorem dX8_over_68 : decode cX8_over 68 = .ok (.aload_n 0, 1) := by decide +kernel
theorem dX8_over_69 : decode cX8_over 69 = .ok (.getfield 18, 3) := by decide +kernel
theorem dX8_over_72 : decode cX8_over 72 = .ok (.invokestatic 54, 3) := by decide +kernel
theorem dX8_over_75 : decode cX8_over 75 = .ok (.iconst 0, 1) := by decide +kernel
theorem dX8_over_76 : decode cX8_over 76 = .ok (.istore_n 3, 1) := by decide +kernel
theorem dX8_over_77 : decode cX8_over 77 = .ok (.iload_n 3, 1) := by decide +kernel
theorem dX8_over_78 : decode cX8_over 78 = .ok (.aload_n 1, 1) := by decide +kernel
theorem dX8_over_79 : decode cX8_over 79 = .ok (.getfield 31, 3) := by decide +kernel
theorem dX8_over_82 : decode cX8_over 82 = .ok (.getfield 37, 3) := by decide +kernel
theorem dX8_over_85 : decode cX8_over 85 = .ok (.if_icmp .ge 23, 3) := by decide +kernel
theorem dX8_over_88 : decode cX8_over 88 = .ok (.iload_n 2, 1) := by decide +kernel
theorem dX8_over_89 : decode cX8_over 89 = .ok (.iload_n 3, 1) := by decide +kernel
theorem dX8_over_90 : decode cX8_over 90 = .ok (.invokestatic 42, 3) := by decide +kernel
theorem dX8_over_93 : decode cX8_over 93 = .ok (.ifCond .eq 9, 3) := by decide +kernel
theorem dX8_over_96 : decode cX8_over 96 = .ok (.aload_n 0, 1) := by decide +kernel
theorem dX8_over_97 : decode cX8_over 97 = .ok (.aload_n 1, 1) := by decide +kernel
theorem dX8_over_98 : decode cX8_over 98 = .ok (.iload_n 3, 1) := by decide +kernel
theorem dX8_over_99 : decode cX8_over 99 = .ok (.invokevirtual 58, 3) := by decide +kernel
theorem dX8_over_102 : decode cX8_over 102 = .ok (.iinc 3 1, 3) := by decide +kernel
theorem dX8_over_105 : decode cX8_over 105 = .ok (.goto (-28), 3) := by decide +kernel
theorem dX8_over_108 : decode cX8_over 108 = .ok (.return_, 1) := by decide +kernel
theorem dX8_joined_0 : decode cX8_joined 0 = .ok (.aload_n 0, 1) := by decide +kernel
theorem dX8_joined_1 : decode cX8_joined 1 = .ok (.getfield 21, 3) := by decide +kernel
theorem dX8_joined_4 : decode cX8_joined 4 = .ok (.aload_n 0, 1) := by decide +kernel
theorem dX8_joined_5 : decode cX8_joined 5 = .ok (.getfield 25, 3) := by decide +kernel
theorem dX8_joined_8 : decode cX8_joined 8 = .ok (.imul, 1) := by decide +kernel
theorem dX8_joined_9 : decode cX8_joined 9 = .ok (.aload_n 0, 1) := by decide +kernel
theorem dX8_joined_10 : decode cX8_joined 10 = .ok (.getfield 28, 3) := by decide +kernel
theorem dX8_joined_13 : decode cX8_joined 13 = .ok (.imul, 1) := by decide +kernel
theorem dX8_joined_14 : decode cX8_joined 14 = .ok (.ireturn, 1) := by decide +kernel
theorem dX8_firstWith_0 : decode cX8_firstWith 0 = .ok (.aload_n 0, 1) := by decide +kernel
theorem dX8_firstWith_1 : decode cX8_firstWith 1 = .ok (.invokevirtual 62, 3) := by decide +kernel
theorem dX8_firstWith_4 : decode cX8_firstWith 4 = .ok (.istore_n 2, 1) := by decide +kernel
theorem dX8_firstWith_5 : decode cX8_firstWith 5 = .ok (.iconst 0, 1) := by decide +kernel
theorem dX8_firstWith_6 : decode cX8_firstWith 6 = .ok (.istore_n 3, 1) := by decide +kernel
theorem dX8_firstWith_7 : decode cX8_firstWith 7 = .ok (.iload_n 3, 1) := by decide +kernel
theorem dX8_firstWith_8 : decode cX8_firstWith 8 = .ok (.iload_n 2, 1) := by decide +kernel
theorem dX8_firstWith_9 : decode cX8_firstWith 9 = .ok (.if_icmp .ge 20, 3) := by decide +kernel
theorem dX8_firstWith_12 : decode cX8_firstWith 12 = .ok (.aload_n 0, 1) := by decide +kernel
theorem dX8_firstWith_13 : decode cX8_firstWith 13 = .ok (.iload_n 3, 1) := by decide +kernel
theorem dX8_firstWith_14 : decode cX8_firstWith 14 = .ok (.invokevirtual 66, 3) := by decide +kernel
theorem dX8_firstWith_17 : decode cX8_firstWith 17 = .ok (.iload_n 1, 1) := by decide +kernel
theorem dX8_firstWith_18 : decode cX8_firstWith 18 = .ok (.if_icmp .ne 5, 3) := by decide +kernel
theorem dX8_firstWith_21 : decode cX8_firstWith 21 = .ok (.iload_n 3, 1) := by decide +kernel
theorem dX8_firstWith_22 : decode cX8_firstWith 22 = .ok (.ireturn, 1) := by decide +kernel
theorem dX8_firstWith_23 : decode cX8_firstWith 23 = .ok (.iinc 3 1, 3) := by decide +kernel
theorem dX8_firstWith_26 : decode cX8_firstWith 26 = .ok (.goto (-19), 3) := by decide +kernel
theorem dX8_firstWith_29 : decode cX8_firstWith 29 = .ok (.iconst (-1), 1) := by decide +kernel
theorem dX8_firstWith_30 : decode cX8_firstWith 30 = .ok (.ireturn, 1) := by decide +kernel
theorem dX8_hoursWith_0 : decode cX8_hoursWith 0 = .ok (.aload_n 0, 1) := by decide +kernel
theorem dX8_hoursWith_1 : decode cX8_hoursWith 1 = .ok (.invokevirtual 62, 3) := by decide +kernel
theorem dX8_hoursWith_4 : decode cX8_hoursWith 4 = .ok (.istore_n 2, 1) := by decide +kernel
theorem dX8_hoursWith_5 : decode cX8_hoursWith 5 = .ok (.iconst 0, 1) := by decide +kernel
theorem dX8_hoursWith_6 : decode cX8_hoursWith 6 = .ok (.istore_n 3, 1) := by decide +kernel
theorem dX8_hoursWith_7 : decode cX8_hoursWith 7 = .ok (.iconst 0, 1) := by decide +kernel
theorem dX8_hoursWith_8 : decode cX8_hoursWith 8 = .ok (.istore 4, 2) := by decide +kernel
theorem dX8_hoursWith_10 : decode cX8_hoursWith 10 = .ok (.iload 4, 2) := by decide +kernel
theorem dX8_hoursWith_12 : decode cX8_hoursWith 12 = .ok (.iload_n 2, 1) := by decide +kernel
theorem dX8_hoursWith_13 : decode cX8_hoursWith 13 = .ok (.if_icmp .ge 22, 3) := by decide +kernel
theorem dX8_hoursWith_16 : decode cX8_hoursWith 16 = .ok (.aload_n 0, 1) := by decide +kernel
theorem dX8_hoursWith_17 : decode cX8_hoursWith 17 = .ok (.iload 4, 2) := by decide +kernel
theorem dX8_hoursWith_19 : decode cX8_hoursWith 19 = .ok (.invokevirtual 66, 3) := by decide +kernel
theorem dX8_hoursWith_22 : decode cX8_hoursWith 22 = .ok (.iload_n 1, 1) := by decide +kernel
theorem dX8_hoursWith_23 : decode cX8_hoursWith 23 = .ok (.if_icmp .ne 6, 3) := by decide +kernel
theorem dX8_hoursWith_26 : decode cX8_hoursWith 26 = .ok (.iinc 3 1, 3) := by decide +kernel
theorem dX8_hoursWith_29 : decode cX8_hoursWith 29 = .ok (.iinc 4 1, 3) := by decide +kernel
theorem dX8_hoursWith_32 : decode cX8_hoursWith 32 = .ok (.goto (-22), 3) := by decide +kernel
theorem dX8_hoursWith_35 : decode cX8_hoursWith 35 = .ok (.iload_n 3, 1) := by decide +kernel
theorem dX8_hoursWith_36 : decode cX8_hoursWith 36 = .ok (.ireturn, 1) := by decide +kernel
theorem dX8_fewest_0 : decode cX8_fewest 0 = .ok (.aload_n 0, 1) := by decide +kernel
theorem dX8_fewest_1 : decode cX8_fewest 1 = .ok (.invokevirtual 62, 3) := by decide +kernel
theorem dX8_fewest_4 : decode cX8_fewest 4 = .ok (.istore_n 1, 1) := by decide +kernel
theorem dX8_fewest_5 : decode cX8_fewest 5 = .ok (.bipush 10, 2) := by decide +kernel
theorem dX8_fewest_7 : decode cX8_fewest 7 = .ok (.istore_n 2, 1) := by decide +kernel
theorem dX8_fewest_8 : decode cX8_fewest 8 = .ok (.iconst 0, 1) := by decide +kernel
theorem dX8_fewest_9 : decode cX8_fewest 9 = .ok (.istore_n 3, 1) := by decide +kernel
theorem dX8_fewest_10 : decode cX8_fewest 10 = .ok (.iload_n 3, 1) := by decide +kernel
theorem dX8_fewest_11 : decode cX8_fewest 11 = .ok (.iload_n 1, 1) := by decide +kernel
theorem dX8_fewest_12 : decode cX8_fewest 12 = .ok (.if_icmp .ge 19, 3) := by decide +kernel
theorem dX8_fewest_15 : decode cX8_fewest 15 = .ok (.iload_n 2, 1) := by decide +kernel
theorem dX8_fewest_16 : decode cX8_fewest 16 = .ok (.aload_n 0, 1) := by decide +kernel
theorem dX8_fewest_17 : decode cX8_fewest 17 = .ok (.iload_n 3, 1) := by decide +kernel
theorem dX8_fewest_18 : decode cX8_fewest 18 = .ok (.invokevirtual 66, 3) := by decide +kernel
theorem dX8_fewest_21 : decode cX8_fewest 21 = .ok (.invokestatic 69, 3) := by decide +kernel
theorem dX8_fewest_24 : decode cX8_fewest 24 = .ok (.istore_n 2, 1) := by decide +kernel
theorem dX8_fewest_25 : decode cX8_fewest 25 = .ok (.iinc 3 1, 3) := by decide +kernel
theorem dX8_fewest_28 : decode cX8_fewest 28 = .ok (.goto (-18), 3) := by decide +kernel
theorem dX8_fewest_31 : decode cX8_fewest 31 = .ok (.iload_n 2, 1) := by decide +kernel
theorem dX8_fewest_32 : decode cX8_fewest 32 = .ok (.ireturn, 1) := by decide +kernel
theorem dX8_widen_0 : decode cX8_widen 0 = .ok (.iload_n 1, 1) := by decide +kernel
theorem dX8_widen_1 : decode cX8_widen 1 = .ok (.aload_n 0, 1) := by decide +kernel
theorem dX8_widen_2 : decode cX8_widen 2 = .ok (.getfield 15, 3) := by decide +kernel
theorem dX8_widen_5 : decode cX8_widen 5 = .ok (.arraylength, 1) := by decide +kernel
theorem dX8_widen_6 : decode cX8_widen 6 = .ok (.if_icmp .ne 11, 3) := by decide +kernel
theorem dX8_widen_9 : decode cX8_widen 9 = .ok (.aload_n 0, 1) := by decide +kernel
theorem dX8_widen_10 : decode cX8_widen 10 = .ok (.iload_n 1, 1) := by decide +kernel
theorem dX8_widen_11 : decode cX8_widen 11 = .ok (.putfield 25, 3) := by decide +kernel
theorem dX8_widen_14 : decode cX8_widen 14 = .ok (.goto 32, 3) := by decide +kernel
theorem dX8_widen_17 : decode cX8_widen 17 = .ok (.iload_n 1, 1) := by decide +kernel
theorem dX8_widen_18 : decode cX8_widen 18 = .ok (.aload_n 0, 1) := by decide +kernel
theorem dX8_widen_19 : decode cX8_widen 19 = .ok (.getfield 18, 3) := by decide +kernel
theorem dX8_widen_22 : decode cX8_widen 22 = .ok (.arraylength, 1) := by decide +kernel
theorem dX8_widen_23 : decode cX8_widen 23 = .ok (.if_icmp .ne 11, 3) := by decide +kernel
theorem dX8_widen_26 : decode cX8_widen 26 = .ok (.aload_n 0, 1) := by decide +kernel
theorem dX8_widen_27 : decode cX8_widen 27 = .ok (.iload_n 1, 1) := by decide +kernel
theorem dX8_widen_28 : decode cX8_widen 28 = .ok (.putfield 28, 3) := by decide +kernel
theorem dX8_widen_31 : decode cX8_widen 31 = .ok (.goto 15, 3) := by decide +kernel
theorem dX8_widen_34 : decode cX8_widen 34 = .ok (.aload_n 0, 1) := by decide +kernel
theorem dX8_widen_35 : decode cX8_widen 35 = .ok (.aload_n 0, 1) := by decide +kernel
theorem dX8_widen_36 : decode cX8_widen 36 = .ok (.getfield 21, 3) := by decide +kernel
theorem dX8_widen_39 : decode cX8_widen 39 = .ok (.iload_n 1, 1) := by decide +kernel
theorem dX8_widen_40 : decode cX8_widen 40 = .ok (.invokestatic 75, 3) := by decide +kernel
theorem dX8_widen_43 : decode cX8_widen 43 = .ok (.putfield 21, 3) := by decide +kernel
theorem dX8_widen_46 : decode cX8_widen 46 = .ok (.return_, 1) := by decide +kernel
theorem dX8_addWell_0 : decode cX8_addWell 0 = .ok (.aload_n 1, 1) := by decide +kernel
theorem dX8_addWell_1 : decode cX8_addWell 1 = .ok (.getfield 31, 3) := by decide +kernel
theorem dX8_addWell_4 : decode cX8_addWell 4 = .ok (.iload_n 2, 1) := by decide +kernel
theorem dX8_addWell_5 : decode cX8_addWell 5 = .ok (.invokevirtual 46, 3) := by decide +kernel
theorem dX8_addWell_8 : decode cX8_addWell 8 = .ok (.istore_n 3, 1) := by decide +kernel
theorem dX8_addWell_9 : decode cX8_addWell 9 = .ok (.iload_n 3, 1) := by decide +kernel
theorem dX8_addWell_10 : decode cX8_addWell 10 = .ok (.aload_n 0, 1) := by decide +kernel
theorem dX8_addWell_11 : decode cX8_addWell 11 = .ok (.getfield 15, 3) := by decide +kernel
theorem dX8_addWell_14 : decode cX8_addWell 14 = .ok (.arraylength, 1) := by decide +kernel
theorem dX8_addWell_15 : decode cX8_addWell 15 = .ok (.if_icmp .ne 19, 3) := by decide +kernel
theorem dX8_addWell_18 : decode cX8_addWell 18 = .ok (.aload_n 0, 1) := by decide +kernel
theorem dX8_addWell_19 : decode cX8_addWell 19 = .ok (.getfield 15, 3) := by decide +kernel
theorem dX8_addWell_22 : decode cX8_addWell 22 = .ok (.aload_n 0, 1) := by decide +kernel
theorem dX8_addWell_23 : decode cX8_addWell 23 = .ok (.getfield 25, 3) := by decide +kernel
theorem dX8_addWell_26 : decode cX8_addWell 26 = .ok (.aload_n 1, 1) := by decide +kernel
theorem dX8_addWell_27 : decode cX8_addWell 27 = .ok (.iload_n 2, 1) := by decide +kernel
theorem dX8_addWell_28 : decode cX8_addWell 28 = .ok (.invokestatic 78, 3) := by decide +kernel
theorem dX8_addWell_31 : decode cX8_addWell 31 = .ok (.goto 41, 3) := by decide +kernel
theorem dX8_addWell_34 : decode cX8_addWell 34 = .ok (.iload_n 3, 1) := by decide +kernel
theorem dX8_addWell_35 : decode cX8_addWell 35 = .ok (.aload_n 0, 1) := by decide +kernel
theorem dX8_addWell_36 : decode cX8_addWell 36 = .ok (.getfield 18, 3) := by decide +kernel
theorem dX8_addWell_39 : decode cX8_addWell 39 = .ok (.arraylength, 1) := by decide +kernel
theorem dX8_addWell_40 : decode cX8_addWell 40 = .ok (.if_icmp .ne 19, 3) := by decide +kernel
theorem dX8_addWell_43 : decode cX8_addWell 43 = .ok (.aload_n 0, 1) := by decide +kernel
theorem dX8_addWell_44 : decode cX8_addWell 44 = .ok (.getfield 18, 3) := by decide +kernel
theorem dX8_addWell_47 : decode cX8_addWell 47 = .ok (.aload_n 0, 1) := by decide +kernel
theorem dX8_addWell_48 : decode cX8_addWell 48 = .ok (.getfield 28, 3) := by decide +kernel
theorem dX8_addWell_51 : decode cX8_addWell 51 = .ok (.aload_n 1, 1) := by decide +kernel
theorem dX8_addWell_52 : decode cX8_addWell 52 = .ok (.iload_n 2, 1) := by decide +kernel
theorem dX8_addWell_53 : decode cX8_addWell 53 = .ok (.invokestatic 78, 3) := by decide +kernel
theorem dX8_addWell_56 : decode cX8_addWell 56 = .ok (.goto 16, 3) := by decide +kernel
theorem dX8_addWell_59 : decode cX8_addWell 59 = .ok (.aload_n 0, 1) := by decide +kernel
theorem dX8_addWell_60 : decode cX8_addWell 60 = .ok (.getfield 9, 3) := by decide +kernel
theorem dX8_addWell_63 : decode cX8_addWell 63 = .ok (.aload_n 0, 1) := by decide +kernel
theorem dX8_addWell_64 : decode cX8_addWell 64 = .ok (.getfield 21, 3) := by decide +kernel
theorem dX8_addWell_67 : decode cX8_addWell 67 = .ok (.aload_n 1, 1) := by decide +kernel
theorem dX8_addWell_68 : decode cX8_addWell 68 = .ok (.iload_n 2, 1) := by decide +kernel
theorem dX8_addWell_69 : decode cX8_addWell 69 = .ok (.invokestatic 78, 3) := by decide +kernel
theorem dX8_addWell_72 : decode cX8_addWell 72 = .ok (.return_, 1) := by decide +kernel
theorem dX8_addTo_0 : decode cX8_addTo 0 = .ok (.iconst 0, 1) := by decide +kernel
theorem dX8_addTo_1 : decode cX8_addTo 1 = .ok (.istore 4, 2) := by decide +kernel
theorem dX8_addTo_3 : decode cX8_addTo 3 = .ok (.iload 4, 2) := by decide +kernel
theorem dX8_addTo_5 : decode cX8_addTo 5 = .ok (.iload_n 1, 1) := by decide +kernel
theorem dX8_addTo_6 : decode cX8_addTo 6 = .ok (.if_icmp .ge 34, 3) := by decide +kernel
theorem dX8_addTo_9 : decode cX8_addTo 9 = .ok (.iload 4, 2) := by decide +kernel
theorem dX8_addTo_11 : decode cX8_addTo 11 = .ok (.aload_n 0, 1) := by decide +kernel
theorem dX8_addTo_12 : decode cX8_addTo 12 = .ok (.arraylength, 1) := by decide +kernel
theorem dX8_addTo_13 : decode cX8_addTo 13 = .ok (.if_icmp .ge 27, 3) := by decide +kernel
theorem dX8_addTo_16 : decode cX8_addTo 16 = .ok (.aload_n 2, 1) := by decide +kernel
theorem dX8_addTo_17 : decode cX8_addTo 17 = .ok (.iload_n 3, 1) := by decide +kernel
theorem dX8_addTo_18 : decode cX8_addTo 18 = .ok (.iload 4, 2) := by decide +kernel
theorem dX8_addTo_20 : decode cX8_addTo 20 = .ok (.invokevirtual 82, 3) := by decide +kernel
theorem dX8_addTo_23 : decode cX8_addTo 23 = .ok (.ifCond .eq 11, 3) := by decide +kernel
theorem dX8_addTo_26 : decode cX8_addTo 26 = .ok (.aload_n 0, 1) := by decide +kernel
theorem dX8_addTo_27 : decode cX8_addTo 27 = .ok (.iload 4, 2) := by decide +kernel
theorem dX8_addTo_29 : decode cX8_addTo 29 = .ok (.dup2, 1) := by decide +kernel
theorem dX8_addTo_30 : decode cX8_addTo 30 = .ok (.iaload, 1) := by decide +kernel
theorem dX8_addTo_31 : decode cX8_addTo 31 = .ok (.iconst 1, 1) := by decide +kernel
theorem dX8_addTo_32 : decode cX8_addTo 32 = .ok (.iadd, 1) := by decide +kernel
theorem dX8_addTo_33 : decode cX8_addTo 33 = .ok (.iastore, 1) := by decide +kernel
theorem dX8_addTo_34 : decode cX8_addTo 34 = .ok (.iinc 4 1, 3) := by decide +kernel
theorem dX8_addTo_37 : decode cX8_addTo 37 = .ok (.goto (-34), 3) := by decide +kernel
theorem dX8_addTo_40 : decode cX8_addTo 40 = .ok (.return_, 1) := by decide +kernel
theorem dX8_awakeIn_0 : decode cX8_awakeIn 0 = .ok (.aload_n 0, 1) := by decide +kernel
theorem dX8_awakeIn_1 : decode cX8_awakeIn 1 = .ok (.getfield 9, 3) := by decide +kernel
theorem dX8_awakeIn_4 : decode cX8_awakeIn 4 = .ok (.aload_n 0, 1) := by decide +kernel
theorem dX8_awakeIn_5 : decode cX8_awakeIn 5 = .ok (.getfield 21, 3) := by decide +kernel
theorem dX8_awakeIn_8 : decode cX8_awakeIn 8 = .ok (.iload_n 1, 1) := by decide +kernel
theorem dX8_awakeIn_9 : decode cX8_awakeIn 9 = .ok (.invokestatic 85, 3) := by decide +kernel
theorem dX8_awakeIn_12 : decode cX8_awakeIn 12 = .ok (.aload_n 0, 1) := by decide +kernel
theorem dX8_awakeIn_13 : decode cX8_awakeIn 13 = .ok (.getfield 15, 3) := by decide +kernel
theorem dX8_awakeIn_16 : decode cX8_awakeIn 16 = .ok (.aload_n 0, 1) := by decide +kernel
theorem dX8_awakeIn_17 : decode cX8_awakeIn 17 = .ok (.getfield 25, 3) := by decide +kernel
theorem dX8_awakeIn_20 : decode cX8_awakeIn 20 = .ok (.iload_n 1, 1) := by decide +kernel
theorem dX8_awakeIn_21 : decode cX8_awakeIn 21 = .ok (.invokestatic 85, 3) := by decide +kernel
theorem dX8_awakeIn_24 : decode cX8_awakeIn 24 = .ok (.iadd, 1) := by decide +kernel
theorem dX8_awakeIn_25 : decode cX8_awakeIn 25 = .ok (.aload_n 0, 1) := by decide +kernel
theorem dX8_awakeIn_26 : decode cX8_awakeIn 26 = .ok (.getfield 18, 3) := by decide +kernel
theorem dX8_awakeIn_29 : decode cX8_awakeIn 29 = .ok (.aload_n 0, 1) := by decide +kernel
theorem dX8_awakeIn_30 : decode cX8_awakeIn 30 = .ok (.getfield 28, 3) := by decide +kernel
theorem dX8_awakeIn_33 : decode cX8_awakeIn 33 = .ok (.iload_n 1, 1) := by decide +kernel
theorem dX8_awakeIn_34 : decode cX8_awakeIn 34 = .ok (.invokestatic 85, 3) := by decide +kernel
theorem dX8_awakeIn_37 : decode cX8_awakeIn 37 = .ok (.iadd, 1) := by decide +kernel
theorem dX8_awakeIn_38 : decode cX8_awakeIn 38 = .ok (.ireturn, 1) := by decide +kernel
theorem dX8_turn_0 : decode cX8_turn 0 = .ok (.iload_n 2, 1) := by decide +kernel
theorem dX8_turn_1 : decode cX8_turn 1 = .ok (.ifCond .lt 14, 3) := by decide +kernel
theorem dX8_turn_4 : decode cX8_turn 4 = .ok (.iload_n 1, 1) := by decide +kernel
theorem dX8_turn_5 : decode cX8_turn 5 = .ok (.iconst 1, 1) := by decide +kernel
theorem dX8_turn_6 : decode cX8_turn 6 = .ok (.if_icmp .lt 9, 3) := by decide +kernel
theorem dX8_turn_9 : decode cX8_turn 9 = .ok (.iload_n 1, 1) := by decide +kernel
theorem dX8_turn_10 : decode cX8_turn 10 = .ok (.aload_n 0, 1) := by decide +kernel
theorem dX8_turn_11 : decode cX8_turn 11 = .ok (.arraylength, 1) := by decide +kernel
theorem dX8_turn_12 : decode cX8_turn 12 = .ok (.if_icmp .le 7, 3) := by decide +kernel
theorem dX8_turn_15 : decode cX8_turn 15 = .ok (.iconst 0, 1) := by decide +kernel
theorem dX8_turn_16 : decode cX8_turn 16 = .ok (.goto 8, 3) := by decide +kernel
theorem dX8_turn_19 : decode cX8_turn 19 = .ok (.aload_n 0, 1) := by decide +kernel
theorem dX8_turn_20 : decode cX8_turn 20 = .ok (.iload_n 2, 1) := by decide +kernel
theorem dX8_turn_21 : decode cX8_turn 21 = .ok (.iload_n 1, 1) := by decide +kernel
theorem dX8_turn_22 : decode cX8_turn 22 = .ok (.irem, 1) := by decide +kernel
theorem dX8_turn_23 : decode cX8_turn 23 = .ok (.iaload, 1) := by decide +kernel
theorem dX8_turn_24 : decode cX8_turn 24 = .ok (.ireturn, 1) := by decide +kernel
theorem dX8_clear_0 : decode cX8_clear 0 = .ok (.iconst 0, 1) := by decide +kernel
theorem dX8_clear_1 : decode cX8_clear 1 = .ok (.istore_n 1, 1) := by decide +kernel
theorem dX8_clear_2 : decode cX8_clear 2 = .ok (.iload_n 1, 1) := by decide +kernel
theorem dX8_clear_3 : decode cX8_clear 3 = .ok (.aload_n 0, 1) := by decide +kernel
theorem dX8_clear_4 : decode cX8_clear 4 = .ok (.arraylength, 1) := by decide +kernel
theorem dX8_clear_5 : decode cX8_clear 5 = .ok (.if_icmp .ge 13, 3) := by decide +kernel
theorem dX8_clear_8 : decode cX8_clear 8 = .ok (.aload_n 0, 1) := by decide +kernel
theorem dX8_clear_9 : decode cX8_clear 9 = .ok (.iload_n 1, 1) := by decide +kernel
theorem dX8_clear_10 : decode cX8_clear 10 = .ok (.iconst 0, 1) := by decide +kernel
theorem dX8_clear_11 : decode cX8_clear 11 = .ok (.iastore, 1) := by decide +kernel
theorem dX8_clear_12 : decode cX8_clear 12 = .ok (.iinc 1 1, 3) := by decide +kernel
theorem dX8_clear_15 : decode cX8_clear 15 = .ok (.goto (-13), 3) := by decide +kernel
theorem dX8_clear_18 : decode cX8_clear 18 = .ok (.return_, 1) := by decide +kernel
theorem dX8_leastCommon_0 : decode cX8_leastCommon 0 = .ok (.iload_n 0, 1) := by decide +kernel
theorem dX8_leastCommon_1 : decode cX8_leastCommon 1 = .ok (.istore_n 2, 1) := by decide +kernel
theorem dX8_leastCommon_2 : decode cX8_leastCommon 2 = .ok (.iconst 1, 1) := by decide +kernel
theorem dX8_leastCommon_3 : decode cX8_leastCommon 3 = .ok (.istore_n 3, 1) := by decide +kernel
theorem dX8_leastCommon_4 : decode cX8_leastCommon 4 = .ok (.iload_n 3, 1) := by decide +kernel
theorem dX8_leastCommon_5 : decode cX8_leastCommon 5 = .ok (.iload_n 1, 1) := by decide +kernel
theorem dX8_leastCommon_6 : decode cX8_leastCommon 6 = .ok (.if_icmp .ge 23, 3) := by decide +kernel
theorem dX8_leastCommon_9 : decode cX8_leastCommon 9 = .ok (.iload_n 1, 1) := by decide +kernel
theorem dX8_leastCommon_10 : decode cX8_leastCommon 10 = .ok (.ifCond .le 19, 3) := by decide +kernel
theorem dX8_leastCommon_13 : decode cX8_leastCommon 13 = .ok (.iload_n 2, 1) := by decide +kernel
theorem dX8_leastCommon_14 : decode cX8_leastCommon 14 = .ok (.iload_n 1, 1) := by decide +kernel
theorem dX8_leastCommon_15 : decode cX8_leastCommon 15 = .ok (.irem, 1) := by decide +kernel
theorem dX8_leastCommon_16 : decode cX8_leastCommon 16 = .ok (.ifCond .eq 13, 3) := by decide +kernel
theorem dX8_leastCommon_19 : decode cX8_leastCommon 19 = .ok (.iload_n 2, 1) := by decide +kernel
theorem dX8_leastCommon_20 : decode cX8_leastCommon 20 = .ok (.iload_n 0, 1) := by decide +kernel
theorem dX8_leastCommon_21 : decode cX8_leastCommon 21 = .ok (.iadd, 1) := by decide +kernel
theorem dX8_leastCommon_22 : decode cX8_leastCommon 22 = .ok (.istore_n 2, 1) := by decide +kernel
theorem dX8_leastCommon_23 : decode cX8_leastCommon 23 = .ok (.iinc 3 1, 3) := by decide +kernel
theorem dX8_leastCommon_26 : decode cX8_leastCommon 26 = .ok (.goto (-22), 3) := by decide +kernel
theorem dX8_leastCommon_29 : decode cX8_leastCommon 29 = .ok (.iload_n 2, 1) := by decide +kernel
theorem dX8_leastCommon_30 : decode cX8_leastCommon 30 = .ok (.ireturn, 1) := by decide +kernel
theorem dX9_init_0 : decode cX9_init 0 = .ok (.aload_n 0, 1) := by decide +kernel
theorem dX9_init_1 : decode cX9_init 1 = .ok (.invokespecial 3, 3) := by decide +kernel
theorem dX9_init_4 : decode cX9_init 4 = .ok (.aload_n 0, 1) := by decide +kernel
theorem dX9_init_5 : decode cX9_init 5 = .ok (.iconst 0, 1) := by decide +kernel
theorem dX9_init_6 : decode cX9_init 6 = .ok (.putfield 9, 3) := by decide +kernel
theorem dX9_init_9 : decode cX9_init 9 = .ok (.aload_n 0, 1) := by decide +kernel
theorem dX9_init_10 : decode cX9_init 10 = .ok (.iconst 0, 1) := by decide +kernel
theorem dX9_init_11 : decode cX9_init 11 = .ok (.putfield 15, 3) := by decide +kernel
theorem dX9_init_14 : decode cX9_init 14 = .ok (.aload_n 0, 1) := by decide +kernel
theorem dX9_init_15 : decode cX9_init 15 = .ok (.iconst 0, 1) := by decide +kernel
theorem dX9_init_16 : decode cX9_init 16 = .ok (.putfield 18, 3) := by decide +kernel
theorem dX9_init_19 : decode cX9_init 19 = .ok (.aload_n 0, 1) := by decide +kernel
theorem dX9_init_20 : decode cX9_init 20 = .ok (.iconst 0, 1) := by decide +kernel
theorem dX9_init_21 : decode cX9_init 21 = .ok (.putfield 21, 3) := by decide +kernel
theorem dX9_init_24 : decode cX9_init 24 = .ok (.aload_n 0, 1) := by decide +kernel
theorem dX9_init_25 : decode cX9_init 25 = .ok (.sipush 649, 3) := by decide +kernel
theorem dX9_init_28 : decode cX9_init 28 = .ok (.newarray .int, 2) := by decide +kernel
theorem dX9_init_30 : decode cX9_init 30 = .ok (.putfield 24, 3) := by decide +kernel
theorem dX9_init_33 : decode cX9_init 33 = .ok (.return_, 1) := by decide +kernel
theorem dX9_canBeHeard_0 : decode cX9_canBeHeard 0 = .ok (.aload_n 0, 1) := by decide +kernel
theorem dX9_canBeHeard_1 : decode cX9_canBeHeard 1 = .ok (.getfield 28, 3) := by decide +kernel
theorem dX9_canBeHeard_4 : decode cX9_canBeHeard 4 = .ok (.iconst 1, 1) := by decide +kernel
theorem dX9_canBeHeard_5 : decode cX9_canBeHeard 5 = .ok (.if_icmp .lt 12, 3) := by decide +kernel
theorem dX9_canBeHeard_8 : decode cX9_canBeHeard 8 = .ok (.aload_n 0, 1) := by decide +kernel
theorem dX9_canBeHeard_9 : decode cX9_canBeHeard 9 = .ok (.getfield 28, 3) := by decide +kernel
theorem dX9_canBeHeard_12 : decode cX9_canBeHeard 12 = .ok (.bipush 24, 2) := by decide +kernel
theorem dX9_canBeHeard_14 : decode cX9_canBeHeard 14 = .ok (.if_icmp .le 5, 3) := by decide +kernel
theorem dX9_canBeHeard_17 : decode cX9_canBeHeard 17 = .ok (.iconst 0, 1) := by decide +kernel
theorem dX9_canBeHeard_18 : decode cX9_canBeHeard 18 = .ok (.ireturn, 1) := by decide +kernel
theorem dX9_canBeHeard_19 : decode cX9_canBeHeard 19 = .ok (.iconst 0, 1) := by decide +kernel
theorem dX9_canBeHeard_20 : decode cX9_canBeHeard 20 = .ok (.istore_n 1, 1) := by decide +kernel
theorem dX9_canBeHeard_21 : decode cX9_canBeHeard 21 = .ok (.iload_n 1, 1) := by decide +kernel
theorem dX9_canBeHeard_22 : decode cX9_canBeHeard 22 = .ok (.aload_n 0, 1) := by decide +kernel
theorem dX9_canBeHeard_23 : decode cX9_canBeHeard 23 = .ok (.getfield 28, 3) := by decide +kernel
theorem dX9_canBeHeard_26 : decode cX9_canBeHeard 26 = .ok (.if_icmp .ge 33, 3) := by decide +kernel
theorem dX9_canBeHeard_29 : decode cX9_canBeHeard 29 = .ok (.aload_n 0, 1) := by decide +kernel
theorem dX9_canBeHeard_30 : decode cX9_canBeHeard 30 = .ok (.iload_n 1, 1) := by decide +kernel
theorem dX9_canBeHeard_31 : decode cX9_canBeHeard 31 = .ok (.invokevirtual 33, 3) := by decide +kernel
theorem dX9_canBeHeard_34 : decode cX9_canBeHeard 34 = .ok (.ldc2_w 37, 3) := by decide +kernel
theorem dX9_canBeHeard_37 : decode cX9_canBeHeard 37 = .ok (.lcmp, 1) := by decide +kernel
theorem dX9_canBeHeard_38 : decode cX9_canBeHeard 38 = .ok (.ifCond .lt 13, 3) := by decide +kernel
theorem dX9_canBeHeard_41 : decode cX9_canBeHeard 41 = .ok (.aload_n 0, 1) := by decide +kernel
theorem dX9_canBeHeard_42 : decode cX9_canBeHeard 42 = .ok (.iload_n 1, 1) := by decide +kernel
theorem dX9_canBeHeard_43 : decode cX9_canBeHeard 43 = .ok (.invokevirtual 33, 3) := by decide +kernel
theorem dX9_canBeHeard_46 : decode cX9_canBeHeard 46 = .ok (.lconst 1, 1) := by decide +kernel
theorem dX9_canBeHeard_47 : decode cX9_canBeHeard 47 = .ok (.lcmp, 1) := by decide +kernel
theorem dX9_canBeHeard_48 : decode cX9_canBeHeard 48 = .ok (.ifCond .le 5, 3) := by decide +kernel
theorem dX9_canBeHeard_51 : decode cX9_canBeHeard 51 = .ok (.iconst 0, 1) := by decide +kernel
theorem dX9_canBeHeard_52 : decode cX9_canBeHeard 52 = .ok (.ireturn, 1) := by decide +kernel
theorem dX9_canBeHeard_53 : decode cX9_canBeHeard 53 = .ok (.iinc 1 1, 3) := by decide +kernel
theorem dX9_canBeHeard_56 : decode cX9_canBeHeard 56 = .ok (.goto (-35), 3) := by decide +kernel
theorem dX9_canBeHeard_59 : decode cX9_canBeHeard 59 = .ok (.iconst 1, 1) := by decide +kernel
theorem dX9_canBeHeard_60 : decode cX9_canBeHeard 60 = .ok (.ireturn, 1) := by decide +kernel
theorem dX9_hear_0 : decode cX9_hear 0 = .ok (.aload_n 0, 1) := by decide +kernel
theorem dX9_hear_1 : decode cX9_hear 1 = .ok (.aload_n 1, 1) := by decide +kernel
theorem dX9_hear_2 : decode cX9_hear 2 = .ok (.getfield 28, 3) := by decide +kernel
theorem dX9_hear_5 : decode cX9_hear 5 = .ok (.putfield 9, 3) := by decide +kernel
theorem dX9_hear_8 : decode cX9_hear 8 = .ok (.aload_n 0, 1) := by decide +kernel
theorem dX9_hear_9 : decode cX9_hear 9 = .ok (.iconst 0, 1) := by decide +kernel
theorem dX9_hear_10 : decode cX9_hear 10 = .ok (.putfield 15, 3) := by decide +kernel
theorem dX9_hear_13 : decode cX9_hear 13 = .ok (.aload_n 0, 1) := by decide +kernel
theorem dX9_hear_14 : decode cX9_hear 14 = .ok (.iconst 0, 1) := by decide +kernel
theorem dX9_hear_15 : decode cX9_hear 15 = .ok (.putfield 18, 3) := by decide +kernel
theorem dX9_hear_18 : decode cX9_hear 18 = .ok (.iconst 0, 1) := by decide +kernel
theorem dX9_hear_19 : decode cX9_hear 19 = .ok (.istore_n 2, 1) := by decide +kernel
theorem dX9_hear_20 : decode cX9_hear 20 = .ok (.iload_n 2, 1) := by decide +kernel
theorem dX9_hear_21 : decode cX9_hear 21 = .ok (.bipush 24, 2) := by decide +kernel
theorem dX9_hear_23 : decode cX9_hear 23 = .ok (.if_icmp .ge 63, 3) := by decide +kernel
theorem dX9_hear_26 : decode cX9_hear 26 = .ok (.iload_n 2, 1) := by decide +kernel
theorem dX9_hear_27 : decode cX9_hear 27 = .ok (.aload_n 1, 1) := by decide +kernel
theorem dX9_hear_28 : decode cX9_hear 28 = .ok (.getfield 28, 3) := by decide +kernel
theorem dX9_hear_31 : decode cX9_hear 31 = .ok (.if_icmp .ge 55, 3) := by decide +kernel
theorem dX9_hear_34 : decode cX9_hear 34 = .ok (.aload_n 1, 1) := by decide +kernel
theorem dX9_hear_35 : decode cX9_hear 35 = .ok (.iload_n 2, 1) := by decide +kernel
theorem dX9_hear_36 : decode cX9_hear 36 = .ok (.invokevirtual 33, 3) := by decide +kernel
theorem dX9_hear_39 : decode cX9_hear 39 = .ok (.ldc2_w 37, 3) := by decide +kernel
theorem dX9_hear_42 : decode cX9_hear 42 = .ok (.lcmp, 1) := by decide +kernel
theorem dX9_hear_43 : decode cX9_hear 43 = .ok (.ifCond .eq 15, 3) := by decide +kernel
theorem dX9_hear_46 : decode cX9_hear 46 = .ok (.aload_n 0, 1) := by decide +kernel
theorem dX9_hear_47 : decode cX9_hear 47 = .ok (.dup, 1) := by decide +kernel
theorem dX9_hear_48 : decode cX9_hear 48 = .ok (.getfield 15, 3) := by decide +kernel
theorem dX9_hear_51 : decode cX9_hear 51 = .ok (.iconst 1, 1) := by decide +kernel
theorem dX9_hear_52 : decode cX9_hear 52 = .ok (.iload_n 2, 1) := by decide +kernel
theorem dX9_hear_53 : decode cX9_hear 53 = .ok (.ishl, 1) := by decide +kernel
theorem dX9_hear_54 : decode cX9_hear 54 = .ok (.ior, 1) := by decide +kernel
theorem dX9_hear_55 : decode cX9_hear 55 = .ok (.putfield 15, 3) := by decide +kernel
theorem dX9_hear_58 : decode cX9_hear 58 = .ok (.aload_n 1, 1) := by decide +kernel
theorem dX9_hear_59 : decode cX9_hear 59 = .ok (.iload_n 2, 1) := by decide +kernel
theorem dX9_hear_60 : decode cX9_hear 60 = .ok (.invokevirtual 33, 3) := by decide +kernel
theorem dX9_hear_63 : decode cX9_hear 63 = .ok (.lconst 1, 1) := by decide +kernel
theorem dX9_hear_64 : decode cX9_hear 64 = .ok (.lcmp, 1) := by decide +kernel
theorem dX9_hear_65 : decode cX9_hear 65 = .ok (.ifCond .ne 15, 3) := by decide +kernel
theorem dX9_hear_68 : decode cX9_hear 68 = .ok (.aload_n 0, 1) := by decide +kernel
theorem dX9_hear_69 : decode cX9_hear 69 = .ok (.dup, 1) := by decide +kernel
theorem dX9_hear_70 : decode cX9_hear 70 = .ok (.getfield 18, 3) := by decide +kernel
theorem dX9_hear_73 : decode cX9_hear 73 = .ok (.iconst 1, 1) := by decide +kernel
theorem dX9_hear_74 : decode cX9_hear 74 = .ok (.iload_n 2, 1) := by decide +kernel
theorem dX9_hear_75 : decode cX9_hear 75 = .ok (.ishl, 1) := by decide +kernel
theorem dX9_hear_76 : decode cX9_hear 76 = .ok (.ior, 1) := by decide +kernel
theorem dX9_hear_77 : decode cX9_hear 77 = .ok (.putfield 18, 3) := by decide +kernel
theorem dX9_hear_80 : decode cX9_hear 80 = .ok (.iinc 2 1, 3) := by decide +kernel
theorem dX9_hear_83 : decode cX9_hear 83 = .ok (.goto (-63), 3) := by decide +kernel
theorem dX9_hear_86 : decode cX9_hear 86 = .ok (.return_, 1) := by decide +kernel
theorem dX9_fits_0 : decode cX9_fits 0 = .ok (.iconst 0, 1) := by decide +kernel
theorem dX9_fits_1 : decode cX9_fits 1 = .ok (.istore 4, 2) := by decide +kernel
theorem dX9_fits_3 : decode cX9_fits 3 = .ok (.iload 4, 2) := by decide +kernel
theorem dX9_fits_5 : decode cX9_fits 5 = .ok (.aload_n 0, 1) := by decide +kernel
theorem dX9_fits_6 : decode cX9_fits 6 = .ok (.getfield 9, 3) := by decide +kernel
theorem dX9_fits_9 : decode cX9_fits 9 = .ok (.if_icmp .ge 43, 3) := by decide +kernel
theorem dX9_fits_12 : decode cX9_fits 12 = .ok (.aload_n 0, 1) := by decide +kernel
theorem dX9_fits_13 : decode cX9_fits 13 = .ok (.getfield 15, 3) := by decide +kernel
theorem dX9_fits_16 : decode cX9_fits 16 = .ok (.iload 4, 2) := by decide +kernel
theorem dX9_fits_18 : decode cX9_fits 18 = .ok (.invokestatic 39, 3) := by decide +kernel
theorem dX9_fits_21 : decode cX9_fits 21 = .ok (.ifCond .eq 25, 3) := by decide +kernel
theorem dX9_fits_24 : decode cX9_fits 24 = .ok (.iload_n 1, 1) := by decide +kernel
theorem dX9_fits_25 : decode cX9_fits 25 = .ok (.iload_n 2, 1) := by decide +kernel
theorem dX9_fits_26 : decode cX9_fits 26 = .ok (.iload_n 3, 1) := by decide +kernel
theorem dX9_fits_27 : decode cX9_fits 27 = .ok (.iload 4, 2) := by decide +kernel
theorem dX9_fits_29 : decode cX9_fits 29 = .ok (.invokestatic 43, 3) := by decide +kernel
theorem dX9_fits_32 : decode cX9_fits 32 = .ok (.aload_n 0, 1) := by decide +kernel
theorem dX9_fits_33 : decode cX9_fits 33 = .ok (.getfield 18, 3) := by decide +kernel
theorem dX9_fits_36 : decode cX9_fits 36 = .ok (.iload 4, 2) := by decide +kernel
theorem dX9_fits_38 : decode cX9_fits 38 = .ok (.invokestatic 39, 3) := by decide +kernel
theorem dX9_fits_41 : decode cX9_fits 41 = .ok (.if_icmp .eq 5, 3) := by decide +kernel
theorem dX9_fits_44 : decode cX9_fits 44 = .ok (.iconst 0, 1) := by decide +kernel
theorem dX9_fits_45 : decode cX9_fits 45 = .ok (.ireturn, 1) := by decide +kernel
theorem dX9_fits_46 : decode cX9_fits 46 = .ok (.iinc 4 1, 3) := by decide +kernel
theorem dX9_fits_49 : decode cX9_fits 49 = .ok (.goto (-46), 3) := by decide +kernel
theorem dX9_fits_52 : decode cX9_fits 52 = .ok (.iconst 1, 1) := by decide +kernel
theorem dX9_fits_53 : decode cX9_fits 53 = .ok (.ireturn, 1) := by decide +kernel
theorem dX9_howManyFit_0 : decode cX9_howManyFit 0 = .ok (.aload_n 0, 1) := by decide +kernel
theorem dX9_howManyFit_1 : decode cX9_howManyFit 1 = .ok (.invokevirtual 47, 3) := by decide +kernel
theorem dX9_howManyFit_4 : decode cX9_howManyFit 4 = .ok (.aload_n 0, 1) := by decide +kernel
theorem dX9_howManyFit_5 : decode cX9_howManyFit 5 = .ok (.getfield 21, 3) := by decide +kernel
theorem dX9_howManyFit_8 : decode cX9_howManyFit 8 = .ok (.ireturn, 1) := by decide +kernel
theorem dX9_fitAt_0 : decode cX9_fitAt 0 = .ok (.aload_n 0, 1) := by decide +kernel
theorem dX9_fitAt_1 : decode cX9_fitAt 1 = .ok (.invokevirtual 47, 3) := by decide +kernel
theorem dX9_fitAt_4 : decode cX9_fitAt 4 = .ok (.iload_n 1, 1) := by decide +kernel
theorem dX9_fitAt_5 : decode cX9_fitAt 5 = .ok (.ifCond .lt 29, 3) := by decide +kernel
theorem dX9_fitAt_8 : decode cX9_fitAt 8 = .ok (.iload_n 1, 1) := by decide +kernel
theorem dX9_fitAt_9 : decode cX9_fitAt 9 = .ok (.aload_n 0, 1) := by decide +kernel
theorem dX9_fitAt_10 : decode cX9_fitAt 10 = .ok (.getfield 21, 3) := by decide +kernel
theorem dX9_fitAt_13 : decode cX9_fitAt 13 = .ok (.if_icmp .ge 21, 3) := by decide +kernel
theorem dX9_fitAt_16 : decode cX9_fitAt 16 = .ok (.iload_n 1, 1) := by decide +kernel
theorem dX9_fitAt_17 : decode cX9_fitAt 17 = .ok (.aload_n 0, 1) := by decide +kernel
theorem dX9_fitAt_18 : decode cX9_fitAt 18 = .ok (.getfield 24, 3) := by decide +kernel
theorem dX9_fitAt_21 : decode cX9_fitAt 21 = .ok (.arraylength, 1) := by decide +kernel
theorem dX9_fitAt_22 : decode cX9_fitAt 22 = .ok (.if_icmp .ge 12, 3) := by decide +kernel
theorem dX9_fitAt_25 : decode cX9_fitAt 25 = .ok (.aload_n 0, 1) := by decide +kernel
theorem dX9_fitAt_26 : decode cX9_fitAt 26 = .ok (.getfield 24, 3) := by decide +kernel
theorem dX9_fitAt_29 : decode cX9_fitAt 29 = .ok (.iload_n 1, 1) := by decide +kernel
theorem dX9_fitAt_30 : decode cX9_fitAt 30 = .ok (.iaload, 1) := by decide +kernel
theorem dX9_fitAt_31 : decode cX9_fitAt 31 = .ok (.goto 4, 3) := by decide +kernel
theorem dX9_fitAt_34 : decode cX9_fitAt 34 = .ok (.iconst (-1), 1) := by decide +kernel
theorem dX9_fitAt_35 : decode cX9_fitAt 35 = .ok (.ireturn, 1) := by decide +kernel
theorem dX9_tellsMost_0 : decode cX9_tellsMost 0 = .ok (.aload_n 0, 1) := by decide +kernel
theorem dX9_tellsMost_1 : decode cX9_tellsMost 1 = .ok (.invokevirtual 47, 3) := by decide +kernel
theorem dX9_tellsMost_4 : decode cX9_tellsMost 4 = .ok (.iconst (-1), 1) := by decide +kernel
theorem dX9_tellsMost_5 : decode cX9_tellsMost 5 = .ok (.istore_n 1, 1) := by decide +kernel
theorem dX9_tellsMost_6 : decode cX9_tellsMost 6 = .ok (.iconst (-1), 1) := by decide +kernel
theorem dX9_tellsMost_7 : decode cX9_tellsMost 7 = .ok (.istore_n 2, 1) := by decide +kernel
theorem dX9_tellsMost_8 : decode cX9_tellsMost 8 = .ok (.iconst 0, 1) := by decide +kernel
theorem dX9_tellsMost_9 : decode cX9_tellsMost 9 = .ok (.istore_n 3, 1) := by decide +kernel
theorem dX9_tellsMost_10 : decode cX9_tellsMost 10 = .ok (.iload_n 3, 1) := by decide +kernel
theorem dX9_tellsMost_11 : decode cX9_tellsMost 11 = .ok (.bipush 24, 2) := by decide +kernel
theorem dX9_tellsMost_13 : decode cX9_tellsMost 13 = .ok (.if_icmp .ge 55, 3) := by decide +kernel
theorem dX9_tellsMost_16 : decode cX9_tellsMost 16 = .ok (.aload_n 0, 1) := by decide +kernel
theorem dX9_tellsMost_17 : decode cX9_tellsMost 17 = .ok (.getfield 21, 3) := by decide +kernel
theorem dX9_tellsMost_20 : decode cX9_tellsMost 20 = .ok (.ifCond .le 48, 3) := by decide +kernel
theorem dX9_tellsMost_23 : decode cX9_tellsMost 23 = .ok (.aload_n 0, 1) := by decide +kernel
theorem dX9_tellsMost_24 : decode cX9_tellsMost 24 = .ok (.aload_n 0, 1) := by decide +kernel
theorem dX9_tellsMost_25 : decode cX9_tellsMost 25 = .ok (.getfield 9, 3) := by decide +kernel
theorem dX9_tellsMost_28 : decode cX9_tellsMost 28 = .ok (.iload_n 3, 1) := by decide +kernel
theorem dX9_tellsMost_29 : decode cX9_tellsMost 29 = .ok (.iadd, 1) := by decide +kernel
theorem dX9_tellsMost_30 : decode cX9_tellsMost 30 = .ok (.invokevirtual 50, 3) := by decide +kernel
theorem dX9_tellsMost_33 : decode cX9_tellsMost 33 = .ok (.istore 4, 2) := by decide +kernel
theorem dX9_tellsMost_35 : decode cX9_tellsMost 35 = .ok (.iload 4, 2) := by decide +kernel
theorem dX9_tellsMost_37 : decode cX9_tellsMost 37 = .ok (.aload_n 0, 1) := by decide +kernel
theorem dX9_tellsMost_38 : decode cX9_tellsMost 38 = .ok (.getfield 21, 3) := by decide +kernel
theorem dX9_tellsMost_41 : decode cX9_tellsMost 41 = .ok (.iload 4, 2) := by decide +kernel
theorem dX9_tellsMost_43 : decode cX9_tellsMost 43 = .ok (.isub, 1) := by decide +kernel
theorem dX9_tellsMost_44 : decode cX9_tellsMost 44 = .ok (.invokestatic 54, 3) := by decide +kernel
theorem dX9_tellsMost_47 : decode cX9_tellsMost 47 = .ok (.istore 5, 2) := by decide +kernel
theorem dX9_tellsMost_49 : decode cX9_tellsMost 49 = .ok (.iload 5, 2) := by decide +kernel
theorem dX9_tellsMost_51 : decode cX9_tellsMost 51 = .ok (.iload_n 2, 1) := by decide +kernel
theorem dX9_tellsMost_52 : decode cX9_tellsMost 52 = .ok (.if_icmp .le 10, 3) := by decide +kernel
theorem dX9_tellsMost_55 : decode cX9_tellsMost 55 = .ok (.iload 5, 2) := by decide +kernel
theorem dX9_tellsMost_57 : decode cX9_tellsMost 57 = .ok (.istore_n 2, 1) := by decide +kernel
theorem dX9_tellsMost_58 : decode cX9_tellsMost 58 = .ok (.iload_n 3, 1) := by decide +kernel
theorem dX9_tellsMost_59 : decode cX9_tellsMost 59 = .ok (.iconst 1, 1) := by decide +kernel
theorem dX9_tellsMost_60 : decode cX9_tellsMost 60 = .ok (.iadd, 1) := by decide +kernel
theorem dX9_tellsMost_61 : decode cX9_tellsMost 61 = .ok (.istore_n 1, 1) := by decide +kernel
theorem dX9_tellsMost_62 : decode cX9_tellsMost 62 = .ok (.iinc 3 1, 3) := by decide +kernel
theorem dX9_tellsMost_65 : decode cX9_tellsMost 65 = .ok (.goto (-55), 3) := by decide +kernel
theorem dX9_tellsMost_68 : decode cX9_tellsMost 68 = .ok (.iload_n 1, 1) := by decide +kernel
theorem dX9_tellsMost_69 : decode cX9_tellsMost 69 = .ok (.ireturn, 1) := by decide +kernel
theorem dX9_awakeAmongFitting_0 : decode cX9_awakeAmongFitting 0 = .ok (.iconst 0, 1) := by decide +kernel
theorem dX9_awakeAmongFitting_1 : decode cX9_awakeAmongFitting 1 = .ok (.istore_n 2, 1) := by decide +kernel
theorem dX9_awakeAmongFitting_2 : decode cX9_awakeAmongFitting 2 = .ok (.iconst 0, 1) := by decide +kernel
theorem dX9_awakeAmongFitting_3 : decode cX9_awakeAmongFitting 3 = .ok (.istore_n 3, 1) := by decide +kernel
theorem dX9_awakeAmongFitting_4 : decode cX9_awakeAmongFitting 4 = .ok (.iload_n 3, 1) := by decide +kernel
theorem dX9_awakeAmongFitting_5 : decode cX9_awakeAmongFitting 5 = .ok (.aload_n 0, 1) := by decide +kernel
theorem dX9_awakeAmongFitting_6 : decode cX9_awakeAmongFitting 6 = .ok (.getfield 21, 3) := by decide +kernel
theorem dX9_awakeAmongFitting_9 : decode cX9_awakeAmongFitting 9 = .ok (.if_icmp .ge 55, 3) := by decide +kernel
theorem dX9_awakeAmongFitting_12 : decode cX9_awakeAmongFitting 12 = .ok (.iload_n 3, 1) := by decide +kernel
theorem dX9_awakeAmongFitting_13 : decode cX9_awakeAmongFitting 13 = .ok (.aload_n 0, 1) := by decide +kernel
theorem dX9_awakeAmongFitting_14 : decode cX9_awakeAmongFitting 14 = .ok (.getfield 24, 3) := by decide +kernel
theorem dX9_awakeAmongFitting_17 : decode cX9_awakeAmongFitting 17 = .ok (.arraylength, 1) := by decide +kernel
theorem dX9_awakeAmongFitting_18 : decode cX9_awakeAmongFitting 18 = .ok (.if_icmp .ge 46, 3) := by decide +kernel
theorem dX9_awakeAmongFitting_21 : decode cX9_awakeAmongFitting 21 = .ok (.aload_n 0, 1) := by decide +kernel
theorem dX9_awakeAmongFitting_22 : decode cX9_awakeAmongFitting 22 = .ok (.getfield 24, 3) := by decide +kernel
theorem dX9_awakeAmongFitting_25 : decode cX9_awakeAmongFitting 25 = .ok (.iload_n 3, 1) := by decide +kernel
theorem dX9_awakeAmongFitting_26 : decode cX9_awakeAmongFitting 26 = .ok (.iaload, 1) := by decide +kernel
theorem dX9_awakeAmongFitting_27 : decode cX9_awakeAmongFitting 27 = .ok (.istore 4, 2) := by decide +kernel
theorem dX9_awakeAmongFitting_29 : decode cX9_awakeAmongFitting 29 = .ok (.iload 4, 2) := by decide +kernel
theorem dX9_awakeAmongFitting_31 : decode cX9_awakeAmongFitting 31 = .ok (.sipush 10000, 3) := by decide +kernel
theorem dX9_awakeAmongFitting_34 : decode cX9_awakeAmongFitting 34 = .ok (.idiv, 1) := by decide +kernel
theorem dX9_awakeAmongFitting_35 : decode cX9_awakeAmongFitting 35 = .ok (.iload 4, 2) := by decide +kernel
theorem dX9_awakeAmongFitting_37 : decode cX9_awakeAmongFitting 37 = .ok (.bipush 100, 2) := by decide +kernel
theorem dX9_awakeAmongFitting_39 : decode cX9_awakeAmongFitting 39 = .ok (.idiv, 1) := by decide +kernel
theorem dX9_awakeAmongFitting_40 : decode cX9_awakeAmongFitting 40 = .ok (.bipush 100, 2) := by decide +kernel
theorem dX9_awakeAmongFitting_42 : decode cX9_awakeAmongFitting 42 = .ok (.irem, 1) := by decide +kernel
theorem dX9_awakeAmongFitting_43 : decode cX9_awakeAmongFitting 43 = .ok (.iload 4, 2) := by decide +kernel
theorem dX9_awakeAmongFitting_45 : decode cX9_awakeAmongFitting 45 = .ok (.bipush 100, 2) := by decide +kernel
theorem dX9_awakeAmongFitting_47 : decode cX9_awakeAmongFitting 47 = .ok (.irem, 1) := by decide +kernel
theorem dX9_awakeAmongFitting_48 : decode cX9_awakeAmongFitting 48 = .ok (.iload_n 1, 1) := by decide +kernel
theorem dX9_awakeAmongFitting_49 : decode cX9_awakeAmongFitting 49 = .ok (.invokestatic 43, 3) := by decide +kernel
theorem dX9_awakeAmongFitting_52 : decode cX9_awakeAmongFitting 52 = .ok (.ifCond .eq 6, 3) := by decide +kernel
theorem dX9_awakeAmongFitting_55 : decode cX9_awakeAmongFitting 55 = .ok (.iinc 2 1, 3) := by decide +kernel
theorem dX9_awakeAmongFitting_58 : decode cX9_awakeAmongFitting 58 = .ok (.iinc 3 1, 3) := by decide +kernel
theorem dX9_awakeAmongFitting_61 : decode cX9_awakeAmongFitting 61 = .ok (.goto (-57), 3) := by decide +kernel
theorem dX9_awakeAmongFitting_64 : decode cX9_awakeAmongFitting 64 = .ok (.iload_n 2, 1) := by decide +kernel
theorem dX9_awakeAmongFitting_65 : decode cX9_awakeAmongFitting 65 = .ok (.ireturn, 1) := by decide +kernel
theorem dX9_findFitting_0 : decode cX9_findFitting 0 = .ok (.aload_n 0, 1) := by decide +kernel
theorem dX9_findFitting_1 : decode cX9_findFitting 1 = .ok (.iconst 0, 1) := by decide +kernel
theorem dX9_findFitting_2 : decode cX9_findFitting 2 = .ok (.putfield 21, 3) := by decide +kernel
theorem dX9_findFitting_5 : decode cX9_findFitting 5 = .ok (.iconst 2, 1) := by decide +kernel
theorem dX9_findFitting_6 : decode cX9_findFitting 6 = .ok (.istore_n 1, 1) := by decide +kernel
theorem dX9_findFitting_7 : decode cX9_findFitting 7 = .ok (.iload_n 1, 1) := by decide +kernel
theorem dX9_findFitting_8 : decode cX9_findFitting 8 = .ok (.bipush 12, 2) := by decide +kernel
theorem dX9_findFitting_10 : decode cX9_findFitting 10 = .ok (.if_icmp .gt 95, 3) := by decide +kernel
theorem dX9_findFitting_13 : decode cX9_findFitting 13 = .ok (.iconst 1, 1) := by decide +kernel
theorem dX9_findFitting_14 : decode cX9_findFitting 14 = .ok (.istore_n 2, 1) := by decide +kernel
theorem dX9_findFitting_15 : decode cX9_findFitting 15 = .ok (.iload_n 2, 1) := by decide +kernel
theorem dX9_findFitting_16 : decode cX9_findFitting 16 = .ok (.iload_n 1, 1) := by decide +kernel
theorem dX9_findFitting_17 : decode cX9_findFitting 17 = .ok (.if_icmp .gt 82, 3) := by decide +kernel
theorem dX9_findFitting_20 : decode cX9_findFitting 20 = .ok (.iconst 0, 1) := by decide +kernel
theorem dX9_findFitting_21 : decode cX9_findFitting 21 = .ok (.istore_n 3, 1) := by decide +kernel
theorem dX9_findFitting_22 : decode cX9_findFitting 22 = .ok (.iload_n 3, 1) := by decide +kernel
theorem dX9_findFitting_23 : decode cX9_findFitting 23 = .ok (.iload_n 1, 1) := by decide +kernel
theorem dX9_findFitting_24 : decode cX9_findFitting 24 = .ok (.if_icmp .ge 69, 3) := by decide +kernel
theorem dX9_findFitting_27 : decode cX9_findFitting 27 = .ok (.aload_n 0, 1) := by decide +kernel
theorem dX9_findFitting_28 : decode cX9_findFitting 28 = .ok (.iload_n 1, 1) := by decide +kernel
theorem dX9_findFitting_29 : decode cX9_findFitting 29 = .ok (.iload_n 2, 1) := by decide +kernel
theorem dX9_findFitting_30 : decode cX9_findFitting 30 = .ok (.iload_n 3, 1) := by decide +kernel
theorem dX9_findFitting_31 : decode cX9_findFitting 31 = .ok (.invokevirtual 60, 3) := by decide +kernel
theorem dX9_findFitting_34 : decode cX9_findFitting 34 = .ok (.ifCond .eq 53, 3) := by decide +kernel
theorem dX9_findFitting_37 : decode cX9_findFitting 37 = .ok (.aload_n 0, 1) := by decide +kernel
theorem dX9_findFitting_38 : decode cX9_findFitting 38 = .ok (.getfield 21, 3) := by decide +kernel
theorem dX9_findFitting_41 : decode cX9_findFitting 41 = .ok (.ifCond .lt 46, 3) := by decide +kernel
theorem dX9_findFitting_44 : decode cX9_findFitting 44 = .ok (.aload_n 0, 1) := by decide +kernel
theorem dX9_findFitting_45 : decode cX9_findFitting 45 = .ok (.getfield 21, 3) := by decide +kernel
theorem dX9_findFitting_48 : decode cX9_findFitting 48 = .ok (.aload_n 0, 1) := by decide +kernel
theorem dX9_findFitting_49 : decode cX9_findFitting 49 = .ok (.getfield 24, 3) := by decide +kernel
theorem dX9_findFitting_52 : decode cX9_findFitting 52 = .ok (.arraylength, 1) := by decide +kernel
theorem dX9_findFitting_53 : decode cX9_findFitting 53 = .ok (.if_icmp .ge 34, 3) := by decide +kernel
theorem dX9_findFitting_56 : decode cX9_findFitting 56 = .ok (.aload_n 0, 1) := by decide +kernel
theorem dX9_findFitting_57 : decode cX9_findFitting 57 = .ok (.getfield 24, 3) := by decide +kernel
theorem dX9_findFitting_60 : decode cX9_findFitting 60 = .ok (.aload_n 0, 1) := by decide +kernel
theorem dX9_findFitting_61 : decode cX9_findFitting 61 = .ok (.getfield 21, 3) := by decide +kernel
theorem dX9_findFitting_64 : decode cX9_findFitting 64 = .ok (.sipush 10000, 3) := by decide +kernel
theorem dX9_findFitting_67 : decode cX9_findFitting 67 = .ok (.iload_n 1, 1) := by decide +kernel
theorem dX9_findFitting_68 : decode cX9_findFitting 68 = .ok (.imul, 1) := by decide +kernel
theorem dX9_findFitting_69 : decode cX9_findFitting 69 = .ok (.bipush 100, 2) := by decide +kernel
theorem dX9_findFitting_71 : decode cX9_findFitting 71 = .ok (.iload_n 2, 1) := by decide +kernel
theorem dX9_findFitting_72 : decode cX9_findFitting 72 = .ok (.imul, 1) := by decide +kernel
theorem dX9_findFitting_73 : decode cX9_findFitting 73 = .ok (.iadd, 1) := by decide +kernel
theorem dX9_findFitting_74 : decode cX9_findFitting 74 = .ok (.iload_n 3, 1) := by decide +kernel
theorem dX9_findFitting_75 : decode cX9_findFitting 75 = .ok (.iadd, 1) := by decide +kernel
theorem dX9_findFitting_76 : decode cX9_findFitting 76 = .ok (.iastore, 1) := by decide +kernel
theorem dX9_findFitting_77 : decode cX9_findFitting 77 = .ok (.aload_n 0, 1) := by decide +kernel
theorem dX9_findFitting_78 : decode cX9_findFitting 78 = .ok (.dup, 1) := by decide +kernel
theorem dX9_findFitting_79 : decode cX9_findFitting 79 = .ok (.getfield 21, 3) := by decide +kernel
theorem dX9_findFitting_82 : decode cX9_findFitting 82 = .ok (.iconst 1, 1) := by decide +kernel
theorem dX9_findFitting_83 : decode cX9_findFitting 83 = .ok (.iadd, 1) := by decide +kernel
theorem dX9_findFitting_84 : decode cX9_findFitting 84 = .ok (.putfield 21, 3) := by decide +kernel
theorem dX9_findFitting_87 : decode cX9_findFitting 87 = .ok (.iinc 3 1, 3) := by decide +kernel
theorem dX9_findFitting_90 : decode cX9_findFitting 90 = .ok (.goto (-68), 3) := by decide +kernel
theorem dX9_findFitting_93 : decode cX9_findFitting 93 = .ok (.iinc 2 1, 3) := by decide +kernel
theorem dX9_findFitting_96 : decode cX9_findFitting 96 = .ok (.goto (-81), 3) := by decide +kernel
theorem dX9_findFitting_99 : decode cX9_findFitting 99 = .ok (.iinc 1 1, 3) := by decide +kernel
theorem dX9_findFitting_102 : decode cX9_findFitting 102 = .ok (.goto (-95), 3) := by decide +kernel
theorem dX9_findFitting_105 : decode cX9_findFitting 105 = .ok (.return_, 1) := by decide +kernel
theorem dX9_isAwakeAt_0 : decode cX9_isAwakeAt 0 = .ok (.iload_n 0, 1) := by decide +kernel
theorem dX9_isAwakeAt_1 : decode cX9_isAwakeAt 1 = .ok (.ifCond .le 16, 3) := by decide +kernel
theorem dX9_isAwakeAt_4 : decode cX9_isAwakeAt 4 = .ok (.iload_n 3, 1) := by decide +kernel
theorem dX9_isAwakeAt_5 : decode cX9_isAwakeAt 5 = .ok (.iload_n 2, 1) := by decide +kernel
theorem dX9_isAwakeAt_6 : decode cX9_isAwakeAt 6 = .ok (.iadd, 1) := by decide +kernel
theorem dX9_isAwakeAt_7 : decode cX9_isAwakeAt 7 = .ok (.iload_n 0, 1) := by decide +kernel
theorem dX9_isAwakeAt_8 : decode cX9_isAwakeAt 8 = .ok (.irem, 1) := by decide +kernel
theorem dX9_isAwakeAt_9 : decode cX9_isAwakeAt 9 = .ok (.iload_n 1, 1) := by decide +kernel
theorem dX9_isAwakeAt_10 : decode cX9_isAwakeAt 10 = .ok (.if_icmp .ge 7, 3) := by decide +kernel
theorem dX9_isAwakeAt_13 : decode cX9_isAwakeAt 13 = .ok (.iconst 1, 1) := by decide +kernel
theorem dX9_isAwakeAt_14 : decode cX9_isAwakeAt 14 = .ok (.goto 4, 3) := by decide +kernel
theorem dX9_isAwakeAt_17 : decode cX9_isAwakeAt 17 = .ok (.iconst 0, 1) := by decide +kernel
theorem dX9_isAwakeAt_18 : decode cX9_isAwakeAt 18 = .ok (.ireturn, 1) := by decide +kernel
theorem dX10_init_0 : decode cX10_init 0 = .ok (.aload_n 0, 1) := by decide +kernel
theorem dX10_init_1 : decode cX10_init 1 = .ok (.invokespecial 3, 3) := by decide +kernel
theorem dX10_init_4 : decode cX10_init 4 = .ok (.aload_n 0, 1) := by decide +kernel
theorem dX10_init_5 : decode cX10_init 5 = .ok (.iconst 0, 1) := by decide +kernel
theorem dX10_init_6 : decode cX10_init 6 = .ok (.putfield 9, 3) := by decide +kernel
theorem dX10_init_9 : decode cX10_init 9 = .ok (.aload_n 0, 1) := by decide +kernel
theorem dX10_init_10 : decode cX10_init 10 = .ok (.iconst 0, 1) := by decide +kernel
theorem dX10_init_11 : decode cX10_init 11 = .ok (.putfield 15, 3) := by decide +kernel
theorem dX10_init_14 : decode cX10_init 14 = .ok (.aload_n 0, 1) := by decide +kernel
theorem dX10_init_15 : decode cX10_init 15 = .ok (.iconst 0, 1) := by decide +kernel
theorem dX10_init_16 : decode cX10_init 16 = .ok (.putfield 19, 3) := by decide +kernel
theorem dX10_init_19 : decode cX10_init 19 = .ok (.aload_n 0, 1) := by decide +kernel
theorem dX10_init_20 : decode cX10_init 20 = .ok (.bipush 30, 2) := by decide +kernel
theorem dX10_init_22 : decode cX10_init 22 = .ok (.newarray .long, 2) := by decide +kernel
theorem dX10_init_24 : decode cX10_init 24 = .ok (.putfield 22, 3) := by decide +kernel
theorem dX10_init_27 : decode cX10_init 27 = .ok (.return_, 1) := by decide +kernel
theorem dX10_layOut_0 : decode cX10_layOut 0 = .ok (.aload_n 0, 1) := by decide +kernel
theorem dX10_layOut_1 : decode cX10_layOut 1 = .ok (.iconst 1, 1) := by decide +kernel
theorem dX10_layOut_2 : decode cX10_layOut 2 = .ok (.putfield 9, 3) := by decide +kernel
theorem dX10_layOut_5 : decode cX10_layOut 5 = .ok (.aload_n 0, 1) := by decide +kernel
theorem dX10_layOut_6 : decode cX10_layOut 6 = .ok (.iload_n 1, 1) := by decide +kernel
theorem dX10_layOut_7 : decode cX10_layOut 7 = .ok (.putfield 19, 3) := by decide +kernel
theorem dX10_layOut_10 : decode cX10_layOut 10 = .ok (.aload_n 0, 1) := by decide +kernel
theorem dX10_layOut_11 : decode cX10_layOut 11 = .ok (.iload_n 2, 1) := by decide +kernel
theorem dX10_layOut_12 : decode cX10_layOut 12 = .ok (.putfield 15, 3) := by decide +kernel
theorem dX10_layOut_15 : decode cX10_layOut 15 = .ok (.iconst 0, 1) := by decide +kernel
theorem dX10_layOut_16 : decode cX10_layOut 16 = .ok (.istore_n 3, 1) := by decide +kernel
theorem dX10_layOut_17 : decode cX10_layOut 17 = .ok (.iload_n 3, 1) := by decide +kernel
theorem dX10_layOut_18 : decode cX10_layOut 18 = .ok (.aload_n 0, 1) := by decide +kernel
theorem dX10_layOut_19 : decode cX10_layOut 19 = .ok (.getfield 22, 3) := by decide +kernel
theorem dX10_layOut_22 : decode cX10_layOut 22 = .ok (.arraylength, 1) := by decide +kernel
theorem dX10_layOut_23 : decode cX10_layOut 23 = .ok (.if_icmp .ge 16, 3) := by decide +kernel
theorem dX10_layOut_26 : decode cX10_layOut 26 = .ok (.aload_n 0, 1) := by decide +kernel
theorem dX10_layOut_27 : decode cX10_layOut 27 = .ok (.getfield 22, 3) := by decide +kernel
theorem dX10_layOut_30 : decode cX10_layOut 30 = .ok (.iload_n 3, 1) := by decide +kernel
theorem dX10_layOut_31 : decode cX10_layOut 31 = .ok (.lconst 0, 1) := by decide +kernel
theorem dX10_layOut_32 : decode cX10_layOut 32 = .ok (.lastore, 1) := by decide +kernel
theorem dX10_layOut_33 : decode cX10_layOut 33 = .ok (.iinc 3 1, 3) := by decide +kernel
theorem dX10_layOut_36 : decode cX10_layOut 36 = .ok (.goto (-19), 3) := by decide +kernel
theorem dX10_layOut_39 : decode cX10_layOut 39 = .ok (.return_, 1) := by decide +kernel
theorem dX10_numberAt_0 : decode cX10_numberAt 0 = .ok (.iload_n 1, 1) := by decide +kernel
theorem dX10_numberAt_1 : decode cX10_numberAt 1 = .ok (.ifCond .lt 29, 3) := by decide +kernel
theorem dX10_numberAt_4 : decode cX10_numberAt 4 = .ok (.iload_n 1, 1) := by decide +kernel
theorem dX10_numberAt_5 : decode cX10_numberAt 5 = .ok (.aload_n 0, 1) := by decide +kernel
theorem dX10_numberAt_6 : decode cX10_numberAt 6 = .ok (.getfield 15, 3) := by decide +kernel
theorem dX10_numberAt_9 : decode cX10_numberAt 9 = .ok (.if_icmp .ge 21, 3) := by decide +kernel
theorem dX10_numberAt_12 : decode cX10_numberAt 12 = .ok (.iload_n 1, 1) := by decide +kernel
theorem dX10_numberAt_13 : decode cX10_numberAt 13 = .ok (.aload_n 0, 1) := by decide +kernel
theorem dX10_numberAt_14 : decode cX10_numberAt 14 = .ok (.getfield 22, 3) := by decide +kernel
theorem dX10_numberAt_17 : decode cX10_numberAt 17 = .ok (.arraylength, 1) := by decide +kernel
theorem dX10_numberAt_18 : decode cX10_numberAt 18 = .ok (.if_icmp .ge 12, 3) := by decide +kernel
theorem dX10_numberAt_21 : decode cX10_numberAt 21 = .ok (.aload_n 0, 1) := by decide +kernel
theorem dX10_numberAt_22 : decode cX10_numberAt 22 = .ok (.getfield 22, 3) := by decide +kernel
theorem dX10_numberAt_25 : decode cX10_numberAt 25 = .ok (.iload_n 1, 1) := by decide +kernel
theorem dX10_numberAt_26 : decode cX10_numberAt 26 = .ok (.laload, 1) := by decide +kernel
theorem dX10_numberAt_27 : decode cX10_numberAt 27 = .ok (.goto 4, 3) := by decide +kernel
theorem dX10_numberAt_30 : decode cX10_numberAt 30 = .ok (.lconst 0, 1) := by decide +kernel
theorem dX10_numberAt_31 : decode cX10_numberAt 31 = .ok (.lreturn, 1) := by decide +kernel
theorem dX10_put_0 : decode cX10_put 0 = .ok (.iload_n 1, 1) := by decide +kernel
theorem dX10_put_1 : decode cX10_put 1 = .ok (.ifCond .lt 31, 3) := by decide +kernel
theorem dX10_put_4 : decode cX10_put 4 = .ok (.iload_n 1, 1) := by decide +kernel
theorem dX10_put_5 : decode cX10_put 5 = .ok (.aload_n 0, 1) := by decide +kernel
theorem dX10_put_6 : decode cX10_put 6 = .ok (.getfield 15, 3) := by decide +kernel
theorem dX10_put_9 : decode cX10_put 9 = .ok (.if_icmp .ge 23, 3) := by decide +kernel
theorem dX10_put_12 : decode cX10_put 12 = .ok (.iload_n 1, 1) := by decide +kernel
theorem dX10_put_13 : decode cX10_put 13 = .ok (.aload_n 0, 1) := by decide +kernel
theorem dX10_put_14 : decode cX10_put 14 = .ok (.getfield 22, 3) := by decide +kernel
theorem dX10_put_17 : decode cX10_put 17 = .ok (.arraylength, 1) := by decide +kernel
theorem dX10_put_18 : decode cX10_put 18 = .ok (.if_icmp .ge 14, 3) := by decide +kernel
theorem dX10_put_21 : decode cX10_put 21 = .ok (.aload_n 0, 1) := by decide +kernel
theorem dX10_put_22 : decode cX10_put 22 = .ok (.getfield 22, 3) := by decide +kernel
theorem dX10_put_25 : decode cX10_put 25 = .ok (.iload_n 1, 1) := by decide +kernel
theorem dX10_put_26 : decode cX10_put 26 = .ok (.aload_n 0, 1) := by decide +kernel
theorem dX10_put_27 : decode cX10_put 27 = .ok (.lload_n 2, 1) := by decide +kernel
theorem dX10_put_28 : decode cX10_put 28 = .ok (.invokevirtual 26, 3) := by decide +kernel
theorem dX10_put_31 : decode cX10_put 31 = .ok (.lastore, 1) := by decide +kernel
theorem dX10_put_32 : decode cX10_put 32 = .ok (.return_, 1) := by decide +kernel
theorem dX10_cut_0 : decode cX10_cut 0 = .ok (.aload_n 0, 1) := by decide +kernel
theorem dX10_cut_1 : decode cX10_cut 1 = .ok (.getfield 19, 3) := by decide +kernel
theorem dX10_cut_4 : decode cX10_cut 4 = .ok (.tableswitch 42 0 2 #[28, 33, 38], 28) := by decide +kernel
theorem dX10_cut_32 : decode cX10_cut 32 = .ok (.lload_n 1, 1) := by decide +kernel
theorem dX10_cut_33 : decode cX10_cut 33 = .ok (.l2i, 1) := by decide +kernel
theorem dX10_cut_34 : decode cX10_cut 34 = .ok (.i2b, 1) := by decide +kernel
theorem dX10_cut_35 : decode cX10_cut 35 = .ok (.i2l, 1) := by decide +kernel
theorem dX10_cut_36 : decode cX10_cut 36 = .ok (.lreturn, 1) := by decide +kernel
theorem dX10_cut_37 : decode cX10_cut 37 = .ok (.lload_n 1, 1) := by decide +kernel
theorem dX10_cut_38 : decode cX10_cut 38 = .ok (.l2i, 1) := by decide +kernel
theorem dX10_cut_39 : decode cX10_cut 39 = .ok (.i2s, 1) := by decide +kernel
theorem dX10_cut_40 : decode cX10_cut 40 = .ok (.i2l, 1) := by decide +kernel
theorem dX10_cut_41 : decode cX10_cut 41 = .ok (.lreturn, 1) := by decide +kernel
theorem dX10_cut_42 : decode cX10_cut 42 = .ok (.lload_n 1, 1) := by decide +kernel
theorem dX10_cut_43 : decode cX10_cut 43 = .ok (.l2i, 1) := by decide +kernel
theorem dX10_cut_44 : decode cX10_cut 44 = .ok (.i2l, 1) := by decide +kernel
theorem dX10_cut_45 : decode cX10_cut 45 = .ok (.lreturn, 1) := by decide +kernel
theorem dX10_cut_46 : decode cX10_cut 46 = .ok (.lload_n 1, 1) := by decide +kernel
theorem dX10_cut_47 : decode cX10_cut 47 = .ok (.lreturn, 1) := by decide +kernel
theorem dX11_init_0 : decode cX11_init 0 = .ok (.aload_n 0, 1) := by decide +kernel
theorem dX11_init_1 : decode cX11_init 1 = .ok (.invokespecial 3, 3) := by decide +kernel
theorem dX11_init_4 : decode cX11_init 4 = .ok (.aload_n 0, 1) := by decide +kernel
theorem dX11_init_5 : decode cX11_init 5 = .ok (.iconst 3, 1) := by decide +kernel
theorem dX11_init_6 : decode cX11_init 6 = .ok (.anewarray 9, 3) := by decide +kernel
theorem dX11_init_9 : decode cX11_init 9 = .ok (.putfield 11, 3) := by decide +kernel
theorem dX11_init_12 : decode cX11_init 12 = .ok (.aload_n 0, 1) := by decide +kernel
theorem dX11_init_13 : decode cX11_init 13 = .ok (.iconst 4, 1) := by decide +kernel
theorem dX11_init_14 : decode cX11_init 14 = .ok (.anewarray 15, 3) := by decide +kernel
theorem dX11_init_17 : decode cX11_init 17 = .ok (.putfield 17, 3) := by decide +kernel
theorem dX11_init_20 : decode cX11_init 20 = .ok (.aload_n 0, 1) := by decide +kernel
theorem dX11_init_21 : decode cX11_init 21 = .ok (.new 21, 3) := by decide +kernel
theorem dX11_init_24 : decode cX11_init 24 = .ok (.dup, 1) := by decide +kernel
theorem dX11_init_25 : decode cX11_init 25 = .ok (.invokespecial 23, 3) := by decide +kernel
theorem dX11_init_28 : decode cX11_init 28 = .ok (.putfield 24, 3) := by decide +kernel
theorem dX11_init_31 : decode cX11_init 31 = .ok (.aload_n 0, 1) := by decide +kernel
theorem dX11_init_32 : decode cX11_init 32 = .ok (.new 28, 3) := by decide +kernel
theorem dX11_init_35 : decode cX11_init 35 = .ok (.dup, 1) := by decide +kernel
theorem dX11_init_36 : decode cX11_init 36 = .ok (.invokespecial 30, 3) := by decide +kernel
theorem dX11_init_39 : decode cX11_init 39 = .ok (.putfield 31, 3) := by decide +kernel
theorem dX11_init_42 : decode cX11_init 42 = .ok (.new 35, 3) := by decide +kernel
theorem dX11_init_45 : decode cX11_init 45 = .ok (.dup, 1) := by decide +kernel
theorem dX11_init_46 : decode cX11_init 46 = .ok (.invokespecial 37, 3) := by decide +kernel
theorem dX11_init_49 : decode cX11_init 49 = .ok (.astore_n 1, 1) := by decide +kernel
theorem dX11_init_50 : decode cX11_init 50 = .ok (.new 38, 3) := by decide +kernel
theorem dX11_init_53 : decode cX11_init 53 = .ok (.dup, 1) := by decide +kernel
theorem dX11_init_54 : decode cX11_init 54 = .ok (.aload_n 1, 1) := by decide +kernel
theorem dX11_init_55 : decode cX11_init 55 = .ok (.invokespecial 40, 3) := by decide +kernel
theorem dX11_init_58 : decode cX11_init 58 = .ok (.astore_n 2, 1) := by decide +kernel
theorem dX11_init_59 : decode cX11_init 59 = .ok (.new 43, 3) := by decide +kernel
theorem dX11_init_62 : decode cX11_init 62 = .ok (.dup, 1) := by decide +kernel
theorem dX11_init_63 : decode cX11_init 63 = .ok (.aload_n 2, 1) := by decide +kernel
theorem dX11_init_64 : decode cX11_init 64 = .ok (.invokespecial 45, 3) := by decide +kernel
theorem dX11_init_67 : decode cX11_init 67 = .ok (.astore_n 3, 1) := by decide +kernel
theorem dX11_init_68 : decode cX11_init 68 = .ok (.aload_n 0, 1) := by decide +kernel
theorem dX11_init_69 : decode cX11_init 69 = .ok (.new 9, 3) := by decide +kernel
theorem dX11_init_72 : decode cX11_init 72 = .ok (.dup, 1) := by decide +kernel
theorem dX11_init_73 : decode cX11_init 73 = .ok (.aload_n 1, 1) := by decide +kernel
theorem dX11_init_74 : decode cX11_init 74 = .ok (.invokespecial 48, 3) := by decide +kernel
theorem dX11_init_77 : decode cX11_init 77 = .ok (.putfield 49, 3) := by decide +kernel
theorem dX11_init_80 : decode cX11_init 80 = .ok (.iconst 0, 1) := by decide +kernel
theorem dX11_init_81 : decode cX11_init 81 = .ok (.istore 4, 2) := by decide +kernel
theorem dX11_init_83 : decode cX11_init 83 = .ok (.iload 4, 2) := by decide +kernel
theorem dX11_init_85 : decode cX11_init 85 = .ok (.aload_n 0, 1) := by decide +kernel
theorem dX11_init_86 : decode cX11_init 86 = .ok (.getfield 11, 3) := by decide +kernel
theorem dX11_init_89 : decode cX11_init 89 = .ok (.arraylength, 1) := by decide +kernel
theorem dX11_init_90 : decode cX11_init 90 = .ok (.if_icmp .ge 24, 3) := by decide +kernel
theorem dX11_init_93 : decode cX11_init 93 = .ok (.aload_n 0, 1) := by decide +kernel
theorem dX11_init_94 : decode cX11_init 94 = .ok (.getfield 11, 3) := by decide +kernel
theorem dX11_init_97 : decode cX11_init 97 = .ok (.iload 4, 2) := by decide +kernel
theorem dX11_init_99 : decode cX11_init 99 = .ok (.new 9, 3) := by decide +kernel
theorem dX11_init_102 : decode cX11_init 102 = .ok (.dup, 1) := by decide +kernel
theorem dX11_init_103 : decode cX11_init 103 = .ok (.aload_n 1, 1) := by decide +kernel
theorem dX11_init_104 : decode cX11_init 104 = .ok (.invokespecial 48, 3) := by decide +kernel
theorem dX11_init_107 : decode cX11_init 107 = .ok (.aastore, 1) := by decide +kernel
theorem dX11_init_108 : decode cX11_init 108 = .ok (.iinc 4 1, 3) := by decide +kernel
theorem dX11_init_111 : decode cX11_init 111 = .ok (.goto (-28), 3) := by decide +kernel
theorem dX11_init_114 : decode cX11_init 114 = .ok (.iconst 0, 1) := by decide +kernel
theorem dX11_init_115 : decode cX11_init 115 = .ok (.istore 4, 2) := by decide +kernel
theorem dX11_init_117 : decode cX11_init 117 = .ok (.iload 4, 2) := by decide +kernel
theorem dX11_init_119 : decode cX11_init 119 = .ok (.aload_n 0, 1) := by decide +kernel
theorem dX11_init_120 : decode cX11_init 120 = .ok (.getfield 17, 3) := by decide +kernel
theorem dX11_init_123 : decode cX11_init 123 = .ok (.arraylength, 1) := by decide +kernel
theorem dX11_init_124 : decode cX11_init 124 = .ok (.if_icmp .ge 23, 3) := by decide +kernel
theorem dX11_init_127 : decode cX11_init 127 = .ok (.aload_n 0, 1) := by decide +kernel
theorem dX11_init_128 : decode cX11_init 128 = .ok (.getfield 17, 3) := by decide +kernel
theorem dX11_init_131 : decode cX11_init 131 = .ok (.iload 4, 2) := by decide +kernel
theorem dX11_init_133 : decode cX11_init 133 = .ok (.new 15, 3) := by decide +kernel
theorem dX11_init_136 : decode cX11_init 136 = .ok (.dup, 1) := by decide +kernel
theorem dX11_init_137 : decode cX11_init 137 = .ok (.invokespecial 53, 3) := by decide +kernel
theorem dX11_init_140 : decode cX11_init 140 = .ok (.aastore, 1) := by decide +kernel
theorem dX11_init_141 : decode cX11_init 141 = .ok (.iinc 4 1, 3) := by decide +kernel
theorem dX11_init_144 : decode cX11_init 144 = .ok (.goto (-27), 3) := by decide +kernel
theorem dX11_init_147 : decode cX11_init 147 = .ok (.aload_n 0, 1) := by decide +kernel
theorem dX11_init_148 : decode cX11_init 148 = .ok (.aload_n 2, 1) := by decide +kernel
theorem dX11_init_149 : decode cX11_init 149 = .ok (.putfield 54, 3) := by decide +kernel
theorem dX11_init_152 : decode cX11_init 152 = .ok (.aload_n 0, 1) := by decide +kernel
theorem dX11_init_153 : decode cX11_init 153 = .ok (.new 58, 3) := by decide +kernel
theorem dX11_init_156 : decode cX11_init 156 = .ok (.dup, 1) := by decide +kernel
theorem dX11_init_157 : decode cX11_init 157 = .ok (.aload_n 1, 1) := by decide +kernel
theorem dX11_init_158 : decode cX11_init 158 = .ok (.invokespecial 60, 3) := by decide +kernel
theorem dX11_init_161 : decode cX11_init 161 = .ok (.putfield 61, 3) := by decide +kernel
theorem dX11_init_164 : decode cX11_init 164 = .ok (.aload_n 0, 1) := by decide +kernel
theorem dX11_init_165 : decode cX11_init 165 = .ok (.aload_n 3, 1) := by decide +kernel
theorem dX11_init_166 : decode cX11_init 166 = .ok (.putfield 65, 3) := by decide +kernel
theorem dX11_init_169 : decode cX11_init 169 = .ok (.aload_n 0, 1) := by decide +kernel
theorem dX11_init_170 : decode cX11_init 170 = .ok (.new 69, 3) := by decide +kernel
theorem dX11_init_173 : decode cX11_init 173 = .ok (.dup, 1) := by decide +kernel
theorem dX11_init_174 : decode cX11_init 174 = .ok (.aload_n 3, 1) := by decide +kernel
theorem dX11_init_175 : decode cX11_init 175 = .ok (.invokespecial 71, 3) := by decide +kernel
theorem dX11_init_178 : decode cX11_init 178 = .ok (.putfield 74, 3) := by decide +kernel
theorem dX11_init_181 : decode cX11_init 181 = .ok (.aload_n 0, 1) := by decide +kernel
theorem dX11_init_182 : decode cX11_init 182 = .ok (.new 78, 3) := by decide +kernel
theorem dX11_init_185 : decode cX11_init 185 = .ok (.dup, 1) := by decide +kernel
theorem dX11_init_186 : decode cX11_init 186 = .ok (.aload_n 3, 1) := by decide +kernel
theorem dX11_init_187 : decode cX11_init 187 = .ok (.aload_n 2, 1) := by decide +kernel
theorem dX11_init_188 : decode cX11_init 188 = .ok (.invokespecial 80, 3) := by decide +kernel
theorem dX11_init_191 : decode cX11_init 191 = .ok (.putfield 83, 3) := by decide +kernel
theorem dX11_init_194 : decode cX11_init 194 = .ok (.return_, 1) := by decide +kernel
theorem dX11_feed_0 : decode cX11_feed 0 = .ok (.aload_n 0, 1) := by decide +kernel
theorem dX11_feed_1 : decode cX11_feed 1 = .ok (.getfield 61, 3) := by decide +kernel
theorem dX11_feed_4 : decode cX11_feed 4 = .ok (.getfield 87, 3) := by decide +kernel
theorem dX11_feed_7 : decode cX11_feed 7 = .ok (.bipush 20, 2) := by decide +kernel
theorem dX11_feed_9 : decode cX11_feed 9 = .ok (.iadd, 1) := by decide +kernel
theorem dX11_feed_10 : decode cX11_feed 10 = .ok (.sipush 900, 3) := by decide +kernel
theorem dX11_feed_13 : decode cX11_feed 13 = .ok (.if_icmp .le 5, 3) := by decide +kernel
theorem dX11_feed_16 : decode cX11_feed 16 = .ok (.iconst (-1), 1) := by decide +kernel
theorem dX11_feed_17 : decode cX11_feed 17 = .ok (.ireturn, 1) := by decide +kernel
theorem dX11_feed_18 : decode cX11_feed 18 = .ok (.aload_n 0, 1) := by decide +kernel
theorem dX11_feed_19 : decode cX11_feed 19 = .ok (.getfield 61, 3) := by decide +kernel
theorem dX11_feed_22 : decode cX11_feed 22 = .ok (.iload_n 1, 1) := by decide +kernel
theorem dX11_feed_23 : decode cX11_feed 23 = .ok (.invokevirtual 91, 3) := by decide +kernel
theorem dX11_feed_26 : decode cX11_feed 26 = .ok (.aload_n 0, 1) := by decide +kernel
theorem dX11_feed_27 : decode cX11_feed 27 = .ok (.getfield 61, 3) := by decide +kernel
theorem dX11_feed_30 : decode cX11_feed 30 = .ok (.iload_n 2, 1) := by decide +kernel
theorem dX11_feed_31 : decode cX11_feed 31 = .ok (.invokevirtual 91, 3) := by decide +kernel
theorem dX11_feed_34 : decode cX11_feed 34 = .ok (.aload_n 0, 1) := by decide +kernel
theorem dX11_feed_35 : decode cX11_feed 35 = .ok (.getfield 61, 3) := by decide +kernel
theorem dX11_feed_38 : decode cX11_feed 38 = .ok (.iload_n 3, 1) := by decide +kernel
theorem dX11_feed_39 : decode cX11_feed 39 = .ok (.invokevirtual 91, 3) := by decide +kernel
theorem dX11_feed_42 : decode cX11_feed 42 = .ok (.aload_n 0, 1) := by decide +kernel
theorem dX11_feed_43 : decode cX11_feed 43 = .ok (.getfield 61, 3) := by decide +kernel
theorem dX11_feed_46 : decode cX11_feed 46 = .ok (.iload 4, 2) := by decide +kernel
theorem dX11_feed_48 : decode cX11_feed 48 = .ok (.invokevirtual 91, 3) := by decide +kernel
theorem dX11_feed_51 : decode cX11_feed 51 = .ok (.aload_n 0, 1) := by decide +kernel
theorem dX11_feed_52 : decode cX11_feed 52 = .ok (.getfield 61, 3) := by decide +kernel
theorem dX11_feed_55 : decode cX11_feed 55 = .ok (.iload 5, 2) := by decide +kernel
theorem dX11_feed_57 : decode cX11_feed 57 = .ok (.invokevirtual 91, 3) := by decide +kernel
theorem dX11_feed_60 : decode cX11_feed 60 = .ok (.aload_n 0, 1) := by decide +kernel
theorem dX11_feed_61 : decode cX11_feed 61 = .ok (.getfield 61, 3) := by decide +kernel
theorem dX11_feed_64 : decode cX11_feed 64 = .ok (.getfield 87, 3) := by decide +kernel
theorem dX11_feed_67 : decode cX11_feed 67 = .ok (.ireturn, 1) := by decide +kernel
theorem dX11_hills_0 : decode cX11_hills 0 = .ok (.iload_n 1, 1) := by decide +kernel
theorem dX11_hills_1 : decode cX11_hills 1 = .ok (.iconst 0, 1) := by decide +kernel
theorem dX11_hills_2 : decode cX11_hills 2 = .ok (.aload_n 0, 1) := by decide +kernel
theorem dX11_hills_3 : decode cX11_hills 3 = .ok (.getfield 61, 3) := by decide +kernel
theorem dX11_hills_6 : decode cX11_hills 6 = .ok (.getfield 87, 3) := by decide +kernel
theorem dX11_hills_9 : decode cX11_hills 9 = .ok (.invokestatic 95, 3) := by decide +kernel
theorem dX11_hills_12 : decode cX11_hills 12 = .ok (.aload_n 0, 1) := by decide +kernel
theorem dX11_hills_13 : decode cX11_hills 13 = .ok (.getfield 61, 3) := by decide +kernel
theorem dX11_hills_16 : decode cX11_hills 16 = .ok (.iload_n 1, 1) := by decide +kernel
theorem dX11_hills_17 : decode cX11_hills 17 = .ok (.invokevirtual 99, 3) := by decide +kernel
theorem dX11_hills_20 : decode cX11_hills 20 = .ok (.ifCond .ne 14, 3) := by decide +kernel
theorem dX11_hills_23 : decode cX11_hills 23 = .ok (.bipush (-10), 2) := by decide +kernel
theorem dX11_hills_25 : decode cX11_hills 25 = .ok (.aload_n 0, 1) := by decide +kernel
theorem dX11_hills_26 : decode cX11_hills 26 = .ok (.getfield 61, 3) := by decide +kernel
theorem dX11_hills_29 : decode cX11_hills 29 = .ok (.getfield 103, 3) := by decide +kernel
theorem dX11_hills_32 : decode cX11_hills 32 = .ok (.isub, 1) := by decide +kernel
theorem dX11_hills_33 : decode cX11_hills 33 = .ok (.ireturn, 1) := by decide +kernel
theorem dX11_hills_34 : decode cX11_hills 34 = .ok (.aload_n 0, 1) := by decide +kernel
theorem dX11_hills_35 : decode cX11_hills 35 = .ok (.getfield 49, 3) := by decide +kernel
theorem dX11_hills_38 : decode cX11_hills 38 = .ok (.aload_n 0, 1) := by decide +kernel
theorem dX11_hills_39 : decode cX11_hills 39 = .ok (.getfield 61, 3) := by decide +kernel
theorem dX11_hills_42 : decode cX11_hills 42 = .ok (.getfield 106, 3) := by decide +kernel
theorem dX11_hills_45 : decode cX11_hills 45 = .ok (.invokevirtual 110, 3) := by decide +kernel
theorem dX11_hills_48 : decode cX11_hills 48 = .ok (.aload_n 0, 1) := by decide +kernel
theorem dX11_hills_49 : decode cX11_hills 49 = .ok (.getfield 61, 3) := by decide +kernel
theorem dX11_hills_52 : decode cX11_hills 52 = .ok (.getfield 106, 3) := by decide +kernel
theorem dX11_hills_55 : decode cX11_hills 55 = .ok (.getfield 113, 3) := by decide +kernel
theorem dX11_hills_58 : decode cX11_hills 58 = .ok (.ireturn, 1) := by decide +kernel
theorem dX11_fault_0 : decode cX11_fault 0 = .ok (.iload_n 1, 1) := by decide +kernel
theorem dX11_fault_1 : decode cX11_fault 1 = .ok (.ifCond .ne 11, 3) := by decide +kernel
theorem dX11_fault_4 : decode cX11_fault 4 = .ok (.aload_n 0, 1) := by decide +kernel
theorem dX11_fault_5 : decode cX11_fault 5 = .ok (.getfield 61, 3) := by decide +kernel
theorem dX11_fault_8 : decode cX11_fault 8 = .ok (.getfield 103, 3) := by decide +kernel
theorem dX11_fault_11 : decode cX11_fault 11 = .ok (.ireturn, 1) := by decide +kernel
theorem dX11_fault_12 : decode cX11_fault 12 = .ok (.iload_n 1, 1) := by decide +kernel
theorem dX11_fault_13 : decode cX11_fault 13 = .ok (.iconst 1, 1) := by decide +kernel
theorem dX11_fault_14 : decode cX11_fault 14 = .ok (.if_icmp .ne 13, 3) := by decide +kernel
theorem dX11_fault_17 : decode cX11_fault 17 = .ok (.aload_n 0, 1) := by decide +kernel
theorem dX11_fault_18 : decode cX11_fault 18 = .ok (.getfield 61, 3) := by decide +kernel
theorem dX11_fault_21 : decode cX11_fault 21 = .ok (.getfield 116, 3) := by decide +kernel
theorem dX11_fault_24 : decode cX11_fault 24 = .ok (.goto 4, 3) := by decide +kernel
theorem dX11_fault_27 : decode cX11_fault 27 = .ok (.iconst (-1), 1) := by decide +kernel
theorem dX11_fault_28 : decode cX11_fault 28 = .ok (.ireturn, 1) := by decide +kernel
theorem dX11_well_0 : decode cX11_well 0 = .ok (.aload_n 0, 1) := by decide +kernel
theorem dX11_well_1 : decode cX11_well 1 = .ok (.iload_n 1, 1) := by decide +kernel
theorem dX11_well_2 : decode cX11_well 2 = .ok (.invokevirtual 119, 3) := by decide +kernel
theorem dX11_well_5 : decode cX11_well 5 = .ok (.iload_n 2, 1) := by decide +kernel
theorem dX11_well_6 : decode cX11_well 6 = .ok (.iconst 0, 1) := by decide +kernel
theorem dX11_well_7 : decode cX11_well 7 = .ok (.bipush 8, 2) := by decide +kernel
theorem dX11_well_9 : decode cX11_well 9 = .ok (.invokestatic 95, 3) := by decide +kernel
theorem dX11_well_12 : decode cX11_well 12 = .ok (.aload_n 0, 1) := by decide +kernel
theorem dX11_well_13 : decode cX11_well 13 = .ok (.getfield 49, 3) := by decide +kernel
theorem dX11_well_16 : decode cX11_well 16 = .ok (.getfield 122, 3) := by decide +kernel
theorem dX11_well_19 : decode cX11_well 19 = .ok (.astore_n 3, 1) := by decide +kernel
theorem dX11_well_20 : decode cX11_well 20 = .ok (.aload_n 3, 1) := by decide +kernel
theorem dX11_well_21 : decode cX11_well 21 = .ok (.getfield 125, 3) := by decide +kernel
theorem dX11_well_24 : decode cX11_well 24 = .ok (.astore 4, 2) := by decide +kernel
theorem dX11_well_26 : decode cX11_well 26 = .ok (.iload_n 2, 1) := by decide +kernel
theorem dX11_well_27 : decode cX11_well 27 = .ok (.tableswitch 112 0 7 #[45, 52, 59, 65, 72, 78, 84, 98], 45) := by decide +kernel
theorem dX11_well_72 : decode cX11_well 72 = .ok (.aload 4, 2) := by decide +kernel
theorem dX11_well_74 : decode cX11_well 74 = .ok (.iload_n 1, 1) := by decide +kernel
theorem dX11_well_75 : decode cX11_well 75 = .ok (.invokevirtual 128, 3) := by decide +kernel
theorem dX11_well_78 : decode cX11_well 78 = .ok (.ireturn, 1) := by decide +kernel
theorem dX11_well_79 : decode cX11_well 79 = .ok (.aload 4, 2) := by decide +kernel
theorem dX11_well_81 : decode cX11_well 81 = .ok (.iload_n 1, 1) := by decide +kernel
theorem dX11_well_82 : decode cX11_well 82 = .ok (.invokevirtual 132, 3) := by decide +kernel
theorem dX11_well_85 : decode cX11_well 85 = .ok (.ireturn, 1) := by decide +kernel
theorem dX11_well_86 : decode cX11_well 86 = .ok (.aload_n 3, 1) := by decide +kernel
theorem dX11_well_87 : decode cX11_well 87 = .ok (.iload_n 1, 1) := by decide +kernel
theorem dX11_well_88 : decode cX11_well 88 = .ok (.invokevirtual 135, 3) := by decide +kernel
theorem dX11_well_91 : decode cX11_well 91 = .ok (.ireturn, 1) := by decide +kernel
theorem dX11_well_92 : decode cX11_well 92 = .ok (.aload 4, 2) := by decide +kernel
theorem dX11_well_94 : decode cX11_well 94 = .ok (.iload_n 1, 1) := by decide +kernel
theorem dX11_well_95 : decode cX11_well 95 = .ok (.invokevirtual 138, 3) := by decide +kernel
theorem dX11_well_98 : decode cX11_well 98 = .ok (.ireturn, 1) := by decide +kernel
theorem dX11_well_99 : decode cX11_well 99 = .ok (.aload_n 3, 1) := by decide +kernel
theorem dX11_well_100 : decode cX11_well 100 = .ok (.iload_n 1, 1) := by decide +kernel
theorem dX11_well_101 : decode cX11_well 101 = .ok (.invokevirtual 141, 3) := by decide +kernel
theorem dX11_well_104 : decode cX11_well 104 = .ok (.ireturn, 1) := by decide +kernel
theorem dX11_well_105 : decode cX11_well 105 = .ok (.aload_n 3, 1) := by decide +kernel
theorem dX11_well_106 : decode cX11_well 106 = .ok (.iload_n 1, 1) := by decide +kernel
theorem dX11_well_107 : decode cX11_well 107 = .ok (.invokevirtual 144, 3) := by decide +kernel
theorem dX11_well_110 : decode cX11_well 110 = .ok (.ireturn, 1) := by decide +kernel
theorem dX11_well_111 : decode cX11_well 111 = .ok (.aload_n 3, 1) := by decide +kernel
theorem dX11_well_112 : decode cX11_well 112 = .ok (.iload_n 1, 1) := by decide +kernel
theorem dX11_well_113 : decode cX11_well 113 = .ok (.invokevirtual 147, 3) := by decide +kernel
theorem dX11_well_116 : decode cX11_well 116 = .ok (.ifCond .eq 7, 3) := by decide +kernel
theorem dX11_well_119 : decode cX11_well 119 = .ok (.iconst 1, 1) := by decide +kernel
theorem dX11_well_120 : decode cX11_well 120 = .ok (.goto 4, 3) := by decide +kernel
theorem dX11_well_123 : decode cX11_well 123 = .ok (.iconst 0, 1) := by decide +kernel
theorem dX11_well_124 : decode cX11_well 124 = .ok (.ireturn, 1) := by decide +kernel
theorem dX11_well_125 : decode cX11_well 125 = .ok (.aload_n 3, 1) := by decide +kernel
theorem dX11_well_126 : decode cX11_well 126 = .ok (.iload_n 1, 1) := by decide +kernel
theorem dX11_well_127 : decode cX11_well 127 = .ok (.invokevirtual 150, 3) := by decide +kernel
theorem dX11_well_130 : decode cX11_well 130 = .ok (.ifCond .eq 7, 3) := by decide +kernel
theorem dX11_well_133 : decode cX11_well 133 = .ok (.iconst 1, 1) := by decide +kernel
theorem dX11_well_134 : decode cX11_well 134 = .ok (.goto 4, 3) := by decide +kernel
theorem dX11_well_137 : decode cX11_well 137 = .ok (.iconst 0, 1) := by decide +kernel
theorem dX11_well_138 : decode cX11_well 138 = .ok (.ireturn, 1) := by decide +kernel
theorem dX11_well_139 : decode cX11_well 139 = .ok (.aload 4, 2) := by decide +kernel
theorem dX11_well_141 : decode cX11_well 141 = .ok (.iload_n 1, 1) := by decide +kernel
theorem dX11_well_142 : decode cX11_well 142 = .ok (.invokevirtual 153, 3) := by decide +kernel
theorem dX11_well_145 : decode cX11_well 145 = .ok (.ireturn, 1) := by decide +kernel
theorem dX11_house_0 : decode cX11_house 0 = .ok (.aload_n 0, 1) := by decide +kernel
theorem dX11_house_1 : decode cX11_house 1 = .ok (.iload_n 1, 1) := by decide +kernel
theorem dX11_house_2 : decode cX11_house 2 = .ok (.invokevirtual 156, 3) := by decide +kernel
theorem dX11_house_5 : decode cX11_house 5 = .ok (.iload_n 2, 1) := by decide +kernel
theorem dX11_house_6 : decode cX11_house 6 = .ok (.iconst 0, 1) := by decide +kernel
theorem dX11_house_7 : decode cX11_house 7 = .ok (.iconst 1, 1) := by decide +kernel
theorem dX11_house_8 : decode cX11_house 8 = .ok (.invokestatic 95, 3) := by decide +kernel
theorem dX11_house_11 : decode cX11_house 11 = .ok (.iload_n 2, 1) := by decide +kernel
theorem dX11_house_12 : decode cX11_house 12 = .ok (.ifCond .ne 20, 3) := by decide +kernel
theorem dX11_house_15 : decode cX11_house 15 = .ok (.aload_n 0, 1) := by decide +kernel
theorem dX11_house_16 : decode cX11_house 16 = .ok (.getfield 49, 3) := by decide +kernel
theorem dX11_house_19 : decode cX11_house 19 = .ok (.getfield 122, 3) := by decide +kernel
theorem dX11_house_22 : decode cX11_house 22 = .ok (.getfield 125, 3) := by decide +kernel
theorem dX11_house_25 : decode cX11_house 25 = .ok (.iload_n 1, 1) := by decide +kernel
theorem dX11_house_26 : decode cX11_house 26 = .ok (.invokevirtual 159, 3) := by decide +kernel
theorem dX11_house_29 : decode cX11_house 29 = .ok (.goto 17, 3) := by decide +kernel
theorem dX11_house_32 : decode cX11_house 32 = .ok (.aload_n 0, 1) := by decide +kernel
theorem dX11_house_33 : decode cX11_house 33 = .ok (.getfield 49, 3) := by decide +kernel
theorem dX11_house_36 : decode cX11_house 36 = .ok (.getfield 122, 3) := by decide +kernel
theorem dX11_house_39 : decode cX11_house 39 = .ok (.getfield 125, 3) := by decide +kernel
theorem dX11_house_42 : decode cX11_house 42 = .ok (.iload_n 1, 1) := by decide +kernel
theorem dX11_house_43 : decode cX11_house 43 = .ok (.invokevirtual 162, 3) := by decide +kernel
theorem dX11_house_46 : decode cX11_house 46 = .ok (.ireturn, 1) := by decide +kernel
theorem dX11_awake_0 : decode cX11_awake 0 = .ok (.aload_n 0, 1) := by decide +kernel
theorem dX11_awake_1 : decode cX11_awake 1 = .ok (.getfield 49, 3) := by decide +kernel
theorem dX11_awake_4 : decode cX11_awake 4 = .ok (.getfield 122, 3) := by decide +kernel
theorem dX11_awake_7 : decode cX11_awake 7 = .ok (.invokevirtual 165, 3) := by decide +kernel
theorem dX11_awake_10 : decode cX11_awake 10 = .ok (.ireturn, 1) := by decide +kernel
theorem dX11_water_0 : decode cX11_water 0 = .ok (.aload_n 0, 1) := by decide +kernel
theorem dX11_water_1 : decode cX11_water 1 = .ok (.getfield 49, 3) := by decide +kernel
theorem dX11_water_4 : decode cX11_water 4 = .ok (.getfield 122, 3) := by decide +kernel
theorem dX11_water_7 : decode cX11_water 7 = .ok (.invokevirtual 169, 3) := by decide +kernel
theorem dX11_water_10 : decode cX11_water 10 = .ok (.ireturn, 1) := by decide +kernel
theorem dX11_draw_0 : decode cX11_draw 0 = .ok (.aload_n 0, 1) := by decide +kernel
theorem dX11_draw_1 : decode cX11_draw 1 = .ok (.getfield 49, 3) := by decide +kernel
theorem dX11_draw_4 : decode cX11_draw 4 = .ok (.getfield 122, 3) := by decide +kernel
theorem dX11_draw_7 : decode cX11_draw 7 = .ok (.iload_n 1, 1) := by decide +kernel
theorem dX11_draw_8 : decode cX11_draw 8 = .ok (.iload_n 2, 1) := by decide +kernel
theorem dX11_draw_9 : decode cX11_draw 9 = .ok (.invokestatic 172, 3) := by decide +kernel
theorem dX11_draw_12 : decode cX11_draw 12 = .ok (.istore_n 3, 1) := by decide +kernel
theorem dX11_draw_13 : decode cX11_draw 13 = .ok (.iload_n 3, 1) := by decide +kernel
theorem dX11_draw_14 : decode cX11_draw 14 = .ok (.ifCond .eq 6, 3) := by decide +kernel
theorem dX11_draw_17 : decode cX11_draw 17 = .ok (.iload_n 3, 1) := by decide +kernel
theorem dX11_draw_18 : decode cX11_draw 18 = .ok (.ineg, 1) := by decide +kernel
theorem dX11_draw_19 : decode cX11_draw 19 = .ok (.ireturn, 1) := by decide +kernel
theorem dX11_draw_20 : decode cX11_draw 20 = .ok (.aload_n 0, 1) := by decide +kernel
theorem dX11_draw_21 : decode cX11_draw 21 = .ok (.getfield 49, 3) := by decide +kernel
theorem dX11_draw_24 : decode cX11_draw 24 = .ok (.invokevirtual 176, 3) := by decide +kernel
theorem dX11_draw_27 : decode cX11_draw 27 = .ok (.aload_n 0, 1) := by decide +kernel
theorem dX11_draw_28 : decode cX11_draw 28 = .ok (.getfield 74, 3) := by decide +kernel
theorem dX11_draw_31 : decode cX11_draw 31 = .ok (.aload_n 0, 1) := by decide +kernel
theorem dX11_draw_32 : decode cX11_draw 32 = .ok (.getfield 49, 3) := by decide +kernel
theorem dX11_draw_35 : decode cX11_draw 35 = .ok (.getfield 122, 3) := by decide +kernel
theorem dX11_draw_38 : decode cX11_draw 38 = .ok (.iload_n 1, 1) := by decide +kernel
theorem dX11_draw_39 : decode cX11_draw 39 = .ok (.iload_n 2, 1) := by decide +kernel
theorem dX11_draw_40 : decode cX11_draw 40 = .ok (.invokevirtual 179, 3) := by decide +kernel
theorem dX11_draw_43 : decode cX11_draw 43 = .ok (.ireturn, 1) := by decide +kernel
theorem dX11_lull_0 : decode cX11_lull 0 = .ok (.aload_n 0, 1) := by decide +kernel
theorem dX11_lull_1 : decode cX11_lull 1 = .ok (.getfield 49, 3) := by decide +kernel
theorem dX11_lull_4 : decode cX11_lull 4 = .ok (.getfield 122, 3) := by decide +kernel
theorem dX11_lull_7 : decode cX11_lull 7 = .ok (.iload_n 1, 1) := by decide +kernel
theorem dX11_lull_8 : decode cX11_lull 8 = .ok (.invokestatic 182, 3) := by decide +kernel
theorem dX11_lull_11 : decode cX11_lull 11 = .ok (.istore_n 2, 1) := by decide +kernel
theorem dX11_lull_12 : decode cX11_lull 12 = .ok (.iload_n 2, 1) := by decide +kernel
theorem dX11_lull_13 : decode cX11_lull 13 = .ok (.ifCond .eq 8, 3) := by decide +kernel
theorem dX11_lull_16 : decode cX11_lull 16 = .ok (.bipush (-10), 2) := by decide +kernel
theorem dX11_lull_18 : decode cX11_lull 18 = .ok (.iload_n 2, 1) := by decide +kernel
theorem dX11_lull_19 : decode cX11_lull 19 = .ok (.isub, 1) := by decide +kernel
theorem dX11_lull_20 : decode cX11_lull 20 = .ok (.ireturn, 1) := by decide +kernel
theorem dX11_lull_21 : decode cX11_lull 21 = .ok (.aload_n 0, 1) := by decide +kernel
theorem dX11_lull_22 : decode cX11_lull 22 = .ok (.getfield 49, 3) := by decide +kernel
theorem dX11_lull_25 : decode cX11_lull 25 = .ok (.invokevirtual 176, 3) := by decide +kernel
theorem dX11_lull_28 : decode cX11_lull 28 = .ok (.aload_n 0, 1) := by decide +kernel
theorem dX11_lull_29 : decode cX11_lull 29 = .ok (.getfield 49, 3) := by decide +kernel
theorem dX11_lull_32 : decode cX11_lull 32 = .ok (.getfield 122, 3) := by decide +kernel
theorem dX11_lull_35 : decode cX11_lull 35 = .ok (.iload_n 1, 1) := by decide +kernel
theorem dX11_lull_36 : decode cX11_lull 36 = .ok (.invokevirtual 186, 3) := by decide +kernel
theorem dX11_lull_39 : decode cX11_lull 39 = .ok (.aload_n 0, 1) := by decide +kernel
theorem dX11_lull_40 : decode cX11_lull 40 = .ok (.getfield 49, 3) := by decide +kernel
theorem dX11_lull_43 : decode cX11_lull 43 = .ok (.getfield 122, 3) := by decide +kernel
theorem dX11_lull_46 : decode cX11_lull 46 = .ok (.iload_n 1, 1) := by decide +kernel
theorem dX11_lull_47 : decode cX11_lull 47 = .ok (.invokevirtual 135, 3) := by decide +kernel
theorem dX11_lull_50 : decode cX11_lull 50 = .ok (.ireturn, 1) := by decide +kernel
theorem dX11_coin_0 : decode cX11_coin 0 = .ok (.aload_n 0, 1) := by decide +kernel
theorem dX11_coin_1 : decode cX11_coin 1 = .ok (.getfield 49, 3) := by decide +kernel
theorem dX11_coin_4 : decode cX11_coin 4 = .ok (.getfield 122, 3) := by decide +kernel
theorem dX11_coin_7 : decode cX11_coin 7 = .ok (.iload_n 1, 1) := by decide +kernel
theorem dX11_coin_8 : decode cX11_coin 8 = .ok (.invokestatic 189, 3) := by decide +kernel
theorem dX11_coin_11 : decode cX11_coin 11 = .ok (.istore_n 2, 1) := by decide +kernel
theorem dX11_coin_12 : decode cX11_coin 12 = .ok (.iload_n 2, 1) := by decide +kernel
theorem dX11_coin_13 : decode cX11_coin 13 = .ok (.ifCond .eq 6, 3) := by decide +kernel
theorem dX11_coin_16 : decode cX11_coin 16 = .ok (.iload_n 2, 1) := by decide +kernel
theorem dX11_coin_17 : decode cX11_coin 17 = .ok (.ineg, 1) := by decide +kernel
theorem dX11_coin_18 : decode cX11_coin 18 = .ok (.ireturn, 1) := by decide +kernel
theorem dX11_coin_19 : decode cX11_coin 19 = .ok (.aload_n 0, 1) := by decide +kernel
theorem dX11_coin_20 : decode cX11_coin 20 = .ok (.getfield 49, 3) := by decide +kernel
theorem dX11_coin_23 : decode cX11_coin 23 = .ok (.invokevirtual 176, 3) := by decide +kernel
theorem dX11_coin_26 : decode cX11_coin 26 = .ok (.aload_n 0, 1) := by decide +kernel
theorem dX11_coin_27 : decode cX11_coin 27 = .ok (.getfield 74, 3) := by decide +kernel
theorem dX11_coin_30 : decode cX11_coin 30 = .ok (.aload_n 0, 1) := by decide +kernel
theorem dX11_coin_31 : decode cX11_coin 31 = .ok (.getfield 49, 3) := by decide +kernel
theorem dX11_coin_34 : decode cX11_coin 34 = .ok (.getfield 122, 3) := by decide +kernel
theorem dX11_coin_37 : decode cX11_coin 37 = .ok (.iload_n 1, 1) := by decide +kernel
theorem dX11_coin_38 : decode cX11_coin 38 = .ok (.invokevirtual 192, 3) := by decide +kernel
theorem dX11_coin_41 : decode cX11_coin 41 = .ok (.ireturn, 1) := by decide +kernel
theorem dX11_thunder_0 : decode cX11_thunder 0 = .ok (.aload_n 0, 1) := by decide +kernel
theorem dX11_thunder_1 : decode cX11_thunder 1 = .ok (.getfield 49, 3) := by decide +kernel
theorem dX11_thunder_4 : decode cX11_thunder 4 = .ok (.invokevirtual 176, 3) := by decide +kernel
theorem dX11_thunder_7 : decode cX11_thunder 7 = .ok (.aload_n 0, 1) := by decide +kernel
theorem dX11_thunder_8 : decode cX11_thunder 8 = .ok (.getfield 74, 3) := by decide +kernel
theorem dX11_thunder_11 : decode cX11_thunder 11 = .ok (.aload_n 0, 1) := by decide +kernel
theorem dX11_thunder_12 : decode cX11_thunder 12 = .ok (.getfield 49, 3) := by decide +kernel
theorem dX11_thunder_15 : decode cX11_thunder 15 = .ok (.getfield 122, 3) := by decide +kernel
theorem dX11_thunder_18 : decode cX11_thunder 18 = .ok (.invokevirtual 195, 3) := by decide +kernel
theorem dX11_thunder_21 : decode cX11_thunder 21 = .ok (.ireturn, 1) := by decide +kernel
theorem dX11_hours_0 : decode cX11_hours 0 = .ok (.iload_n 1, 1) := by decide +kernel
theorem dX11_hours_1 : decode cX11_hours 1 = .ok (.iconst 1, 1) := by decide +kernel
theorem dX11_hours_2 : decode cX11_hours 2 = .ok (.bipush 99, 2) := by decide +kernel
theorem dX11_hours_4 : decode cX11_hours 4 = .ok (.invokestatic 95, 3) := by decide +kernel
theorem dX11_hours_7 : decode cX11_hours 7 = .ok (.aload_n 0, 1) := by decide +kernel
theorem dX11_hours_8 : decode cX11_hours 8 = .ok (.getfield 49, 3) := by decide +kernel
theorem dX11_hours_11 : decode cX11_hours 11 = .ok (.invokevirtual 176, 3) := by decide +kernel
theorem dX11_hours_14 : decode cX11_hours 14 = .ok (.aload_n 0, 1) := by decide +kernel
theorem dX11_hours_15 : decode cX11_hours 15 = .ok (.getfield 49, 3) := by decide +kernel
theorem dX11_hours_18 : decode cX11_hours 18 = .ok (.getfield 122, 3) := by decide +kernel
theorem dX11_hours_21 : decode cX11_hours 21 = .ok (.invokevirtual 169, 3) := by decide +kernel
theorem dX11_hours_24 : decode cX11_hours 24 = .ok (.istore_n 2, 1) := by decide +kernel
theorem dX11_hours_25 : decode cX11_hours 25 = .ok (.iconst 0, 1) := by decide +kernel
theorem dX11_hours_26 : decode cX11_hours 26 = .ok (.istore_n 3, 1) := by decide +kernel
theorem dX11_hours_27 : decode cX11_hours 27 = .ok (.iload_n 3, 1) := by decide +kernel
theorem dX11_hours_28 : decode cX11_hours 28 = .ok (.iload_n 1, 1) := by decide +kernel
theorem dX11_hours_29 : decode cX11_hours 29 = .ok (.if_icmp .ge 19, 3) := by decide +kernel
theorem dX11_hours_32 : decode cX11_hours 32 = .ok (.aload_n 0, 1) := by decide +kernel
theorem dX11_hours_33 : decode cX11_hours 33 = .ok (.getfield 49, 3) := by decide +kernel
theorem dX11_hours_36 : decode cX11_hours 36 = .ok (.getfield 122, 3) := by decide +kernel
theorem dX11_hours_39 : decode cX11_hours 39 = .ok (.invokevirtual 199, 3) := by decide +kernel
theorem dX11_hours_42 : decode cX11_hours 42 = .ok (.iinc 3 1, 3) := by decide +kernel
theorem dX11_hours_45 : decode cX11_hours 45 = .ok (.goto (-18), 3) := by decide +kernel
theorem dX11_hours_48 : decode cX11_hours 48 = .ok (.aload_n 0, 1) := by decide +kernel
theorem dX11_hours_49 : decode cX11_hours 49 = .ok (.getfield 49, 3) := by decide +kernel
theorem dX11_hours_52 : decode cX11_hours 52 = .ok (.getfield 122, 3) := by decide +kernel
theorem dX11_hours_55 : decode cX11_hours 55 = .ok (.invokevirtual 169, 3) := by decide +kernel
theorem dX11_hours_58 : decode cX11_hours 58 = .ok (.iload_n 2, 1) := by decide +kernel
theorem dX11_hours_59 : decode cX11_hours 59 = .ok (.isub, 1) := by decide +kernel
theorem dX11_hours_60 : decode cX11_hours 60 = .ok (.ireturn, 1) := by decide +kernel
theorem dX11_undo_0 : decode cX11_undo 0 = .ok (.iload_n 1, 1) := by decide +kernel
theorem dX11_undo_1 : decode cX11_undo 1 = .ok (.iconst 1, 1) := by decide +kernel
theorem dX11_undo_2 : decode cX11_undo 2 = .ok (.bipush 10, 2) := by decide +kernel
theorem dX11_undo_4 : decode cX11_undo 4 = .ok (.invokestatic 95, 3) := by decide +kernel
theorem dX11_undo_7 : decode cX11_undo 7 = .ok (.iload_n 1, 1) := by decide +kernel
theorem dX11_undo_8 : decode cX11_undo 8 = .ok (.iconst 1, 1) := by decide +kernel
theorem dX11_undo_9 : decode cX11_undo 9 = .ok (.aload_n 0, 1) := by decide +kernel
theorem dX11_undo_10 : decode cX11_undo 10 = .ok (.getfield 49, 3) := by decide +kernel
theorem dX11_undo_13 : decode cX11_undo 13 = .ok (.getfield 202, 3) := by decide +kernel
theorem dX11_undo_16 : decode cX11_undo 16 = .ok (.invokestatic 95, 3) := by decide +kernel
theorem dX11_undo_19 : decode cX11_undo 19 = .ok (.aload_n 0, 1) := by decide +kernel
theorem dX11_undo_20 : decode cX11_undo 20 = .ok (.getfield 49, 3) := by decide +kernel
theorem dX11_undo_23 : decode cX11_undo 23 = .ok (.iload_n 1, 1) := by decide +kernel
theorem dX11_undo_24 : decode cX11_undo 24 = .ok (.invokevirtual 205, 3) := by decide +kernel
theorem dX11_undo_27 : decode cX11_undo 27 = .ok (.aload_n 0, 1) := by decide +kernel
theorem dX11_undo_28 : decode cX11_undo 28 = .ok (.getfield 49, 3) := by decide +kernel
theorem dX11_undo_31 : decode cX11_undo 31 = .ok (.getfield 202, 3) := by decide +kernel
theorem dX11_undo_34 : decode cX11_undo 34 = .ok (.ireturn, 1) := by decide +kernel
theorem dX11_judge_0 : decode cX11_judge 0 = .ok (.aload_n 0, 1) := by decide +kernel
theorem dX11_judge_1 : decode cX11_judge 1 = .ok (.iload_n 1, 1) := by decide +kernel
theorem dX11_judge_2 : decode cX11_judge 2 = .ok (.invokevirtual 208, 3) := by decide +kernel
theorem dX11_judge_5 : decode cX11_judge 5 = .ok (.astore_n 3, 1) := by decide +kernel
theorem dX11_judge_6 : decode cX11_judge 6 = .ok (.iload_n 2, 1) := by decide +kernel
theorem dX11_judge_7 : decode cX11_judge 7 = .ok (.iconst 0, 1) := by decide +kernel
theorem dX11_judge_8 : decode cX11_judge 8 = .ok (.iconst 3, 1) := by decide +kernel
theorem dX11_judge_9 : decode cX11_judge 9 = .ok (.invokestatic 95, 3) := by decide +kernel
theorem dX11_judge_12 : decode cX11_judge 12 = .ok (.aload_n 0, 1) := by decide +kernel
theorem dX11_judge_13 : decode cX11_judge 13 = .ok (.getfield 54, 3) := by decide +kernel
theorem dX11_judge_16 : decode cX11_judge 16 = .ok (.aload_n 0, 1) := by decide +kernel
theorem dX11_judge_17 : decode cX11_judge 17 = .ok (.getfield 49, 3) := by decide +kernel
theorem dX11_judge_20 : decode cX11_judge 20 = .ok (.getfield 122, 3) := by decide +kernel
theorem dX11_judge_23 : decode cX11_judge 23 = .ok (.invokevirtual 212, 3) := by decide +kernel
theorem dX11_judge_26 : decode cX11_judge 26 = .ok (.iconst 0, 1) := by decide +kernel
theorem dX11_judge_27 : decode cX11_judge 27 = .ok (.istore 4, 2) := by decide +kernel
theorem dX11_judge_29 : decode cX11_judge 29 = .ok (.iconst 0, 1) := by decide +kernel
theorem dX11_judge_30 : decode cX11_judge 30 = .ok (.istore 5, 2) := by decide +kernel
theorem dX11_judge_32 : decode cX11_judge 32 = .ok (.iconst 0, 1) := by decide +kernel
theorem dX11_judge_33 : decode cX11_judge 33 = .ok (.istore 6, 2) := by decide +kernel
theorem dX11_judge_35 : decode cX11_judge 35 = .ok (.iload 6, 2) := by decide +kernel
theorem dX11_judge_37 : decode cX11_judge 37 = .ok (.aload_n 3, 1) := by decide +kernel
theorem dX11_judge_38 : decode cX11_judge 38 = .ok (.getfield 215, 3) := by decide +kernel
theorem dX11_judge_41 : decode cX11_judge 41 = .ok (.if_icmp .ge 55, 3) := by decide +kernel
theorem dX11_judge_44 : decode cX11_judge 44 = .ok (.iload 5, 2) := by decide +kernel
theorem dX11_judge_46 : decode cX11_judge 46 = .ok (.ifCond .ne 50, 3) := by decide +kernel
theorem dX11_judge_49 : decode cX11_judge 49 = .ok (.aload_n 3, 1) := by decide +kernel
theorem dX11_judge_50 : decode cX11_judge 50 = .ok (.iload 6, 2) := by decide +kernel
theorem dX11_judge_52 : decode cX11_judge 52 = .ok (.invokevirtual 218, 3) := by decide +kernel
theorem dX11_judge_55 : decode cX11_judge 55 = .ok (.lstore 7, 2) := by decide +kernel
theorem dX11_judge_57 : decode cX11_judge 57 = .ok (.iload 6, 2) := by decide +kernel
theorem dX11_judge_59 : decode cX11_judge 59 = .ok (.istore 4, 2) := by decide +kernel
theorem dX11_judge_61 : decode cX11_judge 61 = .ok (.aload_n 0, 1) := by decide +kernel
theorem dX11_judge_62 : decode cX11_judge 62 = .ok (.getfield 54, 3) := by decide +kernel
theorem dX11_judge_65 : decode cX11_judge 65 = .ok (.lload 7, 2) := by decide +kernel
theorem dX11_judge_67 : decode cX11_judge 67 = .ok (.invokestatic 222, 3) := by decide +kernel
theorem dX11_judge_70 : decode cX11_judge 70 = .ok (.istore 5, 2) := by decide +kernel
theorem dX11_judge_72 : decode cX11_judge 72 = .ok (.iload 5, 2) := by decide +kernel
theorem dX11_judge_74 : decode cX11_judge 74 = .ok (.ifCond .ne 16, 3) := by decide +kernel
theorem dX11_judge_77 : decode cX11_judge 77 = .ok (.aload_n 0, 1) := by decide +kernel
theorem dX11_judge_78 : decode cX11_judge 78 = .ok (.getfield 74, 3) := by decide +kernel
theorem dX11_judge_81 : decode cX11_judge 81 = .ok (.aload_n 0, 1) := by decide +kernel
theorem dX11_judge_82 : decode cX11_judge 82 = .ok (.getfield 54, 3) := by decide +kernel
theorem dX11_judge_85 : decode cX11_judge 85 = .ok (.lload 7, 2) := by decide +kernel
theorem dX11_judge_87 : decode cX11_judge 87 = .ok (.invokevirtual 226, 3) := by decide +kernel
theorem dX11_judge_90 : decode cX11_judge 90 = .ok (.iinc 6 1, 3) := by decide +kernel
theorem dX11_judge_93 : decode cX11_judge 93 = .ok (.goto (-58), 3) := by decide +kernel
theorem dX11_judge_96 : decode cX11_judge 96 = .ok (.iload_n 2, 1) := by decide +kernel
theorem dX11_judge_97 : decode cX11_judge 97 = .ok (.tableswitch 50 0 2 #[27, 39, 42], 27) := by decide +kernel
theorem dX11_judge_124 : decode cX11_judge 124 = .ok (.iload 5, 2) := by decide +kernel
theorem dX11_judge_126 : decode cX11_judge 126 = .ok (.ifCond .ne 7, 3) := by decide +kernel
theorem dX11_judge_129 : decode cX11_judge 129 = .ok (.iconst (-1), 1) := by decide +kernel
theorem dX11_judge_130 : decode cX11_judge 130 = .ok (.goto 5, 3) := by decide +kernel
theorem dX11_judge_133 : decode cX11_judge 133 = .ok (.iload 4, 2) := by decide +kernel
theorem dX11_judge_135 : decode cX11_judge 135 = .ok (.ireturn, 1) := by decide +kernel
theorem dX11_judge_136 : decode cX11_judge 136 = .ok (.iload 5, 2) := by decide +kernel
theorem dX11_judge_138 : decode cX11_judge 138 = .ok (.ireturn, 1) := by decide +kernel
theorem dX11_judge_139 : decode cX11_judge 139 = .ok (.aload_n 0, 1) := by decide +kernel
theorem dX11_judge_140 : decode cX11_judge 140 = .ok (.getfield 54, 3) := by decide +kernel
theorem dX11_judge_143 : decode cX11_judge 143 = .ok (.invokevirtual 169, 3) := by decide +kernel
theorem dX11_judge_146 : decode cX11_judge 146 = .ok (.ireturn, 1) := by decide +kernel
theorem dX11_judge_147 : decode cX11_judge 147 = .ok (.aload_n 0, 1) := by decide +kernel
theorem dX11_judge_148 : decode cX11_judge 148 = .ok (.getfield 54, 3) := by decide +kernel
theorem dX11_judge_151 : decode cX11_judge 151 = .ok (.invokevirtual 165, 3) := by decide +kernel
theorem dX11_judge_154 : decode cX11_judge 154 = .ok (.ireturn, 1) := by decide +kernel
theorem dX11_perform_0 : decode cX11_perform 0 = .ok (.aload_n 0, 1) := by decide +kernel
theorem dX11_perform_1 : decode cX11_perform 1 = .ok (.iload_n 1, 1) := by decide +kernel
theorem dX11_perform_2 : decode cX11_perform 2 = .ok (.invokevirtual 208, 3) := by decide +kernel
theorem dX11_perform_5 : decode cX11_perform 5 = .ok (.astore_n 2, 1) := by decide +kernel
theorem dX11_perform_6 : decode cX11_perform 6 = .ok (.iconst 0, 1) := by decide +kernel
theorem dX11_perform_7 : decode cX11_perform 7 = .ok (.istore_n 3, 1) := by decide +kernel
theorem dX11_perform_8 : decode cX11_perform 8 = .ok (.iconst 0, 1) := by decide +kernel
theorem dX11_perform_9 : decode cX11_perform 9 = .ok (.istore 4, 2) := by decide +kernel
theorem dX11_perform_11 : decode cX11_perform 11 = .ok (.iload 4, 2) := by decide +kernel
theorem dX11_perform_13 : decode cX11_perform 13 = .ok (.aload_n 2, 1) := by decide +kernel
theorem dX11_perform_14 : decode cX11_perform 14 = .ok (.getfield 215, 3) := by decide +kernel
theorem dX11_perform_17 : decode cX11_perform 17 = .ok (.if_icmp .ge 25, 3) := by decide +kernel
theorem dX11_perform_20 : decode cX11_perform 20 = .ok (.aload_n 0, 1) := by decide +kernel
theorem dX11_perform_21 : decode cX11_perform 21 = .ok (.aload_n 2, 1) := by decide +kernel
theorem dX11_perform_22 : decode cX11_perform 22 = .ok (.iload 4, 2) := by decide +kernel
theorem dX11_perform_24 : decode cX11_perform 24 = .ok (.invokevirtual 218, 3) := by decide +kernel
theorem dX11_perform_27 : decode cX11_perform 27 = .ok (.invokevirtual 230, 3) := by decide +kernel
theorem dX11_perform_30 : decode cX11_perform 30 = .ok (.ifCond .eq 12, 3) := by decide +kernel
theorem dX11_perform_33 : decode cX11_perform 33 = .ok (.iinc 3 1, 3) := by decide +kernel
theorem dX11_perform_36 : decode cX11_perform 36 = .ok (.iinc 4 1, 3) := by decide +kernel
theorem dX11_perform_39 : decode cX11_perform 39 = .ok (.goto (-28), 3) := by decide +kernel
theorem dX11_perform_42 : decode cX11_perform 42 = .ok (.iload_n 3, 1) := by decide +kernel
theorem dX11_perform_43 : decode cX11_perform 43 = .ok (.ireturn, 1) := by decide +kernel
theorem dX11_year_0 : decode cX11_year 0 = .ok (.iload_n 2, 1) := by decide +kernel
theorem dX11_year_1 : decode cX11_year 1 = .ok (.iconst 1, 1) := by decide +kernel
theorem dX11_year_2 : decode cX11_year 2 = .ok (.bipush 30, 2) := by decide +kernel
theorem dX11_year_4 : decode cX11_year 4 = .ok (.invokestatic 95, 3) := by decide +kernel
theorem dX11_year_7 : decode cX11_year 7 = .ok (.new 234, 3) := by decide +kernel
theorem dX11_year_10 : decode cX11_year 10 = .ok (.dup, 1) := by decide +kernel
theorem dX11_year_11 : decode cX11_year 11 = .ok (.iload_n 1, 1) := by decide +kernel
theorem dX11_year_12 : decode cX11_year 12 = .ok (.invokespecial 236, 3) := by decide +kernel
theorem dX11_year_15 : decode cX11_year 15 = .ok (.astore_n 3, 1) := by decide +kernel
theorem dX11_year_16 : decode cX11_year 16 = .ok (.iconst 0, 1) := by decide +kernel
theorem dX11_year_17 : decode cX11_year 17 = .ok (.istore 4, 2) := by decide +kernel
theorem dX11_year_19 : decode cX11_year 19 = .ok (.iconst 0, 1) := by decide +kernel
theorem dX11_year_20 : decode cX11_year 20 = .ok (.istore 5, 2) := by decide +kernel
theorem dX11_year_22 : decode cX11_year 22 = .ok (.iload 5, 2) := by decide +kernel
theorem dX11_year_24 : decode cX11_year 24 = .ok (.iload_n 2, 1) := by decide +kernel
theorem dX11_year_25 : decode cX11_year 25 = .ok (.if_icmp .ge 41, 3) := by decide +kernel
theorem dX11_year_28 : decode cX11_year 28 = .ok (.aload_n 3, 1) := by decide +kernel
theorem dX11_year_29 : decode cX11_year 29 = .ok (.aload_n 0, 1) := by decide +kernel
theorem dX11_year_30 : decode cX11_year 30 = .ok (.getfield 49, 3) := by decide +kernel
theorem dX11_year_33 : decode cX11_year 33 = .ok (.getfield 122, 3) := by decide +kernel
theorem dX11_year_36 : decode cX11_year 36 = .ok (.getfield 125, 3) := by decide +kernel
theorem dX11_year_39 : decode cX11_year 39 = .ok (.getfield 238, 3) := by decide +kernel
theorem dX11_year_42 : decode cX11_year 42 = .ok (.invokevirtual 241, 3) := by decide +kernel
theorem dX11_year_45 : decode cX11_year 45 = .ok (.i2l, 1) := by decide +kernel
theorem dX11_year_46 : decode cX11_year 46 = .ok (.lstore 6, 2) := by decide +kernel
theorem dX11_year_48 : decode cX11_year 48 = .ok (.aload_n 0, 1) := by decide +kernel
theorem dX11_year_49 : decode cX11_year 49 = .ok (.lload 6, 2) := by decide +kernel
theorem dX11_year_51 : decode cX11_year 51 = .ok (.invokevirtual 230, 3) := by decide +kernel
theorem dX11_year_54 : decode cX11_year 54 = .ok (.ifCond .eq 6, 3) := by decide +kernel
theorem dX11_year_57 : decode cX11_year 57 = .ok (.iinc 4 1, 3) := by decide +kernel
theorem dX11_year_60 : decode cX11_year 60 = .ok (.iinc 5 1, 3) := by decide +kernel
theorem dX11_year_63 : decode cX11_year 63 = .ok (.goto (-41), 3) := by decide +kernel
theorem dX11_year_66 : decode cX11_year 66 = .ok (.iload 4, 2) := by decide +kernel
theorem dX11_year_68 : decode cX11_year 68 = .ok (.ireturn, 1) := by decide +kernel
theorem dX11_joint_0 : decode cX11_joint 0 = .ok (.aload_n 0, 1) := by decide +kernel
theorem dX11_joint_1 : decode cX11_joint 1 = .ok (.getfield 24, 3) := by decide +kernel
theorem dX11_joint_4 : decode cX11_joint 4 = .ok (.aload_n 0, 1) := by decide +kernel
theorem dX11_joint_5 : decode cX11_joint 5 = .ok (.getfield 49, 3) := by decide +kernel
theorem dX11_joint_8 : decode cX11_joint 8 = .ok (.getfield 122, 3) := by decide +kernel
theorem dX11_joint_11 : decode cX11_joint 11 = .ok (.aload_n 0, 1) := by decide +kernel
theorem dX11_joint_12 : decode cX11_joint 12 = .ok (.getfield 49, 3) := by decide +kernel
theorem dX11_joint_15 : decode cX11_joint 15 = .ok (.getfield 122, 3) := by decide +kernel
theorem dX11_joint_18 : decode cX11_joint 18 = .ok (.getfield 125, 3) := by decide +kernel
theorem dX11_joint_21 : decode cX11_joint 21 = .ok (.invokevirtual 244, 3) := by decide +kernel
theorem dX11_joint_24 : decode cX11_joint 24 = .ok (.invokevirtual 247, 3) := by decide +kernel
theorem dX11_joint_27 : decode cX11_joint 27 = .ok (.aload_n 0, 1) := by decide +kernel
theorem dX11_joint_28 : decode cX11_joint 28 = .ok (.getfield 24, 3) := by decide +kernel
theorem dX11_joint_31 : decode cX11_joint 31 = .ok (.invokevirtual 251, 3) := by decide +kernel
theorem dX11_joint_34 : decode cX11_joint 34 = .ok (.ireturn, 1) := by decide +kernel
theorem dX11_together_0 : decode cX11_together 0 = .ok (.aload_n 0, 1) := by decide +kernel
theorem dX11_together_1 : decode cX11_together 1 = .ok (.iload_n 1, 1) := by decide +kernel
theorem dX11_together_2 : decode cX11_together 2 = .ok (.invokevirtual 254, 3) := by decide +kernel
theorem dX11_together_5 : decode cX11_together 5 = .ok (.aload_n 0, 1) := by decide +kernel
theorem dX11_together_6 : decode cX11_together 6 = .ok (.getfield 24, 3) := by decide +kernel
theorem dX11_together_9 : decode cX11_together 9 = .ok (.aload_n 0, 1) := by decide +kernel
theorem dX11_together_10 : decode cX11_together 10 = .ok (.getfield 49, 3) := by decide +kernel
theorem dX11_together_13 : decode cX11_together 13 = .ok (.getfield 122, 3) := by decide +kernel
theorem dX11_together_16 : decode cX11_together 16 = .ok (.iload_n 1, 1) := by decide +kernel
theorem dX11_together_17 : decode cX11_together 17 = .ok (.invokevirtual 247, 3) := by decide +kernel
theorem dX11_together_20 : decode cX11_together 20 = .ok (.aload_n 0, 1) := by decide +kernel
theorem dX11_together_21 : decode cX11_together 21 = .ok (.getfield 24, 3) := by decide +kernel
theorem dX11_together_24 : decode cX11_together 24 = .ok (.iload_n 2, 1) := by decide +kernel
theorem dX11_together_25 : decode cX11_together 25 = .ok (.ifCond .eq 10, 3) := by decide +kernel
theorem dX11_together_28 : decode cX11_together 28 = .ok (.iload_n 1, 1) := by decide +kernel
theorem dX11_together_29 : decode cX11_together 29 = .ok (.invokestatic 257, 3) := by decide +kernel
theorem dX11_together_32 : decode cX11_together 32 = .ok (.goto 4, 3) := by decide +kernel
theorem dX11_together_35 : decode cX11_together 35 = .ok (.iconst 0, 1) := by decide +kernel
theorem dX11_together_36 : decode cX11_together 36 = .ok (.invokevirtual 262, 3) := by decide +kernel
theorem dX11_together_39 : decode cX11_together 39 = .ok (.ireturn, 1) := by decide +kernel
theorem dX11_wakesIn_0 : decode cX11_wakesIn 0 = .ok (.aload_n 0, 1) := by decide +kernel
theorem dX11_wakesIn_1 : decode cX11_wakesIn 1 = .ok (.iload_n 1, 1) := by decide +kernel
theorem dX11_wakesIn_2 : decode cX11_wakesIn 2 = .ok (.invokevirtual 119, 3) := by decide +kernel
theorem dX11_wakesIn_5 : decode cX11_wakesIn 5 = .ok (.aload_n 0, 1) := by decide +kernel
theorem dX11_wakesIn_6 : decode cX11_wakesIn 6 = .ok (.getfield 49, 3) := by decide +kernel
theorem dX11_wakesIn_9 : decode cX11_wakesIn 9 = .ok (.getfield 122, 3) := by decide +kernel
theorem dX11_wakesIn_12 : decode cX11_wakesIn 12 = .ok (.astore_n 2, 1) := by decide +kernel
theorem dX11_wakesIn_13 : decode cX11_wakesIn 13 = .ok (.aload_n 2, 1) := by decide +kernel
theorem dX11_wakesIn_14 : decode cX11_wakesIn 14 = .ok (.iload_n 1, 1) := by decide +kernel
theorem dX11_wakesIn_15 : decode cX11_wakesIn 15 = .ok (.invokevirtual 147, 3) := by decide +kernel
theorem dX11_wakesIn_18 : decode cX11_wakesIn 18 = .ok (.ifCond .eq 7, 3) := by decide +kernel
theorem dX11_wakesIn_21 : decode cX11_wakesIn 21 = .ok (.iconst 0, 1) := by decide +kernel
theorem dX11_wakesIn_22 : decode cX11_wakesIn 22 = .ok (.goto 17, 3) := by decide +kernel
theorem dX11_wakesIn_25 : decode cX11_wakesIn 25 = .ok (.aload_n 2, 1) := by decide +kernel
theorem dX11_wakesIn_26 : decode cX11_wakesIn 26 = .ok (.getfield 125, 3) := by decide +kernel
theorem dX11_wakesIn_29 : decode cX11_wakesIn 29 = .ok (.iload_n 1, 1) := by decide +kernel
theorem dX11_wakesIn_30 : decode cX11_wakesIn 30 = .ok (.invokevirtual 128, 3) := by decide +kernel
theorem dX11_wakesIn_33 : decode cX11_wakesIn 33 = .ok (.aload_n 2, 1) := by decide +kernel
theorem dX11_wakesIn_34 : decode cX11_wakesIn 34 = .ok (.iload_n 1, 1) := by decide +kernel
theorem dX11_wakesIn_35 : decode cX11_wakesIn 35 = .ok (.invokevirtual 144, 3) := by decide +kernel
theorem dX11_wakesIn_38 : decode cX11_wakesIn 38 = .ok (.isub, 1) := by decide +kernel
theorem dX11_wakesIn_39 : decode cX11_wakesIn 39 = .ok (.ireturn, 1) := by decide +kernel
theorem dX11_stays_0 : decode cX11_stays 0 = .ok (.aload_n 0, 1) := by decide +kernel
theorem dX11_stays_1 : decode cX11_stays 1 = .ok (.iload_n 1, 1) := by decide +kernel
theorem dX11_stays_2 : decode cX11_stays 2 = .ok (.invokevirtual 119, 3) := by decide +kernel
theorem dX11_stays_5 : decode cX11_stays 5 = .ok (.aload_n 0, 1) := by decide +kernel
theorem dX11_stays_6 : decode cX11_stays 6 = .ok (.getfield 49, 3) := by decide +kernel
theorem dX11_stays_9 : decode cX11_stays 9 = .ok (.getfield 122, 3) := by decide +kernel
theorem dX11_stays_12 : decode cX11_stays 12 = .ok (.astore_n 2, 1) := by decide +kernel
theorem dX11_stays_13 : decode cX11_stays 13 = .ok (.aload_n 2, 1) := by decide +kernel
theorem dX11_stays_14 : decode cX11_stays 14 = .ok (.getfield 125, 3) := by decide +kernel
theorem dX11_stays_17 : decode cX11_stays 17 = .ok (.iload_n 1, 1) := by decide +kernel
theorem dX11_stays_18 : decode cX11_stays 18 = .ok (.invokevirtual 265, 3) := by decide +kernel
theorem dX11_stays_21 : decode cX11_stays 21 = .ok (.ifCond .ne 5, 3) := by decide +kernel
theorem dX11_stays_24 : decode cX11_stays 24 = .ok (.iconst (-1), 1) := by decide +kernel
theorem dX11_stays_25 : decode cX11_stays 25 = .ok (.ireturn, 1) := by decide +kernel
theorem dX11_stays_26 : decode cX11_stays 26 = .ok (.aload_n 2, 1) := by decide +kernel
theorem dX11_stays_27 : decode cX11_stays 27 = .ok (.iload_n 1, 1) := by decide +kernel
theorem dX11_stays_28 : decode cX11_stays 28 = .ok (.invokevirtual 147, 3) := by decide +kernel
theorem dX11_stays_31 : decode cX11_stays 31 = .ok (.ifCond .eq 14, 3) := by decide +kernel
theorem dX11_stays_34 : decode cX11_stays 34 = .ok (.aload_n 2, 1) := by decide +kernel
theorem dX11_stays_35 : decode cX11_stays 35 = .ok (.getfield 125, 3) := by decide +kernel
theorem dX11_stays_38 : decode cX11_stays 38 = .ok (.iload_n 1, 1) := by decide +kernel
theorem dX11_stays_39 : decode cX11_stays 39 = .ok (.invokevirtual 132, 3) := by decide +kernel
theorem dX11_stays_42 : decode cX11_stays 42 = .ok (.goto 11, 3) := by decide +kernel
theorem dX11_stays_45 : decode cX11_stays 45 = .ok (.aload_n 2, 1) := by decide +kernel
theorem dX11_stays_46 : decode cX11_stays 46 = .ok (.getfield 125, 3) := by decide +kernel
theorem dX11_stays_49 : decode cX11_stays 49 = .ok (.iload_n 1, 1) := by decide +kernel
theorem dX11_stays_50 : decode cX11_stays 50 = .ok (.invokevirtual 128, 3) := by decide +kernel
theorem dX11_stays_53 : decode cX11_stays 53 = .ok (.istore_n 3, 1) := by decide +kernel
theorem dX11_stays_54 : decode cX11_stays 54 = .ok (.iload_n 3, 1) := by decide +kernel
theorem dX11_stays_55 : decode cX11_stays 55 = .ok (.aload_n 2, 1) := by decide +kernel
theorem dX11_stays_56 : decode cX11_stays 56 = .ok (.iload_n 1, 1) := by decide +kernel
theorem dX11_stays_57 : decode cX11_stays 57 = .ok (.invokevirtual 144, 3) := by decide +kernel
theorem dX11_stays_60 : decode cX11_stays 60 = .ok (.isub, 1) := by decide +kernel
theorem dX11_stays_61 : decode cX11_stays 61 = .ok (.ireturn, 1) := by decide +kernel
theorem dX11_withAwake_0 : decode cX11_withAwake 0 = .ok (.iload_n 1, 1) := by decide +kernel
theorem dX11_withAwake_1 : decode cX11_withAwake 1 = .ok (.iconst 0, 1) := by decide +kernel
theorem dX11_withAwake_2 : decode cX11_withAwake 2 = .ok (.aload_n 0, 1) := by decide +kernel
theorem dX11_withAwake_3 : decode cX11_withAwake 3 = .ok (.getfield 49, 3) := by decide +kernel
theorem dX11_withAwake_6 : decode cX11_withAwake 6 = .ok (.getfield 122, 3) := by decide +kernel
theorem dX11_withAwake_9 : decode cX11_withAwake 9 = .ok (.getfield 125, 3) := by decide +kernel
theorem dX11_withAwake_12 : decode cX11_withAwake 12 = .ok (.getfield 238, 3) := by decide +kernel
theorem dX11_withAwake_15 : decode cX11_withAwake 15 = .ok (.invokestatic 95, 3) := by decide +kernel
theorem dX11_withAwake_18 : decode cX11_withAwake 18 = .ok (.aload_n 0, 1) := by decide +kernel
theorem dX11_withAwake_19 : decode cX11_withAwake 19 = .ok (.getfield 24, 3) := by decide +kernel
theorem dX11_withAwake_22 : decode cX11_withAwake 22 = .ok (.aload_n 0, 1) := by decide +kernel
theorem dX11_withAwake_23 : decode cX11_withAwake 23 = .ok (.getfield 49, 3) := by decide +kernel
theorem dX11_withAwake_26 : decode cX11_withAwake 26 = .ok (.getfield 122, 3) := by decide +kernel
theorem dX11_withAwake_29 : decode cX11_withAwake 29 = .ok (.aload_n 0, 1) := by decide +kernel
theorem dX11_withAwake_30 : decode cX11_withAwake 30 = .ok (.getfield 49, 3) := by decide +kernel
theorem dX11_withAwake_33 : decode cX11_withAwake 33 = .ok (.getfield 122, 3) := by decide +kernel
theorem dX11_withAwake_36 : decode cX11_withAwake 36 = .ok (.getfield 125, 3) := by decide +kernel
theorem dX11_withAwake_39 : decode cX11_withAwake 39 = .ok (.invokevirtual 244, 3) := by decide +kernel
theorem dX11_withAwake_42 : decode cX11_withAwake 42 = .ok (.invokevirtual 247, 3) := by decide +kernel
theorem dX11_withAwake_45 : decode cX11_withAwake 45 = .ok (.aload_n 0, 1) := by decide +kernel
theorem dX11_withAwake_46 : decode cX11_withAwake 46 = .ok (.getfield 24, 3) := by decide +kernel
theorem dX11_withAwake_49 : decode cX11_withAwake 49 = .ok (.iload_n 1, 1) := by decide +kernel
theorem dX11_withAwake_50 : decode cX11_withAwake 50 = .ok (.invokevirtual 268, 3) := by decide +kernel
theorem dX11_withAwake_53 : decode cX11_withAwake 53 = .ok (.ireturn, 1) := by decide +kernel
theorem dX11_stillest_0 : decode cX11_stillest 0 = .ok (.iload_n 1, 1) := by decide +kernel
theorem dX11_stillest_1 : decode cX11_stillest 1 = .ok (.iconst 0, 1) := by decide +kernel
theorem dX11_stillest_2 : decode cX11_stillest 2 = .ok (.iconst 1, 1) := by decide +kernel
theorem dX11_stillest_3 : decode cX11_stillest 3 = .ok (.invokestatic 95, 3) := by decide +kernel
theorem dX11_stillest_6 : decode cX11_stillest 6 = .ok (.aload_n 0, 1) := by decide +kernel
theorem dX11_stillest_7 : decode cX11_stillest 7 = .ok (.getfield 24, 3) := by decide +kernel
theorem dX11_stillest_10 : decode cX11_stillest 10 = .ok (.aload_n 0, 1) := by decide +kernel
theorem dX11_stillest_11 : decode cX11_stillest 11 = .ok (.getfield 49, 3) := by decide +kernel
theorem dX11_stillest_14 : decode cX11_stillest 14 = .ok (.getfield 122, 3) := by decide +kernel
theorem dX11_stillest_17 : decode cX11_stillest 17 = .ok (.aload_n 0, 1) := by decide +kernel
theorem dX11_stillest_18 : decode cX11_stillest 18 = .ok (.getfield 49, 3) := by decide +kernel
theorem dX11_stillest_21 : decode cX11_stillest 21 = .ok (.getfield 122, 3) := by decide +kernel
theorem dX11_stillest_24 : decode cX11_stillest 24 = .ok (.getfield 125, 3) := by decide +kernel
theorem dX11_stillest_27 : decode cX11_stillest 27 = .ok (.invokevirtual 244, 3) := by decide +kernel
theorem dX11_stillest_30 : decode cX11_stillest 30 = .ok (.invokevirtual 247, 3) := by decide +kernel
theorem dX11_stillest_33 : decode cX11_stillest 33 = .ok (.aload_n 0, 1) := by decide +kernel
theorem dX11_stillest_34 : decode cX11_stillest 34 = .ok (.getfield 24, 3) := by decide +kernel
theorem dX11_stillest_37 : decode cX11_stillest 37 = .ok (.invokevirtual 271, 3) := by decide +kernel
theorem dX11_stillest_40 : decode cX11_stillest 40 = .ok (.istore_n 2, 1) := by decide +kernel
theorem dX11_stillest_41 : decode cX11_stillest 41 = .ok (.iload_n 1, 1) := by decide +kernel
theorem dX11_stillest_42 : decode cX11_stillest 42 = .ok (.ifCond .ne 14, 3) := by decide +kernel
theorem dX11_stillest_45 : decode cX11_stillest 45 = .ok (.aload_n 0, 1) := by decide +kernel
theorem dX11_stillest_46 : decode cX11_stillest 46 = .ok (.getfield 24, 3) := by decide +kernel
theorem dX11_stillest_49 : decode cX11_stillest 49 = .ok (.iload_n 2, 1) := by decide +kernel
theorem dX11_stillest_50 : decode cX11_stillest 50 = .ok (.invokevirtual 262, 3) := by decide +kernel
theorem dX11_stillest_53 : decode cX11_stillest 53 = .ok (.goto 4, 3) := by decide +kernel
theorem dX11_stillest_56 : decode cX11_stillest 56 = .ok (.iload_n 2, 1) := by decide +kernel
theorem dX11_stillest_57 : decode cX11_stillest 57 = .ok (.ireturn, 1) := by decide +kernel
theorem dX11_chain_0 : decode cX11_chain 0 = .ok (.aload_n 0, 1) := by decide +kernel
theorem dX11_chain_1 : decode cX11_chain 1 = .ok (.iload_n 1, 1) := by decide +kernel
theorem dX11_chain_2 : decode cX11_chain 2 = .ok (.invokevirtual 119, 3) := by decide +kernel
theorem dX11_chain_5 : decode cX11_chain 5 = .ok (.iload_n 2, 1) := by decide +kernel
theorem dX11_chain_6 : decode cX11_chain 6 = .ok (.invokestatic 274, 3) := by decide +kernel
theorem dX11_chain_9 : decode cX11_chain 9 = .ok (.aload_n 0, 1) := by decide +kernel
theorem dX11_chain_10 : decode cX11_chain 10 = .ok (.getfield 65, 3) := by decide +kernel
theorem dX11_chain_13 : decode cX11_chain 13 = .ok (.aload_n 0, 1) := by decide +kernel
theorem dX11_chain_14 : decode cX11_chain 14 = .ok (.getfield 49, 3) := by decide +kernel
theorem dX11_chain_17 : decode cX11_chain 17 = .ok (.getfield 122, 3) := by decide +kernel
theorem dX11_chain_20 : decode cX11_chain 20 = .ok (.invokevirtual 277, 3) := by decide +kernel
theorem dX11_chain_23 : decode cX11_chain 23 = .ok (.aload_n 0, 1) := by decide +kernel
theorem dX11_chain_24 : decode cX11_chain 24 = .ok (.getfield 65, 3) := by decide +kernel
theorem dX11_chain_27 : decode cX11_chain 27 = .ok (.iload_n 1, 1) := by decide +kernel
theorem dX11_chain_28 : decode cX11_chain 28 = .ok (.iload_n 2, 1) := by decide +kernel
theorem dX11_chain_29 : decode cX11_chain 29 = .ok (.invokevirtual 279, 3) := by decide +kernel
theorem dX11_chain_32 : decode cX11_chain 32 = .ok (.ireturn, 1) := by decide +kernel
theorem dX11_wakes_0 : decode cX11_wakes 0 = .ok (.aload_n 0, 1) := by decide +kernel
theorem dX11_wakes_1 : decode cX11_wakes 1 = .ok (.iload_n 1, 1) := by decide +kernel
theorem dX11_wakes_2 : decode cX11_wakes 2 = .ok (.invokevirtual 119, 3) := by decide +kernel
theorem dX11_wakes_5 : decode cX11_wakes 5 = .ok (.aload_n 0, 1) := by decide +kernel
theorem dX11_wakes_6 : decode cX11_wakes 6 = .ok (.iload_n 2, 1) := by decide +kernel
theorem dX11_wakes_7 : decode cX11_wakes 7 = .ok (.invokevirtual 119, 3) := by decide +kernel
theorem dX11_wakes_10 : decode cX11_wakes 10 = .ok (.iload_n 1, 1) := by decide +kernel
theorem dX11_wakes_11 : decode cX11_wakes 11 = .ok (.iload_n 2, 1) := by decide +kernel
theorem dX11_wakes_12 : decode cX11_wakes 12 = .ok (.invokestatic 283, 3) := by decide +kernel
theorem dX11_wakes_15 : decode cX11_wakes 15 = .ok (.iload_n 3, 1) := by decide +kernel
theorem dX11_wakes_16 : decode cX11_wakes 16 = .ok (.invokestatic 274, 3) := by decide +kernel
theorem dX11_wakes_19 : decode cX11_wakes 19 = .ok (.aload_n 0, 1) := by decide +kernel
theorem dX11_wakes_20 : decode cX11_wakes 20 = .ok (.getfield 65, 3) := by decide +kernel
theorem dX11_wakes_23 : decode cX11_wakes 23 = .ok (.aload_n 0, 1) := by decide +kernel
theorem dX11_wakes_24 : decode cX11_wakes 24 = .ok (.getfield 49, 3) := by decide +kernel
theorem dX11_wakes_27 : decode cX11_wakes 27 = .ok (.getfield 122, 3) := by decide +kernel
theorem dX11_wakes_30 : decode cX11_wakes 30 = .ok (.invokevirtual 287, 3) := by decide +kernel
theorem dX11_wakes_33 : decode cX11_wakes 33 = .ok (.aload_n 0, 1) := by decide +kernel
theorem dX11_wakes_34 : decode cX11_wakes 34 = .ok (.getfield 65, 3) := by decide +kernel
theorem dX11_wakes_37 : decode cX11_wakes 37 = .ok (.iload_n 1, 1) := by decide +kernel
theorem dX11_wakes_38 : decode cX11_wakes 38 = .ok (.iload_n 3, 1) := by decide +kernel
theorem dX11_wakes_39 : decode cX11_wakes 39 = .ok (.invokevirtual 290, 3) := by decide +kernel
theorem dX11_wakes_42 : decode cX11_wakes 42 = .ok (.iload_n 2, 1) := by decide +kernel
theorem dX11_wakes_43 : decode cX11_wakes 43 = .ok (.invokestatic 293, 3) := by decide +kernel
theorem dX11_wakes_46 : decode cX11_wakes 46 = .ok (.ireturn, 1) := by decide +kernel
theorem dX11_quietest_0 : decode cX11_quietest 0 = .ok (.aload_n 0, 1) := by decide +kernel
theorem dX11_quietest_1 : decode cX11_quietest 1 = .ok (.iload_n 1, 1) := by decide +kernel
theorem dX11_quietest_2 : decode cX11_quietest 2 = .ok (.invokevirtual 119, 3) := by decide +kernel
theorem dX11_quietest_5 : decode cX11_quietest 5 = .ok (.aload_n 0, 1) := by decide +kernel
theorem dX11_quietest_6 : decode cX11_quietest 6 = .ok (.getfield 65, 3) := by decide +kernel
theorem dX11_quietest_9 : decode cX11_quietest 9 = .ok (.aload_n 0, 1) := by decide +kernel
theorem dX11_quietest_10 : decode cX11_quietest 10 = .ok (.getfield 49, 3) := by decide +kernel
theorem dX11_quietest_13 : decode cX11_quietest 13 = .ok (.getfield 122, 3) := by decide +kernel
theorem dX11_quietest_16 : decode cX11_quietest 16 = .ok (.invokevirtual 287, 3) := by decide +kernel
theorem dX11_quietest_19 : decode cX11_quietest 19 = .ok (.bipush 99, 2) := by decide +kernel
theorem dX11_quietest_21 : decode cX11_quietest 21 = .ok (.istore_n 2, 1) := by decide +kernel
theorem dX11_quietest_22 : decode cX11_quietest 22 = .ok (.iload_n 2, 1) := by decide +kernel
theorem dX11_quietest_23 : decode cX11_quietest 23 = .ok (.iconst 1, 1) := by decide +kernel
theorem dX11_quietest_24 : decode cX11_quietest 24 = .ok (.if_icmp .lt 38, 3) := by decide +kernel
theorem dX11_quietest_27 : decode cX11_quietest 27 = .ok (.aload_n 0, 1) := by decide +kernel
theorem dX11_quietest_28 : decode cX11_quietest 28 = .ok (.getfield 49, 3) := by decide +kernel
theorem dX11_quietest_31 : decode cX11_quietest 31 = .ok (.getfield 122, 3) := by decide +kernel
theorem dX11_quietest_34 : decode cX11_quietest 34 = .ok (.iload_n 1, 1) := by decide +kernel
theorem dX11_quietest_35 : decode cX11_quietest 35 = .ok (.iload_n 2, 1) := by decide +kernel
theorem dX11_quietest_36 : decode cX11_quietest 36 = .ok (.invokestatic 172, 3) := by decide +kernel
theorem dX11_quietest_39 : decode cX11_quietest 39 = .ok (.ifCond .ne 17, 3) := by decide +kernel
theorem dX11_quietest_42 : decode cX11_quietest 42 = .ok (.aload_n 0, 1) := by decide +kernel
theorem dX11_quietest_43 : decode cX11_quietest 43 = .ok (.getfield 65, 3) := by decide +kernel
theorem dX11_quietest_46 : decode cX11_quietest 46 = .ok (.iload_n 1, 1) := by decide +kernel
theorem dX11_quietest_47 : decode cX11_quietest 47 = .ok (.iload_n 2, 1) := by decide +kernel
theorem dX11_quietest_48 : decode cX11_quietest 48 = .ok (.invokevirtual 290, 3) := by decide +kernel
theorem dX11_quietest_51 : decode cX11_quietest 51 = .ok (.ifCond .ne 5, 3) := by decide +kernel
theorem dX11_quietest_54 : decode cX11_quietest 54 = .ok (.iload_n 2, 1) := by decide +kernel
theorem dX11_quietest_55 : decode cX11_quietest 55 = .ok (.ireturn, 1) := by decide +kernel
theorem dX11_quietest_56 : decode cX11_quietest 56 = .ok (.iinc 2 (-1), 3) := by decide +kernel
theorem dX11_quietest_59 : decode cX11_quietest 59 = .ok (.goto (-37), 3) := by decide +kernel
theorem dX11_quietest_62 : decode cX11_quietest 62 = .ok (.iconst 0, 1) := by decide +kernel
theorem dX11_quietest_63 : decode cX11_quietest 63 = .ok (.ireturn, 1) := by decide +kernel
theorem dX11_wakers_0 : decode cX11_wakers 0 = .ok (.aload_n 0, 1) := by decide +kernel
theorem dX11_wakers_1 : decode cX11_wakers 1 = .ok (.iload_n 1, 1) := by decide +kernel
theorem dX11_wakers_2 : decode cX11_wakers 2 = .ok (.invokevirtual 119, 3) := by decide +kernel
theorem dX11_wakers_5 : decode cX11_wakers 5 = .ok (.iload_n 2, 1) := by decide +kernel
theorem dX11_wakers_6 : decode cX11_wakers 6 = .ok (.invokestatic 274, 3) := by decide +kernel
theorem dX11_wakers_9 : decode cX11_wakers 9 = .ok (.aload_n 0, 1) := by decide +kernel
theorem dX11_wakers_10 : decode cX11_wakers 10 = .ok (.getfield 65, 3) := by decide +kernel
theorem dX11_wakers_13 : decode cX11_wakers 13 = .ok (.aload_n 0, 1) := by decide +kernel
theorem dX11_wakers_14 : decode cX11_wakers 14 = .ok (.getfield 49, 3) := by decide +kernel
theorem dX11_wakers_17 : decode cX11_wakers 17 = .ok (.getfield 122, 3) := by decide +kernel
theorem dX11_wakers_20 : decode cX11_wakers 20 = .ok (.invokevirtual 277, 3) := by decide +kernel
theorem dX11_wakers_23 : decode cX11_wakers 23 = .ok (.aload_n 0, 1) := by decide +kernel
theorem dX11_wakers_24 : decode cX11_wakers 24 = .ok (.getfield 65, 3) := by decide +kernel
theorem dX11_wakers_27 : decode cX11_wakers 27 = .ok (.iload_n 1, 1) := by decide +kernel
theorem dX11_wakers_28 : decode cX11_wakers 28 = .ok (.iload_n 2, 1) := by decide +kernel
theorem dX11_wakers_29 : decode cX11_wakers 29 = .ok (.invokevirtual 297, 3) := by decide +kernel
theorem dX11_wakers_32 : decode cX11_wakers 32 = .ok (.ireturn, 1) := by decide +kernel
theorem dX11_leastNoise_0 : decode cX11_leastNoise 0 = .ok (.aload_n 0, 1) := by decide +kernel
theorem dX11_leastNoise_1 : decode cX11_leastNoise 1 = .ok (.iload_n 1, 1) := by decide +kernel
theorem dX11_leastNoise_2 : decode cX11_leastNoise 2 = .ok (.invokevirtual 119, 3) := by decide +kernel
theorem dX11_leastNoise_5 : decode cX11_leastNoise 5 = .ok (.iload_n 2, 1) := by decide +kernel
theorem dX11_leastNoise_6 : decode cX11_leastNoise 6 = .ok (.iconst 0, 1) := by decide +kernel
theorem dX11_leastNoise_7 : decode cX11_leastNoise 7 = .ok (.iconst 1, 1) := by decide +kernel
theorem dX11_leastNoise_8 : decode cX11_leastNoise 8 = .ok (.invokestatic 95, 3) := by decide +kernel
theorem dX11_leastNoise_11 : decode cX11_leastNoise 11 = .ok (.aload_n 0, 1) := by decide +kernel
theorem dX11_leastNoise_12 : decode cX11_leastNoise 12 = .ok (.getfield 65, 3) := by decide +kernel
theorem dX11_leastNoise_15 : decode cX11_leastNoise 15 = .ok (.aload_n 0, 1) := by decide +kernel
theorem dX11_leastNoise_16 : decode cX11_leastNoise 16 = .ok (.getfield 49, 3) := by decide +kernel
theorem dX11_leastNoise_19 : decode cX11_leastNoise 19 = .ok (.getfield 122, 3) := by decide +kernel
theorem dX11_leastNoise_22 : decode cX11_leastNoise 22 = .ok (.invokevirtual 277, 3) := by decide +kernel
theorem dX11_leastNoise_25 : decode cX11_leastNoise 25 = .ok (.iconst 0, 1) := by decide +kernel
theorem dX11_leastNoise_26 : decode cX11_leastNoise 26 = .ok (.istore_n 3, 1) := by decide +kernel
theorem dX11_leastNoise_27 : decode cX11_leastNoise 27 = .ok (.iload_n 3, 1) := by decide +kernel
theorem dX11_leastNoise_28 : decode cX11_leastNoise 28 = .ok (.bipush 99, 2) := by decide +kernel
theorem dX11_leastNoise_30 : decode cX11_leastNoise 30 = .ok (.if_icmp .gt 39, 3) := by decide +kernel
theorem dX11_leastNoise_33 : decode cX11_leastNoise 33 = .ok (.aload_n 0, 1) := by decide +kernel
theorem dX11_leastNoise_34 : decode cX11_leastNoise 34 = .ok (.getfield 65, 3) := by decide +kernel
theorem dX11_leastNoise_37 : decode cX11_leastNoise 37 = .ok (.iload_n 1, 1) := by decide +kernel
theorem dX11_leastNoise_38 : decode cX11_leastNoise 38 = .ok (.iload_n 3, 1) := by decide +kernel
theorem dX11_leastNoise_39 : decode cX11_leastNoise 39 = .ok (.invokevirtual 297, 3) := by decide +kernel
theorem dX11_leastNoise_42 : decode cX11_leastNoise 42 = .ok (.istore 4, 2) := by decide +kernel
theorem dX11_leastNoise_44 : decode cX11_leastNoise 44 = .ok (.iload 4, 2) := by decide +kernel
theorem dX11_leastNoise_46 : decode cX11_leastNoise 46 = .ok (.ifCond .eq 17, 3) := by decide +kernel
theorem dX11_leastNoise_49 : decode cX11_leastNoise 49 = .ok (.iload_n 2, 1) := by decide +kernel
theorem dX11_leastNoise_50 : decode cX11_leastNoise 50 = .ok (.ifCond .ne 7, 3) := by decide +kernel
theorem dX11_leastNoise_53 : decode cX11_leastNoise 53 = .ok (.iload_n 3, 1) := by decide +kernel
theorem dX11_leastNoise_54 : decode cX11_leastNoise 54 = .ok (.goto 8, 3) := by decide +kernel
theorem dX11_leastNoise_57 : decode cX11_leastNoise 57 = .ok (.iload 4, 2) := by decide +kernel
theorem dX11_leastNoise_59 : decode cX11_leastNoise 59 = .ok (.invokestatic 300, 3) := by decide +kernel
theorem dX11_leastNoise_62 : decode cX11_leastNoise 62 = .ok (.ireturn, 1) := by decide +kernel
theorem dX11_leastNoise_63 : decode cX11_leastNoise 63 = .ok (.iinc 3 1, 3) := by decide +kernel
theorem dX11_leastNoise_66 : decode cX11_leastNoise 66 = .ok (.goto (-39), 3) := by decide +kernel
theorem dX11_leastNoise_69 : decode cX11_leastNoise 69 = .ok (.iconst (-1), 1) := by decide +kernel
theorem dX11_leastNoise_70 : decode cX11_leastNoise 70 = .ok (.ireturn, 1) := by decide +kernel
theorem dX11_shield_0 : decode cX11_shield 0 = .ok (.aload_n 0, 1) := by decide +kernel
theorem dX11_shield_1 : decode cX11_shield 1 = .ok (.iload_n 1, 1) := by decide +kernel
theorem dX11_shield_2 : decode cX11_shield 2 = .ok (.invokevirtual 119, 3) := by decide +kernel
theorem dX11_shield_5 : decode cX11_shield 5 = .ok (.aload_n 0, 1) := by decide +kernel
theorem dX11_shield_6 : decode cX11_shield 6 = .ok (.iload_n 3, 1) := by decide +kernel
theorem dX11_shield_7 : decode cX11_shield 7 = .ok (.invokevirtual 119, 3) := by decide +kernel
theorem dX11_shield_10 : decode cX11_shield 10 = .ok (.iload_n 2, 1) := by decide +kernel
theorem dX11_shield_11 : decode cX11_shield 11 = .ok (.invokestatic 274, 3) := by decide +kernel
theorem dX11_shield_14 : decode cX11_shield 14 = .ok (.iload 4, 2) := by decide +kernel
theorem dX11_shield_16 : decode cX11_shield 16 = .ok (.iconst 0, 1) := by decide +kernel
theorem dX11_shield_17 : decode cX11_shield 17 = .ok (.iconst 1, 1) := by decide +kernel
theorem dX11_shield_18 : decode cX11_shield 18 = .ok (.invokestatic 95, 3) := by decide +kernel
theorem dX11_shield_21 : decode cX11_shield 21 = .ok (.aload_n 0, 1) := by decide +kernel
theorem dX11_shield_22 : decode cX11_shield 22 = .ok (.getfield 65, 3) := by decide +kernel
theorem dX11_shield_25 : decode cX11_shield 25 = .ok (.aload_n 0, 1) := by decide +kernel
theorem dX11_shield_26 : decode cX11_shield 26 = .ok (.getfield 49, 3) := by decide +kernel
theorem dX11_shield_29 : decode cX11_shield 29 = .ok (.getfield 122, 3) := by decide +kernel
theorem dX11_shield_32 : decode cX11_shield 32 = .ok (.invokevirtual 277, 3) := by decide +kernel
theorem dX11_shield_35 : decode cX11_shield 35 = .ok (.aload_n 0, 1) := by decide +kernel
theorem dX11_shield_36 : decode cX11_shield 36 = .ok (.getfield 65, 3) := by decide +kernel
theorem dX11_shield_39 : decode cX11_shield 39 = .ok (.iload_n 1, 1) := by decide +kernel
theorem dX11_shield_40 : decode cX11_shield 40 = .ok (.iload_n 2, 1) := by decide +kernel
theorem dX11_shield_41 : decode cX11_shield 41 = .ok (.iload_n 3, 1) := by decide +kernel
theorem dX11_shield_42 : decode cX11_shield 42 = .ok (.invokevirtual 303, 3) := by decide +kernel
theorem dX11_shield_45 : decode cX11_shield 45 = .ok (.iload 4, 2) := by decide +kernel
theorem dX11_shield_47 : decode cX11_shield 47 = .ok (.invokestatic 307, 3) := by decide +kernel
theorem dX11_shield_50 : decode cX11_shield 50 = .ok (.ireturn, 1) := by decide +kernel
theorem dX11_loudest_0 : decode cX11_loudest 0 = .ok (.iload_n 1, 1) := by decide +kernel
theorem dX11_loudest_1 : decode cX11_loudest 1 = .ok (.invokestatic 274, 3) := by decide +kernel
theorem dX11_loudest_4 : decode cX11_loudest 4 = .ok (.aload_n 0, 1) := by decide +kernel
theorem dX11_loudest_5 : decode cX11_loudest 5 = .ok (.getfield 65, 3) := by decide +kernel
theorem dX11_loudest_8 : decode cX11_loudest 8 = .ok (.aload_n 0, 1) := by decide +kernel
theorem dX11_loudest_9 : decode cX11_loudest 9 = .ok (.getfield 49, 3) := by decide +kernel
theorem dX11_loudest_12 : decode cX11_loudest 12 = .ok (.getfield 122, 3) := by decide +kernel
theorem dX11_loudest_15 : decode cX11_loudest 15 = .ok (.invokevirtual 277, 3) := by decide +kernel
theorem dX11_loudest_18 : decode cX11_loudest 18 = .ok (.iconst (-1), 1) := by decide +kernel
theorem dX11_loudest_19 : decode cX11_loudest 19 = .ok (.istore_n 2, 1) := by decide +kernel
theorem dX11_loudest_20 : decode cX11_loudest 20 = .ok (.iconst (-1), 1) := by decide +kernel
theorem dX11_loudest_21 : decode cX11_loudest 21 = .ok (.istore_n 3, 1) := by decide +kernel
theorem dX11_loudest_22 : decode cX11_loudest 22 = .ok (.iconst 0, 1) := by decide +kernel
theorem dX11_loudest_23 : decode cX11_loudest 23 = .ok (.istore 4, 2) := by decide +kernel
theorem dX11_loudest_25 : decode cX11_loudest 25 = .ok (.iload 4, 2) := by decide +kernel
theorem dX11_loudest_27 : decode cX11_loudest 27 = .ok (.aload_n 0, 1) := by decide +kernel
theorem dX11_loudest_28 : decode cX11_loudest 28 = .ok (.getfield 49, 3) := by decide +kernel
theorem dX11_loudest_31 : decode cX11_loudest 31 = .ok (.getfield 122, 3) := by decide +kernel
theorem dX11_loudest_34 : decode cX11_loudest 34 = .ok (.getfield 125, 3) := by decide +kernel
theorem dX11_loudest_37 : decode cX11_loudest 37 = .ok (.getfield 238, 3) := by decide +kernel
theorem dX11_loudest_40 : decode cX11_loudest 40 = .ok (.if_icmp .ge 36, 3) := by decide +kernel
theorem dX11_loudest_43 : decode cX11_loudest 43 = .ok (.aload_n 0, 1) := by decide +kernel
theorem dX11_loudest_44 : decode cX11_loudest 44 = .ok (.getfield 65, 3) := by decide +kernel
theorem dX11_loudest_47 : decode cX11_loudest 47 = .ok (.iload 4, 2) := by decide +kernel
theorem dX11_loudest_49 : decode cX11_loudest 49 = .ok (.iload_n 1, 1) := by decide +kernel
theorem dX11_loudest_50 : decode cX11_loudest 50 = .ok (.invokevirtual 279, 3) := by decide +kernel
theorem dX11_loudest_53 : decode cX11_loudest 53 = .ok (.invokestatic 257, 3) := by decide +kernel
theorem dX11_loudest_56 : decode cX11_loudest 56 = .ok (.istore 5, 2) := by decide +kernel
theorem dX11_loudest_58 : decode cX11_loudest 58 = .ok (.iload 5, 2) := by decide +kernel
theorem dX11_loudest_60 : decode cX11_loudest 60 = .ok (.iload_n 3, 1) := by decide +kernel
theorem dX11_loudest_61 : decode cX11_loudest 61 = .ok (.if_icmp .le 9, 3) := by decide +kernel
theorem dX11_loudest_64 : decode cX11_loudest 64 = .ok (.iload 5, 2) := by decide +kernel
theorem dX11_loudest_66 : decode cX11_loudest 66 = .ok (.istore_n 3, 1) := by decide +kernel
theorem dX11_loudest_67 : decode cX11_loudest 67 = .ok (.iload 4, 2) := by decide +kernel
theorem dX11_loudest_69 : decode cX11_loudest 69 = .ok (.istore_n 2, 1) := by decide +kernel
theorem dX11_loudest_70 : decode cX11_loudest 70 = .ok (.iinc 4 1, 3) := by decide +kernel
theorem dX11_loudest_73 : decode cX11_loudest 73 = .ok (.goto (-48), 3) := by decide +kernel
theorem dX11_loudest_76 : decode cX11_loudest 76 = .ok (.iload_n 2, 1) := by decide +kernel
theorem dX11_loudest_77 : decode cX11_loudest 77 = .ok (.ireturn, 1) := by decide +kernel
theorem dX11_chorus_0 : decode cX11_chorus 0 = .ok (.iload_n 1, 1) := by decide +kernel
theorem dX11_chorus_1 : decode cX11_chorus 1 = .ok (.invokestatic 274, 3) := by decide +kernel
theorem dX11_chorus_4 : decode cX11_chorus 4 = .ok (.iload_n 2, 1) := by decide +kernel
theorem dX11_chorus_5 : decode cX11_chorus 5 = .ok (.iconst 0, 1) := by decide +kernel
theorem dX11_chorus_6 : decode cX11_chorus 6 = .ok (.iconst 1, 1) := by decide +kernel
theorem dX11_chorus_7 : decode cX11_chorus 7 = .ok (.invokestatic 95, 3) := by decide +kernel
theorem dX11_chorus_10 : decode cX11_chorus 10 = .ok (.aload_n 0, 1) := by decide +kernel
theorem dX11_chorus_11 : decode cX11_chorus 11 = .ok (.getfield 65, 3) := by decide +kernel
theorem dX11_chorus_14 : decode cX11_chorus 14 = .ok (.aload_n 0, 1) := by decide +kernel
theorem dX11_chorus_15 : decode cX11_chorus 15 = .ok (.getfield 49, 3) := by decide +kernel
theorem dX11_chorus_18 : decode cX11_chorus 18 = .ok (.getfield 122, 3) := by decide +kernel
theorem dX11_chorus_21 : decode cX11_chorus 21 = .ok (.invokevirtual 277, 3) := by decide +kernel
theorem dX11_chorus_24 : decode cX11_chorus 24 = .ok (.aload_n 0, 1) := by decide +kernel
theorem dX11_chorus_25 : decode cX11_chorus 25 = .ok (.getfield 65, 3) := by decide +kernel
theorem dX11_chorus_28 : decode cX11_chorus 28 = .ok (.iload_n 1, 1) := by decide +kernel
theorem dX11_chorus_29 : decode cX11_chorus 29 = .ok (.invokevirtual 310, 3) := by decide +kernel
theorem dX11_chorus_32 : decode cX11_chorus 32 = .ok (.iload_n 2, 1) := by decide +kernel
theorem dX11_chorus_33 : decode cX11_chorus 33 = .ok (.invokestatic 307, 3) := by decide +kernel
theorem dX11_chorus_36 : decode cX11_chorus 36 = .ok (.ireturn, 1) := by decide +kernel
theorem dX11_yawns_0 : decode cX11_yawns 0 = .ok (.aload_n 0, 1) := by decide +kernel
theorem dX11_yawns_1 : decode cX11_yawns 1 = .ok (.iload_n 1, 1) := by decide +kernel
theorem dX11_yawns_2 : decode cX11_yawns 2 = .ok (.invokevirtual 119, 3) := by decide +kernel
theorem dX11_yawns_5 : decode cX11_yawns 5 = .ok (.aload_n 0, 1) := by decide +kernel
theorem dX11_yawns_6 : decode cX11_yawns 6 = .ok (.iload_n 3, 1) := by decide +kernel
theorem dX11_yawns_7 : decode cX11_yawns 7 = .ok (.invokevirtual 119, 3) := by decide +kernel
theorem dX11_yawns_10 : decode cX11_yawns 10 = .ok (.iload_n 2, 1) := by decide +kernel
theorem dX11_yawns_11 : decode cX11_yawns 11 = .ok (.invokestatic 274, 3) := by decide +kernel
theorem dX11_yawns_14 : decode cX11_yawns 14 = .ok (.aload_n 0, 1) := by decide +kernel
theorem dX11_yawns_15 : decode cX11_yawns 15 = .ok (.getfield 65, 3) := by decide +kernel
theorem dX11_yawns_18 : decode cX11_yawns 18 = .ok (.aload_n 0, 1) := by decide +kernel
theorem dX11_yawns_19 : decode cX11_yawns 19 = .ok (.getfield 49, 3) := by decide +kernel
theorem dX11_yawns_22 : decode cX11_yawns 22 = .ok (.getfield 122, 3) := by decide +kernel
theorem dX11_yawns_25 : decode cX11_yawns 25 = .ok (.invokevirtual 277, 3) := by decide +kernel
theorem dX11_yawns_28 : decode cX11_yawns 28 = .ok (.aload_n 0, 1) := by decide +kernel
theorem dX11_yawns_29 : decode cX11_yawns 29 = .ok (.getfield 65, 3) := by decide +kernel
theorem dX11_yawns_32 : decode cX11_yawns 32 = .ok (.iload_n 1, 1) := by decide +kernel
theorem dX11_yawns_33 : decode cX11_yawns 33 = .ok (.iload_n 2, 1) := by decide +kernel
theorem dX11_yawns_34 : decode cX11_yawns 34 = .ok (.iload_n 3, 1) := by decide +kernel
theorem dX11_yawns_35 : decode cX11_yawns 35 = .ok (.invokevirtual 313, 3) := by decide +kernel
theorem dX11_yawns_38 : decode cX11_yawns 38 = .ok (.ireturn, 1) := by decide +kernel
theorem dX11_loudHour_0 : decode cX11_loudHour 0 = .ok (.aload_n 0, 1) := by decide +kernel
theorem dX11_loudHour_1 : decode cX11_loudHour 1 = .ok (.iload_n 1, 1) := by decide +kernel
theorem dX11_loudHour_2 : decode cX11_loudHour 2 = .ok (.invokevirtual 119, 3) := by decide +kernel
theorem dX11_loudHour_5 : decode cX11_loudHour 5 = .ok (.iload_n 2, 1) := by decide +kernel
theorem dX11_loudHour_6 : decode cX11_loudHour 6 = .ok (.invokestatic 274, 3) := by decide +kernel
theorem dX11_loudHour_9 : decode cX11_loudHour 9 = .ok (.aload_n 0, 1) := by decide +kernel
theorem dX11_loudHour_10 : decode cX11_loudHour 10 = .ok (.getfield 54, 3) := by decide +kernel
theorem dX11_loudHour_13 : decode cX11_loudHour 13 = .ok (.aload_n 0, 1) := by decide +kernel
theorem dX11_loudHour_14 : decode cX11_loudHour 14 = .ok (.getfield 49, 3) := by decide +kernel
theorem dX11_loudHour_17 : decode cX11_loudHour 17 = .ok (.getfield 122, 3) := by decide +kernel
theorem dX11_loudHour_20 : decode cX11_loudHour 20 = .ok (.invokevirtual 212, 3) := by decide +kernel
theorem dX11_loudHour_23 : decode cX11_loudHour 23 = .ok (.iconst 0, 1) := by decide +kernel
theorem dX11_loudHour_24 : decode cX11_loudHour 24 = .ok (.istore_n 3, 1) := by decide +kernel
theorem dX11_loudHour_25 : decode cX11_loudHour 25 = .ok (.iconst (-1), 1) := by decide +kernel
theorem dX11_loudHour_26 : decode cX11_loudHour 26 = .ok (.istore 4, 2) := by decide +kernel
theorem dX11_loudHour_28 : decode cX11_loudHour 28 = .ok (.iconst 0, 1) := by decide +kernel
theorem dX11_loudHour_29 : decode cX11_loudHour 29 = .ok (.istore 5, 2) := by decide +kernel
theorem dX11_loudHour_31 : decode cX11_loudHour 31 = .ok (.iload 5, 2) := by decide +kernel
theorem dX11_loudHour_33 : decode cX11_loudHour 33 = .ok (.bipush 40, 2) := by decide +kernel
theorem dX11_loudHour_35 : decode cX11_loudHour 35 = .ok (.if_icmp .gt 55, 3) := by decide +kernel
theorem dX11_loudHour_38 : decode cX11_loudHour 38 = .ok (.aload_n 0, 1) := by decide +kernel
theorem dX11_loudHour_39 : decode cX11_loudHour 39 = .ok (.getfield 65, 3) := by decide +kernel
theorem dX11_loudHour_42 : decode cX11_loudHour 42 = .ok (.aload_n 0, 1) := by decide +kernel
theorem dX11_loudHour_43 : decode cX11_loudHour 43 = .ok (.getfield 54, 3) := by decide +kernel
theorem dX11_loudHour_46 : decode cX11_loudHour 46 = .ok (.invokevirtual 277, 3) := by decide +kernel
theorem dX11_loudHour_49 : decode cX11_loudHour 49 = .ok (.aload_n 0, 1) := by decide +kernel
theorem dX11_loudHour_50 : decode cX11_loudHour 50 = .ok (.getfield 65, 3) := by decide +kernel
theorem dX11_loudHour_53 : decode cX11_loudHour 53 = .ok (.iload_n 1, 1) := by decide +kernel
theorem dX11_loudHour_54 : decode cX11_loudHour 54 = .ok (.iload_n 2, 1) := by decide +kernel
theorem dX11_loudHour_55 : decode cX11_loudHour 55 = .ok (.invokevirtual 279, 3) := by decide +kernel
theorem dX11_loudHour_58 : decode cX11_loudHour 58 = .ok (.invokestatic 257, 3) := by decide +kernel
theorem dX11_loudHour_61 : decode cX11_loudHour 61 = .ok (.istore 6, 2) := by decide +kernel
theorem dX11_loudHour_63 : decode cX11_loudHour 63 = .ok (.iload 6, 2) := by decide +kernel
theorem dX11_loudHour_65 : decode cX11_loudHour 65 = .ok (.iload 4, 2) := by decide +kernel
theorem dX11_loudHour_67 : decode cX11_loudHour 67 = .ok (.if_icmp .le 10, 3) := by decide +kernel
theorem dX11_loudHour_70 : decode cX11_loudHour 70 = .ok (.iload 6, 2) := by decide +kernel
theorem dX11_loudHour_72 : decode cX11_loudHour 72 = .ok (.istore 4, 2) := by decide +kernel
theorem dX11_loudHour_74 : decode cX11_loudHour 74 = .ok (.iload 5, 2) := by decide +kernel
theorem dX11_loudHour_76 : decode cX11_loudHour 76 = .ok (.istore_n 3, 1) := by decide +kernel
theorem dX11_loudHour_77 : decode cX11_loudHour 77 = .ok (.aload_n 0, 1) := by decide +kernel
theorem dX11_loudHour_78 : decode cX11_loudHour 78 = .ok (.getfield 54, 3) := by decide +kernel
theorem dX11_loudHour_81 : decode cX11_loudHour 81 = .ok (.invokevirtual 199, 3) := by decide +kernel
theorem dX11_loudHour_84 : decode cX11_loudHour 84 = .ok (.iinc 5 1, 3) := by decide +kernel
theorem dX11_loudHour_87 : decode cX11_loudHour 87 = .ok (.goto (-56), 3) := by decide +kernel
theorem dX11_loudHour_90 : decode cX11_loudHour 90 = .ok (.iload_n 3, 1) := by decide +kernel
theorem dX11_loudHour_91 : decode cX11_loudHour 91 = .ok (.ireturn, 1) := by decide +kernel
theorem dX11_quietHours_0 : decode cX11_quietHours 0 = .ok (.aload_n 0, 1) := by decide +kernel
theorem dX11_quietHours_1 : decode cX11_quietHours 1 = .ok (.iload_n 1, 1) := by decide +kernel
theorem dX11_quietHours_2 : decode cX11_quietHours 2 = .ok (.invokevirtual 156, 3) := by decide +kernel
theorem dX11_quietHours_5 : decode cX11_quietHours 5 = .ok (.aload_n 0, 1) := by decide +kernel
theorem dX11_quietHours_6 : decode cX11_quietHours 6 = .ok (.getfield 83, 3) := by decide +kernel
theorem dX11_quietHours_9 : decode cX11_quietHours 9 = .ok (.aload_n 0, 1) := by decide +kernel
theorem dX11_quietHours_10 : decode cX11_quietHours 10 = .ok (.getfield 49, 3) := by decide +kernel
theorem dX11_quietHours_13 : decode cX11_quietHours 13 = .ok (.getfield 122, 3) := by decide +kernel
theorem dX11_quietHours_16 : decode cX11_quietHours 16 = .ok (.invokevirtual 316, 3) := by decide +kernel
theorem dX11_quietHours_19 : decode cX11_quietHours 19 = .ok (.aload_n 0, 1) := by decide +kernel
theorem dX11_quietHours_20 : decode cX11_quietHours 20 = .ok (.getfield 83, 3) := by decide +kernel
theorem dX11_quietHours_23 : decode cX11_quietHours 23 = .ok (.iload_n 1, 1) := by decide +kernel
theorem dX11_quietHours_24 : decode cX11_quietHours 24 = .ok (.invokevirtual 319, 3) := by decide +kernel
theorem dX11_quietHours_27 : decode cX11_quietHours 27 = .ok (.lreturn, 1) := by decide +kernel
theorem dX11_quietWell_0 : decode cX11_quietWell 0 = .ok (.aload_n 0, 1) := by decide +kernel
theorem dX11_quietWell_1 : decode cX11_quietWell 1 = .ok (.iload_n 1, 1) := by decide +kernel
theorem dX11_quietWell_2 : decode cX11_quietWell 2 = .ok (.invokevirtual 156, 3) := by decide +kernel
theorem dX11_quietWell_5 : decode cX11_quietWell 5 = .ok (.iload_n 2, 1) := by decide +kernel
theorem dX11_quietWell_6 : decode cX11_quietWell 6 = .ok (.iconst 0, 1) := by decide +kernel
theorem dX11_quietWell_7 : decode cX11_quietWell 7 = .ok (.bipush 40, 2) := by decide +kernel
theorem dX11_quietWell_9 : decode cX11_quietWell 9 = .ok (.invokestatic 95, 3) := by decide +kernel
theorem dX11_quietWell_12 : decode cX11_quietWell 12 = .ok (.aload_n 0, 1) := by decide +kernel
theorem dX11_quietWell_13 : decode cX11_quietWell 13 = .ok (.iload_n 2, 1) := by decide +kernel
theorem dX11_quietWell_14 : decode cX11_quietWell 14 = .ok (.invokevirtual 322, 3) := by decide +kernel
theorem dX11_quietWell_17 : decode cX11_quietWell 17 = .ok (.aload_n 0, 1) := by decide +kernel
theorem dX11_quietWell_18 : decode cX11_quietWell 18 = .ok (.getfield 65, 3) := by decide +kernel
theorem dX11_quietWell_21 : decode cX11_quietWell 21 = .ok (.aload_n 0, 1) := by decide +kernel
theorem dX11_quietWell_22 : decode cX11_quietWell 22 = .ok (.getfield 54, 3) := by decide +kernel
theorem dX11_quietWell_25 : decode cX11_quietWell 25 = .ok (.invokevirtual 287, 3) := by decide +kernel
theorem dX11_quietWell_28 : decode cX11_quietWell 28 = .ok (.aload_n 0, 1) := by decide +kernel
theorem dX11_quietWell_29 : decode cX11_quietWell 29 = .ok (.getfield 83, 3) := by decide +kernel
theorem dX11_quietWell_32 : decode cX11_quietWell 32 = .ok (.iload_n 1, 1) := by decide +kernel
theorem dX11_quietWell_33 : decode cX11_quietWell 33 = .ok (.invokevirtual 324, 3) := by decide +kernel
theorem dX11_quietWell_36 : decode cX11_quietWell 36 = .ok (.ireturn, 1) := by decide +kernel
theorem dX11_plan_0 : decode cX11_plan 0 = .ok (.iload_n 1, 1) := by decide +kernel
theorem dX11_plan_1 : decode cX11_plan 1 = .ok (.ifCond .eq 11, 3) := by decide +kernel
theorem dX11_plan_4 : decode cX11_plan 4 = .ok (.iload_n 1, 1) := by decide +kernel
theorem dX11_plan_5 : decode cX11_plan 5 = .ok (.bipush 10, 2) := by decide +kernel
theorem dX11_plan_7 : decode cX11_plan 7 = .ok (.bipush 15, 2) := by decide +kernel
theorem dX11_plan_9 : decode cX11_plan 9 = .ok (.invokestatic 95, 3) := by decide +kernel
theorem dX11_plan_12 : decode cX11_plan 12 = .ok (.aload_n 0, 1) := by decide +kernel
theorem dX11_plan_13 : decode cX11_plan 13 = .ok (.getfield 83, 3) := by decide +kernel
theorem dX11_plan_16 : decode cX11_plan 16 = .ok (.aload_n 0, 1) := by decide +kernel
theorem dX11_plan_17 : decode cX11_plan 17 = .ok (.getfield 49, 3) := by decide +kernel
theorem dX11_plan_20 : decode cX11_plan 20 = .ok (.getfield 122, 3) := by decide +kernel
theorem dX11_plan_23 : decode cX11_plan 23 = .ok (.invokevirtual 316, 3) := by decide +kernel
theorem dX11_plan_26 : decode cX11_plan 26 = .ok (.aload_n 0, 1) := by decide +kernel
theorem dX11_plan_27 : decode cX11_plan 27 = .ok (.getfield 83, 3) := by decide +kernel
theorem dX11_plan_30 : decode cX11_plan 30 = .ok (.invokevirtual 327, 3) := by decide +kernel
theorem dX11_plan_33 : decode cX11_plan 33 = .ok (.istore_n 2, 1) := by decide +kernel
theorem dX11_plan_34 : decode cX11_plan 34 = .ok (.iload_n 2, 1) := by decide +kernel
theorem dX11_plan_35 : decode cX11_plan 35 = .ok (.ifCond .ge 6, 3) := by decide +kernel
theorem dX11_plan_38 : decode cX11_plan 38 = .ok (.bipush (-2), 2) := by decide +kernel
theorem dX11_plan_40 : decode cX11_plan 40 = .ok (.ireturn, 1) := by decide +kernel
theorem dX11_plan_41 : decode cX11_plan 41 = .ok (.iload_n 1, 1) := by decide +kernel
theorem dX11_plan_42 : decode cX11_plan 42 = .ok (.ifCond .ne 7, 3) := by decide +kernel
theorem dX11_plan_45 : decode cX11_plan 45 = .ok (.iconst 0, 1) := by decide +kernel
theorem dX11_plan_46 : decode cX11_plan 46 = .ok (.goto 7, 3) := by decide +kernel
theorem dX11_plan_49 : decode cX11_plan 49 = .ok (.iload_n 1, 1) := by decide +kernel
theorem dX11_plan_50 : decode cX11_plan 50 = .ok (.bipush 10, 2) := by decide +kernel
theorem dX11_plan_52 : decode cX11_plan 52 = .ok (.isub, 1) := by decide +kernel
theorem dX11_plan_53 : decode cX11_plan 53 = .ok (.istore_n 3, 1) := by decide +kernel
theorem dX11_plan_54 : decode cX11_plan 54 = .ok (.aload_n 0, 1) := by decide +kernel
theorem dX11_plan_55 : decode cX11_plan 55 = .ok (.getfield 49, 3) := by decide +kernel
theorem dX11_plan_58 : decode cX11_plan 58 = .ok (.getfield 122, 3) := by decide +kernel
theorem dX11_plan_61 : decode cX11_plan 61 = .ok (.getfield 125, 3) := by decide +kernel
theorem dX11_plan_64 : decode cX11_plan 64 = .ok (.iload_n 3, 1) := by decide +kernel
theorem dX11_plan_65 : decode cX11_plan 65 = .ok (.invokevirtual 330, 3) := by decide +kernel
theorem dX11_plan_68 : decode cX11_plan 68 = .ok (.ifCond .ne 5, 3) := by decide +kernel
theorem dX11_plan_71 : decode cX11_plan 71 = .ok (.iconst (-1), 1) := by decide +kernel
theorem dX11_plan_72 : decode cX11_plan 72 = .ok (.ireturn, 1) := by decide +kernel
theorem dX11_plan_73 : decode cX11_plan 73 = .ok (.iload_n 1, 1) := by decide +kernel
theorem dX11_plan_74 : decode cX11_plan 74 = .ok (.ifCond .ne 7, 3) := by decide +kernel
theorem dX11_plan_77 : decode cX11_plan 77 = .ok (.iload_n 2, 1) := by decide +kernel
theorem dX11_plan_78 : decode cX11_plan 78 = .ok (.goto 12, 3) := by decide +kernel
theorem dX11_plan_81 : decode cX11_plan 81 = .ok (.aload_n 0, 1) := by decide +kernel
theorem dX11_plan_82 : decode cX11_plan 82 = .ok (.getfield 83, 3) := by decide +kernel
theorem dX11_plan_85 : decode cX11_plan 85 = .ok (.iload_n 3, 1) := by decide +kernel
theorem dX11_plan_86 : decode cX11_plan 86 = .ok (.iload_n 2, 1) := by decide +kernel
theorem dX11_plan_87 : decode cX11_plan 87 = .ok (.invokevirtual 333, 3) := by decide +kernel
theorem dX11_plan_90 : decode cX11_plan 90 = .ok (.ireturn, 1) := by decide +kernel
theorem dX11_served_0 : decode cX11_served 0 = .ok (.iload_n 1, 1) := by decide +kernel
theorem dX11_served_1 : decode cX11_served 1 = .ok (.iconst 0, 1) := by decide +kernel
theorem dX11_served_2 : decode cX11_served 2 = .ok (.bipush 40, 2) := by decide +kernel
theorem dX11_served_4 : decode cX11_served 4 = .ok (.invokestatic 95, 3) := by decide +kernel
theorem dX11_served_7 : decode cX11_served 7 = .ok (.aload_n 0, 1) := by decide +kernel
theorem dX11_served_8 : decode cX11_served 8 = .ok (.getfield 83, 3) := by decide +kernel
theorem dX11_served_11 : decode cX11_served 11 = .ok (.aload_n 0, 1) := by decide +kernel
theorem dX11_served_12 : decode cX11_served 12 = .ok (.getfield 49, 3) := by decide +kernel
theorem dX11_served_15 : decode cX11_served 15 = .ok (.getfield 122, 3) := by decide +kernel
theorem dX11_served_18 : decode cX11_served 18 = .ok (.invokevirtual 316, 3) := by decide +kernel
theorem dX11_served_21 : decode cX11_served 21 = .ok (.aload_n 0, 1) := by decide +kernel
theorem dX11_served_22 : decode cX11_served 22 = .ok (.getfield 83, 3) := by decide +kernel
theorem dX11_served_25 : decode cX11_served 25 = .ok (.iload_n 1, 1) := by decide +kernel
theorem dX11_served_26 : decode cX11_served 26 = .ok (.invokevirtual 336, 3) := by decide +kernel
theorem dX11_served_29 : decode cX11_served 29 = .ok (.ireturn, 1) := by decide +kernel
theorem dX11_dry_0 : decode cX11_dry 0 = .ok (.aload_n 0, 1) := by decide +kernel
theorem dX11_dry_1 : decode cX11_dry 1 = .ok (.getfield 83, 3) := by decide +kernel
theorem dX11_dry_4 : decode cX11_dry 4 = .ok (.aload_n 0, 1) := by decide +kernel
theorem dX11_dry_5 : decode cX11_dry 5 = .ok (.getfield 49, 3) := by decide +kernel
theorem dX11_dry_8 : decode cX11_dry 8 = .ok (.getfield 122, 3) := by decide +kernel
theorem dX11_dry_11 : decode cX11_dry 11 = .ok (.invokevirtual 316, 3) := by decide +kernel
theorem dX11_dry_14 : decode cX11_dry 14 = .ok (.iconst 0, 1) := by decide +kernel
theorem dX11_dry_15 : decode cX11_dry 15 = .ok (.istore_n 1, 1) := by decide +kernel
theorem dX11_dry_16 : decode cX11_dry 16 = .ok (.iconst 0, 1) := by decide +kernel
theorem dX11_dry_17 : decode cX11_dry 17 = .ok (.istore_n 2, 1) := by decide +kernel
theorem dX11_dry_18 : decode cX11_dry 18 = .ok (.iload_n 2, 1) := by decide +kernel
theorem dX11_dry_19 : decode cX11_dry 19 = .ok (.aload_n 0, 1) := by decide +kernel
theorem dX11_dry_20 : decode cX11_dry 20 = .ok (.getfield 49, 3) := by decide +kernel
theorem dX11_dry_23 : decode cX11_dry 23 = .ok (.getfield 122, 3) := by decide +kernel
theorem dX11_dry_26 : decode cX11_dry 26 = .ok (.getfield 125, 3) := by decide +kernel
theorem dX11_dry_29 : decode cX11_dry 29 = .ok (.getfield 339, 3) := by decide +kernel
theorem dX11_dry_32 : decode cX11_dry 32 = .ok (.if_icmp .ge 28, 3) := by decide +kernel
theorem dX11_dry_35 : decode cX11_dry 35 = .ok (.aload_n 0, 1) := by decide +kernel
theorem dX11_dry_36 : decode cX11_dry 36 = .ok (.getfield 83, 3) := by decide +kernel
theorem dX11_dry_39 : decode cX11_dry 39 = .ok (.iload_n 2, 1) := by decide +kernel
theorem dX11_dry_40 : decode cX11_dry 40 = .ok (.invokevirtual 319, 3) := by decide +kernel
theorem dX11_dry_43 : decode cX11_dry 43 = .ok (.lconst 0, 1) := by decide +kernel
theorem dX11_dry_44 : decode cX11_dry 44 = .ok (.lcmp, 1) := by decide +kernel
theorem dX11_dry_45 : decode cX11_dry 45 = .ok (.ifCond .ne 9, 3) := by decide +kernel
theorem dX11_dry_48 : decode cX11_dry 48 = .ok (.iload_n 1, 1) := by decide +kernel
theorem dX11_dry_49 : decode cX11_dry 49 = .ok (.iconst 1, 1) := by decide +kernel
theorem dX11_dry_50 : decode cX11_dry 50 = .ok (.iload_n 2, 1) := by decide +kernel
theorem dX11_dry_51 : decode cX11_dry 51 = .ok (.ishl, 1) := by decide +kernel
theorem dX11_dry_52 : decode cX11_dry 52 = .ok (.ior, 1) := by decide +kernel
theorem dX11_dry_53 : decode cX11_dry 53 = .ok (.istore_n 1, 1) := by decide +kernel
theorem dX11_dry_54 : decode cX11_dry 54 = .ok (.iinc 2 1, 3) := by decide +kernel
theorem dX11_dry_57 : decode cX11_dry 57 = .ok (.goto (-39), 3) := by decide +kernel
theorem dX11_dry_60 : decode cX11_dry 60 = .ok (.iload_n 1, 1) := by decide +kernel
theorem dX11_dry_61 : decode cX11_dry 61 = .ok (.ireturn, 1) := by decide +kernel
theorem dX11_waterIn_0 : decode cX11_waterIn 0 = .ok (.aload_n 0, 1) := by decide +kernel
theorem dX11_waterIn_1 : decode cX11_waterIn 1 = .ok (.iload_n 1, 1) := by decide +kernel
theorem dX11_waterIn_2 : decode cX11_waterIn 2 = .ok (.invokevirtual 119, 3) := by decide +kernel
theorem dX11_waterIn_5 : decode cX11_waterIn 5 = .ok (.iload_n 2, 1) := by decide +kernel
theorem dX11_waterIn_6 : decode cX11_waterIn 6 = .ok (.iconst 0, 1) := by decide +kernel
theorem dX11_waterIn_7 : decode cX11_waterIn 7 = .ok (.sipush 200, 3) := by decide +kernel
theorem dX11_waterIn_10 : decode cX11_waterIn 10 = .ok (.invokestatic 95, 3) := by decide +kernel
theorem dX11_waterIn_13 : decode cX11_waterIn 13 = .ok (.aload_n 0, 1) := by decide +kernel
theorem dX11_waterIn_14 : decode cX11_waterIn 14 = .ok (.iload_n 2, 1) := by decide +kernel
theorem dX11_waterIn_15 : decode cX11_waterIn 15 = .ok (.invokevirtual 322, 3) := by decide +kernel
theorem dX11_waterIn_18 : decode cX11_waterIn 18 = .ok (.aload_n 0, 1) := by decide +kernel
theorem dX11_waterIn_19 : decode cX11_waterIn 19 = .ok (.getfield 54, 3) := by decide +kernel
theorem dX11_waterIn_22 : decode cX11_waterIn 22 = .ok (.iload_n 1, 1) := by decide +kernel
theorem dX11_waterIn_23 : decode cX11_waterIn 23 = .ok (.invokevirtual 141, 3) := by decide +kernel
theorem dX11_waterIn_26 : decode cX11_waterIn 26 = .ok (.ireturn, 1) := by decide +kernel
theorem dX11_hasIn_0 : decode cX11_hasIn 0 = .ok (.aload_n 0, 1) := by decide +kernel
theorem dX11_hasIn_1 : decode cX11_hasIn 1 = .ok (.iload_n 1, 1) := by decide +kernel
theorem dX11_hasIn_2 : decode cX11_hasIn 2 = .ok (.invokevirtual 119, 3) := by decide +kernel
theorem dX11_hasIn_5 : decode cX11_hasIn 5 = .ok (.iload_n 2, 1) := by decide +kernel
theorem dX11_hasIn_6 : decode cX11_hasIn 6 = .ok (.iconst 0, 1) := by decide +kernel
theorem dX11_hasIn_7 : decode cX11_hasIn 7 = .ok (.ldc_w 342, 3) := by decide +kernel
theorem dX11_hasIn_10 : decode cX11_hasIn 10 = .ok (.invokestatic 95, 3) := by decide +kernel
theorem dX11_hasIn_13 : decode cX11_hasIn 13 = .ok (.aload_n 0, 1) := by decide +kernel
theorem dX11_hasIn_14 : decode cX11_hasIn 14 = .ok (.getfield 54, 3) := by decide +kernel
theorem dX11_hasIn_17 : decode cX11_hasIn 17 = .ok (.aload_n 0, 1) := by decide +kernel
theorem dX11_hasIn_18 : decode cX11_hasIn 18 = .ok (.getfield 49, 3) := by decide +kernel
theorem dX11_hasIn_21 : decode cX11_hasIn 21 = .ok (.getfield 122, 3) := by decide +kernel
theorem dX11_hasIn_24 : decode cX11_hasIn 24 = .ok (.invokevirtual 212, 3) := by decide +kernel
theorem dX11_hasIn_27 : decode cX11_hasIn 27 = .ok (.iconst 0, 1) := by decide +kernel
theorem dX11_hasIn_28 : decode cX11_hasIn 28 = .ok (.istore_n 3, 1) := by decide +kernel
theorem dX11_hasIn_29 : decode cX11_hasIn 29 = .ok (.iload_n 3, 1) := by decide +kernel
theorem dX11_hasIn_30 : decode cX11_hasIn 30 = .ok (.sipush 200, 3) := by decide +kernel
theorem dX11_hasIn_33 : decode cX11_hasIn 33 = .ok (.if_icmp .gt 30, 3) := by decide +kernel
theorem dX11_hasIn_36 : decode cX11_hasIn 36 = .ok (.aload_n 0, 1) := by decide +kernel
theorem dX11_hasIn_37 : decode cX11_hasIn 37 = .ok (.getfield 54, 3) := by decide +kernel
theorem dX11_hasIn_40 : decode cX11_hasIn 40 = .ok (.iload_n 1, 1) := by decide +kernel
theorem dX11_hasIn_41 : decode cX11_hasIn 41 = .ok (.invokevirtual 141, 3) := by decide +kernel
theorem dX11_hasIn_44 : decode cX11_hasIn 44 = .ok (.iload_n 2, 1) := by decide +kernel
theorem dX11_hasIn_45 : decode cX11_hasIn 45 = .ok (.if_icmp .lt 5, 3) := by decide +kernel
theorem dX11_hasIn_48 : decode cX11_hasIn 48 = .ok (.iload_n 3, 1) := by decide +kernel
theorem dX11_hasIn_49 : decode cX11_hasIn 49 = .ok (.ireturn, 1) := by decide +kernel
theorem dX11_hasIn_50 : decode cX11_hasIn 50 = .ok (.aload_n 0, 1) := by decide +kernel
theorem dX11_hasIn_51 : decode cX11_hasIn 51 = .ok (.getfield 54, 3) := by decide +kernel
theorem dX11_hasIn_54 : decode cX11_hasIn 54 = .ok (.invokevirtual 199, 3) := by decide +kernel
theorem dX11_hasIn_57 : decode cX11_hasIn 57 = .ok (.iinc 3 1, 3) := by decide +kernel
theorem dX11_hasIn_60 : decode cX11_hasIn 60 = .ok (.goto (-31), 3) := by decide +kernel
theorem dX11_hasIn_63 : decode cX11_hasIn 63 = .ok (.iconst (-1), 1) := by decide +kernel
theorem dX11_hasIn_64 : decode cX11_hasIn 64 = .ok (.ireturn, 1) := by decide +kernel
theorem dX11_fullest_0 : decode cX11_fullest 0 = .ok (.aload_n 0, 1) := by decide +kernel
theorem dX11_fullest_1 : decode cX11_fullest 1 = .ok (.getfield 54, 3) := by decide +kernel
theorem dX11_fullest_4 : decode cX11_fullest 4 = .ok (.aload_n 0, 1) := by decide +kernel
theorem dX11_fullest_5 : decode cX11_fullest 5 = .ok (.getfield 49, 3) := by decide +kernel
theorem dX11_fullest_8 : decode cX11_fullest 8 = .ok (.getfield 122, 3) := by decide +kernel
theorem dX11_fullest_11 : decode cX11_fullest 11 = .ok (.invokevirtual 212, 3) := by decide +kernel
theorem dX11_fullest_14 : decode cX11_fullest 14 = .ok (.iconst 0, 1) := by decide +kernel
theorem dX11_fullest_15 : decode cX11_fullest 15 = .ok (.istore_n 1, 1) := by decide +kernel
theorem dX11_fullest_16 : decode cX11_fullest 16 = .ok (.iconst (-1), 1) := by decide +kernel
theorem dX11_fullest_17 : decode cX11_fullest 17 = .ok (.istore_n 2, 1) := by decide +kernel
theorem dX11_fullest_18 : decode cX11_fullest 18 = .ok (.iconst 0, 1) := by decide +kernel
theorem dX11_fullest_19 : decode cX11_fullest 19 = .ok (.istore_n 3, 1) := by decide +kernel
theorem dX11_fullest_20 : decode cX11_fullest 20 = .ok (.iload_n 3, 1) := by decide +kernel
theorem dX11_fullest_21 : decode cX11_fullest 21 = .ok (.sipush 200, 3) := by decide +kernel
theorem dX11_fullest_24 : decode cX11_fullest 24 = .ok (.if_icmp .gt 36, 3) := by decide +kernel
theorem dX11_fullest_27 : decode cX11_fullest 27 = .ok (.aload_n 0, 1) := by decide +kernel
theorem dX11_fullest_28 : decode cX11_fullest 28 = .ok (.getfield 54, 3) := by decide +kernel
theorem dX11_fullest_31 : decode cX11_fullest 31 = .ok (.invokevirtual 169, 3) := by decide +kernel
theorem dX11_fullest_34 : decode cX11_fullest 34 = .ok (.istore 4, 2) := by decide +kernel
theorem dX11_fullest_36 : decode cX11_fullest 36 = .ok (.iload 4, 2) := by decide +kernel
theorem dX11_fullest_38 : decode cX11_fullest 38 = .ok (.iload_n 2, 1) := by decide +kernel
theorem dX11_fullest_39 : decode cX11_fullest 39 = .ok (.if_icmp .le 8, 3) := by decide +kernel
theorem dX11_fullest_42 : decode cX11_fullest 42 = .ok (.iload 4, 2) := by decide +kernel
theorem dX11_fullest_44 : decode cX11_fullest 44 = .ok (.istore_n 2, 1) := by decide +kernel
theorem dX11_fullest_45 : decode cX11_fullest 45 = .ok (.iload_n 3, 1) := by decide +kernel
theorem dX11_fullest_46 : decode cX11_fullest 46 = .ok (.istore_n 1, 1) := by decide +kernel
theorem dX11_fullest_47 : decode cX11_fullest 47 = .ok (.aload_n 0, 1) := by decide +kernel
theorem dX11_fullest_48 : decode cX11_fullest 48 = .ok (.getfield 54, 3) := by decide +kernel
theorem dX11_fullest_51 : decode cX11_fullest 51 = .ok (.invokevirtual 199, 3) := by decide +kernel
theorem dX11_fullest_54 : decode cX11_fullest 54 = .ok (.iinc 3 1, 3) := by decide +kernel
theorem dX11_fullest_57 : decode cX11_fullest 57 = .ok (.goto (-37), 3) := by decide +kernel
theorem dX11_fullest_60 : decode cX11_fullest 60 = .ok (.iload_n 1, 1) := by decide +kernel
theorem dX11_fullest_61 : decode cX11_fullest 61 = .ok (.ireturn, 1) := by decide +kernel
theorem dX11_level_0 : decode cX11_level 0 = .ok (.aload_n 0, 1) := by decide +kernel
theorem dX11_level_1 : decode cX11_level 1 = .ok (.iload_n 1, 1) := by decide +kernel
theorem dX11_level_2 : decode cX11_level 2 = .ok (.invokevirtual 119, 3) := by decide +kernel
theorem dX11_level_5 : decode cX11_level 5 = .ok (.aload_n 0, 1) := by decide +kernel
theorem dX11_level_6 : decode cX11_level 6 = .ok (.iload_n 2, 1) := by decide +kernel
theorem dX11_level_7 : decode cX11_level 7 = .ok (.invokevirtual 119, 3) := by decide +kernel
theorem dX11_level_10 : decode cX11_level 10 = .ok (.iload_n 1, 1) := by decide +kernel
theorem dX11_level_11 : decode cX11_level 11 = .ok (.iload_n 2, 1) := by decide +kernel
theorem dX11_level_12 : decode cX11_level 12 = .ok (.invokestatic 283, 3) := by decide +kernel
theorem dX11_level_15 : decode cX11_level 15 = .ok (.aload_n 0, 1) := by decide +kernel
theorem dX11_level_16 : decode cX11_level 16 = .ok (.iload_n 1, 1) := by decide +kernel
theorem dX11_level_17 : decode cX11_level 17 = .ok (.iload_n 2, 1) := by decide +kernel
theorem dX11_level_18 : decode cX11_level 18 = .ok (.invokevirtual 343, 3) := by decide +kernel
theorem dX11_level_21 : decode cX11_level 21 = .ok (.aload_n 0, 1) := by decide +kernel
theorem dX11_level_22 : decode cX11_level 22 = .ok (.getfield 54, 3) := by decide +kernel
theorem dX11_level_25 : decode cX11_level 25 = .ok (.aload_n 0, 1) := by decide +kernel
theorem dX11_level_26 : decode cX11_level 26 = .ok (.getfield 49, 3) := by decide +kernel
theorem dX11_level_29 : decode cX11_level 29 = .ok (.getfield 122, 3) := by decide +kernel
theorem dX11_level_32 : decode cX11_level 32 = .ok (.invokevirtual 212, 3) := by decide +kernel
theorem dX11_level_35 : decode cX11_level 35 = .ok (.iconst 0, 1) := by decide +kernel
theorem dX11_level_36 : decode cX11_level 36 = .ok (.istore_n 3, 1) := by decide +kernel
theorem dX11_level_37 : decode cX11_level 37 = .ok (.iload_n 3, 1) := by decide +kernel
theorem dX11_level_38 : decode cX11_level 38 = .ok (.sipush 200, 3) := by decide +kernel
theorem dX11_level_41 : decode cX11_level 41 = .ok (.if_icmp .gt 37, 3) := by decide +kernel
theorem dX11_level_44 : decode cX11_level 44 = .ok (.aload_n 0, 1) := by decide +kernel
theorem dX11_level_45 : decode cX11_level 45 = .ok (.getfield 54, 3) := by decide +kernel
theorem dX11_level_48 : decode cX11_level 48 = .ok (.iload_n 1, 1) := by decide +kernel
theorem dX11_level_49 : decode cX11_level 49 = .ok (.invokevirtual 141, 3) := by decide +kernel
theorem dX11_level_52 : decode cX11_level 52 = .ok (.aload_n 0, 1) := by decide +kernel
theorem dX11_level_53 : decode cX11_level 53 = .ok (.getfield 54, 3) := by decide +kernel
theorem dX11_level_56 : decode cX11_level 56 = .ok (.iload_n 2, 1) := by decide +kernel
theorem dX11_level_57 : decode cX11_level 57 = .ok (.invokevirtual 141, 3) := by decide +kernel
theorem dX11_level_60 : decode cX11_level 60 = .ok (.if_icmp .ne 5, 3) := by decide +kernel
theorem dX11_level_63 : decode cX11_level 63 = .ok (.iload_n 3, 1) := by decide +kernel
theorem dX11_level_64 : decode cX11_level 64 = .ok (.ireturn, 1) := by decide +kernel
theorem dX11_level_65 : decode cX11_level 65 = .ok (.aload_n 0, 1) := by decide +kernel
theorem dX11_level_66 : decode cX11_level 66 = .ok (.getfield 54, 3) := by decide +kernel
theorem dX11_level_69 : decode cX11_level 69 = .ok (.invokevirtual 199, 3) := by decide +kernel
theorem dX11_level_72 : decode cX11_level 72 = .ok (.iinc 3 1, 3) := by decide +kernel
theorem dX11_level_75 : decode cX11_level 75 = .ok (.goto (-38), 3) := by decide +kernel
theorem dX11_level_78 : decode cX11_level 78 = .ok (.iconst (-1), 1) := by decide +kernel
theorem dX11_level_79 : decode cX11_level 79 = .ok (.ireturn, 1) := by decide +kernel
theorem dX11_seen_0 : decode cX11_seen 0 = .ok (.aload_n 0, 1) := by decide +kernel
theorem dX11_seen_1 : decode cX11_seen 1 = .ok (.getfield 31, 3) := by decide +kernel
theorem dX11_seen_4 : decode cX11_seen 4 = .ok (.aload_n 0, 1) := by decide +kernel
theorem dX11_seen_5 : decode cX11_seen 5 = .ok (.iload_n 1, 1) := by decide +kernel
theorem dX11_seen_6 : decode cX11_seen 6 = .ok (.invokevirtual 346, 3) := by decide +kernel
theorem dX11_seen_9 : decode cX11_seen 9 = .ok (.invokevirtual 349, 3) := by decide +kernel
theorem dX11_seen_12 : decode cX11_seen 12 = .ok (.aload_n 0, 1) := by decide +kernel
theorem dX11_seen_13 : decode cX11_seen 13 = .ok (.getfield 31, 3) := by decide +kernel
theorem dX11_seen_16 : decode cX11_seen 16 = .ok (.invokevirtual 353, 3) := by decide +kernel
theorem dX11_seen_19 : decode cX11_seen 19 = .ok (.ireturn, 1) := by decide +kernel
theorem dX11_roundAt_0 : decode cX11_roundAt 0 = .ok (.aload_n 0, 1) := by decide +kernel
theorem dX11_roundAt_1 : decode cX11_roundAt 1 = .ok (.iload_n 1, 1) := by decide +kernel
theorem dX11_roundAt_2 : decode cX11_roundAt 2 = .ok (.invokevirtual 346, 3) := by decide +kernel
theorem dX11_roundAt_5 : decode cX11_roundAt 5 = .ok (.astore_n 3, 1) := by decide +kernel
theorem dX11_roundAt_6 : decode cX11_roundAt 6 = .ok (.iload_n 2, 1) := by decide +kernel
theorem dX11_roundAt_7 : decode cX11_roundAt 7 = .ok (.iconst 0, 1) := by decide +kernel
theorem dX11_roundAt_8 : decode cX11_roundAt 8 = .ok (.ldc_w 342, 3) := by decide +kernel
theorem dX11_roundAt_11 : decode cX11_roundAt 11 = .ok (.invokestatic 95, 3) := by decide +kernel
theorem dX11_roundAt_14 : decode cX11_roundAt 14 = .ok (.aload_n 0, 1) := by decide +kernel
theorem dX11_roundAt_15 : decode cX11_roundAt 15 = .ok (.getfield 31, 3) := by decide +kernel
theorem dX11_roundAt_18 : decode cX11_roundAt 18 = .ok (.aload_n 3, 1) := by decide +kernel
theorem dX11_roundAt_19 : decode cX11_roundAt 19 = .ok (.invokevirtual 349, 3) := by decide +kernel
theorem dX11_roundAt_22 : decode cX11_roundAt 22 = .ok (.aload_n 0, 1) := by decide +kernel
theorem dX11_roundAt_23 : decode cX11_roundAt 23 = .ok (.getfield 31, 3) := by decide +kernel
theorem dX11_roundAt_26 : decode cX11_roundAt 26 = .ok (.iload_n 2, 1) := by decide +kernel
theorem dX11_roundAt_27 : decode cX11_roundAt 27 = .ok (.invokevirtual 356, 3) := by decide +kernel
theorem dX11_roundAt_30 : decode cX11_roundAt 30 = .ok (.ireturn, 1) := by decide +kernel
theorem dX11_listen_0 : decode cX11_listen 0 = .ok (.aload_n 0, 1) := by decide +kernel
theorem dX11_listen_1 : decode cX11_listen 1 = .ok (.getfield 31, 3) := by decide +kernel
theorem dX11_listen_4 : decode cX11_listen 4 = .ok (.aload_n 0, 1) := by decide +kernel
theorem dX11_listen_5 : decode cX11_listen 5 = .ok (.iload_n 1, 1) := by decide +kernel
theorem dX11_listen_6 : decode cX11_listen 6 = .ok (.invokevirtual 346, 3) := by decide +kernel
theorem dX11_listen_9 : decode cX11_listen 9 = .ok (.invokevirtual 349, 3) := by decide +kernel
theorem dX11_listen_12 : decode cX11_listen 12 = .ok (.aload_n 0, 1) := by decide +kernel
theorem dX11_listen_13 : decode cX11_listen 13 = .ok (.getfield 31, 3) := by decide +kernel
theorem dX11_listen_16 : decode cX11_listen 16 = .ok (.invokevirtual 359, 3) := by decide +kernel
theorem dX11_listen_19 : decode cX11_listen 19 = .ok (.ireturn, 1) := by decide +kernel
theorem dX11_whose_0 : decode cX11_whose 0 = .ok (.aload_n 0, 1) := by decide +kernel
theorem dX11_whose_1 : decode cX11_whose 1 = .ok (.getfield 31, 3) := by decide +kernel
theorem dX11_whose_4 : decode cX11_whose 4 = .ok (.aload_n 0, 1) := by decide +kernel
theorem dX11_whose_5 : decode cX11_whose 5 = .ok (.iload_n 1, 1) := by decide +kernel
theorem dX11_whose_6 : decode cX11_whose 6 = .ok (.invokevirtual 346, 3) := by decide +kernel
theorem dX11_whose_9 : decode cX11_whose 9 = .ok (.invokevirtual 349, 3) := by decide +kernel
theorem dX11_whose_12 : decode cX11_whose 12 = .ok (.aload_n 0, 1) := by decide +kernel
theorem dX11_whose_13 : decode cX11_whose 13 = .ok (.getfield 49, 3) := by decide +kernel
theorem dX11_whose_16 : decode cX11_whose 16 = .ok (.getfield 122, 3) := by decide +kernel
theorem dX11_whose_19 : decode cX11_whose 19 = .ok (.astore_n 2, 1) := by decide +kernel
theorem dX11_whose_20 : decode cX11_whose 20 = .ok (.iconst 0, 1) := by decide +kernel
theorem dX11_whose_21 : decode cX11_whose 21 = .ok (.istore_n 3, 1) := by decide +kernel
theorem dX11_whose_22 : decode cX11_whose 22 = .ok (.iconst 0, 1) := by decide +kernel
theorem dX11_whose_23 : decode cX11_whose 23 = .ok (.istore 4, 2) := by decide +kernel
theorem dX11_whose_25 : decode cX11_whose 25 = .ok (.iload 4, 2) := by decide +kernel
theorem dX11_whose_27 : decode cX11_whose 27 = .ok (.aload_n 2, 1) := by decide +kernel
theorem dX11_whose_28 : decode cX11_whose 28 = .ok (.getfield 125, 3) := by decide +kernel
theorem dX11_whose_31 : decode cX11_whose 31 = .ok (.getfield 238, 3) := by decide +kernel
theorem dX11_whose_34 : decode cX11_whose 34 = .ok (.if_icmp .ge 50, 3) := by decide +kernel
theorem dX11_whose_37 : decode cX11_whose 37 = .ok (.aload_n 0, 1) := by decide +kernel
theorem dX11_whose_38 : decode cX11_whose 38 = .ok (.getfield 31, 3) := by decide +kernel
theorem dX11_whose_41 : decode cX11_whose 41 = .ok (.aload_n 2, 1) := by decide +kernel
theorem dX11_whose_42 : decode cX11_whose 42 = .ok (.getfield 125, 3) := by decide +kernel
theorem dX11_whose_45 : decode cX11_whose 45 = .ok (.iload 4, 2) := by decide +kernel
theorem dX11_whose_47 : decode cX11_whose 47 = .ok (.invokevirtual 128, 3) := by decide +kernel
theorem dX11_whose_50 : decode cX11_whose 50 = .ok (.aload_n 2, 1) := by decide +kernel
theorem dX11_whose_51 : decode cX11_whose 51 = .ok (.getfield 125, 3) := by decide +kernel
theorem dX11_whose_54 : decode cX11_whose 54 = .ok (.iload 4, 2) := by decide +kernel
theorem dX11_whose_56 : decode cX11_whose 56 = .ok (.invokevirtual 132, 3) := by decide +kernel
theorem dX11_whose_59 : decode cX11_whose 59 = .ok (.aload_n 2, 1) := by decide +kernel
theorem dX11_whose_60 : decode cX11_whose 60 = .ok (.iload 4, 2) := by decide +kernel
theorem dX11_whose_62 : decode cX11_whose 62 = .ok (.invokevirtual 144, 3) := by decide +kernel
theorem dX11_whose_65 : decode cX11_whose 65 = .ok (.invokevirtual 362, 3) := by decide +kernel
theorem dX11_whose_68 : decode cX11_whose 68 = .ok (.ifCond .eq 10, 3) := by decide +kernel
theorem dX11_whose_71 : decode cX11_whose 71 = .ok (.iload_n 3, 1) := by decide +kernel
theorem dX11_whose_72 : decode cX11_whose 72 = .ok (.iconst 1, 1) := by decide +kernel
theorem dX11_whose_73 : decode cX11_whose 73 = .ok (.iload 4, 2) := by decide +kernel
theorem dX11_whose_75 : decode cX11_whose 75 = .ok (.ishl, 1) := by decide +kernel
theorem dX11_whose_76 : decode cX11_whose 76 = .ok (.ior, 1) := by decide +kernel
theorem dX11_whose_77 : decode cX11_whose 77 = .ok (.istore_n 3, 1) := by decide +kernel
theorem dX11_whose_78 : decode cX11_whose 78 = .ok (.iinc 4 1, 3) := by decide +kernel
theorem dX11_whose_81 : decode cX11_whose 81 = .ok (.goto (-56), 3) := by decide +kernel
theorem dX11_whose_84 : decode cX11_whose 84 = .ok (.iload_n 3, 1) := by decide +kernel
theorem dX11_whose_85 : decode cX11_whose 85 = .ok (.ireturn, 1) := by decide +kernel
theorem dX11_tray_0 : decode cX11_tray 0 = .ok (.aload_n 0, 1) := by decide +kernel
theorem dX11_tray_1 : decode cX11_tray 1 = .ok (.iload_n 1, 1) := by decide +kernel
theorem dX11_tray_2 : decode cX11_tray 2 = .ok (.invokevirtual 366, 3) := by decide +kernel
theorem dX11_tray_5 : decode cX11_tray 5 = .ok (.astore 4, 2) := by decide +kernel
theorem dX11_tray_7 : decode cX11_tray 7 = .ok (.iload_n 2, 1) := by decide +kernel
theorem dX11_tray_8 : decode cX11_tray 8 = .ok (.iconst 0, 1) := by decide +kernel
theorem dX11_tray_9 : decode cX11_tray 9 = .ok (.iconst 3, 1) := by decide +kernel
theorem dX11_tray_10 : decode cX11_tray 10 = .ok (.invokestatic 95, 3) := by decide +kernel
theorem dX11_tray_13 : decode cX11_tray 13 = .ok (.iload_n 3, 1) := by decide +kernel
theorem dX11_tray_14 : decode cX11_tray 14 = .ok (.iconst 0, 1) := by decide +kernel
theorem dX11_tray_15 : decode cX11_tray 15 = .ok (.bipush 30, 2) := by decide +kernel
theorem dX11_tray_17 : decode cX11_tray 17 = .ok (.invokestatic 95, 3) := by decide +kernel
theorem dX11_tray_20 : decode cX11_tray 20 = .ok (.aload 4, 2) := by decide +kernel
theorem dX11_tray_22 : decode cX11_tray 22 = .ok (.iload_n 2, 1) := by decide +kernel
theorem dX11_tray_23 : decode cX11_tray 23 = .ok (.iload_n 3, 1) := by decide +kernel
theorem dX11_tray_24 : decode cX11_tray 24 = .ok (.invokevirtual 369, 3) := by decide +kernel
theorem dX11_tray_27 : decode cX11_tray 27 = .ok (.return_, 1) := by decide +kernel
theorem dX11_write_0 : decode cX11_write 0 = .ok (.aload_n 0, 1) := by decide +kernel
theorem dX11_write_1 : decode cX11_write 1 = .ok (.iload_n 1, 1) := by decide +kernel
theorem dX11_write_2 : decode cX11_write 2 = .ok (.invokevirtual 208, 3) := by decide +kernel
theorem dX11_write_5 : decode cX11_write 5 = .ok (.astore 5, 2) := by decide +kernel
theorem dX11_write_7 : decode cX11_write 7 = .ok (.iload_n 2, 1) := by decide +kernel
theorem dX11_write_8 : decode cX11_write 8 = .ok (.ifCond .lt 12, 3) := by decide +kernel
theorem dX11_write_11 : decode cX11_write 11 = .ok (.iload_n 2, 1) := by decide +kernel
theorem dX11_write_12 : decode cX11_write 12 = .ok (.aload 5, 2) := by decide +kernel
theorem dX11_write_14 : decode cX11_write 14 = .ok (.getfield 215, 3) := by decide +kernel
theorem dX11_write_17 : decode cX11_write 17 = .ok (.if_icmp .lt 14, 3) := by decide +kernel
theorem dX11_write_20 : decode cX11_write 20 = .ok (.new 372, 3) := by decide +kernel
theorem dX11_write_23 : decode cX11_write 23 = .ok (.dup, 1) := by decide +kernel
theorem dX11_write_24 : decode cX11_write 24 = .ok (.ldc_w 374, 3) := by decide +kernel
theorem dX11_write_27 : decode cX11_write 27 = .ok (.invokespecial 376, 3) := by decide +kernel
theorem dX11_write_30 : decode cX11_write 30 = .ok (.athrow, 1) := by decide +kernel
theorem dX11_write_31 : decode cX11_write 31 = .ok (.aload 5, 2) := by decide +kernel
theorem dX11_write_33 : decode cX11_write 33 = .ok (.iload_n 2, 1) := by decide +kernel
theorem dX11_write_34 : decode cX11_write 34 = .ok (.lload_n 3, 1) := by decide +kernel
theorem dX11_write_35 : decode cX11_write 35 = .ok (.invokevirtual 379, 3) := by decide +kernel
theorem dX11_write_38 : decode cX11_write 38 = .ok (.aload 5, 2) := by decide +kernel
theorem dX11_write_40 : decode cX11_write 40 = .ok (.iload_n 2, 1) := by decide +kernel
theorem dX11_write_41 : decode cX11_write 41 = .ok (.invokevirtual 218, 3) := by decide +kernel
theorem dX11_write_44 : decode cX11_write 44 = .ok (.lreturn, 1) := by decide +kernel
theorem dX11_copy_0 : decode cX11_copy 0 = .ok (.aload_n 0, 1) := by decide +kernel
theorem dX11_copy_1 : decode cX11_copy 1 = .ok (.iload_n 1, 1) := by decide +kernel
theorem dX11_copy_2 : decode cX11_copy 2 = .ok (.invokevirtual 366, 3) := by decide +kernel
theorem dX11_copy_5 : decode cX11_copy 5 = .ok (.pop, 1) := by decide +kernel
theorem dX11_copy_6 : decode cX11_copy 6 = .ok (.aload_n 0, 1) := by decide +kernel
theorem dX11_copy_7 : decode cX11_copy 7 = .ok (.iload_n 2, 1) := by decide +kernel
theorem dX11_copy_8 : decode cX11_copy 8 = .ok (.invokevirtual 119, 3) := by decide +kernel
theorem dX11_copy_11 : decode cX11_copy 11 = .ok (.aload_n 0, 1) := by decide +kernel
theorem dX11_copy_12 : decode cX11_copy 12 = .ok (.iload_n 1, 1) := by decide +kernel
theorem dX11_copy_13 : decode cX11_copy 13 = .ok (.invokevirtual 208, 3) := by decide +kernel
theorem dX11_copy_16 : decode cX11_copy 16 = .ok (.astore_n 3, 1) := by decide +kernel
theorem dX11_copy_17 : decode cX11_copy 17 = .ok (.iconst 0, 1) := by decide +kernel
theorem dX11_copy_18 : decode cX11_copy 18 = .ok (.istore 4, 2) := by decide +kernel
theorem dX11_copy_20 : decode cX11_copy 20 = .ok (.iload 4, 2) := by decide +kernel
theorem dX11_copy_22 : decode cX11_copy 22 = .ok (.aload_n 3, 1) := by decide +kernel
theorem dX11_copy_23 : decode cX11_copy 23 = .ok (.getfield 215, 3) := by decide +kernel
theorem dX11_copy_26 : decode cX11_copy 26 = .ok (.if_icmp .ge 36, 3) := by decide +kernel
theorem dX11_copy_29 : decode cX11_copy 29 = .ok (.aload_n 3, 1) := by decide +kernel
theorem dX11_copy_30 : decode cX11_copy 30 = .ok (.iload 4, 2) := by decide +kernel
theorem dX11_copy_32 : decode cX11_copy 32 = .ok (.aload_n 0, 1) := by decide +kernel
theorem dX11_copy_33 : decode cX11_copy 33 = .ok (.getfield 49, 3) := by decide +kernel
theorem dX11_copy_36 : decode cX11_copy 36 = .ok (.getfield 122, 3) := by decide +kernel
theorem dX11_copy_39 : decode cX11_copy 39 = .ok (.iload_n 2, 1) := by decide +kernel
theorem dX11_copy_40 : decode cX11_copy 40 = .ok (.iload 4, 2) := by decide +kernel
theorem dX11_copy_42 : decode cX11_copy 42 = .ok (.invokevirtual 383, 3) := by decide +kernel
theorem dX11_copy_45 : decode cX11_copy 45 = .ok (.ifCond .eq 7, 3) := by decide +kernel
theorem dX11_copy_48 : decode cX11_copy 48 = .ok (.lconst 1, 1) := by decide +kernel
theorem dX11_copy_49 : decode cX11_copy 49 = .ok (.goto 4, 3) := by decide +kernel
theorem dX11_copy_52 : decode cX11_copy 52 = .ok (.lconst 0, 1) := by decide +kernel
theorem dX11_copy_53 : decode cX11_copy 53 = .ok (.invokevirtual 379, 3) := by decide +kernel
theorem dX11_copy_56 : decode cX11_copy 56 = .ok (.iinc 4 1, 3) := by decide +kernel
theorem dX11_copy_59 : decode cX11_copy 59 = .ok (.goto (-39), 3) := by decide +kernel
theorem dX11_copy_62 : decode cX11_copy 62 = .ok (.aload_n 3, 1) := by decide +kernel
theorem dX11_copy_63 : decode cX11_copy 63 = .ok (.getfield 215, 3) := by decide +kernel
theorem dX11_copy_66 : decode cX11_copy 66 = .ok (.ireturn, 1) := by decide +kernel
theorem dX11_image_0 : decode cX11_image 0 = .ok (.aload_n 0, 1) := by decide +kernel
theorem dX11_image_1 : decode cX11_image 1 = .ok (.iload_n 1, 1) := by decide +kernel
theorem dX11_image_2 : decode cX11_image 2 = .ok (.invokevirtual 386, 3) := by decide +kernel
theorem dX11_image_5 : decode cX11_image 5 = .ok (.astore_n 2, 1) := by decide +kernel
theorem dX11_image_6 : decode cX11_image 6 = .ok (.aload_n 2, 1) := by decide +kernel
theorem dX11_image_7 : decode cX11_image 7 = .ok (.aload_n 0, 1) := by decide +kernel
theorem dX11_image_8 : decode cX11_image 8 = .ok (.getfield 49, 3) := by decide +kernel
theorem dX11_image_11 : decode cX11_image 11 = .ok (.invokevirtual 390, 3) := by decide +kernel
theorem dX11_image_14 : decode cX11_image 14 = .ok (.aload_n 2, 1) := by decide +kernel
theorem dX11_image_15 : decode cX11_image 15 = .ok (.iconst 1, 1) := by decide +kernel
theorem dX11_image_16 : decode cX11_image 16 = .ok (.putfield 393, 3) := by decide +kernel
theorem dX11_image_19 : decode cX11_image 19 = .ok (.return_, 1) := by decide +kernel
theorem dX11_restore_0 : decode cX11_restore 0 = .ok (.aload_n 0, 1) := by decide +kernel
theorem dX11_restore_1 : decode cX11_restore 1 = .ok (.iload_n 1, 1) := by decide +kernel
theorem dX11_restore_2 : decode cX11_restore 2 = .ok (.invokevirtual 386, 3) := by decide +kernel
theorem dX11_restore_5 : decode cX11_restore 5 = .ok (.astore_n 2, 1) := by decide +kernel
theorem dX11_restore_6 : decode cX11_restore 6 = .ok (.aload_n 2, 1) := by decide +kernel
theorem dX11_restore_7 : decode cX11_restore 7 = .ok (.getfield 393, 3) := by decide +kernel
theorem dX11_restore_10 : decode cX11_restore 10 = .ok (.ifCond .ne 14, 3) := by decide +kernel
theorem dX11_restore_13 : decode cX11_restore 13 = .ok (.new 397, 3) := by decide +kernel
theorem dX11_restore_16 : decode cX11_restore 16 = .ok (.dup, 1) := by decide +kernel
theorem dX11_restore_17 : decode cX11_restore 17 = .ok (.ldc_w 399, 3) := by decide +kernel
theorem dX11_restore_20 : decode cX11_restore 20 = .ok (.invokespecial 401, 3) := by decide +kernel
theorem dX11_restore_23 : decode cX11_restore 23 = .ok (.athrow, 1) := by decide +kernel
theorem dX11_restore_24 : decode cX11_restore 24 = .ok (.aload_n 0, 1) := by decide +kernel
theorem dX11_restore_25 : decode cX11_restore 25 = .ok (.getfield 49, 3) := by decide +kernel
theorem dX11_restore_28 : decode cX11_restore 28 = .ok (.aload_n 2, 1) := by decide +kernel
theorem dX11_restore_29 : decode cX11_restore 29 = .ok (.invokevirtual 390, 3) := by decide +kernel
theorem dX11_restore_32 : decode cX11_restore 32 = .ok (.return_, 1) := by decide +kernel
theorem dX11_count_0 : decode cX11_count 0 = .ok (.aload_n 0, 1) := by decide +kernel
theorem dX11_count_1 : decode cX11_count 1 = .ok (.getfield 49, 3) := by decide +kernel
theorem dX11_count_4 : decode cX11_count 4 = .ok (.getfield 122, 3) := by decide +kernel
theorem dX11_count_7 : decode cX11_count 7 = .ok (.astore_n 2, 1) := by decide +kernel
theorem dX11_count_8 : decode cX11_count 8 = .ok (.iload_n 1, 1) := by decide +kernel
theorem dX11_count_9 : decode cX11_count 9 = .ok (.tableswitch 141 0 9 #[55, 63, 71, 79, 84, 92, 100, 108, 116, 124], 55) := by decide +kernel
theorem dX11_count_64 : decode cX11_count 64 = .ok (.aload_n 2, 1) := by decide +kernel
theorem dX11_count_65 : decode cX11_count 65 = .ok (.getfield 125, 3) := by decide +kernel
theorem dX11_count_68 : decode cX11_count 68 = .ok (.getfield 113, 3) := by decide +kernel
theorem dX11_count_71 : decode cX11_count 71 = .ok (.ireturn, 1) := by decide +kernel
theorem dX11_count_72 : decode cX11_count 72 = .ok (.aload_n 2, 1) := by decide +kernel
theorem dX11_count_73 : decode cX11_count 73 = .ok (.getfield 125, 3) := by decide +kernel
theorem dX11_count_76 : decode cX11_count 76 = .ok (.getfield 238, 3) := by decide +kernel
theorem dX11_count_79 : decode cX11_count 79 = .ok (.ireturn, 1) := by decide +kernel
theorem dX11_count_80 : decode cX11_count 80 = .ok (.aload_n 2, 1) := by decide +kernel
theorem dX11_count_81 : decode cX11_count 81 = .ok (.getfield 125, 3) := by decide +kernel
theorem dX11_count_84 : decode cX11_count 84 = .ok (.getfield 339, 3) := by decide +kernel
theorem dX11_count_87 : decode cX11_count 87 = .ok (.ireturn, 1) := by decide +kernel
theorem dX11_count_88 : decode cX11_count 88 = .ok (.aload_n 2, 1) := by decide +kernel
theorem dX11_count_89 : decode cX11_count 89 = .ok (.getfield 402, 3) := by decide +kernel
theorem dX11_count_92 : decode cX11_count 92 = .ok (.ireturn, 1) := by decide +kernel
theorem dX11_count_93 : decode cX11_count 93 = .ok (.aload_n 2, 1) := by decide +kernel
theorem dX11_count_94 : decode cX11_count 94 = .ok (.invokevirtual 165, 3) := by decide +kernel
theorem dX11_count_97 : decode cX11_count 97 = .ok (.invokestatic 257, 3) := by decide +kernel
theorem dX11_count_100 : decode cX11_count 100 = .ok (.ireturn, 1) := by decide +kernel
theorem dX11_count_101 : decode cX11_count 101 = .ok (.aload_n 2, 1) := by decide +kernel
theorem dX11_count_102 : decode cX11_count 102 = .ok (.getfield 405, 3) := by decide +kernel
theorem dX11_count_105 : decode cX11_count 105 = .ok (.invokestatic 257, 3) := by decide +kernel
theorem dX11_count_108 : decode cX11_count 108 = .ok (.ireturn, 1) := by decide +kernel
theorem dX11_count_109 : decode cX11_count 109 = .ok (.aload_n 2, 1) := by decide +kernel
theorem dX11_count_110 : decode cX11_count 110 = .ok (.getfield 125, 3) := by decide +kernel
theorem dX11_count_113 : decode cX11_count 113 = .ok (.invokevirtual 408, 3) := by decide +kernel
theorem dX11_count_116 : decode cX11_count 116 = .ok (.ireturn, 1) := by decide +kernel
theorem dX11_count_117 : decode cX11_count 117 = .ok (.aload_n 0, 1) := by decide +kernel
theorem dX11_count_118 : decode cX11_count 118 = .ok (.getfield 49, 3) := by decide +kernel
theorem dX11_count_121 : decode cX11_count 121 = .ok (.getfield 202, 3) := by decide +kernel
theorem dX11_count_124 : decode cX11_count 124 = .ok (.ireturn, 1) := by decide +kernel
theorem dX11_count_125 : decode cX11_count 125 = .ok (.aload_n 0, 1) := by decide +kernel
theorem dX11_count_126 : decode cX11_count 126 = .ok (.getfield 61, 3) := by decide +kernel
theorem dX11_count_129 : decode cX11_count 129 = .ok (.getfield 87, 3) := by decide +kernel
theorem dX11_count_132 : decode cX11_count 132 = .ok (.ireturn, 1) := by decide +kernel
theorem dX11_count_133 : decode cX11_count 133 = .ok (.aload_n 2, 1) := by decide +kernel
theorem dX11_count_134 : decode cX11_count 134 = .ok (.getfield 125, 3) := by decide +kernel
theorem dX11_count_137 : decode cX11_count 137 = .ok (.getfield 411, 3) := by decide +kernel
theorem dX11_count_140 : decode cX11_count 140 = .ok (.arraylength, 1) := by decide +kernel
theorem dX11_count_141 : decode cX11_count 141 = .ok (.ifCond .le 7, 3) := by decide +kernel
theorem dX11_count_144 : decode cX11_count 144 = .ok (.iconst 1, 1) := by decide +kernel
theorem dX11_count_145 : decode cX11_count 145 = .ok (.goto 4, 3) := by decide +kernel
theorem dX11_count_148 : decode cX11_count 148 = .ok (.iconst 0, 1) := by decide +kernel
theorem dX11_count_149 : decode cX11_count 149 = .ok (.ireturn, 1) := by decide +kernel
theorem dX11_count_150 : decode cX11_count 150 = .ok (.iconst (-1), 1) := by decide +kernel
theorem dX11_count_151 : decode cX11_count 151 = .ok (.ireturn, 1) := by decide +kernel
theorem dX11_carryOutIfCan_0 : decode cX11_carryOutIfCan 0 = .ok (.aload_n 0, 1) := by decide +kernel
theorem dX11_carryOutIfCan_1 : decode cX11_carryOutIfCan 1 = .ok (.getfield 49, 3) := by decide +kernel
theorem dX11_carryOutIfCan_4 : decode cX11_carryOutIfCan 4 = .ok (.getfield 122, 3) := by decide +kernel
theorem dX11_carryOutIfCan_7 : decode cX11_carryOutIfCan 7 = .ok (.lload_n 1, 1) := by decide +kernel
theorem dX11_carryOutIfCan_8 : decode cX11_carryOutIfCan 8 = .ok (.invokestatic 222, 3) := by decide +kernel
theorem dX11_carryOutIfCan_11 : decode cX11_carryOutIfCan 11 = .ok (.ifCond .eq 5, 3) := by decide +kernel
theorem dX11_carryOutIfCan_14 : decode cX11_carryOutIfCan 14 = .ok (.iconst 0, 1) := by decide +kernel
theorem dX11_carryOutIfCan_15 : decode cX11_carryOutIfCan 15 = .ok (.ireturn, 1) := by decide +kernel
theorem dX11_carryOutIfCan_16 : decode cX11_carryOutIfCan 16 = .ok (.aload_n 0, 1) := by decide +kernel
theorem dX11_carryOutIfCan_17 : decode cX11_carryOutIfCan 17 = .ok (.getfield 49, 3) := by decide +kernel
theorem dX11_carryOutIfCan_20 : decode cX11_carryOutIfCan 20 = .ok (.invokevirtual 176, 3) := by decide +kernel
theorem dX11_carryOutIfCan_23 : decode cX11_carryOutIfCan 23 = .ok (.aload_n 0, 1) := by decide +kernel
theorem dX11_carryOutIfCan_24 : decode cX11_carryOutIfCan 24 = .ok (.getfield 74, 3) := by decide +kernel
theorem dX11_carryOutIfCan_27 : decode cX11_carryOutIfCan 27 = .ok (.aload_n 0, 1) := by decide +kernel
theorem dX11_carryOutIfCan_28 : decode cX11_carryOutIfCan 28 = .ok (.getfield 49, 3) := by decide +kernel
theorem dX11_carryOutIfCan_31 : decode cX11_carryOutIfCan 31 = .ok (.getfield 122, 3) := by decide +kernel
theorem dX11_carryOutIfCan_34 : decode cX11_carryOutIfCan 34 = .ok (.lload_n 1, 1) := by decide +kernel
theorem dX11_carryOutIfCan_35 : decode cX11_carryOutIfCan 35 = .ok (.invokevirtual 226, 3) := by decide +kernel
theorem dX11_carryOutIfCan_38 : decode cX11_carryOutIfCan 38 = .ok (.iconst 1, 1) := by decide +kernel
theorem dX11_carryOutIfCan_39 : decode cX11_carryOutIfCan 39 = .ok (.ireturn, 1) := by decide +kernel
theorem dX11_lookAhead_0 : decode cX11_lookAhead 0 = .ok (.aload_n 0, 1) := by decide +kernel
theorem dX11_lookAhead_1 : decode cX11_lookAhead 1 = .ok (.getfield 54, 3) := by decide +kernel
theorem dX11_lookAhead_4 : decode cX11_lookAhead 4 = .ok (.aload_n 0, 1) := by decide +kernel
theorem dX11_lookAhead_5 : decode cX11_lookAhead 5 = .ok (.getfield 49, 3) := by decide +kernel
theorem dX11_lookAhead_8 : decode cX11_lookAhead 8 = .ok (.getfield 122, 3) := by decide +kernel
theorem dX11_lookAhead_11 : decode cX11_lookAhead 11 = .ok (.invokevirtual 212, 3) := by decide +kernel
theorem dX11_lookAhead_14 : decode cX11_lookAhead 14 = .ok (.iconst 0, 1) := by decide +kernel
theorem dX11_lookAhead_15 : decode cX11_lookAhead 15 = .ok (.istore_n 2, 1) := by decide +kernel
theorem dX11_lookAhead_16 : decode cX11_lookAhead 16 = .ok (.iload_n 2, 1) := by decide +kernel
theorem dX11_lookAhead_17 : decode cX11_lookAhead 17 = .ok (.iload_n 1, 1) := by decide +kernel
theorem dX11_lookAhead_18 : decode cX11_lookAhead 18 = .ok (.if_icmp .ge 16, 3) := by decide +kernel
theorem dX11_lookAhead_21 : decode cX11_lookAhead 21 = .ok (.aload_n 0, 1) := by decide +kernel
theorem dX11_lookAhead_22 : decode cX11_lookAhead 22 = .ok (.getfield 54, 3) := by decide +kernel
theorem dX11_lookAhead_25 : decode cX11_lookAhead 25 = .ok (.invokevirtual 199, 3) := by decide +kernel
theorem dX11_lookAhead_28 : decode cX11_lookAhead 28 = .ok (.iinc 2 1, 3) := by decide +kernel
theorem dX11_lookAhead_31 : decode cX11_lookAhead 31 = .ok (.goto (-15), 3) := by decide +kernel
theorem dX11_lookAhead_34 : decode cX11_lookAhead 34 = .ok (.return_, 1) := by decide +kernel
theorem dX11_needWell_0 : decode cX11_needWell 0 = .ok (.aload_n 0, 1) := by decide +kernel
theorem dX11_needWell_1 : decode cX11_needWell 1 = .ok (.getfield 49, 3) := by decide +kernel
theorem dX11_needWell_4 : decode cX11_needWell 4 = .ok (.getfield 122, 3) := by decide +kernel
theorem dX11_needWell_7 : decode cX11_needWell 7 = .ok (.getfield 125, 3) := by decide +kernel
theorem dX11_needWell_10 : decode cX11_needWell 10 = .ok (.iload_n 1, 1) := by decide +kernel
theorem dX11_needWell_11 : decode cX11_needWell 11 = .ok (.invokevirtual 415, 3) := by decide +kernel
theorem dX11_needWell_14 : decode cX11_needWell 14 = .ok (.ifCond .ne 14, 3) := by decide +kernel
theorem dX11_needWell_17 : decode cX11_needWell 17 = .ok (.new 418, 3) := by decide +kernel
theorem dX11_needWell_20 : decode cX11_needWell 20 = .ok (.dup, 1) := by decide +kernel
theorem dX11_needWell_21 : decode cX11_needWell 21 = .ok (.ldc_w 420, 3) := by decide +kernel
theorem dX11_needWell_24 : decode cX11_needWell 24 = .ok (.invokespecial 422, 3) := by decide +kernel
theorem dX11_needWell_27 : decode cX11_needWell 27 = .ok (.athrow, 1) := by decide +kernel
theorem dX11_needWell_28 : decode cX11_needWell 28 = .ok (.return_, 1) := by decide +kernel
theorem dX11_needHouse_0 : decode cX11_needHouse 0 = .ok (.aload_n 0, 1) := by decide +kernel
theorem dX11_needHouse_1 : decode cX11_needHouse 1 = .ok (.getfield 49, 3) := by decide +kernel
theorem dX11_needHouse_4 : decode cX11_needHouse 4 = .ok (.getfield 122, 3) := by decide +kernel
theorem dX11_needHouse_7 : decode cX11_needHouse 7 = .ok (.getfield 125, 3) := by decide +kernel
theorem dX11_needHouse_10 : decode cX11_needHouse 10 = .ok (.iload_n 1, 1) := by decide +kernel
theorem dX11_needHouse_11 : decode cX11_needHouse 11 = .ok (.invokevirtual 330, 3) := by decide +kernel
theorem dX11_needHouse_14 : decode cX11_needHouse 14 = .ok (.ifCond .ne 14, 3) := by decide +kernel
theorem dX11_needHouse_17 : decode cX11_needHouse 17 = .ok (.new 418, 3) := by decide +kernel
theorem dX11_needHouse_20 : decode cX11_needHouse 20 = .ok (.dup, 1) := by decide +kernel
theorem dX11_needHouse_21 : decode cX11_needHouse 21 = .ok (.ldc_w 423, 3) := by decide +kernel
theorem dX11_needHouse_24 : decode cX11_needHouse 24 = .ok (.invokespecial 422, 3) := by decide +kernel
theorem dX11_needHouse_27 : decode cX11_needHouse 27 = .ok (.athrow, 1) := by decide +kernel
theorem dX11_needHouse_28 : decode cX11_needHouse 28 = .ok (.return_, 1) := by decide +kernel
theorem dX11_needSet_0 : decode cX11_needSet 0 = .ok (.iload_n 1, 1) := by decide +kernel
theorem dX11_needSet_1 : decode cX11_needSet 1 = .ok (.aload_n 0, 1) := by decide +kernel
theorem dX11_needSet_2 : decode cX11_needSet 2 = .ok (.getfield 49, 3) := by decide +kernel
theorem dX11_needSet_5 : decode cX11_needSet 5 = .ok (.getfield 122, 3) := by decide +kernel
theorem dX11_needSet_8 : decode cX11_needSet 8 = .ok (.getfield 125, 3) := by decide +kernel
theorem dX11_needSet_11 : decode cX11_needSet 11 = .ok (.invokevirtual 244, 3) := by decide +kernel
theorem dX11_needSet_14 : decode cX11_needSet 14 = .ok (.iconst (-1), 1) := by decide +kernel
theorem dX11_needSet_15 : decode cX11_needSet 15 = .ok (.ixor, 1) := by decide +kernel
theorem dX11_needSet_16 : decode cX11_needSet 16 = .ok (.iand, 1) := by decide +kernel
theorem dX11_needSet_17 : decode cX11_needSet 17 = .ok (.ifCond .eq 14, 3) := by decide +kernel
theorem dX11_needSet_20 : decode cX11_needSet 20 = .ok (.new 425, 3) := by decide +kernel
theorem dX11_needSet_23 : decode cX11_needSet 23 = .ok (.dup, 1) := by decide +kernel
theorem dX11_needSet_24 : decode cX11_needSet 24 = .ok (.ldc_w 427, 3) := by decide +kernel
theorem dX11_needSet_27 : decode cX11_needSet 27 = .ok (.invokespecial 429, 3) := by decide +kernel
theorem dX11_needSet_30 : decode cX11_needSet 30 = .ok (.athrow, 1) := by decide +kernel
theorem dX11_needSet_31 : decode cX11_needSet 31 = .ok (.return_, 1) := by decide +kernel
theorem dX11_needBeside_0 : decode cX11_needBeside 0 = .ok (.aload_n 0, 1) := by decide +kernel
theorem dX11_needBeside_1 : decode cX11_needBeside 1 = .ok (.getfield 49, 3) := by decide +kernel
theorem dX11_needBeside_4 : decode cX11_needBeside 4 = .ok (.getfield 122, 3) := by decide +kernel
theorem dX11_needBeside_7 : decode cX11_needBeside 7 = .ok (.getfield 125, 3) := by decide +kernel
theorem dX11_needBeside_10 : decode cX11_needBeside 10 = .ok (.iload_n 1, 1) := by decide +kernel
theorem dX11_needBeside_11 : decode cX11_needBeside 11 = .ok (.invokevirtual 153, 3) := by decide +kernel
theorem dX11_needBeside_14 : decode cX11_needBeside 14 = .ok (.iload_n 2, 1) := by decide +kernel
theorem dX11_needBeside_15 : decode cX11_needBeside 15 = .ok (.invokestatic 293, 3) := by decide +kernel
theorem dX11_needBeside_18 : decode cX11_needBeside 18 = .ok (.ifCond .ne 14, 3) := by decide +kernel
theorem dX11_needBeside_21 : decode cX11_needBeside 21 = .ok (.new 425, 3) := by decide +kernel
theorem dX11_needBeside_24 : decode cX11_needBeside 24 = .ok (.dup, 1) := by decide +kernel
theorem dX11_needBeside_25 : decode cX11_needBeside 25 = .ok (.ldc_w 430, 3) := by decide +kernel
theorem dX11_needBeside_28 : decode cX11_needBeside 28 = .ok (.invokespecial 429, 3) := by decide +kernel
theorem dX11_needBeside_31 : decode cX11_needBeside 31 = .ok (.athrow, 1) := by decide +kernel
theorem dX11_needBeside_32 : decode cX11_needBeside 32 = .ok (.return_, 1) := by decide +kernel
theorem dX11_needUnlike_0 : decode cX11_needUnlike 0 = .ok (.iload_n 0, 1) := by decide +kernel
theorem dX11_needUnlike_1 : decode cX11_needUnlike 1 = .ok (.iload_n 1, 1) := by decide +kernel
theorem dX11_needUnlike_2 : decode cX11_needUnlike 2 = .ok (.if_icmp .ne 14, 3) := by decide +kernel
theorem dX11_needUnlike_5 : decode cX11_needUnlike 5 = .ok (.new 425, 3) := by decide +kernel
theorem dX11_needUnlike_8 : decode cX11_needUnlike 8 = .ok (.dup, 1) := by decide +kernel
theorem dX11_needUnlike_9 : decode cX11_needUnlike 9 = .ok (.ldc_w 432, 3) := by decide +kernel
theorem dX11_needUnlike_12 : decode cX11_needUnlike 12 = .ok (.invokespecial 429, 3) := by decide +kernel
theorem dX11_needUnlike_15 : decode cX11_needUnlike 15 = .ok (.athrow, 1) := by decide +kernel
theorem dX11_needUnlike_16 : decode cX11_needUnlike 16 = .ok (.return_, 1) := by decide +kernel
theorem dX11_needNoise_0 : decode cX11_needNoise 0 = .ok (.iload_n 0, 1) := by decide +kernel
theorem dX11_needNoise_1 : decode cX11_needNoise 1 = .ok (.iconst 0, 1) := by decide +kernel
theorem dX11_needNoise_2 : decode cX11_needNoise 2 = .ok (.bipush 99, 2) := by decide +kernel
theorem dX11_needNoise_4 : decode cX11_needNoise 4 = .ok (.invokestatic 95, 3) := by decide +kernel
theorem dX11_needNoise_7 : decode cX11_needNoise 7 = .ok (.return_, 1) := by decide +kernel
theorem dX11_needWithin_0 : decode cX11_needWithin 0 = .ok (.iload_n 0, 1) := by decide +kernel
theorem dX11_needWithin_1 : decode cX11_needWithin 1 = .ok (.iload_n 1, 1) := by decide +kernel
theorem dX11_needWithin_2 : decode cX11_needWithin 2 = .ok (.if_icmp .lt 8, 3) := by decide +kernel
theorem dX11_needWithin_5 : decode cX11_needWithin 5 = .ok (.iload_n 0, 1) := by decide +kernel
theorem dX11_needWithin_6 : decode cX11_needWithin 6 = .ok (.iload_n 2, 1) := by decide +kernel
theorem dX11_needWithin_7 : decode cX11_needWithin 7 = .ok (.if_icmp .le 14, 3) := by decide +kernel
theorem dX11_needWithin_10 : decode cX11_needWithin 10 = .ok (.new 425, 3) := by decide +kernel
theorem dX11_needWithin_13 : decode cX11_needWithin 13 = .ok (.dup, 1) := by decide +kernel
theorem dX11_needWithin_14 : decode cX11_needWithin 14 = .ok (.ldc_w 434, 3) := by decide +kernel
theorem dX11_needWithin_17 : decode cX11_needWithin 17 = .ok (.invokespecial 429, 3) := by decide +kernel
theorem dX11_needWithin_20 : decode cX11_needWithin 20 = .ok (.athrow, 1) := by decide +kernel
theorem dX11_needWithin_21 : decode cX11_needWithin 21 = .ok (.return_, 1) := by decide +kernel
theorem dX11_anyTray_0 : decode cX11_anyTray 0 = .ok (.iload_n 1, 1) := by decide +kernel
theorem dX11_anyTray_1 : decode cX11_anyTray 1 = .ok (.ifCond .lt 12, 3) := by decide +kernel
theorem dX11_anyTray_4 : decode cX11_anyTray 4 = .ok (.iload_n 1, 1) := by decide +kernel
theorem dX11_anyTray_5 : decode cX11_anyTray 5 = .ok (.aload_n 0, 1) := by decide +kernel
theorem dX11_anyTray_6 : decode cX11_anyTray 6 = .ok (.getfield 17, 3) := by decide +kernel
theorem dX11_anyTray_9 : decode cX11_anyTray 9 = .ok (.arraylength, 1) := by decide +kernel
theorem dX11_anyTray_10 : decode cX11_anyTray 10 = .ok (.if_icmp .lt 14, 3) := by decide +kernel
theorem dX11_anyTray_13 : decode cX11_anyTray 13 = .ok (.new 418, 3) := by decide +kernel
theorem dX11_anyTray_16 : decode cX11_anyTray 16 = .ok (.dup, 1) := by decide +kernel
theorem dX11_anyTray_17 : decode cX11_anyTray 17 = .ok (.ldc_w 436, 3) := by decide +kernel
theorem dX11_anyTray_20 : decode cX11_anyTray 20 = .ok (.invokespecial 422, 3) := by decide +kernel
theorem dX11_anyTray_23 : decode cX11_anyTray 23 = .ok (.athrow, 1) := by decide +kernel
theorem dX11_anyTray_24 : decode cX11_anyTray 24 = .ok (.aload_n 0, 1) := by decide +kernel
theorem dX11_anyTray_25 : decode cX11_anyTray 25 = .ok (.getfield 17, 3) := by decide +kernel
theorem dX11_anyTray_28 : decode cX11_anyTray 28 = .ok (.iload_n 1, 1) := by decide +kernel
theorem dX11_anyTray_29 : decode cX11_anyTray 29 = .ok (.aaload, 1) := by decide +kernel
theorem dX11_anyTray_30 : decode cX11_anyTray 30 = .ok (.areturn, 1) := by decide +kernel
theorem dX11_presentTray_0 : decode cX11_presentTray 0 = .ok (.aload_n 0, 1) := by decide +kernel
theorem dX11_presentTray_1 : decode cX11_presentTray 1 = .ok (.iload_n 1, 1) := by decide +kernel
theorem dX11_presentTray_2 : decode cX11_presentTray 2 = .ok (.invokevirtual 366, 3) := by decide +kernel
theorem dX11_presentTray_5 : decode cX11_presentTray 5 = .ok (.astore_n 2, 1) := by decide +kernel
theorem dX11_presentTray_6 : decode cX11_presentTray 6 = .ok (.aload_n 2, 1) := by decide +kernel
theorem dX11_presentTray_7 : decode cX11_presentTray 7 = .ok (.getfield 438, 3) := by decide +kernel
theorem dX11_presentTray_10 : decode cX11_presentTray 10 = .ok (.ifCond .ne 14, 3) := by decide +kernel
theorem dX11_presentTray_13 : decode cX11_presentTray 13 = .ok (.new 397, 3) := by decide +kernel
theorem dX11_presentTray_16 : decode cX11_presentTray 16 = .ok (.dup, 1) := by decide +kernel
theorem dX11_presentTray_17 : decode cX11_presentTray 17 = .ok (.ldc_w 441, 3) := by decide +kernel
theorem dX11_presentTray_20 : decode cX11_presentTray 20 = .ok (.invokespecial 401, 3) := by decide +kernel
theorem dX11_presentTray_23 : decode cX11_presentTray 23 = .ok (.athrow, 1) := by decide +kernel
theorem dX11_presentTray_24 : decode cX11_presentTray 24 = .ok (.aload_n 2, 1) := by decide +kernel
theorem dX11_presentTray_25 : decode cX11_presentTray 25 = .ok (.areturn, 1) := by decide +kernel
theorem dX11_heardTray_0 : decode cX11_heardTray 0 = .ok (.aload_n 0, 1) := by decide +kernel
theorem dX11_heardTray_1 : decode cX11_heardTray 1 = .ok (.iload_n 1, 1) := by decide +kernel
theorem dX11_heardTray_2 : decode cX11_heardTray 2 = .ok (.invokevirtual 208, 3) := by decide +kernel
theorem dX11_heardTray_5 : decode cX11_heardTray 5 = .ok (.astore_n 2, 1) := by decide +kernel
theorem dX11_heardTray_6 : decode cX11_heardTray 6 = .ok (.aload_n 2, 1) := by decide +kernel
theorem dX11_heardTray_7 : decode cX11_heardTray 7 = .ok (.invokestatic 443, 3) := by decide +kernel
theorem dX11_heardTray_10 : decode cX11_heardTray 10 = .ok (.ifCond .ne 14, 3) := by decide +kernel
theorem dX11_heardTray_13 : decode cX11_heardTray 13 = .ok (.new 425, 3) := by decide +kernel
theorem dX11_heardTray_16 : decode cX11_heardTray 16 = .ok (.dup, 1) := by decide +kernel
theorem dX11_heardTray_17 : decode cX11_heardTray 17 = .ok (.ldc_w 447, 3) := by decide +kernel
theorem dX11_heardTray_20 : decode cX11_heardTray 20 = .ok (.invokespecial 429, 3) := by decide +kernel
theorem dX11_heardTray_23 : decode cX11_heardTray 23 = .ok (.athrow, 1) := by decide +kernel
theorem dX11_heardTray_24 : decode cX11_heardTray 24 = .ok (.aload_n 2, 1) := by decide +kernel
theorem dX11_heardTray_25 : decode cX11_heardTray 25 = .ok (.areturn, 1) := by decide +kernel
theorem dX11_anyImage_0 : decode cX11_anyImage 0 = .ok (.iload_n 1, 1) := by decide +kernel
theorem dX11_anyImage_1 : decode cX11_anyImage 1 = .ok (.ifCond .lt 12, 3) := by decide +kernel
theorem dX11_anyImage_4 : decode cX11_anyImage 4 = .ok (.iload_n 1, 1) := by decide +kernel
theorem dX11_anyImage_5 : decode cX11_anyImage 5 = .ok (.aload_n 0, 1) := by decide +kernel
theorem dX11_anyImage_6 : decode cX11_anyImage 6 = .ok (.getfield 11, 3) := by decide +kernel
theorem dX11_anyImage_9 : decode cX11_anyImage 9 = .ok (.arraylength, 1) := by decide +kernel
theorem dX11_anyImage_10 : decode cX11_anyImage 10 = .ok (.if_icmp .lt 14, 3) := by decide +kernel
theorem dX11_anyImage_13 : decode cX11_anyImage 13 = .ok (.new 418, 3) := by decide +kernel
theorem dX11_anyImage_16 : decode cX11_anyImage 16 = .ok (.dup, 1) := by decide +kernel
theorem dX11_anyImage_17 : decode cX11_anyImage 17 = .ok (.ldc_w 449, 3) := by decide +kernel
theorem dX11_anyImage_20 : decode cX11_anyImage 20 = .ok (.invokespecial 422, 3) := by decide +kernel
theorem dX11_anyImage_23 : decode cX11_anyImage 23 = .ok (.athrow, 1) := by decide +kernel
theorem dX11_anyImage_24 : decode cX11_anyImage 24 = .ok (.aload_n 0, 1) := by decide +kernel
theorem dX11_anyImage_25 : decode cX11_anyImage 25 = .ok (.getfield 11, 3) := by decide +kernel
theorem dX11_anyImage_28 : decode cX11_anyImage 28 = .ok (.iload_n 1, 1) := by decide +kernel
theorem dX11_anyImage_29 : decode cX11_anyImage 29 = .ok (.aaload, 1) := by decide +kernel
theorem dX11_anyImage_30 : decode cX11_anyImage 30 = .ok (.areturn, 1) := by decide +kernel
theorem dX11_has_0 : decode cX11_has 0 = .ok (.iload_n 1, 1) := by decide +kernel
theorem dX11_has_1 : decode cX11_has 1 = .ok (.ifCond .lt 21, 3) := by decide +kernel
theorem dX11_has_4 : decode cX11_has 4 = .ok (.iload_n 1, 1) := by decide +kernel
theorem dX11_has_5 : decode cX11_has 5 = .ok (.bipush 32, 2) := by decide +kernel
theorem dX11_has_7 : decode cX11_has 7 = .ok (.if_icmp .ge 15, 3) := by decide +kernel
theorem dX11_has_10 : decode cX11_has 10 = .ok (.iload_n 0, 1) := by decide +kernel
theorem dX11_has_11 : decode cX11_has 11 = .ok (.iload_n 1, 1) := by decide +kernel
theorem dX11_has_12 : decode cX11_has 12 = .ok (.ishr, 1) := by decide +kernel
theorem dX11_has_13 : decode cX11_has 13 = .ok (.iconst 1, 1) := by decide +kernel
theorem dX11_has_14 : decode cX11_has 14 = .ok (.iand, 1) := by decide +kernel
theorem dX11_has_15 : decode cX11_has 15 = .ok (.ifCond .eq 7, 3) := by decide +kernel
theorem dX11_has_18 : decode cX11_has 18 = .ok (.iconst 1, 1) := by decide +kernel
theorem dX11_has_19 : decode cX11_has 19 = .ok (.goto 4, 3) := by decide +kernel
theorem dX11_has_22 : decode cX11_has 22 = .ok (.iconst 0, 1) := by decide +kernel
theorem dX11_has_23 : decode cX11_has 23 = .ok (.ireturn, 1) := by decide +kernel
theorem dX11_sizeOrSet_0 : decode cX11_sizeOrSet 0 = .ok (.iload_n 0, 1) := by decide +kernel
theorem dX11_sizeOrSet_1 : decode cX11_sizeOrSet 1 = .ok (.ifCond .ge 5, 3) := by decide +kernel
theorem dX11_sizeOrSet_4 : decode cX11_sizeOrSet 4 = .ok (.iconst (-1), 1) := by decide +kernel
theorem dX11_sizeOrSet_5 : decode cX11_sizeOrSet 5 = .ok (.ireturn, 1) := by decide +kernel
theorem dX11_sizeOrSet_6 : decode cX11_sizeOrSet 6 = .ok (.iload_n 1, 1) := by decide +kernel
theorem dX11_sizeOrSet_7 : decode cX11_sizeOrSet 7 = .ok (.ifCond .ne 10, 3) := by decide +kernel
theorem dX11_sizeOrSet_10 : decode cX11_sizeOrSet 10 = .ok (.iload_n 0, 1) := by decide +kernel
theorem dX11_sizeOrSet_11 : decode cX11_sizeOrSet 11 = .ok (.invokestatic 257, 3) := by decide +kernel
theorem dX11_sizeOrSet_14 : decode cX11_sizeOrSet 14 = .ok (.goto 4, 3) := by decide +kernel
theorem dX11_sizeOrSet_17 : decode cX11_sizeOrSet 17 = .ok (.iload_n 0, 1) := by decide +kernel
theorem dX11_sizeOrSet_18 : decode cX11_sizeOrSet 18 = .ok (.ireturn, 1) := by decide +kernel
