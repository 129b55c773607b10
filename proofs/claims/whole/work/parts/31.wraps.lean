theorem dL_hills_0 : decode cL_hills 0 = .ok (.aload_n 2, 1) := by decide +kernel
theorem dL_hills_1 : decode cL_hills 1 = .ok (.iconst 0, 1) := by decide +kernel
theorem dL_hills_2 : decode cL_hills 2 = .ok (.aload_n 0, 1) := by decide +kernel
theorem dL_hills_3 : decode cL_hills 3 = .ok (.iload_n 1, 1) := by decide +kernel
theorem dL_hills_4 : decode cL_hills 4 = .ok (.invokevirtual 7, 3) := by decide +kernel
theorem dL_hills_7 : decode cL_hills 7 = .ok (.i2l, 1) := by decide +kernel
theorem dL_hills_8 : decode cL_hills 8 = .ok (.lastore, 1) := by decide +kernel
theorem dL_hills_9 : decode cL_hills 9 = .ok (.goto 6, 3) := by decide +kernel
theorem dL_hills_12 : decode cL_hills 12 = .ok (.astore_n 3, 1) := by decide +kernel
theorem dL_hills_13 : decode cL_hills 13 = .ok (.iconst 1, 1) := by decide +kernel
theorem dL_hills_14 : decode cL_hills 14 = .ok (.ireturn, 1) := by decide +kernel
theorem dL_hills_15 : decode cL_hills 15 = .ok (.iconst 0, 1) := by decide +kernel
theorem dL_hills_16 : decode cL_hills 16 = .ok (.ireturn, 1) := by decide +kernel
theorem dL_well_0 : decode cL_well 0 = .ok (.aload_n 3, 1) := by decide +kernel
theorem dL_well_1 : decode cL_well 1 = .ok (.iconst 0, 1) := by decide +kernel
theorem dL_well_2 : decode cL_well 2 = .ok (.aload_n 0, 1) := by decide +kernel
theorem dL_well_3 : decode cL_well 3 = .ok (.iload_n 1, 1) := by decide +kernel
theorem dL_well_4 : decode cL_well 4 = .ok (.iload_n 2, 1) := by decide +kernel
theorem dL_well_5 : decode cL_well 5 = .ok (.invokevirtual 15, 3) := by decide +kernel
theorem dL_well_8 : decode cL_well 8 = .ok (.i2l, 1) := by decide +kernel
theorem dL_well_9 : decode cL_well 9 = .ok (.lastore, 1) := by decide +kernel
theorem dL_well_10 : decode cL_well 10 = .ok (.goto 11, 3) := by decide +kernel
theorem dL_well_13 : decode cL_well 13 = .ok (.astore 4, 2) := by decide +kernel
theorem dL_well_15 : decode cL_well 15 = .ok (.iconst 1, 1) := by decide +kernel
theorem dL_well_16 : decode cL_well 16 = .ok (.ireturn, 1) := by decide +kernel
theorem dL_well_17 : decode cL_well 17 = .ok (.astore 4, 2) := by decide +kernel
theorem dL_well_19 : decode cL_well 19 = .ok (.iconst 2, 1) := by decide +kernel
theorem dL_well_20 : decode cL_well 20 = .ok (.ireturn, 1) := by decide +kernel
theorem dL_well_21 : decode cL_well 21 = .ok (.iconst 0, 1) := by decide +kernel
theorem dL_well_22 : decode cL_well 22 = .ok (.ireturn, 1) := by decide +kernel
theorem dL_house_0 : decode cL_house 0 = .ok (.aload_n 3, 1) := by decide +kernel
theorem dL_house_1 : decode cL_house 1 = .ok (.iconst 0, 1) := by decide +kernel
theorem dL_house_2 : decode cL_house 2 = .ok (.aload_n 0, 1) := by decide +kernel
theorem dL_house_3 : decode cL_house 3 = .ok (.iload_n 1, 1) := by decide +kernel
theorem dL_house_4 : decode cL_house 4 = .ok (.iload_n 2, 1) := by decide +kernel
theorem dL_house_5 : decode cL_house 5 = .ok (.invokevirtual 21, 3) := by decide +kernel
theorem dL_house_8 : decode cL_house 8 = .ok (.i2l, 1) := by decide +kernel
theorem dL_house_9 : decode cL_house 9 = .ok (.lastore, 1) := by decide +kernel
theorem dL_house_10 : decode cL_house 10 = .ok (.goto 11, 3) := by decide +kernel
theorem dL_house_13 : decode cL_house 13 = .ok (.astore 4, 2) := by decide +kernel
theorem dL_house_15 : decode cL_house 15 = .ok (.iconst 1, 1) := by decide +kernel
theorem dL_house_16 : decode cL_house 16 = .ok (.ireturn, 1) := by decide +kernel
theorem dL_house_17 : decode cL_house 17 = .ok (.astore 4, 2) := by decide +kernel
theorem dL_house_19 : decode cL_house 19 = .ok (.iconst 2, 1) := by decide +kernel
theorem dL_house_20 : decode cL_house 20 = .ok (.ireturn, 1) := by decide +kernel
theorem dL_house_21 : decode cL_house 21 = .ok (.iconst 0, 1) := by decide +kernel
theorem dL_house_22 : decode cL_house 22 = .ok (.ireturn, 1) := by decide +kernel
theorem dL_hours_0 : decode cL_hours 0 = .ok (.aload_n 2, 1) := by decide +kernel
theorem dL_hours_1 : decode cL_hours 1 = .ok (.iconst 0, 1) := by decide +kernel
theorem dL_hours_2 : decode cL_hours 2 = .ok (.aload_n 0, 1) := by decide +kernel
theorem dL_hours_3 : decode cL_hours 3 = .ok (.iload_n 1, 1) := by decide +kernel
theorem dL_hours_4 : decode cL_hours 4 = .ok (.invokevirtual 24, 3) := by decide +kernel
theorem dL_hours_7 : decode cL_hours 7 = .ok (.i2l, 1) := by decide +kernel
theorem dL_hours_8 : decode cL_hours 8 = .ok (.lastore, 1) := by decide +kernel
theorem dL_hours_9 : decode cL_hours 9 = .ok (.goto 6, 3) := by decide +kernel
theorem dL_hours_12 : decode cL_hours 12 = .ok (.astore_n 3, 1) := by decide +kernel
theorem dL_hours_13 : decode cL_hours 13 = .ok (.iconst 1, 1) := by decide +kernel
theorem dL_hours_14 : decode cL_hours 14 = .ok (.ireturn, 1) := by decide +kernel
theorem dL_hours_15 : decode cL_hours 15 = .ok (.iconst 0, 1) := by decide +kernel
theorem dL_hours_16 : decode cL_hours 16 = .ok (.ireturn, 1) := by decide +kernel
theorem dL_undo_0 : decode cL_undo 0 = .ok (.aload_n 2, 1) := by decide +kernel
theorem dL_undo_1 : decode cL_undo 1 = .ok (.iconst 0, 1) := by decide +kernel
theorem dL_undo_2 : decode cL_undo 2 = .ok (.aload_n 0, 1) := by decide +kernel
theorem dL_undo_3 : decode cL_undo 3 = .ok (.iload_n 1, 1) := by decide +kernel
theorem dL_undo_4 : decode cL_undo 4 = .ok (.invokevirtual 27, 3) := by decide +kernel
theorem dL_undo_7 : decode cL_undo 7 = .ok (.i2l, 1) := by decide +kernel
theorem dL_undo_8 : decode cL_undo 8 = .ok (.lastore, 1) := by decide +kernel
theorem dL_undo_9 : decode cL_undo 9 = .ok (.goto 6, 3) := by decide +kernel
theorem dL_undo_12 : decode cL_undo 12 = .ok (.astore_n 3, 1) := by decide +kernel
theorem dL_undo_13 : decode cL_undo 13 = .ok (.iconst 1, 1) := by decide +kernel
theorem dL_undo_14 : decode cL_undo 14 = .ok (.ireturn, 1) := by decide +kernel
theorem dL_undo_15 : decode cL_undo 15 = .ok (.iconst 0, 1) := by decide +kernel
theorem dL_undo_16 : decode cL_undo 16 = .ok (.ireturn, 1) := by decide +kernel
theorem dL_judge_0 : decode cL_judge 0 = .ok (.aload_n 3, 1) := by decide +kernel
theorem dL_judge_1 : decode cL_judge 1 = .ok (.iconst 0, 1) := by decide +kernel
theorem dL_judge_2 : decode cL_judge 2 = .ok (.aload_n 0, 1) := by decide +kernel
theorem dL_judge_3 : decode cL_judge 3 = .ok (.iload_n 1, 1) := by decide +kernel
theorem dL_judge_4 : decode cL_judge 4 = .ok (.iload_n 2, 1) := by decide +kernel
theorem dL_judge_5 : decode cL_judge 5 = .ok (.invokevirtual 30, 3) := by decide +kernel
theorem dL_judge_8 : decode cL_judge 8 = .ok (.i2l, 1) := by decide +kernel
theorem dL_judge_9 : decode cL_judge 9 = .ok (.lastore, 1) := by decide +kernel
theorem dL_judge_10 : decode cL_judge 10 = .ok (.goto 15, 3) := by decide +kernel
theorem dL_judge_13 : decode cL_judge 13 = .ok (.astore 4, 2) := by decide +kernel
theorem dL_judge_15 : decode cL_judge 15 = .ok (.iconst 1, 1) := by decide +kernel
theorem dL_judge_16 : decode cL_judge 16 = .ok (.ireturn, 1) := by decide +kernel
theorem dL_judge_17 : decode cL_judge 17 = .ok (.astore 4, 2) := by decide +kernel
theorem dL_judge_19 : decode cL_judge 19 = .ok (.iconst 2, 1) := by decide +kernel
theorem dL_judge_20 : decode cL_judge 20 = .ok (.ireturn, 1) := by decide +kernel
theorem dL_judge_21 : decode cL_judge 21 = .ok (.astore 4, 2) := by decide +kernel
theorem dL_judge_23 : decode cL_judge 23 = .ok (.iconst 3, 1) := by decide +kernel
theorem dL_judge_24 : decode cL_judge 24 = .ok (.ireturn, 1) := by decide +kernel
theorem dL_judge_25 : decode cL_judge 25 = .ok (.iconst 0, 1) := by decide +kernel
theorem dL_judge_26 : decode cL_judge 26 = .ok (.ireturn, 1) := by decide +kernel
theorem dL_perform_0 : decode cL_perform 0 = .ok (.aload_n 2, 1) := by decide +kernel
theorem dL_perform_1 : decode cL_perform 1 = .ok (.iconst 0, 1) := by decide +kernel
theorem dL_perform_2 : decode cL_perform 2 = .ok (.aload_n 0, 1) := by decide +kernel
theorem dL_perform_3 : decode cL_perform 3 = .ok (.iload_n 1, 1) := by decide +kernel
theorem dL_perform_4 : decode cL_perform 4 = .ok (.invokevirtual 35, 3) := by decide +kernel
theorem dL_perform_7 : decode cL_perform 7 = .ok (.i2l, 1) := by decide +kernel
theorem dL_perform_8 : decode cL_perform 8 = .ok (.lastore, 1) := by decide +kernel
theorem dL_perform_9 : decode cL_perform 9 = .ok (.goto 9, 3) := by decide +kernel
theorem dL_perform_12 : decode cL_perform 12 = .ok (.astore_n 3, 1) := by decide +kernel
theorem dL_perform_13 : decode cL_perform 13 = .ok (.iconst 1, 1) := by decide +kernel
theorem dL_perform_14 : decode cL_perform 14 = .ok (.ireturn, 1) := by decide +kernel
theorem dL_perform_15 : decode cL_perform 15 = .ok (.astore_n 3, 1) := by decide +kernel
theorem dL_perform_16 : decode cL_perform 16 = .ok (.iconst 2, 1) := by decide +kernel
theorem dL_perform_17 : decode cL_perform 17 = .ok (.ireturn, 1) := by decide +kernel
theorem dL_perform_18 : decode cL_perform 18 = .ok (.iconst 0, 1) := by decide +kernel
theorem dL_perform_19 : decode cL_perform 19 = .ok (.ireturn, 1) := by decide +kernel
theorem dL_year_0 : decode cL_year 0 = .ok (.aload_n 3, 1) := by decide +kernel
theorem dL_year_1 : decode cL_year 1 = .ok (.iconst 0, 1) := by decide +kernel
theorem dL_year_2 : decode cL_year 2 = .ok (.aload_n 0, 1) := by decide +kernel
theorem dL_year_3 : decode cL_year 3 = .ok (.iload_n 1, 1) := by decide +kernel
theorem dL_year_4 : decode cL_year 4 = .ok (.iload_n 2, 1) := by decide +kernel
theorem dL_year_5 : decode cL_year 5 = .ok (.invokevirtual 38, 3) := by decide +kernel
theorem dL_year_8 : decode cL_year 8 = .ok (.i2l, 1) := by decide +kernel
theorem dL_year_9 : decode cL_year 9 = .ok (.lastore, 1) := by decide +kernel
theorem dL_year_10 : decode cL_year 10 = .ok (.goto 7, 3) := by decide +kernel
theorem dL_year_13 : decode cL_year 13 = .ok (.astore 4, 2) := by decide +kernel
theorem dL_year_15 : decode cL_year 15 = .ok (.iconst 1, 1) := by decide +kernel
theorem dL_year_16 : decode cL_year 16 = .ok (.ireturn, 1) := by decide +kernel
theorem dL_year_17 : decode cL_year 17 = .ok (.iconst 0, 1) := by decide +kernel
theorem dL_year_18 : decode cL_year 18 = .ok (.ireturn, 1) := by decide +kernel
theorem dL_together_0 : decode cL_together 0 = .ok (.aload_n 3, 1) := by decide +kernel
theorem dL_together_1 : decode cL_together 1 = .ok (.iconst 0, 1) := by decide +kernel
theorem dL_together_2 : decode cL_together 2 = .ok (.aload_n 0, 1) := by decide +kernel
theorem dL_together_3 : decode cL_together 3 = .ok (.iload_n 1, 1) := by decide +kernel
theorem dL_together_4 : decode cL_together 4 = .ok (.iload_n 2, 1) := by decide +kernel
theorem dL_together_5 : decode cL_together 5 = .ok (.invokevirtual 41, 3) := by decide +kernel
theorem dL_together_8 : decode cL_together 8 = .ok (.i2l, 1) := by decide +kernel
theorem dL_together_9 : decode cL_together 9 = .ok (.lastore, 1) := by decide +kernel
theorem dL_together_10 : decode cL_together 10 = .ok (.goto 7, 3) := by decide +kernel
theorem dL_together_13 : decode cL_together 13 = .ok (.astore 4, 2) := by decide +kernel
theorem dL_together_15 : decode cL_together 15 = .ok (.iconst 1, 1) := by decide +kernel
theorem dL_together_16 : decode cL_together 16 = .ok (.ireturn, 1) := by decide +kernel
theorem dL_together_17 : decode cL_together 17 = .ok (.iconst 0, 1) := by decide +kernel
theorem dL_together_18 : decode cL_together 18 = .ok (.ireturn, 1) := by decide +kernel
theorem dL_wakesIn_0 : decode cL_wakesIn 0 = .ok (.aload_n 2, 1) := by decide +kernel
theorem dL_wakesIn_1 : decode cL_wakesIn 1 = .ok (.iconst 0, 1) := by decide +kernel
theorem dL_wakesIn_2 : decode cL_wakesIn 2 = .ok (.aload_n 0, 1) := by decide +kernel
theorem dL_wakesIn_3 : decode cL_wakesIn 3 = .ok (.iload_n 1, 1) := by decide +kernel
theorem dL_wakesIn_4 : decode cL_wakesIn 4 = .ok (.invokevirtual 45, 3) := by decide +kernel
theorem dL_wakesIn_7 : decode cL_wakesIn 7 = .ok (.i2l, 1) := by decide +kernel
theorem dL_wakesIn_8 : decode cL_wakesIn 8 = .ok (.lastore, 1) := by decide +kernel
theorem dL_wakesIn_9 : decode cL_wakesIn 9 = .ok (.goto 6, 3) := by decide +kernel
theorem dL_wakesIn_12 : decode cL_wakesIn 12 = .ok (.astore_n 3, 1) := by decide +kernel
theorem dL_wakesIn_13 : decode cL_wakesIn 13 = .ok (.iconst 1, 1) := by decide +kernel
theorem dL_wakesIn_14 : decode cL_wakesIn 14 = .ok (.ireturn, 1) := by decide +kernel
theorem dL_wakesIn_15 : decode cL_wakesIn 15 = .ok (.iconst 0, 1) := by decide +kernel
theorem dL_wakesIn_16 : decode cL_wakesIn 16 = .ok (.ireturn, 1) := by decide +kernel
theorem dL_stays_0 : decode cL_stays 0 = .ok (.aload_n 2, 1) := by decide +kernel
theorem dL_stays_1 : decode cL_stays 1 = .ok (.iconst 0, 1) := by decide +kernel
theorem dL_stays_2 : decode cL_stays 2 = .ok (.aload_n 0, 1) := by decide +kernel
theorem dL_stays_3 : decode cL_stays 3 = .ok (.iload_n 1, 1) := by decide +kernel
theorem dL_stays_4 : decode cL_stays 4 = .ok (.invokevirtual 48, 3) := by decide +kernel
theorem dL_stays_7 : decode cL_stays 7 = .ok (.i2l, 1) := by decide +kernel
theorem dL_stays_8 : decode cL_stays 8 = .ok (.lastore, 1) := by decide +kernel
theorem dL_stays_9 : decode cL_stays 9 = .ok (.goto 6, 3) := by decide +kernel
theorem dL_stays_12 : decode cL_stays 12 = .ok (.astore_n 3, 1) := by decide +kernel
theorem dL_stays_13 : decode cL_stays 13 = .ok (.iconst 1, 1) := by decide +kernel
theorem dL_stays_14 : decode cL_stays 14 = .ok (.ireturn, 1) := by decide +kernel
theorem dL_stays_15 : decode cL_stays 15 = .ok (.iconst 0, 1) := by decide +kernel
theorem dL_stays_16 : decode cL_stays 16 = .ok (.ireturn, 1) := by decide +kernel
theorem dL_withAwake_0 : decode cL_withAwake 0 = .ok (.aload_n 2, 1) := by decide +kernel
theorem dL_withAwake_1 : decode cL_withAwake 1 = .ok (.iconst 0, 1) := by decide +kernel
theorem dL_withAwake_2 : decode cL_withAwake 2 = .ok (.aload_n 0, 1) := by decide +kernel
theorem dL_withAwake_3 : decode cL_withAwake 3 = .ok (.iload_n 1, 1) := by decide +kernel
theorem dL_withAwake_4 : decode cL_withAwake 4 = .ok (.invokevirtual 51, 3) := by decide +kernel
theorem dL_withAwake_7 : decode cL_withAwake 7 = .ok (.i2l, 1) := by decide +kernel
theorem dL_withAwake_8 : decode cL_withAwake 8 = .ok (.lastore, 1) := by decide +kernel
theorem dL_withAwake_9 : decode cL_withAwake 9 = .ok (.goto 6, 3) := by decide +kernel
theorem dL_withAwake_12 : decode cL_withAwake 12 = .ok (.astore_n 3, 1) := by decide +kernel
theorem dL_withAwake_13 : decode cL_withAwake 13 = .ok (.iconst 1, 1) := by decide +kernel
theorem dL_withAwake_14 : decode cL_withAwake 14 = .ok (.ireturn, 1) := by decide +kernel
theorem dL_withAwake_15 : decode cL_withAwake 15 = .ok (.iconst 0, 1) := by decide +kernel
theorem dL_withAwake_16 : decode cL_withAwake 16 = .ok (.ireturn, 1) := by decide +kernel
theorem dL_stillest_0 : decode cL_stillest 0 = .ok (.aload_n 2, 1) := by decide +kernel
theorem dL_stillest_1 : decode cL_stillest 1 = .ok (.iconst 0, 1) := by decide +kernel
theorem dL_stillest_2 : decode cL_stillest 2 = .ok (.aload_n 0, 1) := by decide +kernel
theorem dL_stillest_3 : decode cL_stillest 3 = .ok (.iload_n 1, 1) := by decide +kernel
theorem dL_stillest_4 : decode cL_stillest 4 = .ok (.invokevirtual 54, 3) := by decide +kernel
theorem dL_stillest_7 : decode cL_stillest 7 = .ok (.i2l, 1) := by decide +kernel
theorem dL_stillest_8 : decode cL_stillest 8 = .ok (.lastore, 1) := by decide +kernel
theorem dL_stillest_9 : decode cL_stillest 9 = .ok (.goto 6, 3) := by decide +kernel
theorem dL_stillest_12 : decode cL_stillest 12 = .ok (.astore_n 3, 1) := by decide +kernel
theorem dL_stillest_13 : decode cL_stillest 13 = .ok (.iconst 1, 1) := by decide +kernel
theorem dL_stillest_14 : decode cL_stillest 14 = .ok (.ireturn, 1) := by decide +kernel
theorem dL_stillest_15 : decode cL_stillest 15 = .ok (.iconst 0, 1) := by decide +kernel
theorem dL_stillest_16 : decode cL_stillest 16 = .ok (.ireturn, 1) := by decide +kernel
theorem dL_chain_0 : decode cL_chain 0 = .ok (.aload_n 3, 1) := by decide +kernel
theorem dL_chain_1 : decode cL_chain 1 = .ok (.iconst 0, 1) := by decide +kernel
theorem dL_chain_2 : decode cL_chain 2 = .ok (.aload_n 0, 1) := by decide +kernel
theorem dL_chain_3 : decode cL_chain 3 = .ok (.iload_n 1, 1) := by decide +kernel
theorem dL_chain_4 : decode cL_chain 4 = .ok (.iload_n 2, 1) := by decide +kernel
theorem dL_chain_5 : decode cL_chain 5 = .ok (.invokevirtual 57, 3) := by decide +kernel
theorem dL_chain_8 : decode cL_chain 8 = .ok (.i2l, 1) := by decide +kernel
theorem dL_chain_9 : decode cL_chain 9 = .ok (.lastore, 1) := by decide +kernel
theorem dL_chain_10 : decode cL_chain 10 = .ok (.goto 11, 3) := by decide +kernel
theorem dL_chain_13 : decode cL_chain 13 = .ok (.astore 4, 2) := by decide +kernel
theorem dL_chain_15 : decode cL_chain 15 = .ok (.iconst 1, 1) := by decide +kernel
theorem dL_chain_16 : decode cL_chain 16 = .ok (.ireturn, 1) := by decide +kernel
theorem dL_chain_17 : decode cL_chain 17 = .ok (.astore 4, 2) := by decide +kernel
theorem dL_chain_19 : decode cL_chain 19 = .ok (.iconst 2, 1) := by decide +kernel
theorem dL_chain_20 : decode cL_chain 20 = .ok (.ireturn, 1) := by decide +kernel
theorem dL_chain_21 : decode cL_chain 21 = .ok (.iconst 0, 1) := by decide +kernel
theorem dL_chain_22 : decode cL_chain 22 = .ok (.ireturn, 1) := by decide +kernel
theorem dL_wakes_0 : decode cL_wakes 0 = .ok (.aload 4, 2) := by decide +kernel
theorem dL_wakes_2 : decode cL_wakes 2 = .ok (.iconst 0, 1) := by decide +kernel
theorem dL_wakes_3 : decode cL_wakes 3 = .ok (.aload_n 0, 1) := by decide +kernel
theorem dL_wakes_4 : decode cL_wakes 4 = .ok (.iload_n 1, 1) := by decide +kernel
theorem dL_wakes_5 : decode cL_wakes 5 = .ok (.iload_n 2, 1) := by decide +kernel
theorem dL_wakes_6 : decode cL_wakes 6 = .ok (.iload_n 3, 1) := by decide +kernel
theorem dL_wakes_7 : decode cL_wakes 7 = .ok (.invokevirtual 60, 3) := by decide +kernel
theorem dL_wakes_10 : decode cL_wakes 10 = .ok (.ifCond .eq 7, 3) := by decide +kernel
theorem dL_wakes_13 : decode cL_wakes 13 = .ok (.lconst 1, 1) := by decide +kernel
theorem dL_wakes_14 : decode cL_wakes 14 = .ok (.goto 4, 3) := by decide +kernel
theorem dL_wakes_17 : decode cL_wakes 17 = .ok (.lconst 0, 1) := by decide +kernel
theorem dL_wakes_18 : decode cL_wakes 18 = .ok (.lastore, 1) := by decide +kernel
theorem dL_wakes_19 : decode cL_wakes 19 = .ok (.goto 11, 3) := by decide +kernel
theorem dL_wakes_22 : decode cL_wakes 22 = .ok (.astore 5, 2) := by decide +kernel
theorem dL_wakes_24 : decode cL_wakes 24 = .ok (.iconst 1, 1) := by decide +kernel
theorem dL_wakes_25 : decode cL_wakes 25 = .ok (.ireturn, 1) := by decide +kernel
theorem dL_wakes_26 : decode cL_wakes 26 = .ok (.astore 5, 2) := by decide +kernel
theorem dL_wakes_28 : decode cL_wakes 28 = .ok (.iconst 2, 1) := by decide +kernel
theorem dL_wakes_29 : decode cL_wakes 29 = .ok (.ireturn, 1) := by decide +kernel
theorem dL_wakes_30 : decode cL_wakes 30 = .ok (.iconst 0, 1) := by decide +kernel
theorem dL_wakes_31 : decode cL_wakes 31 = .ok (.ireturn, 1) := by decide +kernel
theorem dL_quietest_0 : decode cL_quietest 0 = .ok (.aload_n 2, 1) := by decide +kernel
theorem dL_quietest_1 : decode cL_quietest 1 = .ok (.iconst 0, 1) := by decide +kernel
theorem dL_quietest_2 : decode cL_quietest 2 = .ok (.aload_n 0, 1) := by decide +kernel
theorem dL_quietest_3 : decode cL_quietest 3 = .ok (.iload_n 1, 1) := by decide +kernel
theorem dL_quietest_4 : decode cL_quietest 4 = .ok (.invokevirtual 64, 3) := by decide +kernel
theorem dL_quietest_7 : decode cL_quietest 7 = .ok (.i2l, 1) := by decide +kernel
theorem dL_quietest_8 : decode cL_quietest 8 = .ok (.lastore, 1) := by decide +kernel
theorem dL_quietest_9 : decode cL_quietest 9 = .ok (.goto 6, 3) := by decide +kernel
theorem dL_quietest_12 : decode cL_quietest 12 = .ok (.astore_n 3, 1) := by decide +kernel
theorem dL_quietest_13 : decode cL_quietest 13 = .ok (.iconst 1, 1) := by decide +kernel
theorem dL_quietest_14 : decode cL_quietest 14 = .ok (.ireturn, 1) := by decide +kernel
theorem dL_quietest_15 : decode cL_quietest 15 = .ok (.iconst 0, 1) := by decide +kernel
theorem dL_quietest_16 : decode cL_quietest 16 = .ok (.ireturn, 1) := by decide +kernel
theorem dL_wakers_0 : decode cL_wakers 0 = .ok (.aload_n 3, 1) := by decide +kernel
theorem dL_wakers_1 : decode cL_wakers 1 = .ok (.iconst 0, 1) := by decide +kernel
theorem dL_wakers_2 : decode cL_wakers 2 = .ok (.aload_n 0, 1) := by decide +kernel
theorem dL_wakers_3 : decode cL_wakers 3 = .ok (.iload_n 1, 1) := by decide +kernel
theorem dL_wakers_4 : decode cL_wakers 4 = .ok (.iload_n 2, 1) := by decide +kernel
theorem dL_wakers_5 : decode cL_wakers 5 = .ok (.invokevirtual 67, 3) := by decide +kernel
theorem dL_wakers_8 : decode cL_wakers 8 = .ok (.i2l, 1) := by decide +kernel
theorem dL_wakers_9 : decode cL_wakers 9 = .ok (.lastore, 1) := by decide +kernel
theorem dL_wakers_10 : decode cL_wakers 10 = .ok (.goto 11, 3) := by decide +kernel
theorem dL_wakers_13 : decode cL_wakers 13 = .ok (.astore 4, 2) := by decide +kernel
theorem dL_wakers_15 : decode cL_wakers 15 = .ok (.iconst 1, 1) := by decide +kernel
theorem dL_wakers_16 : decode cL_wakers 16 = .ok (.ireturn, 1) := by decide +kernel
theorem dL_wakers_17 : decode cL_wakers 17 = .ok (.astore 4, 2) := by decide +kernel
theorem dL_wakers_19 : decode cL_wakers 19 = .ok (.iconst 2, 1) := by decide +kernel
theorem dL_wakers_20 : decode cL_wakers 20 = .ok (.ireturn, 1) := by decide +kernel
theorem dL_wakers_21 : decode cL_wakers 21 = .ok (.iconst 0, 1) := by decide +kernel
theorem dL_wakers_22 : decode cL_wakers 22 = .ok (.ireturn, 1) := by decide +kernel
theorem dL_leastNoise_0 : decode cL_leastNoise 0 = .ok (.aload_n 3, 1) := by decide +kernel
theorem dL_leastNoise_1 : decode cL_leastNoise 1 = .ok (.iconst 0, 1) := by decide +kernel
theorem dL_leastNoise_2 : decode cL_leastNoise 2 = .ok (.aload_n 0, 1) := by decide +kernel
theorem dL_leastNoise_3 : decode cL_leastNoise 3 = .ok (.iload_n 1, 1) := by decide +kernel
theorem dL_leastNoise_4 : decode cL_leastNoise 4 = .ok (.iload_n 2, 1) := by decide +kernel
theorem dL_leastNoise_5 : decode cL_leastNoise 5 = .ok (.invokevirtual 70, 3) := by decide +kernel
theorem dL_leastNoise_8 : decode cL_leastNoise 8 = .ok (.i2l, 1) := by decide +kernel
theorem dL_leastNoise_9 : decode cL_leastNoise 9 = .ok (.lastore, 1) := by decide +kernel
theorem dL_leastNoise_10 : decode cL_leastNoise 10 = .ok (.goto 11, 3) := by decide +kernel
theorem dL_leastNoise_13 : decode cL_leastNoise 13 = .ok (.astore 4, 2) := by decide +kernel
theorem dL_leastNoise_15 : decode cL_leastNoise 15 = .ok (.iconst 1, 1) := by decide +kernel
theorem dL_leastNoise_16 : decode cL_leastNoise 16 = .ok (.ireturn, 1) := by decide +kernel
theorem dL_leastNoise_17 : decode cL_leastNoise 17 = .ok (.astore 4, 2) := by decide +kernel
theorem dL_leastNoise_19 : decode cL_leastNoise 19 = .ok (.iconst 2, 1) := by decide +kernel
theorem dL_leastNoise_20 : decode cL_leastNoise 20 = .ok (.ireturn, 1) := by decide +kernel
theorem dL_leastNoise_21 : decode cL_leastNoise 21 = .ok (.iconst 0, 1) := by decide +kernel
theorem dL_leastNoise_22 : decode cL_leastNoise 22 = .ok (.ireturn, 1) := by decide +kernel
theorem dL_shield_0 : decode cL_shield 0 = .ok (.aload 5, 2) := by decide +kernel
theorem dL_shield_2 : decode cL_shield 2 = .ok (.iconst 0, 1) := by decide +kernel
theorem dL_shield_3 : decode cL_shield 3 = .ok (.aload_n 0, 1) := by decide +kernel
theorem dL_shield_4 : decode cL_shield 4 = .ok (.iload_n 1, 1) := by decide +kernel
theorem dL_shield_5 : decode cL_shield 5 = .ok (.iload_n 2, 1) := by decide +kernel
theorem dL_shield_6 : decode cL_shield 6 = .ok (.iload_n 3, 1) := by decide +kernel
theorem dL_shield_7 : decode cL_shield 7 = .ok (.iload 4, 2) := by decide +kernel
theorem dL_shield_9 : decode cL_shield 9 = .ok (.invokevirtual 73, 3) := by decide +kernel
theorem dL_shield_12 : decode cL_shield 12 = .ok (.i2l, 1) := by decide +kernel
theorem dL_shield_13 : decode cL_shield 13 = .ok (.lastore, 1) := by decide +kernel
theorem dL_shield_14 : decode cL_shield 14 = .ok (.goto 11, 3) := by decide +kernel
theorem dL_shield_17 : decode cL_shield 17 = .ok (.astore 6, 2) := by decide +kernel
theorem dL_shield_19 : decode cL_shield 19 = .ok (.iconst 1, 1) := by decide +kernel
theorem dL_shield_20 : decode cL_shield 20 = .ok (.ireturn, 1) := by decide +kernel
theorem dL_shield_21 : decode cL_shield 21 = .ok (.astore 6, 2) := by decide +kernel
theorem dL_shield_23 : decode cL_shield 23 = .ok (.iconst 2, 1) := by decide +kernel
theorem dL_shield_24 : decode cL_shield 24 = .ok (.ireturn, 1) := by decide +kernel
theorem dL_shield_25 : decode cL_shield 25 = .ok (.iconst 0, 1) := by decide +kernel
theorem dL_shield_26 : decode cL_shield 26 = .ok (.ireturn, 1) := by decide +kernel
theorem dL_loudest_0 : decode cL_loudest 0 = .ok (.aload_n 2, 1) := by decide +kernel
theorem dL_loudest_1 : decode cL_loudest 1 = .ok (.iconst 0, 1) := by decide +kernel
theorem dL_loudest_2 : decode cL_loudest 2 = .ok (.aload_n 0, 1) := by decide +kernel
theorem dL_loudest_3 : decode cL_loudest 3 = .ok (.iload_n 1, 1) := by decide +kernel
theorem dL_loudest_4 : decode cL_loudest 4 = .ok (.invokevirtual 77, 3) := by decide +kernel
theorem dL_loudest_7 : decode cL_loudest 7 = .ok (.i2l, 1) := by decide +kernel
theorem dL_loudest_8 : decode cL_loudest 8 = .ok (.lastore, 1) := by decide +kernel
theorem dL_loudest_9 : decode cL_loudest 9 = .ok (.goto 6, 3) := by decide +kernel
theorem dL_loudest_12 : decode cL_loudest 12 = .ok (.astore_n 3, 1) := by decide +kernel
theorem dL_loudest_13 : decode cL_loudest 13 = .ok (.iconst 1, 1) := by decide +kernel
theorem dL_loudest_14 : decode cL_loudest 14 = .ok (.ireturn, 1) := by decide +kernel
theorem dL_loudest_15 : decode cL_loudest 15 = .ok (.iconst 0, 1) := by decide +kernel
theorem dL_loudest_16 : decode cL_loudest 16 = .ok (.ireturn, 1) := by decide +kernel
theorem dL_chorus_0 : decode cL_chorus 0 = .ok (.aload_n 3, 1) := by decide +kernel
theorem dL_chorus_1 : decode cL_chorus 1 = .ok (.iconst 0, 1) := by decide +kernel
theorem dL_chorus_2 : decode cL_chorus 2 = .ok (.aload_n 0, 1) := by decide +kernel
theorem dL_chorus_3 : decode cL_chorus 3 = .ok (.iload_n 1, 1) := by decide +kernel
theorem dL_chorus_4 : decode cL_chorus 4 = .ok (.iload_n 2, 1) := by decide +kernel
theorem dL_chorus_5 : decode cL_chorus 5 = .ok (.invokevirtual 80, 3) := by decide +kernel
theorem dL_chorus_8 : decode cL_chorus 8 = .ok (.i2l, 1) := by decide +kernel
theorem dL_chorus_9 : decode cL_chorus 9 = .ok (.lastore, 1) := by decide +kernel
theorem dL_chorus_10 : decode cL_chorus 10 = .ok (.goto 7, 3) := by decide +kernel
theorem dL_chorus_13 : decode cL_chorus 13 = .ok (.astore 4, 2) := by decide +kernel
theorem dL_chorus_15 : decode cL_chorus 15 = .ok (.iconst 1, 1) := by decide +kernel
theorem dL_chorus_16 : decode cL_chorus 16 = .ok (.ireturn, 1) := by decide +kernel
theorem dL_chorus_17 : decode cL_chorus 17 = .ok (.iconst 0, 1) := by decide +kernel
theorem dL_chorus_18 : decode cL_chorus 18 = .ok (.ireturn, 1) := by decide +kernel
theorem dL_yawns_0 : decode cL_yawns 0 = .ok (.aload 4, 2) := by decide +kernel
theorem dL_yawns_2 : decode cL_yawns 2 = .ok (.iconst 0, 1) := by decide +kernel
theorem dL_yawns_3 : decode cL_yawns 3 = .ok (.aload_n 0, 1) := by decide +kernel
theorem dL_yawns_4 : decode cL_yawns 4 = .ok (.iload_n 1, 1) := by decide +kernel
theorem dL_yawns_5 : decode cL_yawns 5 = .ok (.iload_n 2, 1) := by decide +kernel
theorem dL_yawns_6 : decode cL_yawns 6 = .ok (.iload_n 3, 1) := by decide +kernel
theorem dL_yawns_7 : decode cL_yawns 7 = .ok (.invokevirtual 83, 3) := by decide +kernel
theorem dL_yawns_10 : decode cL_yawns 10 = .ok (.i2l, 1) := by decide +kernel
theorem dL_yawns_11 : decode cL_yawns 11 = .ok (.lastore, 1) := by decide +kernel
theorem dL_yawns_12 : decode cL_yawns 12 = .ok (.goto 11, 3) := by decide +kernel
theorem dL_yawns_15 : decode cL_yawns 15 = .ok (.astore 5, 2) := by decide +kernel
theorem dL_yawns_17 : decode cL_yawns 17 = .ok (.iconst 1, 1) := by decide +kernel
theorem dL_yawns_18 : decode cL_yawns 18 = .ok (.ireturn, 1) := by decide +kernel
theorem dL_yawns_19 : decode cL_yawns 19 = .ok (.astore 5, 2) := by decide +kernel
theorem dL_yawns_21 : decode cL_yawns 21 = .ok (.iconst 2, 1) := by decide +kernel
theorem dL_yawns_22 : decode cL_yawns 22 = .ok (.ireturn, 1) := by decide +kernel
theorem dL_yawns_23 : decode cL_yawns 23 = .ok (.iconst 0, 1) := by decide +kernel
theorem dL_yawns_24 : decode cL_yawns 24 = .ok (.ireturn, 1) := by decide +kernel
theorem dL_loudHour_0 : decode cL_loudHour 0 = .ok (.aload_n 3, 1) := by decide +kernel
theorem dL_loudHour_1 : decode cL_loudHour 1 = .ok (.iconst 0, 1) := by decide +kernel
theorem dL_loudHour_2 : decode cL_loudHour 2 = .ok (.aload_n 0, 1) := by decide +kernel
theorem dL_loudHour_3 : decode cL_loudHour 3 = .ok (.iload_n 1, 1) := by decide +kernel
theorem dL_loudHour_4 : decode cL_loudHour 4 = .ok (.iload_n 2, 1) := by decide +kernel
theorem dL_loudHour_5 : decode cL_loudHour 5 = .ok (.invokevirtual 87, 3) := by decide +kernel
theorem dL_loudHour_8 : decode cL_loudHour 8 = .ok (.i2l, 1) := by decide +kernel
theorem dL_loudHour_9 : decode cL_loudHour 9 = .ok (.lastore, 1) := by decide +kernel
theorem dL_loudHour_10 : decode cL_loudHour 10 = .ok (.goto 11, 3) := by decide +kernel
theorem dL_loudHour_13 : decode cL_loudHour 13 = .ok (.astore 4, 2) := by decide +kernel
theorem dL_loudHour_15 : decode cL_loudHour 15 = .ok (.iconst 1, 1) := by decide +kernel
theorem dL_loudHour_16 : decode cL_loudHour 16 = .ok (.ireturn, 1) := by decide +kernel
theorem dL_loudHour_17 : decode cL_loudHour 17 = .ok (.astore 4, 2) := by decide +kernel
theorem dL_loudHour_19 : decode cL_loudHour 19 = .ok (.iconst 2, 1) := by decide +kernel
theorem dL_loudHour_20 : decode cL_loudHour 20 = .ok (.ireturn, 1) := by decide +kernel
theorem dL_loudHour_21 : decode cL_loudHour 21 = .ok (.iconst 0, 1) := by decide +kernel
theorem dL_loudHour_22 : decode cL_loudHour 22 = .ok (.ireturn, 1) := by decide +kernel
theorem dL_quietHours_0 : decode cL_quietHours 0 = .ok (.aload_n 2, 1) := by decide +kernel
theorem dL_quietHours_1 : decode cL_quietHours 1 = .ok (.iconst 0, 1) := by decide +kernel
theorem dL_quietHours_2 : decode cL_quietHours 2 = .ok (.aload_n 0, 1) := by decide +kernel
theorem dL_quietHours_3 : decode cL_quietHours 3 = .ok (.iload_n 1, 1) := by decide +kernel
theorem dL_quietHours_4 : decode cL_quietHours 4 = .ok (.invokevirtual 90, 3) := by decide +kernel
theorem dL_quietHours_7 : decode cL_quietHours 7 = .ok (.lastore, 1) := by decide +kernel
theorem dL_quietHours_8 : decode cL_quietHours 8 = .ok (.goto 6, 3) := by decide +kernel
theorem dL_quietHours_11 : decode cL_quietHours 11 = .ok (.astore_n 3, 1) := by decide +kernel
theorem dL_quietHours_12 : decode cL_quietHours 12 = .ok (.iconst 1, 1) := by decide +kernel
theorem dL_quietHours_13 : decode cL_quietHours 13 = .ok (.ireturn, 1) := by decide +kernel
theorem dL_quietHours_14 : decode cL_quietHours 14 = .ok (.iconst 0, 1) := by decide +kernel
theorem dL_quietHours_15 : decode cL_quietHours 15 = .ok (.ireturn, 1) := by decide +kernel
theorem dL_quietWell_0 : decode cL_quietWell 0 = .ok (.aload_n 3, 1) := by decide +kernel
theorem dL_quietWell_1 : decode cL_quietWell 1 = .ok (.iconst 0, 1) := by decide +kernel
theorem dL_quietWell_2 : decode cL_quietWell 2 = .ok (.aload_n 0, 1) := by decide +kernel
theorem dL_quietWell_3 : decode cL_quietWell 3 = .ok (.iload_n 1, 1) := by decide +kernel
theorem dL_quietWell_4 : decode cL_quietWell 4 = .ok (.iload_n 2, 1) := by decide +kernel
theorem dL_quietWell_5 : decode cL_quietWell 5 = .ok (.invokevirtual 94, 3) := by decide +kernel
theorem dL_quietWell_8 : decode cL_quietWell 8 = .ok (.i2l, 1) := by decide +kernel
theorem dL_quietWell_9 : decode cL_quietWell 9 = .ok (.lastore, 1) := by decide +kernel
theorem dL_quietWell_10 : decode cL_quietWell 10 = .ok (.goto 11, 3) := by decide +kernel
theorem dL_quietWell_13 : decode cL_quietWell 13 = .ok (.astore 4, 2) := by decide +kernel
theorem dL_quietWell_15 : decode cL_quietWell 15 = .ok (.iconst 1, 1) := by decide +kernel
theorem dL_quietWell_16 : decode cL_quietWell 16 = .ok (.ireturn, 1) := by decide +kernel
theorem dL_quietWell_17 : decode cL_quietWell 17 = .ok (.astore 4, 2) := by decide +kernel
theorem dL_quietWell_19 : decode cL_quietWell 19 = .ok (.iconst 2, 1) := by decide +kernel
theorem dL_quietWell_20 : decode cL_quietWell 20 = .ok (.ireturn, 1) := by decide +kernel
theorem dL_quietWell_21 : decode cL_quietWell 21 = .ok (.iconst 0, 1) := by decide +kernel
theorem dL_quietWell_22 : decode cL_quietWell 22 = .ok (.ireturn, 1) := by decide +kernel
theorem dL_plan_0 : decode cL_plan 0 = .ok (.aload_n 2, 1) := by decide +kernel
theorem dL_plan_1 : decode cL_plan 1 = .ok (.iconst 0, 1) := by decide +kernel
theorem dL_plan_2 : decode cL_plan 2 = .ok (.aload_n 0, 1) := by decide +kernel
theorem dL_plan_3 : decode cL_plan 3 = .ok (.iload_n 1, 1) := by decide +kernel
theorem dL_plan_4 : decode cL_plan 4 = .ok (.invokevirtual 97, 3) := by decide +kernel
theorem dL_plan_7 : decode cL_plan 7 = .ok (.i2l, 1) := by decide +kernel
theorem dL_plan_8 : decode cL_plan 8 = .ok (.lastore, 1) := by decide +kernel
theorem dL_plan_9 : decode cL_plan 9 = .ok (.goto 6, 3) := by decide +kernel
theorem dL_plan_12 : decode cL_plan 12 = .ok (.astore_n 3, 1) := by decide +kernel
theorem dL_plan_13 : decode cL_plan 13 = .ok (.iconst 1, 1) := by decide +kernel
theorem dL_plan_14 : decode cL_plan 14 = .ok (.ireturn, 1) := by decide +kernel
theorem dL_plan_15 : decode cL_plan 15 = .ok (.iconst 0, 1) := by decide +kernel
theorem dL_plan_16 : decode cL_plan 16 = .ok (.ireturn, 1) := by decide +kernel
theorem dL_served_0 : decode cL_served 0 = .ok (.aload_n 2, 1) := by decide +kernel
theorem dL_served_1 : decode cL_served 1 = .ok (.iconst 0, 1) := by decide +kernel
theorem dL_served_2 : decode cL_served 2 = .ok (.aload_n 0, 1) := by decide +kernel
theorem dL_served_3 : decode cL_served 3 = .ok (.iload_n 1, 1) := by decide +kernel
theorem dL_served_4 : decode cL_served 4 = .ok (.invokevirtual 100, 3) := by decide +kernel
theorem dL_served_7 : decode cL_served 7 = .ok (.i2l, 1) := by decide +kernel
theorem dL_served_8 : decode cL_served 8 = .ok (.lastore, 1) := by decide +kernel
theorem dL_served_9 : decode cL_served 9 = .ok (.goto 6, 3) := by decide +kernel
theorem dL_served_12 : decode cL_served 12 = .ok (.astore_n 3, 1) := by decide +kernel
theorem dL_served_13 : decode cL_served 13 = .ok (.iconst 1, 1) := by decide +kernel
theorem dL_served_14 : decode cL_served 14 = .ok (.ireturn, 1) := by decide +kernel
theorem dL_served_15 : decode cL_served 15 = .ok (.iconst 0, 1) := by decide +kernel
theorem dL_served_16 : decode cL_served 16 = .ok (.ireturn, 1) := by decide +kernel
theorem dL_waterIn_0 : decode cL_waterIn 0 = .ok (.aload_n 3, 1) := by decide +kernel
theorem dL_waterIn_1 : decode cL_waterIn 1 = .ok (.iconst 0, 1) := by decide +kernel
theorem dL_waterIn_2 : decode cL_waterIn 2 = .ok (.aload_n 0, 1) := by decide +kernel
theorem dL_waterIn_3 : decode cL_waterIn 3 = .ok (.iload_n 1, 1) := by decide +kernel
theorem dL_waterIn_4 : decode cL_waterIn 4 = .ok (.iload_n 2, 1) := by decide +kernel
theorem dL_waterIn_5 : decode cL_waterIn 5 = .ok (.invokevirtual 103, 3) := by decide +kernel
theorem dL_waterIn_8 : decode cL_waterIn 8 = .ok (.i2l, 1) := by decide +kernel
theorem dL_waterIn_9 : decode cL_waterIn 9 = .ok (.lastore, 1) := by decide +kernel
theorem dL_waterIn_10 : decode cL_waterIn 10 = .ok (.goto 11, 3) := by decide +kernel
theorem dL_waterIn_13 : decode cL_waterIn 13 = .ok (.astore 4, 2) := by decide +kernel
theorem dL_waterIn_15 : decode cL_waterIn 15 = .ok (.iconst 1, 1) := by decide +kernel
theorem dL_waterIn_16 : decode cL_waterIn 16 = .ok (.ireturn, 1) := by decide +kernel
theorem dL_waterIn_17 : decode cL_waterIn 17 = .ok (.astore 4, 2) := by decide +kernel
theorem dL_waterIn_19 : decode cL_waterIn 19 = .ok (.iconst 2, 1) := by decide +kernel
theorem dL_waterIn_20 : decode cL_waterIn 20 = .ok (.ireturn, 1) := by decide +kernel
theorem dL_waterIn_21 : decode cL_waterIn 21 = .ok (.iconst 0, 1) := by decide +kernel
theorem dL_waterIn_22 : decode cL_waterIn 22 = .ok (.ireturn, 1) := by decide +kernel
theorem dL_hasIn_0 : decode cL_hasIn 0 = .ok (.aload_n 3, 1) := by decide +kernel
theorem dL_hasIn_1 : decode cL_hasIn 1 = .ok (.iconst 0, 1) := by decide +kernel
theorem dL_hasIn_2 : decode cL_hasIn 2 = .ok (.aload_n 0, 1) := by decide +kernel
theorem dL_hasIn_3 : decode cL_hasIn 3 = .ok (.iload_n 1, 1) := by decide +kernel
theorem dL_hasIn_4 : decode cL_hasIn 4 = .ok (.iload_n 2, 1) := by decide +kernel
theorem dL_hasIn_5 : decode cL_hasIn 5 = .ok (.invokevirtual 106, 3) := by decide +kernel
theorem dL_hasIn_8 : decode cL_hasIn 8 = .ok (.i2l, 1) := by decide +kernel
theorem dL_hasIn_9 : decode cL_hasIn 9 = .ok (.lastore, 1) := by decide +kernel
theorem dL_hasIn_10 : decode cL_hasIn 10 = .ok (.goto 11, 3) := by decide +kernel
theorem dL_hasIn_13 : decode cL_hasIn 13 = .ok (.astore 4, 2) := by decide +kernel
theorem dL_hasIn_15 : decode cL_hasIn 15 = .ok (.iconst 1, 1) := by decide +kernel
theorem dL_hasIn_16 : decode cL_hasIn 16 = .ok (.ireturn, 1) := by decide +kernel
theorem dL_hasIn_17 : decode cL_hasIn 17 = .ok (.astore 4, 2) := by decide +kernel
theorem dL_hasIn_19 : decode cL_hasIn 19 = .ok (.iconst 2, 1) := by decide +kernel
theorem dL_hasIn_20 : decode cL_hasIn 20 = .ok (.ireturn, 1) := by decide +kernel
theorem dL_hasIn_21 : decode cL_hasIn 21 = .ok (.iconst 0, 1) := by decide +kernel
theorem dL_hasIn_22 : decode cL_hasIn 22 = .ok (.ireturn, 1) := by decide +kernel
theorem dL_level_0 : decode cL_level 0 = .ok (.aload_n 3, 1) := by decide +kernel
theorem dL_level_1 : decode cL_level 1 = .ok (.iconst 0, 1) := by decide +kernel
theorem dL_level_2 : decode cL_level 2 = .ok (.aload_n 0, 1) := by decide +kernel
theorem dL_level_3 : decode cL_level 3 = .ok (.iload_n 1, 1) := by decide +kernel
theorem dL_level_4 : decode cL_level 4 = .ok (.iload_n 2, 1) := by decide +kernel
theorem dL_level_5 : decode cL_level 5 = .ok (.invokevirtual 109, 3) := by decide +kernel
theorem dL_level_8 : decode cL_level 8 = .ok (.i2l, 1) := by decide +kernel
theorem dL_level_9 : decode cL_level 9 = .ok (.lastore, 1) := by decide +kernel
theorem dL_level_10 : decode cL_level 10 = .ok (.goto 11, 3) := by decide +kernel
theorem dL_level_13 : decode cL_level 13 = .ok (.astore 4, 2) := by decide +kernel
theorem dL_level_15 : decode cL_level 15 = .ok (.iconst 1, 1) := by decide +kernel
theorem dL_level_16 : decode cL_level 16 = .ok (.ireturn, 1) := by decide +kernel
theorem dL_level_17 : decode cL_level 17 = .ok (.astore 4, 2) := by decide +kernel
theorem dL_level_19 : decode cL_level 19 = .ok (.iconst 2, 1) := by decide +kernel
theorem dL_level_20 : decode cL_level 20 = .ok (.ireturn, 1) := by decide +kernel
theorem dL_level_21 : decode cL_level 21 = .ok (.iconst 0, 1) := by decide +kernel
theorem dL_level_22 : decode cL_level 22 = .ok (.ireturn, 1) := by decide +kernel
theorem dL_seen_0 : decode cL_seen 0 = .ok (.aload_n 2, 1) := by decide +kernel
theorem dL_seen_1 : decode cL_seen 1 = .ok (.iconst 0, 1) := by decide +kernel
theorem dL_seen_2 : decode cL_seen 2 = .ok (.aload_n 0, 1) := by decide +kernel
theorem dL_seen_3 : decode cL_seen 3 = .ok (.iload_n 1, 1) := by decide +kernel
theorem dL_seen_4 : decode cL_seen 4 = .ok (.invokevirtual 112, 3) := by decide +kernel
theorem dL_seen_7 : decode cL_seen 7 = .ok (.i2l, 1) := by decide +kernel
theorem dL_seen_8 : decode cL_seen 8 = .ok (.lastore, 1) := by decide +kernel
theorem dL_seen_9 : decode cL_seen 9 = .ok (.goto 12, 3) := by decide +kernel
theorem dL_seen_12 : decode cL_seen 12 = .ok (.astore_n 3, 1) := by decide +kernel
theorem dL_seen_13 : decode cL_seen 13 = .ok (.iconst 1, 1) := by decide +kernel
theorem dL_seen_14 : decode cL_seen 14 = .ok (.ireturn, 1) := by decide +kernel
theorem dL_seen_15 : decode cL_seen 15 = .ok (.astore_n 3, 1) := by decide +kernel
theorem dL_seen_16 : decode cL_seen 16 = .ok (.iconst 2, 1) := by decide +kernel
theorem dL_seen_17 : decode cL_seen 17 = .ok (.ireturn, 1) := by decide +kernel
theorem dL_seen_18 : decode cL_seen 18 = .ok (.astore_n 3, 1) := by decide +kernel
theorem dL_seen_19 : decode cL_seen 19 = .ok (.iconst 3, 1) := by decide +kernel
theorem dL_seen_20 : decode cL_seen 20 = .ok (.ireturn, 1) := by decide +kernel
theorem dL_seen_21 : decode cL_seen 21 = .ok (.iconst 0, 1) := by decide +kernel
theorem dL_seen_22 : decode cL_seen 22 = .ok (.ireturn, 1) := by decide +kernel
theorem dL_roundAt_0 : decode cL_roundAt 0 = .ok (.aload_n 3, 1) := by decide +kernel
theorem dL_roundAt_1 : decode cL_roundAt 1 = .ok (.iconst 0, 1) := by decide +kernel
theorem dL_roundAt_2 : decode cL_roundAt 2 = .ok (.aload_n 0, 1) := by decide +kernel
theorem dL_roundAt_3 : decode cL_roundAt 3 = .ok (.iload_n 1, 1) := by decide +kernel
theorem dL_roundAt_4 : decode cL_roundAt 4 = .ok (.iload_n 2, 1) := by decide +kernel
theorem dL_roundAt_5 : decode cL_roundAt 5 = .ok (.invokevirtual 115, 3) := by decide +kernel
theorem dL_roundAt_8 : decode cL_roundAt 8 = .ok (.i2l, 1) := by decide +kernel
theorem dL_roundAt_9 : decode cL_roundAt 9 = .ok (.lastore, 1) := by decide +kernel
theorem dL_roundAt_10 : decode cL_roundAt 10 = .ok (.goto 15, 3) := by decide +kernel
theorem dL_roundAt_13 : decode cL_roundAt 13 = .ok (.astore 4, 2) := by decide +kernel
theorem dL_roundAt_15 : decode cL_roundAt 15 = .ok (.iconst 1, 1) := by decide +kernel
theorem dL_roundAt_16 : decode cL_roundAt 16 = .ok (.ireturn, 1) := by decide +kernel
theorem dL_roundAt_17 : decode cL_roundAt 17 = .ok (.astore 4, 2) := by decide +kernel
theorem dL_roundAt_19 : decode cL_roundAt 19 = .ok (.iconst 2, 1) := by decide +kernel
theorem dL_roundAt_20 : decode cL_roundAt 20 = .ok (.ireturn, 1) := by decide +kernel
theorem dL_roundAt_21 : decode cL_roundAt 21 = .ok (.astore 4, 2) := by decide +kernel
theorem dL_roundAt_23 : decode cL_roundAt 23 = .ok (.iconst 3, 1) := by decide +kernel
theorem dL_roundAt_24 : decode cL_roundAt 24 = .ok (.ireturn, 1) := by decide +kernel
theorem dL_roundAt_25 : decode cL_roundAt 25 = .ok (.iconst 0, 1) := by decide +kernel
theorem dL_roundAt_26 : decode cL_roundAt 26 = .ok (.ireturn, 1) := by decide +kernel
theorem dL_listen_0 : decode cL_listen 0 = .ok (.aload_n 2, 1) := by decide +kernel
theorem dL_listen_1 : decode cL_listen 1 = .ok (.iconst 0, 1) := by decide +kernel
theorem dL_listen_2 : decode cL_listen 2 = .ok (.aload_n 0, 1) := by decide +kernel
theorem dL_listen_3 : decode cL_listen 3 = .ok (.iload_n 1, 1) := by decide +kernel
theorem dL_listen_4 : decode cL_listen 4 = .ok (.invokevirtual 118, 3) := by decide +kernel
theorem dL_listen_7 : decode cL_listen 7 = .ok (.i2l, 1) := by decide +kernel
theorem dL_listen_8 : decode cL_listen 8 = .ok (.lastore, 1) := by decide +kernel
theorem dL_listen_9 : decode cL_listen 9 = .ok (.goto 12, 3) := by decide +kernel
theorem dL_listen_12 : decode cL_listen 12 = .ok (.astore_n 3, 1) := by decide +kernel
theorem dL_listen_13 : decode cL_listen 13 = .ok (.iconst 1, 1) := by decide +kernel
theorem dL_listen_14 : decode cL_listen 14 = .ok (.ireturn, 1) := by decide +kernel
theorem dL_listen_15 : decode cL_listen 15 = .ok (.astore_n 3, 1) := by decide +kernel
theorem dL_listen_16 : decode cL_listen 16 = .ok (.iconst 2, 1) := by decide +kernel
theorem dL_listen_17 : decode cL_listen 17 = .ok (.ireturn, 1) := by decide +kernel
theorem dL_listen_18 : decode cL_listen 18 = .ok (.astore_n 3, 1) := by decide +kernel
theorem dL_listen_19 : decode cL_listen 19 = .ok (.iconst 3, 1) := by decide +kernel
theorem dL_listen_20 : decode cL_listen 20 = .ok (.ireturn, 1) := by decide +kernel
theorem dL_listen_21 : decode cL_listen 21 = .ok (.iconst 0, 1) := by decide +kernel
theorem dL_listen_22 : decode cL_listen 22 = .ok (.ireturn, 1) := by decide +kernel
theorem dL_whose_0 : decode cL_whose 0 = .ok (.aload_n 2, 1) := by decide +kernel
theorem dL_whose_1 : decode cL_whose 1 = .ok (.iconst 0, 1) := by decide +kernel
theorem dL_whose_2 : decode cL_whose 2 = .ok (.aload_n 0, 1) := by decide +kernel
theorem dL_whose_3 : decode cL_whose 3 = .ok (.iload_n 1, 1) := by decide +kernel
theorem dL_whose_4 : decode cL_whose 4 = .ok (.invokevirtual 121, 3) := by decide +kernel
theorem dL_whose_7 : decode cL_whose 7 = .ok (.i2l, 1) := by decide +kernel
theorem dL_whose_8 : decode cL_whose 8 = .ok (.lastore, 1) := by decide +kernel
theorem dL_whose_9 : decode cL_whose 9 = .ok (.goto 12, 3) := by decide +kernel
theorem dL_whose_12 : decode cL_whose 12 = .ok (.astore_n 3, 1) := by decide +kernel
theorem dL_whose_13 : decode cL_whose 13 = .ok (.iconst 1, 1) := by decide +kernel
theorem dL_whose_14 : decode cL_whose 14 = .ok (.ireturn, 1) := by decide +kernel
theorem dL_whose_15 : decode cL_whose 15 = .ok (.astore_n 3, 1) := by decide +kernel
theorem dL_whose_16 : decode cL_whose 16 = .ok (.iconst 2, 1) := by decide +kernel
theorem dL_whose_17 : decode cL_whose 17 = .ok (.ireturn, 1) := by decide +kernel
theorem dL_whose_18 : decode cL_whose 18 = .ok (.astore_n 3, 1) := by decide +kernel
theorem dL_whose_19 : decode cL_whose 19 = .ok (.iconst 3, 1) := by decide +kernel
theorem dL_whose_20 : decode cL_whose 20 = .ok (.ireturn, 1) := by decide +kernel
theorem dL_whose_21 : decode cL_whose 21 = .ok (.iconst 0, 1) := by decide +kernel
theorem dL_whose_22 : decode cL_whose 22 = .ok (.ireturn, 1) := by decide +kernel
theorem dL_tray_0 : decode cL_tray 0 = .ok (.aload_n 0, 1) := by decide +kernel
theorem dL_tray_1 : decode cL_tray 1 = .ok (.iload_n 1, 1) := by decide +kernel
theorem dL_tray_2 : decode cL_tray 2 = .ok (.iload_n 2, 1) := by decide +kernel
theorem dL_tray_3 : decode cL_tray 3 = .ok (.iload_n 3, 1) := by decide +kernel
theorem dL_tray_4 : decode cL_tray 4 = .ok (.invokevirtual 124, 3) := by decide +kernel
theorem dL_tray_7 : decode cL_tray 7 = .ok (.goto 11, 3) := by decide +kernel
theorem dL_tray_10 : decode cL_tray 10 = .ok (.astore 4, 2) := by decide +kernel
theorem dL_tray_12 : decode cL_tray 12 = .ok (.iconst 1, 1) := by decide +kernel
theorem dL_tray_13 : decode cL_tray 13 = .ok (.ireturn, 1) := by decide +kernel
theorem dL_tray_14 : decode cL_tray 14 = .ok (.astore 4, 2) := by decide +kernel
theorem dL_tray_16 : decode cL_tray 16 = .ok (.iconst 2, 1) := by decide +kernel
theorem dL_tray_17 : decode cL_tray 17 = .ok (.ireturn, 1) := by decide +kernel
theorem dL_tray_18 : decode cL_tray 18 = .ok (.iconst 0, 1) := by decide +kernel
theorem dL_tray_19 : decode cL_tray 19 = .ok (.ireturn, 1) := by decide +kernel
theorem dL_write_0 : decode cL_write 0 = .ok (.aload 5, 2) := by decide +kernel
theorem dL_write_2 : decode cL_write 2 = .ok (.iconst 0, 1) := by decide +kernel
theorem dL_write_3 : decode cL_write 3 = .ok (.aload_n 0, 1) := by decide +kernel
theorem dL_write_4 : decode cL_write 4 = .ok (.iload_n 1, 1) := by decide +kernel
theorem dL_write_5 : decode cL_write 5 = .ok (.iload_n 2, 1) := by decide +kernel
theorem dL_write_6 : decode cL_write 6 = .ok (.lload_n 3, 1) := by decide +kernel
theorem dL_write_7 : decode cL_write 7 = .ok (.invokevirtual 128, 3) := by decide +kernel
theorem dL_write_10 : decode cL_write 10 = .ok (.lastore, 1) := by decide +kernel
theorem dL_write_11 : decode cL_write 11 = .ok (.goto 15, 3) := by decide +kernel
theorem dL_write_14 : decode cL_write 14 = .ok (.astore 6, 2) := by decide +kernel
theorem dL_write_16 : decode cL_write 16 = .ok (.iconst 1, 1) := by decide +kernel
theorem dL_write_17 : decode cL_write 17 = .ok (.ireturn, 1) := by decide +kernel
theorem dL_write_18 : decode cL_write 18 = .ok (.astore 6, 2) := by decide +kernel
theorem dL_write_20 : decode cL_write 20 = .ok (.iconst 2, 1) := by decide +kernel
theorem dL_write_21 : decode cL_write 21 = .ok (.ireturn, 1) := by decide +kernel
theorem dL_write_22 : decode cL_write 22 = .ok (.astore 6, 2) := by decide +kernel
theorem dL_write_24 : decode cL_write 24 = .ok (.iconst 3, 1) := by decide +kernel
theorem dL_write_25 : decode cL_write 25 = .ok (.ireturn, 1) := by decide +kernel
theorem dL_write_26 : decode cL_write 26 = .ok (.iconst 0, 1) := by decide +kernel
theorem dL_write_27 : decode cL_write 27 = .ok (.ireturn, 1) := by decide +kernel
theorem dL_copy_0 : decode cL_copy 0 = .ok (.aload_n 3, 1) := by decide +kernel
theorem dL_copy_1 : decode cL_copy 1 = .ok (.iconst 0, 1) := by decide +kernel
theorem dL_copy_2 : decode cL_copy 2 = .ok (.aload_n 0, 1) := by decide +kernel
theorem dL_copy_3 : decode cL_copy 3 = .ok (.iload_n 1, 1) := by decide +kernel
theorem dL_copy_4 : decode cL_copy 4 = .ok (.iload_n 2, 1) := by decide +kernel
theorem dL_copy_5 : decode cL_copy 5 = .ok (.invokevirtual 134, 3) := by decide +kernel
theorem dL_copy_8 : decode cL_copy 8 = .ok (.i2l, 1) := by decide +kernel
theorem dL_copy_9 : decode cL_copy 9 = .ok (.lastore, 1) := by decide +kernel
theorem dL_copy_10 : decode cL_copy 10 = .ok (.goto 11, 3) := by decide +kernel
theorem dL_copy_13 : decode cL_copy 13 = .ok (.astore 4, 2) := by decide +kernel
theorem dL_copy_15 : decode cL_copy 15 = .ok (.iconst 1, 1) := by decide +kernel
theorem dL_copy_16 : decode cL_copy 16 = .ok (.ireturn, 1) := by decide +kernel
theorem dL_copy_17 : decode cL_copy 17 = .ok (.astore 4, 2) := by decide +kernel
theorem dL_copy_19 : decode cL_copy 19 = .ok (.iconst 2, 1) := by decide +kernel
theorem dL_copy_20 : decode cL_copy 20 = .ok (.ireturn, 1) := by decide +kernel
theorem dL_copy_21 : decode cL_copy 21 = .ok (.iconst 0, 1) := by decide +kernel
theorem dL_copy_22 : decode cL_copy 22 = .ok (.ireturn, 1) := by decide +kernel
theorem dL_image_0 : decode cL_image 0 = .ok (.aload_n 0, 1) := by decide +kernel
theorem dL_image_1 : decode cL_image 1 = .ok (.iload_n 1, 1) := by decide +kernel
theorem dL_image_2 : decode cL_image 2 = .ok (.invokevirtual 137, 3) := by decide +kernel
theorem dL_image_5 : decode cL_image 5 = .ok (.goto 6, 3) := by decide +kernel
theorem dL_image_8 : decode cL_image 8 = .ok (.astore_n 2, 1) := by decide +kernel
theorem dL_image_9 : decode cL_image 9 = .ok (.iconst 1, 1) := by decide +kernel
theorem dL_image_10 : decode cL_image 10 = .ok (.ireturn, 1) := by decide +kernel
theorem dL_image_11 : decode cL_image 11 = .ok (.iconst 0, 1) := by decide +kernel
theorem dL_image_12 : decode cL_image 12 = .ok (.ireturn, 1) := by decide +kernel
theorem dL_restore_0 : decode cL_restore 0 = .ok (.aload_n 0, 1) := by decide +kernel
theorem dL_restore_1 : decode cL_restore 1 = .ok (.iload_n 1, 1) := by decide +kernel
theorem dL_restore_2 : decode cL_restore 2 = .ok (.invokevirtual 141, 3) := by decide +kernel
theorem dL_restore_5 : decode cL_restore 5 = .ok (.goto 9, 3) := by decide +kernel
theorem dL_restore_8 : decode cL_restore 8 = .ok (.astore_n 2, 1) := by decide +kernel
theorem dL_restore_9 : decode cL_restore 9 = .ok (.iconst 1, 1) := by decide +kernel
theorem dL_restore_10 : decode cL_restore 10 = .ok (.ireturn, 1) := by decide +kernel
theorem dL_restore_11 : decode cL_restore 11 = .ok (.astore_n 2, 1) := by decide +kernel
theorem dL_restore_12 : decode cL_restore 12 = .ok (.iconst 2, 1) := by decide +kernel
theorem dL_restore_13 : decode cL_restore 13 = .ok (.ireturn, 1) := by decide +kernel
theorem dL_restore_14 : decode cL_restore 14 = .ok (.iconst 0, 1) := by decide +kernel
theorem dL_restore_15 : decode cL_restore 15 = .ok (.ireturn, 1) := by decide +kernel
section WS
variable {x : xG} {p : Program} {l : Launch} {e : Env} {R : Room} {s : State} {m : MethodId} {args : Array Value} {below : List Frame} {meth : Method} {c : Code} {Q : State → Prop} {cc : ByteArray} {nL : Nat} {pc : Nat} {lo : List (Nat × Value)} {st : List Value} {w : Wd} {i j : Nat}
def w_L_hills (mc ms : Nat) (a0 : Nat) (a1 : Int32) (a2 : Nat) (K : Int32 → Wd → Prop) (w : Wd) : Prop :=
  isK w a0 11 ∧ ∃ c1 s1, (c1 ≤ mc ∧ s1 ≤ ms) ∧ w_X11_hills c1 s1 a0 a1 (fun r1 w1 => isK w1 a2 21 ∧ vp_in 0 (wn w1 a2) ∧ K 0 (uL w1 a2 (0 : Int32).toNatClampNeg r1.toInt64)) (fun E u => (E = "java/lang/IllegalArgumentException" ∧ K 1 u)) w
theorem c_L_hills {x : xG} {l : Launch} (hl : l.stackTraces = false) {mc ms : Nat} {a0 : Nat} {a1 : Int32} {a2 : Nat} {K : Int32 → Wd → Prop} {w : Wd} (h : w_L_hills mc ms a0 a1 a2 K w) : Met l yL_hills (xwsH yL_hills cL_hills 4 (some .int) [(0, 9, 12, 13)]) (rmd 215 mc ms) (xPc x [.ref (adr x a0), .int a1, .ref (adr x a2)] w) (QcI x K) mc ms (xA x) := by
  refine xMetH (by decide) (Nat.le_of_ble_eq_true rfl) (fun p e s m below meth c C hlk hr htab => ?_)
  show GW x p l e (rmd 215 mc ms) s m [.ref (adr x a0), .int a1, .ref (adr x a2)].toArray below meth c 4 (QI x K below [.ref (adr x a0), .int a1, .ref (adr x a2)].toArray s mc ms) 0 [(0, .ref (adr x a0)), (1, .int a1), (2, .ref (adr x a2))] [] w 0 0
  obtain ⟨k0, h⟩ := h
  obtain ⟨c1, s1, hb, h⟩ := h
  replace hb : 0 + c1 ≤ mc ∧ 0 + s1 ≤ ms := by omega
  refine g_aload_n (pc := 0) C dL_hills_0 (q := 2) rfl ?_
  refine g_iconst (pc := 1) C dL_hills_1 (v := 0) rfl ?_
  refine g_aload_n (pc := 2) C dL_hills_2 (q := 0) rfl ?_
  refine g_iload_n (pc := 3) C dL_hills_3 (q := 1) rfl ?_
  refine gh_callVi (pc := 4) C (As := [.int a1]) (rest := [.int 0, .ref (adr x a2)]) (ci := 11) (mc := c1) (ms := s1) (c_X11_hills hl h) (x_cwV C 1 LML_7 ⟨rfl, by decide, by decide, rfl⟩ (Nat.le_of_ble_eq_true rfl) (by decide)) rfl k0 (by decide) rfl rfl (Nat.le_of_ble_eq_true rfl) dL_hills_4 ⟨hb.1, hb.2⟩ (fun E q u H1 locs1 ls ce hX g1 g2 g3 g4 g5 g6 => ?_) (fun r1 w1 h => ?_)
  · obtain ⟨rfl, h⟩ := hX
    refine gh_catch C (E := "java/lang/IllegalArgumentException") [] ⟨0, 9, 12, 13⟩ [] htab (fun y hy => nomatch hy) rfl (by decide) LCLL_13 (by decide) g1 g2 g3 g4 g5 g6 ?_
    refine g_astore_n (pc := 12) C dL_hills_12 (Nat.le_of_ble_eq_true rfl) (lo' := [(3, .ref q), (0, .ref (adr x a0)), (1, .int a1), (2, .ref (adr x a2))]) rfl ?_
    refine g_iconst (pc := 13) C dL_hills_13 (v := 1) rfl ?_
    exact g_iret (pc := 14) C hlk hr hb.1 hb.2 dL_hills_14 h
  · refine g_i2l (pc := 7) C dL_hills_7 ?_
    obtain ⟨k1, h⟩ := h
    obtain ⟨k2, h⟩ := h
    refine g_last (pc := 8) C k1 k2 dL_hills_8 ?_
    refine g_goto (pc := 9) C dL_hills_9 (tgt := 15) rfl ?_
    refine g_iconst (pc := 15) C dL_hills_15 (v := 0) rfl ?_
    exact g_iret (pc := 16) C hlk hr hb.1 hb.2 dL_hills_16 h
def w_L_well (mc ms : Nat) (a0 : Nat) (a1 : Int32) (a2 : Int32) (a3 : Nat) (K : Int32 → Wd → Prop) (w : Wd) : Prop :=
  isK w a0 11 ∧ (2 ≤ mc ∧ 12 ≤ ms) ∧ w_X11_well 2 12 a0 a1 a2 (fun r1 w1 => isK w1 a3 21 ∧ vp_in 0 (wn w1 a3) ∧ K 0 (uL w1 a3 (0 : Int32).toNatClampNeg r1.toInt64)) (fun E u => (E = "java/util/NoSuchElementException" ∧ K 1 u) ∨ (E = "java/lang/IllegalArgumentException" ∧ K 2 u)) w
theorem c_L_well {x : xG} {l : Launch} (hl : l.stackTraces = false) {mc ms : Nat} {a0 : Nat} {a1 : Int32} {a2 : Int32} {a3 : Nat} {K : Int32 → Wd → Prop} {w : Wd} (h : w_L_well mc ms a0 a1 a2 a3 K w) : Met l yL_well (xwsH yL_well cL_well 5 (some .int) [(0, 10, 13, 19), (0, 10, 17, 13)]) (rmd 8 mc ms) (xPc x [.ref (adr x a0), .int a1, .int a2, .ref (adr x a3)] w) (QcI x K) mc ms (xA x) := by
  refine xMetH (by decide) (Nat.le_of_ble_eq_true rfl) (fun p e s m below meth c C hlk hr htab => ?_)
  show GW x p l e (rmd 8 mc ms) s m [.ref (adr x a0), .int a1, .int a2, .ref (adr x a3)].toArray below meth c 5 (QI x K below [.ref (adr x a0), .int a1, .int a2, .ref (adr x a3)].toArray s mc ms) 0 [(0, .ref (adr x a0)), (1, .int a1), (2, .int a2), (3, .ref (adr x a3))] [] w 0 0
  obtain ⟨k0, h⟩ := h
  obtain ⟨hb, h⟩ := h
  replace hb : 0 + 2 ≤ mc ∧ 0 + 12 ≤ ms := by omega
  refine g_aload_n (pc := 0) C dL_well_0 (q := 3) rfl ?_
  refine g_iconst (pc := 1) C dL_well_1 (v := 0) rfl ?_
  refine g_aload_n (pc := 2) C dL_well_2 (q := 0) rfl ?_
  refine g_iload_n (pc := 3) C dL_well_3 (q := 1) rfl ?_
  refine g_iload_n (pc := 4) C dL_well_4 (q := 2) rfl ?_
  refine gh_callVi (pc := 5) C (As := [.int a1, .int a2]) (rest := [.int 0, .ref (adr x a3)]) (ci := 11) (mc := 2) (ms := 12) (c_X11_well hl h) (x_cwV C 2 LML_15 ⟨rfl, by decide, by decide, rfl⟩ (Nat.le_of_ble_eq_true rfl) (by decide)) rfl k0 (by decide) rfl rfl (Nat.le_of_ble_eq_true rfl) dL_well_5 ⟨hb.1, hb.2⟩ (fun E q u H1 locs1 ls ce hX g1 g2 g3 g4 g5 g6 => ?_) (fun r1 w1 h => ?_)
  · rcases hX with ⟨rfl, h⟩ | ⟨rfl, h⟩
    · refine gh_catch C (E := "java/util/NoSuchElementException") [] ⟨0, 10, 13, 19⟩ [⟨0, 10, 17, 13⟩] htab (fun y hy => nomatch hy) rfl (by decide) LCLL_19 (by decide) g1 g2 g3 g4 g5 g6 ?_
      refine g_astore (pc := 13) C dL_well_13 (Nat.le_of_ble_eq_true rfl) (lo' := [(4, .ref q), (0, .ref (adr x a0)), (1, .int a1), (2, .int a2), (3, .ref (adr x a3))]) rfl ?_
      refine g_iconst (pc := 15) C dL_well_15 (v := 1) rfl ?_
      exact g_iret (pc := 16) C hlk hr hb.1 hb.2 dL_well_16 h
    · refine gh_catch C (E := "java/lang/IllegalArgumentException") [⟨0, 10, 13, 19⟩] ⟨0, 10, 17, 13⟩ [] htab (fun y hy => by
      simp only [List.mem_cons, List.not_mem_nil, or_false] at hy
      rcases hy with rfl
      · exact ⟨by decide, _, LCLL_19, by decide⟩) rfl (by decide) LCLL_13 (by decide) g1 g2 g3 g4 g5 g6 ?_
      refine g_astore (pc := 17) C dL_well_17 (Nat.le_of_ble_eq_true rfl) (lo' := [(4, .ref q), (0, .ref (adr x a0)), (1, .int a1), (2, .int a2), (3, .ref (adr x a3))]) rfl ?_
      refine g_iconst (pc := 19) C dL_well_19 (v := 2) rfl ?_
      exact g_iret (pc := 20) C hlk hr hb.1 hb.2 dL_well_20 h
  · refine g_i2l (pc := 8) C dL_well_8 ?_
    obtain ⟨k1, h⟩ := h
    obtain ⟨k2, h⟩ := h
    refine g_last (pc := 9) C k1 k2 dL_well_9 ?_
    refine g_goto (pc := 10) C dL_well_10 (tgt := 21) rfl ?_
    refine g_iconst (pc := 21) C dL_well_21 (v := 0) rfl ?_
    exact g_iret (pc := 22) C hlk hr hb.1 hb.2 dL_well_22 h
def w_L_house (mc ms : Nat) (a0 : Nat) (a1 : Int32) (a2 : Int32) (a3 : Nat) (K : Int32 → Wd → Prop) (w : Wd) : Prop :=
  isK w a0 11 ∧ (2 ≤ mc ∧ 12 ≤ ms) ∧ w_X11_house 2 12 a0 a1 a2 (fun r1 w1 => isK w1 a3 21 ∧ vp_in 0 (wn w1 a3) ∧ K 0 (uL w1 a3 (0 : Int32).toNatClampNeg r1.toInt64)) (fun E u => (E = "java/util/NoSuchElementException" ∧ K 1 u) ∨ (E = "java/lang/IllegalArgumentException" ∧ K 2 u)) w
theorem c_L_house {x : xG} {l : Launch} (hl : l.stackTraces = false) {mc ms : Nat} {a0 : Nat} {a1 : Int32} {a2 : Int32} {a3 : Nat} {K : Int32 → Wd → Prop} {w : Wd} (h : w_L_house mc ms a0 a1 a2 a3 K w) : Met l yL_house (xwsH yL_house cL_house 5 (some .int) [(0, 10, 13, 19), (0, 10, 17, 13)]) (rmd 8 mc ms) (xPc x [.ref (adr x a0), .int a1, .int a2, .ref (adr x a3)] w) (QcI x K) mc ms (xA x) := by
  refine xMetH (by decide) (Nat.le_of_ble_eq_true rfl) (fun p e s m below meth c C hlk hr htab => ?_)
  show GW x p l e (rmd 8 mc ms) s m [.ref (adr x a0), .int a1, .int a2, .ref (adr x a3)].toArray below meth c 5 (QI x K below [.ref (adr x a0), .int a1, .int a2, .ref (adr x a3)].toArray s mc ms) 0 [(0, .ref (adr x a0)), (1, .int a1), (2, .int a2), (3, .ref (adr x a3))] [] w 0 0
  obtain ⟨k0, h⟩ := h
  obtain ⟨hb, h⟩ := h
  replace hb : 0 + 2 ≤ mc ∧ 0 + 12 ≤ ms := by omega
  refine g_aload_n (pc := 0) C dL_house_0 (q := 3) rfl ?_
  refine g_iconst (pc := 1) C dL_house_1 (v := 0) rfl ?_
  refine g_aload_n (pc := 2) C dL_house_2 (q := 0) rfl ?_
  refine g_iload_n (pc := 3) C dL_house_3 (q := 1) rfl ?_
  refine g_iload_n (pc := 4) C dL_house_4 (q := 2) rfl ?_
  refine gh_callVi (pc := 5) C (As := [.int a1, .int a2]) (rest := [.int 0, .ref (adr x a3)]) (ci := 11) (mc := 2) (ms := 12) (c_X11_house hl h) (x_cwV C 2 LML_21 ⟨rfl, by decide, by decide, rfl⟩ (Nat.le_of_ble_eq_true rfl) (by decide)) rfl k0 (by decide) rfl rfl (Nat.le_of_ble_eq_true rfl) dL_house_5 ⟨hb.1, hb.2⟩ (fun E q u H1 locs1 ls ce hX g1 g2 g3 g4 g5 g6 => ?_) (fun r1 w1 h => ?_)
  · rcases hX with ⟨rfl, h⟩ | ⟨rfl, h⟩
    · refine gh_catch C (E := "java/util/NoSuchElementException") [] ⟨0, 10, 13, 19⟩ [⟨0, 10, 17, 13⟩] htab (fun y hy => nomatch hy) rfl (by decide) LCLL_19 (by decide) g1 g2 g3 g4 g5 g6 ?_
      refine g_astore (pc := 13) C dL_house_13 (Nat.le_of_ble_eq_true rfl) (lo' := [(4, .ref q), (0, .ref (adr x a0)), (1, .int a1), (2, .int a2), (3, .ref (adr x a3))]) rfl ?_
      refine g_iconst (pc := 15) C dL_house_15 (v := 1) rfl ?_
      exact g_iret (pc := 16) C hlk hr hb.1 hb.2 dL_house_16 h
    · refine gh_catch C (E := "java/lang/IllegalArgumentException") [⟨0, 10, 13, 19⟩] ⟨0, 10, 17, 13⟩ [] htab (fun y hy => by
      simp only [List.mem_cons, List.not_mem_nil, or_false] at hy
      rcases hy with rfl
      · exact ⟨by decide, _, LCLL_19, by decide⟩) rfl (by decide) LCLL_13 (by decide) g1 g2 g3 g4 g5 g6 ?_
      refine g_astore (pc := 17) C dL_house_17 (Nat.le_of_ble_eq_true rfl) (lo' := [(4, .ref q), (0, .ref (adr x a0)), (1, .int a1), (2, .int a2), (3, .ref (adr x a3))]) rfl ?_
      refine g_iconst (pc := 19) C dL_house_19 (v := 2) rfl ?_
      exact g_iret (pc := 20) C hlk hr hb.1 hb.2 dL_house_20 h
  · refine g_i2l (pc := 8) C dL_house_8 ?_
    obtain ⟨k1, h⟩ := h
    obtain ⟨k2, h⟩ := h
    refine g_last (pc := 9) C k1 k2 dL_house_9 ?_
    refine g_goto (pc := 10) C dL_house_10 (tgt := 21) rfl ?_
    refine g_iconst (pc := 21) C dL_house_21 (v := 0) rfl ?_
    exact g_iret (pc := 22) C hlk hr hb.1 hb.2 dL_house_22 h
def w_L_hours (mc ms : Nat) (a0 : Nat) (a1 : Int32) (a2 : Nat) (K : Int32 → Wd → Prop) (w : Wd) : Prop :=
  isK w a0 11 ∧ (1 ≤ mc ∧ 6 ≤ ms) ∧ w_X11_hours 1 6 a0 a1 (fun r1 w1 => isK w1 a2 21 ∧ vp_in 0 (wn w1 a2) ∧ K 0 (uL w1 a2 (0 : Int32).toNatClampNeg r1.toInt64)) (fun E u => (E = "java/lang/IllegalArgumentException" ∧ K 1 u)) w
theorem c_L_hours {x : xG} {l : Launch} (hl : l.stackTraces = false) {mc ms : Nat} {a0 : Nat} {a1 : Int32} {a2 : Nat} {K : Int32 → Wd → Prop} {w : Wd} (h : w_L_hours mc ms a0 a1 a2 K w) : Met l yL_hours (xwsH yL_hours cL_hours 4 (some .int) [(0, 9, 12, 13)]) (rmd 8 mc ms) (xPc x [.ref (adr x a0), .int a1, .ref (adr x a2)] w) (QcI x K) mc ms (xA x) := by
  refine xMetH (by decide) (Nat.le_of_ble_eq_true rfl) (fun p e s m below meth c C hlk hr htab => ?_)
  show GW x p l e (rmd 8 mc ms) s m [.ref (adr x a0), .int a1, .ref (adr x a2)].toArray below meth c 4 (QI x K below [.ref (adr x a0), .int a1, .ref (adr x a2)].toArray s mc ms) 0 [(0, .ref (adr x a0)), (1, .int a1), (2, .ref (adr x a2))] [] w 0 0
  obtain ⟨k0, h⟩ := h
  obtain ⟨hb, h⟩ := h
  replace hb : 0 + 1 ≤ mc ∧ 0 + 6 ≤ ms := by omega
  refine g_aload_n (pc := 0) C dL_hours_0 (q := 2) rfl ?_
  refine g_iconst (pc := 1) C dL_hours_1 (v := 0) rfl ?_
  refine g_aload_n (pc := 2) C dL_hours_2 (q := 0) rfl ?_
  refine g_iload_n (pc := 3) C dL_hours_3 (q := 1) rfl ?_
  refine gh_callVi (pc := 4) C (As := [.int a1]) (rest := [.int 0, .ref (adr x a2)]) (ci := 11) (mc := 1) (ms := 6) (c_X11_hours hl h) (x_cwV C 1 LML_24 ⟨rfl, by decide, by decide, rfl⟩ (Nat.le_of_ble_eq_true rfl) (by decide)) rfl k0 (by decide) rfl rfl (Nat.le_of_ble_eq_true rfl) dL_hours_4 ⟨hb.1, hb.2⟩ (fun E q u H1 locs1 ls ce hX g1 g2 g3 g4 g5 g6 => ?_) (fun r1 w1 h => ?_)
  · obtain ⟨rfl, h⟩ := hX
    refine gh_catch C (E := "java/lang/IllegalArgumentException") [] ⟨0, 9, 12, 13⟩ [] htab (fun y hy => nomatch hy) rfl (by decide) LCLL_13 (by decide) g1 g2 g3 g4 g5 g6 ?_
    refine g_astore_n (pc := 12) C dL_hours_12 (Nat.le_of_ble_eq_true rfl) (lo' := [(3, .ref q), (0, .ref (adr x a0)), (1, .int a1), (2, .ref (adr x a2))]) rfl ?_
    refine g_iconst (pc := 13) C dL_hours_13 (v := 1) rfl ?_
    exact g_iret (pc := 14) C hlk hr hb.1 hb.2 dL_hours_14 h
  · refine g_i2l (pc := 7) C dL_hours_7 ?_
    obtain ⟨k1, h⟩ := h
    obtain ⟨k2, h⟩ := h
    refine g_last (pc := 8) C k1 k2 dL_hours_8 ?_
    refine g_goto (pc := 9) C dL_hours_9 (tgt := 15) rfl ?_
    refine g_iconst (pc := 15) C dL_hours_15 (v := 0) rfl ?_
    exact g_iret (pc := 16) C hlk hr hb.1 hb.2 dL_hours_16 h
def w_L_undo (mc ms : Nat) (a0 : Nat) (a1 : Int32) (a2 : Nat) (K : Int32 → Wd → Prop) (w : Wd) : Prop :=
  isK w a0 11 ∧ (2 ≤ mc ∧ 12 ≤ ms) ∧ w_X11_undo 2 12 a0 a1 (fun r1 w1 => isK w1 a2 21 ∧ vp_in 0 (wn w1 a2) ∧ K 0 (uL w1 a2 (0 : Int32).toNatClampNeg r1.toInt64)) (fun E u => (E = "java/lang/IllegalArgumentException" ∧ K 1 u)) w
theorem c_L_undo {x : xG} {l : Launch} (hl : l.stackTraces = false) {mc ms : Nat} {a0 : Nat} {a1 : Int32} {a2 : Nat} {K : Int32 → Wd → Prop} {w : Wd} (h : w_L_undo mc ms a0 a1 a2 K w) : Met l yL_undo (xwsH yL_undo cL_undo 4 (some .int) [(0, 9, 12, 13)]) (rmd 8 mc ms) (xPc x [.ref (adr x a0), .int a1, .ref (adr x a2)] w) (QcI x K) mc ms (xA x) := by
  refine xMetH (by decide) (Nat.le_of_ble_eq_true rfl) (fun p e s m below meth c C hlk hr htab => ?_)
  show GW x p l e (rmd 8 mc ms) s m [.ref (adr x a0), .int a1, .ref (adr x a2)].toArray below meth c 4 (QI x K below [.ref (adr x a0), .int a1, .ref (adr x a2)].toArray s mc ms) 0 [(0, .ref (adr x a0)), (1, .int a1), (2, .ref (adr x a2))] [] w 0 0
  obtain ⟨k0, h⟩ := h
  obtain ⟨hb, h⟩ := h
  replace hb : 0 + 2 ≤ mc ∧ 0 + 12 ≤ ms := by omega
  refine g_aload_n (pc := 0) C dL_undo_0 (q := 2) rfl ?_
  refine g_iconst (pc := 1) C dL_undo_1 (v := 0) rfl ?_
  refine g_aload_n (pc := 2) C dL_undo_2 (q := 0) rfl ?_
  refine g_iload_n (pc := 3) C dL_undo_3 (q := 1) rfl ?_
  refine gh_callVi (pc := 4) C (As := [.int a1]) (rest := [.int 0, .ref (adr x a2)]) (ci := 11) (mc := 2) (ms := 12) (c_X11_undo hl h) (x_cwV C 1 LML_27 ⟨rfl, by decide, by decide, rfl⟩ (Nat.le_of_ble_eq_true rfl) (by decide)) rfl k0 (by decide) rfl rfl (Nat.le_of_ble_eq_true rfl) dL_undo_4 ⟨hb.1, hb.2⟩ (fun E q u H1 locs1 ls ce hX g1 g2 g3 g4 g5 g6 => ?_) (fun r1 w1 h => ?_)
  · obtain ⟨rfl, h⟩ := hX
    refine gh_catch C (E := "java/lang/IllegalArgumentException") [] ⟨0, 9, 12, 13⟩ [] htab (fun y hy => nomatch hy) rfl (by decide) LCLL_13 (by decide) g1 g2 g3 g4 g5 g6 ?_
    refine g_astore_n (pc := 12) C dL_undo_12 (Nat.le_of_ble_eq_true rfl) (lo' := [(3, .ref q), (0, .ref (adr x a0)), (1, .int a1), (2, .ref (adr x a2))]) rfl ?_
    refine g_iconst (pc := 13) C dL_undo_13 (v := 1) rfl ?_
    exact g_iret (pc := 14) C hlk hr hb.1 hb.2 dL_undo_14 h
  · refine g_i2l (pc := 7) C dL_undo_7 ?_
    obtain ⟨k1, h⟩ := h
    obtain ⟨k2, h⟩ := h
    refine g_last (pc := 8) C k1 k2 dL_undo_8 ?_
    refine g_goto (pc := 9) C dL_undo_9 (tgt := 15) rfl ?_
    refine g_iconst (pc := 15) C dL_undo_15 (v := 0) rfl ?_
    exact g_iret (pc := 16) C hlk hr hb.1 hb.2 dL_undo_16 h
def w_L_judge (mc ms : Nat) (a0 : Nat) (a1 : Int32) (a2 : Int32) (a3 : Nat) (K : Int32 → Wd → Prop) (w : Wd) : Prop :=
  isK w a0 11 ∧ (3 ≤ mc ∧ 18 ≤ ms) ∧ w_X11_judge 3 18 a0 a1 a2 (fun r1 w1 => isK w1 a3 21 ∧ vp_in 0 (wn w1 a3) ∧ K 0 (uL w1 a3 (0 : Int32).toNatClampNeg r1.toInt64)) (fun E u => (E = "java/util/NoSuchElementException" ∧ K 1 u) ∨ (E = "java/lang/IllegalStateException" ∧ K 2 u) ∨ (E = "java/lang/IllegalArgumentException" ∧ K 3 u)) w
theorem c_L_judge {x : xG} {l : Launch} (hl : l.stackTraces = false) {mc ms : Nat} {a0 : Nat} {a1 : Int32} {a2 : Int32} {a3 : Nat} {K : Int32 → Wd → Prop} {w : Wd} (h : w_L_judge mc ms a0 a1 a2 a3 K w) : Met l yL_judge (xwsH yL_judge cL_judge 5 (some .int) [(0, 10, 13, 19), (0, 10, 17, 33), (0, 10, 21, 13)]) (rmd 9 mc ms) (xPc x [.ref (adr x a0), .int a1, .int a2, .ref (adr x a3)] w) (QcI x K) mc ms (xA x) := by
  refine xMetH (by decide) (Nat.le_of_ble_eq_true rfl) (fun p e s m below meth c C hlk hr htab => ?_)
  show GW x p l e (rmd 9 mc ms) s m [.ref (adr x a0), .int a1, .int a2, .ref (adr x a3)].toArray below meth c 5 (QI x K below [.ref (adr x a0), .int a1, .int a2, .ref (adr x a3)].toArray s mc ms) 0 [(0, .ref (adr x a0)), (1, .int a1), (2, .int a2), (3, .ref (adr x a3))] [] w 0 0
  obtain ⟨k0, h⟩ := h
  obtain ⟨hb, h⟩ := h
  replace hb : 0 + 3 ≤ mc ∧ 0 + 18 ≤ ms := by omega
  refine g_aload_n (pc := 0) C dL_judge_0 (q := 3) rfl ?_
  refine g_iconst (pc := 1) C dL_judge_1 (v := 0) rfl ?_
  refine g_aload_n (pc := 2) C dL_judge_2 (q := 0) rfl ?_
  refine g_iload_n (pc := 3) C dL_judge_3 (q := 1) rfl ?_
  refine g_iload_n (pc := 4) C dL_judge_4 (q := 2) rfl ?_
  refine gh_callVi (pc := 5) C (As := [.int a1, .int a2]) (rest := [.int 0, .ref (adr x a3)]) (ci := 11) (mc := 3) (ms := 18) (c_X11_judge hl h) (x_cwV C 2 LML_30 ⟨rfl, by decide, by decide, rfl⟩ (Nat.le_of_ble_eq_true rfl) (by decide)) rfl k0 (by decide) rfl rfl (Nat.le_of_ble_eq_true rfl) dL_judge_5 ⟨hb.1, hb.2⟩ (fun E q u H1 locs1 ls ce hX g1 g2 g3 g4 g5 g6 => ?_) (fun r1 w1 h => ?_)
  · rcases hX with ⟨rfl, h⟩ | ⟨rfl, h⟩ | ⟨rfl, h⟩
    · refine gh_catch C (E := "java/util/NoSuchElementException") [] ⟨0, 10, 13, 19⟩ [⟨0, 10, 17, 33⟩, ⟨0, 10, 21, 13⟩] htab (fun y hy => nomatch hy) rfl (by decide) LCLL_19 (by decide) g1 g2 g3 g4 g5 g6 ?_
      refine g_astore (pc := 13) C dL_judge_13 (Nat.le_of_ble_eq_true rfl) (lo' := [(4, .ref q), (0, .ref (adr x a0)), (1, .int a1), (2, .int a2), (3, .ref (adr x a3))]) rfl ?_
      refine g_iconst (pc := 15) C dL_judge_15 (v := 1) rfl ?_
      exact g_iret (pc := 16) C hlk hr hb.1 hb.2 dL_judge_16 h
    · refine gh_catch C (E := "java/lang/IllegalStateException") [⟨0, 10, 13, 19⟩] ⟨0, 10, 17, 33⟩ [⟨0, 10, 21, 13⟩] htab (fun y hy => by
      simp only [List.mem_cons, List.not_mem_nil, or_false] at hy
      rcases hy with rfl
      · exact ⟨by decide, _, LCLL_19, by decide⟩) rfl (by decide) LCLL_33 (by decide) g1 g2 g3 g4 g5 g6 ?_
      refine g_astore (pc := 17) C dL_judge_17 (Nat.le_of_ble_eq_true rfl) (lo' := [(4, .ref q), (0, .ref (adr x a0)), (1, .int a1), (2, .int a2), (3, .ref (adr x a3))]) rfl ?_
      refine g_iconst (pc := 19) C dL_judge_19 (v := 2) rfl ?_
      exact g_iret (pc := 20) C hlk hr hb.1 hb.2 dL_judge_20 h
    · refine gh_catch C (E := "java/lang/IllegalArgumentException") [⟨0, 10, 13, 19⟩, ⟨0, 10, 17, 33⟩] ⟨0, 10, 21, 13⟩ [] htab (fun y hy => by
      simp only [List.mem_cons, List.not_mem_nil, or_false] at hy
      rcases hy with rfl | rfl
      · exact ⟨by decide, _, LCLL_19, by decide⟩
      · exact ⟨by decide, _, LCLL_33, by decide⟩) rfl (by decide) LCLL_13 (by decide) g1 g2 g3 g4 g5 g6 ?_
      refine g_astore (pc := 21) C dL_judge_21 (Nat.le_of_ble_eq_true rfl) (lo' := [(4, .ref q), (0, .ref (adr x a0)), (1, .int a1), (2, .int a2), (3, .ref (adr x a3))]) rfl ?_
      refine g_iconst (pc := 23) C dL_judge_23 (v := 3) rfl ?_
      exact g_iret (pc := 24) C hlk hr hb.1 hb.2 dL_judge_24 h
  · refine g_i2l (pc := 8) C dL_judge_8 ?_
    obtain ⟨k1, h⟩ := h
    obtain ⟨k2, h⟩ := h
    refine g_last (pc := 9) C k1 k2 dL_judge_9 ?_
    refine g_goto (pc := 10) C dL_judge_10 (tgt := 25) rfl ?_
    refine g_iconst (pc := 25) C dL_judge_25 (v := 0) rfl ?_
    exact g_iret (pc := 26) C hlk hr hb.1 hb.2 dL_judge_26 h
def w_L_perform (mc ms : Nat) (a0 : Nat) (a1 : Int32) (a2 : Nat) (K : Int32 → Wd → Prop) (w : Wd) : Prop :=
  isK w a0 11 ∧ (2 ≤ mc ∧ 12 ≤ ms) ∧ w_X11_perform 2 12 a0 a1 (fun r1 w1 => isK w1 a2 21 ∧ vp_in 0 (wn w1 a2) ∧ K 0 (uL w1 a2 (0 : Int32).toNatClampNeg r1.toInt64)) (fun E u => (E = "java/util/NoSuchElementException" ∧ K 1 u) ∨ (E = "java/lang/IllegalStateException" ∧ K 2 u)) w
theorem c_L_perform {x : xG} {l : Launch} (hl : l.stackTraces = false) {mc ms : Nat} {a0 : Nat} {a1 : Int32} {a2 : Nat} {K : Int32 → Wd → Prop} {w : Wd} (h : w_L_perform mc ms a0 a1 a2 K w) : Met l yL_perform (xwsH yL_perform cL_perform 4 (some .int) [(0, 9, 12, 19), (0, 9, 15, 33)]) (rmd 9 mc ms) (xPc x [.ref (adr x a0), .int a1, .ref (adr x a2)] w) (QcI x K) mc ms (xA x) := by
  refine xMetH (by decide) (Nat.le_of_ble_eq_true rfl) (fun p e s m below meth c C hlk hr htab => ?_)
  show GW x p l e (rmd 9 mc ms) s m [.ref (adr x a0), .int a1, .ref (adr x a2)].toArray below meth c 4 (QI x K below [.ref (adr x a0), .int a1, .ref (adr x a2)].toArray s mc ms) 0 [(0, .ref (adr x a0)), (1, .int a1), (2, .ref (adr x a2))] [] w 0 0
  obtain ⟨k0, h⟩ := h
  obtain ⟨hb, h⟩ := h
  replace hb : 0 + 2 ≤ mc ∧ 0 + 12 ≤ ms := by omega
  refine g_aload_n (pc := 0) C dL_perform_0 (q := 2) rfl ?_
  refine g_iconst (pc := 1) C dL_perform_1 (v := 0) rfl ?_
  refine g_aload_n (pc := 2) C dL_perform_2 (q := 0) rfl ?_
  refine g_iload_n (pc := 3) C dL_perform_3 (q := 1) rfl ?_
  refine gh_callVi (pc := 4) C (As := [.int a1]) (rest := [.int 0, .ref (adr x a2)]) (ci := 11) (mc := 2) (ms := 12) (c_X11_perform hl h) (x_cwV C 1 LML_35 ⟨rfl, by decide, by decide, rfl⟩ (Nat.le_of_ble_eq_true rfl) (by decide)) rfl k0 (by decide) rfl rfl (Nat.le_of_ble_eq_true rfl) dL_perform_4 ⟨hb.1, hb.2⟩ (fun E q u H1 locs1 ls ce hX g1 g2 g3 g4 g5 g6 => ?_) (fun r1 w1 h => ?_)
  · rcases hX with ⟨rfl, h⟩ | ⟨rfl, h⟩
    · refine gh_catch C (E := "java/util/NoSuchElementException") [] ⟨0, 9, 12, 19⟩ [⟨0, 9, 15, 33⟩] htab (fun y hy => nomatch hy) rfl (by decide) LCLL_19 (by decide) g1 g2 g3 g4 g5 g6 ?_
      refine g_astore_n (pc := 12) C dL_perform_12 (Nat.le_of_ble_eq_true rfl) (lo' := [(3, .ref q), (0, .ref (adr x a0)), (1, .int a1), (2, .ref (adr x a2))]) rfl ?_
      refine g_iconst (pc := 13) C dL_perform_13 (v := 1) rfl ?_
      exact g_iret (pc := 14) C hlk hr hb.1 hb.2 dL_perform_14 h
    · refine gh_catch C (E := "java/lang/IllegalStateException") [⟨0, 9, 12, 19⟩] ⟨0, 9, 15, 33⟩ [] htab (fun y hy => by
      simp only [List.mem_cons, List.not_mem_nil, or_false] at hy
      rcases hy with rfl
      · exact ⟨by decide, _, LCLL_19, by decide⟩) rfl (by decide) LCLL_33 (by decide) g1 g2 g3 g4 g5 g6 ?_
      refine g_astore_n (pc := 15) C dL_perform_15 (Nat.le_of_ble_eq_true rfl) (lo' := [(3, .ref q), (0, .ref (adr x a0)), (1, .int a1), (2, .ref (adr x a2))]) rfl ?_
      refine g_iconst (pc := 16) C dL_perform_16 (v := 2) rfl ?_
      exact g_iret (pc := 17) C hlk hr hb.1 hb.2 dL_perform_17 h
  · refine g_i2l (pc := 7) C dL_perform_7 ?_
    obtain ⟨k1, h⟩ := h
    obtain ⟨k2, h⟩ := h
    refine g_last (pc := 8) C k1 k2 dL_perform_8 ?_
    refine g_goto (pc := 9) C dL_perform_9 (tgt := 18) rfl ?_
    refine g_iconst (pc := 18) C dL_perform_18 (v := 0) rfl ?_
    exact g_iret (pc := 19) C hlk hr hb.1 hb.2 dL_perform_19 h
def w_L_year (mc ms : Nat) (a0 : Nat) (a1 : Int32) (a2 : Int32) (a3 : Nat) (K : Int32 → Wd → Prop) (w : Wd) : Prop :=
  isK w a0 11 ∧ (2 ≤ mc ∧ 7 ≤ ms) ∧ w_X11_year 2 7 a0 a1 a2 (fun r1 w1 => isK w1 a3 21 ∧ vp_in 0 (wn w1 a3) ∧ K 0 (uL w1 a3 (0 : Int32).toNatClampNeg r1.toInt64)) (fun E u => (E = "java/lang/IllegalArgumentException" ∧ K 1 u)) w
theorem c_L_year {x : xG} {l : Launch} (hl : l.stackTraces = false) {mc ms : Nat} {a0 : Nat} {a1 : Int32} {a2 : Int32} {a3 : Nat} {K : Int32 → Wd → Prop} {w : Wd} (h : w_L_year mc ms a0 a1 a2 a3 K w) : Met l yL_year (xwsH yL_year cL_year 5 (some .int) [(0, 10, 13, 13)]) (rmd 8 mc ms) (xPc x [.ref (adr x a0), .int a1, .int a2, .ref (adr x a3)] w) (QcI x K) mc ms (xA x) := by
  refine xMetH (by decide) (Nat.le_of_ble_eq_true rfl) (fun p e s m below meth c C hlk hr htab => ?_)
  show GW x p l e (rmd 8 mc ms) s m [.ref (adr x a0), .int a1, .int a2, .ref (adr x a3)].toArray below meth c 5 (QI x K below [.ref (adr x a0), .int a1, .int a2, .ref (adr x a3)].toArray s mc ms) 0 [(0, .ref (adr x a0)), (1, .int a1), (2, .int a2), (3, .ref (adr x a3))] [] w 0 0
  obtain ⟨k0, h⟩ := h
  obtain ⟨hb, h⟩ := h
  replace hb : 0 + 2 ≤ mc ∧ 0 + 7 ≤ ms := by omega
  refine g_aload_n (pc := 0) C dL_year_0 (q := 3) rfl ?_
  refine g_iconst (pc := 1) C dL_year_1 (v := 0) rfl ?_
  refine g_aload_n (pc := 2) C dL_year_2 (q := 0) rfl ?_
  refine g_iload_n (pc := 3) C dL_year_3 (q := 1) rfl ?_
  refine g_iload_n (pc := 4) C dL_year_4 (q := 2) rfl ?_
  refine gh_callVi (pc := 5) C (As := [.int a1, .int a2]) (rest := [.int 0, .ref (adr x a3)]) (ci := 11) (mc := 2) (ms := 7) (c_X11_year hl h) (x_cwV C 2 LML_38 ⟨rfl, by decide, by decide, rfl⟩ (Nat.le_of_ble_eq_true rfl) (by decide)) rfl k0 (by decide) rfl rfl (Nat.le_of_ble_eq_true rfl) dL_year_5 ⟨hb.1, hb.2⟩ (fun E q u H1 locs1 ls ce hX g1 g2 g3 g4 g5 g6 => ?_) (fun r1 w1 h => ?_)
  · obtain ⟨rfl, h⟩ := hX
    refine gh_catch C (E := "java/lang/IllegalArgumentException") [] ⟨0, 10, 13, 13⟩ [] htab (fun y hy => nomatch hy) rfl (by decide) LCLL_13 (by decide) g1 g2 g3 g4 g5 g6 ?_
    refine g_astore (pc := 13) C dL_year_13 (Nat.le_of_ble_eq_true rfl) (lo' := [(4, .ref q), (0, .ref (adr x a0)), (1, .int a1), (2, .int a2), (3, .ref (adr x a3))]) rfl ?_
    refine g_iconst (pc := 15) C dL_year_15 (v := 1) rfl ?_
    exact g_iret (pc := 16) C hlk hr hb.1 hb.2 dL_year_16 h
  · refine g_i2l (pc := 8) C dL_year_8 ?_
    obtain ⟨k1, h⟩ := h
    obtain ⟨k2, h⟩ := h
    refine g_last (pc := 9) C k1 k2 dL_year_9 ?_
    refine g_goto (pc := 10) C dL_year_10 (tgt := 17) rfl ?_
    refine g_iconst (pc := 17) C dL_year_17 (v := 0) rfl ?_
    exact g_iret (pc := 18) C hlk hr hb.1 hb.2 dL_year_18 h
def w_L_together (mc ms : Nat) (a0 : Nat) (a1 : Int32) (a2 : Int32) (a3 : Nat) (K : Int32 → Wd → Prop) (w : Wd) : Prop :=
  isK w a0 11 ∧ (1 ≤ mc ∧ 6 ≤ ms) ∧ w_X11_together 1 6 a0 a1 a2 (fun r1 w1 => isK w1 a3 21 ∧ vp_in 0 (wn w1 a3) ∧ K 0 (uL w1 a3 (0 : Int32).toNatClampNeg r1.toInt64)) (fun E u => (E = "java/lang/IllegalArgumentException" ∧ K 1 u)) w
theorem c_L_together {x : xG} {l : Launch} (hl : l.stackTraces = false) {mc ms : Nat} {a0 : Nat} {a1 : Int32} {a2 : Int32} {a3 : Nat} {K : Int32 → Wd → Prop} {w : Wd} (h : w_L_together mc ms a0 a1 a2 a3 K w) : Met l yL_together (xwsH yL_together cL_together 5 (some .int) [(0, 10, 13, 13)]) (rmd 8 mc ms) (xPc x [.ref (adr x a0), .int a1, .int a2, .ref (adr x a3)] w) (QcI x K) mc ms (xA x) := by
  refine xMetH (by decide) (Nat.le_of_ble_eq_true rfl) (fun p e s m below meth c C hlk hr htab => ?_)
  show GW x p l e (rmd 8 mc ms) s m [.ref (adr x a0), .int a1, .int a2, .ref (adr x a3)].toArray below meth c 5 (QI x K below [.ref (adr x a0), .int a1, .int a2, .ref (adr x a3)].toArray s mc ms) 0 [(0, .ref (adr x a0)), (1, .int a1), (2, .int a2), (3, .ref (adr x a3))] [] w 0 0
  obtain ⟨k0, h⟩ := h
  obtain ⟨hb, h⟩ := h
  replace hb : 0 + 1 ≤ mc ∧ 0 + 6 ≤ ms := by omega
  refine g_aload_n (pc := 0) C dL_together_0 (q := 3) rfl ?_
  refine g_iconst (pc := 1) C dL_together_1 (v := 0) rfl ?_
  refine g_aload_n (pc := 2) C dL_together_2 (q := 0) rfl ?_
  refine g_iload_n (pc := 3) C dL_together_3 (q := 1) rfl ?_
  refine g_iload_n (pc := 4) C dL_together_4 (q := 2) rfl ?_
  refine gh_callVi (pc := 5) C (As := [.int a1, .int a2]) (rest := [.int 0, .ref (adr x a3)]) (ci := 11) (mc := 1) (ms := 6) (c_X11_together hl h) (x_cwV C 2 LML_41 ⟨rfl, by decide, by decide, rfl⟩ (Nat.le_of_ble_eq_true rfl) (by decide)) rfl k0 (by decide) rfl rfl (Nat.le_of_ble_eq_true rfl) dL_together_5 ⟨hb.1, hb.2⟩ (fun E q u H1 locs1 ls ce hX g1 g2 g3 g4 g5 g6 => ?_) (fun r1 w1 h => ?_)
  · obtain ⟨rfl, h⟩ := hX
    refine gh_catch C (E := "java/lang/IllegalArgumentException") [] ⟨0, 10, 13, 13⟩ [] htab (fun y hy => nomatch hy) rfl (by decide) LCLL_13 (by decide) g1 g2 g3 g4 g5 g6 ?_
    refine g_astore (pc := 13) C dL_together_13 (Nat.le_of_ble_eq_true rfl) (lo' := [(4, .ref q), (0, .ref (adr x a0)), (1, .int a1), (2, .int a2), (3, .ref (adr x a3))]) rfl ?_
    refine g_iconst (pc := 15) C dL_together_15 (v := 1) rfl ?_
    exact g_iret (pc := 16) C hlk hr hb.1 hb.2 dL_together_16 h
  · refine g_i2l (pc := 8) C dL_together_8 ?_
    obtain ⟨k1, h⟩ := h
    obtain ⟨k2, h⟩ := h
    refine g_last (pc := 9) C k1 k2 dL_together_9 ?_
    refine g_goto (pc := 10) C dL_together_10 (tgt := 17) rfl ?_
    refine g_iconst (pc := 17) C dL_together_17 (v := 0) rfl ?_
    exact g_iret (pc := 18) C hlk hr hb.1 hb.2 dL_together_18 h
def w_L_wakesIn (mc ms : Nat) (a0 : Nat) (a1 : Int32) (a2 : Nat) (K : Int32 → Wd → Prop) (w : Wd) : Prop :=
  isK w a0 11 ∧ (1 ≤ mc ∧ 6 ≤ ms) ∧ w_X11_wakesIn 1 6 a0 a1 (fun r1 w1 => isK w1 a2 21 ∧ vp_in 0 (wn w1 a2) ∧ K 0 (uL w1 a2 (0 : Int32).toNatClampNeg r1.toInt64)) (fun E u => (E = "java/util/NoSuchElementException" ∧ K 1 u)) w
theorem c_L_wakesIn {x : xG} {l : Launch} (hl : l.stackTraces = false) {mc ms : Nat} {a0 : Nat} {a1 : Int32} {a2 : Nat} {K : Int32 → Wd → Prop} {w : Wd} (h : w_L_wakesIn mc ms a0 a1 a2 K w) : Met l yL_wakesIn (xwsH yL_wakesIn cL_wakesIn 4 (some .int) [(0, 9, 12, 19)]) (rmd 8 mc ms) (xPc x [.ref (adr x a0), .int a1, .ref (adr x a2)] w) (QcI x K) mc ms (xA x) := by
  refine xMetH (by decide) (Nat.le_of_ble_eq_true rfl) (fun p e s m below meth c C hlk hr htab => ?_)
  show GW x p l e (rmd 8 mc ms) s m [.ref (adr x a0), .int a1, .ref (adr x a2)].toArray below meth c 4 (QI x K below [.ref (adr x a0), .int a1, .ref (adr x a2)].toArray s mc ms) 0 [(0, .ref (adr x a0)), (1, .int a1), (2, .ref (adr x a2))] [] w 0 0
  obtain ⟨k0, h⟩ := h
  obtain ⟨hb, h⟩ := h
  replace hb : 0 + 1 ≤ mc ∧ 0 + 6 ≤ ms := by omega
  refine g_aload_n (pc := 0) C dL_wakesIn_0 (q := 2) rfl ?_
  refine g_iconst (pc := 1) C dL_wakesIn_1 (v := 0) rfl ?_
  refine g_aload_n (pc := 2) C dL_wakesIn_2 (q := 0) rfl ?_
  refine g_iload_n (pc := 3) C dL_wakesIn_3 (q := 1) rfl ?_
  refine gh_callVi (pc := 4) C (As := [.int a1]) (rest := [.int 0, .ref (adr x a2)]) (ci := 11) (mc := 1) (ms := 6) (c_X11_wakesIn hl h) (x_cwV C 1 LML_45 ⟨rfl, by decide, by decide, rfl⟩ (Nat.le_of_ble_eq_true rfl) (by decide)) rfl k0 (by decide) rfl rfl (Nat.le_of_ble_eq_true rfl) dL_wakesIn_4 ⟨hb.1, hb.2⟩ (fun E q u H1 locs1 ls ce hX g1 g2 g3 g4 g5 g6 => ?_) (fun r1 w1 h => ?_)
  · obtain ⟨rfl, h⟩ := hX
    refine gh_catch C (E := "java/util/NoSuchElementException") [] ⟨0, 9, 12, 19⟩ [] htab (fun y hy => nomatch hy) rfl (by decide) LCLL_19 (by decide) g1 g2 g3 g4 g5 g6 ?_
    refine g_astore_n (pc := 12) C dL_wakesIn_12 (Nat.le_of_ble_eq_true rfl) (lo' := [(3, .ref q), (0, .ref (adr x a0)), (1, .int a1), (2, .ref (adr x a2))]) rfl ?_
    refine g_iconst (pc := 13) C dL_wakesIn_13 (v := 1) rfl ?_
    exact g_iret (pc := 14) C hlk hr hb.1 hb.2 dL_wakesIn_14 h
  · refine g_i2l (pc := 7) C dL_wakesIn_7 ?_
    obtain ⟨k1, h⟩ := h
    obtain ⟨k2, h⟩ := h
    refine g_last (pc := 8) C k1 k2 dL_wakesIn_8 ?_
    refine g_goto (pc := 9) C dL_wakesIn_9 (tgt := 15) rfl ?_
    refine g_iconst (pc := 15) C dL_wakesIn_15 (v := 0) rfl ?_
    exact g_iret (pc := 16) C hlk hr hb.1 hb.2 dL_wakesIn_16 h
def w_L_stays (mc ms : Nat) (a0 : Nat) (a1 : Int32) (a2 : Nat) (K : Int32 → Wd → Prop) (w : Wd) : Prop :=
  isK w a0 11 ∧ (1 ≤ mc ∧ 6 ≤ ms) ∧ w_X11_stays 1 6 a0 a1 (fun r1 w1 => isK w1 a2 21 ∧ vp_in 0 (wn w1 a2) ∧ K 0 (uL w1 a2 (0 : Int32).toNatClampNeg r1.toInt64)) (fun E u => (E = "java/util/NoSuchElementException" ∧ K 1 u)) w
theorem c_L_stays {x : xG} {l : Launch} (hl : l.stackTraces = false) {mc ms : Nat} {a0 : Nat} {a1 : Int32} {a2 : Nat} {K : Int32 → Wd → Prop} {w : Wd} (h : w_L_stays mc ms a0 a1 a2 K w) : Met l yL_stays (xwsH yL_stays cL_stays 4 (some .int) [(0, 9, 12, 19)]) (rmd 8 mc ms) (xPc x [.ref (adr x a0), .int a1, .ref (adr x a2)] w) (QcI x K) mc ms (xA x) := by
  refine xMetH (by decide) (Nat.le_of_ble_eq_true rfl) (fun p e s m below meth c C hlk hr htab => ?_)
  show GW x p l e (rmd 8 mc ms) s m [.ref (adr x a0), .int a1, .ref (adr x a2)].toArray below meth c 4 (QI x K below [.ref (adr x a0), .int a1, .ref (adr x a2)].toArray s mc ms) 0 [(0, .ref (adr x a0)), (1, .int a1), (2, .ref (adr x a2))] [] w 0 0
  obtain ⟨k0, h⟩ := h
  obtain ⟨hb, h⟩ := h
  replace hb : 0 + 1 ≤ mc ∧ 0 + 6 ≤ ms := by omega
  refine g_aload_n (pc := 0) C dL_stays_0 (q := 2) rfl ?_
  refine g_iconst (pc := 1) C dL_stays_1 (v := 0) rfl ?_
  refine g_aload_n (pc := 2) C dL_stays_2 (q := 0) rfl ?_
  refine g_iload_n (pc := 3) C dL_stays_3 (q := 1) rfl ?_
  refine gh_callVi (pc := 4) C (As := [.int a1]) (rest := [.int 0, .ref (adr x a2)]) (ci := 11) (mc := 1) (ms := 6) (c_X11_stays hl h) (x_cwV C 1 LML_48 ⟨rfl, by decide, by decide, rfl⟩ (Nat.le_of_ble_eq_true rfl) (by decide)) rfl k0 (by decide) rfl rfl (Nat.le_of_ble_eq_true rfl) dL_stays_4 ⟨hb.1, hb.2⟩ (fun E q u H1 locs1 ls ce hX g1 g2 g3 g4 g5 g6 => ?_) (fun r1 w1 h => ?_)
  · obtain ⟨rfl, h⟩ := hX
    refine gh_catch C (E := "java/util/NoSuchElementException") [] ⟨0, 9, 12, 19⟩ [] htab (fun y hy => nomatch hy) rfl (by decide) LCLL_19 (by decide) g1 g2 g3 g4 g5 g6 ?_
    refine g_astore_n (pc := 12) C dL_stays_12 (Nat.le_of_ble_eq_true rfl) (lo' := [(3, .ref q), (0, .ref (adr x a0)), (1, .int a1), (2, .ref (adr x a2))]) rfl ?_
    refine g_iconst (pc := 13) C dL_stays_13 (v := 1) rfl ?_
    exact g_iret (pc := 14) C hlk hr hb.1 hb.2 dL_stays_14 h
  · refine g_i2l (pc := 7) C dL_stays_7 ?_
    obtain ⟨k1, h⟩ := h
    obtain ⟨k2, h⟩ := h
    refine g_last (pc := 8) C k1 k2 dL_stays_8 ?_
    refine g_goto (pc := 9) C dL_stays_9 (tgt := 15) rfl ?_
    refine g_iconst (pc := 15) C dL_stays_15 (v := 0) rfl ?_
    exact g_iret (pc := 16) C hlk hr hb.1 hb.2 dL_stays_16 h
def w_L_withAwake (mc ms : Nat) (a0 : Nat) (a1 : Int32) (a2 : Nat) (K : Int32 → Wd → Prop) (w : Wd) : Prop :=
  isK w a0 11 ∧ (1 ≤ mc ∧ 6 ≤ ms) ∧ w_X11_withAwake 1 6 a0 a1 (fun r1 w1 => isK w1 a2 21 ∧ vp_in 0 (wn w1 a2) ∧ K 0 (uL w1 a2 (0 : Int32).toNatClampNeg r1.toInt64)) (fun E u => (E = "java/lang/IllegalArgumentException" ∧ K 1 u)) w
theorem c_L_withAwake {x : xG} {l : Launch} (hl : l.stackTraces = false) {mc ms : Nat} {a0 : Nat} {a1 : Int32} {a2 : Nat} {K : Int32 → Wd → Prop} {w : Wd} (h : w_L_withAwake mc ms a0 a1 a2 K w) : Met l yL_withAwake (xwsH yL_withAwake cL_withAwake 4 (some .int) [(0, 9, 12, 13)]) (rmd 8 mc ms) (xPc x [.ref (adr x a0), .int a1, .ref (adr x a2)] w) (QcI x K) mc ms (xA x) := by
  refine xMetH (by decide) (Nat.le_of_ble_eq_true rfl) (fun p e s m below meth c C hlk hr htab => ?_)
  show GW x p l e (rmd 8 mc ms) s m [.ref (adr x a0), .int a1, .ref (adr x a2)].toArray below meth c 4 (QI x K below [.ref (adr x a0), .int a1, .ref (adr x a2)].toArray s mc ms) 0 [(0, .ref (adr x a0)), (1, .int a1), (2, .ref (adr x a2))] [] w 0 0
  obtain ⟨k0, h⟩ := h
  obtain ⟨hb, h⟩ := h
  replace hb : 0 + 1 ≤ mc ∧ 0 + 6 ≤ ms := by omega
  refine g_aload_n (pc := 0) C dL_withAwake_0 (q := 2) rfl ?_
  refine g_iconst (pc := 1) C dL_withAwake_1 (v := 0) rfl ?_
  refine g_aload_n (pc := 2) C dL_withAwake_2 (q := 0) rfl ?_
  refine g_iload_n (pc := 3) C dL_withAwake_3 (q := 1) rfl ?_
  refine gh_callVi (pc := 4) C (As := [.int a1]) (rest := [.int 0, .ref (adr x a2)]) (ci := 11) (mc := 1) (ms := 6) (c_X11_withAwake hl h) (x_cwV C 1 LML_51 ⟨rfl, by decide, by decide, rfl⟩ (Nat.le_of_ble_eq_true rfl) (by decide)) rfl k0 (by decide) rfl rfl (Nat.le_of_ble_eq_true rfl) dL_withAwake_4 ⟨hb.1, hb.2⟩ (fun E q u H1 locs1 ls ce hX g1 g2 g3 g4 g5 g6 => ?_) (fun r1 w1 h => ?_)
  · obtain ⟨rfl, h⟩ := hX
    refine gh_catch C (E := "java/lang/IllegalArgumentException") [] ⟨0, 9, 12, 13⟩ [] htab (fun y hy => nomatch hy) rfl (by decide) LCLL_13 (by decide) g1 g2 g3 g4 g5 g6 ?_
    refine g_astore_n (pc := 12) C dL_withAwake_12 (Nat.le_of_ble_eq_true rfl) (lo' := [(3, .ref q), (0, .ref (adr x a0)), (1, .int a1), (2, .ref (adr x a2))]) rfl ?_
    refine g_iconst (pc := 13) C dL_withAwake_13 (v := 1) rfl ?_
    exact g_iret (pc := 14) C hlk hr hb.1 hb.2 dL_withAwake_14 h
  · refine g_i2l (pc := 7) C dL_withAwake_7 ?_
    obtain ⟨k1, h⟩ := h
    obtain ⟨k2, h⟩ := h
    refine g_last (pc := 8) C k1 k2 dL_withAwake_8 ?_
    refine g_goto (pc := 9) C dL_withAwake_9 (tgt := 15) rfl ?_
    refine g_iconst (pc := 15) C dL_withAwake_15 (v := 0) rfl ?_
    exact g_iret (pc := 16) C hlk hr hb.1 hb.2 dL_withAwake_16 h
def w_L_stillest (mc ms : Nat) (a0 : Nat) (a1 : Int32) (a2 : Nat) (K : Int32 → Wd → Prop) (w : Wd) : Prop :=
  isK w a0 11 ∧ (1 ≤ mc ∧ 6 ≤ ms) ∧ w_X11_stillest 1 6 a0 a1 (fun r1 w1 => isK w1 a2 21 ∧ vp_in 0 (wn w1 a2) ∧ K 0 (uL w1 a2 (0 : Int32).toNatClampNeg r1.toInt64)) (fun E u => (E = "java/lang/IllegalArgumentException" ∧ K 1 u)) w
theorem c_L_stillest {x : xG} {l : Launch} (hl : l.stackTraces = false) {mc ms : Nat} {a0 : Nat} {a1 : Int32} {a2 : Nat} {K : Int32 → Wd → Prop} {w : Wd} (h : w_L_stillest mc ms a0 a1 a2 K w) : Met l yL_stillest (xwsH yL_stillest cL_stillest 4 (some .int) [(0, 9, 12, 13)]) (rmd 8 mc ms) (xPc x [.ref (adr x a0), .int a1, .ref (adr x a2)] w) (QcI x K) mc ms (xA x) := by
  refine xMetH (by decide) (Nat.le_of_ble_eq_true rfl) (fun p e s m below meth c C hlk hr htab => ?_)
  show GW x p l e (rmd 8 mc ms) s m [.ref (adr x a0), .int a1, .ref (adr x a2)].toArray below meth c 4 (QI x K below [.ref (adr x a0), .int a1, .ref (adr x a2)].toArray s mc ms) 0 [(0, .ref (adr x a0)), (1, .int a1), (2, .ref (adr x a2))] [] w 0 0
  obtain ⟨k0, h⟩ := h
  obtain ⟨hb, h⟩ := h
  replace hb : 0 + 1 ≤ mc ∧ 0 + 6 ≤ ms := by omega
  refine g_aload_n (pc := 0) C dL_stillest_0 (q := 2) rfl ?_
  refine g_iconst (pc := 1) C dL_stillest_1 (v := 0) rfl ?_
  refine g_aload_n (pc := 2) C dL_stillest_2 (q := 0) rfl ?_
  refine g_iload_n (pc := 3) C dL_stillest_3 (q := 1) rfl ?_
  refine gh_callVi (pc := 4) C (As := [.int a1]) (rest := [.int 0, .ref (adr x a2)]) (ci := 11) (mc := 1) (ms := 6) (c_X11_stillest hl h) (x_cwV C 1 LML_54 ⟨rfl, by decide, by decide, rfl⟩ (Nat.le_of_ble_eq_true rfl) (by decide)) rfl k0 (by decide) rfl rfl (Nat.le_of_ble_eq_true rfl) dL_stillest_4 ⟨hb.1, hb.2⟩ (fun E q u H1 locs1 ls ce hX g1 g2 g3 g4 g5 g6 => ?_) (fun r1 w1 h => ?_)
  · obtain ⟨rfl, h⟩ := hX
    refine gh_catch C (E := "java/lang/IllegalArgumentException") [] ⟨0, 9, 12, 13⟩ [] htab (fun y hy => nomatch hy) rfl (by decide) LCLL_13 (by decide) g1 g2 g3 g4 g5 g6 ?_
    refine g_astore_n (pc := 12) C dL_stillest_12 (Nat.le_of_ble_eq_true rfl) (lo' := [(3, .ref q), (0, .ref (adr x a0)), (1, .int a1), (2, .ref (adr x a2))]) rfl ?_
    refine g_iconst (pc := 13) C dL_stillest_13 (v := 1) rfl ?_
    exact g_iret (pc := 14) C hlk hr hb.1 hb.2 dL_stillest_14 h
  · refine g_i2l (pc := 7) C dL_stillest_7 ?_
    obtain ⟨k1, h⟩ := h
    obtain ⟨k2, h⟩ := h
    refine g_last (pc := 8) C k1 k2 dL_stillest_8 ?_
    refine g_goto (pc := 9) C dL_stillest_9 (tgt := 15) rfl ?_
    refine g_iconst (pc := 15) C dL_stillest_15 (v := 0) rfl ?_
    exact g_iret (pc := 16) C hlk hr hb.1 hb.2 dL_stillest_16 h
def w_L_chain (mc ms : Nat) (a0 : Nat) (a1 : Int32) (a2 : Int32) (a3 : Nat) (K : Int32 → Wd → Prop) (w : Wd) : Prop :=
  isK w a0 11 ∧ (2 ≤ mc ∧ 12 ≤ ms) ∧ w_X11_chain 2 12 a0 a1 a2 (fun r1 w1 => isK w1 a3 21 ∧ vp_in 0 (wn w1 a3) ∧ K 0 (uL w1 a3 (0 : Int32).toNatClampNeg r1.toInt64)) (fun E u => (E = "java/util/NoSuchElementException" ∧ K 1 u) ∨ (E = "java/lang/IllegalArgumentException" ∧ K 2 u)) w
theorem c_L_chain {x : xG} {l : Launch} (hl : l.stackTraces = false) {mc ms : Nat} {a0 : Nat} {a1 : Int32} {a2 : Int32} {a3 : Nat} {K : Int32 → Wd → Prop} {w : Wd} (h : w_L_chain mc ms a0 a1 a2 a3 K w) : Met l yL_chain (xwsH yL_chain cL_chain 5 (some .int) [(0, 10, 13, 19), (0, 10, 17, 13)]) (rmd 9 mc ms) (xPc x [.ref (adr x a0), .int a1, .int a2, .ref (adr x a3)] w) (QcI x K) mc ms (xA x) := by
  refine xMetH (by decide) (Nat.le_of_ble_eq_true rfl) (fun p e s m below meth c C hlk hr htab => ?_)
  show GW x p l e (rmd 9 mc ms) s m [.ref (adr x a0), .int a1, .int a2, .ref (adr x a3)].toArray below meth c 5 (QI x K below [.ref (adr x a0), .int a1, .int a2, .ref (adr x a3)].toArray s mc ms) 0 [(0, .ref (adr x a0)), (1, .int a1), (2, .int a2), (3, .ref (adr x a3))] [] w 0 0
  obtain ⟨k0, h⟩ := h
  obtain ⟨hb, h⟩ := h
  replace hb : 0 + 2 ≤ mc ∧ 0 + 12 ≤ ms := by omega
  refine g_aload_n (pc := 0) C dL_chain_0 (q := 3) rfl ?_
  refine g_iconst (pc := 1) C dL_chain_1 (v := 0) rfl ?_
  refine g_aload_n (pc := 2) C dL_chain_2 (q := 0) rfl ?_
  refine g_iload_n (pc := 3) C dL_chain_3 (q := 1) rfl ?_
  refine g_iload_n (pc := 4) C dL_chain_4 (q := 2) rfl ?_
  refine gh_callVi (pc := 5) C (As := [.int a1, .int a2]) (rest := [.int 0, .ref (adr x a3)]) (ci := 11) (mc := 2) (ms := 12) (c_X11_chain hl h) (x_cwV C 2 LML_57 ⟨rfl, by decide, by decide, rfl⟩ (Nat.le_of_ble_eq_true rfl) (by decide)) rfl k0 (by decide) rfl rfl (Nat.le_of_ble_eq_true rfl) dL_chain_5 ⟨hb.1, hb.2⟩ (fun E q u H1 locs1 ls ce hX g1 g2 g3 g4 g5 g6 => ?_) (fun r1 w1 h => ?_)
  · rcases hX with ⟨rfl, h⟩ | ⟨rfl, h⟩
    · refine gh_catch C (E := "java/util/NoSuchElementException") [] ⟨0, 10, 13, 19⟩ [⟨0, 10, 17, 13⟩] htab (fun y hy => nomatch hy) rfl (by decide) LCLL_19 (by decide) g1 g2 g3 g4 g5 g6 ?_
      refine g_astore (pc := 13) C dL_chain_13 (Nat.le_of_ble_eq_true rfl) (lo' := [(4, .ref q), (0, .ref (adr x a0)), (1, .int a1), (2, .int a2), (3, .ref (adr x a3))]) rfl ?_
      refine g_iconst (pc := 15) C dL_chain_15 (v := 1) rfl ?_
      exact g_iret (pc := 16) C hlk hr hb.1 hb.2 dL_chain_16 h
    · refine gh_catch C (E := "java/lang/IllegalArgumentException") [⟨0, 10, 13, 19⟩] ⟨0, 10, 17, 13⟩ [] htab (fun y hy => by
      simp only [List.mem_cons, List.not_mem_nil, or_false] at hy
      rcases hy with rfl
      · exact ⟨by decide, _, LCLL_19, by decide⟩) rfl (by decide) LCLL_13 (by decide) g1 g2 g3 g4 g5 g6 ?_
      refine g_astore (pc := 17) C dL_chain_17 (Nat.le_of_ble_eq_true rfl) (lo' := [(4, .ref q), (0, .ref (adr x a0)), (1, .int a1), (2, .int a2), (3, .ref (adr x a3))]) rfl ?_
      refine g_iconst (pc := 19) C dL_chain_19 (v := 2) rfl ?_
      exact g_iret (pc := 20) C hlk hr hb.1 hb.2 dL_chain_20 h
  · refine g_i2l (pc := 8) C dL_chain_8 ?_
    obtain ⟨k1, h⟩ := h
    obtain ⟨k2, h⟩ := h
    refine g_last (pc := 9) C k1 k2 dL_chain_9 ?_
    refine g_goto (pc := 10) C dL_chain_10 (tgt := 21) rfl ?_
    refine g_iconst (pc := 21) C dL_chain_21 (v := 0) rfl ?_
    exact g_iret (pc := 22) C hlk hr hb.1 hb.2 dL_chain_22 h
def w_L_wakes (mc ms : Nat) (a0 : Nat) (a1 : Int32) (a2 : Int32) (a3 : Int32) (a4 : Nat) (K : Int32 → Wd → Prop) (w : Wd) : Prop :=
  isK w a0 11 ∧ (4 ≤ mc ∧ 24 ≤ ms) ∧ w_X11_wakes 4 24 a0 a1 a2 a3 (fun r1 w1 => ((r1 = 0 → isK w1 a4 21 ∧ vp_in 0 (wn w1 a4) ∧ K 0 (uL w1 a4 (0 : Int32).toNatClampNeg 0)) ∧ (¬ r1 = 0 → isK w1 a4 21 ∧ vp_in 0 (wn w1 a4) ∧ K 0 (uL w1 a4 (0 : Int32).toNatClampNeg 1)))) (fun E u => (E = "java/util/NoSuchElementException" ∧ K 1 u) ∨ (E = "java/lang/IllegalArgumentException" ∧ K 2 u)) w
theorem c_L_wakes {x : xG} {l : Launch} (hl : l.stackTraces = false) {mc ms : Nat} {a0 : Nat} {a1 : Int32} {a2 : Int32} {a3 : Int32} {a4 : Nat} {K : Int32 → Wd → Prop} {w : Wd} (h : w_L_wakes mc ms a0 a1 a2 a3 a4 K w) : Met l yL_wakes (xwsH yL_wakes cL_wakes 6 (some .int) [(0, 19, 22, 19), (0, 19, 26, 13)]) (rmd 9 mc ms) (xPc x [.ref (adr x a0), .int a1, .int a2, .int a3, .ref (adr x a4)] w) (QcI x K) mc ms (xA x) := by
  refine xMetH (by decide) (Nat.le_of_ble_eq_true rfl) (fun p e s m below meth c C hlk hr htab => ?_)
  show GW x p l e (rmd 9 mc ms) s m [.ref (adr x a0), .int a1, .int a2, .int a3, .ref (adr x a4)].toArray below meth c 6 (QI x K below [.ref (adr x a0), .int a1, .int a2, .int a3, .ref (adr x a4)].toArray s mc ms) 0 [(0, .ref (adr x a0)), (1, .int a1), (2, .int a2), (3, .int a3), (4, .ref (adr x a4))] [] w 0 0
  obtain ⟨k0, h⟩ := h
  obtain ⟨hb, h⟩ := h
  replace hb : 0 + 4 ≤ mc ∧ 0 + 24 ≤ ms := by omega
  refine g_aload (pc := 0) C dL_wakes_0 (q := 4) rfl ?_
  refine g_iconst (pc := 2) C dL_wakes_2 (v := 0) rfl ?_
  refine g_aload_n (pc := 3) C dL_wakes_3 (q := 0) rfl ?_
  refine g_iload_n (pc := 4) C dL_wakes_4 (q := 1) rfl ?_
  refine g_iload_n (pc := 5) C dL_wakes_5 (q := 2) rfl ?_
  refine g_iload_n (pc := 6) C dL_wakes_6 (q := 3) rfl ?_
  refine gh_callVi (pc := 7) C (As := [.int a1, .int a2, .int a3]) (rest := [.int 0, .ref (adr x a4)]) (ci := 11) (mc := 4) (ms := 24) (c_X11_wakes hl h) (x_cwV C 3 LML_60 ⟨rfl, by decide, by decide, rfl⟩ (Nat.le_of_ble_eq_true rfl) (by decide)) rfl k0 (by decide) rfl rfl (Nat.le_of_ble_eq_true rfl) dL_wakes_7 ⟨hb.1, hb.2⟩ (fun E q u H1 locs1 ls ce hX g1 g2 g3 g4 g5 g6 => ?_) (fun r1 w1 h => ?_)
  · rcases hX with ⟨rfl, h⟩ | ⟨rfl, h⟩
    · refine gh_catch C (E := "java/util/NoSuchElementException") [] ⟨0, 19, 22, 19⟩ [⟨0, 19, 26, 13⟩] htab (fun y hy => nomatch hy) rfl (by decide) LCLL_19 (by decide) g1 g2 g3 g4 g5 g6 ?_
      refine g_astore (pc := 22) C dL_wakes_22 (Nat.le_of_ble_eq_true rfl) (lo' := [(5, .ref q), (0, .ref (adr x a0)), (1, .int a1), (2, .int a2), (3, .int a3), (4, .ref (adr x a4))]) rfl ?_
      refine g_iconst (pc := 24) C dL_wakes_24 (v := 1) rfl ?_
      exact g_iret (pc := 25) C hlk hr hb.1 hb.2 dL_wakes_25 h
    · refine gh_catch C (E := "java/lang/IllegalArgumentException") [⟨0, 19, 22, 19⟩] ⟨0, 19, 26, 13⟩ [] htab (fun y hy => by
      simp only [List.mem_cons, List.not_mem_nil, or_false] at hy
      rcases hy with rfl
      · exact ⟨by decide, _, LCLL_19, by decide⟩) rfl (by decide) LCLL_13 (by decide) g1 g2 g3 g4 g5 g6 ?_
      refine g_astore (pc := 26) C dL_wakes_26 (Nat.le_of_ble_eq_true rfl) (lo' := [(5, .ref q), (0, .ref (adr x a0)), (1, .int a1), (2, .int a2), (3, .int a3), (4, .ref (adr x a4))]) rfl ?_
      refine g_iconst (pc := 28) C dL_wakes_28 (v := 2) rfl ?_
      exact g_iret (pc := 29) C hlk hr hb.1 hb.2 dL_wakes_29 h
  · refine g_if_eq (pc := 10) C dL_wakes_10 (tgt := 17) rfl (fun z1 => ?_) (fun z1 => ?_)
    · replace h := h.1 z1
      refine g_lconst (pc := 17) C dL_wakes_17 (v := 0) rfl ?_
      obtain ⟨k2, h⟩ := h
      obtain ⟨k3, h⟩ := h
      refine g_last (pc := 18) C k2 k3 dL_wakes_18 ?_
      refine g_goto (pc := 19) C dL_wakes_19 (tgt := 30) rfl ?_
      refine g_iconst (pc := 30) C dL_wakes_30 (v := 0) rfl ?_
      exact g_iret (pc := 31) C hlk hr hb.1 hb.2 dL_wakes_31 h
    · replace h := h.2 z1
      refine g_lconst (pc := 13) C dL_wakes_13 (v := 1) rfl ?_
      refine g_goto (pc := 14) C dL_wakes_14 (tgt := 18) rfl ?_
      obtain ⟨k4, h⟩ := h
      obtain ⟨k5, h⟩ := h
      refine g_last (pc := 18) C k4 k5 dL_wakes_18 ?_
      refine g_goto (pc := 19) C dL_wakes_19 (tgt := 30) rfl ?_
      refine g_iconst (pc := 30) C dL_wakes_30 (v := 0) rfl ?_
      exact g_iret (pc := 31) C hlk hr hb.1 hb.2 dL_wakes_31 h
def w_L_quietest (mc ms : Nat) (a0 : Nat) (a1 : Int32) (a2 : Nat) (K : Int32 → Wd → Prop) (w : Wd) : Prop :=
  isK w a0 11 ∧ (1 ≤ mc ∧ 6 ≤ ms) ∧ w_X11_quietest 1 6 a0 a1 (fun r1 w1 => isK w1 a2 21 ∧ vp_in 0 (wn w1 a2) ∧ K 0 (uL w1 a2 (0 : Int32).toNatClampNeg r1.toInt64)) (fun E u => (E = "java/util/NoSuchElementException" ∧ K 1 u)) w
theorem c_L_quietest {x : xG} {l : Launch} (hl : l.stackTraces = false) {mc ms : Nat} {a0 : Nat} {a1 : Int32} {a2 : Nat} {K : Int32 → Wd → Prop} {w : Wd} (h : w_L_quietest mc ms a0 a1 a2 K w) : Met l yL_quietest (xwsH yL_quietest cL_quietest 4 (some .int) [(0, 9, 12, 19)]) (rmd 8 mc ms) (xPc x [.ref (adr x a0), .int a1, .ref (adr x a2)] w) (QcI x K) mc ms (xA x) := by
  refine xMetH (by decide) (Nat.le_of_ble_eq_true rfl) (fun p e s m below meth c C hlk hr htab => ?_)
  show GW x p l e (rmd 8 mc ms) s m [.ref (adr x a0), .int a1, .ref (adr x a2)].toArray below meth c 4 (QI x K below [.ref (adr x a0), .int a1, .ref (adr x a2)].toArray s mc ms) 0 [(0, .ref (adr x a0)), (1, .int a1), (2, .ref (adr x a2))] [] w 0 0
  obtain ⟨k0, h⟩ := h
  obtain ⟨hb, h⟩ := h
  replace hb : 0 + 1 ≤ mc ∧ 0 + 6 ≤ ms := by omega
  refine g_aload_n (pc := 0) C dL_quietest_0 (q := 2) rfl ?_
  refine g_iconst (pc := 1) C dL_quietest_1 (v := 0) rfl ?_
  refine g_aload_n (pc := 2) C dL_quietest_2 (q := 0) rfl ?_
  refine g_iload_n (pc := 3) C dL_quietest_3 (q := 1) rfl ?_
  refine gh_callVi (pc := 4) C (As := [.int a1]) (rest := [.int 0, .ref (adr x a2)]) (ci := 11) (mc := 1) (ms := 6) (c_X11_quietest hl h) (x_cwV C 1 LML_64 ⟨rfl, by decide, by decide, rfl⟩ (Nat.le_of_ble_eq_true rfl) (by decide)) rfl k0 (by decide) rfl rfl (Nat.le_of_ble_eq_true rfl) dL_quietest_4 ⟨hb.1, hb.2⟩ (fun E q u H1 locs1 ls ce hX g1 g2 g3 g4 g5 g6 => ?_) (fun r1 w1 h => ?_)
  · obtain ⟨rfl, h⟩ := hX
    refine gh_catch C (E := "java/util/NoSuchElementException") [] ⟨0, 9, 12, 19⟩ [] htab (fun y hy => nomatch hy) rfl (by decide) LCLL_19 (by decide) g1 g2 g3 g4 g5 g6 ?_
    refine g_astore_n (pc := 12) C dL_quietest_12 (Nat.le_of_ble_eq_true rfl) (lo' := [(3, .ref q), (0, .ref (adr x a0)), (1, .int a1), (2, .ref (adr x a2))]) rfl ?_
    refine g_iconst (pc := 13) C dL_quietest_13 (v := 1) rfl ?_
    exact g_iret (pc := 14) C hlk hr hb.1 hb.2 dL_quietest_14 h
  · refine g_i2l (pc := 7) C dL_quietest_7 ?_
    obtain ⟨k1, h⟩ := h
    obtain ⟨k2, h⟩ := h
    refine g_last (pc := 8) C k1 k2 dL_quietest_8 ?_
    refine g_goto (pc := 9) C dL_quietest_9 (tgt := 15) rfl ?_
    refine g_iconst (pc := 15) C dL_quietest_15 (v := 0) rfl ?_
    exact g_iret (pc := 16) C hlk hr hb.1 hb.2 dL_quietest_16 h
def w_L_wakers (mc ms : Nat) (a0 : Nat) (a1 : Int32) (a2 : Int32) (a3 : Nat) (K : Int32 → Wd → Prop) (w : Wd) : Prop :=
  isK w a0 11 ∧ (2 ≤ mc ∧ 12 ≤ ms) ∧ w_X11_wakers 2 12 a0 a1 a2 (fun r1 w1 => isK w1 a3 21 ∧ vp_in 0 (wn w1 a3) ∧ K 0 (uL w1 a3 (0 : Int32).toNatClampNeg r1.toInt64)) (fun E u => (E = "java/util/NoSuchElementException" ∧ K 1 u) ∨ (E = "java/lang/IllegalArgumentException" ∧ K 2 u)) w
theorem c_L_wakers {x : xG} {l : Launch} (hl : l.stackTraces = false) {mc ms : Nat} {a0 : Nat} {a1 : Int32} {a2 : Int32} {a3 : Nat} {K : Int32 → Wd → Prop} {w : Wd} (h : w_L_wakers mc ms a0 a1 a2 a3 K w) : Met l yL_wakers (xwsH yL_wakers cL_wakers 5 (some .int) [(0, 10, 13, 19), (0, 10, 17, 13)]) (rmd 9 mc ms) (xPc x [.ref (adr x a0), .int a1, .int a2, .ref (adr x a3)] w) (QcI x K) mc ms (xA x) := by
  refine xMetH (by decide) (Nat.le_of_ble_eq_true rfl) (fun p e s m below meth c C hlk hr htab => ?_)
  show GW x p l e (rmd 9 mc ms) s m [.ref (adr x a0), .int a1, .int a2, .ref (adr x a3)].toArray below meth c 5 (QI x K below [.ref (adr x a0), .int a1, .int a2, .ref (adr x a3)].toArray s mc ms) 0 [(0, .ref (adr x a0)), (1, .int a1), (2, .int a2), (3, .ref (adr x a3))] [] w 0 0
  obtain ⟨k0, h⟩ := h
  obtain ⟨hb, h⟩ := h
  replace hb : 0 + 2 ≤ mc ∧ 0 + 12 ≤ ms := by omega
  refine g_aload_n (pc := 0) C dL_wakers_0 (q := 3) rfl ?_
  refine g_iconst (pc := 1) C dL_wakers_1 (v := 0) rfl ?_
  refine g_aload_n (pc := 2) C dL_wakers_2 (q := 0) rfl ?_
  refine g_iload_n (pc := 3) C dL_wakers_3 (q := 1) rfl ?_
  refine g_iload_n (pc := 4) C dL_wakers_4 (q := 2) rfl ?_
  refine gh_callVi (pc := 5) C (As := [.int a1, .int a2]) (rest := [.int 0, .ref (adr x a3)]) (ci := 11) (mc := 2) (ms := 12) (c_X11_wakers hl h) (x_cwV C 2 LML_67 ⟨rfl, by decide, by decide, rfl⟩ (Nat.le_of_ble_eq_true rfl) (by decide)) rfl k0 (by decide) rfl rfl (Nat.le_of_ble_eq_true rfl) dL_wakers_5 ⟨hb.1, hb.2⟩ (fun E q u H1 locs1 ls ce hX g1 g2 g3 g4 g5 g6 => ?_) (fun r1 w1 h => ?_)
  · rcases hX with ⟨rfl, h⟩ | ⟨rfl, h⟩
    · refine gh_catch C (E := "java/util/NoSuchElementException") [] ⟨0, 10, 13, 19⟩ [⟨0, 10, 17, 13⟩] htab (fun y hy => nomatch hy) rfl (by decide) LCLL_19 (by decide) g1 g2 g3 g4 g5 g6 ?_
      refine g_astore (pc := 13) C dL_wakers_13 (Nat.le_of_ble_eq_true rfl) (lo' := [(4, .ref q), (0, .ref (adr x a0)), (1, .int a1), (2, .int a2), (3, .ref (adr x a3))]) rfl ?_
      refine g_iconst (pc := 15) C dL_wakers_15 (v := 1) rfl ?_
      exact g_iret (pc := 16) C hlk hr hb.1 hb.2 dL_wakers_16 h
    · refine gh_catch C (E := "java/lang/IllegalArgumentException") [⟨0, 10, 13, 19⟩] ⟨0, 10, 17, 13⟩ [] htab (fun y hy => by
      simp only [List.mem_cons, List.not_mem_nil, or_false] at hy
      rcases hy with rfl
      · exact ⟨by decide, _, LCLL_19, by decide⟩) rfl (by decide) LCLL_13 (by decide) g1 g2 g3 g4 g5 g6 ?_
      refine g_astore (pc := 17) C dL_wakers_17 (Nat.le_of_ble_eq_true rfl) (lo' := [(4, .ref q), (0, .ref (adr x a0)), (1, .int a1), (2, .int a2), (3, .ref (adr x a3))]) rfl ?_
      refine g_iconst (pc := 19) C dL_wakers_19 (v := 2) rfl ?_
      exact g_iret (pc := 20) C hlk hr hb.1 hb.2 dL_wakers_20 h
  · refine g_i2l (pc := 8) C dL_wakers_8 ?_
    obtain ⟨k1, h⟩ := h
    obtain ⟨k2, h⟩ := h
    refine g_last (pc := 9) C k1 k2 dL_wakers_9 ?_
    refine g_goto (pc := 10) C dL_wakers_10 (tgt := 21) rfl ?_
    refine g_iconst (pc := 21) C dL_wakers_21 (v := 0) rfl ?_
    exact g_iret (pc := 22) C hlk hr hb.1 hb.2 dL_wakers_22 h
def w_L_leastNoise (mc ms : Nat) (a0 : Nat) (a1 : Int32) (a2 : Int32) (a3 : Nat) (K : Int32 → Wd → Prop) (w : Wd) : Prop :=
  isK w a0 11 ∧ (2 ≤ mc ∧ 12 ≤ ms) ∧ w_X11_leastNoise 2 12 a0 a1 a2 (fun r1 w1 => isK w1 a3 21 ∧ vp_in 0 (wn w1 a3) ∧ K 0 (uL w1 a3 (0 : Int32).toNatClampNeg r1.toInt64)) (fun E u => (E = "java/util/NoSuchElementException" ∧ K 1 u) ∨ (E = "java/lang/IllegalArgumentException" ∧ K 2 u)) w
theorem c_L_leastNoise {x : xG} {l : Launch} (hl : l.stackTraces = false) {mc ms : Nat} {a0 : Nat} {a1 : Int32} {a2 : Int32} {a3 : Nat} {K : Int32 → Wd → Prop} {w : Wd} (h : w_L_leastNoise mc ms a0 a1 a2 a3 K w) : Met l yL_leastNoise (xwsH yL_leastNoise cL_leastNoise 5 (some .int) [(0, 10, 13, 19), (0, 10, 17, 13)]) (rmd 8 mc ms) (xPc x [.ref (adr x a0), .int a1, .int a2, .ref (adr x a3)] w) (QcI x K) mc ms (xA x) := by
  refine xMetH (by decide) (Nat.le_of_ble_eq_true rfl) (fun p e s m below meth c C hlk hr htab => ?_)
  show GW x p l e (rmd 8 mc ms) s m [.ref (adr x a0), .int a1, .int a2, .ref (adr x a3)].toArray below meth c 5 (QI x K below [.ref (adr x a0), .int a1, .int a2, .ref (adr x a3)].toArray s mc ms) 0 [(0, .ref (adr x a0)), (1, .int a1), (2, .int a2), (3, .ref (adr x a3))] [] w 0 0
  obtain ⟨k0, h⟩ := h
  obtain ⟨hb, h⟩ := h
  replace hb : 0 + 2 ≤ mc ∧ 0 + 12 ≤ ms := by omega
  refine g_aload_n (pc := 0) C dL_leastNoise_0 (q := 3) rfl ?_
  refine g_iconst (pc := 1) C dL_leastNoise_1 (v := 0) rfl ?_
  refine g_aload_n (pc := 2) C dL_leastNoise_2 (q := 0) rfl ?_
  refine g_iload_n (pc := 3) C dL_leastNoise_3 (q := 1) rfl ?_
  refine g_iload_n (pc := 4) C dL_leastNoise_4 (q := 2) rfl ?_
  refine gh_callVi (pc := 5) C (As := [.int a1, .int a2]) (rest := [.int 0, .ref (adr x a3)]) (ci := 11) (mc := 2) (ms := 12) (c_X11_leastNoise hl h) (x_cwV C 2 LML_70 ⟨rfl, by decide, by decide, rfl⟩ (Nat.le_of_ble_eq_true rfl) (by decide)) rfl k0 (by decide) rfl rfl (Nat.le_of_ble_eq_true rfl) dL_leastNoise_5 ⟨hb.1, hb.2⟩ (fun E q u H1 locs1 ls ce hX g1 g2 g3 g4 g5 g6 => ?_) (fun r1 w1 h => ?_)
  · rcases hX with ⟨rfl, h⟩ | ⟨rfl, h⟩
    · refine gh_catch C (E := "java/util/NoSuchElementException") [] ⟨0, 10, 13, 19⟩ [⟨0, 10, 17, 13⟩] htab (fun y hy => nomatch hy) rfl (by decide) LCLL_19 (by decide) g1 g2 g3 g4 g5 g6 ?_
      refine g_astore (pc := 13) C dL_leastNoise_13 (Nat.le_of_ble_eq_true rfl) (lo' := [(4, .ref q), (0, .ref (adr x a0)), (1, .int a1), (2, .int a2), (3, .ref (adr x a3))]) rfl ?_
      refine g_iconst (pc := 15) C dL_leastNoise_15 (v := 1) rfl ?_
      exact g_iret (pc := 16) C hlk hr hb.1 hb.2 dL_leastNoise_16 h
    · refine gh_catch C (E := "java/lang/IllegalArgumentException") [⟨0, 10, 13, 19⟩] ⟨0, 10, 17, 13⟩ [] htab (fun y hy => by
      simp only [List.mem_cons, List.not_mem_nil, or_false] at hy
      rcases hy with rfl
      · exact ⟨by decide, _, LCLL_19, by decide⟩) rfl (by decide) LCLL_13 (by decide) g1 g2 g3 g4 g5 g6 ?_
      refine g_astore (pc := 17) C dL_leastNoise_17 (Nat.le_of_ble_eq_true rfl) (lo' := [(4, .ref q), (0, .ref (adr x a0)), (1, .int a1), (2, .int a2), (3, .ref (adr x a3))]) rfl ?_
      refine g_iconst (pc := 19) C dL_leastNoise_19 (v := 2) rfl ?_
      exact g_iret (pc := 20) C hlk hr hb.1 hb.2 dL_leastNoise_20 h
  · refine g_i2l (pc := 8) C dL_leastNoise_8 ?_
    obtain ⟨k1, h⟩ := h
    obtain ⟨k2, h⟩ := h
    refine g_last (pc := 9) C k1 k2 dL_leastNoise_9 ?_
    refine g_goto (pc := 10) C dL_leastNoise_10 (tgt := 21) rfl ?_
    refine g_iconst (pc := 21) C dL_leastNoise_21 (v := 0) rfl ?_
    exact g_iret (pc := 22) C hlk hr hb.1 hb.2 dL_leastNoise_22 h
def w_L_shield (mc ms : Nat) (a0 : Nat) (a1 : Int32) (a2 : Int32) (a3 : Int32) (a4 : Int32) (a5 : Nat) (K : Int32 → Wd → Prop) (w : Wd) : Prop :=
  isK w a0 11 ∧ (4 ≤ mc ∧ 24 ≤ ms) ∧ w_X11_shield 4 24 a0 a1 a2 a3 a4 (fun r1 w1 => isK w1 a5 21 ∧ vp_in 0 (wn w1 a5) ∧ K 0 (uL w1 a5 (0 : Int32).toNatClampNeg r1.toInt64)) (fun E u => (E = "java/util/NoSuchElementException" ∧ K 1 u) ∨ (E = "java/lang/IllegalArgumentException" ∧ K 2 u)) w
theorem c_L_shield {x : xG} {l : Launch} (hl : l.stackTraces = false) {mc ms : Nat} {a0 : Nat} {a1 : Int32} {a2 : Int32} {a3 : Int32} {a4 : Int32} {a5 : Nat} {K : Int32 → Wd → Prop} {w : Wd} (h : w_L_shield mc ms a0 a1 a2 a3 a4 a5 K w) : Met l yL_shield (xwsH yL_shield cL_shield 7 (some .int) [(0, 14, 17, 19), (0, 14, 21, 13)]) (rmd 9 mc ms) (xPc x [.ref (adr x a0), .int a1, .int a2, .int a3, .int a4, .ref (adr x a5)] w) (QcI x K) mc ms (xA x) := by
  refine xMetH (by decide) (Nat.le_of_ble_eq_true rfl) (fun p e s m below meth c C hlk hr htab => ?_)
  show GW x p l e (rmd 9 mc ms) s m [.ref (adr x a0), .int a1, .int a2, .int a3, .int a4, .ref (adr x a5)].toArray below meth c 7 (QI x K below [.ref (adr x a0), .int a1, .int a2, .int a3, .int a4, .ref (adr x a5)].toArray s mc ms) 0 [(0, .ref (adr x a0)), (1, .int a1), (2, .int a2), (3, .int a3), (4, .int a4), (5, .ref (adr x a5))] [] w 0 0
  obtain ⟨k0, h⟩ := h
  obtain ⟨hb, h⟩ := h
  replace hb : 0 + 4 ≤ mc ∧ 0 + 24 ≤ ms := by omega
  refine g_aload (pc := 0) C dL_shield_0 (q := 5) rfl ?_
  refine g_iconst (pc := 2) C dL_shield_2 (v := 0) rfl ?_
  refine g_aload_n (pc := 3) C dL_shield_3 (q := 0) rfl ?_
  refine g_iload_n (pc := 4) C dL_shield_4 (q := 1) rfl ?_
  refine g_iload_n (pc := 5) C dL_shield_5 (q := 2) rfl ?_
  refine g_iload_n (pc := 6) C dL_shield_6 (q := 3) rfl ?_
  refine g_iload (pc := 7) C dL_shield_7 (q := 4) rfl ?_
  refine gh_callVi (pc := 9) C (As := [.int a1, .int a2, .int a3, .int a4]) (rest := [.int 0, .ref (adr x a5)]) (ci := 11) (mc := 4) (ms := 24) (c_X11_shield hl h) (x_cwV C 4 LML_73 ⟨rfl, by decide, by decide, rfl⟩ (Nat.le_of_ble_eq_true rfl) (by decide)) rfl k0 (by decide) rfl rfl (Nat.le_of_ble_eq_true rfl) dL_shield_9 ⟨hb.1, hb.2⟩ (fun E q u H1 locs1 ls ce hX g1 g2 g3 g4 g5 g6 => ?_) (fun r1 w1 h => ?_)
  · rcases hX with ⟨rfl, h⟩ | ⟨rfl, h⟩
    · refine gh_catch C (E := "java/util/NoSuchElementException") [] ⟨0, 14, 17, 19⟩ [⟨0, 14, 21, 13⟩] htab (fun y hy => nomatch hy) rfl (by decide) LCLL_19 (by decide) g1 g2 g3 g4 g5 g6 ?_
      refine g_astore (pc := 17) C dL_shield_17 (Nat.le_of_ble_eq_true rfl) (lo' := [(6, .ref q), (0, .ref (adr x a0)), (1, .int a1), (2, .int a2), (3, .int a3), (4, .int a4), (5, .ref (adr x a5))]) rfl ?_
      refine g_iconst (pc := 19) C dL_shield_19 (v := 1) rfl ?_
      exact g_iret (pc := 20) C hlk hr hb.1 hb.2 dL_shield_20 h
    · refine gh_catch C (E := "java/lang/IllegalArgumentException") [⟨0, 14, 17, 19⟩] ⟨0, 14, 21, 13⟩ [] htab (fun y hy => by
      simp only [List.mem_cons, List.not_mem_nil, or_false] at hy
      rcases hy with rfl
      · exact ⟨by decide, _, LCLL_19, by decide⟩) rfl (by decide) LCLL_13 (by decide) g1 g2 g3 g4 g5 g6 ?_
      refine g_astore (pc := 21) C dL_shield_21 (Nat.le_of_ble_eq_true rfl) (lo' := [(6, .ref q), (0, .ref (adr x a0)), (1, .int a1), (2, .int a2), (3, .int a3), (4, .int a4), (5, .ref (adr x a5))]) rfl ?_
      refine g_iconst (pc := 23) C dL_shield_23 (v := 2) rfl ?_
      exact g_iret (pc := 24) C hlk hr hb.1 hb.2 dL_shield_24 h
  · refine g_i2l (pc := 12) C dL_shield_12 ?_
    obtain ⟨k1, h⟩ := h
    obtain ⟨k2, h⟩ := h
    refine g_last (pc := 13) C k1 k2 dL_shield_13 ?_
    refine g_goto (pc := 14) C dL_shield_14 (tgt := 25) rfl ?_
    refine g_iconst (pc := 25) C dL_shield_25 (v := 0) rfl ?_
    exact g_iret (pc := 26) C hlk hr hb.1 hb.2 dL_shield_26 h
def w_L_loudest (mc ms : Nat) (a0 : Nat) (a1 : Int32) (a2 : Nat) (K : Int32 → Wd → Prop) (w : Wd) : Prop :=
  isK w a0 11 ∧ (1 ≤ mc ∧ 6 ≤ ms) ∧ w_X11_loudest 1 6 a0 a1 (fun r1 w1 => isK w1 a2 21 ∧ vp_in 0 (wn w1 a2) ∧ K 0 (uL w1 a2 (0 : Int32).toNatClampNeg r1.toInt64)) (fun E u => (E = "java/lang/IllegalArgumentException" ∧ K 1 u)) w
theorem c_L_loudest {x : xG} {l : Launch} (hl : l.stackTraces = false) {mc ms : Nat} {a0 : Nat} {a1 : Int32} {a2 : Nat} {K : Int32 → Wd → Prop} {w : Wd} (h : w_L_loudest mc ms a0 a1 a2 K w) : Met l yL_loudest (xwsH yL_loudest cL_loudest 4 (some .int) [(0, 9, 12, 13)]) (rmd 9 mc ms) (xPc x [.ref (adr x a0), .int a1, .ref (adr x a2)] w) (QcI x K) mc ms (xA x) := by
  refine xMetH (by decide) (Nat.le_of_ble_eq_true rfl) (fun p e s m below meth c C hlk hr htab => ?_)
  show GW x p l e (rmd 9 mc ms) s m [.ref (adr x a0), .int a1, .ref (adr x a2)].toArray below meth c 4 (QI x K below [.ref (adr x a0), .int a1, .ref (adr x a2)].toArray s mc ms) 0 [(0, .ref (adr x a0)), (1, .int a1), (2, .ref (adr x a2))] [] w 0 0
  obtain ⟨k0, h⟩ := h
  obtain ⟨hb, h⟩ := h
  replace hb : 0 + 1 ≤ mc ∧ 0 + 6 ≤ ms := by omega
  refine g_aload_n (pc := 0) C dL_loudest_0 (q := 2) rfl ?_
  refine g_iconst (pc := 1) C dL_loudest_1 (v := 0) rfl ?_
  refine g_aload_n (pc := 2) C dL_loudest_2 (q := 0) rfl ?_
  refine g_iload_n (pc := 3) C dL_loudest_3 (q := 1) rfl ?_
  refine gh_callVi (pc := 4) C (As := [.int a1]) (rest := [.int 0, .ref (adr x a2)]) (ci := 11) (mc := 1) (ms := 6) (c_X11_loudest hl h) (x_cwV C 1 LML_77 ⟨rfl, by decide, by decide, rfl⟩ (Nat.le_of_ble_eq_true rfl) (by decide)) rfl k0 (by decide) rfl rfl (Nat.le_of_ble_eq_true rfl) dL_loudest_4 ⟨hb.1, hb.2⟩ (fun E q u H1 locs1 ls ce hX g1 g2 g3 g4 g5 g6 => ?_) (fun r1 w1 h => ?_)
  · obtain ⟨rfl, h⟩ := hX
    refine gh_catch C (E := "java/lang/IllegalArgumentException") [] ⟨0, 9, 12, 13⟩ [] htab (fun y hy => nomatch hy) rfl (by decide) LCLL_13 (by decide) g1 g2 g3 g4 g5 g6 ?_
    refine g_astore_n (pc := 12) C dL_loudest_12 (Nat.le_of_ble_eq_true rfl) (lo' := [(3, .ref q), (0, .ref (adr x a0)), (1, .int a1), (2, .ref (adr x a2))]) rfl ?_
    refine g_iconst (pc := 13) C dL_loudest_13 (v := 1) rfl ?_
    exact g_iret (pc := 14) C hlk hr hb.1 hb.2 dL_loudest_14 h
  · refine g_i2l (pc := 7) C dL_loudest_7 ?_
    obtain ⟨k1, h⟩ := h
    obtain ⟨k2, h⟩ := h
    refine g_last (pc := 8) C k1 k2 dL_loudest_8 ?_
    refine g_goto (pc := 9) C dL_loudest_9 (tgt := 15) rfl ?_
    refine g_iconst (pc := 15) C dL_loudest_15 (v := 0) rfl ?_
    exact g_iret (pc := 16) C hlk hr hb.1 hb.2 dL_loudest_16 h
def w_L_chorus (mc ms : Nat) (a0 : Nat) (a1 : Int32) (a2 : Int32) (a3 : Nat) (K : Int32 → Wd → Prop) (w : Wd) : Prop :=
  isK w a0 11 ∧ (2 ≤ mc ∧ 12 ≤ ms) ∧ w_X11_chorus 2 12 a0 a1 a2 (fun r1 w1 => isK w1 a3 21 ∧ vp_in 0 (wn w1 a3) ∧ K 0 (uL w1 a3 (0 : Int32).toNatClampNeg r1.toInt64)) (fun E u => (E = "java/lang/IllegalArgumentException" ∧ K 1 u)) w
theorem c_L_chorus {x : xG} {l : Launch} (hl : l.stackTraces = false) {mc ms : Nat} {a0 : Nat} {a1 : Int32} {a2 : Int32} {a3 : Nat} {K : Int32 → Wd → Prop} {w : Wd} (h : w_L_chorus mc ms a0 a1 a2 a3 K w) : Met l yL_chorus (xwsH yL_chorus cL_chorus 5 (some .int) [(0, 10, 13, 13)]) (rmd 9 mc ms) (xPc x [.ref (adr x a0), .int a1, .int a2, .ref (adr x a3)] w) (QcI x K) mc ms (xA x) := by
  refine xMetH (by decide) (Nat.le_of_ble_eq_true rfl) (fun p e s m below meth c C hlk hr htab => ?_)
  show GW x p l e (rmd 9 mc ms) s m [.ref (adr x a0), .int a1, .int a2, .ref (adr x a3)].toArray below meth c 5 (QI x K below [.ref (adr x a0), .int a1, .int a2, .ref (adr x a3)].toArray s mc ms) 0 [(0, .ref (adr x a0)), (1, .int a1), (2, .int a2), (3, .ref (adr x a3))] [] w 0 0
  obtain ⟨k0, h⟩ := h
  obtain ⟨hb, h⟩ := h
  replace hb : 0 + 2 ≤ mc ∧ 0 + 12 ≤ ms := by omega
  refine g_aload_n (pc := 0) C dL_chorus_0 (q := 3) rfl ?_
  refine g_iconst (pc := 1) C dL_chorus_1 (v := 0) rfl ?_
  refine g_aload_n (pc := 2) C dL_chorus_2 (q := 0) rfl ?_
  refine g_iload_n (pc := 3) C dL_chorus_3 (q := 1) rfl ?_
  refine g_iload_n (pc := 4) C dL_chorus_4 (q := 2) rfl ?_
  refine gh_callVi (pc := 5) C (As := [.int a1, .int a2]) (rest := [.int 0, .ref (adr x a3)]) (ci := 11) (mc := 2) (ms := 12) (c_X11_chorus hl h) (x_cwV C 2 LML_80 ⟨rfl, by decide, by decide, rfl⟩ (Nat.le_of_ble_eq_true rfl) (by decide)) rfl k0 (by decide) rfl rfl (Nat.le_of_ble_eq_true rfl) dL_chorus_5 ⟨hb.1, hb.2⟩ (fun E q u H1 locs1 ls ce hX g1 g2 g3 g4 g5 g6 => ?_) (fun r1 w1 h => ?_)
  · obtain ⟨rfl, h⟩ := hX
    refine gh_catch C (E := "java/lang/IllegalArgumentException") [] ⟨0, 10, 13, 13⟩ [] htab (fun y hy => nomatch hy) rfl (by decide) LCLL_13 (by decide) g1 g2 g3 g4 g5 g6 ?_
    refine g_astore (pc := 13) C dL_chorus_13 (Nat.le_of_ble_eq_true rfl) (lo' := [(4, .ref q), (0, .ref (adr x a0)), (1, .int a1), (2, .int a2), (3, .ref (adr x a3))]) rfl ?_
    refine g_iconst (pc := 15) C dL_chorus_15 (v := 1) rfl ?_
    exact g_iret (pc := 16) C hlk hr hb.1 hb.2 dL_chorus_16 h
  · refine g_i2l (pc := 8) C dL_chorus_8 ?_
    obtain ⟨k1, h⟩ := h
    obtain ⟨k2, h⟩ := h
    refine g_last (pc := 9) C k1 k2 dL_chorus_9 ?_
    refine g_goto (pc := 10) C dL_chorus_10 (tgt := 17) rfl ?_
    refine g_iconst (pc := 17) C dL_chorus_17 (v := 0) rfl ?_
    exact g_iret (pc := 18) C hlk hr hb.1 hb.2 dL_chorus_18 h
def w_L_yawns (mc ms : Nat) (a0 : Nat) (a1 : Int32) (a2 : Int32) (a3 : Int32) (a4 : Nat) (K : Int32 → Wd → Prop) (w : Wd) : Prop :=
  isK w a0 11 ∧ (3 ≤ mc ∧ 18 ≤ ms) ∧ w_X11_yawns 3 18 a0 a1 a2 a3 (fun r1 w1 => isK w1 a4 21 ∧ vp_in 0 (wn w1 a4) ∧ K 0 (uL w1 a4 (0 : Int32).toNatClampNeg r1.toInt64)) (fun E u => (E = "java/util/NoSuchElementException" ∧ K 1 u) ∨ (E = "java/lang/IllegalArgumentException" ∧ K 2 u)) w
theorem c_L_yawns {x : xG} {l : Launch} (hl : l.stackTraces = false) {mc ms : Nat} {a0 : Nat} {a1 : Int32} {a2 : Int32} {a3 : Int32} {a4 : Nat} {K : Int32 → Wd → Prop} {w : Wd} (h : w_L_yawns mc ms a0 a1 a2 a3 a4 K w) : Met l yL_yawns (xwsH yL_yawns cL_yawns 6 (some .int) [(0, 12, 15, 19), (0, 12, 19, 13)]) (rmd 9 mc ms) (xPc x [.ref (adr x a0), .int a1, .int a2, .int a3, .ref (adr x a4)] w) (QcI x K) mc ms (xA x) := by
  refine xMetH (by decide) (Nat.le_of_ble_eq_true rfl) (fun p e s m below meth c C hlk hr htab => ?_)
  show GW x p l e (rmd 9 mc ms) s m [.ref (adr x a0), .int a1, .int a2, .int a3, .ref (adr x a4)].toArray below meth c 6 (QI x K below [.ref (adr x a0), .int a1, .int a2, .int a3, .ref (adr x a4)].toArray s mc ms) 0 [(0, .ref (adr x a0)), (1, .int a1), (2, .int a2), (3, .int a3), (4, .ref (adr x a4))] [] w 0 0
  obtain ⟨k0, h⟩ := h
  obtain ⟨hb, h⟩ := h
  replace hb : 0 + 3 ≤ mc ∧ 0 + 18 ≤ ms := by omega
  refine g_aload (pc := 0) C dL_yawns_0 (q := 4) rfl ?_
  refine g_iconst (pc := 2) C dL_yawns_2 (v := 0) rfl ?_
  refine g_aload_n (pc := 3) C dL_yawns_3 (q := 0) rfl ?_
  refine g_iload_n (pc := 4) C dL_yawns_4 (q := 1) rfl ?_
  refine g_iload_n (pc := 5) C dL_yawns_5 (q := 2) rfl ?_
  refine g_iload_n (pc := 6) C dL_yawns_6 (q := 3) rfl ?_
  refine gh_callVi (pc := 7) C (As := [.int a1, .int a2, .int a3]) (rest := [.int 0, .ref (adr x a4)]) (ci := 11) (mc := 3) (ms := 18) (c_X11_yawns hl h) (x_cwV C 3 LML_83 ⟨rfl, by decide, by decide, rfl⟩ (Nat.le_of_ble_eq_true rfl) (by decide)) rfl k0 (by decide) rfl rfl (Nat.le_of_ble_eq_true rfl) dL_yawns_7 ⟨hb.1, hb.2⟩ (fun E q u H1 locs1 ls ce hX g1 g2 g3 g4 g5 g6 => ?_) (fun r1 w1 h => ?_)
  · rcases hX with ⟨rfl, h⟩ | ⟨rfl, h⟩
    · refine gh_catch C (E := "java/util/NoSuchElementException") [] ⟨0, 12, 15, 19⟩ [⟨0, 12, 19, 13⟩] htab (fun y hy => nomatch hy) rfl (by decide) LCLL_19 (by decide) g1 g2 g3 g4 g5 g6 ?_
      refine g_astore (pc := 15) C dL_yawns_15 (Nat.le_of_ble_eq_true rfl) (lo' := [(5, .ref q), (0, .ref (adr x a0)), (1, .int a1), (2, .int a2), (3, .int a3), (4, .ref (adr x a4))]) rfl ?_
      refine g_iconst (pc := 17) C dL_yawns_17 (v := 1) rfl ?_
      exact g_iret (pc := 18) C hlk hr hb.1 hb.2 dL_yawns_18 h
    · refine gh_catch C (E := "java/lang/IllegalArgumentException") [⟨0, 12, 15, 19⟩] ⟨0, 12, 19, 13⟩ [] htab (fun y hy => by
      simp only [List.mem_cons, List.not_mem_nil, or_false] at hy
      rcases hy with rfl
      · exact ⟨by decide, _, LCLL_19, by decide⟩) rfl (by decide) LCLL_13 (by decide) g1 g2 g3 g4 g5 g6 ?_
      refine g_astore (pc := 19) C dL_yawns_19 (Nat.le_of_ble_eq_true rfl) (lo' := [(5, .ref q), (0, .ref (adr x a0)), (1, .int a1), (2, .int a2), (3, .int a3), (4, .ref (adr x a4))]) rfl ?_
      refine g_iconst (pc := 21) C dL_yawns_21 (v := 2) rfl ?_
      exact g_iret (pc := 22) C hlk hr hb.1 hb.2 dL_yawns_22 h
  · refine g_i2l (pc := 10) C dL_yawns_10 ?_
    obtain ⟨k1, h⟩ := h
    obtain ⟨k2, h⟩ := h
    refine g_last (pc := 11) C k1 k2 dL_yawns_11 ?_
    refine g_goto (pc := 12) C dL_yawns_12 (tgt := 23) rfl ?_
    refine g_iconst (pc := 23) C dL_yawns_23 (v := 0) rfl ?_
    exact g_iret (pc := 24) C hlk hr hb.1 hb.2 dL_yawns_24 h
def w_L_loudHour (mc ms : Nat) (a0 : Nat) (a1 : Int32) (a2 : Int32) (a3 : Nat) (K : Int32 → Wd → Prop) (w : Wd) : Prop :=
  isK w a0 11 ∧ (2 ≤ mc ∧ 12 ≤ ms) ∧ w_X11_loudHour 2 12 a0 a1 a2 (fun r1 w1 => isK w1 a3 21 ∧ vp_in 0 (wn w1 a3) ∧ K 0 (uL w1 a3 (0 : Int32).toNatClampNeg r1.toInt64)) (fun E u => (E = "java/util/NoSuchElementException" ∧ K 1 u) ∨ (E = "java/lang/IllegalArgumentException" ∧ K 2 u)) w
theorem c_L_loudHour {x : xG} {l : Launch} (hl : l.stackTraces = false) {mc ms : Nat} {a0 : Nat} {a1 : Int32} {a2 : Int32} {a3 : Nat} {K : Int32 → Wd → Prop} {w : Wd} (h : w_L_loudHour mc ms a0 a1 a2 a3 K w) : Met l yL_loudHour (xwsH yL_loudHour cL_loudHour 5 (some .int) [(0, 10, 13, 19), (0, 10, 17, 13)]) (rmd 9 mc ms) (xPc x [.ref (adr x a0), .int a1, .int a2, .ref (adr x a3)] w) (QcI x K) mc ms (xA x) := by
  refine xMetH (by decide) (Nat.le_of_ble_eq_true rfl) (fun p e s m below meth c C hlk hr htab => ?_)
  show GW x p l e (rmd 9 mc ms) s m [.ref (adr x a0), .int a1, .int a2, .ref (adr x a3)].toArray below meth c 5 (QI x K below [.ref (adr x a0), .int a1, .int a2, .ref (adr x a3)].toArray s mc ms) 0 [(0, .ref (adr x a0)), (1, .int a1), (2, .int a2), (3, .ref (adr x a3))] [] w 0 0
  obtain ⟨k0, h⟩ := h
  obtain ⟨hb, h⟩ := h
  replace hb : 0 + 2 ≤ mc ∧ 0 + 12 ≤ ms := by omega
  refine g_aload_n (pc := 0) C dL_loudHour_0 (q := 3) rfl ?_
  refine g_iconst (pc := 1) C dL_loudHour_1 (v := 0) rfl ?_
  refine g_aload_n (pc := 2) C dL_loudHour_2 (q := 0) rfl ?_
  refine g_iload_n (pc := 3) C dL_loudHour_3 (q := 1) rfl ?_
  refine g_iload_n (pc := 4) C dL_loudHour_4 (q := 2) rfl ?_
  refine gh_callVi (pc := 5) C (As := [.int a1, .int a2]) (rest := [.int 0, .ref (adr x a3)]) (ci := 11) (mc := 2) (ms := 12) (c_X11_loudHour hl h) (x_cwV C 2 LML_87 ⟨rfl, by decide, by decide, rfl⟩ (Nat.le_of_ble_eq_true rfl) (by decide)) rfl k0 (by decide) rfl rfl (Nat.le_of_ble_eq_true rfl) dL_loudHour_5 ⟨hb.1, hb.2⟩ (fun E q u H1 locs1 ls ce hX g1 g2 g3 g4 g5 g6 => ?_) (fun r1 w1 h => ?_)
  · rcases hX with ⟨rfl, h⟩ | ⟨rfl, h⟩
    · refine gh_catch C (E := "java/util/NoSuchElementException") [] ⟨0, 10, 13, 19⟩ [⟨0, 10, 17, 13⟩] htab (fun y hy => nomatch hy) rfl (by decide) LCLL_19 (by decide) g1 g2 g3 g4 g5 g6 ?_
      refine g_astore (pc := 13) C dL_loudHour_13 (Nat.le_of_ble_eq_true rfl) (lo' := [(4, .ref q), (0, .ref (adr x a0)), (1, .int a1), (2, .int a2), (3, .ref (adr x a3))]) rfl ?_
      refine g_iconst (pc := 15) C dL_loudHour_15 (v := 1) rfl ?_
      exact g_iret (pc := 16) C hlk hr hb.1 hb.2 dL_loudHour_16 h
    · refine gh_catch C (E := "java/lang/IllegalArgumentException") [⟨0, 10, 13, 19⟩] ⟨0, 10, 17, 13⟩ [] htab (fun y hy => by
      simp only [List.mem_cons, List.not_mem_nil, or_false] at hy
      rcases hy with rfl
      · exact ⟨by decide, _, LCLL_19, by decide⟩) rfl (by decide) LCLL_13 (by decide) g1 g2 g3 g4 g5 g6 ?_
      refine g_astore (pc := 17) C dL_loudHour_17 (Nat.le_of_ble_eq_true rfl) (lo' := [(4, .ref q), (0, .ref (adr x a0)), (1, .int a1), (2, .int a2), (3, .ref (adr x a3))]) rfl ?_
      refine g_iconst (pc := 19) C dL_loudHour_19 (v := 2) rfl ?_
      exact g_iret (pc := 20) C hlk hr hb.1 hb.2 dL_loudHour_20 h
  · refine g_i2l (pc := 8) C dL_loudHour_8 ?_
    obtain ⟨k1, h⟩ := h
    obtain ⟨k2, h⟩ := h
    refine g_last (pc := 9) C k1 k2 dL_loudHour_9 ?_
    refine g_goto (pc := 10) C dL_loudHour_10 (tgt := 21) rfl ?_
    refine g_iconst (pc := 21) C dL_loudHour_21 (v := 0) rfl ?_
    exact g_iret (pc := 22) C hlk hr hb.1 hb.2 dL_loudHour_22 h
def w_L_quietHours (mc ms : Nat) (a0 : Nat) (a1 : Int32) (a2 : Nat) (K : Int32 → Wd → Prop) (w : Wd) : Prop :=
  isK w a0 11 ∧ (1 ≤ mc ∧ 6 ≤ ms) ∧ w_X11_quietHours 1 6 a0 a1 (fun r1 w1 => isK w1 a2 21 ∧ vp_in 0 (wn w1 a2) ∧ K 0 (uL w1 a2 (0 : Int32).toNatClampNeg r1)) (fun E u => (E = "java/util/NoSuchElementException" ∧ K 1 u)) w
theorem c_L_quietHours {x : xG} {l : Launch} (hl : l.stackTraces = false) {mc ms : Nat} {a0 : Nat} {a1 : Int32} {a2 : Nat} {K : Int32 → Wd → Prop} {w : Wd} (h : w_L_quietHours mc ms a0 a1 a2 K w) : Met l yL_quietHours (xwsH yL_quietHours cL_quietHours 4 (some .int) [(0, 8, 11, 19)]) (rmd 8 mc ms) (xPc x [.ref (adr x a0), .int a1, .ref (adr x a2)] w) (QcI x K) mc ms (xA x) := by
  refine xMetH (by decide) (Nat.le_of_ble_eq_true rfl) (fun p e s m below meth c C hlk hr htab => ?_)
  show GW x p l e (rmd 8 mc ms) s m [.ref (adr x a0), .int a1, .ref (adr x a2)].toArray below meth c 4 (QI x K below [.ref (adr x a0), .int a1, .ref (adr x a2)].toArray s mc ms) 0 [(0, .ref (adr x a0)), (1, .int a1), (2, .ref (adr x a2))] [] w 0 0
  obtain ⟨k0, h⟩ := h
  obtain ⟨hb, h⟩ := h
  replace hb : 0 + 1 ≤ mc ∧ 0 + 6 ≤ ms := by omega
  refine g_aload_n (pc := 0) C dL_quietHours_0 (q := 2) rfl ?_
  refine g_iconst (pc := 1) C dL_quietHours_1 (v := 0) rfl ?_
  refine g_aload_n (pc := 2) C dL_quietHours_2 (q := 0) rfl ?_
  refine g_iload_n (pc := 3) C dL_quietHours_3 (q := 1) rfl ?_
  refine gh_callVl (pc := 4) C (As := [.int a1]) (rest := [.int 0, .ref (adr x a2)]) (ci := 11) (mc := 1) (ms := 6) (c_X11_quietHours hl h) (x_cwV C 1 LML_90 ⟨rfl, by decide, by decide, rfl⟩ (Nat.le_of_ble_eq_true rfl) (by decide)) rfl k0 (by decide) rfl rfl (Nat.le_of_ble_eq_true rfl) dL_quietHours_4 ⟨hb.1, hb.2⟩ (fun E q u H1 locs1 ls ce hX g1 g2 g3 g4 g5 g6 => ?_) (fun r1 w1 h => ?_)
  · obtain ⟨rfl, h⟩ := hX
    refine gh_catch C (E := "java/util/NoSuchElementException") [] ⟨0, 8, 11, 19⟩ [] htab (fun y hy => nomatch hy) rfl (by decide) LCLL_19 (by decide) g1 g2 g3 g4 g5 g6 ?_
    refine g_astore_n (pc := 11) C dL_quietHours_11 (Nat.le_of_ble_eq_true rfl) (lo' := [(3, .ref q), (0, .ref (adr x a0)), (1, .int a1), (2, .ref (adr x a2))]) rfl ?_
    refine g_iconst (pc := 12) C dL_quietHours_12 (v := 1) rfl ?_
    exact g_iret (pc := 13) C hlk hr hb.1 hb.2 dL_quietHours_13 h
  · obtain ⟨k1, h⟩ := h
    obtain ⟨k2, h⟩ := h
    refine g_last (pc := 7) C k1 k2 dL_quietHours_7 ?_
    refine g_goto (pc := 8) C dL_quietHours_8 (tgt := 14) rfl ?_
    refine g_iconst (pc := 14) C dL_quietHours_14 (v := 0) rfl ?_
    exact g_iret (pc := 15) C hlk hr hb.1 hb.2 dL_quietHours_15 h
def w_L_quietWell (mc ms : Nat) (a0 : Nat) (a1 : Int32) (a2 : Int32) (a3 : Nat) (K : Int32 → Wd → Prop) (w : Wd) : Prop :=
  isK w a0 11 ∧ (2 ≤ mc ∧ 12 ≤ ms) ∧ w_X11_quietWell 2 12 a0 a1 a2 (fun r1 w1 => isK w1 a3 21 ∧ vp_in 0 (wn w1 a3) ∧ K 0 (uL w1 a3 (0 : Int32).toNatClampNeg r1.toInt64)) (fun E u => (E = "java/util/NoSuchElementException" ∧ K 1 u) ∨ (E = "java/lang/IllegalArgumentException" ∧ K 2 u)) w
theorem c_L_quietWell {x : xG} {l : Launch} (hl : l.stackTraces = false) {mc ms : Nat} {a0 : Nat} {a1 : Int32} {a2 : Int32} {a3 : Nat} {K : Int32 → Wd → Prop} {w : Wd} (h : w_L_quietWell mc ms a0 a1 a2 a3 K w) : Met l yL_quietWell (xwsH yL_quietWell cL_quietWell 5 (some .int) [(0, 10, 13, 19), (0, 10, 17, 13)]) (rmd 8 mc ms) (xPc x [.ref (adr x a0), .int a1, .int a2, .ref (adr x a3)] w) (QcI x K) mc ms (xA x) := by
  refine xMetH (by decide) (Nat.le_of_ble_eq_true rfl) (fun p e s m below meth c C hlk hr htab => ?_)
  show GW x p l e (rmd 8 mc ms) s m [.ref (adr x a0), .int a1, .int a2, .ref (adr x a3)].toArray below meth c 5 (QI x K below [.ref (adr x a0), .int a1, .int a2, .ref (adr x a3)].toArray s mc ms) 0 [(0, .ref (adr x a0)), (1, .int a1), (2, .int a2), (3, .ref (adr x a3))] [] w 0 0
  obtain ⟨k0, h⟩ := h
  obtain ⟨hb, h⟩ := h
  replace hb : 0 + 2 ≤ mc ∧ 0 + 12 ≤ ms := by omega
  refine g_aload_n (pc := 0) C dL_quietWell_0 (q := 3) rfl ?_
  refine g_iconst (pc := 1) C dL_quietWell_1 (v := 0) rfl ?_
  refine g_aload_n (pc := 2) C dL_quietWell_2 (q := 0) rfl ?_
  refine g_iload_n (pc := 3) C dL_quietWell_3 (q := 1) rfl ?_
  refine g_iload_n (pc := 4) C dL_quietWell_4 (q := 2) rfl ?_
  refine gh_callVi (pc := 5) C (As := [.int a1, .int a2]) (rest := [.int 0, .ref (adr x a3)]) (ci := 11) (mc := 2) (ms := 12) (c_X11_quietWell hl h) (x_cwV C 2 LML_94 ⟨rfl, by decide, by decide, rfl⟩ (Nat.le_of_ble_eq_true rfl) (by decide)) rfl k0 (by decide) rfl rfl (Nat.le_of_ble_eq_true rfl) dL_quietWell_5 ⟨hb.1, hb.2⟩ (fun E q u H1 locs1 ls ce hX g1 g2 g3 g4 g5 g6 => ?_) (fun r1 w1 h => ?_)
  · rcases hX with ⟨rfl, h⟩ | ⟨rfl, h⟩
    · refine gh_catch C (E := "java/util/NoSuchElementException") [] ⟨0, 10, 13, 19⟩ [⟨0, 10, 17, 13⟩] htab (fun y hy => nomatch hy) rfl (by decide) LCLL_19 (by decide) g1 g2 g3 g4 g5 g6 ?_
      refine g_astore (pc := 13) C dL_quietWell_13 (Nat.le_of_ble_eq_true rfl) (lo' := [(4, .ref q), (0, .ref (adr x a0)), (1, .int a1), (2, .int a2), (3, .ref (adr x a3))]) rfl ?_
      refine g_iconst (pc := 15) C dL_quietWell_15 (v := 1) rfl ?_
      exact g_iret (pc := 16) C hlk hr hb.1 hb.2 dL_quietWell_16 h
    · refine gh_catch C (E := "java/lang/IllegalArgumentException") [⟨0, 10, 13, 19⟩] ⟨0, 10, 17, 13⟩ [] htab (fun y hy => by
      simp only [List.mem_cons, List.not_mem_nil, or_false] at hy
      rcases hy with rfl
      · exact ⟨by decide, _, LCLL_19, by decide⟩) rfl (by decide) LCLL_13 (by decide) g1 g2 g3 g4 g5 g6 ?_
      refine g_astore (pc := 17) C dL_quietWell_17 (Nat.le_of_ble_eq_true rfl) (lo' := [(4, .ref q), (0, .ref (adr x a0)), (1, .int a1), (2, .int a2), (3, .ref (adr x a3))]) rfl ?_
      refine g_iconst (pc := 19) C dL_quietWell_19 (v := 2) rfl ?_
      exact g_iret (pc := 20) C hlk hr hb.1 hb.2 dL_quietWell_20 h
  · refine g_i2l (pc := 8) C dL_quietWell_8 ?_
    obtain ⟨k1, h⟩ := h
    obtain ⟨k2, h⟩ := h
    refine g_last (pc := 9) C k1 k2 dL_quietWell_9 ?_
    refine g_goto (pc := 10) C dL_quietWell_10 (tgt := 21) rfl ?_
    refine g_iconst (pc := 21) C dL_quietWell_21 (v := 0) rfl ?_
    exact g_iret (pc := 22) C hlk hr hb.1 hb.2 dL_quietWell_22 h
def w_L_plan (mc ms : Nat) (a0 : Nat) (a1 : Int32) (a2 : Nat) (K : Int32 → Wd → Prop) (w : Wd) : Prop :=
  isK w a0 11 ∧ (1 ≤ mc ∧ 6 ≤ ms) ∧ w_X11_plan 1 6 a0 a1 (fun r1 w1 => isK w1 a2 21 ∧ vp_in 0 (wn w1 a2) ∧ K 0 (uL w1 a2 (0 : Int32).toNatClampNeg r1.toInt64)) (fun E u => (E = "java/lang/IllegalArgumentException" ∧ K 1 u)) w
theorem c_L_plan {x : xG} {l : Launch} (hl : l.stackTraces = false) {mc ms : Nat} {a0 : Nat} {a1 : Int32} {a2 : Nat} {K : Int32 → Wd → Prop} {w : Wd} (h : w_L_plan mc ms a0 a1 a2 K w) : Met l yL_plan (xwsH yL_plan cL_plan 4 (some .int) [(0, 9, 12, 13)]) (rmd 8 mc ms) (xPc x [.ref (adr x a0), .int a1, .ref (adr x a2)] w) (QcI x K) mc ms (xA x) := by
  refine xMetH (by decide) (Nat.le_of_ble_eq_true rfl) (fun p e s m below meth c C hlk hr htab => ?_)
  show GW x p l e (rmd 8 mc ms) s m [.ref (adr x a0), .int a1, .ref (adr x a2)].toArray below meth c 4 (QI x K below [.ref (adr x a0), .int a1, .ref (adr x a2)].toArray s mc ms) 0 [(0, .ref (adr x a0)), (1, .int a1), (2, .ref (adr x a2))] [] w 0 0
  obtain ⟨k0, h⟩ := h
  obtain ⟨hb, h⟩ := h
  replace hb : 0 + 1 ≤ mc ∧ 0 + 6 ≤ ms := by omega
  refine g_aload_n (pc := 0) C dL_plan_0 (q := 2) rfl ?_
  refine g_iconst (pc := 1) C dL_plan_1 (v := 0) rfl ?_
  refine g_aload_n (pc := 2) C dL_plan_2 (q := 0) rfl ?_
  refine g_iload_n (pc := 3) C dL_plan_3 (q := 1) rfl ?_
  refine gh_callVi (pc := 4) C (As := [.int a1]) (rest := [.int 0, .ref (adr x a2)]) (ci := 11) (mc := 1) (ms := 6) (c_X11_plan hl h) (x_cwV C 1 LML_97 ⟨rfl, by decide, by decide, rfl⟩ (Nat.le_of_ble_eq_true rfl) (by decide)) rfl k0 (by decide) rfl rfl (Nat.le_of_ble_eq_true rfl) dL_plan_4 ⟨hb.1, hb.2⟩ (fun E q u H1 locs1 ls ce hX g1 g2 g3 g4 g5 g6 => ?_) (fun r1 w1 h => ?_)
  · obtain ⟨rfl, h⟩ := hX
    refine gh_catch C (E := "java/lang/IllegalArgumentException") [] ⟨0, 9, 12, 13⟩ [] htab (fun y hy => nomatch hy) rfl (by decide) LCLL_13 (by decide) g1 g2 g3 g4 g5 g6 ?_
    refine g_astore_n (pc := 12) C dL_plan_12 (Nat.le_of_ble_eq_true rfl) (lo' := [(3, .ref q), (0, .ref (adr x a0)), (1, .int a1), (2, .ref (adr x a2))]) rfl ?_
    refine g_iconst (pc := 13) C dL_plan_13 (v := 1) rfl ?_
    exact g_iret (pc := 14) C hlk hr hb.1 hb.2 dL_plan_14 h
  · refine g_i2l (pc := 7) C dL_plan_7 ?_
    obtain ⟨k1, h⟩ := h
    obtain ⟨k2, h⟩ := h
    refine g_last (pc := 8) C k1 k2 dL_plan_8 ?_
    refine g_goto (pc := 9) C dL_plan_9 (tgt := 15) rfl ?_
    refine g_iconst (pc := 15) C dL_plan_15 (v := 0) rfl ?_
    exact g_iret (pc := 16) C hlk hr hb.1 hb.2 dL_plan_16 h
def w_L_served (mc ms : Nat) (a0 : Nat) (a1 : Int32) (a2 : Nat) (K : Int32 → Wd → Prop) (w : Wd) : Prop :=
  isK w a0 11 ∧ (1 ≤ mc ∧ 6 ≤ ms) ∧ w_X11_served 1 6 a0 a1 (fun r1 w1 => isK w1 a2 21 ∧ vp_in 0 (wn w1 a2) ∧ K 0 (uL w1 a2 (0 : Int32).toNatClampNeg r1.toInt64)) (fun E u => (E = "java/lang/IllegalArgumentException" ∧ K 1 u)) w
theorem c_L_served {x : xG} {l : Launch} (hl : l.stackTraces = false) {mc ms : Nat} {a0 : Nat} {a1 : Int32} {a2 : Nat} {K : Int32 → Wd → Prop} {w : Wd} (h : w_L_served mc ms a0 a1 a2 K w) : Met l yL_served (xwsH yL_served cL_served 4 (some .int) [(0, 9, 12, 13)]) (rmd 8 mc ms) (xPc x [.ref (adr x a0), .int a1, .ref (adr x a2)] w) (QcI x K) mc ms (xA x) := by
  refine xMetH (by decide) (Nat.le_of_ble_eq_true rfl) (fun p e s m below meth c C hlk hr htab => ?_)
  show GW x p l e (rmd 8 mc ms) s m [.ref (adr x a0), .int a1, .ref (adr x a2)].toArray below meth c 4 (QI x K below [.ref (adr x a0), .int a1, .ref (adr x a2)].toArray s mc ms) 0 [(0, .ref (adr x a0)), (1, .int a1), (2, .ref (adr x a2))] [] w 0 0
  obtain ⟨k0, h⟩ := h
  obtain ⟨hb, h⟩ := h
  replace hb : 0 + 1 ≤ mc ∧ 0 + 6 ≤ ms := by omega
  refine g_aload_n (pc := 0) C dL_served_0 (q := 2) rfl ?_
  refine g_iconst (pc := 1) C dL_served_1 (v := 0) rfl ?_
  refine g_aload_n (pc := 2) C dL_served_2 (q := 0) rfl ?_
  refine g_iload_n (pc := 3) C dL_served_3 (q := 1) rfl ?_
  refine gh_callVi (pc := 4) C (As := [.int a1]) (rest := [.int 0, .ref (adr x a2)]) (ci := 11) (mc := 1) (ms := 6) (c_X11_served hl h) (x_cwV C 1 LML_100 ⟨rfl, by decide, by decide, rfl⟩ (Nat.le_of_ble_eq_true rfl) (by decide)) rfl k0 (by decide) rfl rfl (Nat.le_of_ble_eq_true rfl) dL_served_4 ⟨hb.1, hb.2⟩ (fun E q u H1 locs1 ls ce hX g1 g2 g3 g4 g5 g6 => ?_) (fun r1 w1 h => ?_)
  · obtain ⟨rfl, h⟩ := hX
    refine gh_catch C (E := "java/lang/IllegalArgumentException") [] ⟨0, 9, 12, 13⟩ [] htab (fun y hy => nomatch hy) rfl (by decide) LCLL_13 (by decide) g1 g2 g3 g4 g5 g6 ?_
    refine g_astore_n (pc := 12) C dL_served_12 (Nat.le_of_ble_eq_true rfl) (lo' := [(3, .ref q), (0, .ref (adr x a0)), (1, .int a1), (2, .ref (adr x a2))]) rfl ?_
    refine g_iconst (pc := 13) C dL_served_13 (v := 1) rfl ?_
    exact g_iret (pc := 14) C hlk hr hb.1 hb.2 dL_served_14 h
  · refine g_i2l (pc := 7) C dL_served_7 ?_
    obtain ⟨k1, h⟩ := h
    obtain ⟨k2, h⟩ := h
    refine g_last (pc := 8) C k1 k2 dL_served_8 ?_
    refine g_goto (pc := 9) C dL_served_9 (tgt := 15) rfl ?_
    refine g_iconst (pc := 15) C dL_served_15 (v := 0) rfl ?_
    exact g_iret (pc := 16) C hlk hr hb.1 hb.2 dL_served_16 h
def w_L_waterIn (mc ms : Nat) (a0 : Nat) (a1 : Int32) (a2 : Int32) (a3 : Nat) (K : Int32 → Wd → Prop) (w : Wd) : Prop :=
  isK w a0 11 ∧ (2 ≤ mc ∧ 12 ≤ ms) ∧ w_X11_waterIn 2 12 a0 a1 a2 (fun r1 w1 => isK w1 a3 21 ∧ vp_in 0 (wn w1 a3) ∧ K 0 (uL w1 a3 (0 : Int32).toNatClampNeg r1.toInt64)) (fun E u => (E = "java/util/NoSuchElementException" ∧ K 1 u) ∨ (E = "java/lang/IllegalArgumentException" ∧ K 2 u)) w
theorem c_L_waterIn {x : xG} {l : Launch} (hl : l.stackTraces = false) {mc ms : Nat} {a0 : Nat} {a1 : Int32} {a2 : Int32} {a3 : Nat} {K : Int32 → Wd → Prop} {w : Wd} (h : w_L_waterIn mc ms a0 a1 a2 a3 K w) : Met l yL_waterIn (xwsH yL_waterIn cL_waterIn 5 (some .int) [(0, 10, 13, 19), (0, 10, 17, 13)]) (rmd 8 mc ms) (xPc x [.ref (adr x a0), .int a1, .int a2, .ref (adr x a3)] w) (QcI x K) mc ms (xA x) := by
  refine xMetH (by decide) (Nat.le_of_ble_eq_true rfl) (fun p e s m below meth c C hlk hr htab => ?_)
  show GW x p l e (rmd 8 mc ms) s m [.ref (adr x a0), .int a1, .int a2, .ref (adr x a3)].toArray below meth c 5 (QI x K below [.ref (adr x a0), .int a1, .int a2, .ref (adr x a3)].toArray s mc ms) 0 [(0, .ref (adr x a0)), (1, .int a1), (2, .int a2), (3, .ref (adr x a3))] [] w 0 0
  obtain ⟨k0, h⟩ := h
  obtain ⟨hb, h⟩ := h
  replace hb : 0 + 2 ≤ mc ∧ 0 + 12 ≤ ms := by omega
  refine g_aload_n (pc := 0) C dL_waterIn_0 (q := 3) rfl ?_
  refine g_iconst (pc := 1) C dL_waterIn_1 (v := 0) rfl ?_
  refine g_aload_n (pc := 2) C dL_waterIn_2 (q := 0) rfl ?_
  refine g_iload_n (pc := 3) C dL_waterIn_3 (q := 1) rfl ?_
  refine g_iload_n (pc := 4) C dL_waterIn_4 (q := 2) rfl ?_
  refine gh_callVi (pc := 5) C (As := [.int a1, .int a2]) (rest := [.int 0, .ref (adr x a3)]) (ci := 11) (mc := 2) (ms := 12) (c_X11_waterIn hl h) (x_cwV C 2 LML_103 ⟨rfl, by decide, by decide, rfl⟩ (Nat.le_of_ble_eq_true rfl) (by decide)) rfl k0 (by decide) rfl rfl (Nat.le_of_ble_eq_true rfl) dL_waterIn_5 ⟨hb.1, hb.2⟩ (fun E q u H1 locs1 ls ce hX g1 g2 g3 g4 g5 g6 => ?_) (fun r1 w1 h => ?_)
  · rcases hX with ⟨rfl, h⟩ | ⟨rfl, h⟩
    · refine gh_catch C (E := "java/util/NoSuchElementException") [] ⟨0, 10, 13, 19⟩ [⟨0, 10, 17, 13⟩] htab (fun y hy => nomatch hy) rfl (by decide) LCLL_19 (by decide) g1 g2 g3 g4 g5 g6 ?_
      refine g_astore (pc := 13) C dL_waterIn_13 (Nat.le_of_ble_eq_true rfl) (lo' := [(4, .ref q), (0, .ref (adr x a0)), (1, .int a1), (2, .int a2), (3, .ref (adr x a3))]) rfl ?_
      refine g_iconst (pc := 15) C dL_waterIn_15 (v := 1) rfl ?_
      exact g_iret (pc := 16) C hlk hr hb.1 hb.2 dL_waterIn_16 h
    · refine gh_catch C (E := "java/lang/IllegalArgumentException") [⟨0, 10, 13, 19⟩] ⟨0, 10, 17, 13⟩ [] htab (fun y hy => by
      simp only [List.mem_cons, List.not_mem_nil, or_false] at hy
      rcases hy with rfl
      · exact ⟨by decide, _, LCLL_19, by decide⟩) rfl (by decide) LCLL_13 (by decide) g1 g2 g3 g4 g5 g6 ?_
      refine g_astore (pc := 17) C dL_waterIn_17 (Nat.le_of_ble_eq_true rfl) (lo' := [(4, .ref q), (0, .ref (adr x a0)), (1, .int a1), (2, .int a2), (3, .ref (adr x a3))]) rfl ?_
      refine g_iconst (pc := 19) C dL_waterIn_19 (v := 2) rfl ?_
      exact g_iret (pc := 20) C hlk hr hb.1 hb.2 dL_waterIn_20 h
  · refine g_i2l (pc := 8) C dL_waterIn_8 ?_
    obtain ⟨k1, h⟩ := h
    obtain ⟨k2, h⟩ := h
    refine g_last (pc := 9) C k1 k2 dL_waterIn_9 ?_
    refine g_goto (pc := 10) C dL_waterIn_10 (tgt := 21) rfl ?_
    refine g_iconst (pc := 21) C dL_waterIn_21 (v := 0) rfl ?_
    exact g_iret (pc := 22) C hlk hr hb.1 hb.2 dL_waterIn_22 h
def w_L_hasIn (mc ms : Nat) (a0 : Nat) (a1 : Int32) (a2 : Int32) (a3 : Nat) (K : Int32 → Wd → Prop) (w : Wd) : Prop :=
  isK w a0 11 ∧ (2 ≤ mc ∧ 12 ≤ ms) ∧ w_X11_hasIn 2 12 a0 a1 a2 (fun r1 w1 => isK w1 a3 21 ∧ vp_in 0 (wn w1 a3) ∧ K 0 (uL w1 a3 (0 : Int32).toNatClampNeg r1.toInt64)) (fun E u => (E = "java/util/NoSuchElementException" ∧ K 1 u) ∨ (E = "java/lang/IllegalArgumentException" ∧ K 2 u)) w
theorem c_L_hasIn {x : xG} {l : Launch} (hl : l.stackTraces = false) {mc ms : Nat} {a0 : Nat} {a1 : Int32} {a2 : Int32} {a3 : Nat} {K : Int32 → Wd → Prop} {w : Wd} (h : w_L_hasIn mc ms a0 a1 a2 a3 K w) : Met l yL_hasIn (xwsH yL_hasIn cL_hasIn 5 (some .int) [(0, 10, 13, 19), (0, 10, 17, 13)]) (rmd 8 mc ms) (xPc x [.ref (adr x a0), .int a1, .int a2, .ref (adr x a3)] w) (QcI x K) mc ms (xA x) := by
  refine xMetH (by decide) (Nat.le_of_ble_eq_true rfl) (fun p e s m below meth c C hlk hr htab => ?_)
  show GW x p l e (rmd 8 mc ms) s m [.ref (adr x a0), .int a1, .int a2, .ref (adr x a3)].toArray below meth c 5 (QI x K below [.ref (adr x a0), .int a1, .int a2, .ref (adr x a3)].toArray s mc ms) 0 [(0, .ref (adr x a0)), (1, .int a1), (2, .int a2), (3, .ref (adr x a3))] [] w 0 0
  obtain ⟨k0, h⟩ := h
  obtain ⟨hb, h⟩ := h
  replace hb : 0 + 2 ≤ mc ∧ 0 + 12 ≤ ms := by omega
  refine g_aload_n (pc := 0) C dL_hasIn_0 (q := 3) rfl ?_
  refine g_iconst (pc := 1) C dL_hasIn_1 (v := 0) rfl ?_
  refine g_aload_n (pc := 2) C dL_hasIn_2 (q := 0) rfl ?_
  refine g_iload_n (pc := 3) C dL_hasIn_3 (q := 1) rfl ?_
  refine g_iload_n (pc := 4) C dL_hasIn_4 (q := 2) rfl ?_
  refine gh_callVi (pc := 5) C (As := [.int a1, .int a2]) (rest := [.int 0, .ref (adr x a3)]) (ci := 11) (mc := 2) (ms := 12) (c_X11_hasIn hl h) (x_cwV C 2 LML_106 ⟨rfl, by decide, by decide, rfl⟩ (Nat.le_of_ble_eq_true rfl) (by decide)) rfl k0 (by decide) rfl rfl (Nat.le_of_ble_eq_true rfl) dL_hasIn_5 ⟨hb.1, hb.2⟩ (fun E q u H1 locs1 ls ce hX g1 g2 g3 g4 g5 g6 => ?_) (fun r1 w1 h => ?_)
  · rcases hX with ⟨rfl, h⟩ | ⟨rfl, h⟩
    · refine gh_catch C (E := "java/util/NoSuchElementException") [] ⟨0, 10, 13, 19⟩ [⟨0, 10, 17, 13⟩] htab (fun y hy => nomatch hy) rfl (by decide) LCLL_19 (by decide) g1 g2 g3 g4 g5 g6 ?_
      refine g_astore (pc := 13) C dL_hasIn_13 (Nat.le_of_ble_eq_true rfl) (lo' := [(4, .ref q), (0, .ref (adr x a0)), (1, .int a1), (2, .int a2), (3, .ref (adr x a3))]) rfl ?_
      refine g_iconst (pc := 15) C dL_hasIn_15 (v := 1) rfl ?_
      exact g_iret (pc := 16) C hlk hr hb.1 hb.2 dL_hasIn_16 h
    · refine gh_catch C (E := "java/lang/IllegalArgumentException") [⟨0, 10, 13, 19⟩] ⟨0, 10, 17, 13⟩ [] htab (fun y hy => by
      simp only [List.mem_cons, List.not_mem_nil, or_false] at hy
      rcases hy with rfl
      · exact ⟨by decide, _, LCLL_19, by decide⟩) rfl (by decide) LCLL_13 (by decide) g1 g2 g3 g4 g5 g6 ?_
      refine g_astore (pc := 17) C dL_hasIn_17 (Nat.le_of_ble_eq_true rfl) (lo' := [(4, .ref q), (0, .ref (adr x a0)), (1, .int a1), (2, .int a2), (3, .ref (adr x a3))]) rfl ?_
      refine g_iconst (pc := 19) C dL_hasIn_19 (v := 2) rfl ?_
      exact g_iret (pc := 20) C hlk hr hb.1 hb.2 dL_hasIn_20 h
  · refine g_i2l (pc := 8) C dL_hasIn_8 ?_
    obtain ⟨k1, h⟩ := h
    obtain ⟨k2, h⟩ := h
    refine g_last (pc := 9) C k1 k2 dL_hasIn_9 ?_
    refine g_goto (pc := 10) C dL_hasIn_10 (tgt := 21) rfl ?_
    refine g_iconst (pc := 21) C dL_hasIn_21 (v := 0) rfl ?_
    exact g_iret (pc := 22) C hlk hr hb.1 hb.2 dL_hasIn_22 h
def w_L_level (mc ms : Nat) (a0 : Nat) (a1 : Int32) (a2 : Int32) (a3 : Nat) (K : Int32 → Wd → Prop) (w : Wd) : Prop :=
  isK w a0 11 ∧ (4 ≤ mc ∧ 24 ≤ ms) ∧ w_X11_level 4 24 a0 a1 a2 (fun r1 w1 => isK w1 a3 21 ∧ vp_in 0 (wn w1 a3) ∧ K 0 (uL w1 a3 (0 : Int32).toNatClampNeg r1.toInt64)) (fun E u => (E = "java/util/NoSuchElementException" ∧ K 1 u) ∨ (E = "java/lang/IllegalArgumentException" ∧ K 2 u)) w
theorem c_L_level {x : xG} {l : Launch} (hl : l.stackTraces = false) {mc ms : Nat} {a0 : Nat} {a1 : Int32} {a2 : Int32} {a3 : Nat} {K : Int32 → Wd → Prop} {w : Wd} (h : w_L_level mc ms a0 a1 a2 a3 K w) : Met l yL_level (xwsH yL_level cL_level 5 (some .int) [(0, 10, 13, 19), (0, 10, 17, 13)]) (rmd 8 mc ms) (xPc x [.ref (adr x a0), .int a1, .int a2, .ref (adr x a3)] w) (QcI x K) mc ms (xA x) := by
  refine xMetH (by decide) (Nat.le_of_ble_eq_true rfl) (fun p e s m below meth c C hlk hr htab => ?_)
  show GW x p l e (rmd 8 mc ms) s m [.ref (adr x a0), .int a1, .int a2, .ref (adr x a3)].toArray below meth c 5 (QI x K below [.ref (adr x a0), .int a1, .int a2, .ref (adr x a3)].toArray s mc ms) 0 [(0, .ref (adr x a0)), (1, .int a1), (2, .int a2), (3, .ref (adr x a3))] [] w 0 0
  obtain ⟨k0, h⟩ := h
  obtain ⟨hb, h⟩ := h
  replace hb : 0 + 4 ≤ mc ∧ 0 + 24 ≤ ms := by omega
  refine g_aload_n (pc := 0) C dL_level_0 (q := 3) rfl ?_
  refine g_iconst (pc := 1) C dL_level_1 (v := 0) rfl ?_
  refine g_aload_n (pc := 2) C dL_level_2 (q := 0) rfl ?_
  refine g_iload_n (pc := 3) C dL_level_3 (q := 1) rfl ?_
  refine g_iload_n (pc := 4) C dL_level_4 (q := 2) rfl ?_
  refine gh_callVi (pc := 5) C (As := [.int a1, .int a2]) (rest := [.int 0, .ref (adr x a3)]) (ci := 11) (mc := 4) (ms := 24) (c_X11_level hl h) (x_cwV C 2 LML_109 ⟨rfl, by decide, by decide, rfl⟩ (Nat.le_of_ble_eq_true rfl) (by decide)) rfl k0 (by decide) rfl rfl (Nat.le_of_ble_eq_true rfl) dL_level_5 ⟨hb.1, hb.2⟩ (fun E q u H1 locs1 ls ce hX g1 g2 g3 g4 g5 g6 => ?_) (fun r1 w1 h => ?_)
  · rcases hX with ⟨rfl, h⟩ | ⟨rfl, h⟩
    · refine gh_catch C (E := "java/util/NoSuchElementException") [] ⟨0, 10, 13, 19⟩ [⟨0, 10, 17, 13⟩] htab (fun y hy => nomatch hy) rfl (by decide) LCLL_19 (by decide) g1 g2 g3 g4 g5 g6 ?_
      refine g_astore (pc := 13) C dL_level_13 (Nat.le_of_ble_eq_true rfl) (lo' := [(4, .ref q), (0, .ref (adr x a0)), (1, .int a1), (2, .int a2), (3, .ref (adr x a3))]) rfl ?_
      refine g_iconst (pc := 15) C dL_level_15 (v := 1) rfl ?_
      exact g_iret (pc := 16) C hlk hr hb.1 hb.2 dL_level_16 h
    · refine gh_catch C (E := "java/lang/IllegalArgumentException") [⟨0, 10, 13, 19⟩] ⟨0, 10, 17, 13⟩ [] htab (fun y hy => by
      simp only [List.mem_cons, List.not_mem_nil, or_false] at hy
      rcases hy with rfl
      · exact ⟨by decide, _, LCLL_19, by decide⟩) rfl (by decide) LCLL_13 (by decide) g1 g2 g3 g4 g5 g6 ?_
      refine g_astore (pc := 17) C dL_level_17 (Nat.le_of_ble_eq_true rfl) (lo' := [(4, .ref q), (0, .ref (adr x a0)), (1, .int a1), (2, .int a2), (3, .ref (adr x a3))]) rfl ?_
      refine g_iconst (pc := 19) C dL_level_19 (v := 2) rfl ?_
      exact g_iret (pc := 20) C hlk hr hb.1 hb.2 dL_level_20 h
  · refine g_i2l (pc := 8) C dL_level_8 ?_
    obtain ⟨k1, h⟩ := h
    obtain ⟨k2, h⟩ := h
    refine g_last (pc := 9) C k1 k2 dL_level_9 ?_
    refine g_goto (pc := 10) C dL_level_10 (tgt := 21) rfl ?_
    refine g_iconst (pc := 21) C dL_level_21 (v := 0) rfl ?_
    exact g_iret (pc := 22) C hlk hr hb.1 hb.2 dL_level_22 h
def w_L_seen (mc ms : Nat) (a0 : Nat) (a1 : Int32) (a2 : Nat) (K : Int32 → Wd → Prop) (w : Wd) : Prop :=
  isK w a0 11 ∧ (3 ≤ mc ∧ 18 ≤ ms) ∧ w_X11_seen 3 18 a0 a1 (fun r1 w1 => isK w1 a2 21 ∧ vp_in 0 (wn w1 a2) ∧ K 0 (uL w1 a2 (0 : Int32).toNatClampNeg r1.toInt64)) (fun E u => (E = "java/util/NoSuchElementException" ∧ K 1 u) ∨ (E = "java/lang/IllegalStateException" ∧ K 2 u) ∨ (E = "java/lang/IllegalArgumentException" ∧ K 3 u)) w
theorem c_L_seen {x : xG} {l : Launch} (hl : l.stackTraces = false) {mc ms : Nat} {a0 : Nat} {a1 : Int32} {a2 : Nat} {K : Int32 → Wd → Prop} {w : Wd} (h : w_L_seen mc ms a0 a1 a2 K w) : Met l yL_seen (xwsH yL_seen cL_seen 4 (some .int) [(0, 9, 12, 19), (0, 9, 15, 33), (0, 9, 18, 13)]) (rmd 10 mc ms) (xPc x [.ref (adr x a0), .int a1, .ref (adr x a2)] w) (QcI x K) mc ms (xA x) := by
  refine xMetH (by decide) (Nat.le_of_ble_eq_true rfl) (fun p e s m below meth c C hlk hr htab => ?_)
  show GW x p l e (rmd 10 mc ms) s m [.ref (adr x a0), .int a1, .ref (adr x a2)].toArray below meth c 4 (QI x K below [.ref (adr x a0), .int a1, .ref (adr x a2)].toArray s mc ms) 0 [(0, .ref (adr x a0)), (1, .int a1), (2, .ref (adr x a2))] [] w 0 0
  obtain ⟨k0, h⟩ := h
  obtain ⟨hb, h⟩ := h
  replace hb : 0 + 3 ≤ mc ∧ 0 + 18 ≤ ms := by omega
  refine g_aload_n (pc := 0) C dL_seen_0 (q := 2) rfl ?_
  refine g_iconst (pc := 1) C dL_seen_1 (v := 0) rfl ?_
  refine g_aload_n (pc := 2) C dL_seen_2 (q := 0) rfl ?_
  refine g_iload_n (pc := 3) C dL_seen_3 (q := 1) rfl ?_
  refine gh_callVi (pc := 4) C (As := [.int a1]) (rest := [.int 0, .ref (adr x a2)]) (ci := 11) (mc := 3) (ms := 18) (c_X11_seen hl h) (x_cwV C 1 LML_112 ⟨rfl, by decide, by decide, rfl⟩ (Nat.le_of_ble_eq_true rfl) (by decide)) rfl k0 (by decide) rfl rfl (Nat.le_of_ble_eq_true rfl) dL_seen_4 ⟨hb.1, hb.2⟩ (fun E q u H1 locs1 ls ce hX g1 g2 g3 g4 g5 g6 => ?_) (fun r1 w1 h => ?_)
  · rcases hX with ⟨rfl, h⟩ | ⟨rfl, h⟩ | ⟨rfl, h⟩
    · refine gh_catch C (E := "java/util/NoSuchElementException") [] ⟨0, 9, 12, 19⟩ [⟨0, 9, 15, 33⟩, ⟨0, 9, 18, 13⟩] htab (fun y hy => nomatch hy) rfl (by decide) LCLL_19 (by decide) g1 g2 g3 g4 g5 g6 ?_
      refine g_astore_n (pc := 12) C dL_seen_12 (Nat.le_of_ble_eq_true rfl) (lo' := [(3, .ref q), (0, .ref (adr x a0)), (1, .int a1), (2, .ref (adr x a2))]) rfl ?_
      refine g_iconst (pc := 13) C dL_seen_13 (v := 1) rfl ?_
      exact g_iret (pc := 14) C hlk hr hb.1 hb.2 dL_seen_14 h
    · refine gh_catch C (E := "java/lang/IllegalStateException") [⟨0, 9, 12, 19⟩] ⟨0, 9, 15, 33⟩ [⟨0, 9, 18, 13⟩] htab (fun y hy => by
      simp only [List.mem_cons, List.not_mem_nil, or_false] at hy
      rcases hy with rfl
      · exact ⟨by decide, _, LCLL_19, by decide⟩) rfl (by decide) LCLL_33 (by decide) g1 g2 g3 g4 g5 g6 ?_
      refine g_astore_n (pc := 15) C dL_seen_15 (Nat.le_of_ble_eq_true rfl) (lo' := [(3, .ref q), (0, .ref (adr x a0)), (1, .int a1), (2, .ref (adr x a2))]) rfl ?_
      refine g_iconst (pc := 16) C dL_seen_16 (v := 2) rfl ?_
      exact g_iret (pc := 17) C hlk hr hb.1 hb.2 dL_seen_17 h
    · refine gh_catch C (E := "java/lang/IllegalArgumentException") [⟨0, 9, 12, 19⟩, ⟨0, 9, 15, 33⟩] ⟨0, 9, 18, 13⟩ [] htab (fun y hy => by
      simp only [List.mem_cons, List.not_mem_nil, or_false] at hy
      rcases hy with rfl | rfl
      · exact ⟨by decide, _, LCLL_19, by decide⟩
      · exact ⟨by decide, _, LCLL_33, by decide⟩) rfl (by decide) LCLL_13 (by decide) g1 g2 g3 g4 g5 g6 ?_
      refine g_astore_n (pc := 18) C dL_seen_18 (Nat.le_of_ble_eq_true rfl) (lo' := [(3, .ref q), (0, .ref (adr x a0)), (1, .int a1), (2, .ref (adr x a2))]) rfl ?_
      refine g_iconst (pc := 19) C dL_seen_19 (v := 3) rfl ?_
      exact g_iret (pc := 20) C hlk hr hb.1 hb.2 dL_seen_20 h
  · refine g_i2l (pc := 7) C dL_seen_7 ?_
    obtain ⟨k1, h⟩ := h
    obtain ⟨k2, h⟩ := h
    refine g_last (pc := 8) C k1 k2 dL_seen_8 ?_
    refine g_goto (pc := 9) C dL_seen_9 (tgt := 21) rfl ?_
    refine g_iconst (pc := 21) C dL_seen_21 (v := 0) rfl ?_
    exact g_iret (pc := 22) C hlk hr hb.1 hb.2 dL_seen_22 h
def w_L_roundAt (mc ms : Nat) (a0 : Nat) (a1 : Int32) (a2 : Int32) (a3 : Nat) (K : Int32 → Wd → Prop) (w : Wd) : Prop :=
  isK w a0 11 ∧ (4 ≤ mc ∧ 24 ≤ ms) ∧ w_X11_roundAt 4 24 a0 a1 a2 (fun r1 w1 => isK w1 a3 21 ∧ vp_in 0 (wn w1 a3) ∧ K 0 (uL w1 a3 (0 : Int32).toNatClampNeg r1.toInt64)) (fun E u => (E = "java/util/NoSuchElementException" ∧ K 1 u) ∨ (E = "java/lang/IllegalStateException" ∧ K 2 u) ∨ (E = "java/lang/IllegalArgumentException" ∧ K 3 u)) w
theorem c_L_roundAt {x : xG} {l : Launch} (hl : l.stackTraces = false) {mc ms : Nat} {a0 : Nat} {a1 : Int32} {a2 : Int32} {a3 : Nat} {K : Int32 → Wd → Prop} {w : Wd} (h : w_L_roundAt mc ms a0 a1 a2 a3 K w) : Met l yL_roundAt (xwsH yL_roundAt cL_roundAt 5 (some .int) [(0, 10, 13, 19), (0, 10, 17, 33), (0, 10, 21, 13)]) (rmd 10 mc ms) (xPc x [.ref (adr x a0), .int a1, .int a2, .ref (adr x a3)] w) (QcI x K) mc ms (xA x) := by
  refine xMetH (by decide) (Nat.le_of_ble_eq_true rfl) (fun p e s m below meth c C hlk hr htab => ?_)
  show GW x p l e (rmd 10 mc ms) s m [.ref (adr x a0), .int a1, .int a2, .ref (adr x a3)].toArray below meth c 5 (QI x K below [.ref (adr x a0), .int a1, .int a2, .ref (adr x a3)].toArray s mc ms) 0 [(0, .ref (adr x a0)), (1, .int a1), (2, .int a2), (3, .ref (adr x a3))] [] w 0 0
  obtain ⟨k0, h⟩ := h
  obtain ⟨hb, h⟩ := h
  replace hb : 0 + 4 ≤ mc ∧ 0 + 24 ≤ ms := by omega
  refine g_aload_n (pc := 0) C dL_roundAt_0 (q := 3) rfl ?_
  refine g_iconst (pc := 1) C dL_roundAt_1 (v := 0) rfl ?_
  refine g_aload_n (pc := 2) C dL_roundAt_2 (q := 0) rfl ?_
  refine g_iload_n (pc := 3) C dL_roundAt_3 (q := 1) rfl ?_
  refine g_iload_n (pc := 4) C dL_roundAt_4 (q := 2) rfl ?_
  refine gh_callVi (pc := 5) C (As := [.int a1, .int a2]) (rest := [.int 0, .ref (adr x a3)]) (ci := 11) (mc := 4) (ms := 24) (c_X11_roundAt hl h) (x_cwV C 2 LML_115 ⟨rfl, by decide, by decide, rfl⟩ (Nat.le_of_ble_eq_true rfl) (by decide)) rfl k0 (by decide) rfl rfl (Nat.le_of_ble_eq_true rfl) dL_roundAt_5 ⟨hb.1, hb.2⟩ (fun E q u H1 locs1 ls ce hX g1 g2 g3 g4 g5 g6 => ?_) (fun r1 w1 h => ?_)
  · rcases hX with ⟨rfl, h⟩ | ⟨rfl, h⟩ | ⟨rfl, h⟩
    · refine gh_catch C (E := "java/util/NoSuchElementException") [] ⟨0, 10, 13, 19⟩ [⟨0, 10, 17, 33⟩, ⟨0, 10, 21, 13⟩] htab (fun y hy => nomatch hy) rfl (by decide) LCLL_19 (by decide) g1 g2 g3 g4 g5 g6 ?_
      refine g_astore (pc := 13) C dL_roundAt_13 (Nat.le_of_ble_eq_true rfl) (lo' := [(4, .ref q), (0, .ref (adr x a0)), (1, .int a1), (2, .int a2), (3, .ref (adr x a3))]) rfl ?_
      refine g_iconst (pc := 15) C dL_roundAt_15 (v := 1) rfl ?_
      exact g_iret (pc := 16) C hlk hr hb.1 hb.2 dL_roundAt_16 h
    · refine gh_catch C (E := "java/lang/IllegalStateException") [⟨0, 10, 13, 19⟩] ⟨0, 10, 17, 33⟩ [⟨0, 10, 21, 13⟩] htab (fun y hy => by
      simp only [List.mem_cons, List.not_mem_nil, or_false] at hy
      rcases hy with rfl
      · exact ⟨by decide, _, LCLL_19, by decide⟩) rfl (by decide) LCLL_33 (by decide) g1 g2 g3 g4 g5 g6 ?_
      refine g_astore (pc := 17) C dL_roundAt_17 (Nat.le_of_ble_eq_true rfl) (lo' := [(4, .ref q), (0, .ref (adr x a0)), (1, .int a1), (2, .int a2), (3, .ref (adr x a3))]) rfl ?_
      refine g_iconst (pc := 19) C dL_roundAt_19 (v := 2) rfl ?_
      exact g_iret (pc := 20) C hlk hr hb.1 hb.2 dL_roundAt_20 h
    · refine gh_catch C (E := "java/lang/IllegalArgumentException") [⟨0, 10, 13, 19⟩, ⟨0, 10, 17, 33⟩] ⟨0, 10, 21, 13⟩ [] htab (fun y hy => by
      simp only [List.mem_cons, List.not_mem_nil, or_false] at hy
      rcases hy with rfl | rfl
      · exact ⟨by decide, _, LCLL_19, by decide⟩
      · exact ⟨by decide, _, LCLL_33, by decide⟩) rfl (by decide) LCLL_13 (by decide) g1 g2 g3 g4 g5 g6 ?_
      refine g_astore (pc := 21) C dL_roundAt_21 (Nat.le_of_ble_eq_true rfl) (lo' := [(4, .ref q), (0, .ref (adr x a0)), (1, .int a1), (2, .int a2), (3, .ref (adr x a3))]) rfl ?_
      refine g_iconst (pc := 23) C dL_roundAt_23 (v := 3) rfl ?_
      exact g_iret (pc := 24) C hlk hr hb.1 hb.2 dL_roundAt_24 h
  · refine g_i2l (pc := 8) C dL_roundAt_8 ?_
    obtain ⟨k1, h⟩ := h
    obtain ⟨k2, h⟩ := h
    refine g_last (pc := 9) C k1 k2 dL_roundAt_9 ?_
    refine g_goto (pc := 10) C dL_roundAt_10 (tgt := 25) rfl ?_
    refine g_iconst (pc := 25) C dL_roundAt_25 (v := 0) rfl ?_
    exact g_iret (pc := 26) C hlk hr hb.1 hb.2 dL_roundAt_26 h
def w_L_listen (mc ms : Nat) (a0 : Nat) (a1 : Int32) (a2 : Nat) (K : Int32 → Wd → Prop) (w : Wd) : Prop :=
  isK w a0 11 ∧ (3 ≤ mc ∧ 18 ≤ ms) ∧ w_X11_listen 3 18 a0 a1 (fun r1 w1 => isK w1 a2 21 ∧ vp_in 0 (wn w1 a2) ∧ K 0 (uL w1 a2 (0 : Int32).toNatClampNeg r1.toInt64)) (fun E u => (E = "java/util/NoSuchElementException" ∧ K 1 u) ∨ (E = "java/lang/IllegalStateException" ∧ K 2 u) ∨ (E = "java/lang/IllegalArgumentException" ∧ K 3 u)) w
theorem c_L_listen {x : xG} {l : Launch} (hl : l.stackTraces = false) {mc ms : Nat} {a0 : Nat} {a1 : Int32} {a2 : Nat} {K : Int32 → Wd → Prop} {w : Wd} (h : w_L_listen mc ms a0 a1 a2 K w) : Met l yL_listen (xwsH yL_listen cL_listen 4 (some .int) [(0, 9, 12, 19), (0, 9, 15, 33), (0, 9, 18, 13)]) (rmd 10 mc ms) (xPc x [.ref (adr x a0), .int a1, .ref (adr x a2)] w) (QcI x K) mc ms (xA x) := by
  refine xMetH (by decide) (Nat.le_of_ble_eq_true rfl) (fun p e s m below meth c C hlk hr htab => ?_)
  show GW x p l e (rmd 10 mc ms) s m [.ref (adr x a0), .int a1, .ref (adr x a2)].toArray below meth c 4 (QI x K below [.ref (adr x a0), .int a1, .ref (adr x a2)].toArray s mc ms) 0 [(0, .ref (adr x a0)), (1, .int a1), (2, .ref (adr x a2))] [] w 0 0
  obtain ⟨k0, h⟩ := h
  obtain ⟨hb, h⟩ := h
  replace hb : 0 + 3 ≤ mc ∧ 0 + 18 ≤ ms := by omega
  refine g_aload_n (pc := 0) C dL_listen_0 (q := 2) rfl ?_
  refine g_iconst (pc := 1) C dL_listen_1 (v := 0) rfl ?_
  refine g_aload_n (pc := 2) C dL_listen_2 (q := 0) rfl ?_
  refine g_iload_n (pc := 3) C dL_listen_3 (q := 1) rfl ?_
  refine gh_callVi (pc := 4) C (As := [.int a1]) (rest := [.int 0, .ref (adr x a2)]) (ci := 11) (mc := 3) (ms := 18) (c_X11_listen hl h) (x_cwV C 1 LML_118 ⟨rfl, by decide, by decide, rfl⟩ (Nat.le_of_ble_eq_true rfl) (by decide)) rfl k0 (by decide) rfl rfl (Nat.le_of_ble_eq_true rfl) dL_listen_4 ⟨hb.1, hb.2⟩ (fun E q u H1 locs1 ls ce hX g1 g2 g3 g4 g5 g6 => ?_) (fun r1 w1 h => ?_)
  · rcases hX with ⟨rfl, h⟩ | ⟨rfl, h⟩ | ⟨rfl, h⟩
    · refine gh_catch C (E := "java/util/NoSuchElementException") [] ⟨0, 9, 12, 19⟩ [⟨0, 9, 15, 33⟩, ⟨0, 9, 18, 13⟩] htab (fun y hy => nomatch hy) rfl (by decide) LCLL_19 (by decide) g1 g2 g3 g4 g5 g6 ?_
      refine g_astore_n (pc := 12) C dL_listen_12 (Nat.le_of_ble_eq_true rfl) (lo' := [(3, .ref q), (0, .ref (adr x a0)), (1, .int a1), (2, .ref (adr x a2))]) rfl ?_
      refine g_iconst (pc := 13) C dL_listen_13 (v := 1) rfl ?_
      exact g_iret (pc := 14) C hlk hr hb.1 hb.2 dL_listen_14 h
    · refine gh_catch C (E := "java/lang/IllegalStateException") [⟨0, 9, 12, 19⟩] ⟨0, 9, 15, 33⟩ [⟨0, 9, 18, 13⟩] htab (fun y hy => by
      simp only [List.mem_cons, List.not_mem_nil, or_false] at hy
      rcases hy with rfl
      · exact ⟨by decide, _, LCLL_19, by decide⟩) rfl (by decide) LCLL_33 (by decide) g1 g2 g3 g4 g5 g6 ?_
      refine g_astore_n (pc := 15) C dL_listen_15 (Nat.le_of_ble_eq_true rfl) (lo' := [(3, .ref q), (0, .ref (adr x a0)), (1, .int a1), (2, .ref (adr x a2))]) rfl ?_
      refine g_iconst (pc := 16) C dL_listen_16 (v := 2) rfl ?_
      exact g_iret (pc := 17) C hlk hr hb.1 hb.2 dL_listen_17 h
    · refine gh_catch C (E := "java/lang/IllegalArgumentException") [⟨0, 9, 12, 19⟩, ⟨0, 9, 15, 33⟩] ⟨0, 9, 18, 13⟩ [] htab (fun y hy => by
      simp only [List.mem_cons, List.not_mem_nil, or_false] at hy
      rcases hy with rfl | rfl
      · exact ⟨by decide, _, LCLL_19, by decide⟩
      · exact ⟨by decide, _, LCLL_33, by decide⟩) rfl (by decide) LCLL_13 (by decide) g1 g2 g3 g4 g5 g6 ?_
      refine g_astore_n (pc := 18) C dL_listen_18 (Nat.le_of_ble_eq_true rfl) (lo' := [(3, .ref q), (0, .ref (adr x a0)), (1, .int a1), (2, .ref (adr x a2))]) rfl ?_
      refine g_iconst (pc := 19) C dL_listen_19 (v := 3) rfl ?_
      exact g_iret (pc := 20) C hlk hr hb.1 hb.2 dL_listen_20 h
  · refine g_i2l (pc := 7) C dL_listen_7 ?_
    obtain ⟨k1, h⟩ := h
    obtain ⟨k2, h⟩ := h
    refine g_last (pc := 8) C k1 k2 dL_listen_8 ?_
    refine g_goto (pc := 9) C dL_listen_9 (tgt := 21) rfl ?_
    refine g_iconst (pc := 21) C dL_listen_21 (v := 0) rfl ?_
    exact g_iret (pc := 22) C hlk hr hb.1 hb.2 dL_listen_22 h
def w_L_whose (mc ms : Nat) (a0 : Nat) (a1 : Int32) (a2 : Nat) (K : Int32 → Wd → Prop) (w : Wd) : Prop :=
  isK w a0 11 ∧ (3 ≤ mc ∧ 18 ≤ ms) ∧ w_X11_whose 3 18 a0 a1 (fun r1 w1 => isK w1 a2 21 ∧ vp_in 0 (wn w1 a2) ∧ K 0 (uL w1 a2 (0 : Int32).toNatClampNeg r1.toInt64)) (fun E u => (E = "java/util/NoSuchElementException" ∧ K 1 u) ∨ (E = "java/lang/IllegalStateException" ∧ K 2 u) ∨ (E = "java/lang/IllegalArgumentException" ∧ K 3 u)) w
theorem c_L_whose {x : xG} {l : Launch} (hl : l.stackTraces = false) {mc ms : Nat} {a0 : Nat} {a1 : Int32} {a2 : Nat} {K : Int32 → Wd → Prop} {w : Wd} (h : w_L_whose mc ms a0 a1 a2 K w) : Met l yL_whose (xwsH yL_whose cL_whose 4 (some .int) [(0, 9, 12, 19), (0, 9, 15, 33), (0, 9, 18, 13)]) (rmd 10 mc ms) (xPc x [.ref (adr x a0), .int a1, .ref (adr x a2)] w) (QcI x K) mc ms (xA x) := by
  refine xMetH (by decide) (Nat.le_of_ble_eq_true rfl) (fun p e s m below meth c C hlk hr htab => ?_)
  show GW x p l e (rmd 10 mc ms) s m [.ref (adr x a0), .int a1, .ref (adr x a2)].toArray below meth c 4 (QI x K below [.ref (adr x a0), .int a1, .ref (adr x a2)].toArray s mc ms) 0 [(0, .ref (adr x a0)), (1, .int a1), (2, .ref (adr x a2))] [] w 0 0
  obtain ⟨k0, h⟩ := h
  obtain ⟨hb, h⟩ := h
  replace hb : 0 + 3 ≤ mc ∧ 0 + 18 ≤ ms := by omega
  refine g_aload_n (pc := 0) C dL_whose_0 (q := 2) rfl ?_
  refine g_iconst (pc := 1) C dL_whose_1 (v := 0) rfl ?_
  refine g_aload_n (pc := 2) C dL_whose_2 (q := 0) rfl ?_
  refine g_iload_n (pc := 3) C dL_whose_3 (q := 1) rfl ?_
  refine gh_callVi (pc := 4) C (As := [.int a1]) (rest := [.int 0, .ref (adr x a2)]) (ci := 11) (mc := 3) (ms := 18) (c_X11_whose hl h) (x_cwV C 1 LML_121 ⟨rfl, by decide, by decide, rfl⟩ (Nat.le_of_ble_eq_true rfl) (by decide)) rfl k0 (by decide) rfl rfl (Nat.le_of_ble_eq_true rfl) dL_whose_4 ⟨hb.1, hb.2⟩ (fun E q u H1 locs1 ls ce hX g1 g2 g3 g4 g5 g6 => ?_) (fun r1 w1 h => ?_)
  · rcases hX with ⟨rfl, h⟩ | ⟨rfl, h⟩ | ⟨rfl, h⟩
    · refine gh_catch C (E := "java/util/NoSuchElementException") [] ⟨0, 9, 12, 19⟩ [⟨0, 9, 15, 33⟩, ⟨0, 9, 18, 13⟩] htab (fun y hy => nomatch hy) rfl (by decide) LCLL_19 (by decide) g1 g2 g3 g4 g5 g6 ?_
      refine g_astore_n (pc := 12) C dL_whose_12 (Nat.le_of_ble_eq_true rfl) (lo' := [(3, .ref q), (0, .ref (adr x a0)), (1, .int a1), (2, .ref (adr x a2))]) rfl ?_
      refine g_iconst (pc := 13) C dL_whose_13 (v := 1) rfl ?_
      exact g_iret (pc := 14) C hlk hr hb.1 hb.2 dL_whose_14 h
    · refine gh_catch C (E := "java/lang/IllegalStateException") [⟨0, 9, 12, 19⟩] ⟨0, 9, 15, 33⟩ [⟨0, 9, 18, 13⟩] htab (fun y hy => by
      simp only [List.mem_cons, List.not_mem_nil, or_false] at hy
      rcases hy with rfl
      · exact ⟨by decide, _, LCLL_19, by decide⟩) rfl (by decide) LCLL_33 (by decide) g1 g2 g3 g4 g5 g6 ?_
      refine g_astore_n (pc := 15) C dL_whose_15 (Nat.le_of_ble_eq_true rfl) (lo' := [(3, .ref q), (0, .ref (adr x a0)), (1, .int a1), (2, .ref (adr x a2))]) rfl ?_
      refine g_iconst (pc := 16) C dL_whose_16 (v := 2) rfl ?_
      exact g_iret (pc := 17) C hlk hr hb.1 hb.2 dL_whose_17 h
    · refine gh_catch C (E := "java/lang/IllegalArgumentException") [⟨0, 9, 12, 19⟩, ⟨0, 9, 15, 33⟩] ⟨0, 9, 18, 13⟩ [] htab (fun y hy => by
      simp only [List.mem_cons, List.not_mem_nil, or_false] at hy
      rcases hy with rfl | rfl
      · exact ⟨by decide, _, LCLL_19, by decide⟩
      · exact ⟨by decide, _, LCLL_33, by decide⟩) rfl (by decide) LCLL_13 (by decide) g1 g2 g3 g4 g5 g6 ?_
      refine g_astore_n (pc := 18) C dL_whose_18 (Nat.le_of_ble_eq_true rfl) (lo' := [(3, .ref q), (0, .ref (adr x a0)), (1, .int a1), (2, .ref (adr x a2))]) rfl ?_
      refine g_iconst (pc := 19) C dL_whose_19 (v := 3) rfl ?_
      exact g_iret (pc := 20) C hlk hr hb.1 hb.2 dL_whose_20 h
  · refine g_i2l (pc := 7) C dL_whose_7 ?_
    obtain ⟨k1, h⟩ := h
    obtain ⟨k2, h⟩ := h
    refine g_last (pc := 8) C k1 k2 dL_whose_8 ?_
    refine g_goto (pc := 9) C dL_whose_9 (tgt := 21) rfl ?_
    refine g_iconst (pc := 21) C dL_whose_21 (v := 0) rfl ?_
    exact g_iret (pc := 22) C hlk hr hb.1 hb.2 dL_whose_22 h
def w_L_tray (mc ms : Nat) (a0 : Nat) (a1 : Int32) (a2 : Int32) (a3 : Int32) (K : Int32 → Wd → Prop) (w : Wd) : Prop :=
  isK w a0 11 ∧ (3 ≤ mc ∧ 18 ≤ ms) ∧ w_X11_tray 3 18 a0 a1 a2 a3 (fun w1 => K 0 w1) (fun E u => (E = "java/util/NoSuchElementException" ∧ K 1 u) ∨ (E = "java/lang/IllegalArgumentException" ∧ K 2 u)) w
theorem c_L_tray {x : xG} {l : Launch} (hl : l.stackTraces = false) {mc ms : Nat} {a0 : Nat} {a1 : Int32} {a2 : Int32} {a3 : Int32} {K : Int32 → Wd → Prop} {w : Wd} (h : w_L_tray mc ms a0 a1 a2 a3 K w) : Met l yL_tray (xwsH yL_tray cL_tray 5 (some .int) [(0, 7, 10, 19), (0, 7, 14, 13)]) (rmd 8 mc ms) (xPc x [.ref (adr x a0), .int a1, .int a2, .int a3] w) (QcI x K) mc ms (xA x) := by
  refine xMetH (by decide) (Nat.le_of_ble_eq_true rfl) (fun p e s m below meth c C hlk hr htab => ?_)
  show GW x p l e (rmd 8 mc ms) s m [.ref (adr x a0), .int a1, .int a2, .int a3].toArray below meth c 5 (QI x K below [.ref (adr x a0), .int a1, .int a2, .int a3].toArray s mc ms) 0 [(0, .ref (adr x a0)), (1, .int a1), (2, .int a2), (3, .int a3)] [] w 0 0
  obtain ⟨k0, h⟩ := h
  obtain ⟨hb, h⟩ := h
  replace hb : 0 + 3 ≤ mc ∧ 0 + 18 ≤ ms := by omega
  refine g_aload_n (pc := 0) C dL_tray_0 (q := 0) rfl ?_
  refine g_iload_n (pc := 1) C dL_tray_1 (q := 1) rfl ?_
  refine g_iload_n (pc := 2) C dL_tray_2 (q := 2) rfl ?_
  refine g_iload_n (pc := 3) C dL_tray_3 (q := 3) rfl ?_
  refine gh_callVv (pc := 4) C (As := [.int a1, .int a2, .int a3]) (rest := []) (ci := 11) (mc := 3) (ms := 18) (c_X11_tray hl h) (x_cwV C 3 LML_124 ⟨rfl, by decide, by decide, rfl⟩ (Nat.le_of_ble_eq_true rfl) (by decide)) rfl k0 (by decide) rfl rfl (Nat.le_of_ble_eq_true rfl) dL_tray_4 ⟨hb.1, hb.2⟩ (fun E q u H1 locs1 ls ce hX g1 g2 g3 g4 g5 g6 => ?_) (fun w1 h => ?_)
  · rcases hX with ⟨rfl, h⟩ | ⟨rfl, h⟩
    · refine gh_catch C (E := "java/util/NoSuchElementException") [] ⟨0, 7, 10, 19⟩ [⟨0, 7, 14, 13⟩] htab (fun y hy => nomatch hy) rfl (by decide) LCLL_19 (by decide) g1 g2 g3 g4 g5 g6 ?_
      refine g_astore (pc := 10) C dL_tray_10 (Nat.le_of_ble_eq_true rfl) (lo' := [(4, .ref q), (0, .ref (adr x a0)), (1, .int a1), (2, .int a2), (3, .int a3)]) rfl ?_
      refine g_iconst (pc := 12) C dL_tray_12 (v := 1) rfl ?_
      exact g_iret (pc := 13) C hlk hr hb.1 hb.2 dL_tray_13 h
    · refine gh_catch C (E := "java/lang/IllegalArgumentException") [⟨0, 7, 10, 19⟩] ⟨0, 7, 14, 13⟩ [] htab (fun y hy => by
      simp only [List.mem_cons, List.not_mem_nil, or_false] at hy
      rcases hy with rfl
      · exact ⟨by decide, _, LCLL_19, by decide⟩) rfl (by decide) LCLL_13 (by decide) g1 g2 g3 g4 g5 g6 ?_
      refine g_astore (pc := 14) C dL_tray_14 (Nat.le_of_ble_eq_true rfl) (lo' := [(4, .ref q), (0, .ref (adr x a0)), (1, .int a1), (2, .int a2), (3, .int a3)]) rfl ?_
      refine g_iconst (pc := 16) C dL_tray_16 (v := 2) rfl ?_
      exact g_iret (pc := 17) C hlk hr hb.1 hb.2 dL_tray_17 h
  · refine g_goto (pc := 7) C dL_tray_7 (tgt := 18) rfl ?_
    refine g_iconst (pc := 18) C dL_tray_18 (v := 0) rfl ?_
    exact g_iret (pc := 19) C hlk hr hb.1 hb.2 dL_tray_19 h
def w_L_write (mc ms : Nat) (a0 : Nat) (a1 : Int32) (a2 : Int32) (a3 : Int64) (a5 : Nat) (K : Int32 → Wd → Prop) (w : Wd) : Prop :=
  isK w a0 11 ∧ (3 ≤ mc ∧ 18 ≤ ms) ∧ w_X11_write 3 18 a0 a1 a2 a3 (fun r1 w1 => isK w1 a5 21 ∧ vp_in 0 (wn w1 a5) ∧ K 0 (uL w1 a5 (0 : Int32).toNatClampNeg r1)) (fun E u => (E = "java/util/NoSuchElementException" ∧ K 1 u) ∨ (E = "java/lang/IllegalStateException" ∧ K 2 u) ∨ (E = "java/lang/IndexOutOfBoundsException" ∧ K 3 u)) w
theorem c_L_write {x : xG} {l : Launch} (hl : l.stackTraces = false) {mc ms : Nat} {a0 : Nat} {a1 : Int32} {a2 : Int32} {a3 : Int64} {a5 : Nat} {K : Int32 → Wd → Prop} {w : Wd} (h : w_L_write mc ms a0 a1 a2 a3 a5 K w) : Met l yL_write (xwsH yL_write cL_write 7 (some .int) [(0, 11, 14, 19), (0, 11, 18, 33), (0, 11, 22, 132)]) (rmd 9 mc ms) (xPc x [.ref (adr x a0), .int a1, .int a2, .long a3, .ref (adr x a5)] w) (QcI x K) mc ms (xA x) := by
  refine xMetH (by decide) (Nat.le_of_ble_eq_true rfl) (fun p e s m below meth c C hlk hr htab => ?_)
  show GW x p l e (rmd 9 mc ms) s m [.ref (adr x a0), .int a1, .int a2, .long a3, .ref (adr x a5)].toArray below meth c 7 (QI x K below [.ref (adr x a0), .int a1, .int a2, .long a3, .ref (adr x a5)].toArray s mc ms) 0 [(0, .ref (adr x a0)), (1, .int a1), (2, .int a2), (3, .long a3), (5, .ref (adr x a5))] [] w 0 0
  obtain ⟨k0, h⟩ := h
  obtain ⟨hb, h⟩ := h
  replace hb : 0 + 3 ≤ mc ∧ 0 + 18 ≤ ms := by omega
  refine g_aload (pc := 0) C dL_write_0 (q := 4) rfl ?_
  refine g_iconst (pc := 2) C dL_write_2 (v := 0) rfl ?_
  refine g_aload_n (pc := 3) C dL_write_3 (q := 0) rfl ?_
  refine g_iload_n (pc := 4) C dL_write_4 (q := 1) rfl ?_
  refine g_iload_n (pc := 5) C dL_write_5 (q := 2) rfl ?_
  refine g_lload_n (pc := 6) C dL_write_6 (q := 3) rfl ?_
  refine gh_callVl (pc := 7) C (As := [.int a1, .int a2, .long a3]) (rest := [.int 0, .ref (adr x a5)]) (ci := 11) (mc := 3) (ms := 18) (c_X11_write hl h) (x_cwV C 3 LML_128 ⟨rfl, by decide, by decide, rfl⟩ (Nat.le_of_ble_eq_true rfl) (by decide)) rfl k0 (by decide) rfl rfl (Nat.le_of_ble_eq_true rfl) dL_write_7 ⟨hb.1, hb.2⟩ (fun E q u H1 locs1 ls ce hX g1 g2 g3 g4 g5 g6 => ?_) (fun r1 w1 h => ?_)
  · rcases hX with ⟨rfl, h⟩ | ⟨rfl, h⟩ | ⟨rfl, h⟩
    · refine gh_catch C (E := "java/util/NoSuchElementException") [] ⟨0, 11, 14, 19⟩ [⟨0, 11, 18, 33⟩, ⟨0, 11, 22, 132⟩] htab (fun y hy => nomatch hy) rfl (by decide) LCLL_19 (by decide) g1 g2 g3 g4 g5 g6 ?_
      refine g_astore (pc := 14) C dL_write_14 (Nat.le_of_ble_eq_true rfl) (lo' := [(6, .ref q), (0, .ref (adr x a0)), (1, .int a1), (2, .int a2), (3, .long a3), (5, .ref (adr x a5))]) rfl ?_
      refine g_iconst (pc := 16) C dL_write_16 (v := 1) rfl ?_
      exact g_iret (pc := 17) C hlk hr hb.1 hb.2 dL_write_17 h
    · refine gh_catch C (E := "java/lang/IllegalStateException") [⟨0, 11, 14, 19⟩] ⟨0, 11, 18, 33⟩ [⟨0, 11, 22, 132⟩] htab (fun y hy => by
      simp only [List.mem_cons, List.not_mem_nil, or_false] at hy
      rcases hy with rfl
      · exact ⟨by decide, _, LCLL_19, by decide⟩) rfl (by decide) LCLL_33 (by decide) g1 g2 g3 g4 g5 g6 ?_
      refine g_astore (pc := 18) C dL_write_18 (Nat.le_of_ble_eq_true rfl) (lo' := [(6, .ref q), (0, .ref (adr x a0)), (1, .int a1), (2, .int a2), (3, .long a3), (5, .ref (adr x a5))]) rfl ?_
      refine g_iconst (pc := 20) C dL_write_20 (v := 2) rfl ?_
      exact g_iret (pc := 21) C hlk hr hb.1 hb.2 dL_write_21 h
    · refine gh_catch C (E := "java/lang/IndexOutOfBoundsException") [⟨0, 11, 14, 19⟩, ⟨0, 11, 18, 33⟩] ⟨0, 11, 22, 132⟩ [] htab (fun y hy => by
      simp only [List.mem_cons, List.not_mem_nil, or_false] at hy
      rcases hy with rfl | rfl
      · exact ⟨by decide, _, LCLL_19, by decide⟩
      · exact ⟨by decide, _, LCLL_33, by decide⟩) rfl (by decide) LCLL_132 (by decide) g1 g2 g3 g4 g5 g6 ?_
      refine g_astore (pc := 22) C dL_write_22 (Nat.le_of_ble_eq_true rfl) (lo' := [(6, .ref q), (0, .ref (adr x a0)), (1, .int a1), (2, .int a2), (3, .long a3), (5, .ref (adr x a5))]) rfl ?_
      refine g_iconst (pc := 24) C dL_write_24 (v := 3) rfl ?_
      exact g_iret (pc := 25) C hlk hr hb.1 hb.2 dL_write_25 h
  · obtain ⟨k1, h⟩ := h
    obtain ⟨k2, h⟩ := h
    refine g_last (pc := 10) C k1 k2 dL_write_10 ?_
    refine g_goto (pc := 11) C dL_write_11 (tgt := 26) rfl ?_
    refine g_iconst (pc := 26) C dL_write_26 (v := 0) rfl ?_
    exact g_iret (pc := 27) C hlk hr hb.1 hb.2 dL_write_27 h
def w_L_copy (mc ms : Nat) (a0 : Nat) (a1 : Int32) (a2 : Int32) (a3 : Nat) (K : Int32 → Wd → Prop) (w : Wd) : Prop :=
  isK w a0 11 ∧ (4 ≤ mc ∧ 24 ≤ ms) ∧ w_X11_copy 4 24 a0 a1 a2 (fun r1 w1 => isK w1 a3 21 ∧ vp_in 0 (wn w1 a3) ∧ K 0 (uL w1 a3 (0 : Int32).toNatClampNeg r1.toInt64)) (fun E u => (E = "java/util/NoSuchElementException" ∧ K 1 u) ∨ (E = "java/lang/IllegalStateException" ∧ K 2 u)) w
theorem c_L_copy {x : xG} {l : Launch} (hl : l.stackTraces = false) {mc ms : Nat} {a0 : Nat} {a1 : Int32} {a2 : Int32} {a3 : Nat} {K : Int32 → Wd → Prop} {w : Wd} (h : w_L_copy mc ms a0 a1 a2 a3 K w) : Met l yL_copy (xwsH yL_copy cL_copy 5 (some .int) [(0, 10, 13, 19), (0, 10, 17, 33)]) (rmd 9 mc ms) (xPc x [.ref (adr x a0), .int a1, .int a2, .ref (adr x a3)] w) (QcI x K) mc ms (xA x) := by
  refine xMetH (by decide) (Nat.le_of_ble_eq_true rfl) (fun p e s m below meth c C hlk hr htab => ?_)
  show GW x p l e (rmd 9 mc ms) s m [.ref (adr x a0), .int a1, .int a2, .ref (adr x a3)].toArray below meth c 5 (QI x K below [.ref (adr x a0), .int a1, .int a2, .ref (adr x a3)].toArray s mc ms) 0 [(0, .ref (adr x a0)), (1, .int a1), (2, .int a2), (3, .ref (adr x a3))] [] w 0 0
  obtain ⟨k0, h⟩ := h
  obtain ⟨hb, h⟩ := h
  replace hb : 0 + 4 ≤ mc ∧ 0 + 24 ≤ ms := by omega
  refine g_aload_n (pc := 0) C dL_copy_0 (q := 3) rfl ?_
  refine g_iconst (pc := 1) C dL_copy_1 (v := 0) rfl ?_
  refine g_aload_n (pc := 2) C dL_copy_2 (q := 0) rfl ?_
  refine g_iload_n (pc := 3) C dL_copy_3 (q := 1) rfl ?_
  refine g_iload_n (pc := 4) C dL_copy_4 (q := 2) rfl ?_
  refine gh_callVi (pc := 5) C (As := [.int a1, .int a2]) (rest := [.int 0, .ref (adr x a3)]) (ci := 11) (mc := 4) (ms := 24) (c_X11_copy hl h) (x_cwV C 2 LML_134 ⟨rfl, by decide, by decide, rfl⟩ (Nat.le_of_ble_eq_true rfl) (by decide)) rfl k0 (by decide) rfl rfl (Nat.le_of_ble_eq_true rfl) dL_copy_5 ⟨hb.1, hb.2⟩ (fun E q u H1 locs1 ls ce hX g1 g2 g3 g4 g5 g6 => ?_) (fun r1 w1 h => ?_)
  · rcases hX with ⟨rfl, h⟩ | ⟨rfl, h⟩
    · refine gh_catch C (E := "java/util/NoSuchElementException") [] ⟨0, 10, 13, 19⟩ [⟨0, 10, 17, 33⟩] htab (fun y hy => nomatch hy) rfl (by decide) LCLL_19 (by decide) g1 g2 g3 g4 g5 g6 ?_
      refine g_astore (pc := 13) C dL_copy_13 (Nat.le_of_ble_eq_true rfl) (lo' := [(4, .ref q), (0, .ref (adr x a0)), (1, .int a1), (2, .int a2), (3, .ref (adr x a3))]) rfl ?_
      refine g_iconst (pc := 15) C dL_copy_15 (v := 1) rfl ?_
      exact g_iret (pc := 16) C hlk hr hb.1 hb.2 dL_copy_16 h
    · refine gh_catch C (E := "java/lang/IllegalStateException") [⟨0, 10, 13, 19⟩] ⟨0, 10, 17, 33⟩ [] htab (fun y hy => by
      simp only [List.mem_cons, List.not_mem_nil, or_false] at hy
      rcases hy with rfl
      · exact ⟨by decide, _, LCLL_19, by decide⟩) rfl (by decide) LCLL_33 (by decide) g1 g2 g3 g4 g5 g6 ?_
      refine g_astore (pc := 17) C dL_copy_17 (Nat.le_of_ble_eq_true rfl) (lo' := [(4, .ref q), (0, .ref (adr x a0)), (1, .int a1), (2, .int a2), (3, .ref (adr x a3))]) rfl ?_
      refine g_iconst (pc := 19) C dL_copy_19 (v := 2) rfl ?_
      exact g_iret (pc := 20) C hlk hr hb.1 hb.2 dL_copy_20 h
  · refine g_i2l (pc := 8) C dL_copy_8 ?_
    obtain ⟨k1, h⟩ := h
    obtain ⟨k2, h⟩ := h
    refine g_last (pc := 9) C k1 k2 dL_copy_9 ?_
    refine g_goto (pc := 10) C dL_copy_10 (tgt := 21) rfl ?_
    refine g_iconst (pc := 21) C dL_copy_21 (v := 0) rfl ?_
    exact g_iret (pc := 22) C hlk hr hb.1 hb.2 dL_copy_22 h
def w_L_image (mc ms : Nat) (a0 : Nat) (a1 : Int32) (K : Int32 → Wd → Prop) (w : Wd) : Prop :=
  isK w a0 11 ∧ (1 ≤ mc ∧ 6 ≤ ms) ∧ w_X11_image 1 6 a0 a1 (fun w1 => K 0 w1) (fun E u => (E = "java/util/NoSuchElementException" ∧ K 1 u)) w
theorem c_L_image {x : xG} {l : Launch} (hl : l.stackTraces = false) {mc ms : Nat} {a0 : Nat} {a1 : Int32} {K : Int32 → Wd → Prop} {w : Wd} (h : w_L_image mc ms a0 a1 K w) : Met l yL_image (xwsH yL_image cL_image 3 (some .int) [(0, 5, 8, 19)]) (rmd 8 mc ms) (xPc x [.ref (adr x a0), .int a1] w) (QcI x K) mc ms (xA x) := by
  refine xMetH (by decide) (Nat.le_of_ble_eq_true rfl) (fun p e s m below meth c C hlk hr htab => ?_)
  show GW x p l e (rmd 8 mc ms) s m [.ref (adr x a0), .int a1].toArray below meth c 3 (QI x K below [.ref (adr x a0), .int a1].toArray s mc ms) 0 [(0, .ref (adr x a0)), (1, .int a1)] [] w 0 0
  obtain ⟨k0, h⟩ := h
  obtain ⟨hb, h⟩ := h
  replace hb : 0 + 1 ≤ mc ∧ 0 + 6 ≤ ms := by omega
  refine g_aload_n (pc := 0) C dL_image_0 (q := 0) rfl ?_
  refine g_iload_n (pc := 1) C dL_image_1 (q := 1) rfl ?_
  refine gh_callVv (pc := 2) C (As := [.int a1]) (rest := []) (ci := 11) (mc := 1) (ms := 6) (c_X11_image hl h) (x_cwV C 1 LML_137 ⟨rfl, by decide, by decide, rfl⟩ (Nat.le_of_ble_eq_true rfl) (by decide)) rfl k0 (by decide) rfl rfl (Nat.le_of_ble_eq_true rfl) dL_image_2 ⟨hb.1, hb.2⟩ (fun E q u H1 locs1 ls ce hX g1 g2 g3 g4 g5 g6 => ?_) (fun w1 h => ?_)
  · obtain ⟨rfl, h⟩ := hX
    refine gh_catch C (E := "java/util/NoSuchElementException") [] ⟨0, 5, 8, 19⟩ [] htab (fun y hy => nomatch hy) rfl (by decide) LCLL_19 (by decide) g1 g2 g3 g4 g5 g6 ?_
    refine g_astore_n (pc := 8) C dL_image_8 (Nat.le_of_ble_eq_true rfl) (lo' := [(2, .ref q), (0, .ref (adr x a0)), (1, .int a1)]) rfl ?_
    refine g_iconst (pc := 9) C dL_image_9 (v := 1) rfl ?_
    exact g_iret (pc := 10) C hlk hr hb.1 hb.2 dL_image_10 h
  · refine g_goto (pc := 5) C dL_image_5 (tgt := 11) rfl ?_
    refine g_iconst (pc := 11) C dL_image_11 (v := 0) rfl ?_
    exact g_iret (pc := 12) C hlk hr hb.1 hb.2 dL_image_12 h
def w_L_restore (mc ms : Nat) (a0 : Nat) (a1 : Int32) (K : Int32 → Wd → Prop) (w : Wd) : Prop :=
  isK w a0 11 ∧ (2 ≤ mc ∧ 12 ≤ ms) ∧ w_X11_restore 2 12 a0 a1 (fun w1 => K 0 w1) (fun E u => (E = "java/util/NoSuchElementException" ∧ K 1 u) ∨ (E = "java/lang/IllegalStateException" ∧ K 2 u)) w
theorem c_L_restore {x : xG} {l : Launch} (hl : l.stackTraces = false) {mc ms : Nat} {a0 : Nat} {a1 : Int32} {K : Int32 → Wd → Prop} {w : Wd} (h : w_L_restore mc ms a0 a1 K w) : Met l yL_restore (xwsH yL_restore cL_restore 3 (some .int) [(0, 5, 8, 19), (0, 5, 11, 33)]) (rmd 8 mc ms) (xPc x [.ref (adr x a0), .int a1] w) (QcI x K) mc ms (xA x) := by
  refine xMetH (by decide) (Nat.le_of_ble_eq_true rfl) (fun p e s m below meth c C hlk hr htab => ?_)
  show GW x p l e (rmd 8 mc ms) s m [.ref (adr x a0), .int a1].toArray below meth c 3 (QI x K below [.ref (adr x a0), .int a1].toArray s mc ms) 0 [(0, .ref (adr x a0)), (1, .int a1)] [] w 0 0
  obtain ⟨k0, h⟩ := h
  obtain ⟨hb, h⟩ := h
  replace hb : 0 + 2 ≤ mc ∧ 0 + 12 ≤ ms := by omega
  refine g_aload_n (pc := 0) C dL_restore_0 (q := 0) rfl ?_
  refine g_iload_n (pc := 1) C dL_restore_1 (q := 1) rfl ?_
  refine gh_callVv (pc := 2) C (As := [.int a1]) (rest := []) (ci := 11) (mc := 2) (ms := 12) (c_X11_restore hl h) (x_cwV C 1 LML_141 ⟨rfl, by decide, by decide, rfl⟩ (Nat.le_of_ble_eq_true rfl) (by decide)) rfl k0 (by decide) rfl rfl (Nat.le_of_ble_eq_true rfl) dL_restore_2 ⟨hb.1, hb.2⟩ (fun E q u H1 locs1 ls ce hX g1 g2 g3 g4 g5 g6 => ?_) (fun w1 h => ?_)
  · rcases hX with ⟨rfl, h⟩ | ⟨rfl, h⟩
    · refine gh_catch C (E := "java/util/NoSuchElementException") [] ⟨0, 5, 8, 19⟩ [⟨0, 5, 11, 33⟩] htab (fun y hy => nomatch hy) rfl (by decide) LCLL_19 (by decide) g1 g2 g3 g4 g5 g6 ?_
      refine g_astore_n (pc := 8) C dL_restore_8 (Nat.le_of_ble_eq_true rfl) (lo' := [(2, .ref q), (0, .ref (adr x a0)), (1, .int a1)]) rfl ?_
      refine g_iconst (pc := 9) C dL_restore_9 (v := 1) rfl ?_
      exact g_iret (pc := 10) C hlk hr hb.1 hb.2 dL_restore_10 h
    · refine gh_catch C (E := "java/lang/IllegalStateException") [⟨0, 5, 8, 19⟩] ⟨0, 5, 11, 33⟩ [] htab (fun y hy => by
      simp only [List.mem_cons, List.not_mem_nil, or_false] at hy
      rcases hy with rfl
      · exact ⟨by decide, _, LCLL_19, by decide⟩) rfl (by decide) LCLL_33 (by decide) g1 g2 g3 g4 g5 g6 ?_
      refine g_astore_n (pc := 11) C dL_restore_11 (Nat.le_of_ble_eq_true rfl) (lo' := [(2, .ref q), (0, .ref (adr x a0)), (1, .int a1)]) rfl ?_
      refine g_iconst (pc := 12) C dL_restore_12 (v := 2) rfl ?_
      exact g_iret (pc := 13) C hlk hr hb.1 hb.2 dL_restore_13 h
  · refine g_goto (pc := 5) C dL_restore_5 (tgt := 14) rfl ?_
    refine g_iconst (pc := 14) C dL_restore_14 (v := 0) rfl ?_
    exact g_iret (pc := 15) C hlk hr hb.1 hb.2 dL_restore_15 h
end WS
