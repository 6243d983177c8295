theorem dX6_reach_18 : decode cX6_reach 18 = .ok (.getfield 44, 3) := by decide +kernel
theorem dX6_reach_21 : decode cX6_reach 21 = .ok (.iconst 1, 1) := by decide +kernel
theorem dX6_reach_22 : decode cX6_reach 22 = .ok (.isub, 1) := by decide +kernel
theorem dX6_reach_23 : decode cX6_reach 23 = .ok (.iaload, 1) := by decide +kernel
theorem dX6_reach_24 : decode cX6_reach 24 = .ok (.iconst 4, 1) := by decide +kernel
theorem dX6_reach_25 : decode cX6_reach 25 = .ok (.iadd, 1) := by decide +kernel
theorem dX6_reach_26 : decode cX6_reach 26 = .ok (.invokestatic 84, 3) := by decide +kernel
theorem dX6_reach_29 : decode cX6_reach 29 = .ok (.ireturn, 1) := by decide +kernel
theorem dX6_markAt_0 : decode cX6_markAt 0 = .ok (.iload_n 1, 1) := by decide +kernel
theorem dX6_markAt_1 : decode cX6_markAt 1 = .ok (.ifCond .lt 23, 3) := by decide +kernel
theorem dX6_markAt_4 : decode cX6_markAt 4 = .ok (.iload_n 1, 1) := by decide +kernel
theorem dX6_markAt_5 : decode cX6_markAt 5 = .ok (.bipush 28, 2) := by decide +kernel
theorem dX6_markAt_7 : decode cX6_markAt 7 = .ok (.if_icmp .ge 17, 3) := by decide +kernel
theorem dX6_markAt_10 : decode cX6_markAt 10 = .ok (.aload_n 0, 1) := by decide +kernel
theorem dX6_markAt_11 : decode cX6_markAt 11 = .ok (.getfield 11, 3) := by decide +kernel
theorem dX6_markAt_14 : decode cX6_markAt 14 = .ok (.aload_n 0, 1) := by decide +kernel
theorem dX6_markAt_15 : decode cX6_markAt 15 = .ok (.getfield 44, 3) := by decide +kernel
theorem dX6_markAt_18 : decode cX6_markAt 18 = .ok (.aaload, 1) := by decide +kernel
theorem dX6_markAt_19 : decode cX6_markAt 19 = .ok (.iload_n 1, 1) := by decide +kernel
theorem dX6_markAt_20 : decode cX6_markAt 20 = .ok (.iaload, 1) := by decide +kernel
theorem dX6_markAt_21 : decode cX6_markAt 21 = .ok (.goto 5, 3) := by decide +kernel
theorem dX6_markAt_24 : decode cX6_markAt 24 = .ok (.bipush (-9), 2) := by decide +kernel
theorem dX6_markAt_26 : decode cX6_markAt 26 = .ok (.ireturn, 1) := by decide +kernel
theorem dX6_letterAt_0 : decode cX6_letterAt 0 = .ok (.aload_n 0, 1) := by decide +kernel
theorem dX6_letterAt_1 : decode cX6_letterAt 1 = .ok (.getfield 20, 3) := by decide +kernel
theorem dX6_letterAt_4 : decode cX6_letterAt 4 = .ok (.aload_n 0, 1) := by decide +kernel
theorem dX6_letterAt_5 : decode cX6_letterAt 5 = .ok (.iload_n 1, 1) := by decide +kernel
theorem dX6_letterAt_6 : decode cX6_letterAt 6 = .ok (.invokevirtual 87, 3) := by decide +kernel
theorem dX6_letterAt_9 : decode cX6_letterAt 9 = .ok (.invokevirtual 90, 3) := by decide +kernel
theorem dX6_letterAt_12 : decode cX6_letterAt 12 = .ok (.ireturn, 1) := by decide +kernel
theorem dX6_bladeAt_0 : decode cX6_bladeAt 0 = .ok (.aload_n 0, 1) := by decide +kernel
theorem dX6_bladeAt_1 : decode cX6_bladeAt 1 = .ok (.iload_n 1, 1) := by decide +kernel
theorem dX6_bladeAt_2 : decode cX6_bladeAt 2 = .ok (.invokevirtual 87, 3) := by decide +kernel
theorem dX6_bladeAt_5 : decode cX6_bladeAt 5 = .ok (.istore_n 2, 1) := by decide +kernel
theorem dX6_bladeAt_6 : decode cX6_bladeAt 6 = .ok (.iload_n 2, 1) := by decide +kernel
theorem dX6_bladeAt_7 : decode cX6_bladeAt 7 = .ok (.ifCond .ge 8, 3) := by decide +kernel
theorem dX6_bladeAt_10 : decode cX6_bladeAt 10 = .ok (.bipush (-9), 2) := by decide +kernel
theorem dX6_bladeAt_12 : decode cX6_bladeAt 12 = .ok (.goto 7, 3) := by decide +kernel
theorem dX6_bladeAt_15 : decode cX6_bladeAt 15 = .ok (.iload_n 2, 1) := by decide +kernel
theorem dX6_bladeAt_16 : decode cX6_bladeAt 16 = .ok (.bipush 8, 2) := by decide +kernel
theorem dX6_bladeAt_18 : decode cX6_bladeAt 18 = .ok (.idiv, 1) := by decide +kernel
theorem dX6_bladeAt_19 : decode cX6_bladeAt 19 = .ok (.ireturn, 1) := by decide +kernel
theorem dX6_cellsSeen_0 : decode cX6_cellsSeen 0 = .ok (.iconst 0, 1) := by decide +kernel
theorem dX6_cellsSeen_1 : decode cX6_cellsSeen 1 = .ok (.istore_n 2, 1) := by decide +kernel
theorem dX6_cellsSeen_2 : decode cX6_cellsSeen 2 = .ok (.aload_n 0, 1) := by decide +kernel
theorem dX6_cellsSeen_3 : decode cX6_cellsSeen 3 = .ok (.invokevirtual 93, 3) := by decide +kernel
theorem dX6_cellsSeen_6 : decode cX6_cellsSeen 6 = .ok (.istore_n 3, 1) := by decide +kernel
theorem dX6_cellsSeen_7 : decode cX6_cellsSeen 7 = .ok (.iconst 0, 1) := by decide +kernel
theorem dX6_cellsSeen_8 : decode cX6_cellsSeen 8 = .ok (.istore 4, 2) := by decide +kernel
theorem dX6_cellsSeen_10 : decode cX6_cellsSeen 10 = .ok (.iload 4, 2) := by decide +kernel
theorem dX6_cellsSeen_12 : decode cX6_cellsSeen 12 = .ok (.iload_n 3, 1) := by decide +kernel
theorem dX6_cellsSeen_13 : decode cX6_cellsSeen 13 = .ok (.if_icmp .ge 22, 3) := by decide +kernel
theorem dX6_cellsSeen_16 : decode cX6_cellsSeen 16 = .ok (.aload_n 0, 1) := by decide +kernel
theorem dX6_cellsSeen_17 : decode cX6_cellsSeen 17 = .ok (.iload 4, 2) := by decide +kernel
theorem dX6_cellsSeen_19 : decode cX6_cellsSeen 19 = .ok (.invokevirtual 96, 3) := by decide +kernel
theorem dX6_cellsSeen_22 : decode cX6_cellsSeen 22 = .ok (.iload_n 1, 1) := by decide +kernel
theorem dX6_cellsSeen_23 : decode cX6_cellsSeen 23 = .ok (.if_icmp .ne 6, 3) := by decide +kernel
theorem dX6_cellsSeen_26 : decode cX6_cellsSeen 26 = .ok (.iinc 2 1, 3) := by decide +kernel
theorem dX6_cellsSeen_29 : decode cX6_cellsSeen 29 = .ok (.iinc 4 1, 3) := by decide +kernel
theorem dX6_cellsSeen_32 : decode cX6_cellsSeen 32 = .ok (.goto (-22), 3) := by decide +kernel
theorem dX6_cellsSeen_35 : decode cX6_cellsSeen 35 = .ok (.iload_n 2, 1) := by decide +kernel
theorem dX6_cellsSeen_36 : decode cX6_cellsSeen 36 = .ok (.ireturn, 1) := by decide +kernel
theorem dX6_placesSeen_0 : decode cX6_placesSeen 0 = .ok (.iconst 0, 1) := by decide +kernel
theorem dX6_placesSeen_1 : decode cX6_placesSeen 1 = .ok (.istore_n 1, 1) := by decide +kernel
theorem dX6_placesSeen_2 : decode cX6_placesSeen 2 = .ok (.aload_n 0, 1) := by decide +kernel
theorem dX6_placesSeen_3 : decode cX6_placesSeen 3 = .ok (.invokevirtual 93, 3) := by decide +kernel
theorem dX6_placesSeen_6 : decode cX6_placesSeen 6 = .ok (.istore_n 2, 1) := by decide +kernel
theorem dX6_placesSeen_7 : decode cX6_placesSeen 7 = .ok (.iconst 0, 1) := by decide +kernel
theorem dX6_placesSeen_8 : decode cX6_placesSeen 8 = .ok (.istore_n 3, 1) := by decide +kernel
theorem dX6_placesSeen_9 : decode cX6_placesSeen 9 = .ok (.iload_n 3, 1) := by decide +kernel
theorem dX6_placesSeen_10 : decode cX6_placesSeen 10 = .ok (.iload_n 2, 1) := by decide +kernel
theorem dX6_placesSeen_11 : decode cX6_placesSeen 11 = .ok (.if_icmp .ge 20, 3) := by decide +kernel
theorem dX6_placesSeen_14 : decode cX6_placesSeen 14 = .ok (.aload_n 0, 1) := by decide +kernel
theorem dX6_placesSeen_15 : decode cX6_placesSeen 15 = .ok (.iload_n 3, 1) := by decide +kernel
theorem dX6_placesSeen_16 : decode cX6_placesSeen 16 = .ok (.invokevirtual 87, 3) := by decide +kernel
theorem dX6_placesSeen_19 : decode cX6_placesSeen 19 = .ok (.ifCond .lt 6, 3) := by decide +kernel
theorem dX6_placesSeen_22 : decode cX6_placesSeen 22 = .ok (.iinc 1 1, 3) := by decide +kernel
theorem dX6_placesSeen_25 : decode cX6_placesSeen 25 = .ok (.iinc 3 1, 3) := by decide +kernel
theorem dX6_placesSeen_28 : decode cX6_placesSeen 28 = .ok (.goto (-19), 3) := by decide +kernel
theorem dX6_placesSeen_31 : decode cX6_placesSeen 31 = .ok (.iload_n 1, 1) := by decide +kernel
theorem dX6_placesSeen_32 : decode cX6_placesSeen 32 = .ok (.ireturn, 1) := by decide +kernel
theorem dX6_placesWith_0 : decode cX6_placesWith 0 = .ok (.iconst 0, 1) := by decide +kernel
theorem dX6_placesWith_1 : decode cX6_placesWith 1 = .ok (.istore_n 2, 1) := by decide +kernel
theorem dX6_placesWith_2 : decode cX6_placesWith 2 = .ok (.aload_n 0, 1) := by decide +kernel
theorem dX6_placesWith_3 : decode cX6_placesWith 3 = .ok (.invokevirtual 93, 3) := by decide +kernel
theorem dX6_placesWith_6 : decode cX6_placesWith 6 = .ok (.istore_n 3, 1) := by decide +kernel
theorem dX6_placesWith_7 : decode cX6_placesWith 7 = .ok (.iconst 0, 1) := by decide +kernel
theorem dX6_placesWith_8 : decode cX6_placesWith 8 = .ok (.istore 4, 2) := by decide +kernel
theorem dX6_placesWith_10 : decode cX6_placesWith 10 = .ok (.iload 4, 2) := by decide +kernel
theorem dX6_placesWith_12 : decode cX6_placesWith 12 = .ok (.iload_n 3, 1) := by decide +kernel
theorem dX6_placesWith_13 : decode cX6_placesWith 13 = .ok (.if_icmp .ge 22, 3) := by decide +kernel
theorem dX6_placesWith_16 : decode cX6_placesWith 16 = .ok (.aload_n 0, 1) := by decide +kernel
theorem dX6_placesWith_17 : decode cX6_placesWith 17 = .ok (.iload 4, 2) := by decide +kernel
theorem dX6_placesWith_19 : decode cX6_placesWith 19 = .ok (.invokevirtual 99, 3) := by decide +kernel
theorem dX6_placesWith_22 : decode cX6_placesWith 22 = .ok (.iload_n 1, 1) := by decide +kernel
theorem dX6_placesWith_23 : decode cX6_placesWith 23 = .ok (.if_icmp .ne 6, 3) := by decide +kernel
theorem dX6_placesWith_26 : decode cX6_placesWith 26 = .ok (.iinc 2 1, 3) := by decide +kernel
theorem dX6_placesWith_29 : decode cX6_placesWith 29 = .ok (.iinc 4 1, 3) := by decide +kernel
theorem dX6_placesWith_32 : decode cX6_placesWith 32 = .ok (.goto (-22), 3) := by decide +kernel
theorem dX6_placesWith_35 : decode cX6_placesWith 35 = .ok (.iload_n 2, 1) := by decide +kernel
theorem dX6_placesWith_36 : decode cX6_placesWith 36 = .ok (.ireturn, 1) := by decide +kernel
theorem dX6_wide_0 : decode cX6_wide 0 = .ok (.aload_n 0, 1) := by decide +kernel
theorem dX6_wide_1 : decode cX6_wide 1 = .ok (.invokevirtual 93, 3) := by decide +kernel
theorem dX6_wide_4 : decode cX6_wide 4 = .ok (.iconst 1, 1) := by decide +kernel
theorem dX6_wide_5 : decode cX6_wide 5 = .ok (.isub, 1) := by decide +kernel
theorem dX6_wide_6 : decode cX6_wide 6 = .ok (.istore_n 1, 1) := by decide +kernel
theorem dX6_wide_7 : decode cX6_wide 7 = .ok (.iload_n 1, 1) := by decide +kernel
theorem dX6_wide_8 : decode cX6_wide 8 = .ok (.ifCond .lt 21, 3) := by decide +kernel
theorem dX6_wide_11 : decode cX6_wide 11 = .ok (.aload_n 0, 1) := by decide +kernel
theorem dX6_wide_12 : decode cX6_wide 12 = .ok (.iload_n 1, 1) := by decide +kernel
theorem dX6_wide_13 : decode cX6_wide 13 = .ok (.invokevirtual 87, 3) := by decide +kernel
theorem dX6_wide_16 : decode cX6_wide 16 = .ok (.ifCond .lt 7, 3) := by decide +kernel
theorem dX6_wide_19 : decode cX6_wide 19 = .ok (.iload_n 1, 1) := by decide +kernel
theorem dX6_wide_20 : decode cX6_wide 20 = .ok (.iconst 1, 1) := by decide +kernel
theorem dX6_wide_21 : decode cX6_wide 21 = .ok (.iadd, 1) := by decide +kernel
theorem dX6_wide_22 : decode cX6_wide 22 = .ok (.ireturn, 1) := by decide +kernel
theorem dX6_wide_23 : decode cX6_wide 23 = .ok (.iinc 1 (-1), 3) := by decide +kernel
theorem dX6_wide_26 : decode cX6_wide 26 = .ok (.goto (-19), 3) := by decide +kernel
theorem dX6_wide_29 : decode cX6_wide 29 = .ok (.iconst 0, 1) := by decide +kernel
theorem dX6_wide_30 : decode cX6_wide 30 = .ok (.ireturn, 1) := by decide +kernel
theorem dX7_init_0 : decode cX7_init 0 = .ok (.aload_n 0, 1) := by decide +kernel
theorem dX7_init_1 : decode cX7_init 1 = .ok (.invokespecial 3, 3) := by decide +kernel
theorem dX7_init_4 : decode cX7_init 4 = .ok (.aload_n 0, 1) := by decide +kernel
theorem dX7_init_5 : decode cX7_init 5 = .ok (.aload_n 1, 1) := by decide +kernel
theorem dX7_init_6 : decode cX7_init 6 = .ok (.putfield 9, 3) := by decide +kernel
theorem dX7_init_9 : decode cX7_init 9 = .ok (.aload_n 0, 1) := by decide +kernel
theorem dX7_init_10 : decode cX7_init 10 = .ok (.aload_n 2, 1) := by decide +kernel
theorem dX7_init_11 : decode cX7_init 11 = .ok (.putfield 15, 3) := by decide +kernel
theorem dX7_init_14 : decode cX7_init 14 = .ok (.aload_n 0, 1) := by decide +kernel
theorem dX7_init_15 : decode cX7_init 15 = .ok (.aload_n 3, 1) := by decide +kernel
theorem dX7_init_16 : decode cX7_init 16 = .ok (.putfield 19, 3) := by decide +kernel
theorem dX7_init_19 : decode cX7_init 19 = .ok (.return_, 1) := by decide +kernel
theorem dX7_begin_0 : decode cX7_begin 0 = .ok (.aload_n 0, 1) := by decide +kernel
theorem dX7_begin_1 : decode cX7_begin 1 = .ok (.getfield 15, 3) := by decide +kernel
theorem dX7_begin_4 : decode cX7_begin 4 = .ok (.invokevirtual 23, 3) := by decide +kernel
theorem dX7_begin_7 : decode cX7_begin 7 = .ok (.aload_n 0, 1) := by decide +kernel
theorem dX7_begin_8 : decode cX7_begin 8 = .ok (.getfield 19, 3) := by decide +kernel
theorem dX7_begin_11 : decode cX7_begin 11 = .ok (.aload_n 0, 1) := by decide +kernel
theorem dX7_begin_12 : decode cX7_begin 12 = .ok (.getfield 15, 3) := by decide +kernel
theorem dX7_begin_15 : decode cX7_begin 15 = .ok (.iload_n 1, 1) := by decide +kernel
theorem dX7_begin_16 : decode cX7_begin 16 = .ok (.invokevirtual 28, 3) := by decide +kernel
theorem dX7_begin_19 : decode cX7_begin 19 = .ok (.return_, 1) := by decide +kernel
theorem dX7_step_0 : decode cX7_step 0 = .ok (.aload_n 0, 1) := by decide +kernel
theorem dX7_step_1 : decode cX7_step 1 = .ok (.getfield 9, 3) := by decide +kernel
theorem dX7_step_4 : decode cX7_step 4 = .ok (.invokevirtual 34, 3) := by decide +kernel
theorem dX7_step_7 : decode cX7_step 7 = .ok (.iconst 2, 1) := by decide +kernel
theorem dX7_step_8 : decode cX7_step 8 = .ok (.isub, 1) := by decide +kernel
theorem dX7_step_9 : decode cX7_step 9 = .ok (.istore_n 1, 1) := by decide +kernel
theorem dX7_step_10 : decode cX7_step 10 = .ok (.iload_n 1, 1) := by decide +kernel
theorem dX7_step_11 : decode cX7_step 11 = .ok (.ifCond .lt 46, 3) := by decide +kernel
theorem dX7_step_14 : decode cX7_step 14 = .ok (.aload_n 0, 1) := by decide +kernel
theorem dX7_step_15 : decode cX7_step 15 = .ok (.getfield 15, 3) := by decide +kernel
theorem dX7_step_18 : decode cX7_step 18 = .ok (.iload_n 1, 1) := by decide +kernel
theorem dX7_step_19 : decode cX7_step 19 = .ok (.invokevirtual 40, 3) := by decide +kernel
theorem dX7_step_22 : decode cX7_step 22 = .ok (.ifCond .eq 21, 3) := by decide +kernel
theorem dX7_step_25 : decode cX7_step 25 = .ok (.aload_n 0, 1) := by decide +kernel
theorem dX7_step_26 : decode cX7_step 26 = .ok (.getfield 19, 3) := by decide +kernel
theorem dX7_step_29 : decode cX7_step 29 = .ok (.iload_n 1, 1) := by decide +kernel
theorem dX7_step_30 : decode cX7_step 30 = .ok (.iconst 1, 1) := by decide +kernel
theorem dX7_step_31 : decode cX7_step 31 = .ok (.iadd, 1) := by decide +kernel
theorem dX7_step_32 : decode cX7_step 32 = .ok (.aload_n 0, 1) := by decide +kernel
theorem dX7_step_33 : decode cX7_step 33 = .ok (.getfield 15, 3) := by decide +kernel
theorem dX7_step_36 : decode cX7_step 36 = .ok (.bipush 63, 2) := by decide +kernel
theorem dX7_step_38 : decode cX7_step 38 = .ok (.invokevirtual 44, 3) := by decide +kernel
theorem dX7_step_41 : decode cX7_step 41 = .ok (.iconst 1, 1) := by decide +kernel
theorem dX7_step_42 : decode cX7_step 42 = .ok (.ireturn, 1) := by decide +kernel
theorem dX7_step_43 : decode cX7_step 43 = .ok (.aload_n 0, 1) := by decide +kernel
theorem dX7_step_44 : decode cX7_step 44 = .ok (.getfield 15, 3) := by decide +kernel
theorem dX7_step_47 : decode cX7_step 47 = .ok (.iload_n 1, 1) := by decide +kernel
theorem dX7_step_48 : decode cX7_step 48 = .ok (.invokevirtual 48, 3) := by decide +kernel
theorem dX7_step_51 : decode cX7_step 51 = .ok (.iinc 1 (-1), 3) := by decide +kernel
theorem dX7_step_54 : decode cX7_step 54 = .ok (.goto (-44), 3) := by decide +kernel
theorem dX7_step_57 : decode cX7_step 57 = .ok (.iconst 0, 1) := by decide +kernel
theorem dX7_step_58 : decode cX7_step 58 = .ok (.ireturn, 1) := by decide +kernel
theorem dX8_init_0 : decode cX8_init 0 = .ok (.aload_n 0, 1) := by decide +kernel
theorem dX8_init_1 : decode cX8_init 1 = .ok (.invokespecial 3, 3) := by decide +kernel
theorem dX8_init_4 : decode cX8_init 4 = .ok (.aload_n 0, 1) := by decide +kernel
theorem dX8_init_5 : decode cX8_init 5 = .ok (.iconst 5, 1) := by decide +kernel
theorem dX8_init_6 : decode cX8_init 6 = .ok (.newarray .int, 2) := by decide +kernel
theorem dX8_init_8 : decode cX8_init 8 = .ok (.putfield 9, 3) := by decide +kernel
theorem dX8_init_11 : decode cX8_init 11 = .ok (.return_, 1) := by decide +kernel
theorem dX8_length_0 : decode cX8_length 0 = .ok (.aload_n 0, 1) := by decide +kernel
theorem dX8_length_1 : decode cX8_length 1 = .ok (.getfield 15, 3) := by decide +kernel
theorem dX8_length_4 : decode cX8_length 4 = .ok (.ireturn, 1) := by decide +kernel
theorem dX8_take_0 : decode cX8_take 0 = .ok (.lload_n 2, 1) := by decide +kernel
theorem dX8_take_1 : decode cX8_take 1 = .ok (.lstore 4, 2) := by decide +kernel
theorem dX8_take_3 : decode cX8_take 3 = .ok (.aload_n 0, 1) := by decide +kernel
theorem dX8_take_4 : decode cX8_take 4 = .ok (.iconst 0, 1) := by decide +kernel
theorem dX8_take_5 : decode cX8_take 5 = .ok (.iload_n 1, 1) := by decide +kernel
theorem dX8_take_6 : decode cX8_take 6 = .ok (.iconst 5, 1) := by decide +kernel
theorem dX8_take_7 : decode cX8_take 7 = .ok (.invokestatic 19, 3) := by decide +kernel
theorem dX8_take_10 : decode cX8_take 10 = .ok (.invokestatic 25, 3) := by decide +kernel
theorem dX8_take_13 : decode cX8_take 13 = .ok (.putfield 15, 3) := by decide +kernel
theorem dX8_take_16 : decode cX8_take 16 = .ok (.aload_n 0, 1) := by decide +kernel
theorem dX8_take_17 : decode cX8_take 17 = .ok (.getfield 15, 3) := by decide +kernel
theorem dX8_take_20 : decode cX8_take 20 = .ok (.iconst 1, 1) := by decide +kernel
theorem dX8_take_21 : decode cX8_take 21 = .ok (.isub, 1) := by decide +kernel
theorem dX8_take_22 : decode cX8_take 22 = .ok (.istore 6, 2) := by decide +kernel
theorem dX8_take_24 : decode cX8_take 24 = .ok (.iload 6, 2) := by decide +kernel
theorem dX8_take_26 : decode cX8_take 26 = .ok (.ifCond .lt 35, 3) := by decide +kernel
theorem dX8_take_29 : decode cX8_take 29 = .ok (.aload_n 0, 1) := by decide +kernel
theorem dX8_take_30 : decode cX8_take 30 = .ok (.getfield 9, 3) := by decide +kernel
theorem dX8_take_33 : decode cX8_take 33 = .ok (.iload 6, 2) := by decide +kernel
theorem dX8_take_35 : decode cX8_take 35 = .ok (.ldc2_w 28, 3) := by decide +kernel
theorem dX8_take_38 : decode cX8_take 38 = .ok (.lload 4, 2) := by decide +kernel
theorem dX8_take_40 : decode cX8_take 40 = .ok (.ldc2_w 30, 3) := by decide +kernel
theorem dX8_take_43 : decode cX8_take 43 = .ok (.lrem, 1) := by decide +kernel
theorem dX8_take_44 : decode cX8_take 44 = .ok (.ladd, 1) := by decide +kernel
theorem dX8_take_45 : decode cX8_take 45 = .ok (.l2i, 1) := by decide +kernel
theorem dX8_take_46 : decode cX8_take 46 = .ok (.iastore, 1) := by decide +kernel
theorem dX8_take_47 : decode cX8_take 47 = .ok (.lload 4, 2) := by decide +kernel
theorem dX8_take_49 : decode cX8_take 49 = .ok (.ldc2_w 30, 3) := by decide +kernel
theorem dX8_take_52 : decode cX8_take 52 = .ok (.ldiv, 1) := by decide +kernel
theorem dX8_take_53 : decode cX8_take 53 = .ok (.lstore 4, 2) := by decide +kernel
theorem dX8_take_55 : decode cX8_take 55 = .ok (.iinc 6 (-1), 3) := by decide +kernel
theorem dX8_take_58 : decode cX8_take 58 = .ok (.goto (-34), 3) := by decide +kernel
theorem dX8_take_61 : decode cX8_take 61 = .ok (.return_, 1) := by decide +kernel
theorem dX8_isRead_0 : decode cX8_isRead 0 = .ok (.aload_n 0, 1) := by decide +kernel
theorem dX8_isRead_1 : decode cX8_isRead 1 = .ok (.aload_n 1, 1) := by decide +kernel
theorem dX8_isRead_2 : decode cX8_isRead 2 = .ok (.invokevirtual 32, 3) := by decide +kernel
theorem dX8_isRead_5 : decode cX8_isRead 5 = .ok (.bipush (-9), 2) := by decide +kernel
theorem dX8_isRead_7 : decode cX8_isRead 7 = .ok (.if_icmp .eq 7, 3) := by decide +kernel
theorem dX8_isRead_10 : decode cX8_isRead 10 = .ok (.iconst 1, 1) := by decide +kernel
theorem dX8_isRead_11 : decode cX8_isRead 11 = .ok (.goto 4, 3) := by decide +kernel
theorem dX8_isRead_14 : decode cX8_isRead 14 = .ok (.iconst 0, 1) := by decide +kernel
theorem dX8_isRead_15 : decode cX8_isRead 15 = .ok (.ireturn, 1) := by decide +kernel
theorem dX8_firstRead_0 : decode cX8_firstRead 0 = .ok (.aload_n 0, 1) := by decide +kernel
theorem dX8_firstRead_1 : decode cX8_firstRead 1 = .ok (.getfield 15, 3) := by decide +kernel
theorem dX8_firstRead_4 : decode cX8_firstRead 4 = .ok (.ifCond .ne 5, 3) := by decide +kernel
theorem dX8_firstRead_7 : decode cX8_firstRead 7 = .ok (.iconst 0, 1) := by decide +kernel
theorem dX8_firstRead_8 : decode cX8_firstRead 8 = .ok (.ireturn, 1) := by decide +kernel
theorem dX8_firstRead_9 : decode cX8_firstRead 9 = .ok (.aload_n 1, 1) := by decide +kernel
theorem dX8_firstRead_10 : decode cX8_firstRead 10 = .ok (.invokevirtual 36, 3) := by decide +kernel
theorem dX8_firstRead_13 : decode cX8_firstRead 13 = .ok (.istore_n 2, 1) := by decide +kernel
theorem dX8_firstRead_14 : decode cX8_firstRead 14 = .ok (.aload_n 1, 1) := by decide +kernel
theorem dX8_firstRead_15 : decode cX8_firstRead 15 = .ok (.invokevirtual 42, 3) := by decide +kernel
theorem dX8_firstRead_18 : decode cX8_firstRead 18 = .ok (.ifCond .ne 7, 3) := by decide +kernel
theorem dX8_firstRead_21 : decode cX8_firstRead 21 = .ok (.iconst 1, 1) := by decide +kernel
theorem dX8_firstRead_22 : decode cX8_firstRead 22 = .ok (.goto 4, 3) := by decide +kernel
theorem dX8_firstRead_25 : decode cX8_firstRead 25 = .ok (.iconst (-1), 1) := by decide +kernel
theorem dX8_firstRead_26 : decode cX8_firstRead 26 = .ok (.istore_n 3, 1) := by decide +kernel
theorem dX8_firstRead_27 : decode cX8_firstRead 27 = .ok (.iload_n 3, 1) := by decide +kernel
theorem dX8_firstRead_28 : decode cX8_firstRead 28 = .ok (.ifCond .le 7, 3) := by decide +kernel
theorem dX8_firstRead_31 : decode cX8_firstRead 31 = .ok (.iconst 0, 1) := by decide +kernel
theorem dX8_firstRead_32 : decode cX8_firstRead 32 = .ok (.goto 6, 3) := by decide +kernel
theorem dX8_firstRead_35 : decode cX8_firstRead 35 = .ok (.iload_n 2, 1) := by decide +kernel
theorem dX8_firstRead_36 : decode cX8_firstRead 36 = .ok (.iconst 1, 1) := by decide +kernel
theorem dX8_firstRead_37 : decode cX8_firstRead 37 = .ok (.isub, 1) := by decide +kernel
theorem dX8_firstRead_38 : decode cX8_firstRead 38 = .ok (.istore 4, 2) := by decide +kernel
theorem dX8_firstRead_40 : decode cX8_firstRead 40 = .ok (.iconst 0, 1) := by decide +kernel
theorem dX8_firstRead_41 : decode cX8_firstRead 41 = .ok (.istore 5, 2) := by decide +kernel
theorem dX8_firstRead_43 : decode cX8_firstRead 43 = .ok (.iload 5, 2) := by decide +kernel
theorem dX8_firstRead_45 : decode cX8_firstRead 45 = .ok (.iload_n 2, 1) := by decide +kernel
theorem dX8_firstRead_46 : decode cX8_firstRead 46 = .ok (.if_icmp .ge 29, 3) := by decide +kernel
theorem dX8_firstRead_49 : decode cX8_firstRead 49 = .ok (.aload_n 0, 1) := by decide +kernel
theorem dX8_firstRead_50 : decode cX8_firstRead 50 = .ok (.aload_n 1, 1) := by decide +kernel
theorem dX8_firstRead_51 : decode cX8_firstRead 51 = .ok (.iload 4, 2) := by decide +kernel
theorem dX8_firstRead_53 : decode cX8_firstRead 53 = .ok (.iload_n 3, 1) := by decide +kernel
theorem dX8_firstRead_54 : decode cX8_firstRead 54 = .ok (.invokevirtual 45, 3) := by decide +kernel
theorem dX8_firstRead_57 : decode cX8_firstRead 57 = .ok (.ifCond .eq 6, 3) := by decide +kernel
theorem dX8_firstRead_60 : decode cX8_firstRead 60 = .ok (.iload 4, 2) := by decide +kernel
theorem dX8_firstRead_62 : decode cX8_firstRead 62 = .ok (.ireturn, 1) := by decide +kernel
theorem dX8_firstRead_63 : decode cX8_firstRead 63 = .ok (.iload 4, 2) := by decide +kernel
theorem dX8_firstRead_65 : decode cX8_firstRead 65 = .ok (.iload_n 3, 1) := by decide +kernel
theorem dX8_firstRead_66 : decode cX8_firstRead 66 = .ok (.iadd, 1) := by decide +kernel
theorem dX8_firstRead_67 : decode cX8_firstRead 67 = .ok (.istore 4, 2) := by decide +kernel
theorem dX8_firstRead_69 : decode cX8_firstRead 69 = .ok (.iinc 5 1, 3) := by decide +kernel
theorem dX8_firstRead_72 : decode cX8_firstRead 72 = .ok (.goto (-29), 3) := by decide +kernel
theorem dX8_firstRead_75 : decode cX8_firstRead 75 = .ok (.bipush (-9), 2) := by decide +kernel
theorem dX8_firstRead_77 : decode cX8_firstRead 77 = .ok (.ireturn, 1) := by decide +kernel
theorem dX8_isReadAt_0 : decode cX8_isReadAt 0 = .ok (.iconst 0, 1) := by decide +kernel
theorem dX8_isReadAt_1 : decode cX8_isReadAt 1 = .ok (.istore 4, 2) := by decide +kernel
theorem dX8_isReadAt_3 : decode cX8_isReadAt 3 = .ok (.iload 4, 2) := by decide +kernel
theorem dX8_isReadAt_5 : decode cX8_isReadAt 5 = .ok (.aload_n 0, 1) := by decide +kernel
theorem dX8_isReadAt_6 : decode cX8_isReadAt 6 = .ok (.getfield 15, 3) := by decide +kernel
theorem dX8_isReadAt_9 : decode cX8_isReadAt 9 = .ok (.if_icmp .ge 31, 3) := by decide +kernel
theorem dX8_isReadAt_12 : decode cX8_isReadAt 12 = .ok (.aload_n 1, 1) := by decide +kernel
theorem dX8_isReadAt_13 : decode cX8_isReadAt 13 = .ok (.iload_n 2, 1) := by decide +kernel
theorem dX8_isReadAt_14 : decode cX8_isReadAt 14 = .ok (.iload 4, 2) := by decide +kernel
theorem dX8_isReadAt_16 : decode cX8_isReadAt 16 = .ok (.iload_n 3, 1) := by decide +kernel
theorem dX8_isReadAt_17 : decode cX8_isReadAt 17 = .ok (.imul, 1) := by decide +kernel
theorem dX8_isReadAt_18 : decode cX8_isReadAt 18 = .ok (.iadd, 1) := by decide +kernel
theorem dX8_isReadAt_19 : decode cX8_isReadAt 19 = .ok (.invokevirtual 49, 3) := by decide +kernel
theorem dX8_isReadAt_22 : decode cX8_isReadAt 22 = .ok (.aload_n 0, 1) := by decide +kernel
theorem dX8_isReadAt_23 : decode cX8_isReadAt 23 = .ok (.getfield 9, 3) := by decide +kernel
theorem dX8_isReadAt_26 : decode cX8_isReadAt 26 = .ok (.iload 4, 2) := by decide +kernel
theorem dX8_isReadAt_28 : decode cX8_isReadAt 28 = .ok (.iaload, 1) := by decide +kernel
theorem dX8_isReadAt_29 : decode cX8_isReadAt 29 = .ok (.if_icmp .eq 5, 3) := by decide +kernel
theorem dX8_isReadAt_32 : decode cX8_isReadAt 32 = .ok (.iconst 0, 1) := by decide +kernel
theorem dX8_isReadAt_33 : decode cX8_isReadAt 33 = .ok (.ireturn, 1) := by decide +kernel
theorem dX8_isReadAt_34 : decode cX8_isReadAt 34 = .ok (.iinc 4 1, 3) := by decide +kernel
theorem dX8_isReadAt_37 : decode cX8_isReadAt 37 = .ok (.goto (-34), 3) := by decide +kernel
theorem dX8_isReadAt_40 : decode cX8_isReadAt 40 = .ok (.iconst 1, 1) := by decide +kernel
theorem dX8_isReadAt_41 : decode cX8_isReadAt 41 = .ok (.ireturn, 1) := by decide +kernel
theorem dX9_init_0 : decode cX9_init 0 = .ok (.aload_n 0, 1) := by decide +kernel
theorem dX9_init_1 : decode cX9_init 1 = .ok (.invokespecial 3, 3) := by decide +kernel
theorem dX9_init_4 : decode cX9_init 4 = .ok (.aload_n 0, 1) := by decide +kernel
theorem dX9_init_5 : decode cX9_init 5 = .ok (.new 9, 3) := by decide +kernel
theorem dX9_init_8 : decode cX9_init 8 = .ok (.dup, 1) := by decide +kernel
theorem dX9_init_9 : decode cX9_init 9 = .ok (.invokespecial 11, 3) := by decide +kernel
theorem dX9_init_12 : decode cX9_init 12 = .ok (.putfield 12, 3) := by decide +kernel
theorem dX9_init_15 : decode cX9_init 15 = .ok (.aload_n 0, 1) := by decide +kernel
theorem dX9_init_16 : decode cX9_init 16 = .ok (.new 16, 3) := by decide +kernel
theorem dX9_init_19 : decode cX9_init 19 = .ok (.dup, 1) := by decide +kernel
theorem dX9_init_20 : decode cX9_init 20 = .ok (.invokespecial 18, 3) := by decide +kernel
theorem dX9_init_23 : decode cX9_init 23 = .ok (.putfield 19, 3) := by decide +kernel
theorem dX9_init_26 : decode cX9_init 26 = .ok (.aload_n 0, 1) := by decide +kernel
theorem dX9_init_27 : decode cX9_init 27 = .ok (.new 23, 3) := by decide +kernel
theorem dX9_init_30 : decode cX9_init 30 = .ok (.dup, 1) := by decide +kernel
theorem dX9_init_31 : decode cX9_init 31 = .ok (.aload_n 0, 1) := by decide +kernel
theorem dX9_init_32 : decode cX9_init 32 = .ok (.getfield 19, 3) := by decide +kernel
theorem dX9_init_35 : decode cX9_init 35 = .ok (.invokespecial 25, 3) := by decide +kernel
theorem dX9_init_38 : decode cX9_init 38 = .ok (.putfield 28, 3) := by decide +kernel
theorem dX9_init_41 : decode cX9_init 41 = .ok (.aload_n 0, 1) := by decide +kernel
theorem dX9_init_42 : decode cX9_init 42 = .ok (.new 23, 3) := by decide +kernel
theorem dX9_init_45 : decode cX9_init 45 = .ok (.dup, 1) := by decide +kernel
theorem dX9_init_46 : decode cX9_init 46 = .ok (.aload_n 0, 1) := by decide +kernel
theorem dX9_init_47 : decode cX9_init 47 = .ok (.getfield 19, 3) := by decide +kernel
theorem dX9_init_50 : decode cX9_init 50 = .ok (.invokespecial 25, 3) := by decide +kernel
theorem dX9_init_53 : decode cX9_init 53 = .ok (.putfield 32, 3) := by decide +kernel
theorem dX9_init_56 : decode cX9_init 56 = .ok (.aload_n 0, 1) := by decide +kernel
theorem dX9_init_57 : decode cX9_init 57 = .ok (.new 35, 3) := by decide +kernel
theorem dX9_init_60 : decode cX9_init 60 = .ok (.dup, 1) := by decide +kernel
theorem dX9_init_61 : decode cX9_init 61 = .ok (.aload_n 0, 1) := by decide +kernel
theorem dX9_init_62 : decode cX9_init 62 = .ok (.getfield 19, 3) := by decide +kernel
theorem dX9_init_65 : decode cX9_init 65 = .ok (.invokespecial 37, 3) := by decide +kernel
theorem dX9_init_68 : decode cX9_init 68 = .ok (.putfield 38, 3) := by decide +kernel
theorem dX9_init_71 : decode cX9_init 71 = .ok (.aload_n 0, 1) := by decide +kernel
theorem dX9_init_72 : decode cX9_init 72 = .ok (.new 42, 3) := by decide +kernel
theorem dX9_init_75 : decode cX9_init 75 = .ok (.dup, 1) := by decide +kernel
theorem dX9_init_76 : decode cX9_init 76 = .ok (.aload_n 0, 1) := by decide +kernel
theorem dX9_init_77 : decode cX9_init 77 = .ok (.getfield 19, 3) := by decide +kernel
theorem dX9_init_80 : decode cX9_init 80 = .ok (.aload_n 0, 1) := by decide +kernel
theorem dX9_init_81 : decode cX9_init 81 = .ok (.getfield 32, 3) := by decide +kernel
theorem dX9_init_84 : decode cX9_init 84 = .ok (.aload_n 0, 1) := by decide +kernel
theorem dX9_init_85 : decode cX9_init 85 = .ok (.getfield 38, 3) := by decide +kernel
theorem dX9_init_88 : decode cX9_init 88 = .ok (.invokespecial 44, 3) := by decide +kernel
theorem dX9_init_91 : decode cX9_init 91 = .ok (.putfield 47, 3) := by decide +kernel
theorem dX9_init_94 : decode cX9_init 94 = .ok (.aload_n 0, 1) := by decide +kernel
theorem dX9_init_95 : decode cX9_init 95 = .ok (.new 51, 3) := by decide +kernel
theorem dX9_init_98 : decode cX9_init 98 = .ok (.dup, 1) := by decide +kernel
theorem dX9_init_99 : decode cX9_init 99 = .ok (.invokespecial 53, 3) := by decide +kernel
theorem dX9_init_102 : decode cX9_init 102 = .ok (.putfield 54, 3) := by decide +kernel
theorem dX9_init_105 : decode cX9_init 105 = .ok (.aload_n 0, 1) := by decide +kernel
theorem dX9_init_106 : decode cX9_init 106 = .ok (.new 58, 3) := by decide +kernel
theorem dX9_init_109 : decode cX9_init 109 = .ok (.dup, 1) := by decide +kernel
theorem dX9_init_110 : decode cX9_init 110 = .ok (.invokespecial 60, 3) := by decide +kernel
theorem dX9_init_113 : decode cX9_init 113 = .ok (.putfield 61, 3) := by decide +kernel
theorem dX9_init_116 : decode cX9_init 116 = .ok (.aload_n 0, 1) := by decide +kernel
theorem dX9_init_117 : decode cX9_init 117 = .ok (.new 65, 3) := by decide +kernel
theorem dX9_init_120 : decode cX9_init 120 = .ok (.dup, 1) := by decide +kernel
theorem dX9_init_121 : decode cX9_init 121 = .ok (.invokespecial 67, 3) := by decide +kernel
theorem dX9_init_124 : decode cX9_init 124 = .ok (.putfield 68, 3) := by decide +kernel
theorem dX9_init_127 : decode cX9_init 127 = .ok (.aload_n 0, 1) := by decide +kernel
theorem dX9_init_128 : decode cX9_init 128 = .ok (.new 72, 3) := by decide +kernel
theorem dX9_init_131 : decode cX9_init 131 = .ok (.dup, 1) := by decide +kernel
theorem dX9_init_132 : decode cX9_init 132 = .ok (.invokespecial 74, 3) := by decide +kernel
theorem dX9_init_135 : decode cX9_init 135 = .ok (.putfield 75, 3) := by decide +kernel
theorem dX9_init_138 : decode cX9_init 138 = .ok (.aload_n 0, 1) := by decide +kernel
theorem dX9_init_139 : decode cX9_init 139 = .ok (.iconst 4, 1) := by decide +kernel
theorem dX9_init_140 : decode cX9_init 140 = .ok (.newarray .int, 2) := by decide +kernel
theorem dX9_init_142 : decode cX9_init 142 = .ok (.putfield 79, 3) := by decide +kernel
theorem dX9_init_145 : decode cX9_init 145 = .ok (.aload_n 0, 1) := by decide +kernel
theorem dX9_init_146 : decode cX9_init 146 = .ok (.iconst 4, 1) := by decide +kernel
theorem dX9_init_147 : decode cX9_init 147 = .ok (.newarray .int, 2) := by decide +kernel
theorem dX9_init_149 : decode cX9_init 149 = .ok (.putfield 83, 3) := by decide +kernel
theorem dX9_init_152 : decode cX9_init 152 = .ok (.aload_n 0, 1) := by decide +kernel
theorem dX9_init_153 : decode cX9_init 153 = .ok (.iconst 4, 1) := by decide +kernel
theorem dX9_init_154 : decode cX9_init 154 = .ok (.newarray .int, 2) := by decide +kernel
theorem dX9_init_156 : decode cX9_init 156 = .ok (.putfield 86, 3) := by decide +kernel
theorem dX9_init_159 : decode cX9_init 159 = .ok (.return_, 1) := by decide +kernel
theorem dX9_write_0 : decode cX9_write 0 = .ok (.iload_n 1, 1) := by decide +kernel
theorem dX9_write_1 : decode cX9_write 1 = .ok (.ifCond .lt 10, 3) := by decide +kernel
theorem dX9_write_4 : decode cX9_write 4 = .ok (.iload_n 1, 1) := by decide +kernel
theorem dX9_write_5 : decode cX9_write 5 = .ok (.sipush 255, 3) := by decide +kernel
theorem dX9_write_8 : decode cX9_write 8 = .ok (.if_icmp .le 6, 3) := by decide +kernel
theorem dX9_write_11 : decode cX9_write 11 = .ok (.bipush (-2), 2) := by decide +kernel
theorem dX9_write_13 : decode cX9_write 13 = .ok (.ireturn, 1) := by decide +kernel
theorem dX9_write_14 : decode cX9_write 14 = .ok (.aload_n 0, 1) := by decide +kernel
theorem dX9_write_15 : decode cX9_write 15 = .ok (.getfield 12, 3) := by decide +kernel
theorem dX9_write_18 : decode cX9_write 18 = .ok (.iload_n 1, 1) := by decide +kernel
theorem dX9_write_19 : decode cX9_write 19 = .ok (.invokevirtual 89, 3) := by decide +kernel
theorem dX9_write_22 : decode cX9_write 22 = .ok (.ifCond .eq 13, 3) := by decide +kernel
theorem dX9_write_25 : decode cX9_write 25 = .ok (.aload_n 0, 1) := by decide +kernel
theorem dX9_write_26 : decode cX9_write 26 = .ok (.getfield 12, 3) := by decide +kernel
theorem dX9_write_29 : decode cX9_write 29 = .ok (.invokevirtual 93, 3) := by decide +kernel
theorem dX9_write_32 : decode cX9_write 32 = .ok (.goto 5, 3) := by decide +kernel
theorem dX9_write_35 : decode cX9_write 35 = .ok (.bipush (-4), 2) := by decide +kernel
theorem dX9_write_37 : decode cX9_write 37 = .ok (.ireturn, 1) := by decide +kernel
theorem dX9_wipe_0 : decode cX9_wipe 0 = .ok (.aload_n 0, 1) := by decide +kernel
theorem dX9_wipe_1 : decode cX9_wipe 1 = .ok (.getfield 12, 3) := by decide +kernel
theorem dX9_wipe_4 : decode cX9_wipe 4 = .ok (.invokevirtual 93, 3) := by decide +kernel
theorem dX9_wipe_7 : decode cX9_wipe 7 = .ok (.istore_n 1, 1) := by decide +kernel
theorem dX9_wipe_8 : decode cX9_wipe 8 = .ok (.aload_n 0, 1) := by decide +kernel
theorem dX9_wipe_9 : decode cX9_wipe 9 = .ok (.getfield 12, 3) := by decide +kernel
theorem dX9_wipe_12 : decode cX9_wipe 12 = .ok (.invokevirtual 97, 3) := by decide +kernel
theorem dX9_wipe_15 : decode cX9_wipe 15 = .ok (.iload_n 1, 1) := by decide +kernel
theorem dX9_wipe_16 : decode cX9_wipe 16 = .ok (.ireturn, 1) := by decide +kernel
theorem dX9_fault_0 : decode cX9_fault 0 = .ok (.aload_n 0, 1) := by decide +kernel
theorem dX9_fault_1 : decode cX9_fault 1 = .ok (.getfield 12, 3) := by decide +kernel
theorem dX9_fault_4 : decode cX9_fault 4 = .ok (.invokevirtual 100, 3) := by decide +kernel
theorem dX9_fault_7 : decode cX9_fault 7 = .ok (.ireturn, 1) := by decide +kernel
theorem dX9_fan_0 : decode cX9_fan 0 = .ok (.aload_n 0, 1) := by decide +kernel
theorem dX9_fan_1 : decode cX9_fan 1 = .ok (.getfield 12, 3) := by decide +kernel
theorem dX9_fan_4 : decode cX9_fan 4 = .ok (.invokevirtual 100, 3) := by decide +kernel
theorem dX9_fan_7 : decode cX9_fan 7 = .ok (.bipush (-9), 2) := by decide +kernel
theorem dX9_fan_9 : decode cX9_fan 9 = .ok (.if_icmp .eq 6, 3) := by decide +kernel
theorem dX9_fan_12 : decode cX9_fan 12 = .ok (.bipush (-3), 2) := by decide +kernel
theorem dX9_fan_14 : decode cX9_fan 14 = .ok (.ireturn, 1) := by decide +kernel
theorem dX9_fan_15 : decode cX9_fan 15 = .ok (.aload_n 0, 1) := by decide +kernel
theorem dX9_fan_16 : decode cX9_fan 16 = .ok (.getfield 19, 3) := by decide +kernel
theorem dX9_fan_19 : decode cX9_fan 19 = .ok (.aload_n 0, 1) := by decide +kernel
theorem dX9_fan_20 : decode cX9_fan 20 = .ok (.getfield 12, 3) := by decide +kernel
theorem dX9_fan_23 : decode cX9_fan 23 = .ok (.invokevirtual 103, 3) := by decide +kernel
theorem dX9_fan_26 : decode cX9_fan 26 = .ok (.aload_n 0, 1) := by decide +kernel
theorem dX9_fan_27 : decode cX9_fan 27 = .ok (.getfield 28, 3) := by decide +kernel
theorem dX9_fan_30 : decode cX9_fan 30 = .ok (.invokevirtual 107, 3) := by decide +kernel
theorem dX9_fan_33 : decode cX9_fan 33 = .ok (.aload_n 0, 1) := by decide +kernel
theorem dX9_fan_34 : decode cX9_fan 34 = .ok (.getfield 61, 3) := by decide +kernel
theorem dX9_fan_37 : decode cX9_fan 37 = .ok (.invokevirtual 108, 3) := by decide +kernel
theorem dX9_fan_40 : decode cX9_fan 40 = .ok (.aload_n 0, 1) := by decide +kernel
theorem dX9_fan_41 : decode cX9_fan 41 = .ok (.getfield 68, 3) := by decide +kernel
theorem dX9_fan_44 : decode cX9_fan 44 = .ok (.invokevirtual 109, 3) := by decide +kernel
theorem dX9_fan_47 : decode cX9_fan 47 = .ok (.aload_n 0, 1) := by decide +kernel
theorem dX9_fan_48 : decode cX9_fan 48 = .ok (.getfield 19, 3) := by decide +kernel
theorem dX9_fan_51 : decode cX9_fan 51 = .ok (.invokevirtual 110, 3) := by decide +kernel
theorem dX9_fan_54 : decode cX9_fan 54 = .ok (.ireturn, 1) := by decide +kernel
theorem dX9_word_0 : decode cX9_word 0 = .ok (.iload_n 1, 1) := by decide +kernel
theorem dX9_word_1 : decode cX9_word 1 = .ok (.ifCond .lt 26, 3) := by decide +kernel
theorem dX9_word_4 : decode cX9_word 4 = .ok (.iload_n 1, 1) := by decide +kernel
theorem dX9_word_5 : decode cX9_word 5 = .ok (.iconst 5, 1) := by decide +kernel
theorem dX9_word_6 : decode cX9_word 6 = .ok (.if_icmp .gt 21, 3) := by decide +kernel
theorem dX9_word_9 : decode cX9_word 9 = .ok (.lload_n 2, 1) := by decide +kernel
theorem dX9_word_10 : decode cX9_word 10 = .ok (.iconst 2, 1) := by decide +kernel
theorem dX9_word_11 : decode cX9_word 11 = .ok (.iload_n 1, 1) := by decide +kernel
theorem dX9_word_12 : decode cX9_word 12 = .ok (.imul, 1) := by decide +kernel
theorem dX9_word_13 : decode cX9_word 13 = .ok (.invokestatic 113, 3) := by decide +kernel
theorem dX9_word_16 : decode cX9_word 16 = .ok (.ifCond .eq 11, 3) := by decide +kernel
theorem dX9_word_19 : decode cX9_word 19 = .ok (.iload_n 1, 1) := by decide +kernel
theorem dX9_word_20 : decode cX9_word 20 = .ok (.lload_n 2, 1) := by decide +kernel
theorem dX9_word_21 : decode cX9_word 21 = .ok (.invokestatic 117, 3) := by decide +kernel
theorem dX9_word_24 : decode cX9_word 24 = .ok (.ifCond .ne 6, 3) := by decide +kernel
theorem dX9_word_27 : decode cX9_word 27 = .ok (.bipush (-2), 2) := by decide +kernel
theorem dX9_word_29 : decode cX9_word 29 = .ok (.ireturn, 1) := by decide +kernel
theorem dX9_word_30 : decode cX9_word 30 = .ok (.aload_n 0, 1) := by decide +kernel
theorem dX9_word_31 : decode cX9_word 31 = .ok (.getfield 54, 3) := by decide +kernel
theorem dX9_word_34 : decode cX9_word 34 = .ok (.invokevirtual 121, 3) := by decide +kernel
theorem dX9_word_37 : decode cX9_word 37 = .ok (.istore 4, 2) := by decide +kernel
theorem dX9_word_39 : decode cX9_word 39 = .ok (.aload_n 0, 1) := by decide +kernel
theorem dX9_word_40 : decode cX9_word 40 = .ok (.getfield 54, 3) := by decide +kernel
theorem dX9_word_43 : decode cX9_word 43 = .ok (.iload_n 1, 1) := by decide +kernel
theorem dX9_word_44 : decode cX9_word 44 = .ok (.lload_n 2, 1) := by decide +kernel
theorem dX9_word_45 : decode cX9_word 45 = .ok (.invokevirtual 122, 3) := by decide +kernel
theorem dX9_word_48 : decode cX9_word 48 = .ok (.iload 4, 2) := by decide +kernel
theorem dX9_word_50 : decode cX9_word 50 = .ok (.ireturn, 1) := by decide +kernel
theorem dX9_blade_0 : decode cX9_blade 0 = .ok (.aload_n 0, 1) := by decide +kernel
theorem dX9_blade_1 : decode cX9_blade 1 = .ok (.getfield 19, 3) := by decide +kernel
theorem dX9_blade_4 : decode cX9_blade 4 = .ok (.iload_n 1, 1) := by decide +kernel
theorem dX9_blade_5 : decode cX9_blade 5 = .ok (.invokevirtual 125, 3) := by decide +kernel
theorem dX9_blade_8 : decode cX9_blade 8 = .ok (.ifCond .ne 5, 3) := by decide +kernel
theorem dX9_blade_11 : decode cX9_blade 11 = .ok (.iconst (-1), 1) := by decide +kernel
theorem dX9_blade_12 : decode cX9_blade 12 = .ok (.ireturn, 1) := by decide +kernel
theorem dX9_blade_13 : decode cX9_blade 13 = .ok (.iload_n 2, 1) := by decide +kernel
theorem dX9_blade_14 : decode cX9_blade 14 = .ok (.tableswitch 113 0 5 #[38, 47, 56, 65, 65, 88], 38) := by decide +kernel
theorem dX9_blade_52 : decode cX9_blade 52 = .ok (.aload_n 0, 1) := by decide +kernel
theorem dX9_blade_53 : decode cX9_blade 53 = .ok (.getfield 19, 3) := by decide +kernel
theorem dX9_blade_56 : decode cX9_blade 56 = .ok (.iload_n 1, 1) := by decide +kernel
theorem dX9_blade_57 : decode cX9_blade 57 = .ok (.invokevirtual 128, 3) := by decide +kernel
theorem dX9_blade_60 : decode cX9_blade 60 = .ok (.ireturn, 1) := by decide +kernel
theorem dX9_blade_61 : decode cX9_blade 61 = .ok (.aload_n 0, 1) := by decide +kernel
theorem dX9_blade_62 : decode cX9_blade 62 = .ok (.getfield 28, 3) := by decide +kernel
theorem dX9_blade_65 : decode cX9_blade 65 = .ok (.iload_n 1, 1) := by decide +kernel
theorem dX9_blade_66 : decode cX9_blade 66 = .ok (.invokevirtual 132, 3) := by decide +kernel
theorem dX9_blade_69 : decode cX9_blade 69 = .ok (.ireturn, 1) := by decide +kernel
theorem dX9_blade_70 : decode cX9_blade 70 = .ok (.aload_n 0, 1) := by decide +kernel
theorem dX9_blade_71 : decode cX9_blade 71 = .ok (.getfield 19, 3) := by decide +kernel
theorem dX9_blade_74 : decode cX9_blade 74 = .ok (.iload_n 1, 1) := by decide +kernel
theorem dX9_blade_75 : decode cX9_blade 75 = .ok (.invokevirtual 135, 3) := by decide +kernel
theorem dX9_blade_78 : decode cX9_blade 78 = .ok (.ireturn, 1) := by decide +kernel
theorem dX9_blade_79 : decode cX9_blade 79 = .ok (.aload_n 0, 1) := by decide +kernel
theorem dX9_blade_80 : decode cX9_blade 80 = .ok (.getfield 38, 3) := by decide +kernel
theorem dX9_blade_83 : decode cX9_blade 83 = .ok (.aload_n 0, 1) := by decide +kernel
theorem dX9_blade_84 : decode cX9_blade 84 = .ok (.getfield 28, 3) := by decide +kernel
theorem dX9_blade_87 : decode cX9_blade 87 = .ok (.iload_n 2, 1) := by decide +kernel
theorem dX9_blade_88 : decode cX9_blade 88 = .ok (.iconst 3, 1) := by decide +kernel
theorem dX9_blade_89 : decode cX9_blade 89 = .ok (.isub, 1) := by decide +kernel
theorem dX9_blade_90 : decode cX9_blade 90 = .ok (.invokevirtual 138, 3) := by decide +kernel
theorem dX9_blade_93 : decode cX9_blade 93 = .ok (.aload_n 0, 1) := by decide +kernel
theorem dX9_blade_94 : decode cX9_blade 94 = .ok (.getfield 38, 3) := by decide +kernel
theorem dX9_blade_97 : decode cX9_blade 97 = .ok (.iload_n 1, 1) := by decide +kernel
theorem dX9_blade_98 : decode cX9_blade 98 = .ok (.invokevirtual 142, 3) := by decide +kernel
theorem dX9_blade_101 : decode cX9_blade 101 = .ok (.ireturn, 1) := by decide +kernel
theorem dX9_blade_102 : decode cX9_blade 102 = .ok (.aload_n 0, 1) := by decide +kernel
theorem dX9_blade_103 : decode cX9_blade 103 = .ok (.getfield 19, 3) := by decide +kernel
theorem dX9_blade_106 : decode cX9_blade 106 = .ok (.iload_n 1, 1) := by decide +kernel
theorem dX9_blade_107 : decode cX9_blade 107 = .ok (.invokevirtual 145, 3) := by decide +kernel
theorem dX9_blade_110 : decode cX9_blade 110 = .ok (.ifCond .eq 14, 3) := by decide +kernel
theorem dX9_blade_113 : decode cX9_blade 113 = .ok (.aload_n 0, 1) := by decide +kernel
theorem dX9_blade_114 : decode cX9_blade 114 = .ok (.getfield 28, 3) := by decide +kernel
theorem dX9_blade_117 : decode cX9_blade 117 = .ok (.iload_n 1, 1) := by decide +kernel
theorem dX9_blade_118 : decode cX9_blade 118 = .ok (.invokevirtual 148, 3) := by decide +kernel
theorem dX9_blade_121 : decode cX9_blade 121 = .ok (.goto 5, 3) := by decide +kernel
theorem dX9_blade_124 : decode cX9_blade 124 = .ok (.bipush (-9), 2) := by decide +kernel
theorem dX9_blade_126 : decode cX9_blade 126 = .ok (.ireturn, 1) := by decide +kernel
theorem dX9_blade_127 : decode cX9_blade 127 = .ok (.bipush (-2), 2) := by decide +kernel
theorem dX9_blade_129 : decode cX9_blade 129 = .ok (.ireturn, 1) := by decide +kernel
theorem dX9_look_0 : decode cX9_look 0 = .ok (.iload_n 1, 1) := by decide +kernel
theorem dX9_look_1 : decode cX9_look 1 = .ok (.invokestatic 151, 3) := by decide +kernel
theorem dX9_look_4 : decode cX9_look 4 = .ok (.ifCond .ne 5, 3) := by decide +kernel
theorem dX9_look_7 : decode cX9_look 7 = .ok (.iconst (-1), 1) := by decide +kernel
theorem dX9_look_8 : decode cX9_look 8 = .ok (.ireturn, 1) := by decide +kernel
theorem dX9_look_9 : decode cX9_look 9 = .ok (.iload_n 2, 1) := by decide +kernel
theorem dX9_look_10 : decode cX9_look 10 = .ok (.invokestatic 154, 3) := by decide +kernel
theorem dX9_look_13 : decode cX9_look 13 = .ok (.ifCond .eq 10, 3) := by decide +kernel
theorem dX9_look_16 : decode cX9_look 16 = .ok (.iload_n 3, 1) := by decide +kernel
theorem dX9_look_17 : decode cX9_look 17 = .ok (.invokestatic 154, 3) := by decide +kernel
theorem dX9_look_20 : decode cX9_look 20 = .ok (.ifCond .ne 6, 3) := by decide +kernel
theorem dX9_look_23 : decode cX9_look 23 = .ok (.bipush (-2), 2) := by decide +kernel
theorem dX9_look_25 : decode cX9_look 25 = .ok (.ireturn, 1) := by decide +kernel
theorem dX9_look_26 : decode cX9_look 26 = .ok (.aload_n 0, 1) := by decide +kernel
theorem dX9_look_27 : decode cX9_look 27 = .ok (.getfield 38, 3) := by decide +kernel
theorem dX9_look_30 : decode cX9_look 30 = .ok (.aload_n 0, 1) := by decide +kernel
theorem dX9_look_31 : decode cX9_look 31 = .ok (.getfield 28, 3) := by decide +kernel
theorem dX9_look_34 : decode cX9_look 34 = .ok (.iload_n 2, 1) := by decide +kernel
theorem dX9_look_35 : decode cX9_look 35 = .ok (.invokevirtual 138, 3) := by decide +kernel
theorem dX9_look_38 : decode cX9_look 38 = .ok (.iload_n 3, 1) := by decide +kernel
theorem dX9_look_39 : decode cX9_look 39 = .ok (.ifCond .ne 14, 3) := by decide +kernel
theorem dX9_look_42 : decode cX9_look 42 = .ok (.aload_n 0, 1) := by decide +kernel
theorem dX9_look_43 : decode cX9_look 43 = .ok (.getfield 38, 3) := by decide +kernel
theorem dX9_look_46 : decode cX9_look 46 = .ok (.iload_n 1, 1) := by decide +kernel
theorem dX9_look_47 : decode cX9_look 47 = .ok (.invokevirtual 157, 3) := by decide +kernel
theorem dX9_look_50 : decode cX9_look 50 = .ok (.goto 11, 3) := by decide +kernel
theorem dX9_look_53 : decode cX9_look 53 = .ok (.aload_n 0, 1) := by decide +kernel
theorem dX9_look_54 : decode cX9_look 54 = .ok (.getfield 38, 3) := by decide +kernel
theorem dX9_look_57 : decode cX9_look 57 = .ok (.iload_n 1, 1) := by decide +kernel
theorem dX9_look_58 : decode cX9_look 58 = .ok (.invokevirtual 160, 3) := by decide +kernel
theorem dX9_look_61 : decode cX9_look 61 = .ok (.ireturn, 1) := by decide +kernel
theorem dX9_spread_0 : decode cX9_spread 0 = .ok (.aload_n 0, 1) := by decide +kernel
theorem dX9_spread_1 : decode cX9_spread 1 = .ok (.getfield 19, 3) := by decide +kernel
theorem dX9_spread_4 : decode cX9_spread 4 = .ok (.iload_n 1, 1) := by decide +kernel
theorem dX9_spread_5 : decode cX9_spread 5 = .ok (.invokevirtual 145, 3) := by decide +kernel
theorem dX9_spread_8 : decode cX9_spread 8 = .ok (.ifCond .ne 5, 3) := by decide +kernel
theorem dX9_spread_11 : decode cX9_spread 11 = .ok (.iconst (-1), 1) := by decide +kernel
theorem dX9_spread_12 : decode cX9_spread 12 = .ok (.ireturn, 1) := by decide +kernel
theorem dX9_spread_13 : decode cX9_spread 13 = .ok (.aload_n 0, 1) := by decide +kernel
theorem dX9_spread_14 : decode cX9_spread 14 = .ok (.getfield 28, 3) := by decide +kernel
theorem dX9_spread_17 : decode cX9_spread 17 = .ok (.iload_n 1, 1) := by decide +kernel
theorem dX9_spread_18 : decode cX9_spread 18 = .ok (.invokevirtual 163, 3) := by decide +kernel
theorem dX9_spread_21 : decode cX9_spread 21 = .ok (.ifCond .ne 6, 3) := by decide +kernel
theorem dX9_spread_24 : decode cX9_spread 24 = .ok (.bipush (-3), 2) := by decide +kernel
theorem dX9_spread_26 : decode cX9_spread 26 = .ok (.ireturn, 1) := by decide +kernel
theorem dX9_spread_27 : decode cX9_spread 27 = .ok (.aload_n 0, 1) := by decide +kernel
theorem dX9_spread_28 : decode cX9_spread 28 = .ok (.getfield 61, 3) := by decide +kernel
theorem dX9_spread_31 : decode cX9_spread 31 = .ok (.aload_n 0, 1) := by decide +kernel
theorem dX9_spread_32 : decode cX9_spread 32 = .ok (.getfield 28, 3) := by decide +kernel
theorem dX9_spread_35 : decode cX9_spread 35 = .ok (.invokevirtual 166, 3) := by decide +kernel
theorem dX9_spread_38 : decode cX9_spread 38 = .ok (.aload_n 0, 1) := by decide +kernel
theorem dX9_spread_39 : decode cX9_spread 39 = .ok (.getfield 28, 3) := by decide +kernel
theorem dX9_spread_42 : decode cX9_spread 42 = .ok (.iload_n 1, 1) := by decide +kernel
theorem dX9_spread_43 : decode cX9_spread 43 = .ok (.invokevirtual 170, 3) := by decide +kernel
theorem dX9_spread_46 : decode cX9_spread 46 = .ok (.pop, 1) := by decide +kernel
theorem dX9_spread_47 : decode cX9_spread 47 = .ok (.aload_n 0, 1) := by decide +kernel
theorem dX9_spread_48 : decode cX9_spread 48 = .ok (.getfield 28, 3) := by decide +kernel
theorem dX9_spread_51 : decode cX9_spread 51 = .ok (.iload_n 1, 1) := by decide +kernel
theorem dX9_spread_52 : decode cX9_spread 52 = .ok (.invokevirtual 148, 3) := by decide +kernel
theorem dX9_spread_55 : decode cX9_spread 55 = .ok (.ireturn, 1) := by decide +kernel
theorem dX9_fold_0 : decode cX9_fold 0 = .ok (.aload_n 0, 1) := by decide +kernel
theorem dX9_fold_1 : decode cX9_fold 1 = .ok (.getfield 19, 3) := by decide +kernel
theorem dX9_fold_4 : decode cX9_fold 4 = .ok (.iload_n 1, 1) := by decide +kernel
theorem dX9_fold_5 : decode cX9_fold 5 = .ok (.invokevirtual 145, 3) := by decide +kernel
theorem dX9_fold_8 : decode cX9_fold 8 = .ok (.ifCond .ne 5, 3) := by decide +kernel
theorem dX9_fold_11 : decode cX9_fold 11 = .ok (.iconst (-1), 1) := by decide +kernel
theorem dX9_fold_12 : decode cX9_fold 12 = .ok (.ireturn, 1) := by decide +kernel
theorem dX9_fold_13 : decode cX9_fold 13 = .ok (.aload_n 0, 1) := by decide +kernel
theorem dX9_fold_14 : decode cX9_fold 14 = .ok (.getfield 28, 3) := by decide +kernel
theorem dX9_fold_17 : decode cX9_fold 17 = .ok (.iload_n 1, 1) := by decide +kernel
theorem dX9_fold_18 : decode cX9_fold 18 = .ok (.invokevirtual 173, 3) := by decide +kernel
theorem dX9_fold_21 : decode cX9_fold 21 = .ok (.ifCond .ne 6, 3) := by decide +kernel
theorem dX9_fold_24 : decode cX9_fold 24 = .ok (.bipush (-3), 2) := by decide +kernel
theorem dX9_fold_26 : decode cX9_fold 26 = .ok (.ireturn, 1) := by decide +kernel
theorem dX9_fold_27 : decode cX9_fold 27 = .ok (.aload_n 0, 1) := by decide +kernel
theorem dX9_fold_28 : decode cX9_fold 28 = .ok (.getfield 61, 3) := by decide +kernel
theorem dX9_fold_31 : decode cX9_fold 31 = .ok (.aload_n 0, 1) := by decide +kernel
theorem dX9_fold_32 : decode cX9_fold 32 = .ok (.getfield 28, 3) := by decide +kernel
theorem dX9_fold_35 : decode cX9_fold 35 = .ok (.invokevirtual 166, 3) := by decide +kernel
theorem dX9_fold_38 : decode cX9_fold 38 = .ok (.aload_n 0, 1) := by decide +kernel
theorem dX9_fold_39 : decode cX9_fold 39 = .ok (.getfield 28, 3) := by decide +kernel
theorem dX9_fold_42 : decode cX9_fold 42 = .ok (.iload_n 1, 1) := by decide +kernel
theorem dX9_fold_43 : decode cX9_fold 43 = .ok (.invokevirtual 176, 3) := by decide +kernel
theorem dX9_fold_46 : decode cX9_fold 46 = .ok (.pop, 1) := by decide +kernel
theorem dX9_fold_47 : decode cX9_fold 47 = .ok (.aload_n 0, 1) := by decide +kernel
theorem dX9_fold_48 : decode cX9_fold 48 = .ok (.getfield 28, 3) := by decide +kernel
theorem dX9_fold_51 : decode cX9_fold 51 = .ok (.iload_n 1, 1) := by decide +kernel
theorem dX9_fold_52 : decode cX9_fold 52 = .ok (.invokevirtual 148, 3) := by decide +kernel
theorem dX9_fold_55 : decode cX9_fold 55 = .ok (.ireturn, 1) := by decide +kernel
theorem dX9_fling_0 : decode cX9_fling 0 = .ok (.aload_n 0, 1) := by decide +kernel
theorem dX9_fling_1 : decode cX9_fling 1 = .ok (.getfield 61, 3) := by decide +kernel
theorem dX9_fling_4 : decode cX9_fling 4 = .ok (.aload_n 0, 1) := by decide +kernel
theorem dX9_fling_5 : decode cX9_fling 5 = .ok (.getfield 28, 3) := by decide +kernel
theorem dX9_fling_8 : decode cX9_fling 8 = .ok (.invokevirtual 166, 3) := by decide +kernel
theorem dX9_fling_11 : decode cX9_fling 11 = .ok (.aload_n 0, 1) := by decide +kernel
theorem dX9_fling_12 : decode cX9_fling 12 = .ok (.getfield 28, 3) := by decide +kernel
theorem dX9_fling_15 : decode cX9_fling 15 = .ok (.invokevirtual 179, 3) := by decide +kernel
theorem dX9_fling_18 : decode cX9_fling 18 = .ok (.ireturn, 1) := by decide +kernel
theorem dX9_snap_0 : decode cX9_snap 0 = .ok (.aload_n 0, 1) := by decide +kernel
theorem dX9_snap_1 : decode cX9_snap 1 = .ok (.getfield 61, 3) := by decide +kernel
theorem dX9_snap_4 : decode cX9_snap 4 = .ok (.aload_n 0, 1) := by decide +kernel
theorem dX9_snap_5 : decode cX9_snap 5 = .ok (.getfield 28, 3) := by decide +kernel
theorem dX9_snap_8 : decode cX9_snap 8 = .ok (.invokevirtual 166, 3) := by decide +kernel
theorem dX9_snap_11 : decode cX9_snap 11 = .ok (.aload_n 0, 1) := by decide +kernel
theorem dX9_snap_12 : decode cX9_snap 12 = .ok (.getfield 28, 3) := by decide +kernel
theorem dX9_snap_15 : decode cX9_snap 15 = .ok (.invokevirtual 182, 3) := by decide +kernel
theorem dX9_snap_18 : decode cX9_snap 18 = .ok (.istore_n 1, 1) := by decide +kernel
theorem dX9_snap_19 : decode cX9_snap 19 = .ok (.aload_n 0, 1) := by decide +kernel
theorem dX9_snap_20 : decode cX9_snap 20 = .ok (.getfield 28, 3) := by decide +kernel
theorem dX9_snap_23 : decode cX9_snap 23 = .ok (.invokevirtual 107, 3) := by decide +kernel
theorem dX9_snap_26 : decode cX9_snap 26 = .ok (.iload_n 1, 1) := by decide +kernel
theorem dX9_snap_27 : decode cX9_snap 27 = .ok (.ireturn, 1) := by decide +kernel
theorem dX9_undo_0 : decode cX9_undo 0 = .ok (.aload_n 0, 1) := by decide +kernel
theorem dX9_undo_1 : decode cX9_undo 1 = .ok (.getfield 61, 3) := by decide +kernel
theorem dX9_undo_4 : decode cX9_undo 4 = .ok (.aload_n 0, 1) := by decide +kernel
theorem dX9_undo_5 : decode cX9_undo 5 = .ok (.getfield 28, 3) := by decide +kernel
theorem dX9_undo_8 : decode cX9_undo 8 = .ok (.invokevirtual 185, 3) := by decide +kernel
theorem dX9_undo_11 : decode cX9_undo 11 = .ok (.ifCond .eq 13, 3) := by decide +kernel
theorem dX9_undo_14 : decode cX9_undo 14 = .ok (.aload_n 0, 1) := by decide +kernel
theorem dX9_undo_15 : decode cX9_undo 15 = .ok (.getfield 61, 3) := by decide +kernel
theorem dX9_undo_18 : decode cX9_undo 18 = .ok (.invokevirtual 189, 3) := by decide +kernel
theorem dX9_undo_21 : decode cX9_undo 21 = .ok (.goto 5, 3) := by decide +kernel
theorem dX9_undo_24 : decode cX9_undo 24 = .ok (.bipush (-3), 2) := by decide +kernel
theorem dX9_undo_26 : decode cX9_undo 26 = .ok (.ireturn, 1) := by decide +kernel
theorem dX9_reads_0 : decode cX9_reads 0 = .ok (.iload_n 1, 1) := by decide +kernel
theorem dX9_reads_1 : decode cX9_reads 1 = .ok (.invokestatic 154, 3) := by decide +kernel
theorem dX9_reads_4 : decode cX9_reads 4 = .ok (.ifCond .ne 6, 3) := by decide +kernel
theorem dX9_reads_7 : decode cX9_reads 7 = .ok (.bipush (-2), 2) := by decide +kernel
theorem dX9_reads_9 : decode cX9_reads 9 = .ok (.ireturn, 1) := by decide +kernel
theorem dX9_reads_10 : decode cX9_reads 10 = .ok (.aload_n 0, 1) := by decide +kernel
theorem dX9_reads_11 : decode cX9_reads 11 = .ok (.getfield 38, 3) := by decide +kernel
theorem dX9_reads_14 : decode cX9_reads 14 = .ok (.aload_n 0, 1) := by decide +kernel
theorem dX9_reads_15 : decode cX9_reads 15 = .ok (.getfield 28, 3) := by decide +kernel
theorem dX9_reads_18 : decode cX9_reads 18 = .ok (.iload_n 1, 1) := by decide +kernel
theorem dX9_reads_19 : decode cX9_reads 19 = .ok (.invokevirtual 138, 3) := by decide +kernel
theorem dX9_reads_22 : decode cX9_reads 22 = .ok (.aload_n 0, 1) := by decide +kernel
theorem dX9_reads_23 : decode cX9_reads 23 = .ok (.getfield 54, 3) := by decide +kernel
theorem dX9_reads_26 : decode cX9_reads 26 = .ok (.aload_n 0, 1) := by decide +kernel
theorem dX9_reads_27 : decode cX9_reads 27 = .ok (.getfield 38, 3) := by decide +kernel
theorem dX9_reads_30 : decode cX9_reads 30 = .ok (.invokevirtual 190, 3) := by decide +kernel
theorem dX9_reads_33 : decode cX9_reads 33 = .ok (.ireturn, 1) := by decide +kernel
theorem dX9_open_0 : decode cX9_open 0 = .ok (.iload_n 1, 1) := by decide +kernel
theorem dX9_open_1 : decode cX9_open 1 = .ok (.invokestatic 154, 3) := by decide +kernel
theorem dX9_open_4 : decode cX9_open 4 = .ok (.ifCond .eq 10, 3) := by decide +kernel
theorem dX9_open_7 : decode cX9_open 7 = .ok (.iload_n 2, 1) := by decide +kernel
theorem dX9_open_8 : decode cX9_open 8 = .ok (.invokestatic 154, 3) := by decide +kernel
theorem dX9_open_11 : decode cX9_open 11 = .ok (.ifCond .ne 6, 3) := by decide +kernel
theorem dX9_open_14 : decode cX9_open 14 = .ok (.bipush (-2), 2) := by decide +kernel
theorem dX9_open_16 : decode cX9_open 16 = .ok (.ireturn, 1) := by decide +kernel
theorem dX9_open_17 : decode cX9_open 17 = .ok (.bipush (-9), 2) := by decide +kernel
theorem dX9_open_19 : decode cX9_open 19 = .ok (.istore_n 3, 1) := by decide +kernel
theorem dX9_open_20 : decode cX9_open 20 = .ok (.bipush (-9), 2) := by decide +kernel
theorem dX9_open_22 : decode cX9_open 22 = .ok (.istore 4, 2) := by decide +kernel
theorem dX9_open_24 : decode cX9_open 24 = .ok (.iconst 1, 1) := by decide +kernel
theorem dX9_open_25 : decode cX9_open 25 = .ok (.istore 5, 2) := by decide +kernel
theorem dX9_open_27 : decode cX9_open 27 = .ok (.aload_n 0, 1) := by decide +kernel
theorem dX9_open_28 : decode cX9_open 28 = .ok (.getfield 47, 3) := by decide +kernel
theorem dX9_open_31 : decode cX9_open 31 = .ok (.iload_n 1, 1) := by decide +kernel
theorem dX9_open_32 : decode cX9_open 32 = .ok (.invokevirtual 194, 3) := by decide +kernel
theorem dX9_open_35 : decode cX9_open 35 = .ok (.iconst 0, 1) := by decide +kernel
theorem dX9_open_36 : decode cX9_open 36 = .ok (.istore 6, 2) := by decide +kernel
theorem dX9_open_38 : decode cX9_open 38 = .ok (.iload 5, 2) := by decide +kernel
theorem dX9_open_40 : decode cX9_open 40 = .ok (.ifCond .eq 77, 3) := by decide +kernel
theorem dX9_open_43 : decode cX9_open 43 = .ok (.iload 6, 2) := by decide +kernel
theorem dX9_open_45 : decode cX9_open 45 = .ok (.sipush 3125, 3) := by decide +kernel
theorem dX9_open_48 : decode cX9_open 48 = .ok (.if_icmp .ge 69, 3) := by decide +kernel
theorem dX9_open_51 : decode cX9_open 51 = .ok (.aload_n 0, 1) := by decide +kernel
theorem dX9_open_52 : decode cX9_open 52 = .ok (.getfield 32, 3) := by decide +kernel
theorem dX9_open_55 : decode cX9_open 55 = .ok (.aload_n 0, 1) := by decide +kernel
theorem dX9_open_56 : decode cX9_open 56 = .ok (.getfield 28, 3) := by decide +kernel
theorem dX9_open_59 : decode cX9_open 59 = .ok (.invokevirtual 198, 3) := by decide +kernel
theorem dX9_open_62 : decode cX9_open 62 = .ok (.istore 7, 2) := by decide +kernel
theorem dX9_open_64 : decode cX9_open 64 = .ok (.iload_n 3, 1) := by decide +kernel
theorem dX9_open_65 : decode cX9_open 65 = .ok (.bipush (-9), 2) := by decide +kernel
theorem dX9_open_67 : decode cX9_open 67 = .ok (.if_icmp .eq 9, 3) := by decide +kernel
theorem dX9_open_70 : decode cX9_open 70 = .ok (.iload 7, 2) := by decide +kernel
theorem dX9_open_72 : decode cX9_open 72 = .ok (.iload_n 3, 1) := by decide +kernel
theorem dX9_open_73 : decode cX9_open 73 = .ok (.if_icmp .ge 29, 3) := by decide +kernel
theorem dX9_open_76 : decode cX9_open 76 = .ok (.aload_n 0, 1) := by decide +kernel
theorem dX9_open_77 : decode cX9_open 77 = .ok (.getfield 54, 3) := by decide +kernel
theorem dX9_open_80 : decode cX9_open 80 = .ok (.aload_n 0, 1) := by decide +kernel
theorem dX9_open_81 : decode cX9_open 81 = .ok (.getfield 38, 3) := by decide +kernel
theorem dX9_open_84 : decode cX9_open 84 = .ok (.invokevirtual 202, 3) := by decide +kernel
theorem dX9_open_87 : decode cX9_open 87 = .ok (.ifCond .eq 15, 3) := by decide +kernel
theorem dX9_open_90 : decode cX9_open 90 = .ok (.iload 7, 2) := by decide +kernel
theorem dX9_open_92 : decode cX9_open 92 = .ok (.istore_n 3, 1) := by decide +kernel
theorem dX9_open_93 : decode cX9_open 93 = .ok (.aload_n 0, 1) := by decide +kernel
theorem dX9_open_94 : decode cX9_open 94 = .ok (.getfield 32, 3) := by decide +kernel
theorem dX9_open_97 : decode cX9_open 97 = .ok (.invokevirtual 206, 3) := by decide +kernel
theorem dX9_open_100 : decode cX9_open 100 = .ok (.istore 4, 2) := by decide +kernel
theorem dX9_open_102 : decode cX9_open 102 = .ok (.aload_n 0, 1) := by decide +kernel
theorem dX9_open_103 : decode cX9_open 103 = .ok (.getfield 47, 3) := by decide +kernel
theorem dX9_open_106 : decode cX9_open 106 = .ok (.invokevirtual 209, 3) := by decide +kernel
theorem dX9_open_109 : decode cX9_open 109 = .ok (.istore 5, 2) := by decide +kernel
theorem dX9_open_111 : decode cX9_open 111 = .ok (.iinc 6 1, 3) := by decide +kernel
theorem dX9_open_114 : decode cX9_open 114 = .ok (.goto (-76), 3) := by decide +kernel
theorem dX9_open_117 : decode cX9_open 117 = .ok (.iload_n 2, 1) := by decide +kernel
theorem dX9_open_118 : decode cX9_open 118 = .ok (.ifCond .ne 7, 3) := by decide +kernel
theorem dX9_open_121 : decode cX9_open 121 = .ok (.iload_n 3, 1) := by decide +kernel
theorem dX9_open_122 : decode cX9_open 122 = .ok (.goto 5, 3) := by decide +kernel
theorem dX9_open_125 : decode cX9_open 125 = .ok (.iload 4, 2) := by decide +kernel
theorem dX9_open_127 : decode cX9_open 127 = .ok (.ireturn, 1) := by decide +kernel
theorem dX9_most_0 : decode cX9_most 0 = .ok (.iload_n 1, 1) := by decide +kernel
theorem dX9_most_1 : decode cX9_most 1 = .ok (.invokestatic 213, 3) := by decide +kernel
theorem dX9_most_4 : decode cX9_most 4 = .ok (.ifCond .eq 10, 3) := by decide +kernel
theorem dX9_most_7 : decode cX9_most 7 = .ok (.iload_n 2, 1) := by decide +kernel
theorem dX9_most_8 : decode cX9_most 8 = .ok (.invokestatic 154, 3) := by decide +kernel
theorem dX9_most_11 : decode cX9_most 11 = .ok (.ifCond .ne 6, 3) := by decide +kernel
theorem dX9_most_14 : decode cX9_most 14 = .ok (.bipush (-2), 2) := by decide +kernel
theorem dX9_most_16 : decode cX9_most 16 = .ok (.ireturn, 1) := by decide +kernel
theorem dX9_most_17 : decode cX9_most 17 = .ok (.bipush (-9), 2) := by decide +kernel
theorem dX9_most_19 : decode cX9_most 19 = .ok (.istore_n 3, 1) := by decide +kernel
theorem dX9_most_20 : decode cX9_most 20 = .ok (.bipush (-9), 2) := by decide +kernel
theorem dX9_most_22 : decode cX9_most 22 = .ok (.istore 4, 2) := by decide +kernel
theorem dX9_most_24 : decode cX9_most 24 = .ok (.iconst 1, 1) := by decide +kernel
theorem dX9_most_25 : decode cX9_most 25 = .ok (.istore 5, 2) := by decide +kernel
theorem dX9_most_27 : decode cX9_most 27 = .ok (.aload_n 0, 1) := by decide +kernel
theorem dX9_most_28 : decode cX9_most 28 = .ok (.getfield 47, 3) := by decide +kernel
theorem dX9_most_31 : decode cX9_most 31 = .ok (.iconst 0, 1) := by decide +kernel
theorem dX9_most_32 : decode cX9_most 32 = .ok (.invokevirtual 194, 3) := by decide +kernel
theorem dX9_most_35 : decode cX9_most 35 = .ok (.iconst 0, 1) := by decide +kernel
theorem dX9_most_36 : decode cX9_most 36 = .ok (.istore 6, 2) := by decide +kernel
theorem dX9_most_38 : decode cX9_most 38 = .ok (.iload 5, 2) := by decide +kernel
theorem dX9_most_40 : decode cX9_most 40 = .ok (.ifCond .eq 54, 3) := by decide +kernel
theorem dX9_most_43 : decode cX9_most 43 = .ok (.iload 6, 2) := by decide +kernel
theorem dX9_most_45 : decode cX9_most 45 = .ok (.sipush 3125, 3) := by decide +kernel
theorem dX9_most_48 : decode cX9_most 48 = .ok (.if_icmp .ge 46, 3) := by decide +kernel
theorem dX9_most_51 : decode cX9_most 51 = .ok (.aload_n 0, 1) := by decide +kernel
theorem dX9_most_52 : decode cX9_most 52 = .ok (.getfield 38, 3) := by decide +kernel
theorem dX9_most_55 : decode cX9_most 55 = .ok (.iload_n 1, 1) := by decide +kernel
theorem dX9_most_56 : decode cX9_most 56 = .ok (.invokevirtual 216, 3) := by decide +kernel
theorem dX9_most_59 : decode cX9_most 59 = .ok (.istore 7, 2) := by decide +kernel
theorem dX9_most_61 : decode cX9_most 61 = .ok (.iload 7, 2) := by decide +kernel
theorem dX9_most_63 : decode cX9_most 63 = .ok (.iload_n 3, 1) := by decide +kernel
theorem dX9_most_64 : decode cX9_most 64 = .ok (.if_icmp .le 15, 3) := by decide +kernel
theorem dX9_most_67 : decode cX9_most 67 = .ok (.iload 7, 2) := by decide +kernel
theorem dX9_most_69 : decode cX9_most 69 = .ok (.istore_n 3, 1) := by decide +kernel
theorem dX9_most_70 : decode cX9_most 70 = .ok (.aload_n 0, 1) := by decide +kernel
theorem dX9_most_71 : decode cX9_most 71 = .ok (.getfield 32, 3) := by decide +kernel
theorem dX9_most_74 : decode cX9_most 74 = .ok (.invokevirtual 206, 3) := by decide +kernel
theorem dX9_most_77 : decode cX9_most 77 = .ok (.istore 4, 2) := by decide +kernel
theorem dX9_most_79 : decode cX9_most 79 = .ok (.aload_n 0, 1) := by decide +kernel
theorem dX9_most_80 : decode cX9_most 80 = .ok (.getfield 47, 3) := by decide +kernel
theorem dX9_most_83 : decode cX9_most 83 = .ok (.invokevirtual 209, 3) := by decide +kernel
theorem dX9_most_86 : decode cX9_most 86 = .ok (.istore 5, 2) := by decide +kernel
theorem dX9_most_88 : decode cX9_most 88 = .ok (.iinc 6 1, 3) := by decide +kernel
theorem dX9_most_91 : decode cX9_most 91 = .ok (.goto (-53), 3) := by decide +kernel
theorem dX9_most_94 : decode cX9_most 94 = .ok (.iload_n 2, 1) := by decide +kernel
theorem dX9_most_95 : decode cX9_most 95 = .ok (.ifCond .ne 7, 3) := by decide +kernel
theorem dX9_most_98 : decode cX9_most 98 = .ok (.iload_n 3, 1) := by decide +kernel
theorem dX9_most_99 : decode cX9_most 99 = .ok (.goto 5, 3) := by decide +kernel
theorem dX9_most_102 : decode cX9_most 102 = .ok (.iload 4, 2) := by decide +kernel
theorem dX9_most_104 : decode cX9_most 104 = .ok (.ireturn, 1) := by decide +kernel
theorem dX9_judge_0 : decode cX9_judge 0 = .ok (.iload_n 1, 1) := by decide +kernel
theorem dX9_judge_1 : decode cX9_judge 1 = .ok (.iconst 1, 1) := by decide +kernel
theorem dX9_judge_2 : decode cX9_judge 2 = .ok (.if_icmp .lt 18, 3) := by decide +kernel
theorem dX9_judge_5 : decode cX9_judge 5 = .ok (.iload_n 1, 1) := by decide +kernel
theorem dX9_judge_6 : decode cX9_judge 6 = .ok (.iconst 4, 1) := by decide +kernel
theorem dX9_judge_7 : decode cX9_judge 7 = .ok (.if_icmp .gt 13, 3) := by decide +kernel
theorem dX9_judge_10 : decode cX9_judge 10 = .ok (.lload_n 2, 1) := by decide +kernel
theorem dX9_judge_11 : decode cX9_judge 11 = .ok (.iconst 3, 1) := by decide +kernel
theorem dX9_judge_12 : decode cX9_judge 12 = .ok (.iload_n 1, 1) := by decide +kernel
theorem dX9_judge_13 : decode cX9_judge 13 = .ok (.imul, 1) := by decide +kernel
theorem dX9_judge_14 : decode cX9_judge 14 = .ok (.invokestatic 113, 3) := by decide +kernel
theorem dX9_judge_17 : decode cX9_judge 17 = .ok (.ifCond .ne 6, 3) := by decide +kernel
theorem dX9_judge_20 : decode cX9_judge 20 = .ok (.bipush (-2), 2) := by decide +kernel
theorem dX9_judge_22 : decode cX9_judge 22 = .ok (.ireturn, 1) := by decide +kernel
theorem dX9_judge_23 : decode cX9_judge 23 = .ok (.lload_n 2, 1) := by decide +kernel
theorem dX9_judge_24 : decode cX9_judge 24 = .ok (.lstore 4, 2) := by decide +kernel
theorem dX9_judge_26 : decode cX9_judge 26 = .ok (.iload_n 1, 1) := by decide +kernel
theorem dX9_judge_27 : decode cX9_judge 27 = .ok (.iconst 1, 1) := by decide +kernel
theorem dX9_judge_28 : decode cX9_judge 28 = .ok (.isub, 1) := by decide +kernel
theorem dX9_judge_29 : decode cX9_judge 29 = .ok (.istore 6, 2) := by decide +kernel
theorem dX9_judge_31 : decode cX9_judge 31 = .ok (.iload 6, 2) := by decide +kernel
theorem dX9_judge_33 : decode cX9_judge 33 = .ok (.ifCond .lt 31, 3) := by decide +kernel
theorem dX9_judge_36 : decode cX9_judge 36 = .ok (.aload_n 0, 1) := by decide +kernel
theorem dX9_judge_37 : decode cX9_judge 37 = .ok (.getfield 86, 3) := by decide +kernel
theorem dX9_judge_40 : decode cX9_judge 40 = .ok (.iload 6, 2) := by decide +kernel
theorem dX9_judge_42 : decode cX9_judge 42 = .ok (.lload 4, 2) := by decide +kernel
theorem dX9_judge_44 : decode cX9_judge 44 = .ok (.ldc2_w 219, 3) := by decide +kernel
theorem dX9_judge_47 : decode cX9_judge 47 = .ok (.lrem, 1) := by decide +kernel
theorem dX9_judge_48 : decode cX9_judge 48 = .ok (.l2i, 1) := by decide +kernel
theorem dX9_judge_49 : decode cX9_judge 49 = .ok (.iastore, 1) := by decide +kernel
theorem dX9_judge_50 : decode cX9_judge 50 = .ok (.lload 4, 2) := by decide +kernel
theorem dX9_judge_52 : decode cX9_judge 52 = .ok (.ldc2_w 219, 3) := by decide +kernel
theorem dX9_judge_55 : decode cX9_judge 55 = .ok (.ldiv, 1) := by decide +kernel
theorem dX9_judge_56 : decode cX9_judge 56 = .ok (.lstore 4, 2) := by decide +kernel
theorem dX9_judge_58 : decode cX9_judge 58 = .ok (.iinc 6 (-1), 3) := by decide +kernel
theorem dX9_judge_61 : decode cX9_judge 61 = .ok (.goto (-30), 3) := by decide +kernel
theorem dX9_judge_64 : decode cX9_judge 64 = .ok (.aload_n 0, 1) := by decide +kernel
theorem dX9_judge_65 : decode cX9_judge 65 = .ok (.getfield 32, 3) := by decide +kernel
theorem dX9_judge_68 : decode cX9_judge 68 = .ok (.aload_n 0, 1) := by decide +kernel
theorem dX9_judge_69 : decode cX9_judge 69 = .ok (.getfield 28, 3) := by decide +kernel
theorem dX9_judge_72 : decode cX9_judge 72 = .ok (.invokevirtual 221, 3) := by decide +kernel
theorem dX9_judge_75 : decode cX9_judge 75 = .ok (.iconst 0, 1) := by decide +kernel
theorem dX9_judge_76 : decode cX9_judge 76 = .ok (.istore 6, 2) := by decide +kernel
theorem dX9_judge_78 : decode cX9_judge 78 = .ok (.iload 6, 2) := by decide +kernel
theorem dX9_judge_80 : decode cX9_judge 80 = .ok (.iload_n 1, 1) := by decide +kernel
theorem dX9_judge_81 : decode cX9_judge 81 = .ok (.if_icmp .ge 46, 3) := by decide +kernel
theorem dX9_judge_84 : decode cX9_judge 84 = .ok (.aload_n 0, 1) := by decide +kernel
theorem dX9_judge_85 : decode cX9_judge 85 = .ok (.getfield 86, 3) := by decide +kernel
theorem dX9_judge_88 : decode cX9_judge 88 = .ok (.iload 6, 2) := by decide +kernel
theorem dX9_judge_90 : decode cX9_judge 90 = .ok (.iaload, 1) := by decide +kernel
theorem dX9_judge_91 : decode cX9_judge 91 = .ok (.istore 7, 2) := by decide +kernel
theorem dX9_judge_93 : decode cX9_judge 93 = .ok (.aload_n 0, 1) := by decide +kernel
theorem dX9_judge_94 : decode cX9_judge 94 = .ok (.iload 7, 2) := by decide +kernel
theorem dX9_judge_96 : decode cX9_judge 96 = .ok (.bipush 100, 2) := by decide +kernel
theorem dX9_judge_98 : decode cX9_judge 98 = .ok (.idiv, 1) := by decide +kernel
theorem dX9_judge_99 : decode cX9_judge 99 = .ok (.iload 7, 2) := by decide +kernel
theorem dX9_judge_101 : decode cX9_judge 101 = .ok (.bipush 10, 2) := by decide +kernel
theorem dX9_judge_103 : decode cX9_judge 103 = .ok (.idiv, 1) := by decide +kernel
theorem dX9_judge_104 : decode cX9_judge 104 = .ok (.bipush 10, 2) := by decide +kernel
theorem dX9_judge_106 : decode cX9_judge 106 = .ok (.irem, 1) := by decide +kernel
theorem dX9_judge_107 : decode cX9_judge 107 = .ok (.iload 7, 2) := by decide +kernel
theorem dX9_judge_109 : decode cX9_judge 109 = .ok (.bipush 10, 2) := by decide +kernel
theorem dX9_judge_111 : decode cX9_judge 111 = .ok (.irem, 1) := by decide +kernel
theorem dX9_judge_112 : decode cX9_judge 112 = .ok (.invokevirtual 224, 3) := by decide +kernel
theorem dX9_judge_115 : decode cX9_judge 115 = .ok (.ifCond .ne 6, 3) := by decide +kernel
theorem dX9_judge_118 : decode cX9_judge 118 = .ok (.iload 6, 2) := by decide +kernel
theorem dX9_judge_120 : decode cX9_judge 120 = .ok (.ireturn, 1) := by decide +kernel
theorem dX9_judge_121 : decode cX9_judge 121 = .ok (.iinc 6 1, 3) := by decide +kernel
theorem dX9_judge_124 : decode cX9_judge 124 = .ok (.goto (-46), 3) := by decide +kernel
theorem dX9_judge_127 : decode cX9_judge 127 = .ok (.bipush (-9), 2) := by decide +kernel
theorem dX9_judge_129 : decode cX9_judge 129 = .ok (.ireturn, 1) := by decide +kernel
theorem dX9_spy_0 : decode cX9_spy 0 = .ok (.iload_n 1, 1) := by decide +kernel
theorem dX9_spy_1 : decode cX9_spy 1 = .ok (.invokestatic 151, 3) := by decide +kernel
theorem dX9_spy_4 : decode cX9_spy 4 = .ok (.ifCond .ne 5, 3) := by decide +kernel
theorem dX9_spy_7 : decode cX9_spy 7 = .ok (.iconst (-1), 1) := by decide +kernel
theorem dX9_spy_8 : decode cX9_spy 8 = .ok (.ireturn, 1) := by decide +kernel
theorem dX9_spy_9 : decode cX9_spy 9 = .ok (.iload_n 2, 1) := by decide +kernel
theorem dX9_spy_10 : decode cX9_spy 10 = .ok (.invokestatic 213, 3) := by decide +kernel
theorem dX9_spy_13 : decode cX9_spy 13 = .ok (.ifCond .eq 10, 3) := by decide +kernel
theorem dX9_spy_16 : decode cX9_spy 16 = .ok (.iload_n 3, 1) := by decide +kernel
theorem dX9_spy_17 : decode cX9_spy 17 = .ok (.invokestatic 154, 3) := by decide +kernel
theorem dX9_spy_20 : decode cX9_spy 20 = .ok (.ifCond .ne 6, 3) := by decide +kernel
theorem dX9_spy_23 : decode cX9_spy 23 = .ok (.bipush (-2), 2) := by decide +kernel
theorem dX9_spy_25 : decode cX9_spy 25 = .ok (.ireturn, 1) := by decide +kernel
theorem dX9_spy_26 : decode cX9_spy 26 = .ok (.aload_n 0, 1) := by decide +kernel
theorem dX9_spy_27 : decode cX9_spy 27 = .ok (.getfield 75, 3) := by decide +kernel
theorem dX9_spy_30 : decode cX9_spy 30 = .ok (.iload_n 1, 1) := by decide +kernel
theorem dX9_spy_31 : decode cX9_spy 31 = .ok (.iload_n 2, 1) := by decide +kernel
theorem dX9_spy_32 : decode cX9_spy 32 = .ok (.iload_n 3, 1) := by decide +kernel
theorem dX9_spy_33 : decode cX9_spy 33 = .ok (.iconst 1, 1) := by decide +kernel
theorem dX9_spy_34 : decode cX9_spy 34 = .ok (.if_icmp .ne 7, 3) := by decide +kernel
theorem dX9_spy_37 : decode cX9_spy 37 = .ok (.iconst 1, 1) := by decide +kernel
theorem dX9_spy_38 : decode cX9_spy 38 = .ok (.goto 4, 3) := by decide +kernel
theorem dX9_spy_41 : decode cX9_spy 41 = .ok (.iconst 0, 1) := by decide +kernel
theorem dX9_spy_42 : decode cX9_spy 42 = .ok (.invokevirtual 228, 3) := by decide +kernel
theorem dX9_spy_45 : decode cX9_spy 45 = .ok (.ifCond .eq 13, 3) := by decide +kernel
theorem dX9_spy_48 : decode cX9_spy 48 = .ok (.aload_n 0, 1) := by decide +kernel
theorem dX9_spy_49 : decode cX9_spy 49 = .ok (.getfield 75, 3) := by decide +kernel
theorem dX9_spy_52 : decode cX9_spy 52 = .ok (.invokevirtual 232, 3) := by decide +kernel
theorem dX9_spy_55 : decode cX9_spy 55 = .ok (.goto 5, 3) := by decide +kernel
theorem dX9_spy_58 : decode cX9_spy 58 = .ok (.bipush (-4), 2) := by decide +kernel
theorem dX9_spy_60 : decode cX9_spy 60 = .ok (.ireturn, 1) := by decide +kernel
theorem dX9_unspy_0 : decode cX9_unspy 0 = .ok (.aload_n 0, 1) := by decide +kernel
theorem dX9_unspy_1 : decode cX9_unspy 1 = .ok (.getfield 75, 3) := by decide +kernel
theorem dX9_unspy_4 : decode cX9_unspy 4 = .ok (.invokevirtual 232, 3) := by decide +kernel
theorem dX9_unspy_7 : decode cX9_unspy 7 = .ok (.istore_n 1, 1) := by decide +kernel
theorem dX9_unspy_8 : decode cX9_unspy 8 = .ok (.aload_n 0, 1) := by decide +kernel
theorem dX9_unspy_9 : decode cX9_unspy 9 = .ok (.getfield 75, 3) := by decide +kernel
theorem dX9_unspy_12 : decode cX9_unspy 12 = .ok (.invokevirtual 233, 3) := by decide +kernel
theorem dX9_unspy_15 : decode cX9_unspy 15 = .ok (.iload_n 1, 1) := by decide +kernel
theorem dX9_unspy_16 : decode cX9_unspy 16 = .ok (.ireturn, 1) := by decide +kernel
theorem dX9_gaps_0 : decode cX9_gaps 0 = .ok (.iload_n 1, 1) := by decide +kernel
theorem dX9_gaps_1 : decode cX9_gaps 1 = .ok (.invokestatic 154, 3) := by decide +kernel
theorem dX9_gaps_4 : decode cX9_gaps 4 = .ok (.ifCond .ne 6, 3) := by decide +kernel
theorem dX9_gaps_7 : decode cX9_gaps 7 = .ok (.bipush (-2), 2) := by decide +kernel
theorem dX9_gaps_9 : decode cX9_gaps 9 = .ok (.ireturn, 1) := by decide +kernel
theorem dX9_gaps_10 : decode cX9_gaps 10 = .ok (.iconst 0, 1) := by decide +kernel
theorem dX9_gaps_11 : decode cX9_gaps 11 = .ok (.istore_n 2, 1) := by decide +kernel
theorem dX9_gaps_12 : decode cX9_gaps 12 = .ok (.bipush (-9), 2) := by decide +kernel
theorem dX9_gaps_14 : decode cX9_gaps 14 = .ok (.istore_n 3, 1) := by decide +kernel
theorem dX9_gaps_15 : decode cX9_gaps 15 = .ok (.iconst 1, 1) := by decide +kernel
theorem dX9_gaps_16 : decode cX9_gaps 16 = .ok (.istore 4, 2) := by decide +kernel
theorem dX9_gaps_18 : decode cX9_gaps 18 = .ok (.aload_n 0, 1) := by decide +kernel
theorem dX9_gaps_19 : decode cX9_gaps 19 = .ok (.getfield 47, 3) := by decide +kernel
theorem dX9_gaps_22 : decode cX9_gaps 22 = .ok (.iconst 0, 1) := by decide +kernel
theorem dX9_gaps_23 : decode cX9_gaps 23 = .ok (.invokevirtual 194, 3) := by decide +kernel
theorem dX9_gaps_26 : decode cX9_gaps 26 = .ok (.iconst 0, 1) := by decide +kernel
theorem dX9_gaps_27 : decode cX9_gaps 27 = .ok (.istore 5, 2) := by decide +kernel
theorem dX9_gaps_29 : decode cX9_gaps 29 = .ok (.iload 4, 2) := by decide +kernel
theorem dX9_gaps_31 : decode cX9_gaps 31 = .ok (.ifCond .eq 57, 3) := by decide +kernel
theorem dX9_gaps_34 : decode cX9_gaps 34 = .ok (.iload 5, 2) := by decide +kernel
theorem dX9_gaps_36 : decode cX9_gaps 36 = .ok (.sipush 3125, 3) := by decide +kernel
theorem dX9_gaps_39 : decode cX9_gaps 39 = .ok (.if_icmp .ge 49, 3) := by decide +kernel
theorem dX9_gaps_42 : decode cX9_gaps 42 = .ok (.aload_n 0, 1) := by decide +kernel
theorem dX9_gaps_43 : decode cX9_gaps 43 = .ok (.getfield 75, 3) := by decide +kernel
theorem dX9_gaps_46 : decode cX9_gaps 46 = .ok (.aload_n 0, 1) := by decide +kernel
theorem dX9_gaps_47 : decode cX9_gaps 47 = .ok (.getfield 38, 3) := by decide +kernel
theorem dX9_gaps_50 : decode cX9_gaps 50 = .ok (.invokevirtual 234, 3) := by decide +kernel
theorem dX9_gaps_53 : decode cX9_gaps 53 = .ok (.ifCond .eq 20, 3) := by decide +kernel
theorem dX9_gaps_56 : decode cX9_gaps 56 = .ok (.iinc 2 1, 3) := by decide +kernel
theorem dX9_gaps_59 : decode cX9_gaps 59 = .ok (.iload_n 3, 1) := by decide +kernel
theorem dX9_gaps_60 : decode cX9_gaps 60 = .ok (.bipush (-9), 2) := by decide +kernel
theorem dX9_gaps_62 : decode cX9_gaps 62 = .ok (.if_icmp .ne 11, 3) := by decide +kernel
theorem dX9_gaps_65 : decode cX9_gaps 65 = .ok (.aload_n 0, 1) := by decide +kernel
theorem dX9_gaps_66 : decode cX9_gaps 66 = .ok (.getfield 32, 3) := by decide +kernel
theorem dX9_gaps_69 : decode cX9_gaps 69 = .ok (.invokevirtual 206, 3) := by decide +kernel
theorem dX9_gaps_72 : decode cX9_gaps 72 = .ok (.istore_n 3, 1) := by decide +kernel
theorem dX9_gaps_73 : decode cX9_gaps 73 = .ok (.aload_n 0, 1) := by decide +kernel
theorem dX9_gaps_74 : decode cX9_gaps 74 = .ok (.getfield 47, 3) := by decide +kernel
theorem dX9_gaps_77 : decode cX9_gaps 77 = .ok (.invokevirtual 209, 3) := by decide +kernel
theorem dX9_gaps_80 : decode cX9_gaps 80 = .ok (.istore 4, 2) := by decide +kernel
theorem dX9_gaps_82 : decode cX9_gaps 82 = .ok (.iinc 5 1, 3) := by decide +kernel
theorem dX9_gaps_85 : decode cX9_gaps 85 = .ok (.goto (-56), 3) := by decide +kernel
theorem dX9_gaps_88 : decode cX9_gaps 88 = .ok (.iload_n 1, 1) := by decide +kernel
theorem dX9_gaps_89 : decode cX9_gaps 89 = .ok (.ifCond .ne 7, 3) := by decide +kernel
theorem dX9_gaps_92 : decode cX9_gaps 92 = .ok (.iload_n 2, 1) := by decide +kernel
theorem dX9_gaps_93 : decode cX9_gaps 93 = .ok (.goto 4, 3) := by decide +kernel
theorem dX9_gaps_96 : decode cX9_gaps 96 = .ok (.iload_n 3, 1) := by decide +kernel
theorem dX9_gaps_97 : decode cX9_gaps 97 = .ok (.ireturn, 1) := by decide +kernel
theorem dX9_share_0 : decode cX9_share 0 = .ok (.aload_n 0, 1) := by decide +kernel
theorem dX9_share_1 : decode cX9_share 1 = .ok (.getfield 19, 3) := by decide +kernel
theorem dX9_share_4 : decode cX9_share 4 = .ok (.iload_n 1, 1) := by decide +kernel
theorem dX9_share_5 : decode cX9_share 5 = .ok (.invokevirtual 125, 3) := by decide +kernel
theorem dX9_share_8 : decode cX9_share 8 = .ok (.ifCond .ne 5, 3) := by decide +kernel
theorem dX9_share_11 : decode cX9_share 11 = .ok (.iconst (-1), 1) := by decide +kernel
theorem dX9_share_12 : decode cX9_share 12 = .ok (.ireturn, 1) := by decide +kernel
theorem dX9_share_13 : decode cX9_share 13 = .ok (.iconst 0, 1) := by decide +kernel
