theorem dX0_init_0 : decode cX0_init 0 = .ok (.aload_n 0, 1) := by decide +kernel
theorem dX0_init_1 : decode cX0_init 1 = .ok (.invokespecial 3, 3) := by decide +kernel
theorem dX0_init_4 : decode cX0_init 4 = .ok (.aload_n 0, 1) := by decide +kernel
theorem dX0_init_5 : decode cX0_init 5 = .ok (.bipush 14, 2) := by decide +kernel
theorem dX0_init_7 : decode cX0_init 7 = .ok (.iconst 5, 1) := by decide +kernel
theorem dX0_init_8 : decode cX0_init 8 = .ok (.multianewarray 9 2, 4) := by decide +kernel
theorem dX0_init_12 : decode cX0_init 12 = .ok (.putfield 11, 3) := by decide +kernel
theorem dX0_init_15 : decode cX0_init 15 = .ok (.return_, 1) := by decide +kernel
theorem dX0_size_0 : decode cX0_size 0 = .ok (.aload_n 0, 1) := by decide +kernel
theorem dX0_size_1 : decode cX0_size 1 = .ok (.getfield 16, 3) := by decide +kernel
theorem dX0_size_4 : decode cX0_size 4 = .ok (.ireturn, 1) := by decide +kernel
theorem dX0_clear_0 : decode cX0_clear 0 = .ok (.aload_n 0, 1) := by decide +kernel
theorem dX0_clear_1 : decode cX0_clear 1 = .ok (.iconst 0, 1) := by decide +kernel
theorem dX0_clear_2 : decode cX0_clear 2 = .ok (.putfield 16, 3) := by decide +kernel
theorem dX0_clear_5 : decode cX0_clear 5 = .ok (.return_, 1) := by decide +kernel
theorem dX0_remember_0 : decode cX0_remember 0 = .ok (.aload_n 0, 1) := by decide +kernel
theorem dX0_remember_1 : decode cX0_remember 1 = .ok (.getfield 16, 3) := by decide +kernel
theorem dX0_remember_4 : decode cX0_remember 4 = .ok (.bipush 14, 2) := by decide +kernel
theorem dX0_remember_6 : decode cX0_remember 6 = .ok (.if_icmp .lt 7, 3) := by decide +kernel
theorem dX0_remember_9 : decode cX0_remember 9 = .ok (.aload_n 0, 1) := by decide +kernel
theorem dX0_remember_10 : decode cX0_remember 10 = .ok (.invokevirtual 20, 3) := by decide +kernel
theorem dX0_remember_13 : decode cX0_remember 13 = .ok (.aload_n 1, 1) := by decide +kernel
theorem dX0_remember_14 : decode cX0_remember 14 = .ok (.aload_n 0, 1) := by decide +kernel
theorem dX0_remember_15 : decode cX0_remember 15 = .ok (.getfield 11, 3) := by decide +kernel
theorem dX0_remember_18 : decode cX0_remember 18 = .ok (.aload_n 0, 1) := by decide +kernel
theorem dX0_remember_19 : decode cX0_remember 19 = .ok (.getfield 16, 3) := by decide +kernel
theorem dX0_remember_22 : decode cX0_remember 22 = .ok (.aaload, 1) := by decide +kernel
theorem dX0_remember_23 : decode cX0_remember 23 = .ok (.invokevirtual 23, 3) := by decide +kernel
theorem dX0_remember_26 : decode cX0_remember 26 = .ok (.aload_n 0, 1) := by decide +kernel
theorem dX0_remember_27 : decode cX0_remember 27 = .ok (.dup, 1) := by decide +kernel
theorem dX0_remember_28 : decode cX0_remember 28 = .ok (.getfield 16, 3) := by decide +kernel
theorem dX0_remember_31 : decode cX0_remember 31 = .ok (.iconst 1, 1) := by decide +kernel
theorem dX0_remember_32 : decode cX0_remember 32 = .ok (.iadd, 1) := by decide +kernel
theorem dX0_remember_33 : decode cX0_remember 33 = .ok (.putfield 16, 3) := by decide +kernel
theorem dX0_remember_36 : decode cX0_remember 36 = .ok (.return_, 1) := by decide +kernel
theorem dX0_forgetFirst_0 : decode cX0_forgetFirst 0 = .ok (.iconst 1, 1) := by decide +kernel
theorem dX0_forgetFirst_1 : decode cX0_forgetFirst 1 = .ok (.istore_n 1, 1) := by decide +kernel
theorem dX0_forgetFirst_2 : decode cX0_forgetFirst 2 = .ok (.iload_n 1, 1) := by decide +kernel
theorem dX0_forgetFirst_3 : decode cX0_forgetFirst 3 = .ok (.bipush 14, 2) := by decide +kernel
theorem dX0_forgetFirst_5 : decode cX0_forgetFirst 5 = .ok (.if_icmp .ge 29, 3) := by decide +kernel
theorem dX0_forgetFirst_8 : decode cX0_forgetFirst 8 = .ok (.aload_n 0, 1) := by decide +kernel
theorem dX0_forgetFirst_9 : decode cX0_forgetFirst 9 = .ok (.getfield 11, 3) := by decide +kernel
theorem dX0_forgetFirst_12 : decode cX0_forgetFirst 12 = .ok (.iload_n 1, 1) := by decide +kernel
theorem dX0_forgetFirst_13 : decode cX0_forgetFirst 13 = .ok (.aaload, 1) := by decide +kernel
theorem dX0_forgetFirst_14 : decode cX0_forgetFirst 14 = .ok (.iconst 0, 1) := by decide +kernel
theorem dX0_forgetFirst_15 : decode cX0_forgetFirst 15 = .ok (.aload_n 0, 1) := by decide +kernel
theorem dX0_forgetFirst_16 : decode cX0_forgetFirst 16 = .ok (.getfield 11, 3) := by decide +kernel
theorem dX0_forgetFirst_19 : decode cX0_forgetFirst 19 = .ok (.iload_n 1, 1) := by decide +kernel
theorem dX0_forgetFirst_20 : decode cX0_forgetFirst 20 = .ok (.iconst 1, 1) := by decide +kernel
theorem dX0_forgetFirst_21 : decode cX0_forgetFirst 21 = .ok (.isub, 1) := by decide +kernel
theorem dX0_forgetFirst_22 : decode cX0_forgetFirst 22 = .ok (.aaload, 1) := by decide +kernel
theorem dX0_forgetFirst_23 : decode cX0_forgetFirst 23 = .ok (.iconst 0, 1) := by decide +kernel
theorem dX0_forgetFirst_24 : decode cX0_forgetFirst 24 = .ok (.iconst 5, 1) := by decide +kernel
theorem dX0_forgetFirst_25 : decode cX0_forgetFirst 25 = .ok (.invokestatic 29, 3) := by decide +kernel
theorem dX0_forgetFirst_28 : decode cX0_forgetFirst 28 = .ok (.iinc 1 1, 3) := by decide +kernel
theorem dX0_forgetFirst_31 : decode cX0_forgetFirst 31 = .ok (.goto (-29), 3) := by decide +kernel
theorem dX0_forgetFirst_34 : decode cX0_forgetFirst 34 = .ok (.aload_n 0, 1) := by decide +kernel
theorem dX0_forgetFirst_35 : decode cX0_forgetFirst 35 = .ok (.bipush 13, 2) := by decide +kernel
theorem dX0_forgetFirst_37 : decode cX0_forgetFirst 37 = .ok (.putfield 16, 3) := by decide +kernel
theorem dX0_forgetFirst_40 : decode cX0_forgetFirst 40 = .ok (.return_, 1) := by decide +kernel
theorem dX0_takeBack_0 : decode cX0_takeBack 0 = .ok (.aload_n 0, 1) := by decide +kernel
theorem dX0_takeBack_1 : decode cX0_takeBack 1 = .ok (.getfield 16, 3) := by decide +kernel
theorem dX0_takeBack_4 : decode cX0_takeBack 4 = .ok (.ifCond .gt 5, 3) := by decide +kernel
theorem dX0_takeBack_7 : decode cX0_takeBack 7 = .ok (.iconst 0, 1) := by decide +kernel
theorem dX0_takeBack_8 : decode cX0_takeBack 8 = .ok (.ireturn, 1) := by decide +kernel
theorem dX0_takeBack_9 : decode cX0_takeBack 9 = .ok (.aload_n 0, 1) := by decide +kernel
theorem dX0_takeBack_10 : decode cX0_takeBack 10 = .ok (.dup, 1) := by decide +kernel
theorem dX0_takeBack_11 : decode cX0_takeBack 11 = .ok (.getfield 16, 3) := by decide +kernel
theorem dX0_takeBack_14 : decode cX0_takeBack 14 = .ok (.iconst 1, 1) := by decide +kernel
theorem dX0_takeBack_15 : decode cX0_takeBack 15 = .ok (.isub, 1) := by decide +kernel
theorem dX0_takeBack_16 : decode cX0_takeBack 16 = .ok (.putfield 16, 3) := by decide +kernel
theorem dX0_takeBack_19 : decode cX0_takeBack 19 = .ok (.aload_n 1, 1) := by decide +kernel
theorem dX0_takeBack_20 : decode cX0_takeBack 20 = .ok (.aload_n 0, 1) := by decide +kernel
theorem dX0_takeBack_21 : decode cX0_takeBack 21 = .ok (.getfield 11, 3) := by decide +kernel
theorem dX0_takeBack_24 : decode cX0_takeBack 24 = .ok (.aload_n 0, 1) := by decide +kernel
theorem dX0_takeBack_25 : decode cX0_takeBack 25 = .ok (.getfield 16, 3) := by decide +kernel
theorem dX0_takeBack_28 : decode cX0_takeBack 28 = .ok (.aaload, 1) := by decide +kernel
theorem dX0_takeBack_29 : decode cX0_takeBack 29 = .ok (.invokevirtual 35, 3) := by decide +kernel
theorem dX0_takeBack_32 : decode cX0_takeBack 32 = .ok (.iconst 1, 1) := by decide +kernel
theorem dX0_takeBack_33 : decode cX0_takeBack 33 = .ok (.ireturn, 1) := by decide +kernel
theorem dX1_init_0 : decode cX1_init 0 = .ok (.aload_n 0, 1) := by decide +kernel
theorem dX1_init_1 : decode cX1_init 1 = .ok (.invokespecial 3, 3) := by decide +kernel
theorem dX1_init_4 : decode cX1_init 4 = .ok (.aload_n 0, 1) := by decide +kernel
theorem dX1_init_5 : decode cX1_init 5 = .ok (.bipush 6, 2) := by decide +kernel
theorem dX1_init_7 : decode cX1_init 7 = .ok (.newarray .int, 2) := by decide +kernel
theorem dX1_init_9 : decode cX1_init 9 = .ok (.putfield 9, 3) := by decide +kernel
theorem dX1_init_12 : decode cX1_init 12 = .ok (.aload_n 0, 1) := by decide +kernel
theorem dX1_init_13 : decode cX1_init 13 = .ok (.bipush 48, 2) := by decide +kernel
theorem dX1_init_15 : decode cX1_init 15 = .ok (.newarray .int, 2) := by decide +kernel
theorem dX1_init_17 : decode cX1_init 17 = .ok (.putfield 15, 3) := by decide +kernel
theorem dX1_init_20 : decode cX1_init 20 = .ok (.return_, 1) := by decide +kernel
theorem dX1_take_0 : decode cX1_take 0 = .ok (.aload_n 0, 1) := by decide +kernel
theorem dX1_take_1 : decode cX1_take 1 = .ok (.aload_n 1, 1) := by decide +kernel
theorem dX1_take_2 : decode cX1_take 2 = .ok (.invokevirtual 18, 3) := by decide +kernel
theorem dX1_take_5 : decode cX1_take 5 = .ok (.bipush 10, 2) := by decide +kernel
theorem dX1_take_7 : decode cX1_take 7 = .ok (.idiv, 1) := by decide +kernel
theorem dX1_take_8 : decode cX1_take 8 = .ok (.bipush 6, 2) := by decide +kernel
theorem dX1_take_10 : decode cX1_take 10 = .ok (.invokestatic 24, 3) := by decide +kernel
theorem dX1_take_13 : decode cX1_take 13 = .ok (.putfield 30, 3) := by decide +kernel
theorem dX1_take_16 : decode cX1_take 16 = .ok (.iconst 0, 1) := by decide +kernel
theorem dX1_take_17 : decode cX1_take 17 = .ok (.istore_n 2, 1) := by decide +kernel
theorem dX1_take_18 : decode cX1_take 18 = .ok (.iload_n 2, 1) := by decide +kernel
theorem dX1_take_19 : decode cX1_take 19 = .ok (.aload_n 0, 1) := by decide +kernel
theorem dX1_take_20 : decode cX1_take 20 = .ok (.getfield 30, 3) := by decide +kernel
theorem dX1_take_23 : decode cX1_take 23 = .ok (.if_icmp .ge 70, 3) := by decide +kernel
theorem dX1_take_26 : decode cX1_take 26 = .ok (.iconst 1, 1) := by decide +kernel
theorem dX1_take_27 : decode cX1_take 27 = .ok (.bipush 10, 2) := by decide +kernel
theorem dX1_take_29 : decode cX1_take 29 = .ok (.iload_n 2, 1) := by decide +kernel
theorem dX1_take_30 : decode cX1_take 30 = .ok (.imul, 1) := by decide +kernel
theorem dX1_take_31 : decode cX1_take 31 = .ok (.iadd, 1) := by decide +kernel
theorem dX1_take_32 : decode cX1_take 32 = .ok (.istore_n 3, 1) := by decide +kernel
theorem dX1_take_33 : decode cX1_take 33 = .ok (.aload_n 0, 1) := by decide +kernel
theorem dX1_take_34 : decode cX1_take 34 = .ok (.getfield 9, 3) := by decide +kernel
theorem dX1_take_37 : decode cX1_take 37 = .ok (.iload_n 2, 1) := by decide +kernel
theorem dX1_take_38 : decode cX1_take 38 = .ok (.aload_n 1, 1) := by decide +kernel
theorem dX1_take_39 : decode cX1_take 39 = .ok (.iload_n 3, 1) := by decide +kernel
theorem dX1_take_40 : decode cX1_take 40 = .ok (.iconst 1, 1) := by decide +kernel
theorem dX1_take_41 : decode cX1_take 41 = .ok (.iadd, 1) := by decide +kernel
theorem dX1_take_42 : decode cX1_take 42 = .ok (.invokevirtual 34, 3) := by decide +kernel
theorem dX1_take_45 : decode cX1_take 45 = .ok (.bipush 48, 2) := by decide +kernel
theorem dX1_take_47 : decode cX1_take 47 = .ok (.isub, 1) := by decide +kernel
theorem dX1_take_48 : decode cX1_take 48 = .ok (.iastore, 1) := by decide +kernel
theorem dX1_take_49 : decode cX1_take 49 = .ok (.iconst 0, 1) := by decide +kernel
theorem dX1_take_50 : decode cX1_take 50 = .ok (.istore 4, 2) := by decide +kernel
theorem dX1_take_52 : decode cX1_take 52 = .ok (.iload 4, 2) := by decide +kernel
theorem dX1_take_54 : decode cX1_take 54 = .ok (.bipush 8, 2) := by decide +kernel
theorem dX1_take_56 : decode cX1_take 56 = .ok (.if_icmp .ge 31, 3) := by decide +kernel
theorem dX1_take_59 : decode cX1_take 59 = .ok (.aload_n 0, 1) := by decide +kernel
theorem dX1_take_60 : decode cX1_take 60 = .ok (.getfield 15, 3) := by decide +kernel
theorem dX1_take_63 : decode cX1_take 63 = .ok (.iload_n 2, 1) := by decide +kernel
theorem dX1_take_64 : decode cX1_take 64 = .ok (.bipush 8, 2) := by decide +kernel
theorem dX1_take_66 : decode cX1_take 66 = .ok (.imul, 1) := by decide +kernel
theorem dX1_take_67 : decode cX1_take 67 = .ok (.iload 4, 2) := by decide +kernel
theorem dX1_take_69 : decode cX1_take 69 = .ok (.iadd, 1) := by decide +kernel
theorem dX1_take_70 : decode cX1_take 70 = .ok (.aload_n 1, 1) := by decide +kernel
theorem dX1_take_71 : decode cX1_take 71 = .ok (.iload_n 3, 1) := by decide +kernel
theorem dX1_take_72 : decode cX1_take 72 = .ok (.iconst 2, 1) := by decide +kernel
theorem dX1_take_73 : decode cX1_take 73 = .ok (.iadd, 1) := by decide +kernel
theorem dX1_take_74 : decode cX1_take 74 = .ok (.iload 4, 2) := by decide +kernel
theorem dX1_take_76 : decode cX1_take 76 = .ok (.iadd, 1) := by decide +kernel
theorem dX1_take_77 : decode cX1_take 77 = .ok (.invokevirtual 34, 3) := by decide +kernel
theorem dX1_take_80 : decode cX1_take 80 = .ok (.iastore, 1) := by decide +kernel
theorem dX1_take_81 : decode cX1_take 81 = .ok (.iinc 4 1, 3) := by decide +kernel
theorem dX1_take_84 : decode cX1_take 84 = .ok (.goto (-32), 3) := by decide +kernel
theorem dX1_take_87 : decode cX1_take 87 = .ok (.iinc 2 1, 3) := by decide +kernel
theorem dX1_take_90 : decode cX1_take 90 = .ok (.goto (-72), 3) := by decide +kernel
theorem dX1_take_93 : decode cX1_take 93 = .ok (.return_, 1) := by decide +kernel
theorem dX1_size_0 : decode cX1_size 0 = .ok (.aload_n 0, 1) := by decide +kernel
theorem dX1_size_1 : decode cX1_size 1 = .ok (.getfield 30, 3) := by decide +kernel
theorem dX1_size_4 : decode cX1_size 4 = .ok (.ireturn, 1) := by decide +kernel
theorem dX1_has_0 : decode cX1_has 0 = .ok (.iload_n 1, 1) := by decide +kernel
theorem dX1_has_1 : decode cX1_has 1 = .ok (.ifCond .lt 15, 3) := by decide +kernel
theorem dX1_has_4 : decode cX1_has 4 = .ok (.iload_n 1, 1) := by decide +kernel
theorem dX1_has_5 : decode cX1_has 5 = .ok (.aload_n 0, 1) := by decide +kernel
theorem dX1_has_6 : decode cX1_has 6 = .ok (.getfield 30, 3) := by decide +kernel
theorem dX1_has_9 : decode cX1_has 9 = .ok (.if_icmp .ge 7, 3) := by decide +kernel
theorem dX1_has_12 : decode cX1_has 12 = .ok (.iconst 1, 1) := by decide +kernel
theorem dX1_has_13 : decode cX1_has 13 = .ok (.goto 4, 3) := by decide +kernel
theorem dX1_has_16 : decode cX1_has 16 = .ok (.iconst 0, 1) := by decide +kernel
theorem dX1_has_17 : decode cX1_has 17 = .ok (.ireturn, 1) := by decide +kernel
theorem dX1_hasGap_0 : decode cX1_hasGap 0 = .ok (.iload_n 1, 1) := by decide +kernel
theorem dX1_hasGap_1 : decode cX1_hasGap 1 = .ok (.ifCond .lt 17, 3) := by decide +kernel
theorem dX1_hasGap_4 : decode cX1_hasGap 4 = .ok (.iload_n 1, 1) := by decide +kernel
theorem dX1_hasGap_5 : decode cX1_hasGap 5 = .ok (.aload_n 0, 1) := by decide +kernel
theorem dX1_hasGap_6 : decode cX1_hasGap 6 = .ok (.getfield 30, 3) := by decide +kernel
theorem dX1_hasGap_9 : decode cX1_hasGap 9 = .ok (.iconst 1, 1) := by decide +kernel
theorem dX1_hasGap_10 : decode cX1_hasGap 10 = .ok (.isub, 1) := by decide +kernel
theorem dX1_hasGap_11 : decode cX1_hasGap 11 = .ok (.if_icmp .ge 7, 3) := by decide +kernel
theorem dX1_hasGap_14 : decode cX1_hasGap 14 = .ok (.iconst 1, 1) := by decide +kernel
theorem dX1_hasGap_15 : decode cX1_hasGap 15 = .ok (.goto 4, 3) := by decide +kernel
theorem dX1_hasGap_18 : decode cX1_hasGap 18 = .ok (.iconst 0, 1) := by decide +kernel
theorem dX1_hasGap_19 : decode cX1_hasGap 19 = .ok (.ireturn, 1) := by decide +kernel
theorem dX1_canPart_0 : decode cX1_canPart 0 = .ok (.iload_n 1, 1) := by decide +kernel
theorem dX1_canPart_1 : decode cX1_canPart 1 = .ok (.ifCond .lt 27, 3) := by decide +kernel
theorem dX1_canPart_4 : decode cX1_canPart 4 = .ok (.iload_n 1, 1) := by decide +kernel
theorem dX1_canPart_5 : decode cX1_canPart 5 = .ok (.aload_n 0, 1) := by decide +kernel
theorem dX1_canPart_6 : decode cX1_canPart 6 = .ok (.getfield 30, 3) := by decide +kernel
theorem dX1_canPart_9 : decode cX1_canPart 9 = .ok (.iconst 1, 1) := by decide +kernel
theorem dX1_canPart_10 : decode cX1_canPart 10 = .ok (.isub, 1) := by decide +kernel
theorem dX1_canPart_11 : decode cX1_canPart 11 = .ok (.if_icmp .ge 17, 3) := by decide +kernel
theorem dX1_canPart_14 : decode cX1_canPart 14 = .ok (.aload_n 0, 1) := by decide +kernel
theorem dX1_canPart_15 : decode cX1_canPart 15 = .ok (.getfield 9, 3) := by decide +kernel
theorem dX1_canPart_18 : decode cX1_canPart 18 = .ok (.iload_n 1, 1) := by decide +kernel
theorem dX1_canPart_19 : decode cX1_canPart 19 = .ok (.iaload, 1) := by decide +kernel
theorem dX1_canPart_20 : decode cX1_canPart 20 = .ok (.iconst 3, 1) := by decide +kernel
theorem dX1_canPart_21 : decode cX1_canPart 21 = .ok (.if_icmp .eq 7, 3) := by decide +kernel
theorem dX1_canPart_24 : decode cX1_canPart 24 = .ok (.iconst 1, 1) := by decide +kernel
theorem dX1_canPart_25 : decode cX1_canPart 25 = .ok (.goto 4, 3) := by decide +kernel
theorem dX1_canPart_28 : decode cX1_canPart 28 = .ok (.iconst 0, 1) := by decide +kernel
theorem dX1_canPart_29 : decode cX1_canPart 29 = .ok (.ireturn, 1) := by decide +kernel
theorem dX1_kindOf_0 : decode cX1_kindOf 0 = .ok (.iload_n 1, 1) := by decide +kernel
theorem dX1_kindOf_1 : decode cX1_kindOf 1 = .ok (.ifCond .lt 20, 3) := by decide +kernel
theorem dX1_kindOf_4 : decode cX1_kindOf 4 = .ok (.iload_n 1, 1) := by decide +kernel
theorem dX1_kindOf_5 : decode cX1_kindOf 5 = .ok (.aload_n 0, 1) := by decide +kernel
theorem dX1_kindOf_6 : decode cX1_kindOf 6 = .ok (.getfield 30, 3) := by decide +kernel
theorem dX1_kindOf_9 : decode cX1_kindOf 9 = .ok (.if_icmp .ge 12, 3) := by decide +kernel
theorem dX1_kindOf_12 : decode cX1_kindOf 12 = .ok (.aload_n 0, 1) := by decide +kernel
theorem dX1_kindOf_13 : decode cX1_kindOf 13 = .ok (.getfield 9, 3) := by decide +kernel
theorem dX1_kindOf_16 : decode cX1_kindOf 16 = .ok (.iload_n 1, 1) := by decide +kernel
theorem dX1_kindOf_17 : decode cX1_kindOf 17 = .ok (.iaload, 1) := by decide +kernel
theorem dX1_kindOf_18 : decode cX1_kindOf 18 = .ok (.goto 5, 3) := by decide +kernel
theorem dX1_kindOf_21 : decode cX1_kindOf 21 = .ok (.bipush (-9), 2) := by decide +kernel
theorem dX1_kindOf_23 : decode cX1_kindOf 23 = .ok (.ireturn, 1) := by decide +kernel
theorem dX1_widthOf_0 : decode cX1_widthOf 0 = .ok (.aload_n 0, 1) := by decide +kernel
theorem dX1_widthOf_1 : decode cX1_widthOf 1 = .ok (.iload_n 1, 1) := by decide +kernel
theorem dX1_widthOf_2 : decode cX1_widthOf 2 = .ok (.invokevirtual 38, 3) := by decide +kernel
theorem dX1_widthOf_5 : decode cX1_widthOf 5 = .ok (.iconst 2, 1) := by decide +kernel
theorem dX1_widthOf_6 : decode cX1_widthOf 6 = .ok (.if_icmp .ne 7, 3) := by decide +kernel
theorem dX1_widthOf_9 : decode cX1_widthOf 9 = .ok (.iconst 2, 1) := by decide +kernel
theorem dX1_widthOf_10 : decode cX1_widthOf 10 = .ok (.goto 4, 3) := by decide +kernel
theorem dX1_widthOf_13 : decode cX1_widthOf 13 = .ok (.iconst 4, 1) := by decide +kernel
theorem dX1_widthOf_14 : decode cX1_widthOf 14 = .ok (.ireturn, 1) := by decide +kernel
theorem dX1_isSolid_0 : decode cX1_isSolid 0 = .ok (.iload_n 1, 1) := by decide +kernel
theorem dX1_isSolid_1 : decode cX1_isSolid 1 = .ok (.ifCond .lt 20, 3) := by decide +kernel
theorem dX1_isSolid_4 : decode cX1_isSolid 4 = .ok (.iload_n 1, 1) := by decide +kernel
theorem dX1_isSolid_5 : decode cX1_isSolid 5 = .ok (.aload_n 0, 1) := by decide +kernel
theorem dX1_isSolid_6 : decode cX1_isSolid 6 = .ok (.getfield 30, 3) := by decide +kernel
theorem dX1_isSolid_9 : decode cX1_isSolid 9 = .ok (.if_icmp .ge 12, 3) := by decide +kernel
theorem dX1_isSolid_12 : decode cX1_isSolid 12 = .ok (.iload_n 2, 1) := by decide +kernel
theorem dX1_isSolid_13 : decode cX1_isSolid 13 = .ok (.ifCond .lt 8, 3) := by decide +kernel
theorem dX1_isSolid_16 : decode cX1_isSolid 16 = .ok (.iload_n 2, 1) := by decide +kernel
theorem dX1_isSolid_17 : decode cX1_isSolid 17 = .ok (.iconst 4, 1) := by decide +kernel
theorem dX1_isSolid_18 : decode cX1_isSolid 18 = .ok (.if_icmp .lt 5, 3) := by decide +kernel
theorem dX1_isSolid_21 : decode cX1_isSolid 21 = .ok (.iconst 0, 1) := by decide +kernel
theorem dX1_isSolid_22 : decode cX1_isSolid 22 = .ok (.ireturn, 1) := by decide +kernel
theorem dX1_isSolid_23 : decode cX1_isSolid 23 = .ok (.aload_n 0, 1) := by decide +kernel
theorem dX1_isSolid_24 : decode cX1_isSolid 24 = .ok (.getfield 9, 3) := by decide +kernel
theorem dX1_isSolid_27 : decode cX1_isSolid 27 = .ok (.iload_n 1, 1) := by decide +kernel
theorem dX1_isSolid_28 : decode cX1_isSolid 28 = .ok (.iaload, 1) := by decide +kernel
theorem dX1_isSolid_29 : decode cX1_isSolid 29 = .ok (.lookupswitch 50 #[(1, 27), (2, 39)], 27) := by decide +kernel
theorem dX1_isSolid_56 : decode cX1_isSolid 56 = .ok (.iload_n 2, 1) := by decide +kernel
theorem dX1_isSolid_57 : decode cX1_isSolid 57 = .ok (.iconst 2, 1) := by decide +kernel
theorem dX1_isSolid_58 : decode cX1_isSolid 58 = .ok (.irem, 1) := by decide +kernel
theorem dX1_isSolid_59 : decode cX1_isSolid 59 = .ok (.ifCond .ne 7, 3) := by decide +kernel
theorem dX1_isSolid_62 : decode cX1_isSolid 62 = .ok (.iconst 1, 1) := by decide +kernel
theorem dX1_isSolid_63 : decode cX1_isSolid 63 = .ok (.goto 4, 3) := by decide +kernel
theorem dX1_isSolid_66 : decode cX1_isSolid 66 = .ok (.iconst 0, 1) := by decide +kernel
theorem dX1_isSolid_67 : decode cX1_isSolid 67 = .ok (.ireturn, 1) := by decide +kernel
theorem dX1_isSolid_68 : decode cX1_isSolid 68 = .ok (.iload_n 2, 1) := by decide +kernel
theorem dX1_isSolid_69 : decode cX1_isSolid 69 = .ok (.iconst 2, 1) := by decide +kernel
theorem dX1_isSolid_70 : decode cX1_isSolid 70 = .ok (.if_icmp .ge 7, 3) := by decide +kernel
theorem dX1_isSolid_73 : decode cX1_isSolid 73 = .ok (.iconst 1, 1) := by decide +kernel
theorem dX1_isSolid_74 : decode cX1_isSolid 74 = .ok (.goto 4, 3) := by decide +kernel
theorem dX1_isSolid_77 : decode cX1_isSolid 77 = .ok (.iconst 0, 1) := by decide +kernel
theorem dX1_isSolid_78 : decode cX1_isSolid 78 = .ok (.ireturn, 1) := by decide +kernel
theorem dX1_isSolid_79 : decode cX1_isSolid 79 = .ok (.iconst 1, 1) := by decide +kernel
theorem dX1_isSolid_80 : decode cX1_isSolid 80 = .ok (.ireturn, 1) := by decide +kernel
theorem dX1_markOf_0 : decode cX1_markOf 0 = .ok (.iload_n 1, 1) := by decide +kernel
theorem dX1_markOf_1 : decode cX1_markOf 1 = .ok (.bipush 8, 2) := by decide +kernel
theorem dX1_markOf_3 : decode cX1_markOf 3 = .ok (.imul, 1) := by decide +kernel
theorem dX1_markOf_4 : decode cX1_markOf 4 = .ok (.iload_n 2, 1) := by decide +kernel
theorem dX1_markOf_5 : decode cX1_markOf 5 = .ok (.iconst 4, 1) := by decide +kernel
theorem dX1_markOf_6 : decode cX1_markOf 6 = .ok (.imul, 1) := by decide +kernel
theorem dX1_markOf_7 : decode cX1_markOf 7 = .ok (.iadd, 1) := by decide +kernel
theorem dX1_markOf_8 : decode cX1_markOf 8 = .ok (.iload_n 3, 1) := by decide +kernel
theorem dX1_markOf_9 : decode cX1_markOf 9 = .ok (.iadd, 1) := by decide +kernel
theorem dX1_markOf_10 : decode cX1_markOf 10 = .ok (.ireturn, 1) := by decide +kernel
theorem dX1_letterOf_0 : decode cX1_letterOf 0 = .ok (.iload_n 1, 1) := by decide +kernel
theorem dX1_letterOf_1 : decode cX1_letterOf 1 = .ok (.ifCond .lt 21, 3) := by decide +kernel
theorem dX1_letterOf_4 : decode cX1_letterOf 4 = .ok (.iload_n 1, 1) := by decide +kernel
theorem dX1_letterOf_5 : decode cX1_letterOf 5 = .ok (.aload_n 0, 1) := by decide +kernel
theorem dX1_letterOf_6 : decode cX1_letterOf 6 = .ok (.getfield 15, 3) := by decide +kernel
theorem dX1_letterOf_9 : decode cX1_letterOf 9 = .ok (.arraylength, 1) := by decide +kernel
theorem dX1_letterOf_10 : decode cX1_letterOf 10 = .ok (.if_icmp .ge 12, 3) := by decide +kernel
theorem dX1_letterOf_13 : decode cX1_letterOf 13 = .ok (.aload_n 0, 1) := by decide +kernel
theorem dX1_letterOf_14 : decode cX1_letterOf 14 = .ok (.getfield 15, 3) := by decide +kernel
theorem dX1_letterOf_17 : decode cX1_letterOf 17 = .ok (.iload_n 1, 1) := by decide +kernel
theorem dX1_letterOf_18 : decode cX1_letterOf 18 = .ok (.iaload, 1) := by decide +kernel
theorem dX1_letterOf_19 : decode cX1_letterOf 19 = .ok (.goto 5, 3) := by decide +kernel
theorem dX1_letterOf_22 : decode cX1_letterOf 22 = .ok (.bipush (-9), 2) := by decide +kernel
theorem dX1_letterOf_24 : decode cX1_letterOf 24 = .ok (.ireturn, 1) := by decide +kernel
theorem dX2_init_0 : decode cX2_init 0 = .ok (.aload_n 0, 1) := by decide +kernel
theorem dX2_init_1 : decode cX2_init 1 = .ok (.invokespecial 3, 3) := by decide +kernel
theorem dX2_init_4 : decode cX2_init 4 = .ok (.aload_n 0, 1) := by decide +kernel
theorem dX2_init_5 : decode cX2_init 5 = .ok (.iconst 5, 1) := by decide +kernel
theorem dX2_init_6 : decode cX2_init 6 = .ok (.newarray .int, 2) := by decide +kernel
theorem dX2_init_8 : decode cX2_init 8 = .ok (.putfield 9, 3) := by decide +kernel
theorem dX2_init_11 : decode cX2_init 11 = .ok (.aload_n 0, 1) := by decide +kernel
theorem dX2_init_12 : decode cX2_init 12 = .ok (.aload_n 1, 1) := by decide +kernel
theorem dX2_init_13 : decode cX2_init 13 = .ok (.putfield 15, 3) := by decide +kernel
theorem dX2_init_16 : decode cX2_init 16 = .ok (.return_, 1) := by decide +kernel
theorem dX2_at_0 : decode cX2_at 0 = .ok (.iload_n 1, 1) := by decide +kernel
theorem dX2_at_1 : decode cX2_at 1 = .ok (.ifCond .lt 17, 3) := by decide +kernel
theorem dX2_at_4 : decode cX2_at 4 = .ok (.iload_n 1, 1) := by decide +kernel
theorem dX2_at_5 : decode cX2_at 5 = .ok (.iconst 5, 1) := by decide +kernel
theorem dX2_at_6 : decode cX2_at 6 = .ok (.if_icmp .ge 12, 3) := by decide +kernel
theorem dX2_at_9 : decode cX2_at 9 = .ok (.aload_n 0, 1) := by decide +kernel
theorem dX2_at_10 : decode cX2_at 10 = .ok (.getfield 9, 3) := by decide +kernel
theorem dX2_at_13 : decode cX2_at 13 = .ok (.iload_n 1, 1) := by decide +kernel
theorem dX2_at_14 : decode cX2_at 14 = .ok (.iaload, 1) := by decide +kernel
theorem dX2_at_15 : decode cX2_at 15 = .ok (.goto 4, 3) := by decide +kernel
theorem dX2_at_18 : decode cX2_at 18 = .ok (.iconst 0, 1) := by decide +kernel
theorem dX2_at_19 : decode cX2_at 19 = .ok (.ireturn, 1) := by decide +kernel
theorem dX2_canWiden_0 : decode cX2_canWiden 0 = .ok (.aload_n 0, 1) := by decide +kernel
theorem dX2_canWiden_1 : decode cX2_canWiden 1 = .ok (.getfield 15, 3) := by decide +kernel
theorem dX2_canWiden_4 : decode cX2_canWiden 4 = .ok (.iload_n 1, 1) := by decide +kernel
theorem dX2_canWiden_5 : decode cX2_canWiden 5 = .ok (.invokevirtual 19, 3) := by decide +kernel
theorem dX2_canWiden_8 : decode cX2_canWiden 8 = .ok (.ifCond .eq 17, 3) := by decide +kernel
theorem dX2_canWiden_11 : decode cX2_canWiden 11 = .ok (.aload_n 0, 1) := by decide +kernel
theorem dX2_canWiden_12 : decode cX2_canWiden 12 = .ok (.getfield 9, 3) := by decide +kernel
theorem dX2_canWiden_15 : decode cX2_canWiden 15 = .ok (.iload_n 1, 1) := by decide +kernel
theorem dX2_canWiden_16 : decode cX2_canWiden 16 = .ok (.iaload, 1) := by decide +kernel
theorem dX2_canWiden_17 : decode cX2_canWiden 17 = .ok (.iconst 4, 1) := by decide +kernel
theorem dX2_canWiden_18 : decode cX2_canWiden 18 = .ok (.if_icmp .ge 7, 3) := by decide +kernel
theorem dX2_canWiden_21 : decode cX2_canWiden 21 = .ok (.iconst 1, 1) := by decide +kernel
theorem dX2_canWiden_22 : decode cX2_canWiden 22 = .ok (.goto 4, 3) := by decide +kernel
theorem dX2_canWiden_25 : decode cX2_canWiden 25 = .ok (.iconst 0, 1) := by decide +kernel
theorem dX2_canWiden_26 : decode cX2_canWiden 26 = .ok (.ireturn, 1) := by decide +kernel
theorem dX2_canNarrow_0 : decode cX2_canNarrow 0 = .ok (.aload_n 0, 1) := by decide +kernel
theorem dX2_canNarrow_1 : decode cX2_canNarrow 1 = .ok (.getfield 15, 3) := by decide +kernel
theorem dX2_canNarrow_4 : decode cX2_canNarrow 4 = .ok (.iload_n 1, 1) := by decide +kernel
theorem dX2_canNarrow_5 : decode cX2_canNarrow 5 = .ok (.invokevirtual 19, 3) := by decide +kernel
theorem dX2_canNarrow_8 : decode cX2_canNarrow 8 = .ok (.ifCond .eq 16, 3) := by decide +kernel
theorem dX2_canNarrow_11 : decode cX2_canNarrow 11 = .ok (.aload_n 0, 1) := by decide +kernel
theorem dX2_canNarrow_12 : decode cX2_canNarrow 12 = .ok (.getfield 9, 3) := by decide +kernel
theorem dX2_canNarrow_15 : decode cX2_canNarrow 15 = .ok (.iload_n 1, 1) := by decide +kernel
theorem dX2_canNarrow_16 : decode cX2_canNarrow 16 = .ok (.iaload, 1) := by decide +kernel
theorem dX2_canNarrow_17 : decode cX2_canNarrow 17 = .ok (.ifCond .le 7, 3) := by decide +kernel
theorem dX2_canNarrow_20 : decode cX2_canNarrow 20 = .ok (.iconst 1, 1) := by decide +kernel
theorem dX2_canNarrow_21 : decode cX2_canNarrow 21 = .ok (.goto 4, 3) := by decide +kernel
theorem dX2_canNarrow_24 : decode cX2_canNarrow 24 = .ok (.iconst 0, 1) := by decide +kernel
theorem dX2_canNarrow_25 : decode cX2_canNarrow 25 = .ok (.ireturn, 1) := by decide +kernel
theorem dX2_widen_0 : decode cX2_widen 0 = .ok (.aload_n 0, 1) := by decide +kernel
theorem dX2_widen_1 : decode cX2_widen 1 = .ok (.iload_n 1, 1) := by decide +kernel
theorem dX2_widen_2 : decode cX2_widen 2 = .ok (.invokevirtual 25, 3) := by decide +kernel
theorem dX2_widen_5 : decode cX2_widen 5 = .ok (.ifCond .ne 5, 3) := by decide +kernel
theorem dX2_widen_8 : decode cX2_widen 8 = .ok (.iconst 0, 1) := by decide +kernel
theorem dX2_widen_9 : decode cX2_widen 9 = .ok (.ireturn, 1) := by decide +kernel
theorem dX2_widen_10 : decode cX2_widen 10 = .ok (.aload_n 0, 1) := by decide +kernel
theorem dX2_widen_11 : decode cX2_widen 11 = .ok (.getfield 9, 3) := by decide +kernel
theorem dX2_widen_14 : decode cX2_widen 14 = .ok (.iload_n 1, 1) := by decide +kernel
theorem dX2_widen_15 : decode cX2_widen 15 = .ok (.dup2, 1) := by decide +kernel
theorem dX2_widen_16 : decode cX2_widen 16 = .ok (.iaload, 1) := by decide +kernel
theorem dX2_widen_17 : decode cX2_widen 17 = .ok (.iconst 1, 1) := by decide +kernel
theorem dX2_widen_18 : decode cX2_widen 18 = .ok (.iadd, 1) := by decide +kernel
theorem dX2_widen_19 : decode cX2_widen 19 = .ok (.iastore, 1) := by decide +kernel
theorem dX2_widen_20 : decode cX2_widen 20 = .ok (.iconst 1, 1) := by decide +kernel
theorem dX2_widen_21 : decode cX2_widen 21 = .ok (.ireturn, 1) := by decide +kernel
theorem dX2_narrow_0 : decode cX2_narrow 0 = .ok (.aload_n 0, 1) := by decide +kernel
theorem dX2_narrow_1 : decode cX2_narrow 1 = .ok (.iload_n 1, 1) := by decide +kernel
theorem dX2_narrow_2 : decode cX2_narrow 2 = .ok (.invokevirtual 28, 3) := by decide +kernel
theorem dX2_narrow_5 : decode cX2_narrow 5 = .ok (.ifCond .ne 5, 3) := by decide +kernel
theorem dX2_narrow_8 : decode cX2_narrow 8 = .ok (.iconst 0, 1) := by decide +kernel
theorem dX2_narrow_9 : decode cX2_narrow 9 = .ok (.ireturn, 1) := by decide +kernel
theorem dX2_narrow_10 : decode cX2_narrow 10 = .ok (.aload_n 0, 1) := by decide +kernel
theorem dX2_narrow_11 : decode cX2_narrow 11 = .ok (.getfield 9, 3) := by decide +kernel
theorem dX2_narrow_14 : decode cX2_narrow 14 = .ok (.iload_n 1, 1) := by decide +kernel
theorem dX2_narrow_15 : decode cX2_narrow 15 = .ok (.dup2, 1) := by decide +kernel
theorem dX2_narrow_16 : decode cX2_narrow 16 = .ok (.iaload, 1) := by decide +kernel
theorem dX2_narrow_17 : decode cX2_narrow 17 = .ok (.iconst 1, 1) := by decide +kernel
theorem dX2_narrow_18 : decode cX2_narrow 18 = .ok (.isub, 1) := by decide +kernel
theorem dX2_narrow_19 : decode cX2_narrow 19 = .ok (.iastore, 1) := by decide +kernel
theorem dX2_narrow_20 : decode cX2_narrow 20 = .ok (.iconst 1, 1) := by decide +kernel
theorem dX2_narrow_21 : decode cX2_narrow 21 = .ok (.ireturn, 1) := by decide +kernel
theorem dX2_widenAll_0 : decode cX2_widenAll 0 = .ok (.iconst 0, 1) := by decide +kernel
theorem dX2_widenAll_1 : decode cX2_widenAll 1 = .ok (.istore_n 1, 1) := by decide +kernel
theorem dX2_widenAll_2 : decode cX2_widenAll 2 = .ok (.iconst 0, 1) := by decide +kernel
theorem dX2_widenAll_3 : decode cX2_widenAll 3 = .ok (.istore_n 2, 1) := by decide +kernel
theorem dX2_widenAll_4 : decode cX2_widenAll 4 = .ok (.iload_n 2, 1) := by decide +kernel
theorem dX2_widenAll_5 : decode cX2_widenAll 5 = .ok (.iconst 5, 1) := by decide +kernel
theorem dX2_widenAll_6 : decode cX2_widenAll 6 = .ok (.if_icmp .ge 20, 3) := by decide +kernel
theorem dX2_widenAll_9 : decode cX2_widenAll 9 = .ok (.aload_n 0, 1) := by decide +kernel
theorem dX2_widenAll_10 : decode cX2_widenAll 10 = .ok (.iload_n 2, 1) := by decide +kernel
theorem dX2_widenAll_11 : decode cX2_widenAll 11 = .ok (.invokevirtual 31, 3) := by decide +kernel
theorem dX2_widenAll_14 : decode cX2_widenAll 14 = .ok (.ifCond .eq 6, 3) := by decide +kernel
theorem dX2_widenAll_17 : decode cX2_widenAll 17 = .ok (.iinc 1 1, 3) := by decide +kernel
theorem dX2_widenAll_20 : decode cX2_widenAll 20 = .ok (.iinc 2 1, 3) := by decide +kernel
theorem dX2_widenAll_23 : decode cX2_widenAll 23 = .ok (.goto (-19), 3) := by decide +kernel
theorem dX2_widenAll_26 : decode cX2_widenAll 26 = .ok (.iload_n 1, 1) := by decide +kernel
theorem dX2_widenAll_27 : decode cX2_widenAll 27 = .ok (.ireturn, 1) := by decide +kernel
theorem dX2_close_0 : decode cX2_close 0 = .ok (.iload_n 1, 1) := by decide +kernel
theorem dX2_close_1 : decode cX2_close 1 = .ok (.ifCond .lt 15, 3) := by decide +kernel
theorem dX2_close_4 : decode cX2_close 4 = .ok (.iload_n 1, 1) := by decide +kernel
theorem dX2_close_5 : decode cX2_close 5 = .ok (.iconst 5, 1) := by decide +kernel
theorem dX2_close_6 : decode cX2_close 6 = .ok (.if_icmp .ge 10, 3) := by decide +kernel
theorem dX2_close_9 : decode cX2_close 9 = .ok (.aload_n 0, 1) := by decide +kernel
theorem dX2_close_10 : decode cX2_close 10 = .ok (.getfield 9, 3) := by decide +kernel
theorem dX2_close_13 : decode cX2_close 13 = .ok (.iload_n 1, 1) := by decide +kernel
theorem dX2_close_14 : decode cX2_close 14 = .ok (.iconst 0, 1) := by decide +kernel
theorem dX2_close_15 : decode cX2_close 15 = .ok (.iastore, 1) := by decide +kernel
theorem dX2_close_16 : decode cX2_close 16 = .ok (.return_, 1) := by decide +kernel
theorem dX2_clear_0 : decode cX2_clear 0 = .ok (.aload_n 0, 1) := by decide +kernel
theorem dX2_clear_1 : decode cX2_clear 1 = .ok (.getfield 9, 3) := by decide +kernel
theorem dX2_clear_4 : decode cX2_clear 4 = .ok (.iconst 0, 1) := by decide +kernel
theorem dX2_clear_5 : decode cX2_clear 5 = .ok (.invokestatic 34, 3) := by decide +kernel
theorem dX2_clear_8 : decode cX2_clear 8 = .ok (.return_, 1) := by decide +kernel
theorem dX2_sum_0 : decode cX2_sum 0 = .ok (.aload_n 0, 1) := by decide +kernel
theorem dX2_sum_1 : decode cX2_sum 1 = .ok (.iconst 5, 1) := by decide +kernel
theorem dX2_sum_2 : decode cX2_sum 2 = .ok (.invokevirtual 40, 3) := by decide +kernel
theorem dX2_sum_5 : decode cX2_sum 5 = .ok (.ireturn, 1) := by decide +kernel
theorem dX2_sumAhead_0 : decode cX2_sumAhead 0 = .ok (.iconst 0, 1) := by decide +kernel
theorem dX2_sumAhead_1 : decode cX2_sumAhead 1 = .ok (.istore_n 2, 1) := by decide +kernel
theorem dX2_sumAhead_2 : decode cX2_sumAhead 2 = .ok (.iconst 0, 1) := by decide +kernel
theorem dX2_sumAhead_3 : decode cX2_sumAhead 3 = .ok (.istore_n 3, 1) := by decide +kernel
theorem dX2_sumAhead_4 : decode cX2_sumAhead 4 = .ok (.iload_n 3, 1) := by decide +kernel
theorem dX2_sumAhead_5 : decode cX2_sumAhead 5 = .ok (.iload_n 1, 1) := by decide +kernel
theorem dX2_sumAhead_6 : decode cX2_sumAhead 6 = .ok (.if_icmp .ge 23, 3) := by decide +kernel
theorem dX2_sumAhead_9 : decode cX2_sumAhead 9 = .ok (.iload_n 3, 1) := by decide +kernel
theorem dX2_sumAhead_10 : decode cX2_sumAhead 10 = .ok (.iconst 5, 1) := by decide +kernel
theorem dX2_sumAhead_11 : decode cX2_sumAhead 11 = .ok (.if_icmp .ge 18, 3) := by decide +kernel
theorem dX2_sumAhead_14 : decode cX2_sumAhead 14 = .ok (.iload_n 2, 1) := by decide +kernel
theorem dX2_sumAhead_15 : decode cX2_sumAhead 15 = .ok (.aload_n 0, 1) := by decide +kernel
theorem dX2_sumAhead_16 : decode cX2_sumAhead 16 = .ok (.getfield 9, 3) := by decide +kernel
theorem dX2_sumAhead_19 : decode cX2_sumAhead 19 = .ok (.iload_n 3, 1) := by decide +kernel
theorem dX2_sumAhead_20 : decode cX2_sumAhead 20 = .ok (.iaload, 1) := by decide +kernel
theorem dX2_sumAhead_21 : decode cX2_sumAhead 21 = .ok (.iadd, 1) := by decide +kernel
theorem dX2_sumAhead_22 : decode cX2_sumAhead 22 = .ok (.istore_n 2, 1) := by decide +kernel
theorem dX2_sumAhead_23 : decode cX2_sumAhead 23 = .ok (.iinc 3 1, 3) := by decide +kernel
theorem dX2_sumAhead_26 : decode cX2_sumAhead 26 = .ok (.goto (-22), 3) := by decide +kernel
theorem dX2_sumAhead_29 : decode cX2_sumAhead 29 = .ok (.iload_n 2, 1) := by decide +kernel
theorem dX2_sumAhead_30 : decode cX2_sumAhead 30 = .ok (.ireturn, 1) := by decide +kernel
theorem dX2_figures_0 : decode cX2_figures 0 = .ok (.iconst 0, 1) := by decide +kernel
theorem dX2_figures_1 : decode cX2_figures 1 = .ok (.istore_n 1, 1) := by decide +kernel
theorem dX2_figures_2 : decode cX2_figures 2 = .ok (.iconst 0, 1) := by decide +kernel
theorem dX2_figures_3 : decode cX2_figures 3 = .ok (.istore_n 2, 1) := by decide +kernel
theorem dX2_figures_4 : decode cX2_figures 4 = .ok (.iload_n 2, 1) := by decide +kernel
theorem dX2_figures_5 : decode cX2_figures 5 = .ok (.iconst 5, 1) := by decide +kernel
theorem dX2_figures_6 : decode cX2_figures 6 = .ok (.if_icmp .ge 32, 3) := by decide +kernel
theorem dX2_figures_9 : decode cX2_figures 9 = .ok (.aload_n 0, 1) := by decide +kernel
theorem dX2_figures_10 : decode cX2_figures 10 = .ok (.getfield 15, 3) := by decide +kernel
theorem dX2_figures_13 : decode cX2_figures 13 = .ok (.iload_n 2, 1) := by decide +kernel
theorem dX2_figures_14 : decode cX2_figures 14 = .ok (.invokevirtual 44, 3) := by decide +kernel
theorem dX2_figures_17 : decode cX2_figures 17 = .ok (.ifCond .eq 21, 3) := by decide +kernel
theorem dX2_figures_20 : decode cX2_figures 20 = .ok (.bipush 10, 2) := by decide +kernel
theorem dX2_figures_22 : decode cX2_figures 22 = .ok (.iload_n 1, 1) := by decide +kernel
theorem dX2_figures_23 : decode cX2_figures 23 = .ok (.imul, 1) := by decide +kernel
theorem dX2_figures_24 : decode cX2_figures 24 = .ok (.aload_n 0, 1) := by decide +kernel
theorem dX2_figures_25 : decode cX2_figures 25 = .ok (.getfield 9, 3) := by decide +kernel
theorem dX2_figures_28 : decode cX2_figures 28 = .ok (.iload_n 2, 1) := by decide +kernel
theorem dX2_figures_29 : decode cX2_figures 29 = .ok (.iaload, 1) := by decide +kernel
theorem dX2_figures_30 : decode cX2_figures 30 = .ok (.iadd, 1) := by decide +kernel
theorem dX2_figures_31 : decode cX2_figures 31 = .ok (.istore_n 1, 1) := by decide +kernel
theorem dX2_figures_32 : decode cX2_figures 32 = .ok (.iinc 2 1, 3) := by decide +kernel
theorem dX2_figures_35 : decode cX2_figures 35 = .ok (.goto (-31), 3) := by decide +kernel
theorem dX2_figures_38 : decode cX2_figures 38 = .ok (.iload_n 1, 1) := by decide +kernel
theorem dX2_figures_39 : decode cX2_figures 39 = .ok (.ireturn, 1) := by decide +kernel
theorem dX2_stepsFrom_0 : decode cX2_stepsFrom 0 = .ok (.iconst 0, 1) := by decide +kernel
theorem dX2_stepsFrom_1 : decode cX2_stepsFrom 1 = .ok (.istore_n 2, 1) := by decide +kernel
theorem dX2_stepsFrom_2 : decode cX2_stepsFrom 2 = .ok (.iconst 0, 1) := by decide +kernel
theorem dX2_stepsFrom_3 : decode cX2_stepsFrom 3 = .ok (.istore_n 3, 1) := by decide +kernel
theorem dX2_stepsFrom_4 : decode cX2_stepsFrom 4 = .ok (.iload_n 3, 1) := by decide +kernel
theorem dX2_stepsFrom_5 : decode cX2_stepsFrom 5 = .ok (.iconst 5, 1) := by decide +kernel
theorem dX2_stepsFrom_6 : decode cX2_stepsFrom 6 = .ok (.if_icmp .ge 28, 3) := by decide +kernel
theorem dX2_stepsFrom_9 : decode cX2_stepsFrom 9 = .ok (.iload_n 2, 1) := by decide +kernel
theorem dX2_stepsFrom_10 : decode cX2_stepsFrom 10 = .ok (.aload_n 0, 1) := by decide +kernel
theorem dX2_stepsFrom_11 : decode cX2_stepsFrom 11 = .ok (.getfield 9, 3) := by decide +kernel
theorem dX2_stepsFrom_14 : decode cX2_stepsFrom 14 = .ok (.iload_n 3, 1) := by decide +kernel
theorem dX2_stepsFrom_15 : decode cX2_stepsFrom 15 = .ok (.iaload, 1) := by decide +kernel
theorem dX2_stepsFrom_16 : decode cX2_stepsFrom 16 = .ok (.aload_n 1, 1) := by decide +kernel
theorem dX2_stepsFrom_17 : decode cX2_stepsFrom 17 = .ok (.getfield 9, 3) := by decide +kernel
theorem dX2_stepsFrom_20 : decode cX2_stepsFrom 20 = .ok (.iload_n 3, 1) := by decide +kernel
theorem dX2_stepsFrom_21 : decode cX2_stepsFrom 21 = .ok (.iaload, 1) := by decide +kernel
theorem dX2_stepsFrom_22 : decode cX2_stepsFrom 22 = .ok (.isub, 1) := by decide +kernel
theorem dX2_stepsFrom_23 : decode cX2_stepsFrom 23 = .ok (.invokestatic 47, 3) := by decide +kernel
theorem dX2_stepsFrom_26 : decode cX2_stepsFrom 26 = .ok (.iadd, 1) := by decide +kernel
theorem dX2_stepsFrom_27 : decode cX2_stepsFrom 27 = .ok (.istore_n 2, 1) := by decide +kernel
theorem dX2_stepsFrom_28 : decode cX2_stepsFrom 28 = .ok (.iinc 3 1, 3) := by decide +kernel
theorem dX2_stepsFrom_31 : decode cX2_stepsFrom 31 = .ok (.goto (-27), 3) := by decide +kernel
theorem dX2_stepsFrom_34 : decode cX2_stepsFrom 34 = .ok (.iload_n 2, 1) := by decide +kernel
theorem dX2_stepsFrom_35 : decode cX2_stepsFrom 35 = .ok (.ireturn, 1) := by decide +kernel
theorem dX2_copyFrom_0 : decode cX2_copyFrom 0 = .ok (.aload_n 1, 1) := by decide +kernel
theorem dX2_copyFrom_1 : decode cX2_copyFrom 1 = .ok (.getfield 9, 3) := by decide +kernel
theorem dX2_copyFrom_4 : decode cX2_copyFrom 4 = .ok (.iconst 0, 1) := by decide +kernel
theorem dX2_copyFrom_5 : decode cX2_copyFrom 5 = .ok (.aload_n 0, 1) := by decide +kernel
theorem dX2_copyFrom_6 : decode cX2_copyFrom 6 = .ok (.getfield 9, 3) := by decide +kernel
theorem dX2_copyFrom_9 : decode cX2_copyFrom 9 = .ok (.iconst 0, 1) := by decide +kernel
theorem dX2_copyFrom_10 : decode cX2_copyFrom 10 = .ok (.iconst 5, 1) := by decide +kernel
theorem dX2_copyFrom_11 : decode cX2_copyFrom 11 = .ok (.invokestatic 52, 3) := by decide +kernel
theorem dX2_copyFrom_14 : decode cX2_copyFrom 14 = .ok (.return_, 1) := by decide +kernel
theorem dX2_copyTo_0 : decode cX2_copyTo 0 = .ok (.aload_n 0, 1) := by decide +kernel
theorem dX2_copyTo_1 : decode cX2_copyTo 1 = .ok (.getfield 9, 3) := by decide +kernel
theorem dX2_copyTo_4 : decode cX2_copyTo 4 = .ok (.iconst 0, 1) := by decide +kernel
theorem dX2_copyTo_5 : decode cX2_copyTo 5 = .ok (.aload_n 1, 1) := by decide +kernel
theorem dX2_copyTo_6 : decode cX2_copyTo 6 = .ok (.iconst 0, 1) := by decide +kernel
theorem dX2_copyTo_7 : decode cX2_copyTo 7 = .ok (.iconst 5, 1) := by decide +kernel
theorem dX2_copyTo_8 : decode cX2_copyTo 8 = .ok (.invokestatic 52, 3) := by decide +kernel
theorem dX2_copyTo_11 : decode cX2_copyTo 11 = .ok (.return_, 1) := by decide +kernel
theorem dX2_copyBack_0 : decode cX2_copyBack 0 = .ok (.aload_n 1, 1) := by decide +kernel
theorem dX2_copyBack_1 : decode cX2_copyBack 1 = .ok (.iconst 0, 1) := by decide +kernel
theorem dX2_copyBack_2 : decode cX2_copyBack 2 = .ok (.aload_n 0, 1) := by decide +kernel
theorem dX2_copyBack_3 : decode cX2_copyBack 3 = .ok (.getfield 9, 3) := by decide +kernel
theorem dX2_copyBack_6 : decode cX2_copyBack 6 = .ok (.iconst 0, 1) := by decide +kernel
theorem dX2_copyBack_7 : decode cX2_copyBack 7 = .ok (.iconst 5, 1) := by decide +kernel
theorem dX2_copyBack_8 : decode cX2_copyBack 8 = .ok (.invokestatic 52, 3) := by decide +kernel
theorem dX2_copyBack_11 : decode cX2_copyBack 11 = .ok (.return_, 1) := by decide +kernel
theorem dX3_init_0 : decode cX3_init 0 = .ok (.aload_n 0, 1) := by decide +kernel
theorem dX3_init_1 : decode cX3_init 1 = .ok (.invokespecial 3, 3) := by decide +kernel
theorem dX3_init_4 : decode cX3_init 4 = .ok (.aload_n 0, 1) := by decide +kernel
theorem dX3_init_5 : decode cX3_init 5 = .ok (.bipush 64, 2) := by decide +kernel
theorem dX3_init_7 : decode cX3_init 7 = .ok (.newarray .int, 2) := by decide +kernel
theorem dX3_init_9 : decode cX3_init 9 = .ok (.putfield 9, 3) := by decide +kernel
theorem dX3_init_12 : decode cX3_init 12 = .ok (.return_, 1) := by decide +kernel
theorem dX3_length_0 : decode cX3_length 0 = .ok (.aload_n 0, 1) := by decide +kernel
theorem dX3_length_1 : decode cX3_length 1 = .ok (.getfield 15, 3) := by decide +kernel
theorem dX3_length_4 : decode cX3_length 4 = .ok (.ireturn, 1) := by decide +kernel
theorem dX3_at_0 : decode cX3_at 0 = .ok (.iload_n 1, 1) := by decide +kernel
theorem dX3_at_1 : decode cX3_at 1 = .ok (.ifCond .lt 20, 3) := by decide +kernel
theorem dX3_at_4 : decode cX3_at 4 = .ok (.iload_n 1, 1) := by decide +kernel
theorem dX3_at_5 : decode cX3_at 5 = .ok (.aload_n 0, 1) := by decide +kernel
theorem dX3_at_6 : decode cX3_at 6 = .ok (.getfield 15, 3) := by decide +kernel
theorem dX3_at_9 : decode cX3_at 9 = .ok (.if_icmp .ge 12, 3) := by decide +kernel
theorem dX3_at_12 : decode cX3_at 12 = .ok (.aload_n 0, 1) := by decide +kernel
theorem dX3_at_13 : decode cX3_at 13 = .ok (.getfield 9, 3) := by decide +kernel
theorem dX3_at_16 : decode cX3_at 16 = .ok (.iload_n 1, 1) := by decide +kernel
theorem dX3_at_17 : decode cX3_at 17 = .ok (.iaload, 1) := by decide +kernel
theorem dX3_at_18 : decode cX3_at 18 = .ok (.goto 5, 3) := by decide +kernel
theorem dX3_at_21 : decode cX3_at 21 = .ok (.bipush (-9), 2) := by decide +kernel
theorem dX3_at_23 : decode cX3_at 23 = .ok (.ireturn, 1) := by decide +kernel
theorem dX3_append_0 : decode cX3_append 0 = .ok (.aload_n 0, 1) := by decide +kernel
theorem dX3_append_1 : decode cX3_append 1 = .ok (.getfield 15, 3) := by decide +kernel
theorem dX3_append_4 : decode cX3_append 4 = .ok (.bipush 64, 2) := by decide +kernel
theorem dX3_append_6 : decode cX3_append 6 = .ok (.if_icmp .lt 5, 3) := by decide +kernel
theorem dX3_append_9 : decode cX3_append 9 = .ok (.iconst 0, 1) := by decide +kernel
theorem dX3_append_10 : decode cX3_append 10 = .ok (.ireturn, 1) := by decide +kernel
theorem dX3_append_11 : decode cX3_append 11 = .ok (.aload_n 0, 1) := by decide +kernel
theorem dX3_append_12 : decode cX3_append 12 = .ok (.getfield 9, 3) := by decide +kernel
theorem dX3_append_15 : decode cX3_append 15 = .ok (.aload_n 0, 1) := by decide +kernel
theorem dX3_append_16 : decode cX3_append 16 = .ok (.getfield 15, 3) := by decide +kernel
theorem dX3_append_19 : decode cX3_append 19 = .ok (.iload_n 1, 1) := by decide +kernel
theorem dX3_append_20 : decode cX3_append 20 = .ok (.iastore, 1) := by decide +kernel
theorem dX3_append_21 : decode cX3_append 21 = .ok (.aload_n 0, 1) := by decide +kernel
theorem dX3_append_22 : decode cX3_append 22 = .ok (.dup, 1) := by decide +kernel
theorem dX3_append_23 : decode cX3_append 23 = .ok (.getfield 15, 3) := by decide +kernel
theorem dX3_append_26 : decode cX3_append 26 = .ok (.iconst 1, 1) := by decide +kernel
theorem dX3_append_27 : decode cX3_append 27 = .ok (.iadd, 1) := by decide +kernel
theorem dX3_append_28 : decode cX3_append 28 = .ok (.putfield 15, 3) := by decide +kernel
theorem dX3_append_31 : decode cX3_append 31 = .ok (.iconst 1, 1) := by decide +kernel
theorem dX3_append_32 : decode cX3_append 32 = .ok (.ireturn, 1) := by decide +kernel
theorem dX3_clear_0 : decode cX3_clear 0 = .ok (.aload_n 0, 1) := by decide +kernel
theorem dX3_clear_1 : decode cX3_clear 1 = .ok (.iconst 0, 1) := by decide +kernel
theorem dX3_clear_2 : decode cX3_clear 2 = .ok (.putfield 15, 3) := by decide +kernel
theorem dX3_clear_5 : decode cX3_clear 5 = .ok (.return_, 1) := by decide +kernel
theorem dX3_firstFault_0 : decode cX3_firstFault 0 = .ok (.iconst 0, 1) := by decide +kernel
theorem dX3_firstFault_1 : decode cX3_firstFault 1 = .ok (.istore_n 1, 1) := by decide +kernel
theorem dX3_firstFault_2 : decode cX3_firstFault 2 = .ok (.iload_n 1, 1) := by decide +kernel
theorem dX3_firstFault_3 : decode cX3_firstFault 3 = .ok (.aload_n 0, 1) := by decide +kernel
theorem dX3_firstFault_4 : decode cX3_firstFault 4 = .ok (.getfield 15, 3) := by decide +kernel
theorem dX3_firstFault_7 : decode cX3_firstFault 7 = .ok (.if_icmp .ge 24, 3) := by decide +kernel
theorem dX3_firstFault_10 : decode cX3_firstFault 10 = .ok (.aload_n 0, 1) := by decide +kernel
theorem dX3_firstFault_11 : decode cX3_firstFault 11 = .ok (.getfield 9, 3) := by decide +kernel
theorem dX3_firstFault_14 : decode cX3_firstFault 14 = .ok (.iload_n 1, 1) := by decide +kernel
theorem dX3_firstFault_15 : decode cX3_firstFault 15 = .ok (.iaload, 1) := by decide +kernel
theorem dX3_firstFault_16 : decode cX3_firstFault 16 = .ok (.iload_n 1, 1) := by decide +kernel
theorem dX3_firstFault_17 : decode cX3_firstFault 17 = .ok (.invokestatic 19, 3) := by decide +kernel
theorem dX3_firstFault_20 : decode cX3_firstFault 20 = .ok (.ifCond .ne 5, 3) := by decide +kernel
theorem dX3_firstFault_23 : decode cX3_firstFault 23 = .ok (.iload_n 1, 1) := by decide +kernel
theorem dX3_firstFault_24 : decode cX3_firstFault 24 = .ok (.ireturn, 1) := by decide +kernel
theorem dX3_firstFault_25 : decode cX3_firstFault 25 = .ok (.iinc 1 1, 3) := by decide +kernel
theorem dX3_firstFault_28 : decode cX3_firstFault 28 = .ok (.goto (-26), 3) := by decide +kernel
theorem dX3_firstFault_31 : decode cX3_firstFault 31 = .ok (.aload_n 0, 1) := by decide +kernel
theorem dX3_firstFault_32 : decode cX3_firstFault 32 = .ok (.getfield 15, 3) := by decide +kernel
theorem dX3_firstFault_35 : decode cX3_firstFault 35 = .ok (.bipush 10, 2) := by decide +kernel
theorem dX3_firstFault_37 : decode cX3_firstFault 37 = .ok (.irem, 1) := by decide +kernel
theorem dX3_firstFault_38 : decode cX3_firstFault 38 = .ok (.iconst 1, 1) := by decide +kernel
theorem dX3_firstFault_39 : decode cX3_firstFault 39 = .ok (.if_icmp .ne 8, 3) := by decide +kernel
theorem dX3_firstFault_42 : decode cX3_firstFault 42 = .ok (.bipush (-9), 2) := by decide +kernel
theorem dX3_firstFault_44 : decode cX3_firstFault 44 = .ok (.goto 7, 3) := by decide +kernel
theorem dX3_firstFault_47 : decode cX3_firstFault 47 = .ok (.aload_n 0, 1) := by decide +kernel
theorem dX3_firstFault_48 : decode cX3_firstFault 48 = .ok (.getfield 15, 3) := by decide +kernel
theorem dX3_firstFault_51 : decode cX3_firstFault 51 = .ok (.ireturn, 1) := by decide +kernel
theorem dX3_canStand_0 : decode cX3_canStand 0 = .ok (.iload_n 1, 1) := by decide +kernel
theorem dX3_canStand_1 : decode cX3_canStand 1 = .ok (.ifCond .ne 15, 3) := by decide +kernel
theorem dX3_canStand_4 : decode cX3_canStand 4 = .ok (.iload_n 0, 1) := by decide +kernel
theorem dX3_canStand_5 : decode cX3_canStand 5 = .ok (.bipush 70, 2) := by decide +kernel
theorem dX3_canStand_7 : decode cX3_canStand 7 = .ok (.if_icmp .ne 7, 3) := by decide +kernel
theorem dX3_canStand_10 : decode cX3_canStand 10 = .ok (.iconst 1, 1) := by decide +kernel
theorem dX3_canStand_11 : decode cX3_canStand 11 = .ok (.goto 4, 3) := by decide +kernel
theorem dX3_canStand_14 : decode cX3_canStand 14 = .ok (.iconst 0, 1) := by decide +kernel
theorem dX3_canStand_15 : decode cX3_canStand 15 = .ok (.ireturn, 1) := by decide +kernel
theorem dX3_canStand_16 : decode cX3_canStand 16 = .ok (.iload_n 1, 1) := by decide +kernel
theorem dX3_canStand_17 : decode cX3_canStand 17 = .ok (.bipush 60, 2) := by decide +kernel
theorem dX3_canStand_19 : decode cX3_canStand 19 = .ok (.if_icmp .le 5, 3) := by decide +kernel
theorem dX3_canStand_22 : decode cX3_canStand 22 = .ok (.iconst 0, 1) := by decide +kernel
theorem dX3_canStand_23 : decode cX3_canStand 23 = .ok (.ireturn, 1) := by decide +kernel
theorem dX3_canStand_24 : decode cX3_canStand 24 = .ok (.iload_n 1, 1) := by decide +kernel
theorem dX3_canStand_25 : decode cX3_canStand 25 = .ok (.iconst 1, 1) := by decide +kernel
theorem dX3_canStand_26 : decode cX3_canStand 26 = .ok (.isub, 1) := by decide +kernel
theorem dX3_canStand_27 : decode cX3_canStand 27 = .ok (.bipush 10, 2) := by decide +kernel
theorem dX3_canStand_29 : decode cX3_canStand 29 = .ok (.irem, 1) := by decide +kernel
theorem dX3_canStand_30 : decode cX3_canStand 30 = .ok (.lookupswitch 56 #[(0, 26), (1, 38)], 26) := by decide +kernel
theorem dX3_canStand_56 : decode cX3_canStand 56 = .ok (.iload_n 0, 1) := by decide +kernel
theorem dX3_canStand_57 : decode cX3_canStand 57 = .ok (.bipush 66, 2) := by decide +kernel
theorem dX3_canStand_59 : decode cX3_canStand 59 = .ok (.if_icmp .ne 7, 3) := by decide +kernel
theorem dX3_canStand_62 : decode cX3_canStand 62 = .ok (.iconst 1, 1) := by decide +kernel
theorem dX3_canStand_63 : decode cX3_canStand 63 = .ok (.goto 4, 3) := by decide +kernel
theorem dX3_canStand_66 : decode cX3_canStand 66 = .ok (.iconst 0, 1) := by decide +kernel
theorem dX3_canStand_67 : decode cX3_canStand 67 = .ok (.ireturn, 1) := by decide +kernel
theorem dX3_canStand_68 : decode cX3_canStand 68 = .ok (.iload_n 0, 1) := by decide +kernel
theorem dX3_canStand_69 : decode cX3_canStand 69 = .ok (.bipush 48, 2) := by decide +kernel
theorem dX3_canStand_71 : decode cX3_canStand 71 = .ok (.if_icmp .lt 13, 3) := by decide +kernel
theorem dX3_canStand_74 : decode cX3_canStand 74 = .ok (.iload_n 0, 1) := by decide +kernel
theorem dX3_canStand_75 : decode cX3_canStand 75 = .ok (.bipush 51, 2) := by decide +kernel
theorem dX3_canStand_77 : decode cX3_canStand 77 = .ok (.if_icmp .gt 7, 3) := by decide +kernel
theorem dX3_canStand_80 : decode cX3_canStand 80 = .ok (.iconst 1, 1) := by decide +kernel
theorem dX3_canStand_81 : decode cX3_canStand 81 = .ok (.goto 4, 3) := by decide +kernel
theorem dX3_canStand_84 : decode cX3_canStand 84 = .ok (.iconst 0, 1) := by decide +kernel
theorem dX3_canStand_85 : decode cX3_canStand 85 = .ok (.ireturn, 1) := by decide +kernel
theorem dX3_canStand_86 : decode cX3_canStand 86 = .ok (.iload_n 0, 1) := by decide +kernel
theorem dX3_canStand_87 : decode cX3_canStand 87 = .ok (.invokestatic 23, 3) := by decide +kernel
theorem dX3_canStand_90 : decode cX3_canStand 90 = .ok (.ireturn, 1) := by decide +kernel
theorem dX4_init_0 : decode cX4_init 0 = .ok (.aload_n 0, 1) := by decide +kernel
theorem dX4_init_1 : decode cX4_init 1 = .ok (.invokespecial 3, 3) := by decide +kernel
theorem dX4_init_4 : decode cX4_init 4 = .ok (.aload_n 0, 1) := by decide +kernel
theorem dX4_init_5 : decode cX4_init 5 = .ok (.iconst 2, 1) := by decide +kernel
theorem dX4_init_6 : decode cX4_init 6 = .ok (.iconst 5, 1) := by decide +kernel
theorem dX4_init_7 : decode cX4_init 7 = .ok (.multianewarray 9 2, 4) := by decide +kernel
theorem dX4_init_11 : decode cX4_init 11 = .ok (.putfield 11, 3) := by decide +kernel
theorem dX4_init_14 : decode cX4_init 14 = .ok (.aload_n 0, 1) := by decide +kernel
theorem dX4_init_15 : decode cX4_init 15 = .ok (.iconst 2, 1) := by decide +kernel
theorem dX4_init_16 : decode cX4_init 16 = .ok (.newarray .boolean, 2) := by decide +kernel
theorem dX4_init_18 : decode cX4_init 18 = .ok (.putfield 16, 3) := by decide +kernel
theorem dX4_init_21 : decode cX4_init 21 = .ok (.return_, 1) := by decide +kernel
theorem dX4_has_0 : decode cX4_has 0 = .ok (.iload_n 1, 1) := by decide +kernel
theorem dX4_has_1 : decode cX4_has 1 = .ok (.ifCond .lt 12, 3) := by decide +kernel
theorem dX4_has_4 : decode cX4_has 4 = .ok (.iload_n 1, 1) := by decide +kernel
theorem dX4_has_5 : decode cX4_has 5 = .ok (.iconst 2, 1) := by decide +kernel
theorem dX4_has_6 : decode cX4_has 6 = .ok (.if_icmp .ge 7, 3) := by decide +kernel
theorem dX4_has_9 : decode cX4_has 9 = .ok (.iconst 1, 1) := by decide +kernel
theorem dX4_has_10 : decode cX4_has 10 = .ok (.goto 4, 3) := by decide +kernel
theorem dX4_has_13 : decode cX4_has 13 = .ok (.iconst 0, 1) := by decide +kernel
theorem dX4_has_14 : decode cX4_has 14 = .ok (.ireturn, 1) := by decide +kernel
theorem dX4_clear_0 : decode cX4_clear 0 = .ok (.iconst 0, 1) := by decide +kernel
theorem dX4_clear_1 : decode cX4_clear 1 = .ok (.istore_n 1, 1) := by decide +kernel
theorem dX4_clear_2 : decode cX4_clear 2 = .ok (.iload_n 1, 1) := by decide +kernel
theorem dX4_clear_3 : decode cX4_clear 3 = .ok (.iconst 2, 1) := by decide +kernel
theorem dX4_clear_4 : decode cX4_clear 4 = .ok (.if_icmp .ge 16, 3) := by decide +kernel
theorem dX4_clear_7 : decode cX4_clear 7 = .ok (.aload_n 0, 1) := by decide +kernel
theorem dX4_clear_8 : decode cX4_clear 8 = .ok (.getfield 16, 3) := by decide +kernel
theorem dX4_clear_11 : decode cX4_clear 11 = .ok (.iload_n 1, 1) := by decide +kernel
theorem dX4_clear_12 : decode cX4_clear 12 = .ok (.iconst 0, 1) := by decide +kernel
theorem dX4_clear_13 : decode cX4_clear 13 = .ok (.bastore, 1) := by decide +kernel
theorem dX4_clear_14 : decode cX4_clear 14 = .ok (.iinc 1 1, 3) := by decide +kernel
theorem dX4_clear_17 : decode cX4_clear 17 = .ok (.goto (-15), 3) := by decide +kernel
theorem dX4_clear_20 : decode cX4_clear 20 = .ok (.return_, 1) := by decide +kernel
theorem dX4_store_0 : decode cX4_store 0 = .ok (.aload_n 0, 1) := by decide +kernel
theorem dX4_store_1 : decode cX4_store 1 = .ok (.iload_n 1, 1) := by decide +kernel
theorem dX4_store_2 : decode cX4_store 2 = .ok (.invokevirtual 20, 3) := by decide +kernel
theorem dX4_store_5 : decode cX4_store 5 = .ok (.ifCond .ne 5, 3) := by decide +kernel
theorem dX4_store_8 : decode cX4_store 8 = .ok (.iconst 0, 1) := by decide +kernel
theorem dX4_store_9 : decode cX4_store 9 = .ok (.ireturn, 1) := by decide +kernel
theorem dX4_store_10 : decode cX4_store 10 = .ok (.aload_n 2, 1) := by decide +kernel
theorem dX4_store_11 : decode cX4_store 11 = .ok (.aload_n 0, 1) := by decide +kernel
theorem dX4_store_12 : decode cX4_store 12 = .ok (.getfield 11, 3) := by decide +kernel
theorem dX4_store_15 : decode cX4_store 15 = .ok (.iload_n 1, 1) := by decide +kernel
theorem dX4_store_16 : decode cX4_store 16 = .ok (.aaload, 1) := by decide +kernel
theorem dX4_store_17 : decode cX4_store 17 = .ok (.invokevirtual 24, 3) := by decide +kernel
theorem dX4_store_20 : decode cX4_store 20 = .ok (.aload_n 0, 1) := by decide +kernel
theorem dX4_store_21 : decode cX4_store 21 = .ok (.getfield 16, 3) := by decide +kernel
theorem dX4_store_24 : decode cX4_store 24 = .ok (.iload_n 1, 1) := by decide +kernel
theorem dX4_store_25 : decode cX4_store 25 = .ok (.iconst 1, 1) := by decide +kernel
theorem dX4_store_26 : decode cX4_store 26 = .ok (.bastore, 1) := by decide +kernel
theorem dX4_store_27 : decode cX4_store 27 = .ok (.iconst 1, 1) := by decide +kernel
theorem dX4_store_28 : decode cX4_store 28 = .ok (.ireturn, 1) := by decide +kernel
theorem dX4_restore_0 : decode cX4_restore 0 = .ok (.aload_n 0, 1) := by decide +kernel
theorem dX4_restore_1 : decode cX4_restore 1 = .ok (.iload_n 1, 1) := by decide +kernel
theorem dX4_restore_2 : decode cX4_restore 2 = .ok (.invokevirtual 20, 3) := by decide +kernel
theorem dX4_restore_5 : decode cX4_restore 5 = .ok (.ifCond .eq 12, 3) := by decide +kernel
theorem dX4_restore_8 : decode cX4_restore 8 = .ok (.aload_n 0, 1) := by decide +kernel
theorem dX4_restore_9 : decode cX4_restore 9 = .ok (.getfield 16, 3) := by decide +kernel
theorem dX4_restore_12 : decode cX4_restore 12 = .ok (.iload_n 1, 1) := by decide +kernel
theorem dX4_restore_13 : decode cX4_restore 13 = .ok (.baload, 1) := by decide +kernel
theorem dX4_restore_14 : decode cX4_restore 14 = .ok (.ifCond .ne 5, 3) := by decide +kernel
theorem dX4_restore_17 : decode cX4_restore 17 = .ok (.iconst 0, 1) := by decide +kernel
theorem dX4_restore_18 : decode cX4_restore 18 = .ok (.ireturn, 1) := by decide +kernel
theorem dX4_restore_19 : decode cX4_restore 19 = .ok (.aload_n 2, 1) := by decide +kernel
theorem dX4_restore_20 : decode cX4_restore 20 = .ok (.aload_n 0, 1) := by decide +kernel
theorem dX4_restore_21 : decode cX4_restore 21 = .ok (.getfield 11, 3) := by decide +kernel
theorem dX4_restore_24 : decode cX4_restore 24 = .ok (.iload_n 1, 1) := by decide +kernel
theorem dX4_restore_25 : decode cX4_restore 25 = .ok (.aaload, 1) := by decide +kernel
theorem dX4_restore_26 : decode cX4_restore 26 = .ok (.invokevirtual 30, 3) := by decide +kernel
theorem dX4_restore_29 : decode cX4_restore 29 = .ok (.iconst 1, 1) := by decide +kernel
theorem dX4_restore_30 : decode cX4_restore 30 = .ok (.ireturn, 1) := by decide +kernel
theorem dX5_init_0 : decode cX5_init 0 = .ok (.aload_n 0, 1) := by decide +kernel
theorem dX5_init_1 : decode cX5_init 1 = .ok (.invokespecial 3, 3) := by decide +kernel
theorem dX5_init_4 : decode cX5_init 4 = .ok (.aload_n 0, 1) := by decide +kernel
theorem dX5_init_5 : decode cX5_init 5 = .ok (.bipush 6, 2) := by decide +kernel
theorem dX5_init_7 : decode cX5_init 7 = .ok (.newarray .int, 2) := by decide +kernel
theorem dX5_init_9 : decode cX5_init 9 = .ok (.putfield 9, 3) := by decide +kernel
theorem dX5_init_12 : decode cX5_init 12 = .ok (.aload_n 0, 1) := by decide +kernel
theorem dX5_init_13 : decode cX5_init 13 = .ok (.bipush 6, 2) := by decide +kernel
theorem dX5_init_15 : decode cX5_init 15 = .ok (.newarray .int, 2) := by decide +kernel
theorem dX5_init_17 : decode cX5_init 17 = .ok (.putfield 15, 3) := by decide +kernel
theorem dX5_init_20 : decode cX5_init 20 = .ok (.aload_n 0, 1) := by decide +kernel
theorem dX5_init_21 : decode cX5_init 21 = .ok (.bipush 6, 2) := by decide +kernel
theorem dX5_init_23 : decode cX5_init 23 = .ok (.newarray .boolean, 2) := by decide +kernel
theorem dX5_init_25 : decode cX5_init 25 = .ok (.putfield 18, 3) := by decide +kernel
theorem dX5_init_28 : decode cX5_init 28 = .ok (.return_, 1) := by decide +kernel
theorem dX5_size_0 : decode cX5_size 0 = .ok (.aload_n 0, 1) := by decide +kernel
theorem dX5_size_1 : decode cX5_size 1 = .ok (.getfield 22, 3) := by decide +kernel
theorem dX5_size_4 : decode cX5_size 4 = .ok (.ireturn, 1) := by decide +kernel
theorem dX5_clear_0 : decode cX5_clear 0 = .ok (.aload_n 0, 1) := by decide +kernel
theorem dX5_clear_1 : decode cX5_clear 1 = .ok (.iconst 0, 1) := by decide +kernel
theorem dX5_clear_2 : decode cX5_clear 2 = .ok (.putfield 22, 3) := by decide +kernel
theorem dX5_clear_5 : decode cX5_clear 5 = .ok (.return_, 1) := by decide +kernel
theorem dX5_add_0 : decode cX5_add 0 = .ok (.aload_n 0, 1) := by decide +kernel
theorem dX5_add_1 : decode cX5_add 1 = .ok (.getfield 22, 3) := by decide +kernel
theorem dX5_add_4 : decode cX5_add 4 = .ok (.bipush 6, 2) := by decide +kernel
theorem dX5_add_6 : decode cX5_add 6 = .ok (.if_icmp .lt 5, 3) := by decide +kernel
theorem dX5_add_9 : decode cX5_add 9 = .ok (.iconst 0, 1) := by decide +kernel
theorem dX5_add_10 : decode cX5_add 10 = .ok (.ireturn, 1) := by decide +kernel
theorem dX5_add_11 : decode cX5_add 11 = .ok (.aload_n 0, 1) := by decide +kernel
theorem dX5_add_12 : decode cX5_add 12 = .ok (.getfield 9, 3) := by decide +kernel
theorem dX5_add_15 : decode cX5_add 15 = .ok (.aload_n 0, 1) := by decide +kernel
theorem dX5_add_16 : decode cX5_add 16 = .ok (.getfield 22, 3) := by decide +kernel
theorem dX5_add_19 : decode cX5_add 19 = .ok (.iload_n 1, 1) := by decide +kernel
theorem dX5_add_20 : decode cX5_add 20 = .ok (.iastore, 1) := by decide +kernel
theorem dX5_add_21 : decode cX5_add 21 = .ok (.aload_n 0, 1) := by decide +kernel
theorem dX5_add_22 : decode cX5_add 22 = .ok (.getfield 15, 3) := by decide +kernel
theorem dX5_add_25 : decode cX5_add 25 = .ok (.aload_n 0, 1) := by decide +kernel
theorem dX5_add_26 : decode cX5_add 26 = .ok (.getfield 22, 3) := by decide +kernel
theorem dX5_add_29 : decode cX5_add 29 = .ok (.iload_n 2, 1) := by decide +kernel
theorem dX5_add_30 : decode cX5_add 30 = .ok (.iastore, 1) := by decide +kernel
theorem dX5_add_31 : decode cX5_add 31 = .ok (.aload_n 0, 1) := by decide +kernel
theorem dX5_add_32 : decode cX5_add 32 = .ok (.getfield 18, 3) := by decide +kernel
theorem dX5_add_35 : decode cX5_add 35 = .ok (.aload_n 0, 1) := by decide +kernel
theorem dX5_add_36 : decode cX5_add 36 = .ok (.getfield 22, 3) := by decide +kernel
theorem dX5_add_39 : decode cX5_add 39 = .ok (.iload_n 3, 1) := by decide +kernel
theorem dX5_add_40 : decode cX5_add 40 = .ok (.bastore, 1) := by decide +kernel
theorem dX5_add_41 : decode cX5_add 41 = .ok (.aload_n 0, 1) := by decide +kernel
theorem dX5_add_42 : decode cX5_add 42 = .ok (.dup, 1) := by decide +kernel
theorem dX5_add_43 : decode cX5_add 43 = .ok (.getfield 22, 3) := by decide +kernel
theorem dX5_add_46 : decode cX5_add 46 = .ok (.iconst 1, 1) := by decide +kernel
theorem dX5_add_47 : decode cX5_add 47 = .ok (.iadd, 1) := by decide +kernel
theorem dX5_add_48 : decode cX5_add 48 = .ok (.putfield 22, 3) := by decide +kernel
theorem dX5_add_51 : decode cX5_add 51 = .ok (.iconst 1, 1) := by decide +kernel
theorem dX5_add_52 : decode cX5_add 52 = .ok (.ireturn, 1) := by decide +kernel
theorem dX5_fits_0 : decode cX5_fits 0 = .ok (.iconst 0, 1) := by decide +kernel
theorem dX5_fits_1 : decode cX5_fits 1 = .ok (.istore_n 2, 1) := by decide +kernel
theorem dX5_fits_2 : decode cX5_fits 2 = .ok (.iload_n 2, 1) := by decide +kernel
theorem dX5_fits_3 : decode cX5_fits 3 = .ok (.aload_n 0, 1) := by decide +kernel
theorem dX5_fits_4 : decode cX5_fits 4 = .ok (.getfield 22, 3) := by decide +kernel
theorem dX5_fits_7 : decode cX5_fits 7 = .ok (.if_icmp .ge 44, 3) := by decide +kernel
theorem dX5_fits_10 : decode cX5_fits 10 = .ok (.aload_n 1, 1) := by decide +kernel
theorem dX5_fits_11 : decode cX5_fits 11 = .ok (.aload_n 0, 1) := by decide +kernel
theorem dX5_fits_12 : decode cX5_fits 12 = .ok (.getfield 9, 3) := by decide +kernel
theorem dX5_fits_15 : decode cX5_fits 15 = .ok (.iload_n 2, 1) := by decide +kernel
theorem dX5_fits_16 : decode cX5_fits 16 = .ok (.iaload, 1) := by decide +kernel
theorem dX5_fits_17 : decode cX5_fits 17 = .ok (.invokevirtual 26, 3) := by decide +kernel
theorem dX5_fits_20 : decode cX5_fits 20 = .ok (.aload_n 0, 1) := by decide +kernel
theorem dX5_fits_21 : decode cX5_fits 21 = .ok (.getfield 15, 3) := by decide +kernel
theorem dX5_fits_24 : decode cX5_fits 24 = .ok (.iload_n 2, 1) := by decide +kernel
theorem dX5_fits_25 : decode cX5_fits 25 = .ok (.iaload, 1) := by decide +kernel
theorem dX5_fits_26 : decode cX5_fits 26 = .ok (.if_icmp .ne 7, 3) := by decide +kernel
theorem dX5_fits_29 : decode cX5_fits 29 = .ok (.iconst 1, 1) := by decide +kernel
theorem dX5_fits_30 : decode cX5_fits 30 = .ok (.goto 4, 3) := by decide +kernel
theorem dX5_fits_33 : decode cX5_fits 33 = .ok (.iconst 0, 1) := by decide +kernel
theorem dX5_fits_34 : decode cX5_fits 34 = .ok (.aload_n 0, 1) := by decide +kernel
theorem dX5_fits_35 : decode cX5_fits 35 = .ok (.getfield 18, 3) := by decide +kernel
theorem dX5_fits_38 : decode cX5_fits 38 = .ok (.iload_n 2, 1) := by decide +kernel
theorem dX5_fits_39 : decode cX5_fits 39 = .ok (.baload, 1) := by decide +kernel
theorem dX5_fits_40 : decode cX5_fits 40 = .ok (.if_icmp .eq 5, 3) := by decide +kernel
theorem dX5_fits_43 : decode cX5_fits 43 = .ok (.iconst 0, 1) := by decide +kernel
theorem dX5_fits_44 : decode cX5_fits 44 = .ok (.ireturn, 1) := by decide +kernel
theorem dX5_fits_45 : decode cX5_fits 45 = .ok (.iinc 2 1, 3) := by decide +kernel
theorem dX5_fits_48 : decode cX5_fits 48 = .ok (.goto (-46), 3) := by decide +kernel
theorem dX5_fits_51 : decode cX5_fits 51 = .ok (.iconst 1, 1) := by decide +kernel
theorem dX5_fits_52 : decode cX5_fits 52 = .ok (.ireturn, 1) := by decide +kernel
theorem dX6_init_0 : decode cX6_init 0 = .ok (.aload_n 0, 1) := by decide +kernel
theorem dX6_init_1 : decode cX6_init 1 = .ok (.invokespecial 3, 3) := by decide +kernel
theorem dX6_init_4 : decode cX6_init 4 = .ok (.aload_n 0, 1) := by decide +kernel
theorem dX6_init_5 : decode cX6_init 5 = .ok (.bipush 7, 2) := by decide +kernel
theorem dX6_init_7 : decode cX6_init 7 = .ok (.bipush 28, 2) := by decide +kernel
theorem dX6_init_9 : decode cX6_init 9 = .ok (.multianewarray 9 2, 4) := by decide +kernel
theorem dX6_init_13 : decode cX6_init 13 = .ok (.putfield 11, 3) := by decide +kernel
theorem dX6_init_16 : decode cX6_init 16 = .ok (.aload_n 0, 1) := by decide +kernel
theorem dX6_init_17 : decode cX6_init 17 = .ok (.bipush 6, 2) := by decide +kernel
theorem dX6_init_19 : decode cX6_init 19 = .ok (.newarray .int, 2) := by decide +kernel
theorem dX6_init_21 : decode cX6_init 21 = .ok (.putfield 16, 3) := by decide +kernel
theorem dX6_init_24 : decode cX6_init 24 = .ok (.aload_n 0, 1) := by decide +kernel
theorem dX6_init_25 : decode cX6_init 25 = .ok (.aload_n 1, 1) := by decide +kernel
theorem dX6_init_26 : decode cX6_init 26 = .ok (.putfield 20, 3) := by decide +kernel
theorem dX6_init_29 : decode cX6_init 29 = .ok (.aload_n 0, 1) := by decide +kernel
theorem dX6_init_30 : decode cX6_init 30 = .ok (.getfield 11, 3) := by decide +kernel
theorem dX6_init_33 : decode cX6_init 33 = .ok (.iconst 0, 1) := by decide +kernel
theorem dX6_init_34 : decode cX6_init 34 = .ok (.aaload, 1) := by decide +kernel
theorem dX6_init_35 : decode cX6_init 35 = .ok (.bipush (-9), 2) := by decide +kernel
theorem dX6_init_37 : decode cX6_init 37 = .ok (.invokestatic 24, 3) := by decide +kernel
theorem dX6_init_40 : decode cX6_init 40 = .ok (.return_, 1) := by decide +kernel
theorem dX6_side_0 : decode cX6_side 0 = .ok (.aload_n 0, 1) := by decide +kernel
theorem dX6_side_1 : decode cX6_side 1 = .ok (.getfield 30, 3) := by decide +kernel
theorem dX6_side_4 : decode cX6_side 4 = .ok (.ireturn, 1) := by decide +kernel
theorem dX6_layAll_0 : decode cX6_layAll 0 = .ok (.aload_n 0, 1) := by decide +kernel
theorem dX6_layAll_1 : decode cX6_layAll 1 = .ok (.iload_n 2, 1) := by decide +kernel
theorem dX6_layAll_2 : decode cX6_layAll 2 = .ok (.putfield 30, 3) := by decide +kernel
theorem dX6_layAll_5 : decode cX6_layAll 5 = .ok (.aload_n 0, 1) := by decide +kernel
theorem dX6_layAll_6 : decode cX6_layAll 6 = .ok (.iconst 0, 1) := by decide +kernel
theorem dX6_layAll_7 : decode cX6_layAll 7 = .ok (.aload_n 1, 1) := by decide +kernel
theorem dX6_layAll_8 : decode cX6_layAll 8 = .ok (.bipush 63, 2) := by decide +kernel
theorem dX6_layAll_10 : decode cX6_layAll 10 = .ok (.invokevirtual 34, 3) := by decide +kernel
theorem dX6_layAll_13 : decode cX6_layAll 13 = .ok (.return_, 1) := by decide +kernel
theorem dX6_layStaying_0 : decode cX6_layStaying 0 = .ok (.aload_n 0, 1) := by decide +kernel
theorem dX6_layStaying_1 : decode cX6_layStaying 1 = .ok (.iload_n 2, 1) := by decide +kernel
theorem dX6_layStaying_2 : decode cX6_layStaying 2 = .ok (.putfield 30, 3) := by decide +kernel
theorem dX6_layStaying_5 : decode cX6_layStaying 5 = .ok (.aload_n 0, 1) := by decide +kernel
theorem dX6_layStaying_6 : decode cX6_layStaying 6 = .ok (.iconst 0, 1) := by decide +kernel
theorem dX6_layStaying_7 : decode cX6_layStaying 7 = .ok (.aload_n 1, 1) := by decide +kernel
theorem dX6_layStaying_8 : decode cX6_layStaying 8 = .ok (.iload_n 3, 1) := by decide +kernel
theorem dX6_layStaying_9 : decode cX6_layStaying 9 = .ok (.invokevirtual 34, 3) := by decide +kernel
theorem dX6_layStaying_12 : decode cX6_layStaying 12 = .ok (.return_, 1) := by decide +kernel
theorem dX6_layFrom_0 : decode cX6_layFrom 0 = .ok (.aload_n 0, 1) := by decide +kernel
theorem dX6_layFrom_1 : decode cX6_layFrom 1 = .ok (.aload_n 0, 1) := by decide +kernel
theorem dX6_layFrom_2 : decode cX6_layFrom 2 = .ok (.getfield 20, 3) := by decide +kernel
theorem dX6_layFrom_5 : decode cX6_layFrom 5 = .ok (.invokevirtual 38, 3) := by decide +kernel
theorem dX6_layFrom_8 : decode cX6_layFrom 8 = .ok (.putfield 44, 3) := by decide +kernel
theorem dX6_layFrom_11 : decode cX6_layFrom 11 = .ok (.iconst 0, 1) := by decide +kernel
theorem dX6_layFrom_12 : decode cX6_layFrom 12 = .ok (.iload_n 1, 1) := by decide +kernel
theorem dX6_layFrom_13 : decode cX6_layFrom 13 = .ok (.invokestatic 47, 3) := by decide +kernel
theorem dX6_layFrom_16 : decode cX6_layFrom 16 = .ok (.istore 4, 2) := by decide +kernel
theorem dX6_layFrom_18 : decode cX6_layFrom 18 = .ok (.iload 4, 2) := by decide +kernel
theorem dX6_layFrom_20 : decode cX6_layFrom 20 = .ok (.aload_n 0, 1) := by decide +kernel
theorem dX6_layFrom_21 : decode cX6_layFrom 21 = .ok (.getfield 44, 3) := by decide +kernel
theorem dX6_layFrom_24 : decode cX6_layFrom 24 = .ok (.if_icmp .ge 98, 3) := by decide +kernel
theorem dX6_layFrom_27 : decode cX6_layFrom 27 = .ok (.iload 4, 2) := by decide +kernel
theorem dX6_layFrom_29 : decode cX6_layFrom 29 = .ok (.bipush 6, 2) := by decide +kernel
theorem dX6_layFrom_31 : decode cX6_layFrom 31 = .ok (.if_icmp .ge 91, 3) := by decide +kernel
theorem dX6_layFrom_34 : decode cX6_layFrom 34 = .ok (.aload_n 0, 1) := by decide +kernel
theorem dX6_layFrom_35 : decode cX6_layFrom 35 = .ok (.getfield 16, 3) := by decide +kernel
theorem dX6_layFrom_38 : decode cX6_layFrom 38 = .ok (.iload 4, 2) := by decide +kernel
theorem dX6_layFrom_40 : decode cX6_layFrom 40 = .ok (.iload 4, 2) := by decide +kernel
theorem dX6_layFrom_42 : decode cX6_layFrom 42 = .ok (.ifCond .ne 7, 3) := by decide +kernel
theorem dX6_layFrom_45 : decode cX6_layFrom 45 = .ok (.iconst 0, 1) := by decide +kernel
theorem dX6_layFrom_46 : decode cX6_layFrom 46 = .ok (.goto 21, 3) := by decide +kernel
theorem dX6_layFrom_49 : decode cX6_layFrom 49 = .ok (.aload_n 0, 1) := by decide +kernel
theorem dX6_layFrom_50 : decode cX6_layFrom 50 = .ok (.getfield 16, 3) := by decide +kernel
theorem dX6_layFrom_53 : decode cX6_layFrom 53 = .ok (.iload 4, 2) := by decide +kernel
theorem dX6_layFrom_55 : decode cX6_layFrom 55 = .ok (.iconst 1, 1) := by decide +kernel
theorem dX6_layFrom_56 : decode cX6_layFrom 56 = .ok (.isub, 1) := by decide +kernel
theorem dX6_layFrom_57 : decode cX6_layFrom 57 = .ok (.iaload, 1) := by decide +kernel
theorem dX6_layFrom_58 : decode cX6_layFrom 58 = .ok (.aload_n 2, 1) := by decide +kernel
theorem dX6_layFrom_59 : decode cX6_layFrom 59 = .ok (.iload 4, 2) := by decide +kernel
theorem dX6_layFrom_61 : decode cX6_layFrom 61 = .ok (.iconst 1, 1) := by decide +kernel
theorem dX6_layFrom_62 : decode cX6_layFrom 62 = .ok (.isub, 1) := by decide +kernel
theorem dX6_layFrom_63 : decode cX6_layFrom 63 = .ok (.invokevirtual 53, 3) := by decide +kernel
theorem dX6_layFrom_66 : decode cX6_layFrom 66 = .ok (.iadd, 1) := by decide +kernel
theorem dX6_layFrom_67 : decode cX6_layFrom 67 = .ok (.iastore, 1) := by decide +kernel
theorem dX6_layFrom_68 : decode cX6_layFrom 68 = .ok (.aload_n 0, 1) := by decide +kernel
theorem dX6_layFrom_69 : decode cX6_layFrom 69 = .ok (.getfield 11, 3) := by decide +kernel
theorem dX6_layFrom_72 : decode cX6_layFrom 72 = .ok (.iload 4, 2) := by decide +kernel
theorem dX6_layFrom_74 : decode cX6_layFrom 74 = .ok (.aaload, 1) := by decide +kernel
theorem dX6_layFrom_75 : decode cX6_layFrom 75 = .ok (.iconst 0, 1) := by decide +kernel
theorem dX6_layFrom_76 : decode cX6_layFrom 76 = .ok (.aload_n 0, 1) := by decide +kernel
theorem dX6_layFrom_77 : decode cX6_layFrom 77 = .ok (.getfield 11, 3) := by decide +kernel
theorem dX6_layFrom_80 : decode cX6_layFrom 80 = .ok (.iload 4, 2) := by decide +kernel
theorem dX6_layFrom_82 : decode cX6_layFrom 82 = .ok (.iconst 1, 1) := by decide +kernel
theorem dX6_layFrom_83 : decode cX6_layFrom 83 = .ok (.iadd, 1) := by decide +kernel
theorem dX6_layFrom_84 : decode cX6_layFrom 84 = .ok (.aaload, 1) := by decide +kernel
theorem dX6_layFrom_85 : decode cX6_layFrom 85 = .ok (.iconst 0, 1) := by decide +kernel
theorem dX6_layFrom_86 : decode cX6_layFrom 86 = .ok (.bipush 28, 2) := by decide +kernel
theorem dX6_layFrom_88 : decode cX6_layFrom 88 = .ok (.invokestatic 59, 3) := by decide +kernel
theorem dX6_layFrom_91 : decode cX6_layFrom 91 = .ok (.iload_n 3, 1) := by decide +kernel
theorem dX6_layFrom_92 : decode cX6_layFrom 92 = .ok (.iload 4, 2) := by decide +kernel
theorem dX6_layFrom_94 : decode cX6_layFrom 94 = .ok (.ishr, 1) := by decide +kernel
theorem dX6_layFrom_95 : decode cX6_layFrom 95 = .ok (.iconst 1, 1) := by decide +kernel
theorem dX6_layFrom_96 : decode cX6_layFrom 96 = .ok (.iand, 1) := by decide +kernel
theorem dX6_layFrom_97 : decode cX6_layFrom 97 = .ok (.iconst 1, 1) := by decide +kernel
theorem dX6_layFrom_98 : decode cX6_layFrom 98 = .ok (.if_icmp .ne 18, 3) := by decide +kernel
theorem dX6_layFrom_101 : decode cX6_layFrom 101 = .ok (.aload_n 0, 1) := by decide +kernel
theorem dX6_layFrom_102 : decode cX6_layFrom 102 = .ok (.iload 4, 2) := by decide +kernel
theorem dX6_layFrom_104 : decode cX6_layFrom 104 = .ok (.aload_n 0, 1) := by decide +kernel
theorem dX6_layFrom_105 : decode cX6_layFrom 105 = .ok (.getfield 11, 3) := by decide +kernel
theorem dX6_layFrom_108 : decode cX6_layFrom 108 = .ok (.iload 4, 2) := by decide +kernel
theorem dX6_layFrom_110 : decode cX6_layFrom 110 = .ok (.iconst 1, 1) := by decide +kernel
theorem dX6_layFrom_111 : decode cX6_layFrom 111 = .ok (.iadd, 1) := by decide +kernel
theorem dX6_layFrom_112 : decode cX6_layFrom 112 = .ok (.aaload, 1) := by decide +kernel
theorem dX6_layFrom_113 : decode cX6_layFrom 113 = .ok (.invokevirtual 65, 3) := by decide +kernel
theorem dX6_layFrom_116 : decode cX6_layFrom 116 = .ok (.iinc 4 1, 3) := by decide +kernel
theorem dX6_layFrom_119 : decode cX6_layFrom 119 = .ok (.goto (-101), 3) := by decide +kernel
theorem dX6_layFrom_122 : decode cX6_layFrom 122 = .ok (.return_, 1) := by decide +kernel
theorem dX6_lay_0 : decode cX6_lay 0 = .ok (.iconst 0, 1) := by decide +kernel
theorem dX6_lay_1 : decode cX6_lay 1 = .ok (.istore_n 3, 1) := by decide +kernel
theorem dX6_lay_2 : decode cX6_lay 2 = .ok (.iload_n 3, 1) := by decide +kernel
theorem dX6_lay_3 : decode cX6_lay 3 = .ok (.iconst 4, 1) := by decide +kernel
theorem dX6_lay_4 : decode cX6_lay 4 = .ok (.if_icmp .ge 67, 3) := by decide +kernel
theorem dX6_lay_7 : decode cX6_lay 7 = .ok (.aload_n 0, 1) := by decide +kernel
theorem dX6_lay_8 : decode cX6_lay 8 = .ok (.getfield 16, 3) := by decide +kernel
theorem dX6_lay_11 : decode cX6_lay 11 = .ok (.iload_n 1, 1) := by decide +kernel
theorem dX6_lay_12 : decode cX6_lay 12 = .ok (.iaload, 1) := by decide +kernel
theorem dX6_lay_13 : decode cX6_lay 13 = .ok (.iload_n 3, 1) := by decide +kernel
theorem dX6_lay_14 : decode cX6_lay 14 = .ok (.iadd, 1) := by decide +kernel
theorem dX6_lay_15 : decode cX6_lay 15 = .ok (.istore 4, 2) := by decide +kernel
theorem dX6_lay_17 : decode cX6_lay 17 = .ok (.iload 4, 2) := by decide +kernel
theorem dX6_lay_19 : decode cX6_lay 19 = .ok (.invokestatic 69, 3) := by decide +kernel
theorem dX6_lay_22 : decode cX6_lay 22 = .ok (.ifCond .eq 43, 3) := by decide +kernel
theorem dX6_lay_25 : decode cX6_lay 25 = .ok (.aload_n 0, 1) := by decide +kernel
theorem dX6_lay_26 : decode cX6_lay 26 = .ok (.getfield 20, 3) := by decide +kernel
theorem dX6_lay_29 : decode cX6_lay 29 = .ok (.iload_n 1, 1) := by decide +kernel
theorem dX6_lay_30 : decode cX6_lay 30 = .ok (.iload_n 3, 1) := by decide +kernel
theorem dX6_lay_31 : decode cX6_lay 31 = .ok (.invokevirtual 73, 3) := by decide +kernel
theorem dX6_lay_34 : decode cX6_lay 34 = .ok (.ifCond .eq 31, 3) := by decide +kernel
theorem dX6_lay_37 : decode cX6_lay 37 = .ok (.aload_n 0, 1) := by decide +kernel
theorem dX6_lay_38 : decode cX6_lay 38 = .ok (.aload_n 2, 1) := by decide +kernel
theorem dX6_lay_39 : decode cX6_lay 39 = .ok (.iload 4, 2) := by decide +kernel
theorem dX6_lay_41 : decode cX6_lay 41 = .ok (.iaload, 1) := by decide +kernel
theorem dX6_lay_42 : decode cX6_lay 42 = .ok (.invokevirtual 77, 3) := by decide +kernel
theorem dX6_lay_45 : decode cX6_lay 45 = .ok (.ifCond .eq 20, 3) := by decide +kernel
theorem dX6_lay_48 : decode cX6_lay 48 = .ok (.aload_n 2, 1) := by decide +kernel
theorem dX6_lay_49 : decode cX6_lay 49 = .ok (.iload 4, 2) := by decide +kernel
theorem dX6_lay_51 : decode cX6_lay 51 = .ok (.aload_n 0, 1) := by decide +kernel
theorem dX6_lay_52 : decode cX6_lay 52 = .ok (.getfield 20, 3) := by decide +kernel
theorem dX6_lay_55 : decode cX6_lay 55 = .ok (.iload_n 1, 1) := by decide +kernel
theorem dX6_lay_56 : decode cX6_lay 56 = .ok (.aload_n 0, 1) := by decide +kernel
theorem dX6_lay_57 : decode cX6_lay 57 = .ok (.getfield 30, 3) := by decide +kernel
theorem dX6_lay_60 : decode cX6_lay 60 = .ok (.iload_n 3, 1) := by decide +kernel
theorem dX6_lay_61 : decode cX6_lay 61 = .ok (.invokevirtual 80, 3) := by decide +kernel
theorem dX6_lay_64 : decode cX6_lay 64 = .ok (.iastore, 1) := by decide +kernel
theorem dX6_lay_65 : decode cX6_lay 65 = .ok (.iinc 3 1, 3) := by decide +kernel
theorem dX6_lay_68 : decode cX6_lay 68 = .ok (.goto (-66), 3) := by decide +kernel
theorem dX6_lay_71 : decode cX6_lay 71 = .ok (.return_, 1) := by decide +kernel
theorem dX6_liesUpper_0 : decode cX6_liesUpper 0 = .ok (.aload_n 0, 1) := by decide +kernel
theorem dX6_liesUpper_1 : decode cX6_liesUpper 1 = .ok (.getfield 30, 3) := by decide +kernel
theorem dX6_liesUpper_4 : decode cX6_liesUpper 4 = .ok (.ifCond .eq 7, 3) := by decide +kernel
theorem dX6_liesUpper_7 : decode cX6_liesUpper 7 = .ok (.iload_n 1, 1) := by decide +kernel
theorem dX6_liesUpper_8 : decode cX6_liesUpper 8 = .ok (.ifCond .ge 7, 3) := by decide +kernel
theorem dX6_liesUpper_11 : decode cX6_liesUpper 11 = .ok (.iconst 1, 1) := by decide +kernel
theorem dX6_liesUpper_12 : decode cX6_liesUpper 12 = .ok (.goto 4, 3) := by decide +kernel
theorem dX6_liesUpper_15 : decode cX6_liesUpper 15 = .ok (.iconst 0, 1) := by decide +kernel
theorem dX6_liesUpper_16 : decode cX6_liesUpper 16 = .ok (.ireturn, 1) := by decide +kernel
theorem dX6_reach_0 : decode cX6_reach 0 = .ok (.aload_n 0, 1) := by decide +kernel
theorem dX6_reach_1 : decode cX6_reach 1 = .ok (.getfield 44, 3) := by decide +kernel
theorem dX6_reach_4 : decode cX6_reach 4 = .ok (.ifCond .ne 7, 3) := by decide +kernel
theorem dX6_reach_7 : decode cX6_reach 7 = .ok (.iconst 0, 1) := by decide +kernel
theorem dX6_reach_8 : decode cX6_reach 8 = .ok (.goto 21, 3) := by decide +kernel
theorem dX6_reach_11 : decode cX6_reach 11 = .ok (.bipush 28, 2) := by decide +kernel
theorem dX6_reach_13 : decode cX6_reach 13 = .ok (.aload_n 0, 1) := by decide +kernel
theorem dX6_reach_14 : decode cX6_reach 14 = .ok (.getfield 16, 3) := by decide +kernel
theorem dX6_reach_17 : decode cX6_reach 17 = .ok (.aload_n 0, 1) := by decide +kernel
