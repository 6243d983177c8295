theorem dX10_layTrial_15 : decode cX10_layTrial 15 = .ok (.getfield 16, 3) := by decide +kernel
theorem dX10_layTrial_18 : decode cX10_layTrial 18 = .ok (.iload_n 1, 1) := by decide +kernel
theorem dX10_layTrial_19 : decode cX10_layTrial 19 = .ok (.iaload, 1) := by decide +kernel
theorem dX10_layTrial_20 : decode cX10_layTrial 20 = .ok (.iastore, 1) := by decide +kernel
theorem dX10_layTrial_21 : decode cX10_layTrial 21 = .ok (.iinc 1 1, 3) := by decide +kernel
theorem dX10_layTrial_24 : decode cX10_layTrial 24 = .ok (.goto (-22), 3) := by decide +kernel
theorem dX10_layTrial_27 : decode cX10_layTrial 27 = .ok (.return_, 1) := by decide +kernel
theorem dX10_reads_0 : decode cX10_reads 0 = .ok (.iload_n 1, 1) := by decide +kernel
theorem dX10_reads_1 : decode cX10_reads 1 = .ok (.i2l, 1) := by decide +kernel
theorem dX10_reads_2 : decode cX10_reads 2 = .ok (.lconst 0, 1) := by decide +kernel
theorem dX10_reads_3 : decode cX10_reads 3 = .ok (.lconst 1, 1) := by decide +kernel
theorem dX10_reads_4 : decode cX10_reads 4 = .ok (.invokestatic 52, 3) := by decide +kernel
theorem dX10_reads_7 : decode cX10_reads 7 = .ok (.ifCond .eq 14, 3) := by decide +kernel
theorem dX10_reads_10 : decode cX10_reads 10 = .ok (.aload_n 0, 1) := by decide +kernel
theorem dX10_reads_11 : decode cX10_reads 11 = .ok (.iconst 0, 1) := by decide +kernel
theorem dX10_reads_12 : decode cX10_reads 12 = .ok (.bipush 63, 2) := by decide +kernel
theorem dX10_reads_14 : decode cX10_reads 14 = .ok (.iload_n 1, 1) := by decide +kernel
theorem dX10_reads_15 : decode cX10_reads 15 = .ok (.invokevirtual 161, 3) := by decide +kernel
theorem dX10_reads_18 : decode cX10_reads 18 = .ok (.goto 5, 3) := by decide +kernel
theorem dX10_reads_21 : decode cX10_reads 21 = .ok (.bipush (-2), 2) := by decide +kernel
theorem dX10_reads_23 : decode cX10_reads 23 = .ok (.ireturn, 1) := by decide +kernel
theorem dX10_waysMany_0 : decode cX10_waysMany 0 = .ok (.iconst 1, 1) := by decide +kernel
theorem dX10_waysMany_1 : decode cX10_waysMany 1 = .ok (.istore_n 1, 1) := by decide +kernel
theorem dX10_waysMany_2 : decode cX10_waysMany 2 = .ok (.iconst 0, 1) := by decide +kernel
theorem dX10_waysMany_3 : decode cX10_waysMany 3 = .ok (.istore_n 2, 1) := by decide +kernel
theorem dX10_waysMany_4 : decode cX10_waysMany 4 = .ok (.iload_n 2, 1) := by decide +kernel
theorem dX10_waysMany_5 : decode cX10_waysMany 5 = .ok (.aload_n 0, 1) := by decide +kernel
theorem dX10_waysMany_6 : decode cX10_waysMany 6 = .ok (.invokevirtual 81, 3) := by decide +kernel
theorem dX10_waysMany_9 : decode cX10_waysMany 9 = .ok (.if_icmp .ge 13, 3) := by decide +kernel
theorem dX10_waysMany_12 : decode cX10_waysMany 12 = .ok (.iload_n 1, 1) := by decide +kernel
theorem dX10_waysMany_13 : decode cX10_waysMany 13 = .ok (.iconst 5, 1) := by decide +kernel
theorem dX10_waysMany_14 : decode cX10_waysMany 14 = .ok (.imul, 1) := by decide +kernel
theorem dX10_waysMany_15 : decode cX10_waysMany 15 = .ok (.istore_n 1, 1) := by decide +kernel
theorem dX10_waysMany_16 : decode cX10_waysMany 16 = .ok (.iinc 2 1, 3) := by decide +kernel
theorem dX10_waysMany_19 : decode cX10_waysMany 19 = .ok (.goto (-15), 3) := by decide +kernel
theorem dX10_waysMany_22 : decode cX10_waysMany 22 = .ok (.iload_n 1, 1) := by decide +kernel
theorem dX10_waysMany_23 : decode cX10_waysMany 23 = .ok (.ireturn, 1) := by decide +kernel
theorem dX10_layWay_0 : decode cX10_layWay 0 = .ok (.iload_n 1, 1) := by decide +kernel
theorem dX10_layWay_1 : decode cX10_layWay 1 = .ok (.istore_n 2, 1) := by decide +kernel
theorem dX10_layWay_2 : decode cX10_layWay 2 = .ok (.iconst 1, 1) := by decide +kernel
theorem dX10_layWay_3 : decode cX10_layWay 3 = .ok (.istore_n 3, 1) := by decide +kernel
theorem dX10_layWay_4 : decode cX10_layWay 4 = .ok (.aload_n 0, 1) := by decide +kernel
theorem dX10_layWay_5 : decode cX10_layWay 5 = .ok (.invokevirtual 81, 3) := by decide +kernel
theorem dX10_layWay_8 : decode cX10_layWay 8 = .ok (.iconst 1, 1) := by decide +kernel
theorem dX10_layWay_9 : decode cX10_layWay 9 = .ok (.isub, 1) := by decide +kernel
theorem dX10_layWay_10 : decode cX10_layWay 10 = .ok (.istore 4, 2) := by decide +kernel
theorem dX10_layWay_12 : decode cX10_layWay 12 = .ok (.iload 4, 2) := by decide +kernel
theorem dX10_layWay_14 : decode cX10_layWay 14 = .ok (.ifCond .lt 50, 3) := by decide +kernel
theorem dX10_layWay_17 : decode cX10_layWay 17 = .ok (.aload_n 0, 1) := by decide +kernel
theorem dX10_layWay_18 : decode cX10_layWay 18 = .ok (.getfield 16, 3) := by decide +kernel
theorem dX10_layWay_21 : decode cX10_layWay 21 = .ok (.iconst 5, 1) := by decide +kernel
theorem dX10_layWay_22 : decode cX10_layWay 22 = .ok (.iload 4, 2) := by decide +kernel
theorem dX10_layWay_24 : decode cX10_layWay 24 = .ok (.iadd, 1) := by decide +kernel
theorem dX10_layWay_25 : decode cX10_layWay 25 = .ok (.iload_n 2, 1) := by decide +kernel
theorem dX10_layWay_26 : decode cX10_layWay 26 = .ok (.iconst 5, 1) := by decide +kernel
theorem dX10_layWay_27 : decode cX10_layWay 27 = .ok (.irem, 1) := by decide +kernel
theorem dX10_layWay_28 : decode cX10_layWay 28 = .ok (.iastore, 1) := by decide +kernel
theorem dX10_layWay_29 : decode cX10_layWay 29 = .ok (.iload_n 3, 1) := by decide +kernel
theorem dX10_layWay_30 : decode cX10_layWay 30 = .ok (.ifCond .eq 22, 3) := by decide +kernel
theorem dX10_layWay_33 : decode cX10_layWay 33 = .ok (.aload_n 0, 1) := by decide +kernel
theorem dX10_layWay_34 : decode cX10_layWay 34 = .ok (.iload 4, 2) := by decide +kernel
theorem dX10_layWay_36 : decode cX10_layWay 36 = .ok (.invokevirtual 139, 3) := by decide +kernel
theorem dX10_layWay_39 : decode cX10_layWay 39 = .ok (.ifCond .ne 9, 3) := by decide +kernel
theorem dX10_layWay_42 : decode cX10_layWay 42 = .ok (.iload_n 2, 1) := by decide +kernel
theorem dX10_layWay_43 : decode cX10_layWay 43 = .ok (.iconst 5, 1) := by decide +kernel
theorem dX10_layWay_44 : decode cX10_layWay 44 = .ok (.irem, 1) := by decide +kernel
theorem dX10_layWay_45 : decode cX10_layWay 45 = .ok (.ifCond .ne 7, 3) := by decide +kernel
theorem dX10_layWay_48 : decode cX10_layWay 48 = .ok (.iconst 1, 1) := by decide +kernel
theorem dX10_layWay_49 : decode cX10_layWay 49 = .ok (.goto 4, 3) := by decide +kernel
theorem dX10_layWay_52 : decode cX10_layWay 52 = .ok (.iconst 0, 1) := by decide +kernel
theorem dX10_layWay_53 : decode cX10_layWay 53 = .ok (.istore_n 3, 1) := by decide +kernel
theorem dX10_layWay_54 : decode cX10_layWay 54 = .ok (.iload_n 2, 1) := by decide +kernel
theorem dX10_layWay_55 : decode cX10_layWay 55 = .ok (.iconst 5, 1) := by decide +kernel
theorem dX10_layWay_56 : decode cX10_layWay 56 = .ok (.idiv, 1) := by decide +kernel
theorem dX10_layWay_57 : decode cX10_layWay 57 = .ok (.istore_n 2, 1) := by decide +kernel
theorem dX10_layWay_58 : decode cX10_layWay 58 = .ok (.iinc 4 (-1), 3) := by decide +kernel
theorem dX10_layWay_61 : decode cX10_layWay 61 = .ok (.goto (-49), 3) := by decide +kernel
theorem dX10_layWay_64 : decode cX10_layWay 64 = .ok (.iload_n 3, 1) := by decide +kernel
theorem dX10_layWay_65 : decode cX10_layWay 65 = .ok (.ireturn, 1) := by decide +kernel
theorem dX10_figuresOf_0 : decode cX10_figuresOf 0 = .ok (.iconst 0, 1) := by decide +kernel
theorem dX10_figuresOf_1 : decode cX10_figuresOf 1 = .ok (.istore_n 2, 1) := by decide +kernel
theorem dX10_figuresOf_2 : decode cX10_figuresOf 2 = .ok (.iconst 0, 1) := by decide +kernel
theorem dX10_figuresOf_3 : decode cX10_figuresOf 3 = .ok (.istore_n 3, 1) := by decide +kernel
theorem dX10_figuresOf_4 : decode cX10_figuresOf 4 = .ok (.iload_n 3, 1) := by decide +kernel
theorem dX10_figuresOf_5 : decode cX10_figuresOf 5 = .ok (.aload_n 0, 1) := by decide +kernel
theorem dX10_figuresOf_6 : decode cX10_figuresOf 6 = .ok (.invokevirtual 81, 3) := by decide +kernel
theorem dX10_figuresOf_9 : decode cX10_figuresOf 9 = .ok (.if_icmp .ge 25, 3) := by decide +kernel
theorem dX10_figuresOf_12 : decode cX10_figuresOf 12 = .ok (.bipush 10, 2) := by decide +kernel
theorem dX10_figuresOf_14 : decode cX10_figuresOf 14 = .ok (.iload_n 2, 1) := by decide +kernel
theorem dX10_figuresOf_15 : decode cX10_figuresOf 15 = .ok (.imul, 1) := by decide +kernel
theorem dX10_figuresOf_16 : decode cX10_figuresOf 16 = .ok (.aload_n 0, 1) := by decide +kernel
theorem dX10_figuresOf_17 : decode cX10_figuresOf 17 = .ok (.getfield 16, 3) := by decide +kernel
theorem dX10_figuresOf_20 : decode cX10_figuresOf 20 = .ok (.iconst 5, 1) := by decide +kernel
theorem dX10_figuresOf_21 : decode cX10_figuresOf 21 = .ok (.iload_n 1, 1) := by decide +kernel
theorem dX10_figuresOf_22 : decode cX10_figuresOf 22 = .ok (.imul, 1) := by decide +kernel
theorem dX10_figuresOf_23 : decode cX10_figuresOf 23 = .ok (.iload_n 3, 1) := by decide +kernel
theorem dX10_figuresOf_24 : decode cX10_figuresOf 24 = .ok (.iadd, 1) := by decide +kernel
theorem dX10_figuresOf_25 : decode cX10_figuresOf 25 = .ok (.iaload, 1) := by decide +kernel
theorem dX10_figuresOf_26 : decode cX10_figuresOf 26 = .ok (.iadd, 1) := by decide +kernel
theorem dX10_figuresOf_27 : decode cX10_figuresOf 27 = .ok (.istore_n 2, 1) := by decide +kernel
theorem dX10_figuresOf_28 : decode cX10_figuresOf 28 = .ok (.iinc 3 1, 3) := by decide +kernel
theorem dX10_figuresOf_31 : decode cX10_figuresOf 31 = .ok (.goto (-27), 3) := by decide +kernel
theorem dX10_figuresOf_34 : decode cX10_figuresOf 34 = .ok (.iload_n 2, 1) := by decide +kernel
theorem dX10_figuresOf_35 : decode cX10_figuresOf 35 = .ok (.ireturn, 1) := by decide +kernel
theorem dX10_farOf_0 : decode cX10_farOf 0 = .ok (.iconst 0, 1) := by decide +kernel
theorem dX10_farOf_1 : decode cX10_farOf 1 = .ok (.istore_n 1, 1) := by decide +kernel
theorem dX10_farOf_2 : decode cX10_farOf 2 = .ok (.iconst 0, 1) := by decide +kernel
theorem dX10_farOf_3 : decode cX10_farOf 3 = .ok (.istore_n 2, 1) := by decide +kernel
theorem dX10_farOf_4 : decode cX10_farOf 4 = .ok (.iload_n 2, 1) := by decide +kernel
theorem dX10_farOf_5 : decode cX10_farOf 5 = .ok (.aload_n 0, 1) := by decide +kernel
theorem dX10_farOf_6 : decode cX10_farOf 6 = .ok (.invokevirtual 81, 3) := by decide +kernel
theorem dX10_farOf_9 : decode cX10_farOf 9 = .ok (.if_icmp .ge 38, 3) := by decide +kernel
theorem dX10_farOf_12 : decode cX10_farOf 12 = .ok (.aload_n 0, 1) := by decide +kernel
theorem dX10_farOf_13 : decode cX10_farOf 13 = .ok (.getfield 16, 3) := by decide +kernel
theorem dX10_farOf_16 : decode cX10_farOf 16 = .ok (.iconst 5, 1) := by decide +kernel
theorem dX10_farOf_17 : decode cX10_farOf 17 = .ok (.iload_n 2, 1) := by decide +kernel
theorem dX10_farOf_18 : decode cX10_farOf 18 = .ok (.iadd, 1) := by decide +kernel
theorem dX10_farOf_19 : decode cX10_farOf 19 = .ok (.iaload, 1) := by decide +kernel
theorem dX10_farOf_20 : decode cX10_farOf 20 = .ok (.aload_n 0, 1) := by decide +kernel
theorem dX10_farOf_21 : decode cX10_farOf 21 = .ok (.getfield 16, 3) := by decide +kernel
theorem dX10_farOf_24 : decode cX10_farOf 24 = .ok (.iload_n 2, 1) := by decide +kernel
theorem dX10_farOf_25 : decode cX10_farOf 25 = .ok (.iaload, 1) := by decide +kernel
theorem dX10_farOf_26 : decode cX10_farOf 26 = .ok (.isub, 1) := by decide +kernel
theorem dX10_farOf_27 : decode cX10_farOf 27 = .ok (.istore_n 3, 1) := by decide +kernel
theorem dX10_farOf_28 : decode cX10_farOf 28 = .ok (.iload_n 1, 1) := by decide +kernel
theorem dX10_farOf_29 : decode cX10_farOf 29 = .ok (.iload_n 3, 1) := by decide +kernel
theorem dX10_farOf_30 : decode cX10_farOf 30 = .ok (.ifCond .ge 8, 3) := by decide +kernel
theorem dX10_farOf_33 : decode cX10_farOf 33 = .ok (.iload_n 3, 1) := by decide +kernel
theorem dX10_farOf_34 : decode cX10_farOf 34 = .ok (.ineg, 1) := by decide +kernel
theorem dX10_farOf_35 : decode cX10_farOf 35 = .ok (.goto 4, 3) := by decide +kernel
theorem dX10_farOf_38 : decode cX10_farOf 38 = .ok (.iload_n 3, 1) := by decide +kernel
theorem dX10_farOf_39 : decode cX10_farOf 39 = .ok (.iadd, 1) := by decide +kernel
theorem dX10_farOf_40 : decode cX10_farOf 40 = .ok (.istore_n 1, 1) := by decide +kernel
theorem dX10_farOf_41 : decode cX10_farOf 41 = .ok (.iinc 2 1, 3) := by decide +kernel
theorem dX10_farOf_44 : decode cX10_farOf 44 = .ok (.goto (-40), 3) := by decide +kernel
theorem dX10_farOf_47 : decode cX10_farOf 47 = .ok (.iload_n 1, 1) := by decide +kernel
theorem dX10_farOf_48 : decode cX10_farOf 48 = .ok (.ireturn, 1) := by decide +kernel
theorem dX10_open_0 : decode cX10_open 0 = .ok (.iload_n 1, 1) := by decide +kernel
theorem dX10_open_1 : decode cX10_open 1 = .ok (.i2l, 1) := by decide +kernel
theorem dX10_open_2 : decode cX10_open 2 = .ok (.lconst 0, 1) := by decide +kernel
theorem dX10_open_3 : decode cX10_open 3 = .ok (.lconst 1, 1) := by decide +kernel
theorem dX10_open_4 : decode cX10_open 4 = .ok (.invokestatic 52, 3) := by decide +kernel
theorem dX10_open_7 : decode cX10_open 7 = .ok (.ifCond .eq 13, 3) := by decide +kernel
theorem dX10_open_10 : decode cX10_open 10 = .ok (.iload_n 2, 1) := by decide +kernel
theorem dX10_open_11 : decode cX10_open 11 = .ok (.i2l, 1) := by decide +kernel
theorem dX10_open_12 : decode cX10_open 12 = .ok (.lconst 0, 1) := by decide +kernel
theorem dX10_open_13 : decode cX10_open 13 = .ok (.lconst 1, 1) := by decide +kernel
theorem dX10_open_14 : decode cX10_open 14 = .ok (.invokestatic 52, 3) := by decide +kernel
theorem dX10_open_17 : decode cX10_open 17 = .ok (.ifCond .ne 6, 3) := by decide +kernel
theorem dX10_open_20 : decode cX10_open 20 = .ok (.bipush (-2), 2) := by decide +kernel
theorem dX10_open_22 : decode cX10_open 22 = .ok (.ireturn, 1) := by decide +kernel
theorem dX10_open_23 : decode cX10_open 23 = .ok (.bipush (-9), 2) := by decide +kernel
theorem dX10_open_25 : decode cX10_open 25 = .ok (.istore_n 3, 1) := by decide +kernel
theorem dX10_open_26 : decode cX10_open 26 = .ok (.bipush (-9), 2) := by decide +kernel
theorem dX10_open_28 : decode cX10_open 28 = .ok (.istore 4, 2) := by decide +kernel
theorem dX10_open_30 : decode cX10_open 30 = .ok (.iconst 0, 1) := by decide +kernel
theorem dX10_open_31 : decode cX10_open 31 = .ok (.istore 5, 2) := by decide +kernel
theorem dX10_open_33 : decode cX10_open 33 = .ok (.iload 5, 2) := by decide +kernel
theorem dX10_open_35 : decode cX10_open 35 = .ok (.aload_n 0, 1) := by decide +kernel
theorem dX10_open_36 : decode cX10_open 36 = .ok (.invokevirtual 164, 3) := by decide +kernel
theorem dX10_open_39 : decode cX10_open 39 = .ok (.if_icmp .ge 63, 3) := by decide +kernel
theorem dX10_open_42 : decode cX10_open 42 = .ok (.aload_n 0, 1) := by decide +kernel
theorem dX10_open_43 : decode cX10_open 43 = .ok (.iload 5, 2) := by decide +kernel
theorem dX10_open_45 : decode cX10_open 45 = .ok (.invokevirtual 167, 3) := by decide +kernel
theorem dX10_open_48 : decode cX10_open 48 = .ok (.istore 6, 2) := by decide +kernel
theorem dX10_open_50 : decode cX10_open 50 = .ok (.aload_n 0, 1) := by decide +kernel
theorem dX10_open_51 : decode cX10_open 51 = .ok (.invokevirtual 170, 3) := by decide +kernel
theorem dX10_open_54 : decode cX10_open 54 = .ok (.istore 7, 2) := by decide +kernel
theorem dX10_open_56 : decode cX10_open 56 = .ok (.iload 6, 2) := by decide +kernel
theorem dX10_open_58 : decode cX10_open 58 = .ok (.ifCond .eq 38, 3) := by decide +kernel
theorem dX10_open_61 : decode cX10_open 61 = .ok (.iload_n 3, 1) := by decide +kernel
theorem dX10_open_62 : decode cX10_open 62 = .ok (.bipush (-9), 2) := by decide +kernel
theorem dX10_open_64 : decode cX10_open 64 = .ok (.if_icmp .eq 9, 3) := by decide +kernel
theorem dX10_open_67 : decode cX10_open 67 = .ok (.iload 7, 2) := by decide +kernel
theorem dX10_open_69 : decode cX10_open 69 = .ok (.iload_n 3, 1) := by decide +kernel
theorem dX10_open_70 : decode cX10_open 70 = .ok (.if_icmp .ge 26, 3) := by decide +kernel
theorem dX10_open_73 : decode cX10_open 73 = .ok (.aload_n 0, 1) := by decide +kernel
theorem dX10_open_74 : decode cX10_open 74 = .ok (.iconst 1, 1) := by decide +kernel
theorem dX10_open_75 : decode cX10_open 75 = .ok (.bipush 63, 2) := by decide +kernel
theorem dX10_open_77 : decode cX10_open 77 = .ok (.iload_n 1, 1) := by decide +kernel
theorem dX10_open_78 : decode cX10_open 78 = .ok (.invokevirtual 161, 3) := by decide +kernel
theorem dX10_open_81 : decode cX10_open 81 = .ok (.bipush (-9), 2) := by decide +kernel
theorem dX10_open_83 : decode cX10_open 83 = .ok (.if_icmp .eq 13, 3) := by decide +kernel
theorem dX10_open_86 : decode cX10_open 86 = .ok (.iload 7, 2) := by decide +kernel
theorem dX10_open_88 : decode cX10_open 88 = .ok (.istore_n 3, 1) := by decide +kernel
theorem dX10_open_89 : decode cX10_open 89 = .ok (.aload_n 0, 1) := by decide +kernel
theorem dX10_open_90 : decode cX10_open 90 = .ok (.iconst 1, 1) := by decide +kernel
theorem dX10_open_91 : decode cX10_open 91 = .ok (.invokevirtual 173, 3) := by decide +kernel
theorem dX10_open_94 : decode cX10_open 94 = .ok (.istore 4, 2) := by decide +kernel
theorem dX10_open_96 : decode cX10_open 96 = .ok (.iinc 5 1, 3) := by decide +kernel
theorem dX10_open_99 : decode cX10_open 99 = .ok (.goto (-66), 3) := by decide +kernel
theorem dX10_open_102 : decode cX10_open 102 = .ok (.iload_n 2, 1) := by decide +kernel
theorem dX10_open_103 : decode cX10_open 103 = .ok (.ifCond .ne 7, 3) := by decide +kernel
theorem dX10_open_106 : decode cX10_open 106 = .ok (.iload_n 3, 1) := by decide +kernel
theorem dX10_open_107 : decode cX10_open 107 = .ok (.goto 5, 3) := by decide +kernel
theorem dX10_open_110 : decode cX10_open 110 = .ok (.iload 4, 2) := by decide +kernel
theorem dX10_open_112 : decode cX10_open 112 = .ok (.ireturn, 1) := by decide +kernel
theorem dX10_timesSeen_0 : decode cX10_timesSeen 0 = .ok (.iconst 0, 1) := by decide +kernel
theorem dX10_timesSeen_1 : decode cX10_timesSeen 1 = .ok (.istore_n 2, 1) := by decide +kernel
theorem dX10_timesSeen_2 : decode cX10_timesSeen 2 = .ok (.iconst 0, 1) := by decide +kernel
theorem dX10_timesSeen_3 : decode cX10_timesSeen 3 = .ok (.istore_n 3, 1) := by decide +kernel
theorem dX10_timesSeen_4 : decode cX10_timesSeen 4 = .ok (.iload_n 3, 1) := by decide +kernel
theorem dX10_timesSeen_5 : decode cX10_timesSeen 5 = .ok (.bipush 28, 2) := by decide +kernel
theorem dX10_timesSeen_7 : decode cX10_timesSeen 7 = .ok (.if_icmp .ge 30, 3) := by decide +kernel
theorem dX10_timesSeen_10 : decode cX10_timesSeen 10 = .ok (.iload_n 2, 1) := by decide +kernel
theorem dX10_timesSeen_11 : decode cX10_timesSeen 11 = .ok (.aload_n 0, 1) := by decide +kernel
theorem dX10_timesSeen_12 : decode cX10_timesSeen 12 = .ok (.iconst 1, 1) := by decide +kernel
theorem dX10_timesSeen_13 : decode cX10_timesSeen 13 = .ok (.bipush 63, 2) := by decide +kernel
theorem dX10_timesSeen_15 : decode cX10_timesSeen 15 = .ok (.iload_n 3, 1) := by decide +kernel
theorem dX10_timesSeen_16 : decode cX10_timesSeen 16 = .ok (.iconst 0, 1) := by decide +kernel
theorem dX10_timesSeen_17 : decode cX10_timesSeen 17 = .ok (.invokevirtual 119, 3) := by decide +kernel
theorem dX10_timesSeen_20 : decode cX10_timesSeen 20 = .ok (.iload_n 1, 1) := by decide +kernel
theorem dX10_timesSeen_21 : decode cX10_timesSeen 21 = .ok (.if_icmp .ne 7, 3) := by decide +kernel
theorem dX10_timesSeen_24 : decode cX10_timesSeen 24 = .ok (.iconst 1, 1) := by decide +kernel
theorem dX10_timesSeen_25 : decode cX10_timesSeen 25 = .ok (.goto 4, 3) := by decide +kernel
theorem dX10_timesSeen_28 : decode cX10_timesSeen 28 = .ok (.iconst 0, 1) := by decide +kernel
theorem dX10_timesSeen_29 : decode cX10_timesSeen 29 = .ok (.iadd, 1) := by decide +kernel
theorem dX10_timesSeen_30 : decode cX10_timesSeen 30 = .ok (.istore_n 2, 1) := by decide +kernel
theorem dX10_timesSeen_31 : decode cX10_timesSeen 31 = .ok (.iinc 3 1, 3) := by decide +kernel
theorem dX10_timesSeen_34 : decode cX10_timesSeen 34 = .ok (.goto (-30), 3) := by decide +kernel
theorem dX10_timesSeen_37 : decode cX10_timesSeen 37 = .ok (.iload_n 2, 1) := by decide +kernel
theorem dX10_timesSeen_38 : decode cX10_timesSeen 38 = .ok (.ireturn, 1) := by decide +kernel
theorem dX10_most_0 : decode cX10_most 0 = .ok (.iload_n 1, 1) := by decide +kernel
theorem dX10_most_1 : decode cX10_most 1 = .ok (.i2l, 1) := by decide +kernel
theorem dX10_most_2 : decode cX10_most 2 = .ok (.ldc2_w 67, 3) := by decide +kernel
theorem dX10_most_5 : decode cX10_most 5 = .ok (.ldc2_w 69, 3) := by decide +kernel
theorem dX10_most_8 : decode cX10_most 8 = .ok (.invokestatic 52, 3) := by decide +kernel
theorem dX10_most_11 : decode cX10_most 11 = .ok (.ifCond .eq 13, 3) := by decide +kernel
theorem dX10_most_14 : decode cX10_most 14 = .ok (.iload_n 2, 1) := by decide +kernel
theorem dX10_most_15 : decode cX10_most 15 = .ok (.i2l, 1) := by decide +kernel
theorem dX10_most_16 : decode cX10_most 16 = .ok (.lconst 0, 1) := by decide +kernel
theorem dX10_most_17 : decode cX10_most 17 = .ok (.lconst 1, 1) := by decide +kernel
theorem dX10_most_18 : decode cX10_most 18 = .ok (.invokestatic 52, 3) := by decide +kernel
theorem dX10_most_21 : decode cX10_most 21 = .ok (.ifCond .ne 6, 3) := by decide +kernel
theorem dX10_most_24 : decode cX10_most 24 = .ok (.bipush (-2), 2) := by decide +kernel
theorem dX10_most_26 : decode cX10_most 26 = .ok (.ireturn, 1) := by decide +kernel
theorem dX10_most_27 : decode cX10_most 27 = .ok (.bipush (-9), 2) := by decide +kernel
theorem dX10_most_29 : decode cX10_most 29 = .ok (.istore_n 3, 1) := by decide +kernel
theorem dX10_most_30 : decode cX10_most 30 = .ok (.iconst 0, 1) := by decide +kernel
theorem dX10_most_31 : decode cX10_most 31 = .ok (.istore 4, 2) := by decide +kernel
theorem dX10_most_33 : decode cX10_most 33 = .ok (.iconst 0, 1) := by decide +kernel
theorem dX10_most_34 : decode cX10_most 34 = .ok (.istore 5, 2) := by decide +kernel
theorem dX10_most_36 : decode cX10_most 36 = .ok (.iload 5, 2) := by decide +kernel
theorem dX10_most_38 : decode cX10_most 38 = .ok (.aload_n 0, 1) := by decide +kernel
theorem dX10_most_39 : decode cX10_most 39 = .ok (.invokevirtual 164, 3) := by decide +kernel
theorem dX10_most_42 : decode cX10_most 42 = .ok (.if_icmp .ge 64, 3) := by decide +kernel
theorem dX10_most_45 : decode cX10_most 45 = .ok (.aload_n 0, 1) := by decide +kernel
theorem dX10_most_46 : decode cX10_most 46 = .ok (.iload 5, 2) := by decide +kernel
theorem dX10_most_48 : decode cX10_most 48 = .ok (.invokevirtual 167, 3) := by decide +kernel
theorem dX10_most_51 : decode cX10_most 51 = .ok (.ifCond .eq 14, 3) := by decide +kernel
theorem dX10_most_54 : decode cX10_most 54 = .ok (.aload_n 0, 1) := by decide +kernel
theorem dX10_most_55 : decode cX10_most 55 = .ok (.iload_n 1, 1) := by decide +kernel
theorem dX10_most_56 : decode cX10_most 56 = .ok (.bipush 97, 2) := by decide +kernel
theorem dX10_most_58 : decode cX10_most 58 = .ok (.isub, 1) := by decide +kernel
theorem dX10_most_59 : decode cX10_most 59 = .ok (.invokevirtual 176, 3) := by decide +kernel
theorem dX10_most_62 : decode cX10_most 62 = .ok (.goto 5, 3) := by decide +kernel
theorem dX10_most_65 : decode cX10_most 65 = .ok (.bipush (-9), 2) := by decide +kernel
theorem dX10_most_67 : decode cX10_most 67 = .ok (.istore 6, 2) := by decide +kernel
theorem dX10_most_69 : decode cX10_most 69 = .ok (.iload 6, 2) := by decide +kernel
theorem dX10_most_71 : decode cX10_most 71 = .ok (.iload_n 3, 1) := by decide +kernel
theorem dX10_most_72 : decode cX10_most 72 = .ok (.if_icmp .le 11, 3) := by decide +kernel
theorem dX10_most_75 : decode cX10_most 75 = .ok (.aload_n 0, 1) := by decide +kernel
theorem dX10_most_76 : decode cX10_most 76 = .ok (.iconst 1, 1) := by decide +kernel
theorem dX10_most_77 : decode cX10_most 77 = .ok (.invokevirtual 173, 3) := by decide +kernel
theorem dX10_most_80 : decode cX10_most 80 = .ok (.goto 5, 3) := by decide +kernel
theorem dX10_most_83 : decode cX10_most 83 = .ok (.iload 4, 2) := by decide +kernel
theorem dX10_most_85 : decode cX10_most 85 = .ok (.istore 4, 2) := by decide +kernel
theorem dX10_most_87 : decode cX10_most 87 = .ok (.iload 6, 2) := by decide +kernel
theorem dX10_most_89 : decode cX10_most 89 = .ok (.iload_n 3, 1) := by decide +kernel
theorem dX10_most_90 : decode cX10_most 90 = .ok (.if_icmp .le 8, 3) := by decide +kernel
theorem dX10_most_93 : decode cX10_most 93 = .ok (.iload 6, 2) := by decide +kernel
theorem dX10_most_95 : decode cX10_most 95 = .ok (.goto 4, 3) := by decide +kernel
theorem dX10_most_98 : decode cX10_most 98 = .ok (.iload_n 3, 1) := by decide +kernel
theorem dX10_most_99 : decode cX10_most 99 = .ok (.istore_n 3, 1) := by decide +kernel
theorem dX10_most_100 : decode cX10_most 100 = .ok (.iinc 5 1, 3) := by decide +kernel
theorem dX10_most_103 : decode cX10_most 103 = .ok (.goto (-67), 3) := by decide +kernel
theorem dX10_most_106 : decode cX10_most 106 = .ok (.iload_n 2, 1) := by decide +kernel
theorem dX10_most_107 : decode cX10_most 107 = .ok (.ifCond .ne 7, 3) := by decide +kernel
theorem dX10_most_110 : decode cX10_most 110 = .ok (.iload_n 3, 1) := by decide +kernel
theorem dX10_most_111 : decode cX10_most 111 = .ok (.goto 5, 3) := by decide +kernel
theorem dX10_most_114 : decode cX10_most 114 = .ok (.iload 4, 2) := by decide +kernel
theorem dX10_most_116 : decode cX10_most 116 = .ok (.ireturn, 1) := by decide +kernel
theorem dX10_tryThing_0 : decode cX10_tryThing 0 = .ok (.iload_n 1, 1) := by decide +kernel
theorem dX10_tryThing_1 : decode cX10_tryThing 1 = .ok (.tableswitch 240 1 7 #[43, 83, 123, 143, 162, 195, 220], 43) := by decide +kernel
theorem dX10_tryThing_44 : decode cX10_tryThing 44 = .ok (.iload_n 2, 1) := by decide +kernel
theorem dX10_tryThing_45 : decode cX10_tryThing 45 = .ok (.ifCond .ne 16, 3) := by decide +kernel
theorem dX10_tryThing_48 : decode cX10_tryThing 48 = .ok (.aload_n 0, 1) := by decide +kernel
theorem dX10_tryThing_49 : decode cX10_tryThing 49 = .ok (.iconst 1, 1) := by decide +kernel
theorem dX10_tryThing_50 : decode cX10_tryThing 50 = .ok (.iload_n 3, 1) := by decide +kernel
theorem dX10_tryThing_51 : decode cX10_tryThing 51 = .ok (.invokevirtual 142, 3) := by decide +kernel
theorem dX10_tryThing_54 : decode cX10_tryThing 54 = .ok (.ifCond .eq 7, 3) := by decide +kernel
theorem dX10_tryThing_57 : decode cX10_tryThing 57 = .ok (.iconst 1, 1) := by decide +kernel
theorem dX10_tryThing_58 : decode cX10_tryThing 58 = .ok (.goto 4, 3) := by decide +kernel
theorem dX10_tryThing_61 : decode cX10_tryThing 61 = .ok (.iconst 0, 1) := by decide +kernel
theorem dX10_tryThing_62 : decode cX10_tryThing 62 = .ok (.istore 4, 2) := by decide +kernel
theorem dX10_tryThing_64 : decode cX10_tryThing 64 = .ok (.iload 4, 2) := by decide +kernel
theorem dX10_tryThing_66 : decode cX10_tryThing 66 = .ok (.ifCond .eq 15, 3) := by decide +kernel
theorem dX10_tryThing_69 : decode cX10_tryThing 69 = .ok (.aload_n 0, 1) := by decide +kernel
theorem dX10_tryThing_70 : decode cX10_tryThing 70 = .ok (.getfield 16, 3) := by decide +kernel
theorem dX10_tryThing_73 : decode cX10_tryThing 73 = .ok (.iconst 5, 1) := by decide +kernel
theorem dX10_tryThing_74 : decode cX10_tryThing 74 = .ok (.iload_n 3, 1) := by decide +kernel
theorem dX10_tryThing_75 : decode cX10_tryThing 75 = .ok (.iadd, 1) := by decide +kernel
theorem dX10_tryThing_76 : decode cX10_tryThing 76 = .ok (.dup2, 1) := by decide +kernel
theorem dX10_tryThing_77 : decode cX10_tryThing 77 = .ok (.iaload, 1) := by decide +kernel
theorem dX10_tryThing_78 : decode cX10_tryThing 78 = .ok (.iconst 1, 1) := by decide +kernel
theorem dX10_tryThing_79 : decode cX10_tryThing 79 = .ok (.iadd, 1) := by decide +kernel
theorem dX10_tryThing_80 : decode cX10_tryThing 80 = .ok (.iastore, 1) := by decide +kernel
theorem dX10_tryThing_81 : decode cX10_tryThing 81 = .ok (.iload 4, 2) := by decide +kernel
theorem dX10_tryThing_83 : decode cX10_tryThing 83 = .ok (.ireturn, 1) := by decide +kernel
theorem dX10_tryThing_84 : decode cX10_tryThing 84 = .ok (.iload_n 2, 1) := by decide +kernel
theorem dX10_tryThing_85 : decode cX10_tryThing 85 = .ok (.ifCond .ne 16, 3) := by decide +kernel
theorem dX10_tryThing_88 : decode cX10_tryThing 88 = .ok (.aload_n 0, 1) := by decide +kernel
theorem dX10_tryThing_89 : decode cX10_tryThing 89 = .ok (.iconst 1, 1) := by decide +kernel
theorem dX10_tryThing_90 : decode cX10_tryThing 90 = .ok (.iload_n 3, 1) := by decide +kernel
theorem dX10_tryThing_91 : decode cX10_tryThing 91 = .ok (.invokevirtual 148, 3) := by decide +kernel
theorem dX10_tryThing_94 : decode cX10_tryThing 94 = .ok (.ifCond .eq 7, 3) := by decide +kernel
theorem dX10_tryThing_97 : decode cX10_tryThing 97 = .ok (.iconst 1, 1) := by decide +kernel
theorem dX10_tryThing_98 : decode cX10_tryThing 98 = .ok (.goto 4, 3) := by decide +kernel
theorem dX10_tryThing_101 : decode cX10_tryThing 101 = .ok (.iconst 0, 1) := by decide +kernel
theorem dX10_tryThing_102 : decode cX10_tryThing 102 = .ok (.istore 5, 2) := by decide +kernel
theorem dX10_tryThing_104 : decode cX10_tryThing 104 = .ok (.iload 5, 2) := by decide +kernel
theorem dX10_tryThing_106 : decode cX10_tryThing 106 = .ok (.ifCond .eq 15, 3) := by decide +kernel
theorem dX10_tryThing_109 : decode cX10_tryThing 109 = .ok (.aload_n 0, 1) := by decide +kernel
theorem dX10_tryThing_110 : decode cX10_tryThing 110 = .ok (.getfield 16, 3) := by decide +kernel
theorem dX10_tryThing_113 : decode cX10_tryThing 113 = .ok (.iconst 5, 1) := by decide +kernel
theorem dX10_tryThing_114 : decode cX10_tryThing 114 = .ok (.iload_n 3, 1) := by decide +kernel
theorem dX10_tryThing_115 : decode cX10_tryThing 115 = .ok (.iadd, 1) := by decide +kernel
theorem dX10_tryThing_116 : decode cX10_tryThing 116 = .ok (.dup2, 1) := by decide +kernel
theorem dX10_tryThing_117 : decode cX10_tryThing 117 = .ok (.iaload, 1) := by decide +kernel
theorem dX10_tryThing_118 : decode cX10_tryThing 118 = .ok (.iconst 1, 1) := by decide +kernel
theorem dX10_tryThing_119 : decode cX10_tryThing 119 = .ok (.isub, 1) := by decide +kernel
theorem dX10_tryThing_120 : decode cX10_tryThing 120 = .ok (.iastore, 1) := by decide +kernel
theorem dX10_tryThing_121 : decode cX10_tryThing 121 = .ok (.iload 5, 2) := by decide +kernel
theorem dX10_tryThing_123 : decode cX10_tryThing 123 = .ok (.ireturn, 1) := by decide +kernel
theorem dX10_tryThing_124 : decode cX10_tryThing 124 = .ok (.aload_n 0, 1) := by decide +kernel
theorem dX10_tryThing_125 : decode cX10_tryThing 125 = .ok (.iconst 1, 1) := by decide +kernel
theorem dX10_tryThing_126 : decode cX10_tryThing 126 = .ok (.invokevirtual 151, 3) := by decide +kernel
theorem dX10_tryThing_129 : decode cX10_tryThing 129 = .ok (.pop, 1) := by decide +kernel
theorem dX10_tryThing_130 : decode cX10_tryThing 130 = .ok (.iload_n 2, 1) := by decide +kernel
theorem dX10_tryThing_131 : decode cX10_tryThing 131 = .ok (.ifCond .ne 11, 3) := by decide +kernel
theorem dX10_tryThing_134 : decode cX10_tryThing 134 = .ok (.iload_n 3, 1) := by decide +kernel
theorem dX10_tryThing_135 : decode cX10_tryThing 135 = .ok (.ifCond .ne 7, 3) := by decide +kernel
theorem dX10_tryThing_138 : decode cX10_tryThing 138 = .ok (.iconst 1, 1) := by decide +kernel
theorem dX10_tryThing_139 : decode cX10_tryThing 139 = .ok (.goto 4, 3) := by decide +kernel
theorem dX10_tryThing_142 : decode cX10_tryThing 142 = .ok (.iconst 0, 1) := by decide +kernel
theorem dX10_tryThing_143 : decode cX10_tryThing 143 = .ok (.ireturn, 1) := by decide +kernel
theorem dX10_tryThing_144 : decode cX10_tryThing 144 = .ok (.aload_n 0, 1) := by decide +kernel
theorem dX10_tryThing_145 : decode cX10_tryThing 145 = .ok (.iconst 1, 1) := by decide +kernel
theorem dX10_tryThing_146 : decode cX10_tryThing 146 = .ok (.invokevirtual 157, 3) := by decide +kernel
theorem dX10_tryThing_149 : decode cX10_tryThing 149 = .ok (.iload_n 2, 1) := by decide +kernel
theorem dX10_tryThing_150 : decode cX10_tryThing 150 = .ok (.ifCond .ne 11, 3) := by decide +kernel
theorem dX10_tryThing_153 : decode cX10_tryThing 153 = .ok (.iload_n 3, 1) := by decide +kernel
theorem dX10_tryThing_154 : decode cX10_tryThing 154 = .ok (.ifCond .ne 7, 3) := by decide +kernel
theorem dX10_tryThing_157 : decode cX10_tryThing 157 = .ok (.iconst 1, 1) := by decide +kernel
theorem dX10_tryThing_158 : decode cX10_tryThing 158 = .ok (.goto 4, 3) := by decide +kernel
theorem dX10_tryThing_161 : decode cX10_tryThing 161 = .ok (.iconst 0, 1) := by decide +kernel
theorem dX10_tryThing_162 : decode cX10_tryThing 162 = .ok (.ireturn, 1) := by decide +kernel
theorem dX10_tryThing_163 : decode cX10_tryThing 163 = .ok (.iload_n 2, 1) := by decide +kernel
theorem dX10_tryThing_164 : decode cX10_tryThing 164 = .ok (.ifCond .ne 30, 3) := by decide +kernel
theorem dX10_tryThing_167 : decode cX10_tryThing 167 = .ok (.iload_n 3, 1) := by decide +kernel
theorem dX10_tryThing_168 : decode cX10_tryThing 168 = .ok (.i2l, 1) := by decide +kernel
theorem dX10_tryThing_169 : decode cX10_tryThing 169 = .ok (.lconst 0, 1) := by decide +kernel
theorem dX10_tryThing_170 : decode cX10_tryThing 170 = .ok (.lconst 1, 1) := by decide +kernel
theorem dX10_tryThing_171 : decode cX10_tryThing 171 = .ok (.invokestatic 52, 3) := by decide +kernel
theorem dX10_tryThing_174 : decode cX10_tryThing 174 = .ok (.ifCond .eq 20, 3) := by decide +kernel
theorem dX10_tryThing_177 : decode cX10_tryThing 177 = .ok (.aload_n 0, 1) := by decide +kernel
theorem dX10_tryThing_178 : decode cX10_tryThing 178 = .ok (.iconst 1, 1) := by decide +kernel
theorem dX10_tryThing_179 : decode cX10_tryThing 179 = .ok (.bipush 63, 2) := by decide +kernel
theorem dX10_tryThing_181 : decode cX10_tryThing 181 = .ok (.iload_n 3, 1) := by decide +kernel
theorem dX10_tryThing_182 : decode cX10_tryThing 182 = .ok (.invokevirtual 161, 3) := by decide +kernel
theorem dX10_tryThing_185 : decode cX10_tryThing 185 = .ok (.bipush (-9), 2) := by decide +kernel
theorem dX10_tryThing_187 : decode cX10_tryThing 187 = .ok (.if_icmp .eq 7, 3) := by decide +kernel
theorem dX10_tryThing_190 : decode cX10_tryThing 190 = .ok (.iconst 1, 1) := by decide +kernel
theorem dX10_tryThing_191 : decode cX10_tryThing 191 = .ok (.goto 4, 3) := by decide +kernel
theorem dX10_tryThing_194 : decode cX10_tryThing 194 = .ok (.iconst 0, 1) := by decide +kernel
theorem dX10_tryThing_195 : decode cX10_tryThing 195 = .ok (.ireturn, 1) := by decide +kernel
theorem dX10_tryThing_196 : decode cX10_tryThing 196 = .ok (.aload_n 0, 1) := by decide +kernel
theorem dX10_tryThing_197 : decode cX10_tryThing 197 = .ok (.iload_n 2, 1) := by decide +kernel
theorem dX10_tryThing_198 : decode cX10_tryThing 198 = .ok (.invokevirtual 126, 3) := by decide +kernel
theorem dX10_tryThing_201 : decode cX10_tryThing 201 = .ok (.ifCond .eq 18, 3) := by decide +kernel
theorem dX10_tryThing_204 : decode cX10_tryThing 204 = .ok (.aload_n 0, 1) := by decide +kernel
theorem dX10_tryThing_205 : decode cX10_tryThing 205 = .ok (.iconst 1, 1) := by decide +kernel
theorem dX10_tryThing_206 : decode cX10_tryThing 206 = .ok (.iload_n 2, 1) := by decide +kernel
theorem dX10_tryThing_207 : decode cX10_tryThing 207 = .ok (.iconst 0, 1) := by decide +kernel
theorem dX10_tryThing_208 : decode cX10_tryThing 208 = .ok (.invokevirtual 130, 3) := by decide +kernel
theorem dX10_tryThing_211 : decode cX10_tryThing 211 = .ok (.iload_n 3, 1) := by decide +kernel
theorem dX10_tryThing_212 : decode cX10_tryThing 212 = .ok (.if_icmp .lt 7, 3) := by decide +kernel
theorem dX10_tryThing_215 : decode cX10_tryThing 215 = .ok (.iconst 1, 1) := by decide +kernel
theorem dX10_tryThing_216 : decode cX10_tryThing 216 = .ok (.goto 4, 3) := by decide +kernel
theorem dX10_tryThing_219 : decode cX10_tryThing 219 = .ok (.iconst 0, 1) := by decide +kernel
theorem dX10_tryThing_220 : decode cX10_tryThing 220 = .ok (.ireturn, 1) := by decide +kernel
theorem dX10_tryThing_221 : decode cX10_tryThing 221 = .ok (.aload_n 0, 1) := by decide +kernel
theorem dX10_tryThing_222 : decode cX10_tryThing 222 = .ok (.iconst 1, 1) := by decide +kernel
theorem dX10_tryThing_223 : decode cX10_tryThing 223 = .ok (.invokevirtual 179, 3) := by decide +kernel
theorem dX10_tryThing_226 : decode cX10_tryThing 226 = .ok (.bipush 10, 2) := by decide +kernel
theorem dX10_tryThing_228 : decode cX10_tryThing 228 = .ok (.iload_n 2, 1) := by decide +kernel
theorem dX10_tryThing_229 : decode cX10_tryThing 229 = .ok (.imul, 1) := by decide +kernel
theorem dX10_tryThing_230 : decode cX10_tryThing 230 = .ok (.iload_n 3, 1) := by decide +kernel
theorem dX10_tryThing_231 : decode cX10_tryThing 231 = .ok (.iadd, 1) := by decide +kernel
theorem dX10_tryThing_232 : decode cX10_tryThing 232 = .ok (.if_icmp .lt 7, 3) := by decide +kernel
theorem dX10_tryThing_235 : decode cX10_tryThing 235 = .ok (.iconst 1, 1) := by decide +kernel
theorem dX10_tryThing_236 : decode cX10_tryThing 236 = .ok (.goto 4, 3) := by decide +kernel
theorem dX10_tryThing_239 : decode cX10_tryThing 239 = .ok (.iconst 0, 1) := by decide +kernel
theorem dX10_tryThing_240 : decode cX10_tryThing 240 = .ok (.ireturn, 1) := by decide +kernel
theorem dX10_tryThing_241 : decode cX10_tryThing 241 = .ok (.iconst 0, 1) := by decide +kernel
theorem dX10_tryThing_242 : decode cX10_tryThing 242 = .ok (.ireturn, 1) := by decide +kernel
theorem dX10_thousandTo_0 : decode cX10_thousandTo 0 = .ok (.lconst 1, 1) := by decide +kernel
theorem dX10_thousandTo_1 : decode cX10_thousandTo 1 = .ok (.lstore_n 1, 1) := by decide +kernel
theorem dX10_thousandTo_2 : decode cX10_thousandTo 2 = .ok (.iconst 0, 1) := by decide +kernel
theorem dX10_thousandTo_3 : decode cX10_thousandTo 3 = .ok (.istore_n 3, 1) := by decide +kernel
theorem dX10_thousandTo_4 : decode cX10_thousandTo 4 = .ok (.iload_n 3, 1) := by decide +kernel
theorem dX10_thousandTo_5 : decode cX10_thousandTo 5 = .ok (.iload_n 0, 1) := by decide +kernel
theorem dX10_thousandTo_6 : decode cX10_thousandTo 6 = .ok (.if_icmp .ge 15, 3) := by decide +kernel
theorem dX10_thousandTo_9 : decode cX10_thousandTo 9 = .ok (.lload_n 1, 1) := by decide +kernel
theorem dX10_thousandTo_10 : decode cX10_thousandTo 10 = .ok (.ldc2_w 182, 3) := by decide +kernel
theorem dX10_thousandTo_13 : decode cX10_thousandTo 13 = .ok (.lmul, 1) := by decide +kernel
theorem dX10_thousandTo_14 : decode cX10_thousandTo 14 = .ok (.lstore_n 1, 1) := by decide +kernel
theorem dX10_thousandTo_15 : decode cX10_thousandTo 15 = .ok (.iinc 3 1, 3) := by decide +kernel
theorem dX10_thousandTo_18 : decode cX10_thousandTo 18 = .ok (.goto (-14), 3) := by decide +kernel
theorem dX10_thousandTo_21 : decode cX10_thousandTo 21 = .ok (.lload_n 1, 1) := by decide +kernel
theorem dX10_thousandTo_22 : decode cX10_thousandTo 22 = .ok (.lreturn, 1) := by decide +kernel
theorem dX10_judge_0 : decode cX10_judge 0 = .ok (.iload_n 1, 1) := by decide +kernel
theorem dX10_judge_1 : decode cX10_judge 1 = .ok (.i2l, 1) := by decide +kernel
theorem dX10_judge_2 : decode cX10_judge 2 = .ok (.lconst 1, 1) := by decide +kernel
theorem dX10_judge_3 : decode cX10_judge 3 = .ok (.ldc2_w 184, 3) := by decide +kernel
theorem dX10_judge_6 : decode cX10_judge 6 = .ok (.invokestatic 52, 3) := by decide +kernel
theorem dX10_judge_9 : decode cX10_judge 9 = .ok (.ifCond .eq 17, 3) := by decide +kernel
theorem dX10_judge_12 : decode cX10_judge 12 = .ok (.lload_n 2, 1) := by decide +kernel
theorem dX10_judge_13 : decode cX10_judge 13 = .ok (.lconst 0, 1) := by decide +kernel
theorem dX10_judge_14 : decode cX10_judge 14 = .ok (.iload_n 1, 1) := by decide +kernel
theorem dX10_judge_15 : decode cX10_judge 15 = .ok (.invokestatic 186, 3) := by decide +kernel
theorem dX10_judge_18 : decode cX10_judge 18 = .ok (.lconst 1, 1) := by decide +kernel
theorem dX10_judge_19 : decode cX10_judge 19 = .ok (.lsub, 1) := by decide +kernel
theorem dX10_judge_20 : decode cX10_judge 20 = .ok (.invokestatic 52, 3) := by decide +kernel
theorem dX10_judge_23 : decode cX10_judge 23 = .ok (.ifCond .ne 6, 3) := by decide +kernel
theorem dX10_judge_26 : decode cX10_judge 26 = .ok (.bipush (-2), 2) := by decide +kernel
theorem dX10_judge_28 : decode cX10_judge 28 = .ok (.ireturn, 1) := by decide +kernel
theorem dX10_judge_29 : decode cX10_judge 29 = .ok (.aload_n 0, 1) := by decide +kernel
theorem dX10_judge_30 : decode cX10_judge 30 = .ok (.invokevirtual 189, 3) := by decide +kernel
theorem dX10_judge_33 : decode cX10_judge 33 = .ok (.iconst 0, 1) := by decide +kernel
theorem dX10_judge_34 : decode cX10_judge 34 = .ok (.istore 4, 2) := by decide +kernel
theorem dX10_judge_36 : decode cX10_judge 36 = .ok (.iload 4, 2) := by decide +kernel
theorem dX10_judge_38 : decode cX10_judge 38 = .ok (.iload_n 1, 1) := by decide +kernel
theorem dX10_judge_39 : decode cX10_judge 39 = .ok (.if_icmp .ge 55, 3) := by decide +kernel
theorem dX10_judge_42 : decode cX10_judge 42 = .ok (.lload_n 2, 1) := by decide +kernel
theorem dX10_judge_43 : decode cX10_judge 43 = .ok (.iload_n 1, 1) := by decide +kernel
theorem dX10_judge_44 : decode cX10_judge 44 = .ok (.iconst 1, 1) := by decide +kernel
theorem dX10_judge_45 : decode cX10_judge 45 = .ok (.isub, 1) := by decide +kernel
theorem dX10_judge_46 : decode cX10_judge 46 = .ok (.iload 4, 2) := by decide +kernel
theorem dX10_judge_48 : decode cX10_judge 48 = .ok (.isub, 1) := by decide +kernel
theorem dX10_judge_49 : decode cX10_judge 49 = .ok (.invokestatic 186, 3) := by decide +kernel
theorem dX10_judge_52 : decode cX10_judge 52 = .ok (.ldiv, 1) := by decide +kernel
theorem dX10_judge_53 : decode cX10_judge 53 = .ok (.ldc2_w 182, 3) := by decide +kernel
theorem dX10_judge_56 : decode cX10_judge 56 = .ok (.lrem, 1) := by decide +kernel
theorem dX10_judge_57 : decode cX10_judge 57 = .ok (.l2i, 1) := by decide +kernel
theorem dX10_judge_58 : decode cX10_judge 58 = .ok (.istore 5, 2) := by decide +kernel
theorem dX10_judge_60 : decode cX10_judge 60 = .ok (.aload_n 0, 1) := by decide +kernel
theorem dX10_judge_61 : decode cX10_judge 61 = .ok (.iload 5, 2) := by decide +kernel
theorem dX10_judge_63 : decode cX10_judge 63 = .ok (.bipush 100, 2) := by decide +kernel
theorem dX10_judge_65 : decode cX10_judge 65 = .ok (.idiv, 1) := by decide +kernel
theorem dX10_judge_66 : decode cX10_judge 66 = .ok (.iload 5, 2) := by decide +kernel
theorem dX10_judge_68 : decode cX10_judge 68 = .ok (.bipush 10, 2) := by decide +kernel
theorem dX10_judge_70 : decode cX10_judge 70 = .ok (.idiv, 1) := by decide +kernel
theorem dX10_judge_71 : decode cX10_judge 71 = .ok (.bipush 10, 2) := by decide +kernel
theorem dX10_judge_73 : decode cX10_judge 73 = .ok (.irem, 1) := by decide +kernel
theorem dX10_judge_74 : decode cX10_judge 74 = .ok (.iload 5, 2) := by decide +kernel
theorem dX10_judge_76 : decode cX10_judge 76 = .ok (.bipush 10, 2) := by decide +kernel
theorem dX10_judge_78 : decode cX10_judge 78 = .ok (.irem, 1) := by decide +kernel
theorem dX10_judge_79 : decode cX10_judge 79 = .ok (.invokevirtual 192, 3) := by decide +kernel
theorem dX10_judge_82 : decode cX10_judge 82 = .ok (.ifCond .ne 6, 3) := by decide +kernel
theorem dX10_judge_85 : decode cX10_judge 85 = .ok (.iload 4, 2) := by decide +kernel
theorem dX10_judge_87 : decode cX10_judge 87 = .ok (.ireturn, 1) := by decide +kernel
theorem dX10_judge_88 : decode cX10_judge 88 = .ok (.iinc 4 1, 3) := by decide +kernel
theorem dX10_judge_91 : decode cX10_judge 91 = .ok (.goto (-55), 3) := by decide +kernel
theorem dX10_judge_94 : decode cX10_judge 94 = .ok (.bipush (-9), 2) := by decide +kernel
theorem dX10_judge_96 : decode cX10_judge 96 = .ok (.ireturn, 1) := by decide +kernel
theorem dX10_spy_0 : decode cX10_spy 0 = .ok (.iload_n 1, 1) := by decide +kernel
theorem dX10_spy_1 : decode cX10_spy 1 = .ok (.i2l, 1) := by decide +kernel
theorem dX10_spy_2 : decode cX10_spy 2 = .ok (.lconst 0, 1) := by decide +kernel
theorem dX10_spy_3 : decode cX10_spy 3 = .ok (.ldc2_w 113, 3) := by decide +kernel
theorem dX10_spy_6 : decode cX10_spy 6 = .ok (.invokestatic 52, 3) := by decide +kernel
theorem dX10_spy_9 : decode cX10_spy 9 = .ok (.ifCond .ne 5, 3) := by decide +kernel
theorem dX10_spy_12 : decode cX10_spy 12 = .ok (.iconst (-1), 1) := by decide +kernel
theorem dX10_spy_13 : decode cX10_spy 13 = .ok (.ireturn, 1) := by decide +kernel
theorem dX10_spy_14 : decode cX10_spy 14 = .ok (.iload_n 2, 1) := by decide +kernel
theorem dX10_spy_15 : decode cX10_spy 15 = .ok (.i2l, 1) := by decide +kernel
theorem dX10_spy_16 : decode cX10_spy 16 = .ok (.ldc2_w 67, 3) := by decide +kernel
theorem dX10_spy_19 : decode cX10_spy 19 = .ok (.ldc2_w 69, 3) := by decide +kernel
theorem dX10_spy_22 : decode cX10_spy 22 = .ok (.invokestatic 52, 3) := by decide +kernel
theorem dX10_spy_25 : decode cX10_spy 25 = .ok (.ifCond .eq 13, 3) := by decide +kernel
theorem dX10_spy_28 : decode cX10_spy 28 = .ok (.iload_n 3, 1) := by decide +kernel
theorem dX10_spy_29 : decode cX10_spy 29 = .ok (.i2l, 1) := by decide +kernel
theorem dX10_spy_30 : decode cX10_spy 30 = .ok (.lconst 0, 1) := by decide +kernel
theorem dX10_spy_31 : decode cX10_spy 31 = .ok (.lconst 1, 1) := by decide +kernel
theorem dX10_spy_32 : decode cX10_spy 32 = .ok (.invokestatic 52, 3) := by decide +kernel
theorem dX10_spy_35 : decode cX10_spy 35 = .ok (.ifCond .ne 6, 3) := by decide +kernel
theorem dX10_spy_38 : decode cX10_spy 38 = .ok (.bipush (-2), 2) := by decide +kernel
theorem dX10_spy_40 : decode cX10_spy 40 = .ok (.ireturn, 1) := by decide +kernel
theorem dX10_spy_41 : decode cX10_spy 41 = .ok (.aload_n 0, 1) := by decide +kernel
theorem dX10_spy_42 : decode cX10_spy 42 = .ok (.getfield 196, 3) := by decide +kernel
theorem dX10_spy_45 : decode cX10_spy 45 = .ok (.bipush 6, 2) := by decide +kernel
theorem dX10_spy_47 : decode cX10_spy 47 = .ok (.if_icmp .ne 6, 3) := by decide +kernel
theorem dX10_spy_50 : decode cX10_spy 50 = .ok (.bipush (-4), 2) := by decide +kernel
theorem dX10_spy_52 : decode cX10_spy 52 = .ok (.ireturn, 1) := by decide +kernel
theorem dX10_spy_53 : decode cX10_spy 53 = .ok (.aload_n 0, 1) := by decide +kernel
theorem dX10_spy_54 : decode cX10_spy 54 = .ok (.getfield 34, 3) := by decide +kernel
theorem dX10_spy_57 : decode cX10_spy 57 = .ok (.aload_n 0, 1) := by decide +kernel
theorem dX10_spy_58 : decode cX10_spy 58 = .ok (.getfield 196, 3) := by decide +kernel
theorem dX10_spy_61 : decode cX10_spy 61 = .ok (.iload_n 1, 1) := by decide +kernel
theorem dX10_spy_62 : decode cX10_spy 62 = .ok (.iastore, 1) := by decide +kernel
theorem dX10_spy_63 : decode cX10_spy 63 = .ok (.aload_n 0, 1) := by decide +kernel
theorem dX10_spy_64 : decode cX10_spy 64 = .ok (.getfield 37, 3) := by decide +kernel
theorem dX10_spy_67 : decode cX10_spy 67 = .ok (.aload_n 0, 1) := by decide +kernel
theorem dX10_spy_68 : decode cX10_spy 68 = .ok (.getfield 196, 3) := by decide +kernel
theorem dX10_spy_71 : decode cX10_spy 71 = .ok (.iload_n 2, 1) := by decide +kernel
theorem dX10_spy_72 : decode cX10_spy 72 = .ok (.bipush 97, 2) := by decide +kernel
theorem dX10_spy_74 : decode cX10_spy 74 = .ok (.isub, 1) := by decide +kernel
theorem dX10_spy_75 : decode cX10_spy 75 = .ok (.iastore, 1) := by decide +kernel
theorem dX10_spy_76 : decode cX10_spy 76 = .ok (.aload_n 0, 1) := by decide +kernel
theorem dX10_spy_77 : decode cX10_spy 77 = .ok (.getfield 40, 3) := by decide +kernel
theorem dX10_spy_80 : decode cX10_spy 80 = .ok (.aload_n 0, 1) := by decide +kernel
theorem dX10_spy_81 : decode cX10_spy 81 = .ok (.getfield 196, 3) := by decide +kernel
theorem dX10_spy_84 : decode cX10_spy 84 = .ok (.iload_n 3, 1) := by decide +kernel
theorem dX10_spy_85 : decode cX10_spy 85 = .ok (.iastore, 1) := by decide +kernel
theorem dX10_spy_86 : decode cX10_spy 86 = .ok (.aload_n 0, 1) := by decide +kernel
theorem dX10_spy_87 : decode cX10_spy 87 = .ok (.dup, 1) := by decide +kernel
theorem dX10_spy_88 : decode cX10_spy 88 = .ok (.getfield 196, 3) := by decide +kernel
theorem dX10_spy_91 : decode cX10_spy 91 = .ok (.iconst 1, 1) := by decide +kernel
theorem dX10_spy_92 : decode cX10_spy 92 = .ok (.iadd, 1) := by decide +kernel
theorem dX10_spy_93 : decode cX10_spy 93 = .ok (.putfield 196, 3) := by decide +kernel
theorem dX10_spy_96 : decode cX10_spy 96 = .ok (.aload_n 0, 1) := by decide +kernel
theorem dX10_spy_97 : decode cX10_spy 97 = .ok (.getfield 196, 3) := by decide +kernel
theorem dX10_spy_100 : decode cX10_spy 100 = .ok (.ireturn, 1) := by decide +kernel
theorem dX10_unspy_0 : decode cX10_unspy 0 = .ok (.aload_n 0, 1) := by decide +kernel
theorem dX10_unspy_1 : decode cX10_unspy 1 = .ok (.getfield 196, 3) := by decide +kernel
theorem dX10_unspy_4 : decode cX10_unspy 4 = .ok (.istore_n 1, 1) := by decide +kernel
theorem dX10_unspy_5 : decode cX10_unspy 5 = .ok (.aload_n 0, 1) := by decide +kernel
theorem dX10_unspy_6 : decode cX10_unspy 6 = .ok (.iconst 0, 1) := by decide +kernel
theorem dX10_unspy_7 : decode cX10_unspy 7 = .ok (.putfield 196, 3) := by decide +kernel
theorem dX10_unspy_10 : decode cX10_unspy 10 = .ok (.iload_n 1, 1) := by decide +kernel
theorem dX10_unspy_11 : decode cX10_unspy 11 = .ok (.ireturn, 1) := by decide +kernel
theorem dX10_mayBe_0 : decode cX10_mayBe 0 = .ok (.iconst 1, 1) := by decide +kernel
theorem dX10_mayBe_1 : decode cX10_mayBe 1 = .ok (.istore_n 1, 1) := by decide +kernel
theorem dX10_mayBe_2 : decode cX10_mayBe 2 = .ok (.iconst 0, 1) := by decide +kernel
theorem dX10_mayBe_3 : decode cX10_mayBe 3 = .ok (.istore_n 2, 1) := by decide +kernel
theorem dX10_mayBe_4 : decode cX10_mayBe 4 = .ok (.iload_n 2, 1) := by decide +kernel
theorem dX10_mayBe_5 : decode cX10_mayBe 5 = .ok (.aload_n 0, 1) := by decide +kernel
theorem dX10_mayBe_6 : decode cX10_mayBe 6 = .ok (.getfield 196, 3) := by decide +kernel
theorem dX10_mayBe_9 : decode cX10_mayBe 9 = .ok (.if_icmp .ge 65, 3) := by decide +kernel
theorem dX10_mayBe_12 : decode cX10_mayBe 12 = .ok (.iload_n 1, 1) := by decide +kernel
theorem dX10_mayBe_13 : decode cX10_mayBe 13 = .ok (.ifCond .eq 53, 3) := by decide +kernel
theorem dX10_mayBe_16 : decode cX10_mayBe 16 = .ok (.aload_n 0, 1) := by decide +kernel
theorem dX10_mayBe_17 : decode cX10_mayBe 17 = .ok (.iconst 1, 1) := by decide +kernel
theorem dX10_mayBe_18 : decode cX10_mayBe 18 = .ok (.bipush 63, 2) := by decide +kernel
theorem dX10_mayBe_20 : decode cX10_mayBe 20 = .ok (.aload_n 0, 1) := by decide +kernel
theorem dX10_mayBe_21 : decode cX10_mayBe 21 = .ok (.getfield 34, 3) := by decide +kernel
theorem dX10_mayBe_24 : decode cX10_mayBe 24 = .ok (.iload_n 2, 1) := by decide +kernel
theorem dX10_mayBe_25 : decode cX10_mayBe 25 = .ok (.iaload, 1) := by decide +kernel
theorem dX10_mayBe_26 : decode cX10_mayBe 26 = .ok (.iconst 0, 1) := by decide +kernel
theorem dX10_mayBe_27 : decode cX10_mayBe 27 = .ok (.invokevirtual 119, 3) := by decide +kernel
theorem dX10_mayBe_30 : decode cX10_mayBe 30 = .ok (.aload_n 0, 1) := by decide +kernel
theorem dX10_mayBe_31 : decode cX10_mayBe 31 = .ok (.getfield 37, 3) := by decide +kernel
theorem dX10_mayBe_34 : decode cX10_mayBe 34 = .ok (.iload_n 2, 1) := by decide +kernel
theorem dX10_mayBe_35 : decode cX10_mayBe 35 = .ok (.iaload, 1) := by decide +kernel
theorem dX10_mayBe_36 : decode cX10_mayBe 36 = .ok (.if_icmp .ne 7, 3) := by decide +kernel
theorem dX10_mayBe_39 : decode cX10_mayBe 39 = .ok (.iconst 1, 1) := by decide +kernel
theorem dX10_mayBe_40 : decode cX10_mayBe 40 = .ok (.goto 4, 3) := by decide +kernel
theorem dX10_mayBe_43 : decode cX10_mayBe 43 = .ok (.iconst 0, 1) := by decide +kernel
theorem dX10_mayBe_44 : decode cX10_mayBe 44 = .ok (.aload_n 0, 1) := by decide +kernel
theorem dX10_mayBe_45 : decode cX10_mayBe 45 = .ok (.getfield 40, 3) := by decide +kernel
theorem dX10_mayBe_48 : decode cX10_mayBe 48 = .ok (.iload_n 2, 1) := by decide +kernel
theorem dX10_mayBe_49 : decode cX10_mayBe 49 = .ok (.iaload, 1) := by decide +kernel
theorem dX10_mayBe_50 : decode cX10_mayBe 50 = .ok (.iconst 1, 1) := by decide +kernel
theorem dX10_mayBe_51 : decode cX10_mayBe 51 = .ok (.if_icmp .ne 7, 3) := by decide +kernel
theorem dX10_mayBe_54 : decode cX10_mayBe 54 = .ok (.iconst 1, 1) := by decide +kernel
theorem dX10_mayBe_55 : decode cX10_mayBe 55 = .ok (.goto 4, 3) := by decide +kernel
theorem dX10_mayBe_58 : decode cX10_mayBe 58 = .ok (.iconst 0, 1) := by decide +kernel
theorem dX10_mayBe_59 : decode cX10_mayBe 59 = .ok (.if_icmp .ne 7, 3) := by decide +kernel
theorem dX10_mayBe_62 : decode cX10_mayBe 62 = .ok (.iconst 1, 1) := by decide +kernel
theorem dX10_mayBe_63 : decode cX10_mayBe 63 = .ok (.goto 4, 3) := by decide +kernel
theorem dX10_mayBe_66 : decode cX10_mayBe 66 = .ok (.iconst 0, 1) := by decide +kernel
theorem dX10_mayBe_67 : decode cX10_mayBe 67 = .ok (.istore_n 1, 1) := by decide +kernel
theorem dX10_mayBe_68 : decode cX10_mayBe 68 = .ok (.iinc 2 1, 3) := by decide +kernel
theorem dX10_mayBe_71 : decode cX10_mayBe 71 = .ok (.goto (-67), 3) := by decide +kernel
theorem dX10_mayBe_74 : decode cX10_mayBe 74 = .ok (.iload_n 1, 1) := by decide +kernel
theorem dX10_mayBe_75 : decode cX10_mayBe 75 = .ok (.ireturn, 1) := by decide +kernel
theorem dX10_gaps_0 : decode cX10_gaps 0 = .ok (.iload_n 1, 1) := by decide +kernel
theorem dX10_gaps_1 : decode cX10_gaps 1 = .ok (.i2l, 1) := by decide +kernel
theorem dX10_gaps_2 : decode cX10_gaps 2 = .ok (.lconst 0, 1) := by decide +kernel
theorem dX10_gaps_3 : decode cX10_gaps 3 = .ok (.lconst 1, 1) := by decide +kernel
theorem dX10_gaps_4 : decode cX10_gaps 4 = .ok (.invokestatic 52, 3) := by decide +kernel
theorem dX10_gaps_7 : decode cX10_gaps 7 = .ok (.ifCond .ne 6, 3) := by decide +kernel
theorem dX10_gaps_10 : decode cX10_gaps 10 = .ok (.bipush (-2), 2) := by decide +kernel
theorem dX10_gaps_12 : decode cX10_gaps 12 = .ok (.ireturn, 1) := by decide +kernel
theorem dX10_gaps_13 : decode cX10_gaps 13 = .ok (.iconst 0, 1) := by decide +kernel
theorem dX10_gaps_14 : decode cX10_gaps 14 = .ok (.istore_n 2, 1) := by decide +kernel
theorem dX10_gaps_15 : decode cX10_gaps 15 = .ok (.bipush (-9), 2) := by decide +kernel
theorem dX10_gaps_17 : decode cX10_gaps 17 = .ok (.istore_n 3, 1) := by decide +kernel
theorem dX10_gaps_18 : decode cX10_gaps 18 = .ok (.iconst 0, 1) := by decide +kernel
theorem dX10_gaps_19 : decode cX10_gaps 19 = .ok (.istore 4, 2) := by decide +kernel
theorem dX10_gaps_21 : decode cX10_gaps 21 = .ok (.iload 4, 2) := by decide +kernel
theorem dX10_gaps_23 : decode cX10_gaps 23 = .ok (.aload_n 0, 1) := by decide +kernel
theorem dX10_gaps_24 : decode cX10_gaps 24 = .ok (.invokevirtual 164, 3) := by decide +kernel
theorem dX10_gaps_27 : decode cX10_gaps 27 = .ok (.if_icmp .ge 42, 3) := by decide +kernel
theorem dX10_gaps_30 : decode cX10_gaps 30 = .ok (.aload_n 0, 1) := by decide +kernel
theorem dX10_gaps_31 : decode cX10_gaps 31 = .ok (.iload 4, 2) := by decide +kernel
theorem dX10_gaps_33 : decode cX10_gaps 33 = .ok (.invokevirtual 167, 3) := by decide +kernel
theorem dX10_gaps_36 : decode cX10_gaps 36 = .ok (.ifCond .eq 27, 3) := by decide +kernel
theorem dX10_gaps_39 : decode cX10_gaps 39 = .ok (.aload_n 0, 1) := by decide +kernel
theorem dX10_gaps_40 : decode cX10_gaps 40 = .ok (.invokevirtual 199, 3) := by decide +kernel
theorem dX10_gaps_43 : decode cX10_gaps 43 = .ok (.ifCond .eq 20, 3) := by decide +kernel
theorem dX10_gaps_46 : decode cX10_gaps 46 = .ok (.iload_n 2, 1) := by decide +kernel
theorem dX10_gaps_47 : decode cX10_gaps 47 = .ok (.ifCond .ne 11, 3) := by decide +kernel
theorem dX10_gaps_50 : decode cX10_gaps 50 = .ok (.aload_n 0, 1) := by decide +kernel
theorem dX10_gaps_51 : decode cX10_gaps 51 = .ok (.iconst 1, 1) := by decide +kernel
theorem dX10_gaps_52 : decode cX10_gaps 52 = .ok (.invokevirtual 173, 3) := by decide +kernel
theorem dX10_gaps_55 : decode cX10_gaps 55 = .ok (.goto 4, 3) := by decide +kernel
theorem dX10_gaps_58 : decode cX10_gaps 58 = .ok (.iload_n 3, 1) := by decide +kernel
theorem dX10_gaps_59 : decode cX10_gaps 59 = .ok (.istore_n 3, 1) := by decide +kernel
theorem dX10_gaps_60 : decode cX10_gaps 60 = .ok (.iinc 2 1, 3) := by decide +kernel
theorem dX10_gaps_63 : decode cX10_gaps 63 = .ok (.iinc 4 1, 3) := by decide +kernel
theorem dX10_gaps_66 : decode cX10_gaps 66 = .ok (.goto (-45), 3) := by decide +kernel
theorem dX10_gaps_69 : decode cX10_gaps 69 = .ok (.iload_n 1, 1) := by decide +kernel
theorem dX10_gaps_70 : decode cX10_gaps 70 = .ok (.ifCond .ne 7, 3) := by decide +kernel
theorem dX10_gaps_73 : decode cX10_gaps 73 = .ok (.iload_n 2, 1) := by decide +kernel
theorem dX10_gaps_74 : decode cX10_gaps 74 = .ok (.goto 4, 3) := by decide +kernel
theorem dX10_gaps_77 : decode cX10_gaps 77 = .ok (.iload_n 3, 1) := by decide +kernel
theorem dX10_gaps_78 : decode cX10_gaps 78 = .ok (.ireturn, 1) := by decide +kernel
theorem dX10_factorial_0 : decode cX10_factorial 0 = .ok (.iconst 1, 1) := by decide +kernel
theorem dX10_factorial_1 : decode cX10_factorial 1 = .ok (.istore_n 1, 1) := by decide +kernel
theorem dX10_factorial_2 : decode cX10_factorial 2 = .ok (.iconst 2, 1) := by decide +kernel
theorem dX10_factorial_3 : decode cX10_factorial 3 = .ok (.istore_n 2, 1) := by decide +kernel
theorem dX10_factorial_4 : decode cX10_factorial 4 = .ok (.iload_n 2, 1) := by decide +kernel
theorem dX10_factorial_5 : decode cX10_factorial 5 = .ok (.iload_n 0, 1) := by decide +kernel
theorem dX10_factorial_6 : decode cX10_factorial 6 = .ok (.if_icmp .gt 13, 3) := by decide +kernel
theorem dX10_factorial_9 : decode cX10_factorial 9 = .ok (.iload_n 1, 1) := by decide +kernel
theorem dX10_factorial_10 : decode cX10_factorial 10 = .ok (.iload_n 2, 1) := by decide +kernel
theorem dX10_factorial_11 : decode cX10_factorial 11 = .ok (.imul, 1) := by decide +kernel
theorem dX10_factorial_12 : decode cX10_factorial 12 = .ok (.istore_n 1, 1) := by decide +kernel
theorem dX10_factorial_13 : decode cX10_factorial 13 = .ok (.iinc 2 1, 3) := by decide +kernel
theorem dX10_factorial_16 : decode cX10_factorial 16 = .ok (.goto (-12), 3) := by decide +kernel
theorem dX10_factorial_19 : decode cX10_factorial 19 = .ok (.iload_n 1, 1) := by decide +kernel
theorem dX10_factorial_20 : decode cX10_factorial 20 = .ok (.ireturn, 1) := by decide +kernel
theorem dX10_common_0 : decode cX10_common 0 = .ok (.iload_n 0, 1) := by decide +kernel
theorem dX10_common_1 : decode cX10_common 1 = .ok (.ifCond .ge 8, 3) := by decide +kernel
theorem dX10_common_4 : decode cX10_common 4 = .ok (.iload_n 0, 1) := by decide +kernel
theorem dX10_common_5 : decode cX10_common 5 = .ok (.ineg, 1) := by decide +kernel
theorem dX10_common_6 : decode cX10_common 6 = .ok (.goto 4, 3) := by decide +kernel
theorem dX10_common_9 : decode cX10_common 9 = .ok (.iload_n 0, 1) := by decide +kernel
theorem dX10_common_10 : decode cX10_common 10 = .ok (.istore_n 2, 1) := by decide +kernel
theorem dX10_common_11 : decode cX10_common 11 = .ok (.iload_n 1, 1) := by decide +kernel
theorem dX10_common_12 : decode cX10_common 12 = .ok (.istore_n 3, 1) := by decide +kernel
theorem dX10_common_13 : decode cX10_common 13 = .ok (.iload_n 3, 1) := by decide +kernel
theorem dX10_common_14 : decode cX10_common 14 = .ok (.ifCond .eq 16, 3) := by decide +kernel
theorem dX10_common_17 : decode cX10_common 17 = .ok (.iload_n 2, 1) := by decide +kernel
theorem dX10_common_18 : decode cX10_common 18 = .ok (.iload_n 3, 1) := by decide +kernel
theorem dX10_common_19 : decode cX10_common 19 = .ok (.irem, 1) := by decide +kernel
theorem dX10_common_20 : decode cX10_common 20 = .ok (.istore 4, 2) := by decide +kernel
theorem dX10_common_22 : decode cX10_common 22 = .ok (.iload_n 3, 1) := by decide +kernel
theorem dX10_common_23 : decode cX10_common 23 = .ok (.istore_n 2, 1) := by decide +kernel
theorem dX10_common_24 : decode cX10_common 24 = .ok (.iload 4, 2) := by decide +kernel
theorem dX10_common_26 : decode cX10_common 26 = .ok (.istore_n 3, 1) := by decide +kernel
theorem dX10_common_27 : decode cX10_common 27 = .ok (.goto (-14), 3) := by decide +kernel
theorem dX10_common_30 : decode cX10_common 30 = .ok (.iload_n 2, 1) := by decide +kernel
theorem dX10_common_31 : decode cX10_common 31 = .ok (.ireturn, 1) := by decide +kernel
theorem dX10_share_0 : decode cX10_share 0 = .ok (.aload_n 0, 1) := by decide +kernel
theorem dX10_share_1 : decode cX10_share 1 = .ok (.iload_n 1, 1) := by decide +kernel
theorem dX10_share_2 : decode cX10_share 2 = .ok (.invokevirtual 126, 3) := by decide +kernel
theorem dX10_share_5 : decode cX10_share 5 = .ok (.ifCond .ne 5, 3) := by decide +kernel
theorem dX10_share_8 : decode cX10_share 8 = .ok (.iconst (-1), 1) := by decide +kernel
theorem dX10_share_9 : decode cX10_share 9 = .ok (.ireturn, 1) := by decide +kernel
theorem dX10_share_10 : decode cX10_share 10 = .ok (.iconst 0, 1) := by decide +kernel
theorem dX10_share_11 : decode cX10_share 11 = .ok (.istore_n 3, 1) := by decide +kernel
theorem dX10_share_12 : decode cX10_share 12 = .ok (.iconst 0, 1) := by decide +kernel
theorem dX10_share_13 : decode cX10_share 13 = .ok (.istore 4, 2) := by decide +kernel
theorem dX10_share_15 : decode cX10_share 15 = .ok (.iload 4, 2) := by decide +kernel
theorem dX10_share_17 : decode cX10_share 17 = .ok (.iconst 1, 1) := by decide +kernel
theorem dX10_share_18 : decode cX10_share 18 = .ok (.aload_n 0, 1) := by decide +kernel
theorem dX10_share_19 : decode cX10_share 19 = .ok (.getfield 75, 3) := by decide +kernel
theorem dX10_share_22 : decode cX10_share 22 = .ok (.ishl, 1) := by decide +kernel
theorem dX10_share_23 : decode cX10_share 23 = .ok (.if_icmp .ge 69, 3) := by decide +kernel
theorem dX10_share_26 : decode cX10_share 26 = .ok (.iload 4, 2) := by decide +kernel
theorem dX10_share_28 : decode cX10_share 28 = .ok (.iload_n 1, 1) := by decide +kernel
theorem dX10_share_29 : decode cX10_share 29 = .ok (.invokestatic 105, 3) := by decide +kernel
theorem dX10_share_32 : decode cX10_share 32 = .ok (.ifCond .ne 54, 3) := by decide +kernel
theorem dX10_share_35 : decode cX10_share 35 = .ok (.iload 4, 2) := by decide +kernel
theorem dX10_share_37 : decode cX10_share 37 = .ok (.invokestatic 203, 3) := by decide +kernel
theorem dX10_share_40 : decode cX10_share 40 = .ok (.invokestatic 206, 3) := by decide +kernel
theorem dX10_share_43 : decode cX10_share 43 = .ok (.aload_n 0, 1) := by decide +kernel
theorem dX10_share_44 : decode cX10_share 44 = .ok (.getfield 75, 3) := by decide +kernel
theorem dX10_share_47 : decode cX10_share 47 = .ok (.iconst 1, 1) := by decide +kernel
theorem dX10_share_48 : decode cX10_share 48 = .ok (.isub, 1) := by decide +kernel
theorem dX10_share_49 : decode cX10_share 49 = .ok (.iload 4, 2) := by decide +kernel
theorem dX10_share_51 : decode cX10_share 51 = .ok (.invokestatic 203, 3) := by decide +kernel
theorem dX10_share_54 : decode cX10_share 54 = .ok (.isub, 1) := by decide +kernel
theorem dX10_share_55 : decode cX10_share 55 = .ok (.invokestatic 206, 3) := by decide +kernel
theorem dX10_share_58 : decode cX10_share 58 = .ok (.imul, 1) := by decide +kernel
theorem dX10_share_59 : decode cX10_share 59 = .ok (.istore 5, 2) := by decide +kernel
theorem dX10_share_61 : decode cX10_share 61 = .ok (.iload_n 3, 1) := by decide +kernel
theorem dX10_share_62 : decode cX10_share 62 = .ok (.iload 5, 2) := by decide +kernel
theorem dX10_share_64 : decode cX10_share 64 = .ok (.aload_n 0, 1) := by decide +kernel
theorem dX10_share_65 : decode cX10_share 65 = .ok (.iconst 0, 1) := by decide +kernel
theorem dX10_share_66 : decode cX10_share 66 = .ok (.iload 4, 2) := by decide +kernel
theorem dX10_share_68 : decode cX10_share 68 = .ok (.iconst 1, 1) := by decide +kernel
theorem dX10_share_69 : decode cX10_share 69 = .ok (.iload_n 1, 1) := by decide +kernel
theorem dX10_share_70 : decode cX10_share 70 = .ok (.ishl, 1) := by decide +kernel
theorem dX10_share_71 : decode cX10_share 71 = .ok (.ior, 1) := by decide +kernel
theorem dX10_share_72 : decode cX10_share 72 = .ok (.invokevirtual 209, 3) := by decide +kernel
theorem dX10_share_75 : decode cX10_share 75 = .ok (.aload_n 0, 1) := by decide +kernel
theorem dX10_share_76 : decode cX10_share 76 = .ok (.iconst 0, 1) := by decide +kernel
theorem dX10_share_77 : decode cX10_share 77 = .ok (.iload 4, 2) := by decide +kernel
theorem dX10_share_79 : decode cX10_share 79 = .ok (.invokevirtual 209, 3) := by decide +kernel
theorem dX10_share_82 : decode cX10_share 82 = .ok (.isub, 1) := by decide +kernel
theorem dX10_share_83 : decode cX10_share 83 = .ok (.imul, 1) := by decide +kernel
theorem dX10_share_84 : decode cX10_share 84 = .ok (.iadd, 1) := by decide +kernel
theorem dX10_share_85 : decode cX10_share 85 = .ok (.istore_n 3, 1) := by decide +kernel
theorem dX10_share_86 : decode cX10_share 86 = .ok (.iinc 4 1, 3) := by decide +kernel
theorem dX10_share_89 : decode cX10_share 89 = .ok (.goto (-74), 3) := by decide +kernel
theorem dX10_share_92 : decode cX10_share 92 = .ok (.iload_n 3, 1) := by decide +kernel
theorem dX10_share_93 : decode cX10_share 93 = .ok (.aload_n 0, 1) := by decide +kernel
theorem dX10_share_94 : decode cX10_share 94 = .ok (.getfield 75, 3) := by decide +kernel
theorem dX10_share_97 : decode cX10_share 97 = .ok (.invokestatic 206, 3) := by decide +kernel
theorem dX10_share_100 : decode cX10_share 100 = .ok (.invokestatic 212, 3) := by decide +kernel
theorem dX10_share_103 : decode cX10_share 103 = .ok (.istore 4, 2) := by decide +kernel
theorem dX10_share_105 : decode cX10_share 105 = .ok (.iload_n 2, 1) := by decide +kernel
theorem dX10_share_106 : decode cX10_share 106 = .ok (.ifCond .eq 10, 3) := by decide +kernel
theorem dX10_share_109 : decode cX10_share 109 = .ok (.iload_n 3, 1) := by decide +kernel
theorem dX10_share_110 : decode cX10_share 110 = .ok (.iload 4, 2) := by decide +kernel
theorem dX10_share_112 : decode cX10_share 112 = .ok (.idiv, 1) := by decide +kernel
theorem dX10_share_113 : decode cX10_share 113 = .ok (.goto 13, 3) := by decide +kernel
theorem dX10_share_116 : decode cX10_share 116 = .ok (.aload_n 0, 1) := by decide +kernel
theorem dX10_share_117 : decode cX10_share 117 = .ok (.getfield 75, 3) := by decide +kernel
theorem dX10_share_120 : decode cX10_share 120 = .ok (.invokestatic 206, 3) := by decide +kernel
theorem dX10_share_123 : decode cX10_share 123 = .ok (.iload 4, 2) := by decide +kernel
theorem dX10_share_125 : decode cX10_share 125 = .ok (.idiv, 1) := by decide +kernel
theorem dX10_share_126 : decode cX10_share 126 = .ok (.ireturn, 1) := by decide +kernel
theorem dX10_gain_0 : decode cX10_gain 0 = .ok (.aload_n 0, 1) := by decide +kernel
theorem dX10_gain_1 : decode cX10_gain 1 = .ok (.invokevirtual 189, 3) := by decide +kernel
theorem dX10_gain_4 : decode cX10_gain 4 = .ok (.aload_n 0, 1) := by decide +kernel
theorem dX10_gain_5 : decode cX10_gain 5 = .ok (.getfield 16, 3) := by decide +kernel
theorem dX10_gain_8 : decode cX10_gain 8 = .ok (.iconst 5, 1) := by decide +kernel
theorem dX10_gain_9 : decode cX10_gain 9 = .ok (.iload_n 1, 1) := by decide +kernel
theorem dX10_gain_10 : decode cX10_gain 10 = .ok (.iadd, 1) := by decide +kernel
theorem dX10_gain_11 : decode cX10_gain 11 = .ok (.dup2, 1) := by decide +kernel
theorem dX10_gain_12 : decode cX10_gain 12 = .ok (.iaload, 1) := by decide +kernel
theorem dX10_gain_13 : decode cX10_gain 13 = .ok (.iload_n 3, 1) := by decide +kernel
theorem dX10_gain_14 : decode cX10_gain 14 = .ok (.iconst 1, 1) := by decide +kernel
theorem dX10_gain_15 : decode cX10_gain 15 = .ok (.if_icmp .ne 16, 3) := by decide +kernel
theorem dX10_gain_18 : decode cX10_gain 18 = .ok (.aload_n 0, 1) := by decide +kernel
theorem dX10_gain_19 : decode cX10_gain 19 = .ok (.iconst 1, 1) := by decide +kernel
theorem dX10_gain_20 : decode cX10_gain 20 = .ok (.iload_n 1, 1) := by decide +kernel
theorem dX10_gain_21 : decode cX10_gain 21 = .ok (.invokevirtual 142, 3) := by decide +kernel
theorem dX10_gain_24 : decode cX10_gain 24 = .ok (.ifCond .eq 7, 3) := by decide +kernel
theorem dX10_gain_27 : decode cX10_gain 27 = .ok (.iconst 1, 1) := by decide +kernel
theorem dX10_gain_28 : decode cX10_gain 28 = .ok (.goto 4, 3) := by decide +kernel
theorem dX10_gain_31 : decode cX10_gain 31 = .ok (.iconst 0, 1) := by decide +kernel
theorem dX10_gain_32 : decode cX10_gain 32 = .ok (.iadd, 1) := by decide +kernel
theorem dX10_gain_33 : decode cX10_gain 33 = .ok (.iastore, 1) := by decide +kernel
theorem dX10_gain_34 : decode cX10_gain 34 = .ok (.aload_n 0, 1) := by decide +kernel
theorem dX10_gain_35 : decode cX10_gain 35 = .ok (.getfield 16, 3) := by decide +kernel
theorem dX10_gain_38 : decode cX10_gain 38 = .ok (.iconst 5, 1) := by decide +kernel
theorem dX10_gain_39 : decode cX10_gain 39 = .ok (.iload_n 2, 1) := by decide +kernel
theorem dX10_gain_40 : decode cX10_gain 40 = .ok (.iadd, 1) := by decide +kernel
theorem dX10_gain_41 : decode cX10_gain 41 = .ok (.dup2, 1) := by decide +kernel
theorem dX10_gain_42 : decode cX10_gain 42 = .ok (.iaload, 1) := by decide +kernel
theorem dX10_gain_43 : decode cX10_gain 43 = .ok (.iload 4, 2) := by decide +kernel
theorem dX10_gain_45 : decode cX10_gain 45 = .ok (.iconst 1, 1) := by decide +kernel
theorem dX10_gain_46 : decode cX10_gain 46 = .ok (.if_icmp .ne 16, 3) := by decide +kernel
theorem dX10_gain_49 : decode cX10_gain 49 = .ok (.aload_n 0, 1) := by decide +kernel
theorem dX10_gain_50 : decode cX10_gain 50 = .ok (.iconst 1, 1) := by decide +kernel
theorem dX10_gain_51 : decode cX10_gain 51 = .ok (.iload_n 2, 1) := by decide +kernel
theorem dX10_gain_52 : decode cX10_gain 52 = .ok (.invokevirtual 142, 3) := by decide +kernel
theorem dX10_gain_55 : decode cX10_gain 55 = .ok (.ifCond .eq 7, 3) := by decide +kernel
theorem dX10_gain_58 : decode cX10_gain 58 = .ok (.iconst 1, 1) := by decide +kernel
theorem dX10_gain_59 : decode cX10_gain 59 = .ok (.goto 4, 3) := by decide +kernel
theorem dX10_gain_62 : decode cX10_gain 62 = .ok (.iconst 0, 1) := by decide +kernel
theorem dX10_gain_63 : decode cX10_gain 63 = .ok (.iadd, 1) := by decide +kernel
theorem dX10_gain_64 : decode cX10_gain 64 = .ok (.iastore, 1) := by decide +kernel
theorem dX10_gain_65 : decode cX10_gain 65 = .ok (.iconst 2, 1) := by decide +kernel
theorem dX10_gain_66 : decode cX10_gain 66 = .ok (.aload_n 0, 1) := by decide +kernel
theorem dX10_gain_67 : decode cX10_gain 67 = .ok (.iconst 1, 1) := by decide +kernel
theorem dX10_gain_68 : decode cX10_gain 68 = .ok (.iload_n 1, 1) := by decide +kernel
theorem dX10_gain_69 : decode cX10_gain 69 = .ok (.iconst 0, 1) := by decide +kernel
theorem dX10_gain_70 : decode cX10_gain 70 = .ok (.invokevirtual 130, 3) := by decide +kernel
theorem dX10_gain_73 : decode cX10_gain 73 = .ok (.imul, 1) := by decide +kernel
theorem dX10_gain_74 : decode cX10_gain 74 = .ok (.aload_n 0, 1) := by decide +kernel
theorem dX10_gain_75 : decode cX10_gain 75 = .ok (.iconst 1, 1) := by decide +kernel
theorem dX10_gain_76 : decode cX10_gain 76 = .ok (.iload_n 2, 1) := by decide +kernel
theorem dX10_gain_77 : decode cX10_gain 77 = .ok (.iconst 1, 1) := by decide +kernel
theorem dX10_gain_78 : decode cX10_gain 78 = .ok (.iadd, 1) := by decide +kernel
theorem dX10_gain_79 : decode cX10_gain 79 = .ok (.iconst 0, 1) := by decide +kernel
theorem dX10_gain_80 : decode cX10_gain 80 = .ok (.invokevirtual 130, 3) := by decide +kernel
theorem dX10_gain_83 : decode cX10_gain 83 = .ok (.isub, 1) := by decide +kernel
theorem dX10_gain_84 : decode cX10_gain 84 = .ok (.iload_n 3, 1) := by decide +kernel
theorem dX10_gain_85 : decode cX10_gain 85 = .ok (.isub, 1) := by decide +kernel
theorem dX10_gain_86 : decode cX10_gain 86 = .ok (.ireturn, 1) := by decide +kernel
theorem dX10_isRest_0 : decode cX10_isRest 0 = .ok (.aload_n 0, 1) := by decide +kernel
theorem dX10_isRest_1 : decode cX10_isRest 1 = .ok (.iload_n 1, 1) := by decide +kernel
theorem dX10_isRest_2 : decode cX10_isRest 2 = .ok (.iload_n 2, 1) := by decide +kernel
theorem dX10_isRest_3 : decode cX10_isRest 3 = .ok (.iconst 1, 1) := by decide +kernel
theorem dX10_isRest_4 : decode cX10_isRest 4 = .ok (.iload_n 3, 1) := by decide +kernel
theorem dX10_isRest_5 : decode cX10_isRest 5 = .ok (.isub, 1) := by decide +kernel
theorem dX10_isRest_6 : decode cX10_isRest 6 = .ok (.iload 4, 2) := by decide +kernel
theorem dX10_isRest_8 : decode cX10_isRest 8 = .ok (.invokevirtual 215, 3) := by decide +kernel
theorem dX10_isRest_11 : decode cX10_isRest 11 = .ok (.aload_n 0, 1) := by decide +kernel
theorem dX10_isRest_12 : decode cX10_isRest 12 = .ok (.iload_n 1, 1) := by decide +kernel
theorem dX10_isRest_13 : decode cX10_isRest 13 = .ok (.iload_n 2, 1) := by decide +kernel
theorem dX10_isRest_14 : decode cX10_isRest 14 = .ok (.iload_n 3, 1) := by decide +kernel
theorem dX10_isRest_15 : decode cX10_isRest 15 = .ok (.iload 4, 2) := by decide +kernel
theorem dX10_isRest_17 : decode cX10_isRest 17 = .ok (.invokevirtual 215, 3) := by decide +kernel
theorem dX10_isRest_20 : decode cX10_isRest 20 = .ok (.if_icmp .gt 30, 3) := by decide +kernel
theorem dX10_isRest_23 : decode cX10_isRest 23 = .ok (.aload_n 0, 1) := by decide +kernel
theorem dX10_isRest_24 : decode cX10_isRest 24 = .ok (.iload_n 2, 1) := by decide +kernel
theorem dX10_isRest_25 : decode cX10_isRest 25 = .ok (.iload_n 1, 1) := by decide +kernel
theorem dX10_isRest_26 : decode cX10_isRest 26 = .ok (.iconst 1, 1) := by decide +kernel
theorem dX10_isRest_27 : decode cX10_isRest 27 = .ok (.iload 4, 2) := by decide +kernel
theorem dX10_isRest_29 : decode cX10_isRest 29 = .ok (.isub, 1) := by decide +kernel
theorem dX10_isRest_30 : decode cX10_isRest 30 = .ok (.iload_n 3, 1) := by decide +kernel
theorem dX10_isRest_31 : decode cX10_isRest 31 = .ok (.invokevirtual 215, 3) := by decide +kernel
theorem dX10_isRest_34 : decode cX10_isRest 34 = .ok (.aload_n 0, 1) := by decide +kernel
theorem dX10_isRest_35 : decode cX10_isRest 35 = .ok (.iload_n 2, 1) := by decide +kernel
theorem dX10_isRest_36 : decode cX10_isRest 36 = .ok (.iload_n 1, 1) := by decide +kernel
theorem dX10_isRest_37 : decode cX10_isRest 37 = .ok (.iload 4, 2) := by decide +kernel
theorem dX10_isRest_39 : decode cX10_isRest 39 = .ok (.iload_n 3, 1) := by decide +kernel
theorem dX10_isRest_40 : decode cX10_isRest 40 = .ok (.invokevirtual 215, 3) := by decide +kernel
theorem dX10_isRest_43 : decode cX10_isRest 43 = .ok (.if_icmp .gt 7, 3) := by decide +kernel
theorem dX10_isRest_46 : decode cX10_isRest 46 = .ok (.iconst 1, 1) := by decide +kernel
theorem dX10_isRest_47 : decode cX10_isRest 47 = .ok (.goto 4, 3) := by decide +kernel
theorem dX10_isRest_50 : decode cX10_isRest 50 = .ok (.iconst 0, 1) := by decide +kernel
theorem dX10_isRest_51 : decode cX10_isRest 51 = .ok (.ireturn, 1) := by decide +kernel
theorem dX10_rests_0 : decode cX10_rests 0 = .ok (.aload_n 0, 1) := by decide +kernel
theorem dX10_rests_1 : decode cX10_rests 1 = .ok (.iload_n 1, 1) := by decide +kernel
theorem dX10_rests_2 : decode cX10_rests 2 = .ok (.invokevirtual 133, 3) := by decide +kernel
theorem dX10_rests_5 : decode cX10_rests 5 = .ok (.ifCond .eq 11, 3) := by decide +kernel
theorem dX10_rests_8 : decode cX10_rests 8 = .ok (.aload_n 0, 1) := by decide +kernel
theorem dX10_rests_9 : decode cX10_rests 9 = .ok (.iload_n 2, 1) := by decide +kernel
theorem dX10_rests_10 : decode cX10_rests 10 = .ok (.invokevirtual 133, 3) := by decide +kernel
theorem dX10_rests_13 : decode cX10_rests 13 = .ok (.ifCond .ne 5, 3) := by decide +kernel
theorem dX10_rests_16 : decode cX10_rests 16 = .ok (.iconst (-1), 1) := by decide +kernel
theorem dX10_rests_17 : decode cX10_rests 17 = .ok (.ireturn, 1) := by decide +kernel
theorem dX10_rests_18 : decode cX10_rests 18 = .ok (.iload_n 1, 1) := by decide +kernel
theorem dX10_rests_19 : decode cX10_rests 19 = .ok (.iload_n 2, 1) := by decide +kernel
theorem dX10_rests_20 : decode cX10_rests 20 = .ok (.if_icmp .eq 13, 3) := by decide +kernel
theorem dX10_rests_23 : decode cX10_rests 23 = .ok (.iload_n 3, 1) := by decide +kernel
theorem dX10_rests_24 : decode cX10_rests 24 = .ok (.i2l, 1) := by decide +kernel
theorem dX10_rests_25 : decode cX10_rests 25 = .ok (.lconst 0, 1) := by decide +kernel
theorem dX10_rests_26 : decode cX10_rests 26 = .ok (.lconst 1, 1) := by decide +kernel
theorem dX10_rests_27 : decode cX10_rests 27 = .ok (.invokestatic 52, 3) := by decide +kernel
theorem dX10_rests_30 : decode cX10_rests 30 = .ok (.ifCond .ne 6, 3) := by decide +kernel
theorem dX10_rests_33 : decode cX10_rests 33 = .ok (.bipush (-2), 2) := by decide +kernel
theorem dX10_rests_35 : decode cX10_rests 35 = .ok (.ireturn, 1) := by decide +kernel
theorem dX10_rests_36 : decode cX10_rests 36 = .ok (.iconst 0, 1) := by decide +kernel
theorem dX10_rests_37 : decode cX10_rests 37 = .ok (.istore 4, 2) := by decide +kernel
theorem dX10_rests_39 : decode cX10_rests 39 = .ok (.bipush (-9), 2) := by decide +kernel
theorem dX10_rests_41 : decode cX10_rests 41 = .ok (.istore 5, 2) := by decide +kernel
theorem dX10_rests_43 : decode cX10_rests 43 = .ok (.iconst 0, 1) := by decide +kernel
theorem dX10_rests_44 : decode cX10_rests 44 = .ok (.istore 6, 2) := by decide +kernel
theorem dX10_rests_46 : decode cX10_rests 46 = .ok (.iload 6, 2) := by decide +kernel
theorem dX10_rests_48 : decode cX10_rests 48 = .ok (.iconst 4, 1) := by decide +kernel
theorem dX10_rests_49 : decode cX10_rests 49 = .ok (.if_icmp .ge 53, 3) := by decide +kernel
theorem dX10_rests_52 : decode cX10_rests 52 = .ok (.aload_n 0, 1) := by decide +kernel
theorem dX10_rests_53 : decode cX10_rests 53 = .ok (.iload_n 1, 1) := by decide +kernel
theorem dX10_rests_54 : decode cX10_rests 54 = .ok (.iload_n 2, 1) := by decide +kernel
theorem dX10_rests_55 : decode cX10_rests 55 = .ok (.iload 6, 2) := by decide +kernel
theorem dX10_rests_57 : decode cX10_rests 57 = .ok (.iconst 2, 1) := by decide +kernel
theorem dX10_rests_58 : decode cX10_rests 58 = .ok (.idiv, 1) := by decide +kernel
theorem dX10_rests_59 : decode cX10_rests 59 = .ok (.iload 6, 2) := by decide +kernel
theorem dX10_rests_61 : decode cX10_rests 61 = .ok (.iconst 2, 1) := by decide +kernel
theorem dX10_rests_62 : decode cX10_rests 62 = .ok (.irem, 1) := by decide +kernel
theorem dX10_rests_63 : decode cX10_rests 63 = .ok (.invokevirtual 218, 3) := by decide +kernel
theorem dX10_rests_66 : decode cX10_rests 66 = .ok (.ifCond .eq 30, 3) := by decide +kernel
theorem dX10_rests_69 : decode cX10_rests 69 = .ok (.iload 4, 2) := by decide +kernel
theorem dX10_rests_71 : decode cX10_rests 71 = .ok (.ifCond .ne 18, 3) := by decide +kernel
theorem dX10_rests_74 : decode cX10_rests 74 = .ok (.bipush 10, 2) := by decide +kernel
theorem dX10_rests_76 : decode cX10_rests 76 = .ok (.iload 6, 2) := by decide +kernel
theorem dX10_rests_78 : decode cX10_rests 78 = .ok (.iconst 2, 1) := by decide +kernel
theorem dX10_rests_79 : decode cX10_rests 79 = .ok (.idiv, 1) := by decide +kernel
theorem dX10_rests_80 : decode cX10_rests 80 = .ok (.imul, 1) := by decide +kernel
theorem dX10_rests_81 : decode cX10_rests 81 = .ok (.iload 6, 2) := by decide +kernel
theorem dX10_rests_83 : decode cX10_rests 83 = .ok (.iconst 2, 1) := by decide +kernel
theorem dX10_rests_84 : decode cX10_rests 84 = .ok (.irem, 1) := by decide +kernel
theorem dX10_rests_85 : decode cX10_rests 85 = .ok (.iadd, 1) := by decide +kernel
theorem dX10_rests_86 : decode cX10_rests 86 = .ok (.goto 5, 3) := by decide +kernel
theorem dX10_rests_89 : decode cX10_rests 89 = .ok (.iload 5, 2) := by decide +kernel
theorem dX10_rests_91 : decode cX10_rests 91 = .ok (.istore 5, 2) := by decide +kernel
theorem dX10_rests_93 : decode cX10_rests 93 = .ok (.iinc 4 1, 3) := by decide +kernel
theorem dX10_rests_96 : decode cX10_rests 96 = .ok (.iinc 6 1, 3) := by decide +kernel
theorem dX10_rests_99 : decode cX10_rests 99 = .ok (.goto (-53), 3) := by decide +kernel
theorem dX10_rests_102 : decode cX10_rests 102 = .ok (.iload_n 3, 1) := by decide +kernel
theorem dX10_rests_103 : decode cX10_rests 103 = .ok (.ifCond .ne 8, 3) := by decide +kernel
theorem dX10_rests_106 : decode cX10_rests 106 = .ok (.iload 4, 2) := by decide +kernel
theorem dX10_rests_108 : decode cX10_rests 108 = .ok (.goto 5, 3) := by decide +kernel
theorem dX10_rests_111 : decode cX10_rests 111 = .ok (.iload 5, 2) := by decide +kernel
theorem dX10_rests_113 : decode cX10_rests 113 = .ok (.ireturn, 1) := by decide +kernel
theorem dX10_drops_0 : decode cX10_drops 0 = .ok (.iload_n 1, 1) := by decide +kernel
theorem dX10_drops_1 : decode cX10_drops 1 = .ok (.i2l, 1) := by decide +kernel
theorem dX10_drops_2 : decode cX10_drops 2 = .ok (.lconst 0, 1) := by decide +kernel
theorem dX10_drops_3 : decode cX10_drops 3 = .ok (.lconst 1, 1) := by decide +kernel
theorem dX10_drops_4 : decode cX10_drops 4 = .ok (.invokestatic 52, 3) := by decide +kernel
theorem dX10_drops_7 : decode cX10_drops 7 = .ok (.ifCond .eq 15, 3) := by decide +kernel
theorem dX10_drops_10 : decode cX10_drops 10 = .ok (.iload_n 2, 1) := by decide +kernel
theorem dX10_drops_11 : decode cX10_drops 11 = .ok (.i2l, 1) := by decide +kernel
theorem dX10_drops_12 : decode cX10_drops 12 = .ok (.lconst 0, 1) := by decide +kernel
theorem dX10_drops_13 : decode cX10_drops 13 = .ok (.ldc2_w 221, 3) := by decide +kernel
theorem dX10_drops_16 : decode cX10_drops 16 = .ok (.invokestatic 52, 3) := by decide +kernel
theorem dX10_drops_19 : decode cX10_drops 19 = .ok (.ifCond .ne 6, 3) := by decide +kernel
theorem dX10_drops_22 : decode cX10_drops 22 = .ok (.bipush (-2), 2) := by decide +kernel
theorem dX10_drops_24 : decode cX10_drops 24 = .ok (.ireturn, 1) := by decide +kernel
theorem dX10_drops_25 : decode cX10_drops 25 = .ok (.iconst 0, 1) := by decide +kernel
theorem dX10_drops_26 : decode cX10_drops 26 = .ok (.istore 4, 2) := by decide +kernel
theorem dX10_drops_28 : decode cX10_drops 28 = .ok (.iconst 0, 1) := by decide +kernel
theorem dX10_drops_29 : decode cX10_drops 29 = .ok (.istore 5, 2) := by decide +kernel
theorem dX10_drops_31 : decode cX10_drops 31 = .ok (.iconst 0, 1) := by decide +kernel
theorem dX10_drops_32 : decode cX10_drops 32 = .ok (.istore 6, 2) := by decide +kernel
theorem dX10_drops_34 : decode cX10_drops 34 = .ok (.iload 6, 2) := by decide +kernel
theorem dX10_drops_36 : decode cX10_drops 36 = .ok (.iconst 1, 1) := by decide +kernel
theorem dX10_drops_37 : decode cX10_drops 37 = .ok (.aload_n 0, 1) := by decide +kernel
theorem dX10_drops_38 : decode cX10_drops 38 = .ok (.getfield 75, 3) := by decide +kernel
theorem dX10_drops_41 : decode cX10_drops 41 = .ok (.ishl, 1) := by decide +kernel
theorem dX10_drops_42 : decode cX10_drops 42 = .ok (.if_icmp .ge 84, 3) := by decide +kernel
theorem dX10_drops_45 : decode cX10_drops 45 = .ok (.iconst 1, 1) := by decide +kernel
theorem dX10_drops_46 : decode cX10_drops 46 = .ok (.istore 7, 2) := by decide +kernel
theorem dX10_drops_48 : decode cX10_drops 48 = .ok (.iconst 0, 1) := by decide +kernel
theorem dX10_drops_49 : decode cX10_drops 49 = .ok (.istore 8, 2) := by decide +kernel
theorem dX10_drops_51 : decode cX10_drops 51 = .ok (.iload 8, 2) := by decide +kernel
theorem dX10_drops_53 : decode cX10_drops 53 = .ok (.aload_n 0, 1) := by decide +kernel
