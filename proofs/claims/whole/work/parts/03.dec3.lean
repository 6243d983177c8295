theorem dX9_share_14 : decode cX9_share 14 = .ok (.istore_n 3, 1) := by decide +kernel
theorem dX9_share_15 : decode cX9_share 15 = .ok (.aload_n 0, 1) := by decide +kernel
theorem dX9_share_16 : decode cX9_share 16 = .ok (.getfield 28, 3) := by decide +kernel
theorem dX9_share_19 : decode cX9_share 19 = .ok (.iload_n 1, 1) := by decide +kernel
theorem dX9_share_20 : decode cX9_share 20 = .ok (.invokevirtual 132, 3) := by decide +kernel
theorem dX9_share_23 : decode cX9_share 23 = .ok (.istore 4, 2) := by decide +kernel
theorem dX9_share_25 : decode cX9_share 25 = .ok (.iconst 0, 1) := by decide +kernel
theorem dX9_share_26 : decode cX9_share 26 = .ok (.istore 5, 2) := by decide +kernel
theorem dX9_share_28 : decode cX9_share 28 = .ok (.iload 5, 2) := by decide +kernel
theorem dX9_share_30 : decode cX9_share 30 = .ok (.iconst 4, 1) := by decide +kernel
theorem dX9_share_31 : decode cX9_share 31 = .ok (.if_icmp .ge 34, 3) := by decide +kernel
theorem dX9_share_34 : decode cX9_share 34 = .ok (.aload_n 0, 1) := by decide +kernel
theorem dX9_share_35 : decode cX9_share 35 = .ok (.getfield 19, 3) := by decide +kernel
theorem dX9_share_38 : decode cX9_share 38 = .ok (.iload_n 1, 1) := by decide +kernel
theorem dX9_share_39 : decode cX9_share 39 = .ok (.iload 5, 2) := by decide +kernel
theorem dX9_share_41 : decode cX9_share 41 = .ok (.invokevirtual 237, 3) := by decide +kernel
theorem dX9_share_44 : decode cX9_share 44 = .ok (.ifCond .eq 15, 3) := by decide +kernel
theorem dX9_share_47 : decode cX9_share 47 = .ok (.iload_n 3, 1) := by decide +kernel
theorem dX9_share_48 : decode cX9_share 48 = .ok (.aload_n 0, 1) := by decide +kernel
theorem dX9_share_49 : decode cX9_share 49 = .ok (.iload 4, 2) := by decide +kernel
theorem dX9_share_51 : decode cX9_share 51 = .ok (.iload 5, 2) := by decide +kernel
theorem dX9_share_53 : decode cX9_share 53 = .ok (.iadd, 1) := by decide +kernel
theorem dX9_share_54 : decode cX9_share 54 = .ok (.invokevirtual 241, 3) := by decide +kernel
theorem dX9_share_57 : decode cX9_share 57 = .ok (.iadd, 1) := by decide +kernel
theorem dX9_share_58 : decode cX9_share 58 = .ok (.istore_n 3, 1) := by decide +kernel
theorem dX9_share_59 : decode cX9_share 59 = .ok (.iinc 5 1, 3) := by decide +kernel
theorem dX9_share_62 : decode cX9_share 62 = .ok (.goto (-34), 3) := by decide +kernel
theorem dX9_share_65 : decode cX9_share 65 = .ok (.iload_n 3, 1) := by decide +kernel
theorem dX9_share_66 : decode cX9_share 66 = .ok (.bipush 60, 2) := by decide +kernel
theorem dX9_share_68 : decode cX9_share 68 = .ok (.iload_n 2, 1) := by decide +kernel
theorem dX9_share_69 : decode cX9_share 69 = .ok (.invokestatic 244, 3) := by decide +kernel
theorem dX9_share_72 : decode cX9_share 72 = .ok (.ireturn, 1) := by decide +kernel
theorem dX9_rests_0 : decode cX9_rests 0 = .ok (.aload_n 0, 1) := by decide +kernel
theorem dX9_rests_1 : decode cX9_rests 1 = .ok (.getfield 19, 3) := by decide +kernel
theorem dX9_rests_4 : decode cX9_rests 4 = .ok (.iload_n 1, 1) := by decide +kernel
theorem dX9_rests_5 : decode cX9_rests 5 = .ok (.invokevirtual 145, 3) := by decide +kernel
theorem dX9_rests_8 : decode cX9_rests 8 = .ok (.ifCond .eq 14, 3) := by decide +kernel
theorem dX9_rests_11 : decode cX9_rests 11 = .ok (.aload_n 0, 1) := by decide +kernel
theorem dX9_rests_12 : decode cX9_rests 12 = .ok (.getfield 19, 3) := by decide +kernel
theorem dX9_rests_15 : decode cX9_rests 15 = .ok (.iload_n 2, 1) := by decide +kernel
theorem dX9_rests_16 : decode cX9_rests 16 = .ok (.invokevirtual 145, 3) := by decide +kernel
theorem dX9_rests_19 : decode cX9_rests 19 = .ok (.ifCond .ne 5, 3) := by decide +kernel
theorem dX9_rests_22 : decode cX9_rests 22 = .ok (.iconst (-1), 1) := by decide +kernel
theorem dX9_rests_23 : decode cX9_rests 23 = .ok (.ireturn, 1) := by decide +kernel
theorem dX9_rests_24 : decode cX9_rests 24 = .ok (.iload_n 1, 1) := by decide +kernel
theorem dX9_rests_25 : decode cX9_rests 25 = .ok (.iload_n 2, 1) := by decide +kernel
theorem dX9_rests_26 : decode cX9_rests 26 = .ok (.if_icmp .eq 10, 3) := by decide +kernel
theorem dX9_rests_29 : decode cX9_rests 29 = .ok (.iload_n 3, 1) := by decide +kernel
theorem dX9_rests_30 : decode cX9_rests 30 = .ok (.invokestatic 154, 3) := by decide +kernel
theorem dX9_rests_33 : decode cX9_rests 33 = .ok (.ifCond .ne 6, 3) := by decide +kernel
theorem dX9_rests_36 : decode cX9_rests 36 = .ok (.bipush (-2), 2) := by decide +kernel
theorem dX9_rests_38 : decode cX9_rests 38 = .ok (.ireturn, 1) := by decide +kernel
theorem dX9_rests_39 : decode cX9_rests 39 = .ok (.iconst 0, 1) := by decide +kernel
theorem dX9_rests_40 : decode cX9_rests 40 = .ok (.istore 4, 2) := by decide +kernel
theorem dX9_rests_42 : decode cX9_rests 42 = .ok (.iload 4, 2) := by decide +kernel
theorem dX9_rests_44 : decode cX9_rests 44 = .ok (.iconst 4, 1) := by decide +kernel
theorem dX9_rests_45 : decode cX9_rests 45 = .ok (.if_icmp .ge 17, 3) := by decide +kernel
theorem dX9_rests_48 : decode cX9_rests 48 = .ok (.aload_n 0, 1) := by decide +kernel
theorem dX9_rests_49 : decode cX9_rests 49 = .ok (.iload_n 1, 1) := by decide +kernel
theorem dX9_rests_50 : decode cX9_rests 50 = .ok (.iload_n 2, 1) := by decide +kernel
theorem dX9_rests_51 : decode cX9_rests 51 = .ok (.iload 4, 2) := by decide +kernel
theorem dX9_rests_53 : decode cX9_rests 53 = .ok (.invokevirtual 248, 3) := by decide +kernel
theorem dX9_rests_56 : decode cX9_rests 56 = .ok (.iinc 4 1, 3) := by decide +kernel
theorem dX9_rests_59 : decode cX9_rests 59 = .ok (.goto (-17), 3) := by decide +kernel
theorem dX9_rests_62 : decode cX9_rests 62 = .ok (.iconst 0, 1) := by decide +kernel
theorem dX9_rests_63 : decode cX9_rests 63 = .ok (.istore 4, 2) := by decide +kernel
theorem dX9_rests_65 : decode cX9_rests 65 = .ok (.bipush (-9), 2) := by decide +kernel
theorem dX9_rests_67 : decode cX9_rests 67 = .ok (.istore 5, 2) := by decide +kernel
theorem dX9_rests_69 : decode cX9_rests 69 = .ok (.iconst 0, 1) := by decide +kernel
theorem dX9_rests_70 : decode cX9_rests 70 = .ok (.istore 6, 2) := by decide +kernel
theorem dX9_rests_72 : decode cX9_rests 72 = .ok (.iload 6, 2) := by decide +kernel
theorem dX9_rests_74 : decode cX9_rests 74 = .ok (.iconst 4, 1) := by decide +kernel
theorem dX9_rests_75 : decode cX9_rests 75 = .ok (.if_icmp .ge 71, 3) := by decide +kernel
theorem dX9_rests_78 : decode cX9_rests 78 = .ok (.aload_n 0, 1) := by decide +kernel
theorem dX9_rests_79 : decode cX9_rests 79 = .ok (.getfield 79, 3) := by decide +kernel
theorem dX9_rests_82 : decode cX9_rests 82 = .ok (.iload 6, 2) := by decide +kernel
theorem dX9_rests_84 : decode cX9_rests 84 = .ok (.iaload, 1) := by decide +kernel
theorem dX9_rests_85 : decode cX9_rests 85 = .ok (.aload_n 0, 1) := by decide +kernel
theorem dX9_rests_86 : decode cX9_rests 86 = .ok (.getfield 79, 3) := by decide +kernel
theorem dX9_rests_89 : decode cX9_rests 89 = .ok (.iload 6, 2) := by decide +kernel
theorem dX9_rests_91 : decode cX9_rests 91 = .ok (.iconst 2, 1) := by decide +kernel
theorem dX9_rests_92 : decode cX9_rests 92 = .ok (.ixor, 1) := by decide +kernel
theorem dX9_rests_93 : decode cX9_rests 93 = .ok (.iaload, 1) := by decide +kernel
theorem dX9_rests_94 : decode cX9_rests 94 = .ok (.if_icmp .lt 46, 3) := by decide +kernel
theorem dX9_rests_97 : decode cX9_rests 97 = .ok (.aload_n 0, 1) := by decide +kernel
theorem dX9_rests_98 : decode cX9_rests 98 = .ok (.getfield 83, 3) := by decide +kernel
theorem dX9_rests_101 : decode cX9_rests 101 = .ok (.iload 6, 2) := by decide +kernel
theorem dX9_rests_103 : decode cX9_rests 103 = .ok (.iaload, 1) := by decide +kernel
theorem dX9_rests_104 : decode cX9_rests 104 = .ok (.aload_n 0, 1) := by decide +kernel
theorem dX9_rests_105 : decode cX9_rests 105 = .ok (.getfield 83, 3) := by decide +kernel
theorem dX9_rests_108 : decode cX9_rests 108 = .ok (.iload 6, 2) := by decide +kernel
theorem dX9_rests_110 : decode cX9_rests 110 = .ok (.iconst 1, 1) := by decide +kernel
theorem dX9_rests_111 : decode cX9_rests 111 = .ok (.ixor, 1) := by decide +kernel
theorem dX9_rests_112 : decode cX9_rests 112 = .ok (.iaload, 1) := by decide +kernel
theorem dX9_rests_113 : decode cX9_rests 113 = .ok (.if_icmp .lt 27, 3) := by decide +kernel
theorem dX9_rests_116 : decode cX9_rests 116 = .ok (.iinc 4 1, 3) := by decide +kernel
theorem dX9_rests_119 : decode cX9_rests 119 = .ok (.iload 5, 2) := by decide +kernel
theorem dX9_rests_121 : decode cX9_rests 121 = .ok (.bipush (-9), 2) := by decide +kernel
theorem dX9_rests_123 : decode cX9_rests 123 = .ok (.if_icmp .ne 17, 3) := by decide +kernel
theorem dX9_rests_126 : decode cX9_rests 126 = .ok (.bipush 10, 2) := by decide +kernel
theorem dX9_rests_128 : decode cX9_rests 128 = .ok (.iload 6, 2) := by decide +kernel
theorem dX9_rests_130 : decode cX9_rests 130 = .ok (.iconst 1, 1) := by decide +kernel
theorem dX9_rests_131 : decode cX9_rests 131 = .ok (.ishr, 1) := by decide +kernel
theorem dX9_rests_132 : decode cX9_rests 132 = .ok (.imul, 1) := by decide +kernel
theorem dX9_rests_133 : decode cX9_rests 133 = .ok (.iload 6, 2) := by decide +kernel
theorem dX9_rests_135 : decode cX9_rests 135 = .ok (.iconst 1, 1) := by decide +kernel
theorem dX9_rests_136 : decode cX9_rests 136 = .ok (.iand, 1) := by decide +kernel
theorem dX9_rests_137 : decode cX9_rests 137 = .ok (.iadd, 1) := by decide +kernel
theorem dX9_rests_138 : decode cX9_rests 138 = .ok (.istore 5, 2) := by decide +kernel
theorem dX9_rests_140 : decode cX9_rests 140 = .ok (.iinc 6 1, 3) := by decide +kernel
theorem dX9_rests_143 : decode cX9_rests 143 = .ok (.goto (-71), 3) := by decide +kernel
theorem dX9_rests_146 : decode cX9_rests 146 = .ok (.iload_n 3, 1) := by decide +kernel
theorem dX9_rests_147 : decode cX9_rests 147 = .ok (.ifCond .ne 8, 3) := by decide +kernel
theorem dX9_rests_150 : decode cX9_rests 150 = .ok (.iload 4, 2) := by decide +kernel
theorem dX9_rests_152 : decode cX9_rests 152 = .ok (.goto 5, 3) := by decide +kernel
theorem dX9_rests_155 : decode cX9_rests 155 = .ok (.iload 5, 2) := by decide +kernel
theorem dX9_rests_157 : decode cX9_rests 157 = .ok (.ireturn, 1) := by decide +kernel
theorem dX9_drops_0 : decode cX9_drops 0 = .ok (.iload_n 1, 1) := by decide +kernel
theorem dX9_drops_1 : decode cX9_drops 1 = .ok (.invokestatic 154, 3) := by decide +kernel
theorem dX9_drops_4 : decode cX9_drops 4 = .ok (.ifCond .eq 13, 3) := by decide +kernel
theorem dX9_drops_7 : decode cX9_drops 7 = .ok (.iload_n 2, 1) := by decide +kernel
theorem dX9_drops_8 : decode cX9_drops 8 = .ok (.ifCond .lt 9, 3) := by decide +kernel
theorem dX9_drops_11 : decode cX9_drops 11 = .ok (.iload_n 2, 1) := by decide +kernel
theorem dX9_drops_12 : decode cX9_drops 12 = .ok (.bipush 10, 2) := by decide +kernel
theorem dX9_drops_14 : decode cX9_drops 14 = .ok (.if_icmp .le 6, 3) := by decide +kernel
theorem dX9_drops_17 : decode cX9_drops 17 = .ok (.bipush (-2), 2) := by decide +kernel
theorem dX9_drops_19 : decode cX9_drops 19 = .ok (.ireturn, 1) := by decide +kernel
theorem dX9_drops_20 : decode cX9_drops 20 = .ok (.iconst 0, 1) := by decide +kernel
theorem dX9_drops_21 : decode cX9_drops 21 = .ok (.istore 4, 2) := by decide +kernel
theorem dX9_drops_23 : decode cX9_drops 23 = .ok (.iconst 1, 1) := by decide +kernel
theorem dX9_drops_24 : decode cX9_drops 24 = .ok (.istore 5, 2) := by decide +kernel
theorem dX9_drops_26 : decode cX9_drops 26 = .ok (.iconst 0, 1) := by decide +kernel
theorem dX9_drops_27 : decode cX9_drops 27 = .ok (.istore 6, 2) := by decide +kernel
theorem dX9_drops_29 : decode cX9_drops 29 = .ok (.iload 6, 2) := by decide +kernel
theorem dX9_drops_31 : decode cX9_drops 31 = .ok (.aload_n 0, 1) := by decide +kernel
theorem dX9_drops_32 : decode cX9_drops 32 = .ok (.getfield 19, 3) := by decide +kernel
theorem dX9_drops_35 : decode cX9_drops 35 = .ok (.invokevirtual 110, 3) := by decide +kernel
theorem dX9_drops_38 : decode cX9_drops 38 = .ok (.if_icmp .ge 16, 3) := by decide +kernel
theorem dX9_drops_41 : decode cX9_drops 41 = .ok (.iload 5, 2) := by decide +kernel
theorem dX9_drops_43 : decode cX9_drops 43 = .ok (.bipush 10, 2) := by decide +kernel
theorem dX9_drops_45 : decode cX9_drops 45 = .ok (.imul, 1) := by decide +kernel
theorem dX9_drops_46 : decode cX9_drops 46 = .ok (.istore 5, 2) := by decide +kernel
theorem dX9_drops_48 : decode cX9_drops 48 = .ok (.iinc 6 1, 3) := by decide +kernel
theorem dX9_drops_51 : decode cX9_drops 51 = .ok (.goto (-22), 3) := by decide +kernel
theorem dX9_drops_54 : decode cX9_drops 54 = .ok (.iconst 0, 1) := by decide +kernel
theorem dX9_drops_55 : decode cX9_drops 55 = .ok (.istore 6, 2) := by decide +kernel
theorem dX9_drops_57 : decode cX9_drops 57 = .ok (.iload 6, 2) := by decide +kernel
theorem dX9_drops_59 : decode cX9_drops 59 = .ok (.iconst 1, 1) := by decide +kernel
theorem dX9_drops_60 : decode cX9_drops 60 = .ok (.aload_n 0, 1) := by decide +kernel
theorem dX9_drops_61 : decode cX9_drops 61 = .ok (.getfield 19, 3) := by decide +kernel
theorem dX9_drops_64 : decode cX9_drops 64 = .ok (.invokevirtual 110, 3) := by decide +kernel
theorem dX9_drops_67 : decode cX9_drops 67 = .ok (.ishl, 1) := by decide +kernel
theorem dX9_drops_68 : decode cX9_drops 68 = .ok (.if_icmp .ge 62, 3) := by decide +kernel
theorem dX9_drops_71 : decode cX9_drops 71 = .ok (.aload_n 0, 1) := by decide +kernel
theorem dX9_drops_72 : decode cX9_drops 72 = .ok (.iload 6, 2) := by decide +kernel
theorem dX9_drops_74 : decode cX9_drops 74 = .ok (.iload_n 2, 1) := by decide +kernel
theorem dX9_drops_75 : decode cX9_drops 75 = .ok (.invokevirtual 252, 3) := by decide +kernel
theorem dX9_drops_78 : decode cX9_drops 78 = .ok (.istore 7, 2) := by decide +kernel
theorem dX9_drops_80 : decode cX9_drops 80 = .ok (.iload 7, 2) := by decide +kernel
theorem dX9_drops_82 : decode cX9_drops 82 = .ok (.ifCond .le 42, 3) := by decide +kernel
theorem dX9_drops_85 : decode cX9_drops 85 = .ok (.aload_n 0, 1) := by decide +kernel
theorem dX9_drops_86 : decode cX9_drops 86 = .ok (.getfield 38, 3) := by decide +kernel
theorem dX9_drops_89 : decode cX9_drops 89 = .ok (.aload_n 0, 1) := by decide +kernel
theorem dX9_drops_90 : decode cX9_drops 90 = .ok (.getfield 28, 3) := by decide +kernel
theorem dX9_drops_93 : decode cX9_drops 93 = .ok (.iload_n 1, 1) := by decide +kernel
theorem dX9_drops_94 : decode cX9_drops 94 = .ok (.iload 6, 2) := by decide +kernel
theorem dX9_drops_96 : decode cX9_drops 96 = .ok (.invokevirtual 256, 3) := by decide +kernel
theorem dX9_drops_99 : decode cX9_drops 99 = .ok (.iload 4, 2) := by decide +kernel
theorem dX9_drops_101 : decode cX9_drops 101 = .ok (.aload_n 0, 1) := by decide +kernel
theorem dX9_drops_102 : decode cX9_drops 102 = .ok (.getfield 54, 3) := by decide +kernel
theorem dX9_drops_105 : decode cX9_drops 105 = .ok (.aload_n 0, 1) := by decide +kernel
theorem dX9_drops_106 : decode cX9_drops 106 = .ok (.getfield 38, 3) := by decide +kernel
theorem dX9_drops_109 : decode cX9_drops 109 = .ok (.invokevirtual 202, 3) := by decide +kernel
theorem dX9_drops_112 : decode cX9_drops 112 = .ok (.ifCond .eq 8, 3) := by decide +kernel
theorem dX9_drops_115 : decode cX9_drops 115 = .ok (.iload 7, 2) := by decide +kernel
theorem dX9_drops_117 : decode cX9_drops 117 = .ok (.goto 4, 3) := by decide +kernel
theorem dX9_drops_120 : decode cX9_drops 120 = .ok (.iconst 0, 1) := by decide +kernel
theorem dX9_drops_121 : decode cX9_drops 121 = .ok (.iadd, 1) := by decide +kernel
theorem dX9_drops_122 : decode cX9_drops 122 = .ok (.istore 4, 2) := by decide +kernel
theorem dX9_drops_124 : decode cX9_drops 124 = .ok (.iinc 6 1, 3) := by decide +kernel
theorem dX9_drops_127 : decode cX9_drops 127 = .ok (.goto (-70), 3) := by decide +kernel
theorem dX9_drops_130 : decode cX9_drops 130 = .ok (.iload 4, 2) := by decide +kernel
theorem dX9_drops_132 : decode cX9_drops 132 = .ok (.iload 5, 2) := by decide +kernel
theorem dX9_drops_134 : decode cX9_drops 134 = .ok (.iload_n 3, 1) := by decide +kernel
theorem dX9_drops_135 : decode cX9_drops 135 = .ok (.invokestatic 244, 3) := by decide +kernel
theorem dX9_drops_138 : decode cX9_drops 138 = .ok (.ireturn, 1) := by decide +kernel
theorem dX9_seed_0 : decode cX9_seed 0 = .ok (.aload_n 0, 1) := by decide +kernel
theorem dX9_seed_1 : decode cX9_seed 1 = .ok (.getfield 260, 3) := by decide +kernel
theorem dX9_seed_4 : decode cX9_seed 4 = .ok (.lstore_n 3, 1) := by decide +kernel
theorem dX9_seed_5 : decode cX9_seed 5 = .ok (.aload_n 0, 1) := by decide +kernel
theorem dX9_seed_6 : decode cX9_seed 6 = .ok (.lload_n 1, 1) := by decide +kernel
theorem dX9_seed_7 : decode cX9_seed 7 = .ok (.putfield 260, 3) := by decide +kernel
theorem dX9_seed_10 : decode cX9_seed 10 = .ok (.lload_n 3, 1) := by decide +kernel
theorem dX9_seed_11 : decode cX9_seed 11 = .ok (.lreturn, 1) := by decide +kernel
theorem dX9_years_0 : decode cX9_years 0 = .ok (.iload_n 1, 1) := by decide +kernel
theorem dX9_years_1 : decode cX9_years 1 = .ok (.iconst 1, 1) := by decide +kernel
theorem dX9_years_2 : decode cX9_years 2 = .ok (.if_icmp .lt 9, 3) := by decide +kernel
theorem dX9_years_5 : decode cX9_years 5 = .ok (.iload_n 1, 1) := by decide +kernel
theorem dX9_years_6 : decode cX9_years 6 = .ok (.bipush 30, 2) := by decide +kernel
theorem dX9_years_8 : decode cX9_years 8 = .ok (.if_icmp .le 6, 3) := by decide +kernel
theorem dX9_years_11 : decode cX9_years 11 = .ok (.bipush (-2), 2) := by decide +kernel
theorem dX9_years_13 : decode cX9_years 13 = .ok (.ireturn, 1) := by decide +kernel
theorem dX9_years_14 : decode cX9_years 14 = .ok (.iconst 0, 1) := by decide +kernel
theorem dX9_years_15 : decode cX9_years 15 = .ok (.istore_n 2, 1) := by decide +kernel
theorem dX9_years_16 : decode cX9_years 16 = .ok (.aload_n 0, 1) := by decide +kernel
theorem dX9_years_17 : decode cX9_years 17 = .ok (.getfield 32, 3) := by decide +kernel
theorem dX9_years_20 : decode cX9_years 20 = .ok (.aload_n 0, 1) := by decide +kernel
theorem dX9_years_21 : decode cX9_years 21 = .ok (.getfield 28, 3) := by decide +kernel
theorem dX9_years_24 : decode cX9_years 24 = .ok (.invokevirtual 221, 3) := by decide +kernel
theorem dX9_years_27 : decode cX9_years 27 = .ok (.iconst 0, 1) := by decide +kernel
theorem dX9_years_28 : decode cX9_years 28 = .ok (.istore_n 3, 1) := by decide +kernel
theorem dX9_years_29 : decode cX9_years 29 = .ok (.iload_n 3, 1) := by decide +kernel
theorem dX9_years_30 : decode cX9_years 30 = .ok (.iload_n 1, 1) := by decide +kernel
theorem dX9_years_31 : decode cX9_years 31 = .ok (.if_icmp .ge 63, 3) := by decide +kernel
theorem dX9_years_34 : decode cX9_years 34 = .ok (.aload_n 0, 1) := by decide +kernel
theorem dX9_years_35 : decode cX9_years 35 = .ok (.aload_n 0, 1) := by decide +kernel
theorem dX9_years_36 : decode cX9_years 36 = .ok (.getfield 260, 3) := by decide +kernel
theorem dX9_years_39 : decode cX9_years 39 = .ok (.ldc2_w 264, 3) := by decide +kernel
theorem dX9_years_42 : decode cX9_years 42 = .ok (.lmul, 1) := by decide +kernel
theorem dX9_years_43 : decode cX9_years 43 = .ok (.ldc2_w 266, 3) := by decide +kernel
theorem dX9_years_46 : decode cX9_years 46 = .ok (.ladd, 1) := by decide +kernel
theorem dX9_years_47 : decode cX9_years 47 = .ok (.putfield 260, 3) := by decide +kernel
theorem dX9_years_50 : decode cX9_years 50 = .ok (.aload_n 0, 1) := by decide +kernel
theorem dX9_years_51 : decode cX9_years 51 = .ok (.aload_n 0, 1) := by decide +kernel
theorem dX9_years_52 : decode cX9_years 52 = .ok (.getfield 260, 3) := by decide +kernel
theorem dX9_years_55 : decode cX9_years 55 = .ok (.bipush 33, 2) := by decide +kernel
theorem dX9_years_57 : decode cX9_years 57 = .ok (.lushr, 1) := by decide +kernel
theorem dX9_years_58 : decode cX9_years 58 = .ok (.ldc2_w 268, 3) := by decide +kernel
theorem dX9_years_61 : decode cX9_years 61 = .ok (.lrem, 1) := by decide +kernel
theorem dX9_years_62 : decode cX9_years 62 = .ok (.l2i, 1) := by decide +kernel
theorem dX9_years_63 : decode cX9_years 63 = .ok (.invokevirtual 270, 3) := by decide +kernel
theorem dX9_years_66 : decode cX9_years 66 = .ok (.aload_n 0, 1) := by decide +kernel
theorem dX9_years_67 : decode cX9_years 67 = .ok (.getfield 38, 3) := by decide +kernel
theorem dX9_years_70 : decode cX9_years 70 = .ok (.aload_n 0, 1) := by decide +kernel
theorem dX9_years_71 : decode cX9_years 71 = .ok (.getfield 32, 3) := by decide +kernel
theorem dX9_years_74 : decode cX9_years 74 = .ok (.iconst 0, 1) := by decide +kernel
theorem dX9_years_75 : decode cX9_years 75 = .ok (.invokevirtual 138, 3) := by decide +kernel
theorem dX9_years_78 : decode cX9_years 78 = .ok (.iload_n 2, 1) := by decide +kernel
theorem dX9_years_79 : decode cX9_years 79 = .ok (.aload_n 0, 1) := by decide +kernel
theorem dX9_years_80 : decode cX9_years 80 = .ok (.getfield 38, 3) := by decide +kernel
theorem dX9_years_83 : decode cX9_years 83 = .ok (.invokevirtual 273, 3) := by decide +kernel
theorem dX9_years_86 : decode cX9_years 86 = .ok (.iadd, 1) := by decide +kernel
theorem dX9_years_87 : decode cX9_years 87 = .ok (.istore_n 2, 1) := by decide +kernel
theorem dX9_years_88 : decode cX9_years 88 = .ok (.iinc 3 1, 3) := by decide +kernel
theorem dX9_years_91 : decode cX9_years 91 = .ok (.goto (-62), 3) := by decide +kernel
theorem dX9_years_94 : decode cX9_years 94 = .ok (.iload_n 2, 1) := by decide +kernel
theorem dX9_years_95 : decode cX9_years 95 = .ok (.ireturn, 1) := by decide +kernel
theorem dX9_keep_0 : decode cX9_keep 0 = .ok (.aload_n 0, 1) := by decide +kernel
theorem dX9_keep_1 : decode cX9_keep 1 = .ok (.getfield 68, 3) := by decide +kernel
theorem dX9_keep_4 : decode cX9_keep 4 = .ok (.iload_n 1, 1) := by decide +kernel
theorem dX9_keep_5 : decode cX9_keep 5 = .ok (.aload_n 0, 1) := by decide +kernel
theorem dX9_keep_6 : decode cX9_keep 6 = .ok (.getfield 28, 3) := by decide +kernel
theorem dX9_keep_9 : decode cX9_keep 9 = .ok (.invokevirtual 276, 3) := by decide +kernel
theorem dX9_keep_12 : decode cX9_keep 12 = .ok (.ifCond .eq 13, 3) := by decide +kernel
theorem dX9_keep_15 : decode cX9_keep 15 = .ok (.aload_n 0, 1) := by decide +kernel
theorem dX9_keep_16 : decode cX9_keep 16 = .ok (.getfield 28, 3) := by decide +kernel
theorem dX9_keep_19 : decode cX9_keep 19 = .ok (.invokevirtual 182, 3) := by decide +kernel
theorem dX9_keep_22 : decode cX9_keep 22 = .ok (.goto 4, 3) := by decide +kernel
theorem dX9_keep_25 : decode cX9_keep 25 = .ok (.iconst (-1), 1) := by decide +kernel
theorem dX9_keep_26 : decode cX9_keep 26 = .ok (.ireturn, 1) := by decide +kernel
theorem dX9_again_0 : decode cX9_again 0 = .ok (.aload_n 0, 1) := by decide +kernel
theorem dX9_again_1 : decode cX9_again 1 = .ok (.getfield 68, 3) := by decide +kernel
theorem dX9_again_4 : decode cX9_again 4 = .ok (.iload_n 1, 1) := by decide +kernel
theorem dX9_again_5 : decode cX9_again 5 = .ok (.invokevirtual 280, 3) := by decide +kernel
theorem dX9_again_8 : decode cX9_again 8 = .ok (.ifCond .ne 5, 3) := by decide +kernel
theorem dX9_again_11 : decode cX9_again 11 = .ok (.iconst (-1), 1) := by decide +kernel
theorem dX9_again_12 : decode cX9_again 12 = .ok (.ireturn, 1) := by decide +kernel
theorem dX9_again_13 : decode cX9_again 13 = .ok (.aload_n 0, 1) := by decide +kernel
theorem dX9_again_14 : decode cX9_again 14 = .ok (.getfield 68, 3) := by decide +kernel
theorem dX9_again_17 : decode cX9_again 17 = .ok (.iload_n 1, 1) := by decide +kernel
theorem dX9_again_18 : decode cX9_again 18 = .ok (.aload_n 0, 1) := by decide +kernel
theorem dX9_again_19 : decode cX9_again 19 = .ok (.getfield 28, 3) := by decide +kernel
theorem dX9_again_22 : decode cX9_again 22 = .ok (.invokevirtual 281, 3) := by decide +kernel
theorem dX9_again_25 : decode cX9_again 25 = .ok (.ifCond .ne 6, 3) := by decide +kernel
theorem dX9_again_28 : decode cX9_again 28 = .ok (.bipush (-3), 2) := by decide +kernel
theorem dX9_again_30 : decode cX9_again 30 = .ok (.ireturn, 1) := by decide +kernel
theorem dX9_again_31 : decode cX9_again 31 = .ok (.aload_n 0, 1) := by decide +kernel
theorem dX9_again_32 : decode cX9_again 32 = .ok (.getfield 61, 3) := by decide +kernel
theorem dX9_again_35 : decode cX9_again 35 = .ok (.invokevirtual 108, 3) := by decide +kernel
theorem dX9_again_38 : decode cX9_again 38 = .ok (.aload_n 0, 1) := by decide +kernel
theorem dX9_again_39 : decode cX9_again 39 = .ok (.getfield 28, 3) := by decide +kernel
theorem dX9_again_42 : decode cX9_again 42 = .ok (.invokevirtual 182, 3) := by decide +kernel
theorem dX9_again_45 : decode cX9_again 45 = .ok (.ireturn, 1) := by decide +kernel
theorem dX9_count_0 : decode cX9_count 0 = .ok (.iload_n 1, 1) := by decide +kernel
theorem dX9_count_1 : decode cX9_count 1 = .ok (.tableswitch 147 0 8 #[51, 59, 67, 87, 107, 115, 123, 131, 139], 51) := by decide +kernel
theorem dX9_count_52 : decode cX9_count 52 = .ok (.aload_n 0, 1) := by decide +kernel
theorem dX9_count_53 : decode cX9_count 53 = .ok (.getfield 12, 3) := by decide +kernel
theorem dX9_count_56 : decode cX9_count 56 = .ok (.invokevirtual 93, 3) := by decide +kernel
theorem dX9_count_59 : decode cX9_count 59 = .ok (.ireturn, 1) := by decide +kernel
theorem dX9_count_60 : decode cX9_count 60 = .ok (.aload_n 0, 1) := by decide +kernel
theorem dX9_count_61 : decode cX9_count 61 = .ok (.getfield 19, 3) := by decide +kernel
theorem dX9_count_64 : decode cX9_count 64 = .ok (.invokevirtual 110, 3) := by decide +kernel
theorem dX9_count_67 : decode cX9_count 67 = .ok (.ireturn, 1) := by decide +kernel
theorem dX9_count_68 : decode cX9_count 68 = .ok (.aload_n 0, 1) := by decide +kernel
theorem dX9_count_69 : decode cX9_count 69 = .ok (.getfield 38, 3) := by decide +kernel
theorem dX9_count_72 : decode cX9_count 72 = .ok (.aload_n 0, 1) := by decide +kernel
theorem dX9_count_73 : decode cX9_count 73 = .ok (.getfield 28, 3) := by decide +kernel
theorem dX9_count_76 : decode cX9_count 76 = .ok (.iconst 0, 1) := by decide +kernel
theorem dX9_count_77 : decode cX9_count 77 = .ok (.invokevirtual 138, 3) := by decide +kernel
theorem dX9_count_80 : decode cX9_count 80 = .ok (.aload_n 0, 1) := by decide +kernel
theorem dX9_count_81 : decode cX9_count 81 = .ok (.getfield 38, 3) := by decide +kernel
theorem dX9_count_84 : decode cX9_count 84 = .ok (.invokevirtual 273, 3) := by decide +kernel
theorem dX9_count_87 : decode cX9_count 87 = .ok (.ireturn, 1) := by decide +kernel
theorem dX9_count_88 : decode cX9_count 88 = .ok (.aload_n 0, 1) := by decide +kernel
theorem dX9_count_89 : decode cX9_count 89 = .ok (.getfield 38, 3) := by decide +kernel
theorem dX9_count_92 : decode cX9_count 92 = .ok (.aload_n 0, 1) := by decide +kernel
theorem dX9_count_93 : decode cX9_count 93 = .ok (.getfield 28, 3) := by decide +kernel
theorem dX9_count_96 : decode cX9_count 96 = .ok (.iconst 0, 1) := by decide +kernel
theorem dX9_count_97 : decode cX9_count 97 = .ok (.invokevirtual 138, 3) := by decide +kernel
theorem dX9_count_100 : decode cX9_count 100 = .ok (.aload_n 0, 1) := by decide +kernel
theorem dX9_count_101 : decode cX9_count 101 = .ok (.getfield 38, 3) := by decide +kernel
theorem dX9_count_104 : decode cX9_count 104 = .ok (.invokevirtual 284, 3) := by decide +kernel
theorem dX9_count_107 : decode cX9_count 107 = .ok (.ireturn, 1) := by decide +kernel
theorem dX9_count_108 : decode cX9_count 108 = .ok (.aload_n 0, 1) := by decide +kernel
theorem dX9_count_109 : decode cX9_count 109 = .ok (.getfield 28, 3) := by decide +kernel
theorem dX9_count_112 : decode cX9_count 112 = .ok (.invokevirtual 206, 3) := by decide +kernel
theorem dX9_count_115 : decode cX9_count 115 = .ok (.ireturn, 1) := by decide +kernel
theorem dX9_count_116 : decode cX9_count 116 = .ok (.aload_n 0, 1) := by decide +kernel
theorem dX9_count_117 : decode cX9_count 117 = .ok (.getfield 28, 3) := by decide +kernel
theorem dX9_count_120 : decode cX9_count 120 = .ok (.invokevirtual 182, 3) := by decide +kernel
theorem dX9_count_123 : decode cX9_count 123 = .ok (.ireturn, 1) := by decide +kernel
theorem dX9_count_124 : decode cX9_count 124 = .ok (.aload_n 0, 1) := by decide +kernel
theorem dX9_count_125 : decode cX9_count 125 = .ok (.getfield 54, 3) := by decide +kernel
theorem dX9_count_128 : decode cX9_count 128 = .ok (.invokevirtual 121, 3) := by decide +kernel
theorem dX9_count_131 : decode cX9_count 131 = .ok (.ireturn, 1) := by decide +kernel
theorem dX9_count_132 : decode cX9_count 132 = .ok (.aload_n 0, 1) := by decide +kernel
theorem dX9_count_133 : decode cX9_count 133 = .ok (.getfield 61, 3) := by decide +kernel
theorem dX9_count_136 : decode cX9_count 136 = .ok (.invokevirtual 189, 3) := by decide +kernel
theorem dX9_count_139 : decode cX9_count 139 = .ok (.ireturn, 1) := by decide +kernel
theorem dX9_count_140 : decode cX9_count 140 = .ok (.aload_n 0, 1) := by decide +kernel
theorem dX9_count_141 : decode cX9_count 141 = .ok (.getfield 75, 3) := by decide +kernel
theorem dX9_count_144 : decode cX9_count 144 = .ok (.invokevirtual 232, 3) := by decide +kernel
theorem dX9_count_147 : decode cX9_count 147 = .ok (.ireturn, 1) := by decide +kernel
theorem dX9_count_148 : decode cX9_count 148 = .ok (.bipush (-2), 2) := by decide +kernel
theorem dX9_count_150 : decode cX9_count 150 = .ok (.ireturn, 1) := by decide +kernel
theorem dX9_comesTrue_0 : decode cX9_comesTrue 0 = .ok (.iload_n 1, 1) := by decide +kernel
theorem dX9_comesTrue_1 : decode cX9_comesTrue 1 = .ok (.tableswitch 236 1 7 #[43, 64, 85, 105, 124, 161, 202], 43) := by decide +kernel
theorem dX9_comesTrue_44 : decode cX9_comesTrue 44 = .ok (.iload_n 2, 1) := by decide +kernel
theorem dX9_comesTrue_45 : decode cX9_comesTrue 45 = .ok (.ifCond .ne 18, 3) := by decide +kernel
theorem dX9_comesTrue_48 : decode cX9_comesTrue 48 = .ok (.aload_n 0, 1) := by decide +kernel
theorem dX9_comesTrue_49 : decode cX9_comesTrue 49 = .ok (.getfield 32, 3) := by decide +kernel
theorem dX9_comesTrue_52 : decode cX9_comesTrue 52 = .ok (.iload_n 3, 1) := by decide +kernel
theorem dX9_comesTrue_53 : decode cX9_comesTrue 53 = .ok (.invokevirtual 170, 3) := by decide +kernel
theorem dX9_comesTrue_56 : decode cX9_comesTrue 56 = .ok (.ifCond .eq 7, 3) := by decide +kernel
theorem dX9_comesTrue_59 : decode cX9_comesTrue 59 = .ok (.iconst 1, 1) := by decide +kernel
theorem dX9_comesTrue_60 : decode cX9_comesTrue 60 = .ok (.goto 4, 3) := by decide +kernel
theorem dX9_comesTrue_63 : decode cX9_comesTrue 63 = .ok (.iconst 0, 1) := by decide +kernel
theorem dX9_comesTrue_64 : decode cX9_comesTrue 64 = .ok (.ireturn, 1) := by decide +kernel
theorem dX9_comesTrue_65 : decode cX9_comesTrue 65 = .ok (.iload_n 2, 1) := by decide +kernel
theorem dX9_comesTrue_66 : decode cX9_comesTrue 66 = .ok (.ifCond .ne 18, 3) := by decide +kernel
theorem dX9_comesTrue_69 : decode cX9_comesTrue 69 = .ok (.aload_n 0, 1) := by decide +kernel
theorem dX9_comesTrue_70 : decode cX9_comesTrue 70 = .ok (.getfield 32, 3) := by decide +kernel
theorem dX9_comesTrue_73 : decode cX9_comesTrue 73 = .ok (.iload_n 3, 1) := by decide +kernel
theorem dX9_comesTrue_74 : decode cX9_comesTrue 74 = .ok (.invokevirtual 176, 3) := by decide +kernel
theorem dX9_comesTrue_77 : decode cX9_comesTrue 77 = .ok (.ifCond .eq 7, 3) := by decide +kernel
theorem dX9_comesTrue_80 : decode cX9_comesTrue 80 = .ok (.iconst 1, 1) := by decide +kernel
theorem dX9_comesTrue_81 : decode cX9_comesTrue 81 = .ok (.goto 4, 3) := by decide +kernel
theorem dX9_comesTrue_84 : decode cX9_comesTrue 84 = .ok (.iconst 0, 1) := by decide +kernel
theorem dX9_comesTrue_85 : decode cX9_comesTrue 85 = .ok (.ireturn, 1) := by decide +kernel
theorem dX9_comesTrue_86 : decode cX9_comesTrue 86 = .ok (.iload_n 2, 1) := by decide +kernel
theorem dX9_comesTrue_87 : decode cX9_comesTrue 87 = .ok (.ifCond .ne 7, 3) := by decide +kernel
theorem dX9_comesTrue_90 : decode cX9_comesTrue 90 = .ok (.iload_n 3, 1) := by decide +kernel
theorem dX9_comesTrue_91 : decode cX9_comesTrue 91 = .ok (.ifCond .eq 5, 3) := by decide +kernel
theorem dX9_comesTrue_94 : decode cX9_comesTrue 94 = .ok (.iconst 0, 1) := by decide +kernel
theorem dX9_comesTrue_95 : decode cX9_comesTrue 95 = .ok (.ireturn, 1) := by decide +kernel
theorem dX9_comesTrue_96 : decode cX9_comesTrue 96 = .ok (.aload_n 0, 1) := by decide +kernel
theorem dX9_comesTrue_97 : decode cX9_comesTrue 97 = .ok (.getfield 32, 3) := by decide +kernel
theorem dX9_comesTrue_100 : decode cX9_comesTrue 100 = .ok (.invokevirtual 179, 3) := by decide +kernel
theorem dX9_comesTrue_103 : decode cX9_comesTrue 103 = .ok (.pop, 1) := by decide +kernel
theorem dX9_comesTrue_104 : decode cX9_comesTrue 104 = .ok (.iconst 1, 1) := by decide +kernel
theorem dX9_comesTrue_105 : decode cX9_comesTrue 105 = .ok (.ireturn, 1) := by decide +kernel
theorem dX9_comesTrue_106 : decode cX9_comesTrue 106 = .ok (.iload_n 2, 1) := by decide +kernel
theorem dX9_comesTrue_107 : decode cX9_comesTrue 107 = .ok (.ifCond .ne 7, 3) := by decide +kernel
theorem dX9_comesTrue_110 : decode cX9_comesTrue 110 = .ok (.iload_n 3, 1) := by decide +kernel
theorem dX9_comesTrue_111 : decode cX9_comesTrue 111 = .ok (.ifCond .eq 5, 3) := by decide +kernel
theorem dX9_comesTrue_114 : decode cX9_comesTrue 114 = .ok (.iconst 0, 1) := by decide +kernel
theorem dX9_comesTrue_115 : decode cX9_comesTrue 115 = .ok (.ireturn, 1) := by decide +kernel
theorem dX9_comesTrue_116 : decode cX9_comesTrue 116 = .ok (.aload_n 0, 1) := by decide +kernel
theorem dX9_comesTrue_117 : decode cX9_comesTrue 117 = .ok (.getfield 32, 3) := by decide +kernel
theorem dX9_comesTrue_120 : decode cX9_comesTrue 120 = .ok (.invokevirtual 107, 3) := by decide +kernel
theorem dX9_comesTrue_123 : decode cX9_comesTrue 123 = .ok (.iconst 1, 1) := by decide +kernel
theorem dX9_comesTrue_124 : decode cX9_comesTrue 124 = .ok (.ireturn, 1) := by decide +kernel
theorem dX9_comesTrue_125 : decode cX9_comesTrue 125 = .ok (.iload_n 2, 1) := by decide +kernel
theorem dX9_comesTrue_126 : decode cX9_comesTrue 126 = .ok (.ifCond .ne 10, 3) := by decide +kernel
theorem dX9_comesTrue_129 : decode cX9_comesTrue 129 = .ok (.iload_n 3, 1) := by decide +kernel
theorem dX9_comesTrue_130 : decode cX9_comesTrue 130 = .ok (.invokestatic 154, 3) := by decide +kernel
theorem dX9_comesTrue_133 : decode cX9_comesTrue 133 = .ok (.ifCond .ne 5, 3) := by decide +kernel
theorem dX9_comesTrue_136 : decode cX9_comesTrue 136 = .ok (.iconst 0, 1) := by decide +kernel
theorem dX9_comesTrue_137 : decode cX9_comesTrue 137 = .ok (.ireturn, 1) := by decide +kernel
theorem dX9_comesTrue_138 : decode cX9_comesTrue 138 = .ok (.aload_n 0, 1) := by decide +kernel
theorem dX9_comesTrue_139 : decode cX9_comesTrue 139 = .ok (.getfield 38, 3) := by decide +kernel
theorem dX9_comesTrue_142 : decode cX9_comesTrue 142 = .ok (.aload_n 0, 1) := by decide +kernel
theorem dX9_comesTrue_143 : decode cX9_comesTrue 143 = .ok (.getfield 32, 3) := by decide +kernel
theorem dX9_comesTrue_146 : decode cX9_comesTrue 146 = .ok (.iload_n 3, 1) := by decide +kernel
theorem dX9_comesTrue_147 : decode cX9_comesTrue 147 = .ok (.invokevirtual 138, 3) := by decide +kernel
theorem dX9_comesTrue_150 : decode cX9_comesTrue 150 = .ok (.aload_n 0, 1) := by decide +kernel
theorem dX9_comesTrue_151 : decode cX9_comesTrue 151 = .ok (.getfield 54, 3) := by decide +kernel
theorem dX9_comesTrue_154 : decode cX9_comesTrue 154 = .ok (.aload_n 0, 1) := by decide +kernel
theorem dX9_comesTrue_155 : decode cX9_comesTrue 155 = .ok (.getfield 38, 3) := by decide +kernel
theorem dX9_comesTrue_158 : decode cX9_comesTrue 158 = .ok (.invokevirtual 202, 3) := by decide +kernel
theorem dX9_comesTrue_161 : decode cX9_comesTrue 161 = .ok (.ireturn, 1) := by decide +kernel
theorem dX9_comesTrue_162 : decode cX9_comesTrue 162 = .ok (.aload_n 0, 1) := by decide +kernel
theorem dX9_comesTrue_163 : decode cX9_comesTrue 163 = .ok (.getfield 38, 3) := by decide +kernel
theorem dX9_comesTrue_166 : decode cX9_comesTrue 166 = .ok (.aload_n 0, 1) := by decide +kernel
theorem dX9_comesTrue_167 : decode cX9_comesTrue 167 = .ok (.getfield 32, 3) := by decide +kernel
theorem dX9_comesTrue_170 : decode cX9_comesTrue 170 = .ok (.iconst 0, 1) := by decide +kernel
theorem dX9_comesTrue_171 : decode cX9_comesTrue 171 = .ok (.invokevirtual 138, 3) := by decide +kernel
theorem dX9_comesTrue_174 : decode cX9_comesTrue 174 = .ok (.aload_n 0, 1) := by decide +kernel
theorem dX9_comesTrue_175 : decode cX9_comesTrue 175 = .ok (.getfield 19, 3) := by decide +kernel
theorem dX9_comesTrue_178 : decode cX9_comesTrue 178 = .ok (.iload_n 2, 1) := by decide +kernel
theorem dX9_comesTrue_179 : decode cX9_comesTrue 179 = .ok (.invokevirtual 125, 3) := by decide +kernel
theorem dX9_comesTrue_182 : decode cX9_comesTrue 182 = .ok (.ifCond .eq 19, 3) := by decide +kernel
theorem dX9_comesTrue_185 : decode cX9_comesTrue 185 = .ok (.aload_n 0, 1) := by decide +kernel
theorem dX9_comesTrue_186 : decode cX9_comesTrue 186 = .ok (.getfield 38, 3) := by decide +kernel
theorem dX9_comesTrue_189 : decode cX9_comesTrue 189 = .ok (.iload_n 2, 1) := by decide +kernel
theorem dX9_comesTrue_190 : decode cX9_comesTrue 190 = .ok (.invokevirtual 142, 3) := by decide +kernel
theorem dX9_comesTrue_193 : decode cX9_comesTrue 193 = .ok (.iload_n 3, 1) := by decide +kernel
theorem dX9_comesTrue_194 : decode cX9_comesTrue 194 = .ok (.if_icmp .lt 7, 3) := by decide +kernel
theorem dX9_comesTrue_197 : decode cX9_comesTrue 197 = .ok (.iconst 1, 1) := by decide +kernel
theorem dX9_comesTrue_198 : decode cX9_comesTrue 198 = .ok (.goto 4, 3) := by decide +kernel
theorem dX9_comesTrue_201 : decode cX9_comesTrue 201 = .ok (.iconst 0, 1) := by decide +kernel
theorem dX9_comesTrue_202 : decode cX9_comesTrue 202 = .ok (.ireturn, 1) := by decide +kernel
theorem dX9_comesTrue_203 : decode cX9_comesTrue 203 = .ok (.aload_n 0, 1) := by decide +kernel
theorem dX9_comesTrue_204 : decode cX9_comesTrue 204 = .ok (.getfield 38, 3) := by decide +kernel
theorem dX9_comesTrue_207 : decode cX9_comesTrue 207 = .ok (.aload_n 0, 1) := by decide +kernel
theorem dX9_comesTrue_208 : decode cX9_comesTrue 208 = .ok (.getfield 32, 3) := by decide +kernel
theorem dX9_comesTrue_211 : decode cX9_comesTrue 211 = .ok (.iconst 0, 1) := by decide +kernel
theorem dX9_comesTrue_212 : decode cX9_comesTrue 212 = .ok (.invokevirtual 138, 3) := by decide +kernel
theorem dX9_comesTrue_215 : decode cX9_comesTrue 215 = .ok (.aload_n 0, 1) := by decide +kernel
theorem dX9_comesTrue_216 : decode cX9_comesTrue 216 = .ok (.getfield 38, 3) := by decide +kernel
theorem dX9_comesTrue_219 : decode cX9_comesTrue 219 = .ok (.invokevirtual 273, 3) := by decide +kernel
theorem dX9_comesTrue_222 : decode cX9_comesTrue 222 = .ok (.bipush 10, 2) := by decide +kernel
theorem dX9_comesTrue_224 : decode cX9_comesTrue 224 = .ok (.iload_n 2, 1) := by decide +kernel
theorem dX9_comesTrue_225 : decode cX9_comesTrue 225 = .ok (.imul, 1) := by decide +kernel
theorem dX9_comesTrue_226 : decode cX9_comesTrue 226 = .ok (.iload_n 3, 1) := by decide +kernel
theorem dX9_comesTrue_227 : decode cX9_comesTrue 227 = .ok (.iadd, 1) := by decide +kernel
theorem dX9_comesTrue_228 : decode cX9_comesTrue 228 = .ok (.if_icmp .lt 7, 3) := by decide +kernel
theorem dX9_comesTrue_231 : decode cX9_comesTrue 231 = .ok (.iconst 1, 1) := by decide +kernel
theorem dX9_comesTrue_232 : decode cX9_comesTrue 232 = .ok (.goto 4, 3) := by decide +kernel
theorem dX9_comesTrue_235 : decode cX9_comesTrue 235 = .ok (.iconst 0, 1) := by decide +kernel
theorem dX9_comesTrue_236 : decode cX9_comesTrue 236 = .ok (.ireturn, 1) := by decide +kernel
theorem dX9_comesTrue_237 : decode cX9_comesTrue 237 = .ok (.iconst 0, 1) := by decide +kernel
theorem dX9_comesTrue_238 : decode cX9_comesTrue 238 = .ok (.ireturn, 1) := by decide +kernel
theorem dX9_shareOfPlace_0 : decode cX9_shareOfPlace 0 = .ok (.iconst 0, 1) := by decide +kernel
theorem dX9_shareOfPlace_1 : decode cX9_shareOfPlace 1 = .ok (.istore_n 2, 1) := by decide +kernel
theorem dX9_shareOfPlace_2 : decode cX9_shareOfPlace 2 = .ok (.iconst 0, 1) := by decide +kernel
theorem dX9_shareOfPlace_3 : decode cX9_shareOfPlace 3 = .ok (.istore_n 3, 1) := by decide +kernel
theorem dX9_shareOfPlace_4 : decode cX9_shareOfPlace 4 = .ok (.iload_n 3, 1) := by decide +kernel
theorem dX9_shareOfPlace_5 : decode cX9_shareOfPlace 5 = .ok (.aload_n 0, 1) := by decide +kernel
theorem dX9_shareOfPlace_6 : decode cX9_shareOfPlace 6 = .ok (.getfield 19, 3) := by decide +kernel
theorem dX9_shareOfPlace_9 : decode cX9_shareOfPlace 9 = .ok (.invokevirtual 110, 3) := by decide +kernel
theorem dX9_shareOfPlace_12 : decode cX9_shareOfPlace 12 = .ok (.if_icmp .ge 33, 3) := by decide +kernel
theorem dX9_shareOfPlace_15 : decode cX9_shareOfPlace 15 = .ok (.aload_n 0, 1) := by decide +kernel
theorem dX9_shareOfPlace_16 : decode cX9_shareOfPlace 16 = .ok (.getfield 19, 3) := by decide +kernel
theorem dX9_shareOfPlace_19 : decode cX9_shareOfPlace 19 = .ok (.iload_n 3, 1) := by decide +kernel
theorem dX9_shareOfPlace_20 : decode cX9_shareOfPlace 20 = .ok (.iload_n 1, 1) := by decide +kernel
theorem dX9_shareOfPlace_21 : decode cX9_shareOfPlace 21 = .ok (.aload_n 0, 1) := by decide +kernel
theorem dX9_shareOfPlace_22 : decode cX9_shareOfPlace 22 = .ok (.getfield 28, 3) := by decide +kernel
theorem dX9_shareOfPlace_25 : decode cX9_shareOfPlace 25 = .ok (.iload_n 3, 1) := by decide +kernel
theorem dX9_shareOfPlace_26 : decode cX9_shareOfPlace 26 = .ok (.invokevirtual 132, 3) := by decide +kernel
theorem dX9_shareOfPlace_29 : decode cX9_shareOfPlace 29 = .ok (.isub, 1) := by decide +kernel
theorem dX9_shareOfPlace_30 : decode cX9_shareOfPlace 30 = .ok (.invokevirtual 237, 3) := by decide +kernel
theorem dX9_shareOfPlace_33 : decode cX9_shareOfPlace 33 = .ok (.ifCond .eq 6, 3) := by decide +kernel
theorem dX9_shareOfPlace_36 : decode cX9_shareOfPlace 36 = .ok (.iinc 2 1, 3) := by decide +kernel
theorem dX9_shareOfPlace_39 : decode cX9_shareOfPlace 39 = .ok (.iinc 3 1, 3) := by decide +kernel
theorem dX9_shareOfPlace_42 : decode cX9_shareOfPlace 42 = .ok (.goto (-38), 3) := by decide +kernel
theorem dX9_shareOfPlace_45 : decode cX9_shareOfPlace 45 = .ok (.iload_n 2, 1) := by decide +kernel
theorem dX9_shareOfPlace_46 : decode cX9_shareOfPlace 46 = .ok (.ifCond .ne 7, 3) := by decide +kernel
theorem dX9_shareOfPlace_49 : decode cX9_shareOfPlace 49 = .ok (.iconst 0, 1) := by decide +kernel
theorem dX9_shareOfPlace_50 : decode cX9_shareOfPlace 50 = .ok (.goto 7, 3) := by decide +kernel
theorem dX9_shareOfPlace_53 : decode cX9_shareOfPlace 53 = .ok (.bipush 60, 2) := by decide +kernel
theorem dX9_shareOfPlace_55 : decode cX9_shareOfPlace 55 = .ok (.iload_n 2, 1) := by decide +kernel
theorem dX9_shareOfPlace_56 : decode cX9_shareOfPlace 56 = .ok (.idiv, 1) := by decide +kernel
theorem dX9_shareOfPlace_57 : decode cX9_shareOfPlace 57 = .ok (.ireturn, 1) := by decide +kernel
theorem dX9_weighPair_0 : decode cX9_weighPair 0 = .ok (.iload_n 3, 1) := by decide +kernel
theorem dX9_weighPair_1 : decode cX9_weighPair 1 = .ok (.iconst 1, 1) := by decide +kernel
theorem dX9_weighPair_2 : decode cX9_weighPair 2 = .ok (.ishr, 1) := by decide +kernel
theorem dX9_weighPair_3 : decode cX9_weighPair 3 = .ok (.istore 4, 2) := by decide +kernel
theorem dX9_weighPair_5 : decode cX9_weighPair 5 = .ok (.iload_n 3, 1) := by decide +kernel
theorem dX9_weighPair_6 : decode cX9_weighPair 6 = .ok (.iconst 1, 1) := by decide +kernel
theorem dX9_weighPair_7 : decode cX9_weighPair 7 = .ok (.iand, 1) := by decide +kernel
theorem dX9_weighPair_8 : decode cX9_weighPair 8 = .ok (.istore 5, 2) := by decide +kernel
theorem dX9_weighPair_10 : decode cX9_weighPair 10 = .ok (.aload_n 0, 1) := by decide +kernel
theorem dX9_weighPair_11 : decode cX9_weighPair 11 = .ok (.getfield 32, 3) := by decide +kernel
theorem dX9_weighPair_14 : decode cX9_weighPair 14 = .ok (.aload_n 0, 1) := by decide +kernel
theorem dX9_weighPair_15 : decode cX9_weighPair 15 = .ok (.getfield 28, 3) := by decide +kernel
theorem dX9_weighPair_18 : decode cX9_weighPair 18 = .ok (.invokevirtual 221, 3) := by decide +kernel
theorem dX9_weighPair_21 : decode cX9_weighPair 21 = .ok (.iload 4, 2) := by decide +kernel
theorem dX9_weighPair_23 : decode cX9_weighPair 23 = .ok (.iconst 1, 1) := by decide +kernel
theorem dX9_weighPair_24 : decode cX9_weighPair 24 = .ok (.if_icmp .ne 12, 3) := by decide +kernel
theorem dX9_weighPair_27 : decode cX9_weighPair 27 = .ok (.aload_n 0, 1) := by decide +kernel
theorem dX9_weighPair_28 : decode cX9_weighPair 28 = .ok (.getfield 32, 3) := by decide +kernel
theorem dX9_weighPair_31 : decode cX9_weighPair 31 = .ok (.iload_n 1, 1) := by decide +kernel
theorem dX9_weighPair_32 : decode cX9_weighPair 32 = .ok (.invokevirtual 170, 3) := by decide +kernel
theorem dX9_weighPair_35 : decode cX9_weighPair 35 = .ok (.pop, 1) := by decide +kernel
theorem dX9_weighPair_36 : decode cX9_weighPair 36 = .ok (.iload 5, 2) := by decide +kernel
theorem dX9_weighPair_38 : decode cX9_weighPair 38 = .ok (.iconst 1, 1) := by decide +kernel
theorem dX9_weighPair_39 : decode cX9_weighPair 39 = .ok (.if_icmp .ne 12, 3) := by decide +kernel
theorem dX9_weighPair_42 : decode cX9_weighPair 42 = .ok (.aload_n 0, 1) := by decide +kernel
theorem dX9_weighPair_43 : decode cX9_weighPair 43 = .ok (.getfield 32, 3) := by decide +kernel
theorem dX9_weighPair_46 : decode cX9_weighPair 46 = .ok (.iload_n 2, 1) := by decide +kernel
theorem dX9_weighPair_47 : decode cX9_weighPair 47 = .ok (.invokevirtual 170, 3) := by decide +kernel
theorem dX9_weighPair_50 : decode cX9_weighPair 50 = .ok (.pop, 1) := by decide +kernel
theorem dX9_weighPair_51 : decode cX9_weighPair 51 = .ok (.aload_n 0, 1) := by decide +kernel
theorem dX9_weighPair_52 : decode cX9_weighPair 52 = .ok (.getfield 38, 3) := by decide +kernel
theorem dX9_weighPair_55 : decode cX9_weighPair 55 = .ok (.aload_n 0, 1) := by decide +kernel
theorem dX9_weighPair_56 : decode cX9_weighPair 56 = .ok (.getfield 32, 3) := by decide +kernel
theorem dX9_weighPair_59 : decode cX9_weighPair 59 = .ok (.iconst 0, 1) := by decide +kernel
theorem dX9_weighPair_60 : decode cX9_weighPair 60 = .ok (.invokevirtual 138, 3) := by decide +kernel
theorem dX9_weighPair_63 : decode cX9_weighPair 63 = .ok (.aload_n 0, 1) := by decide +kernel
theorem dX9_weighPair_64 : decode cX9_weighPair 64 = .ok (.getfield 79, 3) := by decide +kernel
theorem dX9_weighPair_67 : decode cX9_weighPair 67 = .ok (.iload_n 3, 1) := by decide +kernel
theorem dX9_weighPair_68 : decode cX9_weighPair 68 = .ok (.iconst 2, 1) := by decide +kernel
theorem dX9_weighPair_69 : decode cX9_weighPair 69 = .ok (.aload_n 0, 1) := by decide +kernel
theorem dX9_weighPair_70 : decode cX9_weighPair 70 = .ok (.getfield 38, 3) := by decide +kernel
theorem dX9_weighPair_73 : decode cX9_weighPair 73 = .ok (.iload_n 1, 1) := by decide +kernel
theorem dX9_weighPair_74 : decode cX9_weighPair 74 = .ok (.invokevirtual 142, 3) := by decide +kernel
theorem dX9_weighPair_77 : decode cX9_weighPair 77 = .ok (.imul, 1) := by decide +kernel
theorem dX9_weighPair_78 : decode cX9_weighPair 78 = .ok (.aload_n 0, 1) := by decide +kernel
theorem dX9_weighPair_79 : decode cX9_weighPair 79 = .ok (.getfield 38, 3) := by decide +kernel
theorem dX9_weighPair_82 : decode cX9_weighPair 82 = .ok (.iload_n 2, 1) := by decide +kernel
theorem dX9_weighPair_83 : decode cX9_weighPair 83 = .ok (.iconst 1, 1) := by decide +kernel
theorem dX9_weighPair_84 : decode cX9_weighPair 84 = .ok (.iadd, 1) := by decide +kernel
theorem dX9_weighPair_85 : decode cX9_weighPair 85 = .ok (.invokevirtual 142, 3) := by decide +kernel
theorem dX9_weighPair_88 : decode cX9_weighPair 88 = .ok (.isub, 1) := by decide +kernel
theorem dX9_weighPair_89 : decode cX9_weighPair 89 = .ok (.iload 4, 2) := by decide +kernel
theorem dX9_weighPair_91 : decode cX9_weighPair 91 = .ok (.isub, 1) := by decide +kernel
theorem dX9_weighPair_92 : decode cX9_weighPair 92 = .ok (.iastore, 1) := by decide +kernel
theorem dX9_weighPair_93 : decode cX9_weighPair 93 = .ok (.aload_n 0, 1) := by decide +kernel
theorem dX9_weighPair_94 : decode cX9_weighPair 94 = .ok (.getfield 83, 3) := by decide +kernel
theorem dX9_weighPair_97 : decode cX9_weighPair 97 = .ok (.iload_n 3, 1) := by decide +kernel
theorem dX9_weighPair_98 : decode cX9_weighPair 98 = .ok (.iconst 2, 1) := by decide +kernel
theorem dX9_weighPair_99 : decode cX9_weighPair 99 = .ok (.aload_n 0, 1) := by decide +kernel
theorem dX9_weighPair_100 : decode cX9_weighPair 100 = .ok (.getfield 38, 3) := by decide +kernel
theorem dX9_weighPair_103 : decode cX9_weighPair 103 = .ok (.iload_n 2, 1) := by decide +kernel
theorem dX9_weighPair_104 : decode cX9_weighPair 104 = .ok (.invokevirtual 142, 3) := by decide +kernel
theorem dX9_weighPair_107 : decode cX9_weighPair 107 = .ok (.imul, 1) := by decide +kernel
theorem dX9_weighPair_108 : decode cX9_weighPair 108 = .ok (.aload_n 0, 1) := by decide +kernel
theorem dX9_weighPair_109 : decode cX9_weighPair 109 = .ok (.getfield 38, 3) := by decide +kernel
theorem dX9_weighPair_112 : decode cX9_weighPair 112 = .ok (.iload_n 1, 1) := by decide +kernel
theorem dX9_weighPair_113 : decode cX9_weighPair 113 = .ok (.iconst 1, 1) := by decide +kernel
theorem dX9_weighPair_114 : decode cX9_weighPair 114 = .ok (.iadd, 1) := by decide +kernel
theorem dX9_weighPair_115 : decode cX9_weighPair 115 = .ok (.invokevirtual 142, 3) := by decide +kernel
theorem dX9_weighPair_118 : decode cX9_weighPair 118 = .ok (.isub, 1) := by decide +kernel
theorem dX9_weighPair_119 : decode cX9_weighPair 119 = .ok (.iload 5, 2) := by decide +kernel
theorem dX9_weighPair_121 : decode cX9_weighPair 121 = .ok (.isub, 1) := by decide +kernel
theorem dX9_weighPair_122 : decode cX9_weighPair 122 = .ok (.iastore, 1) := by decide +kernel
theorem dX9_weighPair_123 : decode cX9_weighPair 123 = .ok (.return_, 1) := by decide +kernel
theorem dX9_weightOf_0 : decode cX9_weightOf 0 = .ok (.iconst 1, 1) := by decide +kernel
theorem dX9_weightOf_1 : decode cX9_weightOf 1 = .ok (.istore_n 3, 1) := by decide +kernel
theorem dX9_weightOf_2 : decode cX9_weightOf 2 = .ok (.iconst 0, 1) := by decide +kernel
theorem dX9_weightOf_3 : decode cX9_weightOf 3 = .ok (.istore 4, 2) := by decide +kernel
theorem dX9_weightOf_5 : decode cX9_weightOf 5 = .ok (.iload 4, 2) := by decide +kernel
theorem dX9_weightOf_7 : decode cX9_weightOf 7 = .ok (.aload_n 0, 1) := by decide +kernel
theorem dX9_weightOf_8 : decode cX9_weightOf 8 = .ok (.getfield 19, 3) := by decide +kernel
theorem dX9_weightOf_11 : decode cX9_weightOf 11 = .ok (.invokevirtual 110, 3) := by decide +kernel
theorem dX9_weightOf_14 : decode cX9_weightOf 14 = .ok (.if_icmp .ge 30, 3) := by decide +kernel
theorem dX9_weightOf_17 : decode cX9_weightOf 17 = .ok (.iload_n 3, 1) := by decide +kernel
theorem dX9_weightOf_18 : decode cX9_weightOf 18 = .ok (.iload_n 1, 1) := by decide +kernel
theorem dX9_weightOf_19 : decode cX9_weightOf 19 = .ok (.iload 4, 2) := by decide +kernel
theorem dX9_weightOf_21 : decode cX9_weightOf 21 = .ok (.ishr, 1) := by decide +kernel
theorem dX9_weightOf_22 : decode cX9_weightOf 22 = .ok (.iconst 1, 1) := by decide +kernel
theorem dX9_weightOf_23 : decode cX9_weightOf 23 = .ok (.iand, 1) := by decide +kernel
theorem dX9_weightOf_24 : decode cX9_weightOf 24 = .ok (.iconst 1, 1) := by decide +kernel
theorem dX9_weightOf_25 : decode cX9_weightOf 25 = .ok (.if_icmp .ne 10, 3) := by decide +kernel
theorem dX9_weightOf_28 : decode cX9_weightOf 28 = .ok (.bipush 10, 2) := by decide +kernel
theorem dX9_weightOf_30 : decode cX9_weightOf 30 = .ok (.iload_n 2, 1) := by decide +kernel
theorem dX9_weightOf_31 : decode cX9_weightOf 31 = .ok (.isub, 1) := by decide +kernel
theorem dX9_weightOf_32 : decode cX9_weightOf 32 = .ok (.goto 4, 3) := by decide +kernel
theorem dX9_weightOf_35 : decode cX9_weightOf 35 = .ok (.iload_n 2, 1) := by decide +kernel
theorem dX9_weightOf_36 : decode cX9_weightOf 36 = .ok (.imul, 1) := by decide +kernel
theorem dX9_weightOf_37 : decode cX9_weightOf 37 = .ok (.istore_n 3, 1) := by decide +kernel
theorem dX9_weightOf_38 : decode cX9_weightOf 38 = .ok (.iinc 4 1, 3) := by decide +kernel
theorem dX9_weightOf_41 : decode cX9_weightOf 41 = .ok (.goto (-36), 3) := by decide +kernel
theorem dX9_weightOf_44 : decode cX9_weightOf 44 = .ok (.iload_n 3, 1) := by decide +kernel
theorem dX9_weightOf_45 : decode cX9_weightOf 45 = .ok (.ireturn, 1) := by decide +kernel
theorem dX9_passYear_0 : decode cX9_passYear 0 = .ok (.iload_n 1, 1) := by decide +kernel
theorem dX9_passYear_1 : decode cX9_passYear 1 = .ok (.iconst 5, 1) := by decide +kernel
theorem dX9_passYear_2 : decode cX9_passYear 2 = .ok (.if_icmp .ge 15, 3) := by decide +kernel
theorem dX9_passYear_5 : decode cX9_passYear 5 = .ok (.aload_n 0, 1) := by decide +kernel
theorem dX9_passYear_6 : decode cX9_passYear 6 = .ok (.getfield 32, 3) := by decide +kernel
theorem dX9_passYear_9 : decode cX9_passYear 9 = .ok (.iload_n 1, 1) := by decide +kernel
theorem dX9_passYear_10 : decode cX9_passYear 10 = .ok (.invokevirtual 170, 3) := by decide +kernel
theorem dX9_passYear_13 : decode cX9_passYear 13 = .ok (.pop, 1) := by decide +kernel
theorem dX9_passYear_14 : decode cX9_passYear 14 = .ok (.goto 47, 3) := by decide +kernel
theorem dX9_passYear_17 : decode cX9_passYear 17 = .ok (.iload_n 1, 1) := by decide +kernel
theorem dX9_passYear_18 : decode cX9_passYear 18 = .ok (.bipush 10, 2) := by decide +kernel
theorem dX9_passYear_20 : decode cX9_passYear 20 = .ok (.if_icmp .ge 17, 3) := by decide +kernel
theorem dX9_passYear_23 : decode cX9_passYear 23 = .ok (.aload_n 0, 1) := by decide +kernel
theorem dX9_passYear_24 : decode cX9_passYear 24 = .ok (.getfield 32, 3) := by decide +kernel
theorem dX9_passYear_27 : decode cX9_passYear 27 = .ok (.iload_n 1, 1) := by decide +kernel
theorem dX9_passYear_28 : decode cX9_passYear 28 = .ok (.iconst 5, 1) := by decide +kernel
theorem dX9_passYear_29 : decode cX9_passYear 29 = .ok (.isub, 1) := by decide +kernel
theorem dX9_passYear_30 : decode cX9_passYear 30 = .ok (.invokevirtual 176, 3) := by decide +kernel
theorem dX9_passYear_33 : decode cX9_passYear 33 = .ok (.pop, 1) := by decide +kernel
theorem dX9_passYear_34 : decode cX9_passYear 34 = .ok (.goto 27, 3) := by decide +kernel
theorem dX9_passYear_37 : decode cX9_passYear 37 = .ok (.iload_n 1, 1) := by decide +kernel
theorem dX9_passYear_38 : decode cX9_passYear 38 = .ok (.bipush 14, 2) := by decide +kernel
theorem dX9_passYear_40 : decode cX9_passYear 40 = .ok (.if_icmp .ge 14, 3) := by decide +kernel
theorem dX9_passYear_43 : decode cX9_passYear 43 = .ok (.aload_n 0, 1) := by decide +kernel
theorem dX9_passYear_44 : decode cX9_passYear 44 = .ok (.getfield 32, 3) := by decide +kernel
theorem dX9_passYear_47 : decode cX9_passYear 47 = .ok (.invokevirtual 179, 3) := by decide +kernel
theorem dX9_passYear_50 : decode cX9_passYear 50 = .ok (.pop, 1) := by decide +kernel
theorem dX9_passYear_51 : decode cX9_passYear 51 = .ok (.goto 10, 3) := by decide +kernel
theorem dX9_passYear_54 : decode cX9_passYear 54 = .ok (.aload_n 0, 1) := by decide +kernel
theorem dX9_passYear_55 : decode cX9_passYear 55 = .ok (.getfield 32, 3) := by decide +kernel
theorem dX9_passYear_58 : decode cX9_passYear 58 = .ok (.invokevirtual 107, 3) := by decide +kernel
theorem dX9_passYear_61 : decode cX9_passYear 61 = .ok (.return_, 1) := by decide +kernel
theorem dX9_isBit_0 : decode cX9_isBit 0 = .ok (.iload_n 0, 1) := by decide +kernel
theorem dX9_isBit_1 : decode cX9_isBit 1 = .ok (.ifCond .eq 8, 3) := by decide +kernel
theorem dX9_isBit_4 : decode cX9_isBit 4 = .ok (.iload_n 0, 1) := by decide +kernel
theorem dX9_isBit_5 : decode cX9_isBit 5 = .ok (.iconst 1, 1) := by decide +kernel
theorem dX9_isBit_6 : decode cX9_isBit 6 = .ok (.if_icmp .ne 7, 3) := by decide +kernel
theorem dX9_isBit_9 : decode cX9_isBit 9 = .ok (.iconst 1, 1) := by decide +kernel
theorem dX9_isBit_10 : decode cX9_isBit 10 = .ok (.goto 4, 3) := by decide +kernel
theorem dX9_isBit_13 : decode cX9_isBit 13 = .ok (.iconst 0, 1) := by decide +kernel
theorem dX9_isBit_14 : decode cX9_isBit 14 = .ok (.ireturn, 1) := by decide +kernel
theorem dX9_isPlace_0 : decode cX9_isPlace 0 = .ok (.iload_n 0, 1) := by decide +kernel
theorem dX9_isPlace_1 : decode cX9_isPlace 1 = .ok (.ifCond .lt 13, 3) := by decide +kernel
theorem dX9_isPlace_4 : decode cX9_isPlace 4 = .ok (.iload_n 0, 1) := by decide +kernel
theorem dX9_isPlace_5 : decode cX9_isPlace 5 = .ok (.bipush 28, 2) := by decide +kernel
theorem dX9_isPlace_7 : decode cX9_isPlace 7 = .ok (.if_icmp .ge 7, 3) := by decide +kernel
theorem dX9_isPlace_10 : decode cX9_isPlace 10 = .ok (.iconst 1, 1) := by decide +kernel
theorem dX9_isPlace_11 : decode cX9_isPlace 11 = .ok (.goto 4, 3) := by decide +kernel
theorem dX9_isPlace_14 : decode cX9_isPlace 14 = .ok (.iconst 0, 1) := by decide +kernel
theorem dX9_isPlace_15 : decode cX9_isPlace 15 = .ok (.ireturn, 1) := by decide +kernel
theorem dX9_isLetter_0 : decode cX9_isLetter 0 = .ok (.iload_n 0, 1) := by decide +kernel
theorem dX9_isLetter_1 : decode cX9_isLetter 1 = .ok (.bipush 97, 2) := by decide +kernel
theorem dX9_isLetter_3 : decode cX9_isLetter 3 = .ok (.if_icmp .lt 13, 3) := by decide +kernel
theorem dX9_isLetter_6 : decode cX9_isLetter 6 = .ok (.iload_n 0, 1) := by decide +kernel
theorem dX9_isLetter_7 : decode cX9_isLetter 7 = .ok (.bipush 122, 2) := by decide +kernel
theorem dX9_isLetter_9 : decode cX9_isLetter 9 = .ok (.if_icmp .gt 7, 3) := by decide +kernel
theorem dX9_isLetter_12 : decode cX9_isLetter 12 = .ok (.iconst 1, 1) := by decide +kernel
theorem dX9_isLetter_13 : decode cX9_isLetter 13 = .ok (.goto 4, 3) := by decide +kernel
theorem dX9_isLetter_16 : decode cX9_isLetter 16 = .ok (.iconst 0, 1) := by decide +kernel
theorem dX9_isLetter_17 : decode cX9_isLetter 17 = .ok (.ireturn, 1) := by decide +kernel
theorem dX9_tenTo_0 : decode cX9_tenTo 0 = .ok (.lconst 1, 1) := by decide +kernel
theorem dX9_tenTo_1 : decode cX9_tenTo 1 = .ok (.lstore_n 1, 1) := by decide +kernel
theorem dX9_tenTo_2 : decode cX9_tenTo 2 = .ok (.iconst 0, 1) := by decide +kernel
theorem dX9_tenTo_3 : decode cX9_tenTo 3 = .ok (.istore_n 3, 1) := by decide +kernel
theorem dX9_tenTo_4 : decode cX9_tenTo 4 = .ok (.iload_n 3, 1) := by decide +kernel
theorem dX9_tenTo_5 : decode cX9_tenTo 5 = .ok (.iload_n 0, 1) := by decide +kernel
theorem dX9_tenTo_6 : decode cX9_tenTo 6 = .ok (.if_icmp .ge 15, 3) := by decide +kernel
theorem dX9_tenTo_9 : decode cX9_tenTo 9 = .ok (.lload_n 1, 1) := by decide +kernel
theorem dX9_tenTo_10 : decode cX9_tenTo 10 = .ok (.ldc2_w 287, 3) := by decide +kernel
theorem dX9_tenTo_13 : decode cX9_tenTo 13 = .ok (.lmul, 1) := by decide +kernel
theorem dX9_tenTo_14 : decode cX9_tenTo 14 = .ok (.lstore_n 1, 1) := by decide +kernel
theorem dX9_tenTo_15 : decode cX9_tenTo 15 = .ok (.iinc 3 1, 3) := by decide +kernel
theorem dX9_tenTo_18 : decode cX9_tenTo 18 = .ok (.goto (-14), 3) := by decide +kernel
theorem dX9_tenTo_21 : decode cX9_tenTo 21 = .ok (.lload_n 1, 1) := by decide +kernel
theorem dX9_tenTo_22 : decode cX9_tenTo 22 = .ok (.lreturn, 1) := by decide +kernel
theorem dX9_hasFigures_0 : decode cX9_hasFigures 0 = .ok (.lload_n 0, 1) := by decide +kernel
theorem dX9_hasFigures_1 : decode cX9_hasFigures 1 = .ok (.lconst 0, 1) := by decide +kernel
theorem dX9_hasFigures_2 : decode cX9_hasFigures 2 = .ok (.lcmp, 1) := by decide +kernel
theorem dX9_hasFigures_3 : decode cX9_hasFigures 3 = .ok (.ifCond .lt 16, 3) := by decide +kernel
theorem dX9_hasFigures_6 : decode cX9_hasFigures 6 = .ok (.lload_n 0, 1) := by decide +kernel
theorem dX9_hasFigures_7 : decode cX9_hasFigures 7 = .ok (.iload_n 2, 1) := by decide +kernel
theorem dX9_hasFigures_8 : decode cX9_hasFigures 8 = .ok (.invokestatic 289, 3) := by decide +kernel
theorem dX9_hasFigures_11 : decode cX9_hasFigures 11 = .ok (.lcmp, 1) := by decide +kernel
theorem dX9_hasFigures_12 : decode cX9_hasFigures 12 = .ok (.ifCond .ge 7, 3) := by decide +kernel
theorem dX9_hasFigures_15 : decode cX9_hasFigures 15 = .ok (.iconst 1, 1) := by decide +kernel
theorem dX9_hasFigures_16 : decode cX9_hasFigures 16 = .ok (.goto 4, 3) := by decide +kernel
theorem dX9_hasFigures_19 : decode cX9_hasFigures 19 = .ok (.iconst 0, 1) := by decide +kernel
theorem dX9_hasFigures_20 : decode cX9_hasFigures 20 = .ok (.ireturn, 1) := by decide +kernel
theorem dX9_areLetters_0 : decode cX9_areLetters 0 = .ok (.lload_n 1, 1) := by decide +kernel
theorem dX9_areLetters_1 : decode cX9_areLetters 1 = .ok (.lstore_n 3, 1) := by decide +kernel
theorem dX9_areLetters_2 : decode cX9_areLetters 2 = .ok (.iconst 0, 1) := by decide +kernel
theorem dX9_areLetters_3 : decode cX9_areLetters 3 = .ok (.istore 5, 2) := by decide +kernel
theorem dX9_areLetters_5 : decode cX9_areLetters 5 = .ok (.iload 5, 2) := by decide +kernel
theorem dX9_areLetters_7 : decode cX9_areLetters 7 = .ok (.iload_n 0, 1) := by decide +kernel
theorem dX9_areLetters_8 : decode cX9_areLetters 8 = .ok (.if_icmp .ge 29, 3) := by decide +kernel
theorem dX9_areLetters_11 : decode cX9_areLetters 11 = .ok (.lload_n 3, 1) := by decide +kernel
theorem dX9_areLetters_12 : decode cX9_areLetters 12 = .ok (.ldc2_w 293, 3) := by decide +kernel
theorem dX9_areLetters_15 : decode cX9_areLetters 15 = .ok (.lrem, 1) := by decide +kernel
theorem dX9_areLetters_16 : decode cX9_areLetters 16 = .ok (.ldc2_w 295, 3) := by decide +kernel
theorem dX9_areLetters_19 : decode cX9_areLetters 19 = .ok (.lcmp, 1) := by decide +kernel
theorem dX9_areLetters_20 : decode cX9_areLetters 20 = .ok (.ifCond .le 5, 3) := by decide +kernel
theorem dX9_areLetters_23 : decode cX9_areLetters 23 = .ok (.iconst 0, 1) := by decide +kernel
theorem dX9_areLetters_24 : decode cX9_areLetters 24 = .ok (.ireturn, 1) := by decide +kernel
theorem dX9_areLetters_25 : decode cX9_areLetters 25 = .ok (.lload_n 3, 1) := by decide +kernel
theorem dX9_areLetters_26 : decode cX9_areLetters 26 = .ok (.ldc2_w 293, 3) := by decide +kernel
theorem dX9_areLetters_29 : decode cX9_areLetters 29 = .ok (.ldiv, 1) := by decide +kernel
theorem dX9_areLetters_30 : decode cX9_areLetters 30 = .ok (.lstore_n 3, 1) := by decide +kernel
theorem dX9_areLetters_31 : decode cX9_areLetters 31 = .ok (.iinc 5 1, 3) := by decide +kernel
theorem dX9_areLetters_34 : decode cX9_areLetters 34 = .ok (.goto (-29), 3) := by decide +kernel
theorem dX9_areLetters_37 : decode cX9_areLetters 37 = .ok (.iconst 1, 1) := by decide +kernel
theorem dX9_areLetters_38 : decode cX9_areLetters 38 = .ok (.ireturn, 1) := by decide +kernel
theorem dX9_fraction_0 : decode cX9_fraction 0 = .ok (.iload_n 0, 1) := by decide +kernel
theorem dX9_fraction_1 : decode cX9_fraction 1 = .ok (.iload_n 1, 1) := by decide +kernel
theorem dX9_fraction_2 : decode cX9_fraction 2 = .ok (.invokestatic 297, 3) := by decide +kernel
theorem dX9_fraction_5 : decode cX9_fraction 5 = .ok (.istore_n 3, 1) := by decide +kernel
theorem dX9_fraction_6 : decode cX9_fraction 6 = .ok (.iload_n 3, 1) := by decide +kernel
theorem dX9_fraction_7 : decode cX9_fraction 7 = .ok (.ifCond .ne 13, 3) := by decide +kernel
theorem dX9_fraction_10 : decode cX9_fraction 10 = .ok (.iload_n 2, 1) := by decide +kernel
theorem dX9_fraction_11 : decode cX9_fraction 11 = .ok (.ifCond .eq 7, 3) := by decide +kernel
theorem dX9_fraction_14 : decode cX9_fraction 14 = .ok (.iload_n 0, 1) := by decide +kernel
theorem dX9_fraction_15 : decode cX9_fraction 15 = .ok (.goto 4, 3) := by decide +kernel
theorem dX9_fraction_18 : decode cX9_fraction 18 = .ok (.iload_n 1, 1) := by decide +kernel
theorem dX9_fraction_19 : decode cX9_fraction 19 = .ok (.ireturn, 1) := by decide +kernel
theorem dX9_fraction_20 : decode cX9_fraction 20 = .ok (.iload_n 2, 1) := by decide +kernel
theorem dX9_fraction_21 : decode cX9_fraction 21 = .ok (.ifCond .eq 9, 3) := by decide +kernel
theorem dX9_fraction_24 : decode cX9_fraction 24 = .ok (.iload_n 0, 1) := by decide +kernel
theorem dX9_fraction_25 : decode cX9_fraction 25 = .ok (.iload_n 3, 1) := by decide +kernel
theorem dX9_fraction_26 : decode cX9_fraction 26 = .ok (.idiv, 1) := by decide +kernel
theorem dX9_fraction_27 : decode cX9_fraction 27 = .ok (.goto 6, 3) := by decide +kernel
theorem dX9_fraction_30 : decode cX9_fraction 30 = .ok (.iload_n 1, 1) := by decide +kernel
theorem dX9_fraction_31 : decode cX9_fraction 31 = .ok (.iload_n 3, 1) := by decide +kernel
theorem dX9_fraction_32 : decode cX9_fraction 32 = .ok (.idiv, 1) := by decide +kernel
theorem dX9_fraction_33 : decode cX9_fraction 33 = .ok (.ireturn, 1) := by decide +kernel
theorem dX9_greatestShared_0 : decode cX9_greatestShared 0 = .ok (.iload_n 0, 1) := by decide +kernel
theorem dX9_greatestShared_1 : decode cX9_greatestShared 1 = .ok (.istore_n 2, 1) := by decide +kernel
theorem dX9_greatestShared_2 : decode cX9_greatestShared 2 = .ok (.iload_n 1, 1) := by decide +kernel
theorem dX9_greatestShared_3 : decode cX9_greatestShared 3 = .ok (.istore_n 3, 1) := by decide +kernel
theorem dX9_greatestShared_4 : decode cX9_greatestShared 4 = .ok (.iconst 0, 1) := by decide +kernel
theorem dX9_greatestShared_5 : decode cX9_greatestShared 5 = .ok (.istore 4, 2) := by decide +kernel
theorem dX9_greatestShared_7 : decode cX9_greatestShared 7 = .ok (.iload 4, 2) := by decide +kernel
theorem dX9_greatestShared_9 : decode cX9_greatestShared 9 = .ok (.bipush 64, 2) := by decide +kernel
theorem dX9_greatestShared_11 : decode cX9_greatestShared 11 = .ok (.if_icmp .ge 23, 3) := by decide +kernel
theorem dX9_greatestShared_14 : decode cX9_greatestShared 14 = .ok (.iload_n 3, 1) := by decide +kernel
theorem dX9_greatestShared_15 : decode cX9_greatestShared 15 = .ok (.ifCond .eq 19, 3) := by decide +kernel
theorem dX9_greatestShared_18 : decode cX9_greatestShared 18 = .ok (.iload_n 2, 1) := by decide +kernel
theorem dX9_greatestShared_19 : decode cX9_greatestShared 19 = .ok (.iload_n 3, 1) := by decide +kernel
theorem dX9_greatestShared_20 : decode cX9_greatestShared 20 = .ok (.irem, 1) := by decide +kernel
theorem dX9_greatestShared_21 : decode cX9_greatestShared 21 = .ok (.istore 5, 2) := by decide +kernel
theorem dX9_greatestShared_23 : decode cX9_greatestShared 23 = .ok (.iload_n 3, 1) := by decide +kernel
theorem dX9_greatestShared_24 : decode cX9_greatestShared 24 = .ok (.istore_n 2, 1) := by decide +kernel
theorem dX9_greatestShared_25 : decode cX9_greatestShared 25 = .ok (.iload 5, 2) := by decide +kernel
theorem dX9_greatestShared_27 : decode cX9_greatestShared 27 = .ok (.istore_n 3, 1) := by decide +kernel
theorem dX9_greatestShared_28 : decode cX9_greatestShared 28 = .ok (.iinc 4 1, 3) := by decide +kernel
theorem dX9_greatestShared_31 : decode cX9_greatestShared 31 = .ok (.goto (-24), 3) := by decide +kernel
theorem dX9_greatestShared_34 : decode cX9_greatestShared 34 = .ok (.iload_n 2, 1) := by decide +kernel
theorem dX9_greatestShared_35 : decode cX9_greatestShared 35 = .ok (.ireturn, 1) := by decide +kernel
theorem dX10_init_0 : decode cX10_init 0 = .ok (.aload_n 0, 1) := by decide +kernel
theorem dX10_init_1 : decode cX10_init 1 = .ok (.invokespecial 1, 3) := by decide +kernel
theorem dX10_init_4 : decode cX10_init 4 = .ok (.aload_n 0, 1) := by decide +kernel
theorem dX10_init_5 : decode cX10_init 5 = .ok (.bipush 6, 2) := by decide +kernel
theorem dX10_init_7 : decode cX10_init 7 = .ok (.newarray .int, 2) := by decide +kernel
theorem dX10_init_9 : decode cX10_init 9 = .ok (.putfield 7, 3) := by decide +kernel
theorem dX10_init_12 : decode cX10_init 12 = .ok (.aload_n 0, 1) := by decide +kernel
theorem dX10_init_13 : decode cX10_init 13 = .ok (.bipush 48, 2) := by decide +kernel
theorem dX10_init_15 : decode cX10_init 15 = .ok (.newarray .int, 2) := by decide +kernel
theorem dX10_init_17 : decode cX10_init 17 = .ok (.putfield 13, 3) := by decide +kernel
theorem dX10_init_20 : decode cX10_init 20 = .ok (.aload_n 0, 1) := by decide +kernel
theorem dX10_init_21 : decode cX10_init 21 = .ok (.bipush 10, 2) := by decide +kernel
theorem dX10_init_23 : decode cX10_init 23 = .ok (.newarray .int, 2) := by decide +kernel
theorem dX10_init_25 : decode cX10_init 25 = .ok (.putfield 16, 3) := by decide +kernel
theorem dX10_init_28 : decode cX10_init 28 = .ok (.aload_n 0, 1) := by decide +kernel
theorem dX10_init_29 : decode cX10_init 29 = .ok (.bipush 6, 2) := by decide +kernel
theorem dX10_init_31 : decode cX10_init 31 = .ok (.newarray .int, 2) := by decide +kernel
theorem dX10_init_33 : decode cX10_init 33 = .ok (.putfield 19, 3) := by decide +kernel
theorem dX10_init_36 : decode cX10_init 36 = .ok (.aload_n 0, 1) := by decide +kernel
theorem dX10_init_37 : decode cX10_init 37 = .ok (.bipush 48, 2) := by decide +kernel
theorem dX10_init_39 : decode cX10_init 39 = .ok (.newarray .int, 2) := by decide +kernel
theorem dX10_init_41 : decode cX10_init 41 = .ok (.putfield 22, 3) := by decide +kernel
theorem dX10_init_44 : decode cX10_init 44 = .ok (.aload_n 0, 1) := by decide +kernel
theorem dX10_init_45 : decode cX10_init 45 = .ok (.bipush 64, 2) := by decide +kernel
theorem dX10_init_47 : decode cX10_init 47 = .ok (.newarray .int, 2) := by decide +kernel
theorem dX10_init_49 : decode cX10_init 49 = .ok (.putfield 25, 3) := by decide +kernel
theorem dX10_init_52 : decode cX10_init 52 = .ok (.aload_n 0, 1) := by decide +kernel
theorem dX10_init_53 : decode cX10_init 53 = .ok (.iconst 5, 1) := by decide +kernel
theorem dX10_init_54 : decode cX10_init 54 = .ok (.newarray .int, 2) := by decide +kernel
theorem dX10_init_56 : decode cX10_init 56 = .ok (.putfield 28, 3) := by decide +kernel
theorem dX10_init_59 : decode cX10_init 59 = .ok (.aload_n 0, 1) := by decide +kernel
theorem dX10_init_60 : decode cX10_init 60 = .ok (.bipush 70, 2) := by decide +kernel
theorem dX10_init_62 : decode cX10_init 62 = .ok (.newarray .int, 2) := by decide +kernel
theorem dX10_init_64 : decode cX10_init 64 = .ok (.putfield 31, 3) := by decide +kernel
theorem dX10_init_67 : decode cX10_init 67 = .ok (.aload_n 0, 1) := by decide +kernel
theorem dX10_init_68 : decode cX10_init 68 = .ok (.bipush 6, 2) := by decide +kernel
theorem dX10_init_70 : decode cX10_init 70 = .ok (.newarray .int, 2) := by decide +kernel
theorem dX10_init_72 : decode cX10_init 72 = .ok (.putfield 34, 3) := by decide +kernel
theorem dX10_init_75 : decode cX10_init 75 = .ok (.aload_n 0, 1) := by decide +kernel
theorem dX10_init_76 : decode cX10_init 76 = .ok (.bipush 6, 2) := by decide +kernel
theorem dX10_init_78 : decode cX10_init 78 = .ok (.newarray .int, 2) := by decide +kernel
theorem dX10_init_80 : decode cX10_init 80 = .ok (.putfield 37, 3) := by decide +kernel
theorem dX10_init_83 : decode cX10_init 83 = .ok (.aload_n 0, 1) := by decide +kernel
theorem dX10_init_84 : decode cX10_init 84 = .ok (.bipush 6, 2) := by decide +kernel
theorem dX10_init_86 : decode cX10_init 86 = .ok (.newarray .int, 2) := by decide +kernel
theorem dX10_init_88 : decode cX10_init 88 = .ok (.putfield 40, 3) := by decide +kernel
theorem dX10_init_91 : decode cX10_init 91 = .ok (.aload_n 0, 1) := by decide +kernel
theorem dX10_init_92 : decode cX10_init 92 = .ok (.iconst 2, 1) := by decide +kernel
theorem dX10_init_93 : decode cX10_init 93 = .ok (.newarray .boolean, 2) := by decide +kernel
theorem dX10_init_95 : decode cX10_init 95 = .ok (.putfield 43, 3) := by decide +kernel
theorem dX10_init_98 : decode cX10_init 98 = .ok (.aload_n 0, 1) := by decide +kernel
theorem dX10_init_99 : decode cX10_init 99 = .ok (.bipush 10, 2) := by decide +kernel
theorem dX10_init_101 : decode cX10_init 101 = .ok (.newarray .int, 2) := by decide +kernel
theorem dX10_init_103 : decode cX10_init 103 = .ok (.putfield 47, 3) := by decide +kernel
theorem dX10_init_106 : decode cX10_init 106 = .ok (.return_, 1) := by decide +kernel
theorem dX10_in_0 : decode cX10_in 0 = .ok (.lload_n 0, 1) := by decide +kernel
theorem dX10_in_1 : decode cX10_in 1 = .ok (.lload_n 2, 1) := by decide +kernel
theorem dX10_in_2 : decode cX10_in 2 = .ok (.lcmp, 1) := by decide +kernel
theorem dX10_in_3 : decode cX10_in 3 = .ok (.ifCond .lt 14, 3) := by decide +kernel
theorem dX10_in_6 : decode cX10_in 6 = .ok (.lload_n 0, 1) := by decide +kernel
theorem dX10_in_7 : decode cX10_in 7 = .ok (.lload 4, 2) := by decide +kernel
theorem dX10_in_9 : decode cX10_in 9 = .ok (.lcmp, 1) := by decide +kernel
theorem dX10_in_10 : decode cX10_in 10 = .ok (.ifCond .gt 7, 3) := by decide +kernel
theorem dX10_in_13 : decode cX10_in 13 = .ok (.iconst 1, 1) := by decide +kernel
theorem dX10_in_14 : decode cX10_in 14 = .ok (.goto 4, 3) := by decide +kernel
theorem dX10_in_17 : decode cX10_in 17 = .ok (.iconst 0, 1) := by decide +kernel
theorem dX10_in_18 : decode cX10_in 18 = .ok (.ireturn, 1) := by decide +kernel
theorem dX10_has_0 : decode cX10_has 0 = .ok (.iload_n 0, 1) := by decide +kernel
theorem dX10_has_1 : decode cX10_has 1 = .ok (.iload_n 1, 1) := by decide +kernel
theorem dX10_has_2 : decode cX10_has 2 = .ok (.ishr, 1) := by decide +kernel
theorem dX10_has_3 : decode cX10_has 3 = .ok (.iconst 1, 1) := by decide +kernel
theorem dX10_has_4 : decode cX10_has 4 = .ok (.iand, 1) := by decide +kernel
theorem dX10_has_5 : decode cX10_has 5 = .ok (.iconst 1, 1) := by decide +kernel
theorem dX10_has_6 : decode cX10_has 6 = .ok (.if_icmp .ne 7, 3) := by decide +kernel
theorem dX10_has_9 : decode cX10_has 9 = .ok (.iconst 1, 1) := by decide +kernel
theorem dX10_has_10 : decode cX10_has 10 = .ok (.goto 4, 3) := by decide +kernel
theorem dX10_has_13 : decode cX10_has 13 = .ok (.iconst 0, 1) := by decide +kernel
theorem dX10_has_14 : decode cX10_has 14 = .ok (.ireturn, 1) := by decide +kernel
theorem dX10_ones_0 : decode cX10_ones 0 = .ok (.iconst 0, 1) := by decide +kernel
theorem dX10_ones_1 : decode cX10_ones 1 = .ok (.istore_n 1, 1) := by decide +kernel
theorem dX10_ones_2 : decode cX10_ones 2 = .ok (.iconst 0, 1) := by decide +kernel
theorem dX10_ones_3 : decode cX10_ones 3 = .ok (.istore_n 2, 1) := by decide +kernel
theorem dX10_ones_4 : decode cX10_ones 4 = .ok (.iload_n 2, 1) := by decide +kernel
theorem dX10_ones_5 : decode cX10_ones 5 = .ok (.bipush 6, 2) := by decide +kernel
theorem dX10_ones_7 : decode cX10_ones 7 = .ok (.if_icmp .ge 17, 3) := by decide +kernel
theorem dX10_ones_10 : decode cX10_ones 10 = .ok (.iload_n 1, 1) := by decide +kernel
theorem dX10_ones_11 : decode cX10_ones 11 = .ok (.iload_n 0, 1) := by decide +kernel
theorem dX10_ones_12 : decode cX10_ones 12 = .ok (.iload_n 2, 1) := by decide +kernel
theorem dX10_ones_13 : decode cX10_ones 13 = .ok (.ishr, 1) := by decide +kernel
theorem dX10_ones_14 : decode cX10_ones 14 = .ok (.iconst 1, 1) := by decide +kernel
theorem dX10_ones_15 : decode cX10_ones 15 = .ok (.iand, 1) := by decide +kernel
theorem dX10_ones_16 : decode cX10_ones 16 = .ok (.iadd, 1) := by decide +kernel
theorem dX10_ones_17 : decode cX10_ones 17 = .ok (.istore_n 1, 1) := by decide +kernel
theorem dX10_ones_18 : decode cX10_ones 18 = .ok (.iinc 2 1, 3) := by decide +kernel
theorem dX10_ones_21 : decode cX10_ones 21 = .ok (.goto (-17), 3) := by decide +kernel
theorem dX10_ones_24 : decode cX10_ones 24 = .ok (.iload_n 1, 1) := by decide +kernel
theorem dX10_ones_25 : decode cX10_ones 25 = .ok (.ireturn, 1) := by decide +kernel
theorem dX10_write_0 : decode cX10_write 0 = .ok (.iload_n 1, 1) := by decide +kernel
theorem dX10_write_1 : decode cX10_write 1 = .ok (.i2l, 1) := by decide +kernel
theorem dX10_write_2 : decode cX10_write 2 = .ok (.lconst 0, 1) := by decide +kernel
theorem dX10_write_3 : decode cX10_write 3 = .ok (.ldc2_w 50, 3) := by decide +kernel
theorem dX10_write_6 : decode cX10_write 6 = .ok (.invokestatic 52, 3) := by decide +kernel
theorem dX10_write_9 : decode cX10_write 9 = .ok (.ifCond .ne 6, 3) := by decide +kernel
theorem dX10_write_12 : decode cX10_write 12 = .ok (.bipush (-2), 2) := by decide +kernel
theorem dX10_write_14 : decode cX10_write 14 = .ok (.ireturn, 1) := by decide +kernel
theorem dX10_write_15 : decode cX10_write 15 = .ok (.aload_n 0, 1) := by decide +kernel
theorem dX10_write_16 : decode cX10_write 16 = .ok (.getfield 56, 3) := by decide +kernel
theorem dX10_write_19 : decode cX10_write 19 = .ok (.bipush 64, 2) := by decide +kernel
theorem dX10_write_21 : decode cX10_write 21 = .ok (.if_icmp .ne 6, 3) := by decide +kernel
theorem dX10_write_24 : decode cX10_write 24 = .ok (.bipush (-4), 2) := by decide +kernel
theorem dX10_write_26 : decode cX10_write 26 = .ok (.ireturn, 1) := by decide +kernel
theorem dX10_write_27 : decode cX10_write 27 = .ok (.aload_n 0, 1) := by decide +kernel
theorem dX10_write_28 : decode cX10_write 28 = .ok (.getfield 25, 3) := by decide +kernel
theorem dX10_write_31 : decode cX10_write 31 = .ok (.aload_n 0, 1) := by decide +kernel
theorem dX10_write_32 : decode cX10_write 32 = .ok (.getfield 56, 3) := by decide +kernel
theorem dX10_write_35 : decode cX10_write 35 = .ok (.iload_n 1, 1) := by decide +kernel
theorem dX10_write_36 : decode cX10_write 36 = .ok (.iastore, 1) := by decide +kernel
theorem dX10_write_37 : decode cX10_write 37 = .ok (.aload_n 0, 1) := by decide +kernel
theorem dX10_write_38 : decode cX10_write 38 = .ok (.dup, 1) := by decide +kernel
theorem dX10_write_39 : decode cX10_write 39 = .ok (.getfield 56, 3) := by decide +kernel
theorem dX10_write_42 : decode cX10_write 42 = .ok (.iconst 1, 1) := by decide +kernel
theorem dX10_write_43 : decode cX10_write 43 = .ok (.iadd, 1) := by decide +kernel
theorem dX10_write_44 : decode cX10_write 44 = .ok (.putfield 56, 3) := by decide +kernel
theorem dX10_write_47 : decode cX10_write 47 = .ok (.aload_n 0, 1) := by decide +kernel
theorem dX10_write_48 : decode cX10_write 48 = .ok (.getfield 56, 3) := by decide +kernel
theorem dX10_write_51 : decode cX10_write 51 = .ok (.ireturn, 1) := by decide +kernel
theorem dX10_wipe_0 : decode cX10_wipe 0 = .ok (.aload_n 0, 1) := by decide +kernel
theorem dX10_wipe_1 : decode cX10_wipe 1 = .ok (.getfield 56, 3) := by decide +kernel
theorem dX10_wipe_4 : decode cX10_wipe 4 = .ok (.istore_n 1, 1) := by decide +kernel
theorem dX10_wipe_5 : decode cX10_wipe 5 = .ok (.aload_n 0, 1) := by decide +kernel
theorem dX10_wipe_6 : decode cX10_wipe 6 = .ok (.iconst 0, 1) := by decide +kernel
theorem dX10_wipe_7 : decode cX10_wipe 7 = .ok (.putfield 56, 3) := by decide +kernel
theorem dX10_wipe_10 : decode cX10_wipe 10 = .ok (.iload_n 1, 1) := by decide +kernel
theorem dX10_wipe_11 : decode cX10_wipe 11 = .ok (.ireturn, 1) := by decide +kernel
theorem dX10_readText_0 : decode cX10_readText 0 = .ok (.aload_n 0, 1) := by decide +kernel
theorem dX10_readText_1 : decode cX10_readText 1 = .ok (.iconst 0, 1) := by decide +kernel
theorem dX10_readText_2 : decode cX10_readText 2 = .ok (.putfield 60, 3) := by decide +kernel
theorem dX10_readText_5 : decode cX10_readText 5 = .ok (.aload_n 0, 1) := by decide +kernel
theorem dX10_readText_6 : decode cX10_readText 6 = .ok (.getfield 56, 3) := by decide +kernel
theorem dX10_readText_9 : decode cX10_readText 9 = .ok (.ifCond .eq 14, 3) := by decide +kernel
theorem dX10_readText_12 : decode cX10_readText 12 = .ok (.aload_n 0, 1) := by decide +kernel
theorem dX10_readText_13 : decode cX10_readText 13 = .ok (.getfield 25, 3) := by decide +kernel
theorem dX10_readText_16 : decode cX10_readText 16 = .ok (.iconst 0, 1) := by decide +kernel
theorem dX10_readText_17 : decode cX10_readText 17 = .ok (.iaload, 1) := by decide +kernel
theorem dX10_readText_18 : decode cX10_readText 18 = .ok (.bipush 70, 2) := by decide +kernel
theorem dX10_readText_20 : decode cX10_readText 20 = .ok (.if_icmp .eq 5, 3) := by decide +kernel
theorem dX10_readText_23 : decode cX10_readText 23 = .ok (.iconst 0, 1) := by decide +kernel
theorem dX10_readText_24 : decode cX10_readText 24 = .ok (.ireturn, 1) := by decide +kernel
theorem dX10_readText_25 : decode cX10_readText 25 = .ok (.iconst 1, 1) := by decide +kernel
theorem dX10_readText_26 : decode cX10_readText 26 = .ok (.istore_n 1, 1) := by decide +kernel
theorem dX10_readText_27 : decode cX10_readText 27 = .ok (.iload_n 1, 1) := by decide +kernel
theorem dX10_readText_28 : decode cX10_readText 28 = .ok (.aload_n 0, 1) := by decide +kernel
theorem dX10_readText_29 : decode cX10_readText 29 = .ok (.getfield 56, 3) := by decide +kernel
theorem dX10_readText_32 : decode cX10_readText 32 = .ok (.if_icmp .ge 171, 3) := by decide +kernel
theorem dX10_readText_35 : decode cX10_readText 35 = .ok (.iload_n 1, 1) := by decide +kernel
theorem dX10_readText_36 : decode cX10_readText 36 = .ok (.iconst 1, 1) := by decide +kernel
theorem dX10_readText_37 : decode cX10_readText 37 = .ok (.isub, 1) := by decide +kernel
theorem dX10_readText_38 : decode cX10_readText 38 = .ok (.bipush 10, 2) := by decide +kernel
theorem dX10_readText_40 : decode cX10_readText 40 = .ok (.irem, 1) := by decide +kernel
theorem dX10_readText_41 : decode cX10_readText 41 = .ok (.istore_n 2, 1) := by decide +kernel
theorem dX10_readText_42 : decode cX10_readText 42 = .ok (.iload_n 2, 1) := by decide +kernel
theorem dX10_readText_43 : decode cX10_readText 43 = .ok (.ifCond .ne 31, 3) := by decide +kernel
theorem dX10_readText_46 : decode cX10_readText 46 = .ok (.aload_n 0, 1) := by decide +kernel
theorem dX10_readText_47 : decode cX10_readText 47 = .ok (.getfield 25, 3) := by decide +kernel
theorem dX10_readText_50 : decode cX10_readText 50 = .ok (.iload_n 1, 1) := by decide +kernel
theorem dX10_readText_51 : decode cX10_readText 51 = .ok (.iaload, 1) := by decide +kernel
theorem dX10_readText_52 : decode cX10_readText 52 = .ok (.bipush 66, 2) := by decide +kernel
theorem dX10_readText_54 : decode cX10_readText 54 = .ok (.if_icmp .ne 16, 3) := by decide +kernel
theorem dX10_readText_57 : decode cX10_readText 57 = .ok (.aload_n 0, 1) := by decide +kernel
theorem dX10_readText_58 : decode cX10_readText 58 = .ok (.getfield 60, 3) := by decide +kernel
theorem dX10_readText_61 : decode cX10_readText 61 = .ok (.bipush 6, 2) := by decide +kernel
theorem dX10_readText_63 : decode cX10_readText 63 = .ok (.if_icmp .ge 7, 3) := by decide +kernel
theorem dX10_readText_66 : decode cX10_readText 66 = .ok (.iconst 1, 1) := by decide +kernel
theorem dX10_readText_67 : decode cX10_readText 67 = .ok (.goto 47, 3) := by decide +kernel
theorem dX10_readText_70 : decode cX10_readText 70 = .ok (.iconst 0, 1) := by decide +kernel
theorem dX10_readText_71 : decode cX10_readText 71 = .ok (.goto 43, 3) := by decide +kernel
theorem dX10_readText_74 : decode cX10_readText 74 = .ok (.iload_n 2, 1) := by decide +kernel
theorem dX10_readText_75 : decode cX10_readText 75 = .ok (.iconst 1, 1) := by decide +kernel
theorem dX10_readText_76 : decode cX10_readText 76 = .ok (.if_icmp .ne 22, 3) := by decide +kernel
theorem dX10_readText_79 : decode cX10_readText 79 = .ok (.aload_n 0, 1) := by decide +kernel
theorem dX10_readText_80 : decode cX10_readText 80 = .ok (.getfield 25, 3) := by decide +kernel
theorem dX10_readText_83 : decode cX10_readText 83 = .ok (.iload_n 1, 1) := by decide +kernel
theorem dX10_readText_84 : decode cX10_readText 84 = .ok (.iaload, 1) := by decide +kernel
theorem dX10_readText_85 : decode cX10_readText 85 = .ok (.i2l, 1) := by decide +kernel
theorem dX10_readText_86 : decode cX10_readText 86 = .ok (.ldc2_w 63, 3) := by decide +kernel
theorem dX10_readText_89 : decode cX10_readText 89 = .ok (.ldc2_w 65, 3) := by decide +kernel
theorem dX10_readText_92 : decode cX10_readText 92 = .ok (.invokestatic 52, 3) := by decide +kernel
theorem dX10_readText_95 : decode cX10_readText 95 = .ok (.goto 19, 3) := by decide +kernel
theorem dX10_readText_98 : decode cX10_readText 98 = .ok (.aload_n 0, 1) := by decide +kernel
theorem dX10_readText_99 : decode cX10_readText 99 = .ok (.getfield 25, 3) := by decide +kernel
theorem dX10_readText_102 : decode cX10_readText 102 = .ok (.iload_n 1, 1) := by decide +kernel
theorem dX10_readText_103 : decode cX10_readText 103 = .ok (.iaload, 1) := by decide +kernel
theorem dX10_readText_104 : decode cX10_readText 104 = .ok (.i2l, 1) := by decide +kernel
theorem dX10_readText_105 : decode cX10_readText 105 = .ok (.ldc2_w 67, 3) := by decide +kernel
