theorem dX10_readText_108 : decode cX10_readText 108 = .ok (.ldc2_w 69, 3) := by decide +kernel
theorem dX10_readText_111 : decode cX10_readText 111 = .ok (.invokestatic 52, 3) := by decide +kernel
theorem dX10_readText_114 : decode cX10_readText 114 = .ok (.istore_n 3, 1) := by decide +kernel
theorem dX10_readText_115 : decode cX10_readText 115 = .ok (.iload_n 3, 1) := by decide +kernel
theorem dX10_readText_116 : decode cX10_readText 116 = .ok (.ifCond .ne 5, 3) := by decide +kernel
theorem dX10_readText_119 : decode cX10_readText 119 = .ok (.iload_n 1, 1) := by decide +kernel
theorem dX10_readText_120 : decode cX10_readText 120 = .ok (.ireturn, 1) := by decide +kernel
theorem dX10_readText_121 : decode cX10_readText 121 = .ok (.iload_n 2, 1) := by decide +kernel
theorem dX10_readText_122 : decode cX10_readText 122 = .ok (.iconst 1, 1) := by decide +kernel
theorem dX10_readText_123 : decode cX10_readText 123 = .ok (.if_icmp .ne 24, 3) := by decide +kernel
theorem dX10_readText_126 : decode cX10_readText 126 = .ok (.aload_n 0, 1) := by decide +kernel
theorem dX10_readText_127 : decode cX10_readText 127 = .ok (.getfield 19, 3) := by decide +kernel
theorem dX10_readText_130 : decode cX10_readText 130 = .ok (.aload_n 0, 1) := by decide +kernel
theorem dX10_readText_131 : decode cX10_readText 131 = .ok (.getfield 60, 3) := by decide +kernel
theorem dX10_readText_134 : decode cX10_readText 134 = .ok (.aload_n 0, 1) := by decide +kernel
theorem dX10_readText_135 : decode cX10_readText 135 = .ok (.getfield 25, 3) := by decide +kernel
theorem dX10_readText_138 : decode cX10_readText 138 = .ok (.iload_n 1, 1) := by decide +kernel
theorem dX10_readText_139 : decode cX10_readText 139 = .ok (.iaload, 1) := by decide +kernel
theorem dX10_readText_140 : decode cX10_readText 140 = .ok (.bipush 48, 2) := by decide +kernel
theorem dX10_readText_142 : decode cX10_readText 142 = .ok (.isub, 1) := by decide +kernel
theorem dX10_readText_143 : decode cX10_readText 143 = .ok (.iastore, 1) := by decide +kernel
theorem dX10_readText_144 : decode cX10_readText 144 = .ok (.goto 33, 3) := by decide +kernel
theorem dX10_readText_147 : decode cX10_readText 147 = .ok (.iload_n 2, 1) := by decide +kernel
theorem dX10_readText_148 : decode cX10_readText 148 = .ok (.iconst 1, 1) := by decide +kernel
theorem dX10_readText_149 : decode cX10_readText 149 = .ok (.if_icmp .le 28, 3) := by decide +kernel
theorem dX10_readText_152 : decode cX10_readText 152 = .ok (.aload_n 0, 1) := by decide +kernel
theorem dX10_readText_153 : decode cX10_readText 153 = .ok (.getfield 22, 3) := by decide +kernel
theorem dX10_readText_156 : decode cX10_readText 156 = .ok (.bipush 8, 2) := by decide +kernel
theorem dX10_readText_158 : decode cX10_readText 158 = .ok (.aload_n 0, 1) := by decide +kernel
theorem dX10_readText_159 : decode cX10_readText 159 = .ok (.getfield 60, 3) := by decide +kernel
theorem dX10_readText_162 : decode cX10_readText 162 = .ok (.imul, 1) := by decide +kernel
theorem dX10_readText_163 : decode cX10_readText 163 = .ok (.iload_n 2, 1) := by decide +kernel
theorem dX10_readText_164 : decode cX10_readText 164 = .ok (.iadd, 1) := by decide +kernel
theorem dX10_readText_165 : decode cX10_readText 165 = .ok (.iconst 2, 1) := by decide +kernel
theorem dX10_readText_166 : decode cX10_readText 166 = .ok (.isub, 1) := by decide +kernel
theorem dX10_readText_167 : decode cX10_readText 167 = .ok (.aload_n 0, 1) := by decide +kernel
theorem dX10_readText_168 : decode cX10_readText 168 = .ok (.getfield 25, 3) := by decide +kernel
theorem dX10_readText_171 : decode cX10_readText 171 = .ok (.iload_n 1, 1) := by decide +kernel
theorem dX10_readText_172 : decode cX10_readText 172 = .ok (.iaload, 1) := by decide +kernel
theorem dX10_readText_173 : decode cX10_readText 173 = .ok (.bipush 97, 2) := by decide +kernel
theorem dX10_readText_175 : decode cX10_readText 175 = .ok (.isub, 1) := by decide +kernel
theorem dX10_readText_176 : decode cX10_readText 176 = .ok (.iastore, 1) := by decide +kernel
theorem dX10_readText_177 : decode cX10_readText 177 = .ok (.aload_n 0, 1) := by decide +kernel
theorem dX10_readText_178 : decode cX10_readText 178 = .ok (.dup, 1) := by decide +kernel
theorem dX10_readText_179 : decode cX10_readText 179 = .ok (.getfield 60, 3) := by decide +kernel
theorem dX10_readText_182 : decode cX10_readText 182 = .ok (.iload_n 2, 1) := by decide +kernel
theorem dX10_readText_183 : decode cX10_readText 183 = .ok (.bipush 9, 2) := by decide +kernel
theorem dX10_readText_185 : decode cX10_readText 185 = .ok (.if_icmp .ne 7, 3) := by decide +kernel
theorem dX10_readText_188 : decode cX10_readText 188 = .ok (.iconst 1, 1) := by decide +kernel
theorem dX10_readText_189 : decode cX10_readText 189 = .ok (.goto 4, 3) := by decide +kernel
theorem dX10_readText_192 : decode cX10_readText 192 = .ok (.iconst 0, 1) := by decide +kernel
theorem dX10_readText_193 : decode cX10_readText 193 = .ok (.iadd, 1) := by decide +kernel
theorem dX10_readText_194 : decode cX10_readText 194 = .ok (.putfield 60, 3) := by decide +kernel
theorem dX10_readText_197 : decode cX10_readText 197 = .ok (.iinc 1 1, 3) := by decide +kernel
theorem dX10_readText_200 : decode cX10_readText 200 = .ok (.goto (-173), 3) := by decide +kernel
theorem dX10_readText_203 : decode cX10_readText 203 = .ok (.aload_n 0, 1) := by decide +kernel
theorem dX10_readText_204 : decode cX10_readText 204 = .ok (.getfield 56, 3) := by decide +kernel
theorem dX10_readText_207 : decode cX10_readText 207 = .ok (.iconst 1, 1) := by decide +kernel
theorem dX10_readText_208 : decode cX10_readText 208 = .ok (.isub, 1) := by decide +kernel
theorem dX10_readText_209 : decode cX10_readText 209 = .ok (.bipush 10, 2) := by decide +kernel
theorem dX10_readText_211 : decode cX10_readText 211 = .ok (.irem, 1) := by decide +kernel
theorem dX10_readText_212 : decode cX10_readText 212 = .ok (.ifCond .ne 8, 3) := by decide +kernel
theorem dX10_readText_215 : decode cX10_readText 215 = .ok (.bipush (-9), 2) := by decide +kernel
theorem dX10_readText_217 : decode cX10_readText 217 = .ok (.goto 7, 3) := by decide +kernel
theorem dX10_readText_220 : decode cX10_readText 220 = .ok (.aload_n 0, 1) := by decide +kernel
theorem dX10_readText_221 : decode cX10_readText 221 = .ok (.getfield 56, 3) := by decide +kernel
theorem dX10_readText_224 : decode cX10_readText 224 = .ok (.ireturn, 1) := by decide +kernel
theorem dX10_fault_0 : decode cX10_fault 0 = .ok (.aload_n 0, 1) := by decide +kernel
theorem dX10_fault_1 : decode cX10_fault 1 = .ok (.invokevirtual 71, 3) := by decide +kernel
theorem dX10_fault_4 : decode cX10_fault 4 = .ok (.ireturn, 1) := by decide +kernel
theorem dX10_fan_0 : decode cX10_fan 0 = .ok (.aload_n 0, 1) := by decide +kernel
theorem dX10_fan_1 : decode cX10_fan 1 = .ok (.invokevirtual 71, 3) := by decide +kernel
theorem dX10_fan_4 : decode cX10_fan 4 = .ok (.bipush (-9), 2) := by decide +kernel
theorem dX10_fan_6 : decode cX10_fan 6 = .ok (.if_icmp .eq 6, 3) := by decide +kernel
theorem dX10_fan_9 : decode cX10_fan 9 = .ok (.bipush (-3), 2) := by decide +kernel
theorem dX10_fan_11 : decode cX10_fan 11 = .ok (.ireturn, 1) := by decide +kernel
theorem dX10_fan_12 : decode cX10_fan 12 = .ok (.aload_n 0, 1) := by decide +kernel
theorem dX10_fan_13 : decode cX10_fan 13 = .ok (.aload_n 0, 1) := by decide +kernel
theorem dX10_fan_14 : decode cX10_fan 14 = .ok (.getfield 60, 3) := by decide +kernel
theorem dX10_fan_17 : decode cX10_fan 17 = .ok (.putfield 75, 3) := by decide +kernel
theorem dX10_fan_20 : decode cX10_fan 20 = .ok (.iconst 0, 1) := by decide +kernel
theorem dX10_fan_21 : decode cX10_fan 21 = .ok (.istore_n 1, 1) := by decide +kernel
theorem dX10_fan_22 : decode cX10_fan 22 = .ok (.iload_n 1, 1) := by decide +kernel
theorem dX10_fan_23 : decode cX10_fan 23 = .ok (.bipush 6, 2) := by decide +kernel
theorem dX10_fan_25 : decode cX10_fan 25 = .ok (.if_icmp .ge 21, 3) := by decide +kernel
theorem dX10_fan_28 : decode cX10_fan 28 = .ok (.aload_n 0, 1) := by decide +kernel
theorem dX10_fan_29 : decode cX10_fan 29 = .ok (.getfield 7, 3) := by decide +kernel
theorem dX10_fan_32 : decode cX10_fan 32 = .ok (.iload_n 1, 1) := by decide +kernel
theorem dX10_fan_33 : decode cX10_fan 33 = .ok (.aload_n 0, 1) := by decide +kernel
theorem dX10_fan_34 : decode cX10_fan 34 = .ok (.getfield 19, 3) := by decide +kernel
theorem dX10_fan_37 : decode cX10_fan 37 = .ok (.iload_n 1, 1) := by decide +kernel
theorem dX10_fan_38 : decode cX10_fan 38 = .ok (.iaload, 1) := by decide +kernel
theorem dX10_fan_39 : decode cX10_fan 39 = .ok (.iastore, 1) := by decide +kernel
theorem dX10_fan_40 : decode cX10_fan 40 = .ok (.iinc 1 1, 3) := by decide +kernel
theorem dX10_fan_43 : decode cX10_fan 43 = .ok (.goto (-21), 3) := by decide +kernel
theorem dX10_fan_46 : decode cX10_fan 46 = .ok (.iconst 0, 1) := by decide +kernel
theorem dX10_fan_47 : decode cX10_fan 47 = .ok (.istore_n 1, 1) := by decide +kernel
theorem dX10_fan_48 : decode cX10_fan 48 = .ok (.iload_n 1, 1) := by decide +kernel
theorem dX10_fan_49 : decode cX10_fan 49 = .ok (.bipush 48, 2) := by decide +kernel
theorem dX10_fan_51 : decode cX10_fan 51 = .ok (.if_icmp .ge 21, 3) := by decide +kernel
theorem dX10_fan_54 : decode cX10_fan 54 = .ok (.aload_n 0, 1) := by decide +kernel
theorem dX10_fan_55 : decode cX10_fan 55 = .ok (.getfield 13, 3) := by decide +kernel
theorem dX10_fan_58 : decode cX10_fan 58 = .ok (.iload_n 1, 1) := by decide +kernel
theorem dX10_fan_59 : decode cX10_fan 59 = .ok (.aload_n 0, 1) := by decide +kernel
theorem dX10_fan_60 : decode cX10_fan 60 = .ok (.getfield 22, 3) := by decide +kernel
theorem dX10_fan_63 : decode cX10_fan 63 = .ok (.iload_n 1, 1) := by decide +kernel
theorem dX10_fan_64 : decode cX10_fan 64 = .ok (.iaload, 1) := by decide +kernel
theorem dX10_fan_65 : decode cX10_fan 65 = .ok (.iastore, 1) := by decide +kernel
theorem dX10_fan_66 : decode cX10_fan 66 = .ok (.iinc 1 1, 3) := by decide +kernel
theorem dX10_fan_69 : decode cX10_fan 69 = .ok (.goto (-21), 3) := by decide +kernel
theorem dX10_fan_72 : decode cX10_fan 72 = .ok (.iconst 0, 1) := by decide +kernel
theorem dX10_fan_73 : decode cX10_fan 73 = .ok (.istore_n 1, 1) := by decide +kernel
theorem dX10_fan_74 : decode cX10_fan 74 = .ok (.iload_n 1, 1) := by decide +kernel
theorem dX10_fan_75 : decode cX10_fan 75 = .ok (.iconst 5, 1) := by decide +kernel
theorem dX10_fan_76 : decode cX10_fan 76 = .ok (.if_icmp .ge 16, 3) := by decide +kernel
theorem dX10_fan_79 : decode cX10_fan 79 = .ok (.aload_n 0, 1) := by decide +kernel
theorem dX10_fan_80 : decode cX10_fan 80 = .ok (.getfield 16, 3) := by decide +kernel
theorem dX10_fan_83 : decode cX10_fan 83 = .ok (.iload_n 1, 1) := by decide +kernel
theorem dX10_fan_84 : decode cX10_fan 84 = .ok (.iconst 0, 1) := by decide +kernel
theorem dX10_fan_85 : decode cX10_fan 85 = .ok (.iastore, 1) := by decide +kernel
theorem dX10_fan_86 : decode cX10_fan 86 = .ok (.iinc 1 1, 3) := by decide +kernel
theorem dX10_fan_89 : decode cX10_fan 89 = .ok (.goto (-15), 3) := by decide +kernel
theorem dX10_fan_92 : decode cX10_fan 92 = .ok (.aload_n 0, 1) := by decide +kernel
theorem dX10_fan_93 : decode cX10_fan 93 = .ok (.iconst 0, 1) := by decide +kernel
theorem dX10_fan_94 : decode cX10_fan 94 = .ok (.putfield 78, 3) := by decide +kernel
theorem dX10_fan_97 : decode cX10_fan 97 = .ok (.aload_n 0, 1) := by decide +kernel
theorem dX10_fan_98 : decode cX10_fan 98 = .ok (.getfield 43, 3) := by decide +kernel
theorem dX10_fan_101 : decode cX10_fan 101 = .ok (.iconst 0, 1) := by decide +kernel
theorem dX10_fan_102 : decode cX10_fan 102 = .ok (.iconst 0, 1) := by decide +kernel
theorem dX10_fan_103 : decode cX10_fan 103 = .ok (.bastore, 1) := by decide +kernel
theorem dX10_fan_104 : decode cX10_fan 104 = .ok (.aload_n 0, 1) := by decide +kernel
theorem dX10_fan_105 : decode cX10_fan 105 = .ok (.getfield 43, 3) := by decide +kernel
theorem dX10_fan_108 : decode cX10_fan 108 = .ok (.iconst 1, 1) := by decide +kernel
theorem dX10_fan_109 : decode cX10_fan 109 = .ok (.iconst 0, 1) := by decide +kernel
theorem dX10_fan_110 : decode cX10_fan 110 = .ok (.bastore, 1) := by decide +kernel
theorem dX10_fan_111 : decode cX10_fan 111 = .ok (.aload_n 0, 1) := by decide +kernel
theorem dX10_fan_112 : decode cX10_fan 112 = .ok (.getfield 75, 3) := by decide +kernel
theorem dX10_fan_115 : decode cX10_fan 115 = .ok (.ireturn, 1) := by decide +kernel
theorem dX10_isBlade_0 : decode cX10_isBlade 0 = .ok (.iload_n 1, 1) := by decide +kernel
theorem dX10_isBlade_1 : decode cX10_isBlade 1 = .ok (.i2l, 1) := by decide +kernel
theorem dX10_isBlade_2 : decode cX10_isBlade 2 = .ok (.lconst 0, 1) := by decide +kernel
theorem dX10_isBlade_3 : decode cX10_isBlade 3 = .ok (.aload_n 0, 1) := by decide +kernel
theorem dX10_isBlade_4 : decode cX10_isBlade 4 = .ok (.getfield 75, 3) := by decide +kernel
theorem dX10_isBlade_7 : decode cX10_isBlade 7 = .ok (.iconst 1, 1) := by decide +kernel
theorem dX10_isBlade_8 : decode cX10_isBlade 8 = .ok (.isub, 1) := by decide +kernel
theorem dX10_isBlade_9 : decode cX10_isBlade 9 = .ok (.i2l, 1) := by decide +kernel
theorem dX10_isBlade_10 : decode cX10_isBlade 10 = .ok (.invokestatic 52, 3) := by decide +kernel
theorem dX10_isBlade_13 : decode cX10_isBlade 13 = .ok (.ireturn, 1) := by decide +kernel
theorem dX10_gapMany_0 : decode cX10_gapMany 0 = .ok (.aload_n 0, 1) := by decide +kernel
theorem dX10_gapMany_1 : decode cX10_gapMany 1 = .ok (.getfield 75, 3) := by decide +kernel
theorem dX10_gapMany_4 : decode cX10_gapMany 4 = .ok (.ifCond .ne 7, 3) := by decide +kernel
theorem dX10_gapMany_7 : decode cX10_gapMany 7 = .ok (.iconst 0, 1) := by decide +kernel
theorem dX10_gapMany_8 : decode cX10_gapMany 8 = .ok (.goto 9, 3) := by decide +kernel
theorem dX10_gapMany_11 : decode cX10_gapMany 11 = .ok (.aload_n 0, 1) := by decide +kernel
theorem dX10_gapMany_12 : decode cX10_gapMany 12 = .ok (.getfield 75, 3) := by decide +kernel
theorem dX10_gapMany_15 : decode cX10_gapMany 15 = .ok (.iconst 1, 1) := by decide +kernel
theorem dX10_gapMany_16 : decode cX10_gapMany 16 = .ok (.isub, 1) := by decide +kernel
theorem dX10_gapMany_17 : decode cX10_gapMany 17 = .ok (.ireturn, 1) := by decide +kernel
theorem dX10_isGap_0 : decode cX10_isGap 0 = .ok (.iload_n 1, 1) := by decide +kernel
theorem dX10_isGap_1 : decode cX10_isGap 1 = .ok (.i2l, 1) := by decide +kernel
theorem dX10_isGap_2 : decode cX10_isGap 2 = .ok (.lconst 0, 1) := by decide +kernel
theorem dX10_isGap_3 : decode cX10_isGap 3 = .ok (.aload_n 0, 1) := by decide +kernel
theorem dX10_isGap_4 : decode cX10_isGap 4 = .ok (.invokevirtual 81, 3) := by decide +kernel
theorem dX10_isGap_7 : decode cX10_isGap 7 = .ok (.iconst 1, 1) := by decide +kernel
theorem dX10_isGap_8 : decode cX10_isGap 8 = .ok (.isub, 1) := by decide +kernel
theorem dX10_isGap_9 : decode cX10_isGap 9 = .ok (.i2l, 1) := by decide +kernel
theorem dX10_isGap_10 : decode cX10_isGap 10 = .ok (.invokestatic 52, 3) := by decide +kernel
theorem dX10_isGap_13 : decode cX10_isGap 13 = .ok (.ireturn, 1) := by decide +kernel
theorem dX10_isFree_0 : decode cX10_isFree 0 = .ok (.aload_n 0, 1) := by decide +kernel
theorem dX10_isFree_1 : decode cX10_isFree 1 = .ok (.getfield 7, 3) := by decide +kernel
theorem dX10_isFree_4 : decode cX10_isFree 4 = .ok (.iload_n 1, 1) := by decide +kernel
theorem dX10_isFree_5 : decode cX10_isFree 5 = .ok (.iaload, 1) := by decide +kernel
theorem dX10_isFree_6 : decode cX10_isFree 6 = .ok (.iconst 3, 1) := by decide +kernel
theorem dX10_isFree_7 : decode cX10_isFree 7 = .ok (.if_icmp .eq 7, 3) := by decide +kernel
theorem dX10_isFree_10 : decode cX10_isFree 10 = .ok (.iconst 1, 1) := by decide +kernel
theorem dX10_isFree_11 : decode cX10_isFree 11 = .ok (.goto 4, 3) := by decide +kernel
theorem dX10_isFree_14 : decode cX10_isFree 14 = .ok (.iconst 0, 1) := by decide +kernel
theorem dX10_isFree_15 : decode cX10_isFree 15 = .ok (.ireturn, 1) := by decide +kernel
theorem dX10_hundredTo_0 : decode cX10_hundredTo 0 = .ok (.lconst 1, 1) := by decide +kernel
theorem dX10_hundredTo_1 : decode cX10_hundredTo 1 = .ok (.lstore_n 1, 1) := by decide +kernel
theorem dX10_hundredTo_2 : decode cX10_hundredTo 2 = .ok (.iconst 0, 1) := by decide +kernel
theorem dX10_hundredTo_3 : decode cX10_hundredTo 3 = .ok (.istore_n 3, 1) := by decide +kernel
theorem dX10_hundredTo_4 : decode cX10_hundredTo 4 = .ok (.iload_n 3, 1) := by decide +kernel
theorem dX10_hundredTo_5 : decode cX10_hundredTo 5 = .ok (.iload_n 0, 1) := by decide +kernel
theorem dX10_hundredTo_6 : decode cX10_hundredTo 6 = .ok (.if_icmp .ge 15, 3) := by decide +kernel
theorem dX10_hundredTo_9 : decode cX10_hundredTo 9 = .ok (.lload_n 1, 1) := by decide +kernel
theorem dX10_hundredTo_10 : decode cX10_hundredTo 10 = .ok (.ldc2_w 84, 3) := by decide +kernel
theorem dX10_hundredTo_13 : decode cX10_hundredTo 13 = .ok (.lmul, 1) := by decide +kernel
theorem dX10_hundredTo_14 : decode cX10_hundredTo 14 = .ok (.lstore_n 1, 1) := by decide +kernel
theorem dX10_hundredTo_15 : decode cX10_hundredTo 15 = .ok (.iinc 3 1, 3) := by decide +kernel
theorem dX10_hundredTo_18 : decode cX10_hundredTo 18 = .ok (.goto (-14), 3) := by decide +kernel
theorem dX10_hundredTo_21 : decode cX10_hundredTo 21 = .ok (.lload_n 1, 1) := by decide +kernel
theorem dX10_hundredTo_22 : decode cX10_hundredTo 22 = .ok (.lreturn, 1) := by decide +kernel
theorem dX10_word_0 : decode cX10_word 0 = .ok (.iload_n 1, 1) := by decide +kernel
theorem dX10_word_1 : decode cX10_word 1 = .ok (.i2l, 1) := by decide +kernel
theorem dX10_word_2 : decode cX10_word 2 = .ok (.lconst 0, 1) := by decide +kernel
theorem dX10_word_3 : decode cX10_word 3 = .ok (.ldc2_w 86, 3) := by decide +kernel
theorem dX10_word_6 : decode cX10_word 6 = .ok (.invokestatic 52, 3) := by decide +kernel
theorem dX10_word_9 : decode cX10_word 9 = .ok (.ifCond .eq 17, 3) := by decide +kernel
theorem dX10_word_12 : decode cX10_word 12 = .ok (.lload_n 2, 1) := by decide +kernel
theorem dX10_word_13 : decode cX10_word 13 = .ok (.lconst 0, 1) := by decide +kernel
theorem dX10_word_14 : decode cX10_word 14 = .ok (.iload_n 1, 1) := by decide +kernel
theorem dX10_word_15 : decode cX10_word 15 = .ok (.invokestatic 88, 3) := by decide +kernel
theorem dX10_word_18 : decode cX10_word 18 = .ok (.lconst 1, 1) := by decide +kernel
theorem dX10_word_19 : decode cX10_word 19 = .ok (.lsub, 1) := by decide +kernel
theorem dX10_word_20 : decode cX10_word 20 = .ok (.invokestatic 52, 3) := by decide +kernel
theorem dX10_word_23 : decode cX10_word 23 = .ok (.ifCond .ne 6, 3) := by decide +kernel
theorem dX10_word_26 : decode cX10_word 26 = .ok (.bipush (-2), 2) := by decide +kernel
theorem dX10_word_28 : decode cX10_word 28 = .ok (.ireturn, 1) := by decide +kernel
theorem dX10_word_29 : decode cX10_word 29 = .ok (.iconst 0, 1) := by decide +kernel
theorem dX10_word_30 : decode cX10_word 30 = .ok (.istore 4, 2) := by decide +kernel
theorem dX10_word_32 : decode cX10_word 32 = .ok (.iload 4, 2) := by decide +kernel
theorem dX10_word_34 : decode cX10_word 34 = .ok (.iload_n 1, 1) := by decide +kernel
theorem dX10_word_35 : decode cX10_word 35 = .ok (.if_icmp .ge 30, 3) := by decide +kernel
theorem dX10_word_38 : decode cX10_word 38 = .ok (.lload_n 2, 1) := by decide +kernel
theorem dX10_word_39 : decode cX10_word 39 = .ok (.iload 4, 2) := by decide +kernel
theorem dX10_word_41 : decode cX10_word 41 = .ok (.invokestatic 88, 3) := by decide +kernel
theorem dX10_word_44 : decode cX10_word 44 = .ok (.ldiv, 1) := by decide +kernel
theorem dX10_word_45 : decode cX10_word 45 = .ok (.ldc2_w 84, 3) := by decide +kernel
theorem dX10_word_48 : decode cX10_word 48 = .ok (.lrem, 1) := by decide +kernel
theorem dX10_word_49 : decode cX10_word 49 = .ok (.ldc2_w 92, 3) := by decide +kernel
theorem dX10_word_52 : decode cX10_word 52 = .ok (.lcmp, 1) := by decide +kernel
theorem dX10_word_53 : decode cX10_word 53 = .ok (.ifCond .le 6, 3) := by decide +kernel
theorem dX10_word_56 : decode cX10_word 56 = .ok (.bipush (-2), 2) := by decide +kernel
theorem dX10_word_58 : decode cX10_word 58 = .ok (.ireturn, 1) := by decide +kernel
theorem dX10_word_59 : decode cX10_word 59 = .ok (.iinc 4 1, 3) := by decide +kernel
theorem dX10_word_62 : decode cX10_word 62 = .ok (.goto (-30), 3) := by decide +kernel
theorem dX10_word_65 : decode cX10_word 65 = .ok (.aload_n 0, 1) := by decide +kernel
theorem dX10_word_66 : decode cX10_word 66 = .ok (.getfield 94, 3) := by decide +kernel
theorem dX10_word_69 : decode cX10_word 69 = .ok (.istore 4, 2) := by decide +kernel
theorem dX10_word_71 : decode cX10_word 71 = .ok (.aload_n 0, 1) := by decide +kernel
theorem dX10_word_72 : decode cX10_word 72 = .ok (.iload_n 1, 1) := by decide +kernel
theorem dX10_word_73 : decode cX10_word 73 = .ok (.putfield 94, 3) := by decide +kernel
theorem dX10_word_76 : decode cX10_word 76 = .ok (.iconst 0, 1) := by decide +kernel
theorem dX10_word_77 : decode cX10_word 77 = .ok (.istore 5, 2) := by decide +kernel
theorem dX10_word_79 : decode cX10_word 79 = .ok (.iload 5, 2) := by decide +kernel
theorem dX10_word_81 : decode cX10_word 81 = .ok (.iload_n 1, 1) := by decide +kernel
theorem dX10_word_82 : decode cX10_word 82 = .ok (.if_icmp .ge 32, 3) := by decide +kernel
theorem dX10_word_85 : decode cX10_word 85 = .ok (.aload_n 0, 1) := by decide +kernel
theorem dX10_word_86 : decode cX10_word 86 = .ok (.getfield 28, 3) := by decide +kernel
theorem dX10_word_89 : decode cX10_word 89 = .ok (.iload 5, 2) := by decide +kernel
theorem dX10_word_91 : decode cX10_word 91 = .ok (.lload_n 2, 1) := by decide +kernel
theorem dX10_word_92 : decode cX10_word 92 = .ok (.iload_n 1, 1) := by decide +kernel
theorem dX10_word_93 : decode cX10_word 93 = .ok (.iconst 1, 1) := by decide +kernel
theorem dX10_word_94 : decode cX10_word 94 = .ok (.isub, 1) := by decide +kernel
theorem dX10_word_95 : decode cX10_word 95 = .ok (.iload 5, 2) := by decide +kernel
theorem dX10_word_97 : decode cX10_word 97 = .ok (.isub, 1) := by decide +kernel
theorem dX10_word_98 : decode cX10_word 98 = .ok (.invokestatic 88, 3) := by decide +kernel
theorem dX10_word_101 : decode cX10_word 101 = .ok (.ldiv, 1) := by decide +kernel
theorem dX10_word_102 : decode cX10_word 102 = .ok (.ldc2_w 84, 3) := by decide +kernel
theorem dX10_word_105 : decode cX10_word 105 = .ok (.lrem, 1) := by decide +kernel
theorem dX10_word_106 : decode cX10_word 106 = .ok (.l2i, 1) := by decide +kernel
theorem dX10_word_107 : decode cX10_word 107 = .ok (.iastore, 1) := by decide +kernel
theorem dX10_word_108 : decode cX10_word 108 = .ok (.iinc 5 1, 3) := by decide +kernel
theorem dX10_word_111 : decode cX10_word 111 = .ok (.goto (-32), 3) := by decide +kernel
theorem dX10_word_114 : decode cX10_word 114 = .ok (.iload 4, 2) := by decide +kernel
theorem dX10_word_116 : decode cX10_word 116 = .ok (.ireturn, 1) := by decide +kernel
theorem dX10_beginOf_0 : decode cX10_beginOf 0 = .ok (.iconst 0, 1) := by decide +kernel
theorem dX10_beginOf_1 : decode cX10_beginOf 1 = .ok (.istore_n 3, 1) := by decide +kernel
theorem dX10_beginOf_2 : decode cX10_beginOf 2 = .ok (.iconst 0, 1) := by decide +kernel
theorem dX10_beginOf_3 : decode cX10_beginOf 3 = .ok (.istore 4, 2) := by decide +kernel
theorem dX10_beginOf_5 : decode cX10_beginOf 5 = .ok (.iload 4, 2) := by decide +kernel
theorem dX10_beginOf_7 : decode cX10_beginOf 7 = .ok (.iload_n 2, 1) := by decide +kernel
theorem dX10_beginOf_8 : decode cX10_beginOf 8 = .ok (.if_icmp .ge 23, 3) := by decide +kernel
theorem dX10_beginOf_11 : decode cX10_beginOf 11 = .ok (.iload_n 3, 1) := by decide +kernel
theorem dX10_beginOf_12 : decode cX10_beginOf 12 = .ok (.aload_n 0, 1) := by decide +kernel
theorem dX10_beginOf_13 : decode cX10_beginOf 13 = .ok (.getfield 16, 3) := by decide +kernel
theorem dX10_beginOf_16 : decode cX10_beginOf 16 = .ok (.iconst 5, 1) := by decide +kernel
theorem dX10_beginOf_17 : decode cX10_beginOf 17 = .ok (.iload_n 1, 1) := by decide +kernel
theorem dX10_beginOf_18 : decode cX10_beginOf 18 = .ok (.imul, 1) := by decide +kernel
theorem dX10_beginOf_19 : decode cX10_beginOf 19 = .ok (.iload 4, 2) := by decide +kernel
theorem dX10_beginOf_21 : decode cX10_beginOf 21 = .ok (.iadd, 1) := by decide +kernel
theorem dX10_beginOf_22 : decode cX10_beginOf 22 = .ok (.iaload, 1) := by decide +kernel
theorem dX10_beginOf_23 : decode cX10_beginOf 23 = .ok (.iadd, 1) := by decide +kernel
theorem dX10_beginOf_24 : decode cX10_beginOf 24 = .ok (.istore_n 3, 1) := by decide +kernel
theorem dX10_beginOf_25 : decode cX10_beginOf 25 = .ok (.iinc 4 1, 3) := by decide +kernel
theorem dX10_beginOf_28 : decode cX10_beginOf 28 = .ok (.goto (-23), 3) := by decide +kernel
theorem dX10_beginOf_31 : decode cX10_beginOf 31 = .ok (.iload_n 3, 1) := by decide +kernel
theorem dX10_beginOf_32 : decode cX10_beginOf 32 = .ok (.ireturn, 1) := by decide +kernel
theorem dX10_wideOf_0 : decode cX10_wideOf 0 = .ok (.aload_n 0, 1) := by decide +kernel
theorem dX10_wideOf_1 : decode cX10_wideOf 1 = .ok (.getfield 7, 3) := by decide +kernel
theorem dX10_wideOf_4 : decode cX10_wideOf 4 = .ok (.iload_n 1, 1) := by decide +kernel
theorem dX10_wideOf_5 : decode cX10_wideOf 5 = .ok (.iaload, 1) := by decide +kernel
theorem dX10_wideOf_6 : decode cX10_wideOf 6 = .ok (.iconst 2, 1) := by decide +kernel
theorem dX10_wideOf_7 : decode cX10_wideOf 7 = .ok (.if_icmp .ne 7, 3) := by decide +kernel
theorem dX10_wideOf_10 : decode cX10_wideOf 10 = .ok (.iconst 2, 1) := by decide +kernel
theorem dX10_wideOf_11 : decode cX10_wideOf 11 = .ok (.goto 4, 3) := by decide +kernel
theorem dX10_wideOf_14 : decode cX10_wideOf 14 = .ok (.iconst 4, 1) := by decide +kernel
theorem dX10_wideOf_15 : decode cX10_wideOf 15 = .ok (.ireturn, 1) := by decide +kernel
theorem dX10_cellAt_0 : decode cX10_cellAt 0 = .ok (.iload_n 3, 1) := by decide +kernel
theorem dX10_cellAt_1 : decode cX10_cellAt 1 = .ok (.aload_n 0, 1) := by decide +kernel
theorem dX10_cellAt_2 : decode cX10_cellAt 2 = .ok (.iload_n 1, 1) := by decide +kernel
theorem dX10_cellAt_3 : decode cX10_cellAt 3 = .ok (.iload_n 2, 1) := by decide +kernel
theorem dX10_cellAt_4 : decode cX10_cellAt 4 = .ok (.invokevirtual 97, 3) := by decide +kernel
theorem dX10_cellAt_7 : decode cX10_cellAt 7 = .ok (.isub, 1) := by decide +kernel
theorem dX10_cellAt_8 : decode cX10_cellAt 8 = .ok (.istore 4, 2) := by decide +kernel
theorem dX10_cellAt_10 : decode cX10_cellAt 10 = .ok (.iload 4, 2) := by decide +kernel
theorem dX10_cellAt_12 : decode cX10_cellAt 12 = .ok (.i2l, 1) := by decide +kernel
theorem dX10_cellAt_13 : decode cX10_cellAt 13 = .ok (.lconst 0, 1) := by decide +kernel
theorem dX10_cellAt_14 : decode cX10_cellAt 14 = .ok (.aload_n 0, 1) := by decide +kernel
theorem dX10_cellAt_15 : decode cX10_cellAt 15 = .ok (.iload_n 2, 1) := by decide +kernel
theorem dX10_cellAt_16 : decode cX10_cellAt 16 = .ok (.invokevirtual 101, 3) := by decide +kernel
theorem dX10_cellAt_19 : decode cX10_cellAt 19 = .ok (.iconst 1, 1) := by decide +kernel
theorem dX10_cellAt_20 : decode cX10_cellAt 20 = .ok (.isub, 1) := by decide +kernel
theorem dX10_cellAt_21 : decode cX10_cellAt 21 = .ok (.i2l, 1) := by decide +kernel
theorem dX10_cellAt_22 : decode cX10_cellAt 22 = .ok (.invokestatic 52, 3) := by decide +kernel
theorem dX10_cellAt_25 : decode cX10_cellAt 25 = .ok (.ifCond .eq 21, 3) := by decide +kernel
theorem dX10_cellAt_28 : decode cX10_cellAt 28 = .ok (.aload_n 0, 1) := by decide +kernel
theorem dX10_cellAt_29 : decode cX10_cellAt 29 = .ok (.getfield 7, 3) := by decide +kernel
theorem dX10_cellAt_32 : decode cX10_cellAt 32 = .ok (.iload_n 2, 1) := by decide +kernel
theorem dX10_cellAt_33 : decode cX10_cellAt 33 = .ok (.iaload, 1) := by decide +kernel
theorem dX10_cellAt_34 : decode cX10_cellAt 34 = .ok (.iconst 1, 1) := by decide +kernel
theorem dX10_cellAt_35 : decode cX10_cellAt 35 = .ok (.if_icmp .ne 14, 3) := by decide +kernel
theorem dX10_cellAt_38 : decode cX10_cellAt 38 = .ok (.iload 4, 2) := by decide +kernel
theorem dX10_cellAt_40 : decode cX10_cellAt 40 = .ok (.iconst 2, 1) := by decide +kernel
theorem dX10_cellAt_41 : decode cX10_cellAt 41 = .ok (.irem, 1) := by decide +kernel
theorem dX10_cellAt_42 : decode cX10_cellAt 42 = .ok (.iconst 1, 1) := by decide +kernel
theorem dX10_cellAt_43 : decode cX10_cellAt 43 = .ok (.if_icmp .ne 6, 3) := by decide +kernel
theorem dX10_cellAt_46 : decode cX10_cellAt 46 = .ok (.bipush (-9), 2) := by decide +kernel
theorem dX10_cellAt_48 : decode cX10_cellAt 48 = .ok (.ireturn, 1) := by decide +kernel
theorem dX10_cellAt_49 : decode cX10_cellAt 49 = .ok (.iload 4, 2) := by decide +kernel
theorem dX10_cellAt_51 : decode cX10_cellAt 51 = .ok (.ireturn, 1) := by decide +kernel
theorem dX10_bladeAt_0 : decode cX10_bladeAt 0 = .ok (.bipush (-9), 2) := by decide +kernel
theorem dX10_bladeAt_2 : decode cX10_bladeAt 2 = .ok (.istore 5, 2) := by decide +kernel
theorem dX10_bladeAt_4 : decode cX10_bladeAt 4 = .ok (.iconst 0, 1) := by decide +kernel
theorem dX10_bladeAt_5 : decode cX10_bladeAt 5 = .ok (.istore 6, 2) := by decide +kernel
theorem dX10_bladeAt_7 : decode cX10_bladeAt 7 = .ok (.iload 6, 2) := by decide +kernel
theorem dX10_bladeAt_9 : decode cX10_bladeAt 9 = .ok (.aload_n 0, 1) := by decide +kernel
theorem dX10_bladeAt_10 : decode cX10_bladeAt 10 = .ok (.getfield 75, 3) := by decide +kernel
theorem dX10_bladeAt_13 : decode cX10_bladeAt 13 = .ok (.if_icmp .ge 61, 3) := by decide +kernel
theorem dX10_bladeAt_16 : decode cX10_bladeAt 16 = .ok (.iload 4, 2) := by decide +kernel
theorem dX10_bladeAt_18 : decode cX10_bladeAt 18 = .ok (.ifCond .ne 8, 3) := by decide +kernel
theorem dX10_bladeAt_21 : decode cX10_bladeAt 21 = .ok (.iload 6, 2) := by decide +kernel
theorem dX10_bladeAt_23 : decode cX10_bladeAt 23 = .ok (.goto 12, 3) := by decide +kernel
theorem dX10_bladeAt_26 : decode cX10_bladeAt 26 = .ok (.aload_n 0, 1) := by decide +kernel
theorem dX10_bladeAt_27 : decode cX10_bladeAt 27 = .ok (.getfield 75, 3) := by decide +kernel
theorem dX10_bladeAt_30 : decode cX10_bladeAt 30 = .ok (.iconst 1, 1) := by decide +kernel
theorem dX10_bladeAt_31 : decode cX10_bladeAt 31 = .ok (.isub, 1) := by decide +kernel
theorem dX10_bladeAt_32 : decode cX10_bladeAt 32 = .ok (.iload 6, 2) := by decide +kernel
theorem dX10_bladeAt_34 : decode cX10_bladeAt 34 = .ok (.isub, 1) := by decide +kernel
theorem dX10_bladeAt_35 : decode cX10_bladeAt 35 = .ok (.istore 7, 2) := by decide +kernel
theorem dX10_bladeAt_37 : decode cX10_bladeAt 37 = .ok (.iload_n 2, 1) := by decide +kernel
theorem dX10_bladeAt_38 : decode cX10_bladeAt 38 = .ok (.iload 7, 2) := by decide +kernel
theorem dX10_bladeAt_40 : decode cX10_bladeAt 40 = .ok (.invokestatic 105, 3) := by decide +kernel
theorem dX10_bladeAt_43 : decode cX10_bladeAt 43 = .ok (.ifCond .eq 21, 3) := by decide +kernel
theorem dX10_bladeAt_46 : decode cX10_bladeAt 46 = .ok (.aload_n 0, 1) := by decide +kernel
theorem dX10_bladeAt_47 : decode cX10_bladeAt 47 = .ok (.iload_n 1, 1) := by decide +kernel
theorem dX10_bladeAt_48 : decode cX10_bladeAt 48 = .ok (.iload 7, 2) := by decide +kernel
theorem dX10_bladeAt_50 : decode cX10_bladeAt 50 = .ok (.iload_n 3, 1) := by decide +kernel
theorem dX10_bladeAt_51 : decode cX10_bladeAt 51 = .ok (.invokevirtual 109, 3) := by decide +kernel
theorem dX10_bladeAt_54 : decode cX10_bladeAt 54 = .ok (.bipush (-9), 2) := by decide +kernel
theorem dX10_bladeAt_56 : decode cX10_bladeAt 56 = .ok (.if_icmp .eq 8, 3) := by decide +kernel
theorem dX10_bladeAt_59 : decode cX10_bladeAt 59 = .ok (.iload 7, 2) := by decide +kernel
theorem dX10_bladeAt_61 : decode cX10_bladeAt 61 = .ok (.goto 5, 3) := by decide +kernel
theorem dX10_bladeAt_64 : decode cX10_bladeAt 64 = .ok (.iload 5, 2) := by decide +kernel
theorem dX10_bladeAt_66 : decode cX10_bladeAt 66 = .ok (.istore 5, 2) := by decide +kernel
theorem dX10_bladeAt_68 : decode cX10_bladeAt 68 = .ok (.iinc 6 1, 3) := by decide +kernel
theorem dX10_bladeAt_71 : decode cX10_bladeAt 71 = .ok (.goto (-64), 3) := by decide +kernel
theorem dX10_bladeAt_74 : decode cX10_bladeAt 74 = .ok (.iload 5, 2) := by decide +kernel
theorem dX10_bladeAt_76 : decode cX10_bladeAt 76 = .ok (.ireturn, 1) := by decide +kernel
theorem dX10_letterAt_0 : decode cX10_letterAt 0 = .ok (.iload_n 3, 1) := by decide +kernel
theorem dX10_letterAt_1 : decode cX10_letterAt 1 = .ok (.i2l, 1) := by decide +kernel
theorem dX10_letterAt_2 : decode cX10_letterAt 2 = .ok (.lconst 0, 1) := by decide +kernel
theorem dX10_letterAt_3 : decode cX10_letterAt 3 = .ok (.ldc2_w 113, 3) := by decide +kernel
theorem dX10_letterAt_6 : decode cX10_letterAt 6 = .ok (.invokestatic 52, 3) := by decide +kernel
theorem dX10_letterAt_9 : decode cX10_letterAt 9 = .ok (.ifCond .eq 15, 3) := by decide +kernel
theorem dX10_letterAt_12 : decode cX10_letterAt 12 = .ok (.aload_n 0, 1) := by decide +kernel
theorem dX10_letterAt_13 : decode cX10_letterAt 13 = .ok (.iload_n 1, 1) := by decide +kernel
theorem dX10_letterAt_14 : decode cX10_letterAt 14 = .ok (.iload_n 2, 1) := by decide +kernel
theorem dX10_letterAt_15 : decode cX10_letterAt 15 = .ok (.iload_n 3, 1) := by decide +kernel
theorem dX10_letterAt_16 : decode cX10_letterAt 16 = .ok (.iload 4, 2) := by decide +kernel
theorem dX10_letterAt_18 : decode cX10_letterAt 18 = .ok (.invokevirtual 115, 3) := by decide +kernel
theorem dX10_letterAt_21 : decode cX10_letterAt 21 = .ok (.goto 5, 3) := by decide +kernel
theorem dX10_letterAt_24 : decode cX10_letterAt 24 = .ok (.bipush (-9), 2) := by decide +kernel
theorem dX10_letterAt_26 : decode cX10_letterAt 26 = .ok (.istore 5, 2) := by decide +kernel
theorem dX10_letterAt_28 : decode cX10_letterAt 28 = .ok (.iload 5, 2) := by decide +kernel
theorem dX10_letterAt_30 : decode cX10_letterAt 30 = .ok (.bipush (-9), 2) := by decide +kernel
theorem dX10_letterAt_32 : decode cX10_letterAt 32 = .ok (.if_icmp .ne 8, 3) := by decide +kernel
theorem dX10_letterAt_35 : decode cX10_letterAt 35 = .ok (.bipush (-9), 2) := by decide +kernel
theorem dX10_letterAt_37 : decode cX10_letterAt 37 = .ok (.goto 27, 3) := by decide +kernel
theorem dX10_letterAt_40 : decode cX10_letterAt 40 = .ok (.aload_n 0, 1) := by decide +kernel
theorem dX10_letterAt_41 : decode cX10_letterAt 41 = .ok (.getfield 13, 3) := by decide +kernel
theorem dX10_letterAt_44 : decode cX10_letterAt 44 = .ok (.bipush 8, 2) := by decide +kernel
theorem dX10_letterAt_46 : decode cX10_letterAt 46 = .ok (.iload 5, 2) := by decide +kernel
theorem dX10_letterAt_48 : decode cX10_letterAt 48 = .ok (.imul, 1) := by decide +kernel
theorem dX10_letterAt_49 : decode cX10_letterAt 49 = .ok (.iconst 4, 1) := by decide +kernel
theorem dX10_letterAt_50 : decode cX10_letterAt 50 = .ok (.iload 4, 2) := by decide +kernel
theorem dX10_letterAt_52 : decode cX10_letterAt 52 = .ok (.imul, 1) := by decide +kernel
theorem dX10_letterAt_53 : decode cX10_letterAt 53 = .ok (.iadd, 1) := by decide +kernel
theorem dX10_letterAt_54 : decode cX10_letterAt 54 = .ok (.aload_n 0, 1) := by decide +kernel
theorem dX10_letterAt_55 : decode cX10_letterAt 55 = .ok (.iload_n 1, 1) := by decide +kernel
theorem dX10_letterAt_56 : decode cX10_letterAt 56 = .ok (.iload 5, 2) := by decide +kernel
theorem dX10_letterAt_58 : decode cX10_letterAt 58 = .ok (.iload_n 3, 1) := by decide +kernel
theorem dX10_letterAt_59 : decode cX10_letterAt 59 = .ok (.invokevirtual 109, 3) := by decide +kernel
theorem dX10_letterAt_62 : decode cX10_letterAt 62 = .ok (.iadd, 1) := by decide +kernel
theorem dX10_letterAt_63 : decode cX10_letterAt 63 = .ok (.iaload, 1) := by decide +kernel
theorem dX10_letterAt_64 : decode cX10_letterAt 64 = .ok (.ireturn, 1) := by decide +kernel
theorem dX10_cellsSeen_0 : decode cX10_cellsSeen 0 = .ok (.iconst 0, 1) := by decide +kernel
theorem dX10_cellsSeen_1 : decode cX10_cellsSeen 1 = .ok (.istore 4, 2) := by decide +kernel
theorem dX10_cellsSeen_3 : decode cX10_cellsSeen 3 = .ok (.iconst 0, 1) := by decide +kernel
theorem dX10_cellsSeen_4 : decode cX10_cellsSeen 4 = .ok (.istore 5, 2) := by decide +kernel
theorem dX10_cellsSeen_6 : decode cX10_cellsSeen 6 = .ok (.iload 5, 2) := by decide +kernel
theorem dX10_cellsSeen_8 : decode cX10_cellsSeen 8 = .ok (.bipush 28, 2) := by decide +kernel
theorem dX10_cellsSeen_10 : decode cX10_cellsSeen 10 = .ok (.if_icmp .ge 33, 3) := by decide +kernel
theorem dX10_cellsSeen_13 : decode cX10_cellsSeen 13 = .ok (.iload 4, 2) := by decide +kernel
theorem dX10_cellsSeen_15 : decode cX10_cellsSeen 15 = .ok (.aload_n 0, 1) := by decide +kernel
theorem dX10_cellsSeen_16 : decode cX10_cellsSeen 16 = .ok (.iload_n 1, 1) := by decide +kernel
theorem dX10_cellsSeen_17 : decode cX10_cellsSeen 17 = .ok (.bipush 63, 2) := by decide +kernel
theorem dX10_cellsSeen_19 : decode cX10_cellsSeen 19 = .ok (.iload 5, 2) := by decide +kernel
theorem dX10_cellsSeen_21 : decode cX10_cellsSeen 21 = .ok (.iload_n 3, 1) := by decide +kernel
theorem dX10_cellsSeen_22 : decode cX10_cellsSeen 22 = .ok (.invokevirtual 115, 3) := by decide +kernel
theorem dX10_cellsSeen_25 : decode cX10_cellsSeen 25 = .ok (.iload_n 2, 1) := by decide +kernel
theorem dX10_cellsSeen_26 : decode cX10_cellsSeen 26 = .ok (.if_icmp .ne 7, 3) := by decide +kernel
theorem dX10_cellsSeen_29 : decode cX10_cellsSeen 29 = .ok (.iconst 1, 1) := by decide +kernel
theorem dX10_cellsSeen_30 : decode cX10_cellsSeen 30 = .ok (.goto 4, 3) := by decide +kernel
theorem dX10_cellsSeen_33 : decode cX10_cellsSeen 33 = .ok (.iconst 0, 1) := by decide +kernel
theorem dX10_cellsSeen_34 : decode cX10_cellsSeen 34 = .ok (.iadd, 1) := by decide +kernel
theorem dX10_cellsSeen_35 : decode cX10_cellsSeen 35 = .ok (.istore 4, 2) := by decide +kernel
theorem dX10_cellsSeen_37 : decode cX10_cellsSeen 37 = .ok (.iinc 5 1, 3) := by decide +kernel
theorem dX10_cellsSeen_40 : decode cX10_cellsSeen 40 = .ok (.goto (-34), 3) := by decide +kernel
theorem dX10_cellsSeen_43 : decode cX10_cellsSeen 43 = .ok (.iload 4, 2) := by decide +kernel
theorem dX10_cellsSeen_45 : decode cX10_cellsSeen 45 = .ok (.ireturn, 1) := by decide +kernel
theorem dX10_wide_0 : decode cX10_wide 0 = .ok (.iconst 0, 1) := by decide +kernel
theorem dX10_wide_1 : decode cX10_wide 1 = .ok (.istore_n 2, 1) := by decide +kernel
theorem dX10_wide_2 : decode cX10_wide 2 = .ok (.iconst 0, 1) := by decide +kernel
theorem dX10_wide_3 : decode cX10_wide 3 = .ok (.istore_n 3, 1) := by decide +kernel
theorem dX10_wide_4 : decode cX10_wide 4 = .ok (.iload_n 3, 1) := by decide +kernel
theorem dX10_wide_5 : decode cX10_wide 5 = .ok (.bipush 28, 2) := by decide +kernel
theorem dX10_wide_7 : decode cX10_wide 7 = .ok (.if_icmp .ge 31, 3) := by decide +kernel
theorem dX10_wide_10 : decode cX10_wide 10 = .ok (.aload_n 0, 1) := by decide +kernel
theorem dX10_wide_11 : decode cX10_wide 11 = .ok (.iload_n 1, 1) := by decide +kernel
theorem dX10_wide_12 : decode cX10_wide 12 = .ok (.bipush 63, 2) := by decide +kernel
theorem dX10_wide_14 : decode cX10_wide 14 = .ok (.iload_n 3, 1) := by decide +kernel
theorem dX10_wide_15 : decode cX10_wide 15 = .ok (.iconst 0, 1) := by decide +kernel
theorem dX10_wide_16 : decode cX10_wide 16 = .ok (.invokevirtual 115, 3) := by decide +kernel
theorem dX10_wide_19 : decode cX10_wide 19 = .ok (.bipush (-9), 2) := by decide +kernel
theorem dX10_wide_21 : decode cX10_wide 21 = .ok (.if_icmp .ne 7, 3) := by decide +kernel
theorem dX10_wide_24 : decode cX10_wide 24 = .ok (.iload_n 2, 1) := by decide +kernel
theorem dX10_wide_25 : decode cX10_wide 25 = .ok (.goto 6, 3) := by decide +kernel
theorem dX10_wide_28 : decode cX10_wide 28 = .ok (.iload_n 3, 1) := by decide +kernel
theorem dX10_wide_29 : decode cX10_wide 29 = .ok (.iconst 1, 1) := by decide +kernel
theorem dX10_wide_30 : decode cX10_wide 30 = .ok (.iadd, 1) := by decide +kernel
theorem dX10_wide_31 : decode cX10_wide 31 = .ok (.istore_n 2, 1) := by decide +kernel
theorem dX10_wide_32 : decode cX10_wide 32 = .ok (.iinc 3 1, 3) := by decide +kernel
theorem dX10_wide_35 : decode cX10_wide 35 = .ok (.goto (-31), 3) := by decide +kernel
theorem dX10_wide_38 : decode cX10_wide 38 = .ok (.iload_n 2, 1) := by decide +kernel
theorem dX10_wide_39 : decode cX10_wide 39 = .ok (.ireturn, 1) := by decide +kernel
theorem dX10_placesSeen_0 : decode cX10_placesSeen 0 = .ok (.iconst 0, 1) := by decide +kernel
theorem dX10_placesSeen_1 : decode cX10_placesSeen 1 = .ok (.istore_n 3, 1) := by decide +kernel
theorem dX10_placesSeen_2 : decode cX10_placesSeen 2 = .ok (.iconst 0, 1) := by decide +kernel
theorem dX10_placesSeen_3 : decode cX10_placesSeen 3 = .ok (.istore 4, 2) := by decide +kernel
theorem dX10_placesSeen_5 : decode cX10_placesSeen 5 = .ok (.iload 4, 2) := by decide +kernel
theorem dX10_placesSeen_7 : decode cX10_placesSeen 7 = .ok (.bipush 28, 2) := by decide +kernel
theorem dX10_placesSeen_9 : decode cX10_placesSeen 9 = .ok (.if_icmp .ge 31, 3) := by decide +kernel
theorem dX10_placesSeen_12 : decode cX10_placesSeen 12 = .ok (.iload_n 3, 1) := by decide +kernel
theorem dX10_placesSeen_13 : decode cX10_placesSeen 13 = .ok (.aload_n 0, 1) := by decide +kernel
theorem dX10_placesSeen_14 : decode cX10_placesSeen 14 = .ok (.iload_n 1, 1) := by decide +kernel
theorem dX10_placesSeen_15 : decode cX10_placesSeen 15 = .ok (.iload_n 2, 1) := by decide +kernel
theorem dX10_placesSeen_16 : decode cX10_placesSeen 16 = .ok (.iload 4, 2) := by decide +kernel
theorem dX10_placesSeen_18 : decode cX10_placesSeen 18 = .ok (.iconst 0, 1) := by decide +kernel
theorem dX10_placesSeen_19 : decode cX10_placesSeen 19 = .ok (.invokevirtual 115, 3) := by decide +kernel
theorem dX10_placesSeen_22 : decode cX10_placesSeen 22 = .ok (.bipush (-9), 2) := by decide +kernel
theorem dX10_placesSeen_24 : decode cX10_placesSeen 24 = .ok (.if_icmp .ne 7, 3) := by decide +kernel
theorem dX10_placesSeen_27 : decode cX10_placesSeen 27 = .ok (.iconst 0, 1) := by decide +kernel
theorem dX10_placesSeen_28 : decode cX10_placesSeen 28 = .ok (.goto 4, 3) := by decide +kernel
theorem dX10_placesSeen_31 : decode cX10_placesSeen 31 = .ok (.iconst 1, 1) := by decide +kernel
theorem dX10_placesSeen_32 : decode cX10_placesSeen 32 = .ok (.iadd, 1) := by decide +kernel
theorem dX10_placesSeen_33 : decode cX10_placesSeen 33 = .ok (.istore_n 3, 1) := by decide +kernel
theorem dX10_placesSeen_34 : decode cX10_placesSeen 34 = .ok (.iinc 4 1, 3) := by decide +kernel
theorem dX10_placesSeen_37 : decode cX10_placesSeen 37 = .ok (.goto (-32), 3) := by decide +kernel
theorem dX10_placesSeen_40 : decode cX10_placesSeen 40 = .ok (.iload_n 3, 1) := by decide +kernel
theorem dX10_placesSeen_41 : decode cX10_placesSeen 41 = .ok (.ireturn, 1) := by decide +kernel
theorem dX10_isReadAt_0 : decode cX10_isReadAt 0 = .ok (.iconst 1, 1) := by decide +kernel
theorem dX10_isReadAt_1 : decode cX10_isReadAt 1 = .ok (.istore 5, 2) := by decide +kernel
theorem dX10_isReadAt_3 : decode cX10_isReadAt 3 = .ok (.iconst 0, 1) := by decide +kernel
theorem dX10_isReadAt_4 : decode cX10_isReadAt 4 = .ok (.istore 6, 2) := by decide +kernel
theorem dX10_isReadAt_6 : decode cX10_isReadAt 6 = .ok (.iload 6, 2) := by decide +kernel
theorem dX10_isReadAt_8 : decode cX10_isReadAt 8 = .ok (.aload_n 0, 1) := by decide +kernel
theorem dX10_isReadAt_9 : decode cX10_isReadAt 9 = .ok (.getfield 94, 3) := by decide +kernel
theorem dX10_isReadAt_12 : decode cX10_isReadAt 12 = .ok (.if_icmp .ge 55, 3) := by decide +kernel
theorem dX10_isReadAt_15 : decode cX10_isReadAt 15 = .ok (.iload 5, 2) := by decide +kernel
theorem dX10_isReadAt_17 : decode cX10_isReadAt 17 = .ok (.ifCond .eq 50, 3) := by decide +kernel
theorem dX10_isReadAt_20 : decode cX10_isReadAt 20 = .ok (.aload_n 0, 1) := by decide +kernel
theorem dX10_isReadAt_21 : decode cX10_isReadAt 21 = .ok (.iload_n 1, 1) := by decide +kernel
theorem dX10_isReadAt_22 : decode cX10_isReadAt 22 = .ok (.iload_n 2, 1) := by decide +kernel
theorem dX10_isReadAt_23 : decode cX10_isReadAt 23 = .ok (.iload_n 3, 1) := by decide +kernel
theorem dX10_isReadAt_24 : decode cX10_isReadAt 24 = .ok (.ifCond .ne 11, 3) := by decide +kernel
theorem dX10_isReadAt_27 : decode cX10_isReadAt 27 = .ok (.iload 4, 2) := by decide +kernel
theorem dX10_isReadAt_29 : decode cX10_isReadAt 29 = .ok (.iload 6, 2) := by decide +kernel
theorem dX10_isReadAt_31 : decode cX10_isReadAt 31 = .ok (.iadd, 1) := by decide +kernel
theorem dX10_isReadAt_32 : decode cX10_isReadAt 32 = .ok (.goto 8, 3) := by decide +kernel
theorem dX10_isReadAt_35 : decode cX10_isReadAt 35 = .ok (.iload 4, 2) := by decide +kernel
theorem dX10_isReadAt_37 : decode cX10_isReadAt 37 = .ok (.iload 6, 2) := by decide +kernel
theorem dX10_isReadAt_39 : decode cX10_isReadAt 39 = .ok (.isub, 1) := by decide +kernel
theorem dX10_isReadAt_40 : decode cX10_isReadAt 40 = .ok (.iload_n 3, 1) := by decide +kernel
theorem dX10_isReadAt_41 : decode cX10_isReadAt 41 = .ok (.invokevirtual 119, 3) := by decide +kernel
theorem dX10_isReadAt_44 : decode cX10_isReadAt 44 = .ok (.aload_n 0, 1) := by decide +kernel
theorem dX10_isReadAt_45 : decode cX10_isReadAt 45 = .ok (.getfield 28, 3) := by decide +kernel
theorem dX10_isReadAt_48 : decode cX10_isReadAt 48 = .ok (.iload 6, 2) := by decide +kernel
theorem dX10_isReadAt_50 : decode cX10_isReadAt 50 = .ok (.iaload, 1) := by decide +kernel
theorem dX10_isReadAt_51 : decode cX10_isReadAt 51 = .ok (.if_icmp .ne 7, 3) := by decide +kernel
theorem dX10_isReadAt_54 : decode cX10_isReadAt 54 = .ok (.iconst 1, 1) := by decide +kernel
theorem dX10_isReadAt_55 : decode cX10_isReadAt 55 = .ok (.goto 4, 3) := by decide +kernel
theorem dX10_isReadAt_58 : decode cX10_isReadAt 58 = .ok (.iconst 0, 1) := by decide +kernel
theorem dX10_isReadAt_59 : decode cX10_isReadAt 59 = .ok (.istore 5, 2) := by decide +kernel
theorem dX10_isReadAt_61 : decode cX10_isReadAt 61 = .ok (.iinc 6 1, 3) := by decide +kernel
theorem dX10_isReadAt_64 : decode cX10_isReadAt 64 = .ok (.goto (-58), 3) := by decide +kernel
theorem dX10_isReadAt_67 : decode cX10_isReadAt 67 = .ok (.iload 5, 2) := by decide +kernel
theorem dX10_isReadAt_69 : decode cX10_isReadAt 69 = .ok (.ireturn, 1) := by decide +kernel
theorem dX10_readsOn_0 : decode cX10_readsOn 0 = .ok (.aload_n 0, 1) := by decide +kernel
theorem dX10_readsOn_1 : decode cX10_readsOn 1 = .ok (.getfield 94, 3) := by decide +kernel
theorem dX10_readsOn_4 : decode cX10_readsOn 4 = .ok (.ifCond .ne 5, 3) := by decide +kernel
theorem dX10_readsOn_7 : decode cX10_readsOn 7 = .ok (.iconst 0, 1) := by decide +kernel
theorem dX10_readsOn_8 : decode cX10_readsOn 8 = .ok (.ireturn, 1) := by decide +kernel
theorem dX10_readsOn_9 : decode cX10_readsOn 9 = .ok (.iconst 0, 1) := by decide +kernel
theorem dX10_readsOn_10 : decode cX10_readsOn 10 = .ok (.istore 4, 2) := by decide +kernel
theorem dX10_readsOn_12 : decode cX10_readsOn 12 = .ok (.iload 4, 2) := by decide +kernel
theorem dX10_readsOn_14 : decode cX10_readsOn 14 = .ok (.bipush 28, 2) := by decide +kernel
theorem dX10_readsOn_16 : decode cX10_readsOn 16 = .ok (.if_icmp .ge 40, 3) := by decide +kernel
theorem dX10_readsOn_19 : decode cX10_readsOn 19 = .ok (.iload_n 3, 1) := by decide +kernel
theorem dX10_readsOn_20 : decode cX10_readsOn 20 = .ok (.ifCond .ne 8, 3) := by decide +kernel
theorem dX10_readsOn_23 : decode cX10_readsOn 23 = .ok (.iload 4, 2) := by decide +kernel
theorem dX10_readsOn_25 : decode cX10_readsOn 25 = .ok (.goto 8, 3) := by decide +kernel
theorem dX10_readsOn_28 : decode cX10_readsOn 28 = .ok (.bipush 27, 2) := by decide +kernel
theorem dX10_readsOn_30 : decode cX10_readsOn 30 = .ok (.iload 4, 2) := by decide +kernel
theorem dX10_readsOn_32 : decode cX10_readsOn 32 = .ok (.isub, 1) := by decide +kernel
theorem dX10_readsOn_33 : decode cX10_readsOn 33 = .ok (.istore 5, 2) := by decide +kernel
theorem dX10_readsOn_35 : decode cX10_readsOn 35 = .ok (.aload_n 0, 1) := by decide +kernel
theorem dX10_readsOn_36 : decode cX10_readsOn 36 = .ok (.iload_n 1, 1) := by decide +kernel
theorem dX10_readsOn_37 : decode cX10_readsOn 37 = .ok (.iload_n 2, 1) := by decide +kernel
theorem dX10_readsOn_38 : decode cX10_readsOn 38 = .ok (.iload_n 3, 1) := by decide +kernel
theorem dX10_readsOn_39 : decode cX10_readsOn 39 = .ok (.iload 5, 2) := by decide +kernel
theorem dX10_readsOn_41 : decode cX10_readsOn 41 = .ok (.invokevirtual 122, 3) := by decide +kernel
theorem dX10_readsOn_44 : decode cX10_readsOn 44 = .ok (.ifCond .eq 6, 3) := by decide +kernel
theorem dX10_readsOn_47 : decode cX10_readsOn 47 = .ok (.iload 5, 2) := by decide +kernel
theorem dX10_readsOn_49 : decode cX10_readsOn 49 = .ok (.ireturn, 1) := by decide +kernel
theorem dX10_readsOn_50 : decode cX10_readsOn 50 = .ok (.iinc 4 1, 3) := by decide +kernel
theorem dX10_readsOn_53 : decode cX10_readsOn 53 = .ok (.goto (-41), 3) := by decide +kernel
theorem dX10_readsOn_56 : decode cX10_readsOn 56 = .ok (.bipush (-9), 2) := by decide +kernel
theorem dX10_readsOn_58 : decode cX10_readsOn 58 = .ok (.ireturn, 1) := by decide +kernel
theorem dX10_blade_0 : decode cX10_blade 0 = .ok (.aload_n 0, 1) := by decide +kernel
theorem dX10_blade_1 : decode cX10_blade 1 = .ok (.iload_n 1, 1) := by decide +kernel
theorem dX10_blade_2 : decode cX10_blade 2 = .ok (.invokevirtual 126, 3) := by decide +kernel
theorem dX10_blade_5 : decode cX10_blade 5 = .ok (.ifCond .ne 5, 3) := by decide +kernel
theorem dX10_blade_8 : decode cX10_blade 8 = .ok (.iconst (-1), 1) := by decide +kernel
theorem dX10_blade_9 : decode cX10_blade 9 = .ok (.ireturn, 1) := by decide +kernel
theorem dX10_blade_10 : decode cX10_blade 10 = .ok (.iload_n 2, 1) := by decide +kernel
theorem dX10_blade_11 : decode cX10_blade 11 = .ok (.tableswitch 93 0 5 #[37, 44, 51, 57, 65, 73], 37) := by decide +kernel
theorem dX10_blade_48 : decode cX10_blade 48 = .ok (.aload_n 0, 1) := by decide +kernel
theorem dX10_blade_49 : decode cX10_blade 49 = .ok (.getfield 7, 3) := by decide +kernel
theorem dX10_blade_52 : decode cX10_blade 52 = .ok (.iload_n 1, 1) := by decide +kernel
theorem dX10_blade_53 : decode cX10_blade 53 = .ok (.iaload, 1) := by decide +kernel
theorem dX10_blade_54 : decode cX10_blade 54 = .ok (.ireturn, 1) := by decide +kernel
theorem dX10_blade_55 : decode cX10_blade 55 = .ok (.aload_n 0, 1) := by decide +kernel
theorem dX10_blade_56 : decode cX10_blade 56 = .ok (.iconst 0, 1) := by decide +kernel
theorem dX10_blade_57 : decode cX10_blade 57 = .ok (.iload_n 1, 1) := by decide +kernel
theorem dX10_blade_58 : decode cX10_blade 58 = .ok (.invokevirtual 97, 3) := by decide +kernel
theorem dX10_blade_61 : decode cX10_blade 61 = .ok (.ireturn, 1) := by decide +kernel
theorem dX10_blade_62 : decode cX10_blade 62 = .ok (.aload_n 0, 1) := by decide +kernel
theorem dX10_blade_63 : decode cX10_blade 63 = .ok (.iload_n 1, 1) := by decide +kernel
theorem dX10_blade_64 : decode cX10_blade 64 = .ok (.invokevirtual 101, 3) := by decide +kernel
theorem dX10_blade_67 : decode cX10_blade 67 = .ok (.ireturn, 1) := by decide +kernel
theorem dX10_blade_68 : decode cX10_blade 68 = .ok (.aload_n 0, 1) := by decide +kernel
theorem dX10_blade_69 : decode cX10_blade 69 = .ok (.iconst 0, 1) := by decide +kernel
theorem dX10_blade_70 : decode cX10_blade 70 = .ok (.iload_n 1, 1) := by decide +kernel
theorem dX10_blade_71 : decode cX10_blade 71 = .ok (.iconst 0, 1) := by decide +kernel
theorem dX10_blade_72 : decode cX10_blade 72 = .ok (.invokevirtual 130, 3) := by decide +kernel
theorem dX10_blade_75 : decode cX10_blade 75 = .ok (.ireturn, 1) := by decide +kernel
theorem dX10_blade_76 : decode cX10_blade 76 = .ok (.aload_n 0, 1) := by decide +kernel
theorem dX10_blade_77 : decode cX10_blade 77 = .ok (.iconst 0, 1) := by decide +kernel
theorem dX10_blade_78 : decode cX10_blade 78 = .ok (.iload_n 1, 1) := by decide +kernel
theorem dX10_blade_79 : decode cX10_blade 79 = .ok (.iconst 1, 1) := by decide +kernel
theorem dX10_blade_80 : decode cX10_blade 80 = .ok (.invokevirtual 130, 3) := by decide +kernel
theorem dX10_blade_83 : decode cX10_blade 83 = .ok (.ireturn, 1) := by decide +kernel
theorem dX10_blade_84 : decode cX10_blade 84 = .ok (.aload_n 0, 1) := by decide +kernel
theorem dX10_blade_85 : decode cX10_blade 85 = .ok (.iload_n 1, 1) := by decide +kernel
theorem dX10_blade_86 : decode cX10_blade 86 = .ok (.invokevirtual 133, 3) := by decide +kernel
theorem dX10_blade_89 : decode cX10_blade 89 = .ok (.ifCond .eq 12, 3) := by decide +kernel
theorem dX10_blade_92 : decode cX10_blade 92 = .ok (.aload_n 0, 1) := by decide +kernel
theorem dX10_blade_93 : decode cX10_blade 93 = .ok (.getfield 16, 3) := by decide +kernel
theorem dX10_blade_96 : decode cX10_blade 96 = .ok (.iload_n 1, 1) := by decide +kernel
theorem dX10_blade_97 : decode cX10_blade 97 = .ok (.iaload, 1) := by decide +kernel
theorem dX10_blade_98 : decode cX10_blade 98 = .ok (.goto 5, 3) := by decide +kernel
theorem dX10_blade_101 : decode cX10_blade 101 = .ok (.bipush (-9), 2) := by decide +kernel
theorem dX10_blade_103 : decode cX10_blade 103 = .ok (.ireturn, 1) := by decide +kernel
theorem dX10_blade_104 : decode cX10_blade 104 = .ok (.bipush (-2), 2) := by decide +kernel
theorem dX10_blade_106 : decode cX10_blade 106 = .ok (.ireturn, 1) := by decide +kernel
theorem dX10_look_0 : decode cX10_look 0 = .ok (.iload_n 1, 1) := by decide +kernel
theorem dX10_look_1 : decode cX10_look 1 = .ok (.i2l, 1) := by decide +kernel
theorem dX10_look_2 : decode cX10_look 2 = .ok (.lconst 0, 1) := by decide +kernel
theorem dX10_look_3 : decode cX10_look 3 = .ok (.ldc2_w 113, 3) := by decide +kernel
theorem dX10_look_6 : decode cX10_look 6 = .ok (.invokestatic 52, 3) := by decide +kernel
theorem dX10_look_9 : decode cX10_look 9 = .ok (.ifCond .ne 5, 3) := by decide +kernel
theorem dX10_look_12 : decode cX10_look 12 = .ok (.iconst (-1), 1) := by decide +kernel
theorem dX10_look_13 : decode cX10_look 13 = .ok (.ireturn, 1) := by decide +kernel
theorem dX10_look_14 : decode cX10_look 14 = .ok (.iload_n 2, 1) := by decide +kernel
theorem dX10_look_15 : decode cX10_look 15 = .ok (.i2l, 1) := by decide +kernel
theorem dX10_look_16 : decode cX10_look 16 = .ok (.lconst 0, 1) := by decide +kernel
theorem dX10_look_17 : decode cX10_look 17 = .ok (.lconst 1, 1) := by decide +kernel
theorem dX10_look_18 : decode cX10_look 18 = .ok (.invokestatic 52, 3) := by decide +kernel
theorem dX10_look_21 : decode cX10_look 21 = .ok (.ifCond .eq 13, 3) := by decide +kernel
theorem dX10_look_24 : decode cX10_look 24 = .ok (.iload_n 3, 1) := by decide +kernel
theorem dX10_look_25 : decode cX10_look 25 = .ok (.i2l, 1) := by decide +kernel
theorem dX10_look_26 : decode cX10_look 26 = .ok (.lconst 0, 1) := by decide +kernel
theorem dX10_look_27 : decode cX10_look 27 = .ok (.lconst 1, 1) := by decide +kernel
theorem dX10_look_28 : decode cX10_look 28 = .ok (.invokestatic 52, 3) := by decide +kernel
theorem dX10_look_31 : decode cX10_look 31 = .ok (.ifCond .ne 6, 3) := by decide +kernel
theorem dX10_look_34 : decode cX10_look 34 = .ok (.bipush (-2), 2) := by decide +kernel
theorem dX10_look_36 : decode cX10_look 36 = .ok (.ireturn, 1) := by decide +kernel
theorem dX10_look_37 : decode cX10_look 37 = .ok (.aload_n 0, 1) := by decide +kernel
theorem dX10_look_38 : decode cX10_look 38 = .ok (.iconst 0, 1) := by decide +kernel
theorem dX10_look_39 : decode cX10_look 39 = .ok (.bipush 63, 2) := by decide +kernel
theorem dX10_look_41 : decode cX10_look 41 = .ok (.iload_n 1, 1) := by decide +kernel
theorem dX10_look_42 : decode cX10_look 42 = .ok (.iload_n 2, 1) := by decide +kernel
theorem dX10_look_43 : decode cX10_look 43 = .ok (.invokevirtual 119, 3) := by decide +kernel
theorem dX10_look_46 : decode cX10_look 46 = .ok (.istore 4, 2) := by decide +kernel
theorem dX10_look_48 : decode cX10_look 48 = .ok (.iload_n 3, 1) := by decide +kernel
theorem dX10_look_49 : decode cX10_look 49 = .ok (.iconst 1, 1) := by decide +kernel
theorem dX10_look_50 : decode cX10_look 50 = .ok (.if_icmp .ne 15, 3) := by decide +kernel
theorem dX10_look_53 : decode cX10_look 53 = .ok (.aload_n 0, 1) := by decide +kernel
theorem dX10_look_54 : decode cX10_look 54 = .ok (.iconst 0, 1) := by decide +kernel
theorem dX10_look_55 : decode cX10_look 55 = .ok (.bipush 63, 2) := by decide +kernel
theorem dX10_look_57 : decode cX10_look 57 = .ok (.iload_n 1, 1) := by decide +kernel
theorem dX10_look_58 : decode cX10_look 58 = .ok (.iload_n 2, 1) := by decide +kernel
theorem dX10_look_59 : decode cX10_look 59 = .ok (.invokevirtual 115, 3) := by decide +kernel
theorem dX10_look_62 : decode cX10_look 62 = .ok (.goto 20, 3) := by decide +kernel
theorem dX10_look_65 : decode cX10_look 65 = .ok (.iload 4, 2) := by decide +kernel
theorem dX10_look_67 : decode cX10_look 67 = .ok (.bipush (-9), 2) := by decide +kernel
theorem dX10_look_69 : decode cX10_look 69 = .ok (.if_icmp .ne 8, 3) := by decide +kernel
theorem dX10_look_72 : decode cX10_look 72 = .ok (.bipush (-9), 2) := by decide +kernel
theorem dX10_look_74 : decode cX10_look 74 = .ok (.goto 8, 3) := by decide +kernel
theorem dX10_look_77 : decode cX10_look 77 = .ok (.iload 4, 2) := by decide +kernel
theorem dX10_look_79 : decode cX10_look 79 = .ok (.bipush 97, 2) := by decide +kernel
theorem dX10_look_81 : decode cX10_look 81 = .ok (.iadd, 1) := by decide +kernel
theorem dX10_look_82 : decode cX10_look 82 = .ok (.ireturn, 1) := by decide +kernel
theorem dX10_keepAct_0 : decode cX10_keepAct 0 = .ok (.iconst 0, 1) := by decide +kernel
theorem dX10_keepAct_1 : decode cX10_keepAct 1 = .ok (.istore_n 1, 1) := by decide +kernel
theorem dX10_keepAct_2 : decode cX10_keepAct 2 = .ok (.iload_n 1, 1) := by decide +kernel
theorem dX10_keepAct_3 : decode cX10_keepAct 3 = .ok (.iconst 5, 1) := by decide +kernel
theorem dX10_keepAct_4 : decode cX10_keepAct 4 = .ok (.if_icmp .ge 28, 3) := by decide +kernel
theorem dX10_keepAct_7 : decode cX10_keepAct 7 = .ok (.aload_n 0, 1) := by decide +kernel
theorem dX10_keepAct_8 : decode cX10_keepAct 8 = .ok (.getfield 31, 3) := by decide +kernel
theorem dX10_keepAct_11 : decode cX10_keepAct 11 = .ok (.iconst 5, 1) := by decide +kernel
theorem dX10_keepAct_12 : decode cX10_keepAct 12 = .ok (.aload_n 0, 1) := by decide +kernel
theorem dX10_keepAct_13 : decode cX10_keepAct 13 = .ok (.getfield 136, 3) := by decide +kernel
theorem dX10_keepAct_16 : decode cX10_keepAct 16 = .ok (.imul, 1) := by decide +kernel
theorem dX10_keepAct_17 : decode cX10_keepAct 17 = .ok (.iload_n 1, 1) := by decide +kernel
theorem dX10_keepAct_18 : decode cX10_keepAct 18 = .ok (.iadd, 1) := by decide +kernel
theorem dX10_keepAct_19 : decode cX10_keepAct 19 = .ok (.aload_n 0, 1) := by decide +kernel
theorem dX10_keepAct_20 : decode cX10_keepAct 20 = .ok (.getfield 16, 3) := by decide +kernel
theorem dX10_keepAct_23 : decode cX10_keepAct 23 = .ok (.iload_n 1, 1) := by decide +kernel
theorem dX10_keepAct_24 : decode cX10_keepAct 24 = .ok (.iaload, 1) := by decide +kernel
theorem dX10_keepAct_25 : decode cX10_keepAct 25 = .ok (.iastore, 1) := by decide +kernel
theorem dX10_keepAct_26 : decode cX10_keepAct 26 = .ok (.iinc 1 1, 3) := by decide +kernel
theorem dX10_keepAct_29 : decode cX10_keepAct 29 = .ok (.goto (-27), 3) := by decide +kernel
theorem dX10_keepAct_32 : decode cX10_keepAct 32 = .ok (.aload_n 0, 1) := by decide +kernel
theorem dX10_keepAct_33 : decode cX10_keepAct 33 = .ok (.aload_n 0, 1) := by decide +kernel
theorem dX10_keepAct_34 : decode cX10_keepAct 34 = .ok (.getfield 136, 3) := by decide +kernel
theorem dX10_keepAct_37 : decode cX10_keepAct 37 = .ok (.iconst 1, 1) := by decide +kernel
theorem dX10_keepAct_38 : decode cX10_keepAct 38 = .ok (.iadd, 1) := by decide +kernel
theorem dX10_keepAct_39 : decode cX10_keepAct 39 = .ok (.bipush 14, 2) := by decide +kernel
theorem dX10_keepAct_41 : decode cX10_keepAct 41 = .ok (.irem, 1) := by decide +kernel
theorem dX10_keepAct_42 : decode cX10_keepAct 42 = .ok (.putfield 136, 3) := by decide +kernel
theorem dX10_keepAct_45 : decode cX10_keepAct 45 = .ok (.aload_n 0, 1) := by decide +kernel
theorem dX10_keepAct_46 : decode cX10_keepAct 46 = .ok (.aload_n 0, 1) := by decide +kernel
theorem dX10_keepAct_47 : decode cX10_keepAct 47 = .ok (.getfield 78, 3) := by decide +kernel
theorem dX10_keepAct_50 : decode cX10_keepAct 50 = .ok (.bipush 14, 2) := by decide +kernel
theorem dX10_keepAct_52 : decode cX10_keepAct 52 = .ok (.if_icmp .ge 12, 3) := by decide +kernel
theorem dX10_keepAct_55 : decode cX10_keepAct 55 = .ok (.aload_n 0, 1) := by decide +kernel
theorem dX10_keepAct_56 : decode cX10_keepAct 56 = .ok (.getfield 78, 3) := by decide +kernel
theorem dX10_keepAct_59 : decode cX10_keepAct 59 = .ok (.iconst 1, 1) := by decide +kernel
theorem dX10_keepAct_60 : decode cX10_keepAct 60 = .ok (.iadd, 1) := by decide +kernel
theorem dX10_keepAct_61 : decode cX10_keepAct 61 = .ok (.goto 5, 3) := by decide +kernel
theorem dX10_keepAct_64 : decode cX10_keepAct 64 = .ok (.bipush 14, 2) := by decide +kernel
theorem dX10_keepAct_66 : decode cX10_keepAct 66 = .ok (.putfield 78, 3) := by decide +kernel
theorem dX10_keepAct_69 : decode cX10_keepAct 69 = .ok (.return_, 1) := by decide +kernel
theorem dX10_canSpread_0 : decode cX10_canSpread 0 = .ok (.aload_n 0, 1) := by decide +kernel
theorem dX10_canSpread_1 : decode cX10_canSpread 1 = .ok (.iload_n 2, 1) := by decide +kernel
theorem dX10_canSpread_2 : decode cX10_canSpread 2 = .ok (.invokevirtual 133, 3) := by decide +kernel
theorem dX10_canSpread_5 : decode cX10_canSpread 5 = .ok (.ifCond .eq 29, 3) := by decide +kernel
theorem dX10_canSpread_8 : decode cX10_canSpread 8 = .ok (.aload_n 0, 1) := by decide +kernel
theorem dX10_canSpread_9 : decode cX10_canSpread 9 = .ok (.iload_n 2, 1) := by decide +kernel
theorem dX10_canSpread_10 : decode cX10_canSpread 10 = .ok (.invokevirtual 139, 3) := by decide +kernel
theorem dX10_canSpread_13 : decode cX10_canSpread 13 = .ok (.ifCond .eq 21, 3) := by decide +kernel
theorem dX10_canSpread_16 : decode cX10_canSpread 16 = .ok (.aload_n 0, 1) := by decide +kernel
theorem dX10_canSpread_17 : decode cX10_canSpread 17 = .ok (.getfield 16, 3) := by decide +kernel
theorem dX10_canSpread_20 : decode cX10_canSpread 20 = .ok (.iconst 5, 1) := by decide +kernel
theorem dX10_canSpread_21 : decode cX10_canSpread 21 = .ok (.iload_n 1, 1) := by decide +kernel
theorem dX10_canSpread_22 : decode cX10_canSpread 22 = .ok (.imul, 1) := by decide +kernel
theorem dX10_canSpread_23 : decode cX10_canSpread 23 = .ok (.iload_n 2, 1) := by decide +kernel
theorem dX10_canSpread_24 : decode cX10_canSpread 24 = .ok (.iadd, 1) := by decide +kernel
theorem dX10_canSpread_25 : decode cX10_canSpread 25 = .ok (.iaload, 1) := by decide +kernel
theorem dX10_canSpread_26 : decode cX10_canSpread 26 = .ok (.iconst 4, 1) := by decide +kernel
theorem dX10_canSpread_27 : decode cX10_canSpread 27 = .ok (.if_icmp .ge 7, 3) := by decide +kernel
theorem dX10_canSpread_30 : decode cX10_canSpread 30 = .ok (.iconst 1, 1) := by decide +kernel
theorem dX10_canSpread_31 : decode cX10_canSpread 31 = .ok (.goto 4, 3) := by decide +kernel
theorem dX10_canSpread_34 : decode cX10_canSpread 34 = .ok (.iconst 0, 1) := by decide +kernel
theorem dX10_canSpread_35 : decode cX10_canSpread 35 = .ok (.ireturn, 1) := by decide +kernel
theorem dX10_canFold_0 : decode cX10_canFold 0 = .ok (.aload_n 0, 1) := by decide +kernel
theorem dX10_canFold_1 : decode cX10_canFold 1 = .ok (.iload_n 2, 1) := by decide +kernel
theorem dX10_canFold_2 : decode cX10_canFold 2 = .ok (.invokevirtual 133, 3) := by decide +kernel
theorem dX10_canFold_5 : decode cX10_canFold 5 = .ok (.ifCond .eq 28, 3) := by decide +kernel
theorem dX10_canFold_8 : decode cX10_canFold 8 = .ok (.aload_n 0, 1) := by decide +kernel
theorem dX10_canFold_9 : decode cX10_canFold 9 = .ok (.iload_n 2, 1) := by decide +kernel
theorem dX10_canFold_10 : decode cX10_canFold 10 = .ok (.invokevirtual 139, 3) := by decide +kernel
theorem dX10_canFold_13 : decode cX10_canFold 13 = .ok (.ifCond .eq 20, 3) := by decide +kernel
theorem dX10_canFold_16 : decode cX10_canFold 16 = .ok (.aload_n 0, 1) := by decide +kernel
theorem dX10_canFold_17 : decode cX10_canFold 17 = .ok (.getfield 16, 3) := by decide +kernel
theorem dX10_canFold_20 : decode cX10_canFold 20 = .ok (.iconst 5, 1) := by decide +kernel
theorem dX10_canFold_21 : decode cX10_canFold 21 = .ok (.iload_n 1, 1) := by decide +kernel
theorem dX10_canFold_22 : decode cX10_canFold 22 = .ok (.imul, 1) := by decide +kernel
theorem dX10_canFold_23 : decode cX10_canFold 23 = .ok (.iload_n 2, 1) := by decide +kernel
theorem dX10_canFold_24 : decode cX10_canFold 24 = .ok (.iadd, 1) := by decide +kernel
theorem dX10_canFold_25 : decode cX10_canFold 25 = .ok (.iaload, 1) := by decide +kernel
theorem dX10_canFold_26 : decode cX10_canFold 26 = .ok (.ifCond .le 7, 3) := by decide +kernel
theorem dX10_canFold_29 : decode cX10_canFold 29 = .ok (.iconst 1, 1) := by decide +kernel
theorem dX10_canFold_30 : decode cX10_canFold 30 = .ok (.goto 4, 3) := by decide +kernel
theorem dX10_canFold_33 : decode cX10_canFold 33 = .ok (.iconst 0, 1) := by decide +kernel
theorem dX10_canFold_34 : decode cX10_canFold 34 = .ok (.ireturn, 1) := by decide +kernel
theorem dX10_spread_0 : decode cX10_spread 0 = .ok (.aload_n 0, 1) := by decide +kernel
theorem dX10_spread_1 : decode cX10_spread 1 = .ok (.iload_n 1, 1) := by decide +kernel
theorem dX10_spread_2 : decode cX10_spread 2 = .ok (.invokevirtual 133, 3) := by decide +kernel
theorem dX10_spread_5 : decode cX10_spread 5 = .ok (.ifCond .ne 5, 3) := by decide +kernel
theorem dX10_spread_8 : decode cX10_spread 8 = .ok (.iconst (-1), 1) := by decide +kernel
theorem dX10_spread_9 : decode cX10_spread 9 = .ok (.ireturn, 1) := by decide +kernel
theorem dX10_spread_10 : decode cX10_spread 10 = .ok (.aload_n 0, 1) := by decide +kernel
theorem dX10_spread_11 : decode cX10_spread 11 = .ok (.iconst 0, 1) := by decide +kernel
theorem dX10_spread_12 : decode cX10_spread 12 = .ok (.iload_n 1, 1) := by decide +kernel
theorem dX10_spread_13 : decode cX10_spread 13 = .ok (.invokevirtual 142, 3) := by decide +kernel
theorem dX10_spread_16 : decode cX10_spread 16 = .ok (.ifCond .ne 6, 3) := by decide +kernel
theorem dX10_spread_19 : decode cX10_spread 19 = .ok (.bipush (-3), 2) := by decide +kernel
theorem dX10_spread_21 : decode cX10_spread 21 = .ok (.ireturn, 1) := by decide +kernel
theorem dX10_spread_22 : decode cX10_spread 22 = .ok (.aload_n 0, 1) := by decide +kernel
theorem dX10_spread_23 : decode cX10_spread 23 = .ok (.invokevirtual 145, 3) := by decide +kernel
theorem dX10_spread_26 : decode cX10_spread 26 = .ok (.aload_n 0, 1) := by decide +kernel
theorem dX10_spread_27 : decode cX10_spread 27 = .ok (.getfield 16, 3) := by decide +kernel
theorem dX10_spread_30 : decode cX10_spread 30 = .ok (.iload_n 1, 1) := by decide +kernel
theorem dX10_spread_31 : decode cX10_spread 31 = .ok (.dup2, 1) := by decide +kernel
theorem dX10_spread_32 : decode cX10_spread 32 = .ok (.iaload, 1) := by decide +kernel
theorem dX10_spread_33 : decode cX10_spread 33 = .ok (.iconst 1, 1) := by decide +kernel
theorem dX10_spread_34 : decode cX10_spread 34 = .ok (.iadd, 1) := by decide +kernel
theorem dX10_spread_35 : decode cX10_spread 35 = .ok (.iastore, 1) := by decide +kernel
theorem dX10_spread_36 : decode cX10_spread 36 = .ok (.aload_n 0, 1) := by decide +kernel
theorem dX10_spread_37 : decode cX10_spread 37 = .ok (.getfield 16, 3) := by decide +kernel
theorem dX10_spread_40 : decode cX10_spread 40 = .ok (.iload_n 1, 1) := by decide +kernel
theorem dX10_spread_41 : decode cX10_spread 41 = .ok (.iaload, 1) := by decide +kernel
theorem dX10_spread_42 : decode cX10_spread 42 = .ok (.ireturn, 1) := by decide +kernel
theorem dX10_fold_0 : decode cX10_fold 0 = .ok (.aload_n 0, 1) := by decide +kernel
theorem dX10_fold_1 : decode cX10_fold 1 = .ok (.iload_n 1, 1) := by decide +kernel
theorem dX10_fold_2 : decode cX10_fold 2 = .ok (.invokevirtual 133, 3) := by decide +kernel
theorem dX10_fold_5 : decode cX10_fold 5 = .ok (.ifCond .ne 5, 3) := by decide +kernel
theorem dX10_fold_8 : decode cX10_fold 8 = .ok (.iconst (-1), 1) := by decide +kernel
theorem dX10_fold_9 : decode cX10_fold 9 = .ok (.ireturn, 1) := by decide +kernel
theorem dX10_fold_10 : decode cX10_fold 10 = .ok (.aload_n 0, 1) := by decide +kernel
theorem dX10_fold_11 : decode cX10_fold 11 = .ok (.iconst 0, 1) := by decide +kernel
theorem dX10_fold_12 : decode cX10_fold 12 = .ok (.iload_n 1, 1) := by decide +kernel
theorem dX10_fold_13 : decode cX10_fold 13 = .ok (.invokevirtual 148, 3) := by decide +kernel
theorem dX10_fold_16 : decode cX10_fold 16 = .ok (.ifCond .ne 6, 3) := by decide +kernel
theorem dX10_fold_19 : decode cX10_fold 19 = .ok (.bipush (-3), 2) := by decide +kernel
theorem dX10_fold_21 : decode cX10_fold 21 = .ok (.ireturn, 1) := by decide +kernel
theorem dX10_fold_22 : decode cX10_fold 22 = .ok (.aload_n 0, 1) := by decide +kernel
theorem dX10_fold_23 : decode cX10_fold 23 = .ok (.invokevirtual 145, 3) := by decide +kernel
theorem dX10_fold_26 : decode cX10_fold 26 = .ok (.aload_n 0, 1) := by decide +kernel
theorem dX10_fold_27 : decode cX10_fold 27 = .ok (.getfield 16, 3) := by decide +kernel
theorem dX10_fold_30 : decode cX10_fold 30 = .ok (.iload_n 1, 1) := by decide +kernel
theorem dX10_fold_31 : decode cX10_fold 31 = .ok (.dup2, 1) := by decide +kernel
theorem dX10_fold_32 : decode cX10_fold 32 = .ok (.iaload, 1) := by decide +kernel
theorem dX10_fold_33 : decode cX10_fold 33 = .ok (.iconst 1, 1) := by decide +kernel
theorem dX10_fold_34 : decode cX10_fold 34 = .ok (.isub, 1) := by decide +kernel
theorem dX10_fold_35 : decode cX10_fold 35 = .ok (.iastore, 1) := by decide +kernel
theorem dX10_fold_36 : decode cX10_fold 36 = .ok (.aload_n 0, 1) := by decide +kernel
theorem dX10_fold_37 : decode cX10_fold 37 = .ok (.getfield 16, 3) := by decide +kernel
theorem dX10_fold_40 : decode cX10_fold 40 = .ok (.iload_n 1, 1) := by decide +kernel
theorem dX10_fold_41 : decode cX10_fold 41 = .ok (.iaload, 1) := by decide +kernel
theorem dX10_fold_42 : decode cX10_fold 42 = .ok (.ireturn, 1) := by decide +kernel
theorem dX10_flingOn_0 : decode cX10_flingOn 0 = .ok (.iconst 0, 1) := by decide +kernel
theorem dX10_flingOn_1 : decode cX10_flingOn 1 = .ok (.istore_n 2, 1) := by decide +kernel
theorem dX10_flingOn_2 : decode cX10_flingOn 2 = .ok (.iconst 0, 1) := by decide +kernel
theorem dX10_flingOn_3 : decode cX10_flingOn 3 = .ok (.istore_n 3, 1) := by decide +kernel
theorem dX10_flingOn_4 : decode cX10_flingOn 4 = .ok (.iload_n 3, 1) := by decide +kernel
theorem dX10_flingOn_5 : decode cX10_flingOn 5 = .ok (.aload_n 0, 1) := by decide +kernel
theorem dX10_flingOn_6 : decode cX10_flingOn 6 = .ok (.invokevirtual 81, 3) := by decide +kernel
theorem dX10_flingOn_9 : decode cX10_flingOn 9 = .ok (.if_icmp .ge 53, 3) := by decide +kernel
theorem dX10_flingOn_12 : decode cX10_flingOn 12 = .ok (.aload_n 0, 1) := by decide +kernel
theorem dX10_flingOn_13 : decode cX10_flingOn 13 = .ok (.iload_n 1, 1) := by decide +kernel
theorem dX10_flingOn_14 : decode cX10_flingOn 14 = .ok (.iload_n 3, 1) := by decide +kernel
theorem dX10_flingOn_15 : decode cX10_flingOn 15 = .ok (.invokevirtual 142, 3) := by decide +kernel
theorem dX10_flingOn_18 : decode cX10_flingOn 18 = .ok (.istore 4, 2) := by decide +kernel
theorem dX10_flingOn_20 : decode cX10_flingOn 20 = .ok (.aload_n 0, 1) := by decide +kernel
theorem dX10_flingOn_21 : decode cX10_flingOn 21 = .ok (.getfield 16, 3) := by decide +kernel
theorem dX10_flingOn_24 : decode cX10_flingOn 24 = .ok (.iconst 5, 1) := by decide +kernel
theorem dX10_flingOn_25 : decode cX10_flingOn 25 = .ok (.iload_n 1, 1) := by decide +kernel
theorem dX10_flingOn_26 : decode cX10_flingOn 26 = .ok (.imul, 1) := by decide +kernel
theorem dX10_flingOn_27 : decode cX10_flingOn 27 = .ok (.iload_n 3, 1) := by decide +kernel
theorem dX10_flingOn_28 : decode cX10_flingOn 28 = .ok (.iadd, 1) := by decide +kernel
theorem dX10_flingOn_29 : decode cX10_flingOn 29 = .ok (.dup2, 1) := by decide +kernel
theorem dX10_flingOn_30 : decode cX10_flingOn 30 = .ok (.iaload, 1) := by decide +kernel
theorem dX10_flingOn_31 : decode cX10_flingOn 31 = .ok (.iload 4, 2) := by decide +kernel
theorem dX10_flingOn_33 : decode cX10_flingOn 33 = .ok (.ifCond .eq 7, 3) := by decide +kernel
theorem dX10_flingOn_36 : decode cX10_flingOn 36 = .ok (.iconst 1, 1) := by decide +kernel
theorem dX10_flingOn_37 : decode cX10_flingOn 37 = .ok (.goto 4, 3) := by decide +kernel
theorem dX10_flingOn_40 : decode cX10_flingOn 40 = .ok (.iconst 0, 1) := by decide +kernel
theorem dX10_flingOn_41 : decode cX10_flingOn 41 = .ok (.iadd, 1) := by decide +kernel
theorem dX10_flingOn_42 : decode cX10_flingOn 42 = .ok (.iastore, 1) := by decide +kernel
theorem dX10_flingOn_43 : decode cX10_flingOn 43 = .ok (.iload_n 2, 1) := by decide +kernel
theorem dX10_flingOn_44 : decode cX10_flingOn 44 = .ok (.iload 4, 2) := by decide +kernel
theorem dX10_flingOn_46 : decode cX10_flingOn 46 = .ok (.ifCond .eq 7, 3) := by decide +kernel
theorem dX10_flingOn_49 : decode cX10_flingOn 49 = .ok (.iconst 1, 1) := by decide +kernel
theorem dX10_flingOn_50 : decode cX10_flingOn 50 = .ok (.goto 4, 3) := by decide +kernel
theorem dX10_flingOn_53 : decode cX10_flingOn 53 = .ok (.iconst 0, 1) := by decide +kernel
theorem dX10_flingOn_54 : decode cX10_flingOn 54 = .ok (.iadd, 1) := by decide +kernel
theorem dX10_flingOn_55 : decode cX10_flingOn 55 = .ok (.istore_n 2, 1) := by decide +kernel
theorem dX10_flingOn_56 : decode cX10_flingOn 56 = .ok (.iinc 3 1, 3) := by decide +kernel
theorem dX10_flingOn_59 : decode cX10_flingOn 59 = .ok (.goto (-55), 3) := by decide +kernel
theorem dX10_flingOn_62 : decode cX10_flingOn 62 = .ok (.iload_n 2, 1) := by decide +kernel
theorem dX10_flingOn_63 : decode cX10_flingOn 63 = .ok (.ireturn, 1) := by decide +kernel
theorem dX10_gapsOf_0 : decode cX10_gapsOf 0 = .ok (.iconst 0, 1) := by decide +kernel
theorem dX10_gapsOf_1 : decode cX10_gapsOf 1 = .ok (.istore_n 2, 1) := by decide +kernel
theorem dX10_gapsOf_2 : decode cX10_gapsOf 2 = .ok (.iconst 0, 1) := by decide +kernel
theorem dX10_gapsOf_3 : decode cX10_gapsOf 3 = .ok (.istore_n 3, 1) := by decide +kernel
theorem dX10_gapsOf_4 : decode cX10_gapsOf 4 = .ok (.iload_n 3, 1) := by decide +kernel
theorem dX10_gapsOf_5 : decode cX10_gapsOf 5 = .ok (.aload_n 0, 1) := by decide +kernel
theorem dX10_gapsOf_6 : decode cX10_gapsOf 6 = .ok (.invokevirtual 81, 3) := by decide +kernel
theorem dX10_gapsOf_9 : decode cX10_gapsOf 9 = .ok (.if_icmp .ge 22, 3) := by decide +kernel
theorem dX10_gapsOf_12 : decode cX10_gapsOf 12 = .ok (.iload_n 2, 1) := by decide +kernel
theorem dX10_gapsOf_13 : decode cX10_gapsOf 13 = .ok (.aload_n 0, 1) := by decide +kernel
theorem dX10_gapsOf_14 : decode cX10_gapsOf 14 = .ok (.getfield 16, 3) := by decide +kernel
theorem dX10_gapsOf_17 : decode cX10_gapsOf 17 = .ok (.iconst 5, 1) := by decide +kernel
theorem dX10_gapsOf_18 : decode cX10_gapsOf 18 = .ok (.iload_n 1, 1) := by decide +kernel
theorem dX10_gapsOf_19 : decode cX10_gapsOf 19 = .ok (.imul, 1) := by decide +kernel
theorem dX10_gapsOf_20 : decode cX10_gapsOf 20 = .ok (.iload_n 3, 1) := by decide +kernel
theorem dX10_gapsOf_21 : decode cX10_gapsOf 21 = .ok (.iadd, 1) := by decide +kernel
theorem dX10_gapsOf_22 : decode cX10_gapsOf 22 = .ok (.iaload, 1) := by decide +kernel
theorem dX10_gapsOf_23 : decode cX10_gapsOf 23 = .ok (.iadd, 1) := by decide +kernel
theorem dX10_gapsOf_24 : decode cX10_gapsOf 24 = .ok (.istore_n 2, 1) := by decide +kernel
theorem dX10_gapsOf_25 : decode cX10_gapsOf 25 = .ok (.iinc 3 1, 3) := by decide +kernel
theorem dX10_gapsOf_28 : decode cX10_gapsOf 28 = .ok (.goto (-24), 3) := by decide +kernel
theorem dX10_gapsOf_31 : decode cX10_gapsOf 31 = .ok (.iload_n 2, 1) := by decide +kernel
theorem dX10_gapsOf_32 : decode cX10_gapsOf 32 = .ok (.ireturn, 1) := by decide +kernel
theorem dX10_snapOn_0 : decode cX10_snapOn 0 = .ok (.iconst 0, 1) := by decide +kernel
theorem dX10_snapOn_1 : decode cX10_snapOn 1 = .ok (.istore_n 2, 1) := by decide +kernel
theorem dX10_snapOn_2 : decode cX10_snapOn 2 = .ok (.iload_n 2, 1) := by decide +kernel
theorem dX10_snapOn_3 : decode cX10_snapOn 3 = .ok (.iconst 5, 1) := by decide +kernel
theorem dX10_snapOn_4 : decode cX10_snapOn 4 = .ok (.if_icmp .ge 20, 3) := by decide +kernel
theorem dX10_snapOn_7 : decode cX10_snapOn 7 = .ok (.aload_n 0, 1) := by decide +kernel
theorem dX10_snapOn_8 : decode cX10_snapOn 8 = .ok (.getfield 16, 3) := by decide +kernel
theorem dX10_snapOn_11 : decode cX10_snapOn 11 = .ok (.iconst 5, 1) := by decide +kernel
theorem dX10_snapOn_12 : decode cX10_snapOn 12 = .ok (.iload_n 1, 1) := by decide +kernel
theorem dX10_snapOn_13 : decode cX10_snapOn 13 = .ok (.imul, 1) := by decide +kernel
theorem dX10_snapOn_14 : decode cX10_snapOn 14 = .ok (.iload_n 2, 1) := by decide +kernel
theorem dX10_snapOn_15 : decode cX10_snapOn 15 = .ok (.iadd, 1) := by decide +kernel
theorem dX10_snapOn_16 : decode cX10_snapOn 16 = .ok (.iconst 0, 1) := by decide +kernel
theorem dX10_snapOn_17 : decode cX10_snapOn 17 = .ok (.iastore, 1) := by decide +kernel
theorem dX10_snapOn_18 : decode cX10_snapOn 18 = .ok (.iinc 2 1, 3) := by decide +kernel
theorem dX10_snapOn_21 : decode cX10_snapOn 21 = .ok (.goto (-19), 3) := by decide +kernel
theorem dX10_snapOn_24 : decode cX10_snapOn 24 = .ok (.return_, 1) := by decide +kernel
theorem dX10_fling_0 : decode cX10_fling 0 = .ok (.aload_n 0, 1) := by decide +kernel
theorem dX10_fling_1 : decode cX10_fling 1 = .ok (.invokevirtual 145, 3) := by decide +kernel
theorem dX10_fling_4 : decode cX10_fling 4 = .ok (.aload_n 0, 1) := by decide +kernel
theorem dX10_fling_5 : decode cX10_fling 5 = .ok (.iconst 0, 1) := by decide +kernel
theorem dX10_fling_6 : decode cX10_fling 6 = .ok (.invokevirtual 151, 3) := by decide +kernel
theorem dX10_fling_9 : decode cX10_fling 9 = .ok (.ireturn, 1) := by decide +kernel
theorem dX10_snap_0 : decode cX10_snap 0 = .ok (.aload_n 0, 1) := by decide +kernel
theorem dX10_snap_1 : decode cX10_snap 1 = .ok (.invokevirtual 145, 3) := by decide +kernel
theorem dX10_snap_4 : decode cX10_snap 4 = .ok (.aload_n 0, 1) := by decide +kernel
theorem dX10_snap_5 : decode cX10_snap 5 = .ok (.iconst 0, 1) := by decide +kernel
theorem dX10_snap_6 : decode cX10_snap 6 = .ok (.invokevirtual 154, 3) := by decide +kernel
theorem dX10_snap_9 : decode cX10_snap 9 = .ok (.istore_n 1, 1) := by decide +kernel
theorem dX10_snap_10 : decode cX10_snap 10 = .ok (.aload_n 0, 1) := by decide +kernel
theorem dX10_snap_11 : decode cX10_snap 11 = .ok (.iconst 0, 1) := by decide +kernel
theorem dX10_snap_12 : decode cX10_snap 12 = .ok (.invokevirtual 157, 3) := by decide +kernel
theorem dX10_snap_15 : decode cX10_snap 15 = .ok (.iload_n 1, 1) := by decide +kernel
theorem dX10_snap_16 : decode cX10_snap 16 = .ok (.ireturn, 1) := by decide +kernel
theorem dX10_undo_0 : decode cX10_undo 0 = .ok (.aload_n 0, 1) := by decide +kernel
theorem dX10_undo_1 : decode cX10_undo 1 = .ok (.getfield 78, 3) := by decide +kernel
theorem dX10_undo_4 : decode cX10_undo 4 = .ok (.ifCond .ne 6, 3) := by decide +kernel
theorem dX10_undo_7 : decode cX10_undo 7 = .ok (.bipush (-3), 2) := by decide +kernel
theorem dX10_undo_9 : decode cX10_undo 9 = .ok (.ireturn, 1) := by decide +kernel
theorem dX10_undo_10 : decode cX10_undo 10 = .ok (.aload_n 0, 1) := by decide +kernel
theorem dX10_undo_11 : decode cX10_undo 11 = .ok (.dup, 1) := by decide +kernel
theorem dX10_undo_12 : decode cX10_undo 12 = .ok (.getfield 78, 3) := by decide +kernel
theorem dX10_undo_15 : decode cX10_undo 15 = .ok (.iconst 1, 1) := by decide +kernel
theorem dX10_undo_16 : decode cX10_undo 16 = .ok (.isub, 1) := by decide +kernel
theorem dX10_undo_17 : decode cX10_undo 17 = .ok (.putfield 78, 3) := by decide +kernel
theorem dX10_undo_20 : decode cX10_undo 20 = .ok (.aload_n 0, 1) := by decide +kernel
theorem dX10_undo_21 : decode cX10_undo 21 = .ok (.aload_n 0, 1) := by decide +kernel
theorem dX10_undo_22 : decode cX10_undo 22 = .ok (.getfield 136, 3) := by decide +kernel
theorem dX10_undo_25 : decode cX10_undo 25 = .ok (.bipush 13, 2) := by decide +kernel
theorem dX10_undo_27 : decode cX10_undo 27 = .ok (.iadd, 1) := by decide +kernel
theorem dX10_undo_28 : decode cX10_undo 28 = .ok (.bipush 14, 2) := by decide +kernel
theorem dX10_undo_30 : decode cX10_undo 30 = .ok (.irem, 1) := by decide +kernel
theorem dX10_undo_31 : decode cX10_undo 31 = .ok (.putfield 136, 3) := by decide +kernel
theorem dX10_undo_34 : decode cX10_undo 34 = .ok (.iconst 0, 1) := by decide +kernel
theorem dX10_undo_35 : decode cX10_undo 35 = .ok (.istore_n 1, 1) := by decide +kernel
theorem dX10_undo_36 : decode cX10_undo 36 = .ok (.iload_n 1, 1) := by decide +kernel
theorem dX10_undo_37 : decode cX10_undo 37 = .ok (.iconst 5, 1) := by decide +kernel
theorem dX10_undo_38 : decode cX10_undo 38 = .ok (.if_icmp .ge 28, 3) := by decide +kernel
theorem dX10_undo_41 : decode cX10_undo 41 = .ok (.aload_n 0, 1) := by decide +kernel
theorem dX10_undo_42 : decode cX10_undo 42 = .ok (.getfield 16, 3) := by decide +kernel
theorem dX10_undo_45 : decode cX10_undo 45 = .ok (.iload_n 1, 1) := by decide +kernel
theorem dX10_undo_46 : decode cX10_undo 46 = .ok (.aload_n 0, 1) := by decide +kernel
theorem dX10_undo_47 : decode cX10_undo 47 = .ok (.getfield 31, 3) := by decide +kernel
theorem dX10_undo_50 : decode cX10_undo 50 = .ok (.iconst 5, 1) := by decide +kernel
theorem dX10_undo_51 : decode cX10_undo 51 = .ok (.aload_n 0, 1) := by decide +kernel
theorem dX10_undo_52 : decode cX10_undo 52 = .ok (.getfield 136, 3) := by decide +kernel
theorem dX10_undo_55 : decode cX10_undo 55 = .ok (.imul, 1) := by decide +kernel
theorem dX10_undo_56 : decode cX10_undo 56 = .ok (.iload_n 1, 1) := by decide +kernel
theorem dX10_undo_57 : decode cX10_undo 57 = .ok (.iadd, 1) := by decide +kernel
theorem dX10_undo_58 : decode cX10_undo 58 = .ok (.iaload, 1) := by decide +kernel
theorem dX10_undo_59 : decode cX10_undo 59 = .ok (.iastore, 1) := by decide +kernel
theorem dX10_undo_60 : decode cX10_undo 60 = .ok (.iinc 1 1, 3) := by decide +kernel
theorem dX10_undo_63 : decode cX10_undo 63 = .ok (.goto (-27), 3) := by decide +kernel
theorem dX10_undo_66 : decode cX10_undo 66 = .ok (.aload_n 0, 1) := by decide +kernel
theorem dX10_undo_67 : decode cX10_undo 67 = .ok (.getfield 78, 3) := by decide +kernel
theorem dX10_undo_70 : decode cX10_undo 70 = .ok (.ireturn, 1) := by decide +kernel
theorem dX10_layTrial_0 : decode cX10_layTrial 0 = .ok (.iconst 0, 1) := by decide +kernel
theorem dX10_layTrial_1 : decode cX10_layTrial 1 = .ok (.istore_n 1, 1) := by decide +kernel
theorem dX10_layTrial_2 : decode cX10_layTrial 2 = .ok (.iload_n 1, 1) := by decide +kernel
theorem dX10_layTrial_3 : decode cX10_layTrial 3 = .ok (.iconst 5, 1) := by decide +kernel
theorem dX10_layTrial_4 : decode cX10_layTrial 4 = .ok (.if_icmp .ge 23, 3) := by decide +kernel
theorem dX10_layTrial_7 : decode cX10_layTrial 7 = .ok (.aload_n 0, 1) := by decide +kernel
theorem dX10_layTrial_8 : decode cX10_layTrial 8 = .ok (.getfield 16, 3) := by decide +kernel
theorem dX10_layTrial_11 : decode cX10_layTrial 11 = .ok (.iconst 5, 1) := by decide +kernel
theorem dX10_layTrial_12 : decode cX10_layTrial 12 = .ok (.iload_n 1, 1) := by decide +kernel
theorem dX10_layTrial_13 : decode cX10_layTrial 13 = .ok (.iadd, 1) := by decide +kernel
theorem dX10_layTrial_14 : decode cX10_layTrial 14 = .ok (.aload_n 0, 1) := by decide +kernel
