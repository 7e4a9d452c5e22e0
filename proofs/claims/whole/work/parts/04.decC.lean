theorem dX6_init_0 : decode cX6_init 0 = .ok (.aload_n 0, 1) := by decide +kernel
theorem dX6_init_1 : decode cX6_init 1 = .ok (.invokespecial 1, 3) := by decide +kernel
theorem dX6_init_4 : decode cX6_init 4 = .ok (.aload_n 0, 1) := by decide +kernel
theorem dX6_init_5 : decode cX6_init 5 = .ok (.lconst 1, 1) := by decide +kernel
theorem dX6_init_6 : decode cX6_init 6 = .ok (.putfield 7, 3) := by decide +kernel
theorem dX6_init_9 : decode cX6_init 9 = .ok (.aload_n 0, 1) := by decide +kernel
theorem dX6_init_10 : decode cX6_init 10 = .ok (.bipush 6, 2) := by decide +kernel
theorem dX6_init_12 : decode cX6_init 12 = .ok (.newarray .int, 2) := by decide +kernel
theorem dX6_init_14 : decode cX6_init 14 = .ok (.putfield 13, 3) := by decide +kernel
theorem dX6_init_17 : decode cX6_init 17 = .ok (.aload_n 0, 1) := by decide +kernel
theorem dX6_init_18 : decode cX6_init 18 = .ok (.bipush 6, 2) := by decide +kernel
theorem dX6_init_20 : decode cX6_init 20 = .ok (.newarray .int, 2) := by decide +kernel
theorem dX6_init_22 : decode cX6_init 22 = .ok (.putfield 17, 3) := by decide +kernel
theorem dX6_init_25 : decode cX6_init 25 = .ok (.aload_n 0, 1) := by decide +kernel
theorem dX6_init_26 : decode cX6_init 26 = .ok (.sipush 240, 3) := by decide +kernel
theorem dX6_init_29 : decode cX6_init 29 = .ok (.newarray .int, 2) := by decide +kernel
theorem dX6_init_31 : decode cX6_init 31 = .ok (.putfield 20, 3) := by decide +kernel
theorem dX6_init_34 : decode cX6_init 34 = .ok (.aload_n 0, 1) := by decide +kernel
theorem dX6_init_35 : decode cX6_init 35 = .ok (.bipush 40, 2) := by decide +kernel
theorem dX6_init_37 : decode cX6_init 37 = .ok (.newarray .int, 2) := by decide +kernel
theorem dX6_init_39 : decode cX6_init 39 = .ok (.putfield 23, 3) := by decide +kernel
theorem dX6_init_42 : decode cX6_init 42 = .ok (.aload_n 0, 1) := by decide +kernel
theorem dX6_init_43 : decode cX6_init 43 = .ok (.iconst 4, 1) := by decide +kernel
theorem dX6_init_44 : decode cX6_init 44 = .ok (.newarray .int, 2) := by decide +kernel
theorem dX6_init_46 : decode cX6_init 46 = .ok (.putfield 26, 3) := by decide +kernel
theorem dX6_init_49 : decode cX6_init 49 = .ok (.aload_n 0, 1) := by decide +kernel
theorem dX6_init_50 : decode cX6_init 50 = .ok (.sipush 480, 3) := by decide +kernel
theorem dX6_init_53 : decode cX6_init 53 = .ok (.newarray .byte, 2) := by decide +kernel
theorem dX6_init_55 : decode cX6_init 55 = .ok (.putfield 29, 3) := by decide +kernel
theorem dX6_init_58 : decode cX6_init 58 = .ok (.aload_n 0, 1) := by decide +kernel
theorem dX6_init_59 : decode cX6_init 59 = .ok (.bipush 8, 2) := by decide +kernel
theorem dX6_init_61 : decode cX6_init 61 = .ok (.newarray .int, 2) := by decide +kernel
theorem dX6_init_63 : decode cX6_init 63 = .ok (.putfield 33, 3) := by decide +kernel
theorem dX6_init_66 : decode cX6_init 66 = .ok (.aload_n 0, 1) := by decide +kernel
theorem dX6_init_67 : decode cX6_init 67 = .ok (.bipush 8, 2) := by decide +kernel
theorem dX6_init_69 : decode cX6_init 69 = .ok (.newarray .int, 2) := by decide +kernel
theorem dX6_init_71 : decode cX6_init 71 = .ok (.putfield 36, 3) := by decide +kernel
theorem dX6_init_74 : decode cX6_init 74 = .ok (.aload_n 0, 1) := by decide +kernel
theorem dX6_init_75 : decode cX6_init 75 = .ok (.bipush 8, 2) := by decide +kernel
theorem dX6_init_77 : decode cX6_init 77 = .ok (.newarray .int, 2) := by decide +kernel
theorem dX6_init_79 : decode cX6_init 79 = .ok (.putfield 39, 3) := by decide +kernel
theorem dX6_init_82 : decode cX6_init 82 = .ok (.aload_n 0, 1) := by decide +kernel
theorem dX6_init_83 : decode cX6_init 83 = .ok (.bipush 8, 2) := by decide +kernel
theorem dX6_init_85 : decode cX6_init 85 = .ok (.newarray .int, 2) := by decide +kernel
theorem dX6_init_87 : decode cX6_init 87 = .ok (.putfield 42, 3) := by decide +kernel
theorem dX6_init_90 : decode cX6_init 90 = .ok (.aload_n 0, 1) := by decide +kernel
theorem dX6_init_91 : decode cX6_init 91 = .ok (.bipush 8, 2) := by decide +kernel
theorem dX6_init_93 : decode cX6_init 93 = .ok (.newarray .int, 2) := by decide +kernel
theorem dX6_init_95 : decode cX6_init 95 = .ok (.putfield 45, 3) := by decide +kernel
theorem dX6_init_98 : decode cX6_init 98 = .ok (.aload_n 0, 1) := by decide +kernel
theorem dX6_init_99 : decode cX6_init 99 = .ok (.bipush 8, 2) := by decide +kernel
theorem dX6_init_101 : decode cX6_init 101 = .ok (.newarray .int, 2) := by decide +kernel
theorem dX6_init_103 : decode cX6_init 103 = .ok (.putfield 48, 3) := by decide +kernel
theorem dX6_init_106 : decode cX6_init 106 = .ok (.aload_n 0, 1) := by decide +kernel
theorem dX6_init_107 : decode cX6_init 107 = .ok (.bipush 8, 2) := by decide +kernel
theorem dX6_init_109 : decode cX6_init 109 = .ok (.newarray .int, 2) := by decide +kernel
theorem dX6_init_111 : decode cX6_init 111 = .ok (.putfield 51, 3) := by decide +kernel
theorem dX6_init_114 : decode cX6_init 114 = .ok (.aload_n 0, 1) := by decide +kernel
theorem dX6_init_115 : decode cX6_init 115 = .ok (.bipush 8, 2) := by decide +kernel
theorem dX6_init_117 : decode cX6_init 117 = .ok (.newarray .int, 2) := by decide +kernel
theorem dX6_init_119 : decode cX6_init 119 = .ok (.putfield 54, 3) := by decide +kernel
theorem dX6_init_122 : decode cX6_init 122 = .ok (.aload_n 0, 1) := by decide +kernel
theorem dX6_init_123 : decode cX6_init 123 = .ok (.bipush 12, 2) := by decide +kernel
theorem dX6_init_125 : decode cX6_init 125 = .ok (.newarray .int, 2) := by decide +kernel
theorem dX6_init_127 : decode cX6_init 127 = .ok (.putfield 57, 3) := by decide +kernel
theorem dX6_init_130 : decode cX6_init 130 = .ok (.aload_n 0, 1) := by decide +kernel
theorem dX6_init_131 : decode cX6_init 131 = .ok (.bipush 12, 2) := by decide +kernel
theorem dX6_init_133 : decode cX6_init 133 = .ok (.newarray .int, 2) := by decide +kernel
theorem dX6_init_135 : decode cX6_init 135 = .ok (.putfield 60, 3) := by decide +kernel
theorem dX6_init_138 : decode cX6_init 138 = .ok (.aload_n 0, 1) := by decide +kernel
theorem dX6_init_139 : decode cX6_init 139 = .ok (.sipush 480, 3) := by decide +kernel
theorem dX6_init_142 : decode cX6_init 142 = .ok (.newarray .int, 2) := by decide +kernel
theorem dX6_init_144 : decode cX6_init 144 = .ok (.putfield 63, 3) := by decide +kernel
theorem dX6_init_147 : decode cX6_init 147 = .ok (.aload_n 0, 1) := by decide +kernel
theorem dX6_init_148 : decode cX6_init 148 = .ok (.iconst 3, 1) := by decide +kernel
theorem dX6_init_149 : decode cX6_init 149 = .ok (.newarray .int, 2) := by decide +kernel
theorem dX6_init_151 : decode cX6_init 151 = .ok (.putfield 66, 3) := by decide +kernel
theorem dX6_init_154 : decode cX6_init 154 = .ok (.aload_n 0, 1) := by decide +kernel
theorem dX6_init_155 : decode cX6_init 155 = .ok (.sipush 1476, 3) := by decide +kernel
theorem dX6_init_158 : decode cX6_init 158 = .ok (.newarray .int, 2) := by decide +kernel
theorem dX6_init_160 : decode cX6_init 160 = .ok (.putfield 69, 3) := by decide +kernel
theorem dX6_init_163 : decode cX6_init 163 = .ok (.aload_n 0, 1) := by decide +kernel
theorem dX6_init_164 : decode cX6_init 164 = .ok (.sipush 6561, 3) := by decide +kernel
theorem dX6_init_167 : decode cX6_init 167 = .ok (.newarray .int, 2) := by decide +kernel
theorem dX6_init_169 : decode cX6_init 169 = .ok (.putfield 72, 3) := by decide +kernel
theorem dX6_init_172 : decode cX6_init 172 = .ok (.aload_n 0, 1) := by decide +kernel
theorem dX6_init_173 : decode cX6_init 173 = .ok (.bipush 13, 2) := by decide +kernel
theorem dX6_init_175 : decode cX6_init 175 = .ok (.newarray .long, 2) := by decide +kernel
theorem dX6_init_177 : decode cX6_init 177 = .ok (.putfield 75, 3) := by decide +kernel
theorem dX6_init_180 : decode cX6_init 180 = .ok (.iconst 0, 1) := by decide +kernel
theorem dX6_init_181 : decode cX6_init 181 = .ok (.istore_n 1, 1) := by decide +kernel
theorem dX6_init_182 : decode cX6_init 182 = .ok (.iload_n 1, 1) := by decide +kernel
theorem dX6_init_183 : decode cX6_init 183 = .ok (.bipush 6, 2) := by decide +kernel
theorem dX6_init_185 : decode cX6_init 185 = .ok (.if_icmp .ge 16, 3) := by decide +kernel
theorem dX6_init_188 : decode cX6_init 188 = .ok (.aload_n 0, 1) := by decide +kernel
theorem dX6_init_189 : decode cX6_init 189 = .ok (.getfield 17, 3) := by decide +kernel
theorem dX6_init_192 : decode cX6_init 192 = .ok (.iload_n 1, 1) := by decide +kernel
theorem dX6_init_193 : decode cX6_init 193 = .ok (.iconst (-1), 1) := by decide +kernel
theorem dX6_init_194 : decode cX6_init 194 = .ok (.iastore, 1) := by decide +kernel
theorem dX6_init_195 : decode cX6_init 195 = .ok (.iinc 1 1, 3) := by decide +kernel
theorem dX6_init_198 : decode cX6_init 198 = .ok (.goto (-16), 3) := by decide +kernel
theorem dX6_init_201 : decode cX6_init 201 = .ok (.iconst 0, 1) := by decide +kernel
theorem dX6_init_202 : decode cX6_init 202 = .ok (.istore_n 1, 1) := by decide +kernel
theorem dX6_init_203 : decode cX6_init 203 = .ok (.iload_n 1, 1) := by decide +kernel
theorem dX6_init_204 : decode cX6_init 204 = .ok (.iconst 4, 1) := by decide +kernel
theorem dX6_init_205 : decode cX6_init 205 = .ok (.if_icmp .ge 16, 3) := by decide +kernel
theorem dX6_init_208 : decode cX6_init 208 = .ok (.aload_n 0, 1) := by decide +kernel
theorem dX6_init_209 : decode cX6_init 209 = .ok (.getfield 26, 3) := by decide +kernel
theorem dX6_init_212 : decode cX6_init 212 = .ok (.iload_n 1, 1) := by decide +kernel
theorem dX6_init_213 : decode cX6_init 213 = .ok (.iconst (-1), 1) := by decide +kernel
theorem dX6_init_214 : decode cX6_init 214 = .ok (.iastore, 1) := by decide +kernel
theorem dX6_init_215 : decode cX6_init 215 = .ok (.iinc 1 1, 3) := by decide +kernel
theorem dX6_init_218 : decode cX6_init 218 = .ok (.goto (-15), 3) := by decide +kernel
theorem dX6_init_221 : decode cX6_init 221 = .ok (.iconst 0, 1) := by decide +kernel
theorem dX6_init_222 : decode cX6_init 222 = .ok (.istore_n 1, 1) := by decide +kernel
theorem dX6_init_223 : decode cX6_init 223 = .ok (.iload_n 1, 1) := by decide +kernel
theorem dX6_init_224 : decode cX6_init 224 = .ok (.iconst 3, 1) := by decide +kernel
theorem dX6_init_225 : decode cX6_init 225 = .ok (.if_icmp .ge 16, 3) := by decide +kernel
theorem dX6_init_228 : decode cX6_init 228 = .ok (.aload_n 0, 1) := by decide +kernel
theorem dX6_init_229 : decode cX6_init 229 = .ok (.getfield 66, 3) := by decide +kernel
theorem dX6_init_232 : decode cX6_init 232 = .ok (.iload_n 1, 1) := by decide +kernel
theorem dX6_init_233 : decode cX6_init 233 = .ok (.iconst (-1), 1) := by decide +kernel
theorem dX6_init_234 : decode cX6_init 234 = .ok (.iastore, 1) := by decide +kernel
theorem dX6_init_235 : decode cX6_init 235 = .ok (.iinc 1 1, 3) := by decide +kernel
theorem dX6_init_238 : decode cX6_init 238 = .ok (.goto (-15), 3) := by decide +kernel
theorem dX6_init_241 : decode cX6_init 241 = .ok (.return_, 1) := by decide +kernel
theorem dX6_in_0 : decode cX6_in 0 = .ok (.iload_n 0, 1) := by decide +kernel
theorem dX6_in_1 : decode cX6_in 1 = .ok (.iload_n 1, 1) := by decide +kernel
theorem dX6_in_2 : decode cX6_in 2 = .ok (.if_icmp .lt 12, 3) := by decide +kernel
theorem dX6_in_5 : decode cX6_in 5 = .ok (.iload_n 0, 1) := by decide +kernel
theorem dX6_in_6 : decode cX6_in 6 = .ok (.iload_n 2, 1) := by decide +kernel
theorem dX6_in_7 : decode cX6_in 7 = .ok (.if_icmp .gt 7, 3) := by decide +kernel
theorem dX6_in_10 : decode cX6_in 10 = .ok (.iconst 1, 1) := by decide +kernel
theorem dX6_in_11 : decode cX6_in 11 = .ok (.goto 4, 3) := by decide +kernel
theorem dX6_in_14 : decode cX6_in 14 = .ok (.iconst 0, 1) := by decide +kernel
theorem dX6_in_15 : decode cX6_in 15 = .ok (.ireturn, 1) := by decide +kernel
theorem dX6_has_0 : decode cX6_has 0 = .ok (.iload_n 0, 1) := by decide +kernel
theorem dX6_has_1 : decode cX6_has 1 = .ok (.iload_n 1, 1) := by decide +kernel
theorem dX6_has_2 : decode cX6_has 2 = .ok (.ishr, 1) := by decide +kernel
theorem dX6_has_3 : decode cX6_has 3 = .ok (.iconst 1, 1) := by decide +kernel
theorem dX6_has_4 : decode cX6_has 4 = .ok (.iand, 1) := by decide +kernel
theorem dX6_has_5 : decode cX6_has 5 = .ok (.iconst 1, 1) := by decide +kernel
theorem dX6_has_6 : decode cX6_has 6 = .ok (.if_icmp .ne 7, 3) := by decide +kernel
theorem dX6_has_9 : decode cX6_has 9 = .ok (.iconst 1, 1) := by decide +kernel
theorem dX6_has_10 : decode cX6_has 10 = .ok (.goto 4, 3) := by decide +kernel
theorem dX6_has_13 : decode cX6_has 13 = .ok (.iconst 0, 1) := by decide +kernel
theorem dX6_has_14 : decode cX6_has 14 = .ok (.ireturn, 1) := by decide +kernel
theorem dX6_bits_0 : decode cX6_bits 0 = .ok (.iconst 0, 1) := by decide +kernel
theorem dX6_bits_1 : decode cX6_bits 1 = .ok (.istore_n 1, 1) := by decide +kernel
theorem dX6_bits_2 : decode cX6_bits 2 = .ok (.iload_n 0, 1) := by decide +kernel
theorem dX6_bits_3 : decode cX6_bits 3 = .ok (.istore_n 2, 1) := by decide +kernel
theorem dX6_bits_4 : decode cX6_bits 4 = .ok (.iload_n 2, 1) := by decide +kernel
theorem dX6_bits_5 : decode cX6_bits 5 = .ok (.ifCond .eq 15, 3) := by decide +kernel
theorem dX6_bits_8 : decode cX6_bits 8 = .ok (.iinc 1 1, 3) := by decide +kernel
theorem dX6_bits_11 : decode cX6_bits 11 = .ok (.iload_n 2, 1) := by decide +kernel
theorem dX6_bits_12 : decode cX6_bits 12 = .ok (.iload_n 2, 1) := by decide +kernel
theorem dX6_bits_13 : decode cX6_bits 13 = .ok (.iconst 1, 1) := by decide +kernel
theorem dX6_bits_14 : decode cX6_bits 14 = .ok (.isub, 1) := by decide +kernel
theorem dX6_bits_15 : decode cX6_bits 15 = .ok (.iand, 1) := by decide +kernel
theorem dX6_bits_16 : decode cX6_bits 16 = .ok (.istore_n 2, 1) := by decide +kernel
theorem dX6_bits_17 : decode cX6_bits 17 = .ok (.goto (-13), 3) := by decide +kernel
theorem dX6_bits_20 : decode cX6_bits 20 = .ok (.iload_n 1, 1) := by decide +kernel
theorem dX6_bits_21 : decode cX6_bits 21 = .ok (.ireturn, 1) := by decide +kernel
theorem dX6_meets_0 : decode cX6_meets 0 = .ok (.aload_n 0, 1) := by decide +kernel
theorem dX6_meets_1 : decode cX6_meets 1 = .ok (.iload_n 1, 1) := by decide +kernel
theorem dX6_meets_2 : decode cX6_meets 2 = .ok (.putfield 79, 3) := by decide +kernel
theorem dX6_meets_5 : decode cX6_meets 5 = .ok (.aload_n 0, 1) := by decide +kernel
theorem dX6_meets_6 : decode cX6_meets 6 = .ok (.getfield 13, 3) := by decide +kernel
theorem dX6_meets_9 : decode cX6_meets 9 = .ok (.iload_n 1, 1) := by decide +kernel
theorem dX6_meets_10 : decode cX6_meets 10 = .ok (.dup2, 1) := by decide +kernel
theorem dX6_meets_11 : decode cX6_meets 11 = .ok (.iaload, 1) := by decide +kernel
theorem dX6_meets_12 : decode cX6_meets 12 = .ok (.iconst 1, 1) := by decide +kernel
theorem dX6_meets_13 : decode cX6_meets 13 = .ok (.iadd, 1) := by decide +kernel
theorem dX6_meets_14 : decode cX6_meets 14 = .ok (.iastore, 1) := by decide +kernel
theorem dX6_meets_15 : decode cX6_meets 15 = .ok (.bipush (-3), 2) := by decide +kernel
theorem dX6_meets_17 : decode cX6_meets 17 = .ok (.ireturn, 1) := by decide +kernel
theorem dX6_tells_0 : decode cX6_tells 0 = .ok (.aload_n 0, 1) := by decide +kernel
theorem dX6_tells_1 : decode cX6_tells 1 = .ok (.iload_n 1, 1) := by decide +kernel
theorem dX6_tells_2 : decode cX6_tells 2 = .ok (.putfield 83, 3) := by decide +kernel
theorem dX6_tells_5 : decode cX6_tells 5 = .ok (.iload_n 2, 1) := by decide +kernel
theorem dX6_tells_6 : decode cX6_tells 6 = .ok (.ireturn, 1) := by decide +kernel
theorem dX6_asked_0 : decode cX6_asked 0 = .ok (.aload_n 0, 1) := by decide +kernel
theorem dX6_asked_1 : decode cX6_asked 1 = .ok (.getfield 83, 3) := by decide +kernel
theorem dX6_asked_4 : decode cX6_asked 4 = .ok (.ireturn, 1) := by decide +kernel
theorem dX6_upper_0 : decode cX6_upper 0 = .ok (.aload_n 0, 1) := by decide +kernel
theorem dX6_upper_1 : decode cX6_upper 1 = .ok (.getfield 86, 3) := by decide +kernel
theorem dX6_upper_4 : decode cX6_upper 4 = .ok (.lreturn, 1) := by decide +kernel
theorem dX6_lower_0 : decode cX6_lower 0 = .ok (.aload_n 0, 1) := by decide +kernel
theorem dX6_lower_1 : decode cX6_lower 1 = .ok (.getfield 7, 3) := by decide +kernel
theorem dX6_lower_4 : decode cX6_lower 4 = .ok (.lreturn, 1) := by decide +kernel
theorem dX6_lowest_0 : decode cX6_lowest 0 = .ok (.lload_n 1, 1) := by decide +kernel
theorem dX6_lowest_1 : decode cX6_lowest 1 = .ok (.lstore 5, 2) := by decide +kernel
theorem dX6_lowest_3 : decode cX6_lowest 3 = .ok (.lload_n 3, 1) := by decide +kernel
theorem dX6_lowest_4 : decode cX6_lowest 4 = .ok (.lstore 7, 2) := by decide +kernel
theorem dX6_lowest_6 : decode cX6_lowest 6 = .ok (.lload 7, 2) := by decide +kernel
theorem dX6_lowest_8 : decode cX6_lowest 8 = .ok (.lconst 0, 1) := by decide +kernel
theorem dX6_lowest_9 : decode cX6_lowest 9 = .ok (.lcmp, 1) := by decide +kernel
theorem dX6_lowest_10 : decode cX6_lowest 10 = .ok (.ifCond .eq 21, 3) := by decide +kernel
theorem dX6_lowest_13 : decode cX6_lowest 13 = .ok (.lload 5, 2) := by decide +kernel
theorem dX6_lowest_15 : decode cX6_lowest 15 = .ok (.lload 7, 2) := by decide +kernel
theorem dX6_lowest_17 : decode cX6_lowest 17 = .ok (.lrem, 1) := by decide +kernel
theorem dX6_lowest_18 : decode cX6_lowest 18 = .ok (.lstore 9, 2) := by decide +kernel
theorem dX6_lowest_20 : decode cX6_lowest 20 = .ok (.lload 7, 2) := by decide +kernel
theorem dX6_lowest_22 : decode cX6_lowest 22 = .ok (.lstore 5, 2) := by decide +kernel
theorem dX6_lowest_24 : decode cX6_lowest 24 = .ok (.lload 9, 2) := by decide +kernel
theorem dX6_lowest_26 : decode cX6_lowest 26 = .ok (.lstore 7, 2) := by decide +kernel
theorem dX6_lowest_28 : decode cX6_lowest 28 = .ok (.goto (-22), 3) := by decide +kernel
theorem dX6_lowest_31 : decode cX6_lowest 31 = .ok (.aload_n 0, 1) := by decide +kernel
theorem dX6_lowest_32 : decode cX6_lowest 32 = .ok (.lload_n 1, 1) := by decide +kernel
theorem dX6_lowest_33 : decode cX6_lowest 33 = .ok (.lload 5, 2) := by decide +kernel
theorem dX6_lowest_35 : decode cX6_lowest 35 = .ok (.ldiv, 1) := by decide +kernel
theorem dX6_lowest_36 : decode cX6_lowest 36 = .ok (.putfield 86, 3) := by decide +kernel
theorem dX6_lowest_39 : decode cX6_lowest 39 = .ok (.aload_n 0, 1) := by decide +kernel
theorem dX6_lowest_40 : decode cX6_lowest 40 = .ok (.lload_n 3, 1) := by decide +kernel
theorem dX6_lowest_41 : decode cX6_lowest 41 = .ok (.lload 5, 2) := by decide +kernel
theorem dX6_lowest_43 : decode cX6_lowest 43 = .ok (.ldiv, 1) := by decide +kernel
theorem dX6_lowest_44 : decode cX6_lowest 44 = .ok (.putfield 7, 3) := by decide +kernel
theorem dX6_lowest_47 : decode cX6_lowest 47 = .ok (.iconst 1, 1) := by decide +kernel
theorem dX6_lowest_48 : decode cX6_lowest 48 = .ok (.ireturn, 1) := by decide +kernel
theorem dX6_finding_0 : decode cX6_finding 0 = .ok (.aload_n 0, 1) := by decide +kernel
theorem dX6_finding_1 : decode cX6_finding 1 = .ok (.getfield 79, 3) := by decide +kernel
theorem dX6_finding_4 : decode cX6_finding 4 = .ok (.ireturn, 1) := by decide +kernel
theorem dX6_findings_0 : decode cX6_findings 0 = .ok (.iload_n 1, 1) := by decide +kernel
theorem dX6_findings_1 : decode cX6_findings 1 = .ok (.iconst 1, 1) := by decide +kernel
theorem dX6_findings_2 : decode cX6_findings 2 = .ok (.iconst 5, 1) := by decide +kernel
theorem dX6_findings_3 : decode cX6_findings 3 = .ok (.invokestatic 89, 3) := by decide +kernel
theorem dX6_findings_6 : decode cX6_findings 6 = .ok (.ifCond .eq 12, 3) := by decide +kernel
theorem dX6_findings_9 : decode cX6_findings 9 = .ok (.aload_n 0, 1) := by decide +kernel
theorem dX6_findings_10 : decode cX6_findings 10 = .ok (.getfield 13, 3) := by decide +kernel
theorem dX6_findings_13 : decode cX6_findings 13 = .ok (.iload_n 1, 1) := by decide +kernel
theorem dX6_findings_14 : decode cX6_findings 14 = .ok (.iaload, 1) := by decide +kernel
theorem dX6_findings_15 : decode cX6_findings 15 = .ok (.goto 4, 3) := by decide +kernel
theorem dX6_findings_18 : decode cX6_findings 18 = .ok (.iconst (-1), 1) := by decide +kernel
theorem dX6_findings_19 : decode cX6_findings 19 = .ok (.ireturn, 1) := by decide +kernel
theorem dX6_isRow_0 : decode cX6_isRow 0 = .ok (.iload_n 0, 1) := by decide +kernel
theorem dX6_isRow_1 : decode cX6_isRow 1 = .ok (.iconst 0, 1) := by decide +kernel
theorem dX6_isRow_2 : decode cX6_isRow 2 = .ok (.iconst 5, 1) := by decide +kernel
theorem dX6_isRow_3 : decode cX6_isRow 3 = .ok (.invokestatic 89, 3) := by decide +kernel
theorem dX6_isRow_6 : decode cX6_isRow 6 = .ok (.ireturn, 1) := by decide +kernel
theorem dX6_rowAt_0 : decode cX6_rowAt 0 = .ok (.aload_n 0, 1) := by decide +kernel
theorem dX6_rowAt_1 : decode cX6_rowAt 1 = .ok (.getfield 20, 3) := by decide +kernel
theorem dX6_rowAt_4 : decode cX6_rowAt 4 = .ok (.bipush 40, 2) := by decide +kernel
theorem dX6_rowAt_6 : decode cX6_rowAt 6 = .ok (.iload_n 1, 1) := by decide +kernel
theorem dX6_rowAt_7 : decode cX6_rowAt 7 = .ok (.imul, 1) := by decide +kernel
theorem dX6_rowAt_8 : decode cX6_rowAt 8 = .ok (.iload_n 2, 1) := by decide +kernel
theorem dX6_rowAt_9 : decode cX6_rowAt 9 = .ok (.iadd, 1) := by decide +kernel
theorem dX6_rowAt_10 : decode cX6_rowAt 10 = .ok (.iaload, 1) := by decide +kernel
theorem dX6_rowAt_11 : decode cX6_rowAt 11 = .ok (.ireturn, 1) := by decide +kernel
theorem dX6_row_0 : decode cX6_row 0 = .ok (.iload_n 1, 1) := by decide +kernel
theorem dX6_row_1 : decode cX6_row 1 = .ok (.invokestatic 93, 3) := by decide +kernel
theorem dX6_row_4 : decode cX6_row 4 = .ok (.ifCond .eq 9, 3) := by decide +kernel
theorem dX6_row_7 : decode cX6_row 7 = .ok (.iload_n 2, 1) := by decide +kernel
theorem dX6_row_8 : decode cX6_row 8 = .ok (.bipush 40, 2) := by decide +kernel
theorem dX6_row_10 : decode cX6_row 10 = .ok (.if_icmp .le 5, 3) := by decide +kernel
theorem dX6_row_13 : decode cX6_row 13 = .ok (.iconst (-1), 1) := by decide +kernel
theorem dX6_row_14 : decode cX6_row 14 = .ok (.ireturn, 1) := by decide +kernel
theorem dX6_row_15 : decode cX6_row 15 = .ok (.iload_n 2, 1) := by decide +kernel
theorem dX6_row_16 : decode cX6_row 16 = .ok (.ifCond .ge 9, 3) := by decide +kernel
theorem dX6_row_19 : decode cX6_row 19 = .ok (.aload_n 0, 1) := by decide +kernel
theorem dX6_row_20 : decode cX6_row 20 = .ok (.iconst 5, 1) := by decide +kernel
theorem dX6_row_21 : decode cX6_row 21 = .ok (.invokevirtual 97, 3) := by decide +kernel
theorem dX6_row_24 : decode cX6_row 24 = .ok (.ireturn, 1) := by decide +kernel
theorem dX6_row_25 : decode cX6_row 25 = .ok (.aload_n 0, 1) := by decide +kernel
theorem dX6_row_26 : decode cX6_row 26 = .ok (.getfield 17, 3) := by decide +kernel
theorem dX6_row_29 : decode cX6_row 29 = .ok (.iload_n 1, 1) := by decide +kernel
theorem dX6_row_30 : decode cX6_row 30 = .ok (.iload_n 2, 1) := by decide +kernel
theorem dX6_row_31 : decode cX6_row 31 = .ok (.iastore, 1) := by decide +kernel
theorem dX6_row_32 : decode cX6_row 32 = .ok (.iconst 0, 1) := by decide +kernel
theorem dX6_row_33 : decode cX6_row 33 = .ok (.istore_n 3, 1) := by decide +kernel
theorem dX6_row_34 : decode cX6_row 34 = .ok (.iload_n 3, 1) := by decide +kernel
theorem dX6_row_35 : decode cX6_row 35 = .ok (.bipush 40, 2) := by decide +kernel
theorem dX6_row_37 : decode cX6_row 37 = .ok (.if_icmp .ge 21, 3) := by decide +kernel
theorem dX6_row_40 : decode cX6_row 40 = .ok (.aload_n 0, 1) := by decide +kernel
theorem dX6_row_41 : decode cX6_row 41 = .ok (.getfield 20, 3) := by decide +kernel
theorem dX6_row_44 : decode cX6_row 44 = .ok (.bipush 40, 2) := by decide +kernel
theorem dX6_row_46 : decode cX6_row 46 = .ok (.iload_n 1, 1) := by decide +kernel
theorem dX6_row_47 : decode cX6_row 47 = .ok (.imul, 1) := by decide +kernel
theorem dX6_row_48 : decode cX6_row 48 = .ok (.iload_n 3, 1) := by decide +kernel
theorem dX6_row_49 : decode cX6_row 49 = .ok (.iadd, 1) := by decide +kernel
theorem dX6_row_50 : decode cX6_row 50 = .ok (.iconst 0, 1) := by decide +kernel
theorem dX6_row_51 : decode cX6_row 51 = .ok (.iastore, 1) := by decide +kernel
theorem dX6_row_52 : decode cX6_row 52 = .ok (.iinc 3 1, 3) := by decide +kernel
theorem dX6_row_55 : decode cX6_row 55 = .ok (.goto (-21), 3) := by decide +kernel
theorem dX6_row_58 : decode cX6_row 58 = .ok (.iload_n 2, 1) := by decide +kernel
theorem dX6_row_59 : decode cX6_row 59 = .ok (.ireturn, 1) := by decide +kernel
theorem dX6_lay_0 : decode cX6_lay 0 = .ok (.iload_n 1, 1) := by decide +kernel
theorem dX6_lay_1 : decode cX6_lay 1 = .ok (.invokestatic 93, 3) := by decide +kernel
theorem dX6_lay_4 : decode cX6_lay 4 = .ok (.ifCond .ne 5, 3) := by decide +kernel
theorem dX6_lay_7 : decode cX6_lay 7 = .ok (.iconst (-1), 1) := by decide +kernel
theorem dX6_lay_8 : decode cX6_lay 8 = .ok (.ireturn, 1) := by decide +kernel
theorem dX6_lay_9 : decode cX6_lay 9 = .ok (.aload_n 0, 1) := by decide +kernel
theorem dX6_lay_10 : decode cX6_lay 10 = .ok (.getfield 17, 3) := by decide +kernel
theorem dX6_lay_13 : decode cX6_lay 13 = .ok (.iload_n 1, 1) := by decide +kernel
theorem dX6_lay_14 : decode cX6_lay 14 = .ok (.iaload, 1) := by decide +kernel
theorem dX6_lay_15 : decode cX6_lay 15 = .ok (.ifCond .ge 9, 3) := by decide +kernel
theorem dX6_lay_18 : decode cX6_lay 18 = .ok (.aload_n 0, 1) := by decide +kernel
theorem dX6_lay_19 : decode cX6_lay 19 = .ok (.iconst 1, 1) := by decide +kernel
theorem dX6_lay_20 : decode cX6_lay 20 = .ok (.invokevirtual 97, 3) := by decide +kernel
theorem dX6_lay_23 : decode cX6_lay 23 = .ok (.ireturn, 1) := by decide +kernel
theorem dX6_lay_24 : decode cX6_lay 24 = .ok (.iload_n 2, 1) := by decide +kernel
theorem dX6_lay_25 : decode cX6_lay 25 = .ok (.iconst 0, 1) := by decide +kernel
theorem dX6_lay_26 : decode cX6_lay 26 = .ok (.aload_n 0, 1) := by decide +kernel
theorem dX6_lay_27 : decode cX6_lay 27 = .ok (.getfield 17, 3) := by decide +kernel
theorem dX6_lay_30 : decode cX6_lay 30 = .ok (.iload_n 1, 1) := by decide +kernel
theorem dX6_lay_31 : decode cX6_lay 31 = .ok (.iaload, 1) := by decide +kernel
theorem dX6_lay_32 : decode cX6_lay 32 = .ok (.iconst 1, 1) := by decide +kernel
theorem dX6_lay_33 : decode cX6_lay 33 = .ok (.isub, 1) := by decide +kernel
theorem dX6_lay_34 : decode cX6_lay 34 = .ok (.invokestatic 89, 3) := by decide +kernel
theorem dX6_lay_37 : decode cX6_lay 37 = .ok (.ifCond .ne 9, 3) := by decide +kernel
theorem dX6_lay_40 : decode cX6_lay 40 = .ok (.aload_n 0, 1) := by decide +kernel
theorem dX6_lay_41 : decode cX6_lay 41 = .ok (.iconst 2, 1) := by decide +kernel
theorem dX6_lay_42 : decode cX6_lay 42 = .ok (.invokevirtual 97, 3) := by decide +kernel
theorem dX6_lay_45 : decode cX6_lay 45 = .ok (.ireturn, 1) := by decide +kernel
theorem dX6_lay_46 : decode cX6_lay 46 = .ok (.aload_n 0, 1) := by decide +kernel
theorem dX6_lay_47 : decode cX6_lay 47 = .ok (.iload_n 1, 1) := by decide +kernel
theorem dX6_lay_48 : decode cX6_lay 48 = .ok (.iload_n 2, 1) := by decide +kernel
theorem dX6_lay_49 : decode cX6_lay 49 = .ok (.invokevirtual 101, 3) := by decide +kernel
theorem dX6_lay_52 : decode cX6_lay 52 = .ok (.istore 4, 2) := by decide +kernel
theorem dX6_lay_54 : decode cX6_lay 54 = .ok (.aload_n 0, 1) := by decide +kernel
theorem dX6_lay_55 : decode cX6_lay 55 = .ok (.getfield 20, 3) := by decide +kernel
theorem dX6_lay_58 : decode cX6_lay 58 = .ok (.bipush 40, 2) := by decide +kernel
theorem dX6_lay_60 : decode cX6_lay 60 = .ok (.iload_n 1, 1) := by decide +kernel
theorem dX6_lay_61 : decode cX6_lay 61 = .ok (.imul, 1) := by decide +kernel
theorem dX6_lay_62 : decode cX6_lay 62 = .ok (.iload_n 2, 1) := by decide +kernel
theorem dX6_lay_63 : decode cX6_lay 63 = .ok (.iadd, 1) := by decide +kernel
theorem dX6_lay_64 : decode cX6_lay 64 = .ok (.iload_n 3, 1) := by decide +kernel
theorem dX6_lay_65 : decode cX6_lay 65 = .ok (.iastore, 1) := by decide +kernel
theorem dX6_lay_66 : decode cX6_lay 66 = .ok (.aload_n 0, 1) := by decide +kernel
theorem dX6_lay_67 : decode cX6_lay 67 = .ok (.iload 4, 2) := by decide +kernel
theorem dX6_lay_69 : decode cX6_lay 69 = .ok (.iconst 1, 1) := by decide +kernel
theorem dX6_lay_70 : decode cX6_lay 70 = .ok (.invokevirtual 105, 3) := by decide +kernel
theorem dX6_lay_73 : decode cX6_lay 73 = .ok (.ireturn, 1) := by decide +kernel
theorem dX6_at_0 : decode cX6_at 0 = .ok (.iload_n 1, 1) := by decide +kernel
theorem dX6_at_1 : decode cX6_at 1 = .ok (.invokestatic 93, 3) := by decide +kernel
theorem dX6_at_4 : decode cX6_at 4 = .ok (.ifCond .ne 5, 3) := by decide +kernel
theorem dX6_at_7 : decode cX6_at 7 = .ok (.iconst (-1), 1) := by decide +kernel
theorem dX6_at_8 : decode cX6_at 8 = .ok (.ireturn, 1) := by decide +kernel
theorem dX6_at_9 : decode cX6_at 9 = .ok (.aload_n 0, 1) := by decide +kernel
theorem dX6_at_10 : decode cX6_at 10 = .ok (.getfield 17, 3) := by decide +kernel
theorem dX6_at_13 : decode cX6_at 13 = .ok (.iload_n 1, 1) := by decide +kernel
theorem dX6_at_14 : decode cX6_at 14 = .ok (.iaload, 1) := by decide +kernel
theorem dX6_at_15 : decode cX6_at 15 = .ok (.ifCond .ge 9, 3) := by decide +kernel
theorem dX6_at_18 : decode cX6_at 18 = .ok (.aload_n 0, 1) := by decide +kernel
theorem dX6_at_19 : decode cX6_at 19 = .ok (.iconst 1, 1) := by decide +kernel
theorem dX6_at_20 : decode cX6_at 20 = .ok (.invokevirtual 97, 3) := by decide +kernel
theorem dX6_at_23 : decode cX6_at 23 = .ok (.ireturn, 1) := by decide +kernel
theorem dX6_at_24 : decode cX6_at 24 = .ok (.iload_n 2, 1) := by decide +kernel
theorem dX6_at_25 : decode cX6_at 25 = .ok (.iconst 0, 1) := by decide +kernel
theorem dX6_at_26 : decode cX6_at 26 = .ok (.aload_n 0, 1) := by decide +kernel
theorem dX6_at_27 : decode cX6_at 27 = .ok (.getfield 17, 3) := by decide +kernel
theorem dX6_at_30 : decode cX6_at 30 = .ok (.iload_n 1, 1) := by decide +kernel
theorem dX6_at_31 : decode cX6_at 31 = .ok (.iaload, 1) := by decide +kernel
theorem dX6_at_32 : decode cX6_at 32 = .ok (.iconst 1, 1) := by decide +kernel
theorem dX6_at_33 : decode cX6_at 33 = .ok (.isub, 1) := by decide +kernel
theorem dX6_at_34 : decode cX6_at 34 = .ok (.invokestatic 89, 3) := by decide +kernel
theorem dX6_at_37 : decode cX6_at 37 = .ok (.ifCond .eq 17, 3) := by decide +kernel
theorem dX6_at_40 : decode cX6_at 40 = .ok (.aload_n 0, 1) := by decide +kernel
theorem dX6_at_41 : decode cX6_at 41 = .ok (.aload_n 0, 1) := by decide +kernel
theorem dX6_at_42 : decode cX6_at 42 = .ok (.iload_n 1, 1) := by decide +kernel
theorem dX6_at_43 : decode cX6_at 43 = .ok (.iload_n 2, 1) := by decide +kernel
theorem dX6_at_44 : decode cX6_at 44 = .ok (.invokevirtual 101, 3) := by decide +kernel
theorem dX6_at_47 : decode cX6_at 47 = .ok (.iconst 1, 1) := by decide +kernel
theorem dX6_at_48 : decode cX6_at 48 = .ok (.invokevirtual 105, 3) := by decide +kernel
theorem dX6_at_51 : decode cX6_at 51 = .ok (.goto 8, 3) := by decide +kernel
theorem dX6_at_54 : decode cX6_at 54 = .ok (.aload_n 0, 1) := by decide +kernel
theorem dX6_at_55 : decode cX6_at 55 = .ok (.iconst 2, 1) := by decide +kernel
theorem dX6_at_56 : decode cX6_at 56 = .ok (.invokevirtual 97, 3) := by decide +kernel
theorem dX6_at_59 : decode cX6_at 59 = .ok (.ireturn, 1) := by decide +kernel
theorem dX6_tear_0 : decode cX6_tear 0 = .ok (.iload_n 1, 1) := by decide +kernel
theorem dX6_tear_1 : decode cX6_tear 1 = .ok (.invokestatic 93, 3) := by decide +kernel
theorem dX6_tear_4 : decode cX6_tear 4 = .ok (.ifCond .ne 5, 3) := by decide +kernel
theorem dX6_tear_7 : decode cX6_tear 7 = .ok (.iconst (-1), 1) := by decide +kernel
theorem dX6_tear_8 : decode cX6_tear 8 = .ok (.ireturn, 1) := by decide +kernel
theorem dX6_tear_9 : decode cX6_tear 9 = .ok (.aload_n 0, 1) := by decide +kernel
theorem dX6_tear_10 : decode cX6_tear 10 = .ok (.getfield 17, 3) := by decide +kernel
theorem dX6_tear_13 : decode cX6_tear 13 = .ok (.iload_n 1, 1) := by decide +kernel
theorem dX6_tear_14 : decode cX6_tear 14 = .ok (.iaload, 1) := by decide +kernel
theorem dX6_tear_15 : decode cX6_tear 15 = .ok (.ifCond .ge 9, 3) := by decide +kernel
theorem dX6_tear_18 : decode cX6_tear 18 = .ok (.aload_n 0, 1) := by decide +kernel
theorem dX6_tear_19 : decode cX6_tear 19 = .ok (.iconst 1, 1) := by decide +kernel
theorem dX6_tear_20 : decode cX6_tear 20 = .ok (.invokevirtual 97, 3) := by decide +kernel
theorem dX6_tear_23 : decode cX6_tear 23 = .ok (.ireturn, 1) := by decide +kernel
theorem dX6_tear_24 : decode cX6_tear 24 = .ok (.aload_n 0, 1) := by decide +kernel
theorem dX6_tear_25 : decode cX6_tear 25 = .ok (.getfield 17, 3) := by decide +kernel
theorem dX6_tear_28 : decode cX6_tear 28 = .ok (.iload_n 1, 1) := by decide +kernel
theorem dX6_tear_29 : decode cX6_tear 29 = .ok (.iconst (-1), 1) := by decide +kernel
theorem dX6_tear_30 : decode cX6_tear 30 = .ok (.iastore, 1) := by decide +kernel
theorem dX6_tear_31 : decode cX6_tear 31 = .ok (.iconst 1, 1) := by decide +kernel
theorem dX6_tear_32 : decode cX6_tear 32 = .ok (.ireturn, 1) := by decide +kernel
theorem dX6_copy_0 : decode cX6_copy 0 = .ok (.iload_n 1, 1) := by decide +kernel
theorem dX6_copy_1 : decode cX6_copy 1 = .ok (.invokestatic 93, 3) := by decide +kernel
theorem dX6_copy_4 : decode cX6_copy 4 = .ok (.ifCond .eq 10, 3) := by decide +kernel
theorem dX6_copy_7 : decode cX6_copy 7 = .ok (.iload_n 3, 1) := by decide +kernel
theorem dX6_copy_8 : decode cX6_copy 8 = .ok (.invokestatic 93, 3) := by decide +kernel
theorem dX6_copy_11 : decode cX6_copy 11 = .ok (.ifCond .ne 5, 3) := by decide +kernel
theorem dX6_copy_14 : decode cX6_copy 14 = .ok (.iconst (-1), 1) := by decide +kernel
theorem dX6_copy_15 : decode cX6_copy 15 = .ok (.ireturn, 1) := by decide +kernel
theorem dX6_copy_16 : decode cX6_copy 16 = .ok (.iload 5, 2) := by decide +kernel
theorem dX6_copy_18 : decode cX6_copy 18 = .ok (.ifCond .ge 9, 3) := by decide +kernel
theorem dX6_copy_21 : decode cX6_copy 21 = .ok (.aload_n 0, 1) := by decide +kernel
theorem dX6_copy_22 : decode cX6_copy 22 = .ok (.iconst 5, 1) := by decide +kernel
theorem dX6_copy_23 : decode cX6_copy 23 = .ok (.invokevirtual 97, 3) := by decide +kernel
theorem dX6_copy_26 : decode cX6_copy 26 = .ok (.ireturn, 1) := by decide +kernel
theorem dX6_copy_27 : decode cX6_copy 27 = .ok (.aload_n 0, 1) := by decide +kernel
theorem dX6_copy_28 : decode cX6_copy 28 = .ok (.getfield 17, 3) := by decide +kernel
theorem dX6_copy_31 : decode cX6_copy 31 = .ok (.iload_n 1, 1) := by decide +kernel
theorem dX6_copy_32 : decode cX6_copy 32 = .ok (.iaload, 1) := by decide +kernel
theorem dX6_copy_33 : decode cX6_copy 33 = .ok (.ifCond .lt 12, 3) := by decide +kernel
theorem dX6_copy_36 : decode cX6_copy 36 = .ok (.aload_n 0, 1) := by decide +kernel
theorem dX6_copy_37 : decode cX6_copy 37 = .ok (.getfield 17, 3) := by decide +kernel
theorem dX6_copy_40 : decode cX6_copy 40 = .ok (.iload_n 3, 1) := by decide +kernel
theorem dX6_copy_41 : decode cX6_copy 41 = .ok (.iaload, 1) := by decide +kernel
theorem dX6_copy_42 : decode cX6_copy 42 = .ok (.ifCond .ge 9, 3) := by decide +kernel
theorem dX6_copy_45 : decode cX6_copy 45 = .ok (.aload_n 0, 1) := by decide +kernel
theorem dX6_copy_46 : decode cX6_copy 46 = .ok (.iconst 1, 1) := by decide +kernel
theorem dX6_copy_47 : decode cX6_copy 47 = .ok (.invokevirtual 97, 3) := by decide +kernel
theorem dX6_copy_50 : decode cX6_copy 50 = .ok (.ireturn, 1) := by decide +kernel
theorem dX6_copy_51 : decode cX6_copy 51 = .ok (.iload_n 2, 1) := by decide +kernel
theorem dX6_copy_52 : decode cX6_copy 52 = .ok (.ifCond .lt 43, 3) := by decide +kernel
theorem dX6_copy_55 : decode cX6_copy 55 = .ok (.iload 4, 2) := by decide +kernel
theorem dX6_copy_57 : decode cX6_copy 57 = .ok (.ifCond .lt 38, 3) := by decide +kernel
theorem dX6_copy_60 : decode cX6_copy 60 = .ok (.iload_n 2, 1) := by decide +kernel
theorem dX6_copy_61 : decode cX6_copy 61 = .ok (.i2l, 1) := by decide +kernel
theorem dX6_copy_62 : decode cX6_copy 62 = .ok (.iload 5, 2) := by decide +kernel
theorem dX6_copy_64 : decode cX6_copy 64 = .ok (.i2l, 1) := by decide +kernel
theorem dX6_copy_65 : decode cX6_copy 65 = .ok (.ladd, 1) := by decide +kernel
theorem dX6_copy_66 : decode cX6_copy 66 = .ok (.aload_n 0, 1) := by decide +kernel
theorem dX6_copy_67 : decode cX6_copy 67 = .ok (.getfield 17, 3) := by decide +kernel
theorem dX6_copy_70 : decode cX6_copy 70 = .ok (.iload_n 1, 1) := by decide +kernel
theorem dX6_copy_71 : decode cX6_copy 71 = .ok (.iaload, 1) := by decide +kernel
theorem dX6_copy_72 : decode cX6_copy 72 = .ok (.i2l, 1) := by decide +kernel
theorem dX6_copy_73 : decode cX6_copy 73 = .ok (.lcmp, 1) := by decide +kernel
theorem dX6_copy_74 : decode cX6_copy 74 = .ok (.ifCond .gt 21, 3) := by decide +kernel
theorem dX6_copy_77 : decode cX6_copy 77 = .ok (.iload 4, 2) := by decide +kernel
theorem dX6_copy_79 : decode cX6_copy 79 = .ok (.i2l, 1) := by decide +kernel
theorem dX6_copy_80 : decode cX6_copy 80 = .ok (.iload 5, 2) := by decide +kernel
theorem dX6_copy_82 : decode cX6_copy 82 = .ok (.i2l, 1) := by decide +kernel
theorem dX6_copy_83 : decode cX6_copy 83 = .ok (.ladd, 1) := by decide +kernel
theorem dX6_copy_84 : decode cX6_copy 84 = .ok (.aload_n 0, 1) := by decide +kernel
theorem dX6_copy_85 : decode cX6_copy 85 = .ok (.getfield 17, 3) := by decide +kernel
theorem dX6_copy_88 : decode cX6_copy 88 = .ok (.iload_n 3, 1) := by decide +kernel
theorem dX6_copy_89 : decode cX6_copy 89 = .ok (.iaload, 1) := by decide +kernel
theorem dX6_copy_90 : decode cX6_copy 90 = .ok (.i2l, 1) := by decide +kernel
theorem dX6_copy_91 : decode cX6_copy 91 = .ok (.lcmp, 1) := by decide +kernel
theorem dX6_copy_92 : decode cX6_copy 92 = .ok (.ifCond .le 9, 3) := by decide +kernel
theorem dX6_copy_95 : decode cX6_copy 95 = .ok (.aload_n 0, 1) := by decide +kernel
theorem dX6_copy_96 : decode cX6_copy 96 = .ok (.iconst 2, 1) := by decide +kernel
theorem dX6_copy_97 : decode cX6_copy 97 = .ok (.invokevirtual 97, 3) := by decide +kernel
theorem dX6_copy_100 : decode cX6_copy 100 = .ok (.ireturn, 1) := by decide +kernel
theorem dX6_copy_101 : decode cX6_copy 101 = .ok (.iconst 0, 1) := by decide +kernel
theorem dX6_copy_102 : decode cX6_copy 102 = .ok (.istore 6, 2) := by decide +kernel
theorem dX6_copy_104 : decode cX6_copy 104 = .ok (.iload 6, 2) := by decide +kernel
theorem dX6_copy_106 : decode cX6_copy 106 = .ok (.iload 5, 2) := by decide +kernel
theorem dX6_copy_108 : decode cX6_copy 108 = .ok (.if_icmp .ge 25, 3) := by decide +kernel
theorem dX6_copy_111 : decode cX6_copy 111 = .ok (.aload_n 0, 1) := by decide +kernel
theorem dX6_copy_112 : decode cX6_copy 112 = .ok (.getfield 23, 3) := by decide +kernel
theorem dX6_copy_115 : decode cX6_copy 115 = .ok (.iload 6, 2) := by decide +kernel
theorem dX6_copy_117 : decode cX6_copy 117 = .ok (.aload_n 0, 1) := by decide +kernel
theorem dX6_copy_118 : decode cX6_copy 118 = .ok (.iload_n 1, 1) := by decide +kernel
theorem dX6_copy_119 : decode cX6_copy 119 = .ok (.iload_n 2, 1) := by decide +kernel
theorem dX6_copy_120 : decode cX6_copy 120 = .ok (.iload 6, 2) := by decide +kernel
theorem dX6_copy_122 : decode cX6_copy 122 = .ok (.iadd, 1) := by decide +kernel
theorem dX6_copy_123 : decode cX6_copy 123 = .ok (.invokevirtual 101, 3) := by decide +kernel
theorem dX6_copy_126 : decode cX6_copy 126 = .ok (.iastore, 1) := by decide +kernel
theorem dX6_copy_127 : decode cX6_copy 127 = .ok (.iinc 6 1, 3) := by decide +kernel
theorem dX6_copy_130 : decode cX6_copy 130 = .ok (.goto (-26), 3) := by decide +kernel
theorem dX6_copy_133 : decode cX6_copy 133 = .ok (.iconst 0, 1) := by decide +kernel
theorem dX6_copy_134 : decode cX6_copy 134 = .ok (.istore 6, 2) := by decide +kernel
theorem dX6_copy_136 : decode cX6_copy 136 = .ok (.iload 6, 2) := by decide +kernel
theorem dX6_copy_138 : decode cX6_copy 138 = .ok (.iload 5, 2) := by decide +kernel
theorem dX6_copy_140 : decode cX6_copy 140 = .ok (.if_icmp .ge 31, 3) := by decide +kernel
theorem dX6_copy_143 : decode cX6_copy 143 = .ok (.aload_n 0, 1) := by decide +kernel
theorem dX6_copy_144 : decode cX6_copy 144 = .ok (.getfield 20, 3) := by decide +kernel
theorem dX6_copy_147 : decode cX6_copy 147 = .ok (.bipush 40, 2) := by decide +kernel
theorem dX6_copy_149 : decode cX6_copy 149 = .ok (.iload_n 3, 1) := by decide +kernel
theorem dX6_copy_150 : decode cX6_copy 150 = .ok (.imul, 1) := by decide +kernel
theorem dX6_copy_151 : decode cX6_copy 151 = .ok (.iload 4, 2) := by decide +kernel
theorem dX6_copy_153 : decode cX6_copy 153 = .ok (.iadd, 1) := by decide +kernel
theorem dX6_copy_154 : decode cX6_copy 154 = .ok (.iload 6, 2) := by decide +kernel
theorem dX6_copy_156 : decode cX6_copy 156 = .ok (.iadd, 1) := by decide +kernel
theorem dX6_copy_157 : decode cX6_copy 157 = .ok (.aload_n 0, 1) := by decide +kernel
theorem dX6_copy_158 : decode cX6_copy 158 = .ok (.getfield 23, 3) := by decide +kernel
theorem dX6_copy_161 : decode cX6_copy 161 = .ok (.iload 6, 2) := by decide +kernel
theorem dX6_copy_163 : decode cX6_copy 163 = .ok (.iaload, 1) := by decide +kernel
theorem dX6_copy_164 : decode cX6_copy 164 = .ok (.iastore, 1) := by decide +kernel
theorem dX6_copy_165 : decode cX6_copy 165 = .ok (.iinc 6 1, 3) := by decide +kernel
theorem dX6_copy_168 : decode cX6_copy 168 = .ok (.goto (-32), 3) := by decide +kernel
theorem dX6_copy_171 : decode cX6_copy 171 = .ok (.iconst 1, 1) := by decide +kernel
theorem dX6_copy_172 : decode cX6_copy 172 = .ok (.ireturn, 1) := by decide +kernel
theorem dX6_mean_0 : decode cX6_mean 0 = .ok (.iload_n 1, 1) := by decide +kernel
theorem dX6_mean_1 : decode cX6_mean 1 = .ok (.invokestatic 93, 3) := by decide +kernel
theorem dX6_mean_4 : decode cX6_mean 4 = .ok (.ifCond .ne 5, 3) := by decide +kernel
theorem dX6_mean_7 : decode cX6_mean 7 = .ok (.iconst (-1), 1) := by decide +kernel
theorem dX6_mean_8 : decode cX6_mean 8 = .ok (.ireturn, 1) := by decide +kernel
theorem dX6_mean_9 : decode cX6_mean 9 = .ok (.aload_n 0, 1) := by decide +kernel
theorem dX6_mean_10 : decode cX6_mean 10 = .ok (.getfield 17, 3) := by decide +kernel
theorem dX6_mean_13 : decode cX6_mean 13 = .ok (.iload_n 1, 1) := by decide +kernel
theorem dX6_mean_14 : decode cX6_mean 14 = .ok (.iaload, 1) := by decide +kernel
theorem dX6_mean_15 : decode cX6_mean 15 = .ok (.ifCond .ge 9, 3) := by decide +kernel
theorem dX6_mean_18 : decode cX6_mean 18 = .ok (.aload_n 0, 1) := by decide +kernel
theorem dX6_mean_19 : decode cX6_mean 19 = .ok (.iconst 1, 1) := by decide +kernel
theorem dX6_mean_20 : decode cX6_mean 20 = .ok (.invokevirtual 97, 3) := by decide +kernel
theorem dX6_mean_23 : decode cX6_mean 23 = .ok (.ireturn, 1) := by decide +kernel
theorem dX6_mean_24 : decode cX6_mean 24 = .ok (.aload_n 0, 1) := by decide +kernel
theorem dX6_mean_25 : decode cX6_mean 25 = .ok (.getfield 17, 3) := by decide +kernel
theorem dX6_mean_28 : decode cX6_mean 28 = .ok (.iload_n 1, 1) := by decide +kernel
theorem dX6_mean_29 : decode cX6_mean 29 = .ok (.iaload, 1) := by decide +kernel
theorem dX6_mean_30 : decode cX6_mean 30 = .ok (.ifCond .ne 9, 3) := by decide +kernel
theorem dX6_mean_33 : decode cX6_mean 33 = .ok (.aload_n 0, 1) := by decide +kernel
theorem dX6_mean_34 : decode cX6_mean 34 = .ok (.iconst 4, 1) := by decide +kernel
theorem dX6_mean_35 : decode cX6_mean 35 = .ok (.invokevirtual 97, 3) := by decide +kernel
theorem dX6_mean_38 : decode cX6_mean 38 = .ok (.ireturn, 1) := by decide +kernel
theorem dX6_mean_39 : decode cX6_mean 39 = .ok (.lconst 0, 1) := by decide +kernel
theorem dX6_mean_40 : decode cX6_mean 40 = .ok (.lstore_n 2, 1) := by decide +kernel
theorem dX6_mean_41 : decode cX6_mean 41 = .ok (.iconst 0, 1) := by decide +kernel
theorem dX6_mean_42 : decode cX6_mean 42 = .ok (.istore 4, 2) := by decide +kernel
theorem dX6_mean_44 : decode cX6_mean 44 = .ok (.iload 4, 2) := by decide +kernel
theorem dX6_mean_46 : decode cX6_mean 46 = .ok (.aload_n 0, 1) := by decide +kernel
theorem dX6_mean_47 : decode cX6_mean 47 = .ok (.getfield 17, 3) := by decide +kernel
theorem dX6_mean_50 : decode cX6_mean 50 = .ok (.iload_n 1, 1) := by decide +kernel
theorem dX6_mean_51 : decode cX6_mean 51 = .ok (.iaload, 1) := by decide +kernel
theorem dX6_mean_52 : decode cX6_mean 52 = .ok (.if_icmp .ge 20, 3) := by decide +kernel
theorem dX6_mean_55 : decode cX6_mean 55 = .ok (.lload_n 2, 1) := by decide +kernel
theorem dX6_mean_56 : decode cX6_mean 56 = .ok (.aload_n 0, 1) := by decide +kernel
theorem dX6_mean_57 : decode cX6_mean 57 = .ok (.iload_n 1, 1) := by decide +kernel
theorem dX6_mean_58 : decode cX6_mean 58 = .ok (.iload 4, 2) := by decide +kernel
theorem dX6_mean_60 : decode cX6_mean 60 = .ok (.invokevirtual 101, 3) := by decide +kernel
theorem dX6_mean_63 : decode cX6_mean 63 = .ok (.i2l, 1) := by decide +kernel
theorem dX6_mean_64 : decode cX6_mean 64 = .ok (.ladd, 1) := by decide +kernel
theorem dX6_mean_65 : decode cX6_mean 65 = .ok (.lstore_n 2, 1) := by decide +kernel
theorem dX6_mean_66 : decode cX6_mean 66 = .ok (.iinc 4 1, 3) := by decide +kernel
theorem dX6_mean_69 : decode cX6_mean 69 = .ok (.goto (-25), 3) := by decide +kernel
theorem dX6_mean_72 : decode cX6_mean 72 = .ok (.aload_n 0, 1) := by decide +kernel
theorem dX6_mean_73 : decode cX6_mean 73 = .ok (.lload_n 2, 1) := by decide +kernel
theorem dX6_mean_74 : decode cX6_mean 74 = .ok (.aload_n 0, 1) := by decide +kernel
theorem dX6_mean_75 : decode cX6_mean 75 = .ok (.getfield 17, 3) := by decide +kernel
theorem dX6_mean_78 : decode cX6_mean 78 = .ok (.iload_n 1, 1) := by decide +kernel
theorem dX6_mean_79 : decode cX6_mean 79 = .ok (.iaload, 1) := by decide +kernel
theorem dX6_mean_80 : decode cX6_mean 80 = .ok (.i2l, 1) := by decide +kernel
theorem dX6_mean_81 : decode cX6_mean 81 = .ok (.ldiv, 1) := by decide +kernel
theorem dX6_mean_82 : decode cX6_mean 82 = .ok (.l2i, 1) := by decide +kernel
theorem dX6_mean_83 : decode cX6_mean 83 = .ok (.iconst 1, 1) := by decide +kernel
theorem dX6_mean_84 : decode cX6_mean 84 = .ok (.invokevirtual 105, 3) := by decide +kernel
theorem dX6_mean_87 : decode cX6_mean 87 = .ok (.ireturn, 1) := by decide +kernel
theorem dX6_isText_0 : decode cX6_isText 0 = .ok (.iload_n 0, 1) := by decide +kernel
theorem dX6_isText_1 : decode cX6_isText 1 = .ok (.iconst 0, 1) := by decide +kernel
theorem dX6_isText_2 : decode cX6_isText 2 = .ok (.iconst 3, 1) := by decide +kernel
theorem dX6_isText_3 : decode cX6_isText 3 = .ok (.invokestatic 89, 3) := by decide +kernel
theorem dX6_isText_6 : decode cX6_isText 6 = .ok (.ireturn, 1) := by decide +kernel
theorem dX6_text_0 : decode cX6_text 0 = .ok (.iload_n 1, 1) := by decide +kernel
theorem dX6_text_1 : decode cX6_text 1 = .ok (.invokestatic 108, 3) := by decide +kernel
theorem dX6_text_4 : decode cX6_text 4 = .ok (.ifCond .eq 9, 3) := by decide +kernel
theorem dX6_text_7 : decode cX6_text 7 = .ok (.iload_n 2, 1) := by decide +kernel
theorem dX6_text_8 : decode cX6_text 8 = .ok (.bipush 60, 2) := by decide +kernel
theorem dX6_text_10 : decode cX6_text 10 = .ok (.if_icmp .le 5, 3) := by decide +kernel
theorem dX6_text_13 : decode cX6_text 13 = .ok (.iconst (-1), 1) := by decide +kernel
theorem dX6_text_14 : decode cX6_text 14 = .ok (.ireturn, 1) := by decide +kernel
theorem dX6_text_15 : decode cX6_text 15 = .ok (.iload_n 2, 1) := by decide +kernel
theorem dX6_text_16 : decode cX6_text 16 = .ok (.ifCond .ge 9, 3) := by decide +kernel
theorem dX6_text_19 : decode cX6_text 19 = .ok (.aload_n 0, 1) := by decide +kernel
theorem dX6_text_20 : decode cX6_text 20 = .ok (.iconst 5, 1) := by decide +kernel
theorem dX6_text_21 : decode cX6_text 21 = .ok (.invokevirtual 97, 3) := by decide +kernel
theorem dX6_text_24 : decode cX6_text 24 = .ok (.ireturn, 1) := by decide +kernel
theorem dX6_text_25 : decode cX6_text 25 = .ok (.aload_n 0, 1) := by decide +kernel
theorem dX6_text_26 : decode cX6_text 26 = .ok (.getfield 26, 3) := by decide +kernel
theorem dX6_text_29 : decode cX6_text 29 = .ok (.iload_n 1, 1) := by decide +kernel
theorem dX6_text_30 : decode cX6_text 30 = .ok (.iload_n 2, 1) := by decide +kernel
theorem dX6_text_31 : decode cX6_text 31 = .ok (.iastore, 1) := by decide +kernel
theorem dX6_text_32 : decode cX6_text 32 = .ok (.iconst 0, 1) := by decide +kernel
theorem dX6_text_33 : decode cX6_text 33 = .ok (.istore_n 3, 1) := by decide +kernel
theorem dX6_text_34 : decode cX6_text 34 = .ok (.iload_n 3, 1) := by decide +kernel
theorem dX6_text_35 : decode cX6_text 35 = .ok (.bipush 60, 2) := by decide +kernel
theorem dX6_text_37 : decode cX6_text 37 = .ok (.if_icmp .ge 22, 3) := by decide +kernel
theorem dX6_text_40 : decode cX6_text 40 = .ok (.aload_n 0, 1) := by decide +kernel
theorem dX6_text_41 : decode cX6_text 41 = .ok (.getfield 29, 3) := by decide +kernel
theorem dX6_text_44 : decode cX6_text 44 = .ok (.bipush 60, 2) := by decide +kernel
theorem dX6_text_46 : decode cX6_text 46 = .ok (.iload_n 1, 1) := by decide +kernel
theorem dX6_text_47 : decode cX6_text 47 = .ok (.imul, 1) := by decide +kernel
theorem dX6_text_48 : decode cX6_text 48 = .ok (.iload_n 3, 1) := by decide +kernel
theorem dX6_text_49 : decode cX6_text 49 = .ok (.iadd, 1) := by decide +kernel
theorem dX6_text_50 : decode cX6_text 50 = .ok (.bipush 32, 2) := by decide +kernel
theorem dX6_text_52 : decode cX6_text 52 = .ok (.bastore, 1) := by decide +kernel
theorem dX6_text_53 : decode cX6_text 53 = .ok (.iinc 3 1, 3) := by decide +kernel
theorem dX6_text_56 : decode cX6_text 56 = .ok (.goto (-22), 3) := by decide +kernel
theorem dX6_text_59 : decode cX6_text 59 = .ok (.iload_n 2, 1) := by decide +kernel
theorem dX6_text_60 : decode cX6_text 60 = .ok (.ireturn, 1) := by decide +kernel
theorem dX6_put_0 : decode cX6_put 0 = .ok (.iload_n 1, 1) := by decide +kernel
theorem dX6_put_1 : decode cX6_put 1 = .ok (.invokestatic 108, 3) := by decide +kernel
theorem dX6_put_4 : decode cX6_put 4 = .ok (.ifCond .ne 5, 3) := by decide +kernel
theorem dX6_put_7 : decode cX6_put 7 = .ok (.iconst (-1), 1) := by decide +kernel
theorem dX6_put_8 : decode cX6_put 8 = .ok (.ireturn, 1) := by decide +kernel
theorem dX6_put_9 : decode cX6_put 9 = .ok (.aload_n 0, 1) := by decide +kernel
theorem dX6_put_10 : decode cX6_put 10 = .ok (.getfield 26, 3) := by decide +kernel
theorem dX6_put_13 : decode cX6_put 13 = .ok (.iload_n 1, 1) := by decide +kernel
theorem dX6_put_14 : decode cX6_put 14 = .ok (.iaload, 1) := by decide +kernel
theorem dX6_put_15 : decode cX6_put 15 = .ok (.ifCond .ge 9, 3) := by decide +kernel
theorem dX6_put_18 : decode cX6_put 18 = .ok (.aload_n 0, 1) := by decide +kernel
theorem dX6_put_19 : decode cX6_put 19 = .ok (.iconst 1, 1) := by decide +kernel
theorem dX6_put_20 : decode cX6_put 20 = .ok (.invokevirtual 97, 3) := by decide +kernel
theorem dX6_put_23 : decode cX6_put 23 = .ok (.ireturn, 1) := by decide +kernel
theorem dX6_put_24 : decode cX6_put 24 = .ok (.iload_n 2, 1) := by decide +kernel
theorem dX6_put_25 : decode cX6_put 25 = .ok (.iconst 0, 1) := by decide +kernel
theorem dX6_put_26 : decode cX6_put 26 = .ok (.aload_n 0, 1) := by decide +kernel
theorem dX6_put_27 : decode cX6_put 27 = .ok (.getfield 26, 3) := by decide +kernel
theorem dX6_put_30 : decode cX6_put 30 = .ok (.iload_n 1, 1) := by decide +kernel
theorem dX6_put_31 : decode cX6_put 31 = .ok (.iaload, 1) := by decide +kernel
theorem dX6_put_32 : decode cX6_put 32 = .ok (.iconst 1, 1) := by decide +kernel
theorem dX6_put_33 : decode cX6_put 33 = .ok (.isub, 1) := by decide +kernel
theorem dX6_put_34 : decode cX6_put 34 = .ok (.invokestatic 89, 3) := by decide +kernel
theorem dX6_put_37 : decode cX6_put 37 = .ok (.ifCond .ne 9, 3) := by decide +kernel
theorem dX6_put_40 : decode cX6_put 40 = .ok (.aload_n 0, 1) := by decide +kernel
theorem dX6_put_41 : decode cX6_put 41 = .ok (.iconst 2, 1) := by decide +kernel
theorem dX6_put_42 : decode cX6_put 42 = .ok (.invokevirtual 97, 3) := by decide +kernel
theorem dX6_put_45 : decode cX6_put 45 = .ok (.ireturn, 1) := by decide +kernel
theorem dX6_put_46 : decode cX6_put 46 = .ok (.aload_n 0, 1) := by decide +kernel
theorem dX6_put_47 : decode cX6_put 47 = .ok (.getfield 29, 3) := by decide +kernel
theorem dX6_put_50 : decode cX6_put 50 = .ok (.bipush 60, 2) := by decide +kernel
theorem dX6_put_52 : decode cX6_put 52 = .ok (.iload_n 1, 1) := by decide +kernel
theorem dX6_put_53 : decode cX6_put 53 = .ok (.imul, 1) := by decide +kernel
theorem dX6_put_54 : decode cX6_put 54 = .ok (.iload_n 2, 1) := by decide +kernel
theorem dX6_put_55 : decode cX6_put 55 = .ok (.iadd, 1) := by decide +kernel
theorem dX6_put_56 : decode cX6_put 56 = .ok (.baload, 1) := by decide +kernel
theorem dX6_put_57 : decode cX6_put 57 = .ok (.istore 4, 2) := by decide +kernel
theorem dX6_put_59 : decode cX6_put 59 = .ok (.aload_n 0, 1) := by decide +kernel
theorem dX6_put_60 : decode cX6_put 60 = .ok (.getfield 29, 3) := by decide +kernel
theorem dX6_put_63 : decode cX6_put 63 = .ok (.bipush 60, 2) := by decide +kernel
theorem dX6_put_65 : decode cX6_put 65 = .ok (.iload_n 1, 1) := by decide +kernel
theorem dX6_put_66 : decode cX6_put 66 = .ok (.imul, 1) := by decide +kernel
theorem dX6_put_67 : decode cX6_put 67 = .ok (.iload_n 2, 1) := by decide +kernel
theorem dX6_put_68 : decode cX6_put 68 = .ok (.iadd, 1) := by decide +kernel
theorem dX6_put_69 : decode cX6_put 69 = .ok (.iload_n 3, 1) := by decide +kernel
theorem dX6_put_70 : decode cX6_put 70 = .ok (.i2b, 1) := by decide +kernel
theorem dX6_put_71 : decode cX6_put 71 = .ok (.bastore, 1) := by decide +kernel
theorem dX6_put_72 : decode cX6_put 72 = .ok (.sipush 1000, 3) := by decide +kernel
theorem dX6_put_75 : decode cX6_put 75 = .ok (.iload 4, 2) := by decide +kernel
theorem dX6_put_77 : decode cX6_put 77 = .ok (.iadd, 1) := by decide +kernel
theorem dX6_put_78 : decode cX6_put 78 = .ok (.ireturn, 1) := by decide +kernel
theorem dX6_letterAt_0 : decode cX6_letterAt 0 = .ok (.iload_n 2, 1) := by decide +kernel
theorem dX6_letterAt_1 : decode cX6_letterAt 1 = .ok (.aload_n 0, 1) := by decide +kernel
theorem dX6_letterAt_2 : decode cX6_letterAt 2 = .ok (.getfield 26, 3) := by decide +kernel
theorem dX6_letterAt_5 : decode cX6_letterAt 5 = .ok (.iload_n 1, 1) := by decide +kernel
theorem dX6_letterAt_6 : decode cX6_letterAt 6 = .ok (.iaload, 1) := by decide +kernel
theorem dX6_letterAt_7 : decode cX6_letterAt 7 = .ok (.if_icmp .ge 17, 3) := by decide +kernel
theorem dX6_letterAt_10 : decode cX6_letterAt 10 = .ok (.aload_n 0, 1) := by decide +kernel
theorem dX6_letterAt_11 : decode cX6_letterAt 11 = .ok (.getfield 29, 3) := by decide +kernel
theorem dX6_letterAt_14 : decode cX6_letterAt 14 = .ok (.bipush 60, 2) := by decide +kernel
theorem dX6_letterAt_16 : decode cX6_letterAt 16 = .ok (.iload_n 1, 1) := by decide +kernel
theorem dX6_letterAt_17 : decode cX6_letterAt 17 = .ok (.imul, 1) := by decide +kernel
theorem dX6_letterAt_18 : decode cX6_letterAt 18 = .ok (.iload_n 2, 1) := by decide +kernel
theorem dX6_letterAt_19 : decode cX6_letterAt 19 = .ok (.iadd, 1) := by decide +kernel
theorem dX6_letterAt_20 : decode cX6_letterAt 20 = .ok (.baload, 1) := by decide +kernel
theorem dX6_letterAt_21 : decode cX6_letterAt 21 = .ok (.goto 4, 3) := by decide +kernel
theorem dX6_letterAt_24 : decode cX6_letterAt 24 = .ok (.iconst 0, 1) := by decide +kernel
theorem dX6_letterAt_25 : decode cX6_letterAt 25 = .ok (.ireturn, 1) := by decide +kernel
theorem dX6_kindOf_0 : decode cX6_kindOf 0 = .ok (.iload_n 0, 1) := by decide +kernel
theorem dX6_kindOf_1 : decode cX6_kindOf 1 = .ok (.tableswitch 103 99 117 #[91, 103, 95, 103, 97, 103, 99, 103, 103, 103, 103, 103, 103, 103, 103, 103, 93, 103, 101], 91) := by decide +kernel
theorem dX6_kindOf_92 : decode cX6_kindOf 92 = .ok (.iconst 0, 1) := by decide +kernel
theorem dX6_kindOf_93 : decode cX6_kindOf 93 = .ok (.ireturn, 1) := by decide +kernel
theorem dX6_kindOf_94 : decode cX6_kindOf 94 = .ok (.iconst 1, 1) := by decide +kernel
theorem dX6_kindOf_95 : decode cX6_kindOf 95 = .ok (.ireturn, 1) := by decide +kernel
theorem dX6_kindOf_96 : decode cX6_kindOf 96 = .ok (.iconst 2, 1) := by decide +kernel
theorem dX6_kindOf_97 : decode cX6_kindOf 97 = .ok (.ireturn, 1) := by decide +kernel
theorem dX6_kindOf_98 : decode cX6_kindOf 98 = .ok (.iconst 3, 1) := by decide +kernel
theorem dX6_kindOf_99 : decode cX6_kindOf 99 = .ok (.ireturn, 1) := by decide +kernel
theorem dX6_kindOf_100 : decode cX6_kindOf 100 = .ok (.iconst 4, 1) := by decide +kernel
theorem dX6_kindOf_101 : decode cX6_kindOf 101 = .ok (.ireturn, 1) := by decide +kernel
theorem dX6_kindOf_102 : decode cX6_kindOf 102 = .ok (.iconst 5, 1) := by decide +kernel
theorem dX6_kindOf_103 : decode cX6_kindOf 103 = .ok (.ireturn, 1) := by decide +kernel
theorem dX6_kindOf_104 : decode cX6_kindOf 104 = .ok (.bipush (-9), 2) := by decide +kernel
theorem dX6_kindOf_106 : decode cX6_kindOf 106 = .ok (.ireturn, 1) := by decide +kernel
theorem dX6_reads_0 : decode cX6_reads 0 = .ok (.aload_n 0, 1) := by decide +kernel
theorem dX6_reads_1 : decode cX6_reads 1 = .ok (.iload_n 1, 1) := by decide +kernel
theorem dX6_reads_2 : decode cX6_reads 2 = .ok (.aload_n 0, 1) := by decide +kernel
theorem dX6_reads_3 : decode cX6_reads 3 = .ok (.getfield 111, 3) := by decide +kernel
theorem dX6_reads_6 : decode cX6_reads 6 = .ok (.invokevirtual 114, 3) := by decide +kernel
theorem dX6_reads_9 : decode cX6_reads 9 = .ok (.bipush 48, 2) := by decide +kernel
theorem dX6_reads_11 : decode cX6_reads 11 = .ok (.isub, 1) := by decide +kernel
theorem dX6_reads_12 : decode cX6_reads 12 = .ok (.istore_n 3, 1) := by decide +kernel
theorem dX6_reads_13 : decode cX6_reads 13 = .ok (.iload_n 3, 1) := by decide +kernel
theorem dX6_reads_14 : decode cX6_reads 14 = .ok (.iload_n 2, 1) := by decide +kernel
theorem dX6_reads_15 : decode cX6_reads 15 = .ok (.bipush 9, 2) := by decide +kernel
theorem dX6_reads_17 : decode cX6_reads 17 = .ok (.invokestatic 89, 3) := by decide +kernel
theorem dX6_reads_20 : decode cX6_reads 20 = .ok (.ifCond .ne 6, 3) := by decide +kernel
theorem dX6_reads_23 : decode cX6_reads 23 = .ok (.bipush (-9), 2) := by decide +kernel
theorem dX6_reads_25 : decode cX6_reads 25 = .ok (.ireturn, 1) := by decide +kernel
theorem dX6_reads_26 : decode cX6_reads 26 = .ok (.aload_n 0, 1) := by decide +kernel
theorem dX6_reads_27 : decode cX6_reads 27 = .ok (.dup, 1) := by decide +kernel
theorem dX6_reads_28 : decode cX6_reads 28 = .ok (.getfield 111, 3) := by decide +kernel
theorem dX6_reads_31 : decode cX6_reads 31 = .ok (.iconst 1, 1) := by decide +kernel
theorem dX6_reads_32 : decode cX6_reads 32 = .ok (.iadd, 1) := by decide +kernel
theorem dX6_reads_33 : decode cX6_reads 33 = .ok (.putfield 111, 3) := by decide +kernel
theorem dX6_reads_36 : decode cX6_reads 36 = .ok (.iload_n 3, 1) := by decide +kernel
theorem dX6_reads_37 : decode cX6_reads 37 = .ok (.ireturn, 1) := by decide +kernel
theorem dX6_readsRoad_0 : decode cX6_readsRoad 0 = .ok (.aload_n 0, 1) := by decide +kernel
theorem dX6_readsRoad_1 : decode cX6_readsRoad 1 = .ok (.iload_n 1, 1) := by decide +kernel
theorem dX6_readsRoad_2 : decode cX6_readsRoad 2 = .ok (.aload_n 0, 1) := by decide +kernel
theorem dX6_readsRoad_3 : decode cX6_readsRoad 3 = .ok (.getfield 111, 3) := by decide +kernel
theorem dX6_readsRoad_6 : decode cX6_readsRoad 6 = .ok (.invokevirtual 114, 3) := by decide +kernel
theorem dX6_readsRoad_9 : decode cX6_readsRoad 9 = .ok (.bipush 114, 2) := by decide +kernel
theorem dX6_readsRoad_11 : decode cX6_readsRoad 11 = .ok (.if_icmp .eq 5, 3) := by decide +kernel
theorem dX6_readsRoad_14 : decode cX6_readsRoad 14 = .ok (.iconst 0, 1) := by decide +kernel
theorem dX6_readsRoad_15 : decode cX6_readsRoad 15 = .ok (.ireturn, 1) := by decide +kernel
theorem dX6_readsRoad_16 : decode cX6_readsRoad 16 = .ok (.aload_n 0, 1) := by decide +kernel
theorem dX6_readsRoad_17 : decode cX6_readsRoad 17 = .ok (.dup, 1) := by decide +kernel
theorem dX6_readsRoad_18 : decode cX6_readsRoad 18 = .ok (.getfield 111, 3) := by decide +kernel
theorem dX6_readsRoad_21 : decode cX6_readsRoad 21 = .ok (.iconst 1, 1) := by decide +kernel
theorem dX6_readsRoad_22 : decode cX6_readsRoad 22 = .ok (.iadd, 1) := by decide +kernel
theorem dX6_readsRoad_23 : decode cX6_readsRoad 23 = .ok (.putfield 111, 3) := by decide +kernel
theorem dX6_readsRoad_26 : decode cX6_readsRoad 26 = .ok (.iconst 0, 1) := by decide +kernel
theorem dX6_readsRoad_27 : decode cX6_readsRoad 27 = .ok (.istore_n 2, 1) := by decide +kernel
theorem dX6_readsRoad_28 : decode cX6_readsRoad 28 = .ok (.iload_n 2, 1) := by decide +kernel
theorem dX6_readsRoad_29 : decode cX6_readsRoad 29 = .ok (.bipush 8, 2) := by decide +kernel
theorem dX6_readsRoad_31 : decode cX6_readsRoad 31 = .ok (.if_icmp .ge 34, 3) := by decide +kernel
theorem dX6_readsRoad_34 : decode cX6_readsRoad 34 = .ok (.aload_n 0, 1) := by decide +kernel
theorem dX6_readsRoad_35 : decode cX6_readsRoad 35 = .ok (.getfield 33, 3) := by decide +kernel
theorem dX6_readsRoad_38 : decode cX6_readsRoad 38 = .ok (.iload_n 2, 1) := by decide +kernel
theorem dX6_readsRoad_39 : decode cX6_readsRoad 39 = .ok (.aload_n 0, 1) := by decide +kernel
theorem dX6_readsRoad_40 : decode cX6_readsRoad 40 = .ok (.iload_n 1, 1) := by decide +kernel
theorem dX6_readsRoad_41 : decode cX6_readsRoad 41 = .ok (.iconst 0, 1) := by decide +kernel
theorem dX6_readsRoad_42 : decode cX6_readsRoad 42 = .ok (.invokevirtual 117, 3) := by decide +kernel
theorem dX6_readsRoad_45 : decode cX6_readsRoad 45 = .ok (.iastore, 1) := by decide +kernel
theorem dX6_readsRoad_46 : decode cX6_readsRoad 46 = .ok (.aload_n 0, 1) := by decide +kernel
theorem dX6_readsRoad_47 : decode cX6_readsRoad 47 = .ok (.getfield 33, 3) := by decide +kernel
theorem dX6_readsRoad_50 : decode cX6_readsRoad 50 = .ok (.iload_n 2, 1) := by decide +kernel
theorem dX6_readsRoad_51 : decode cX6_readsRoad 51 = .ok (.iaload, 1) := by decide +kernel
theorem dX6_readsRoad_52 : decode cX6_readsRoad 52 = .ok (.bipush (-9), 2) := by decide +kernel
theorem dX6_readsRoad_54 : decode cX6_readsRoad 54 = .ok (.if_icmp .ne 5, 3) := by decide +kernel
theorem dX6_readsRoad_57 : decode cX6_readsRoad 57 = .ok (.iconst 0, 1) := by decide +kernel
theorem dX6_readsRoad_58 : decode cX6_readsRoad 58 = .ok (.ireturn, 1) := by decide +kernel
theorem dX6_readsRoad_59 : decode cX6_readsRoad 59 = .ok (.iinc 2 1, 3) := by decide +kernel
theorem dX6_readsRoad_62 : decode cX6_readsRoad 62 = .ok (.goto (-34), 3) := by decide +kernel
theorem dX6_readsRoad_65 : decode cX6_readsRoad 65 = .ok (.aload_n 0, 1) := by decide +kernel
theorem dX6_readsRoad_66 : decode cX6_readsRoad 66 = .ok (.getfield 111, 3) := by decide +kernel
theorem dX6_readsRoad_69 : decode cX6_readsRoad 69 = .ok (.istore_n 2, 1) := by decide +kernel
theorem dX6_readsRoad_70 : decode cX6_readsRoad 70 = .ok (.aload_n 0, 1) := by decide +kernel
theorem dX6_readsRoad_71 : decode cX6_readsRoad 71 = .ok (.iload_n 1, 1) := by decide +kernel
theorem dX6_readsRoad_72 : decode cX6_readsRoad 72 = .ok (.iconst 0, 1) := by decide +kernel
theorem dX6_readsRoad_73 : decode cX6_readsRoad 73 = .ok (.invokevirtual 117, 3) := by decide +kernel
theorem dX6_readsRoad_76 : decode cX6_readsRoad 76 = .ok (.istore_n 3, 1) := by decide +kernel
theorem dX6_readsRoad_77 : decode cX6_readsRoad 77 = .ok (.iload_n 3, 1) := by decide +kernel
theorem dX6_readsRoad_78 : decode cX6_readsRoad 78 = .ok (.bipush (-9), 2) := by decide +kernel
theorem dX6_readsRoad_80 : decode cX6_readsRoad 80 = .ok (.if_icmp .ne 8, 3) := by decide +kernel
theorem dX6_readsRoad_83 : decode cX6_readsRoad 83 = .ok (.bipush (-9), 2) := by decide +kernel
theorem dX6_readsRoad_85 : decode cX6_readsRoad 85 = .ok (.goto 9, 3) := by decide +kernel
theorem dX6_readsRoad_88 : decode cX6_readsRoad 88 = .ok (.aload_n 0, 1) := by decide +kernel
theorem dX6_readsRoad_89 : decode cX6_readsRoad 89 = .ok (.iload_n 1, 1) := by decide +kernel
theorem dX6_readsRoad_90 : decode cX6_readsRoad 90 = .ok (.iconst 0, 1) := by decide +kernel
theorem dX6_readsRoad_91 : decode cX6_readsRoad 91 = .ok (.invokevirtual 117, 3) := by decide +kernel
theorem dX6_readsRoad_94 : decode cX6_readsRoad 94 = .ok (.istore 4, 2) := by decide +kernel
theorem dX6_readsRoad_96 : decode cX6_readsRoad 96 = .ok (.iload 4, 2) := by decide +kernel
theorem dX6_readsRoad_98 : decode cX6_readsRoad 98 = .ok (.bipush (-9), 2) := by decide +kernel
theorem dX6_readsRoad_100 : decode cX6_readsRoad 100 = .ok (.if_icmp .ne 5, 3) := by decide +kernel
theorem dX6_readsRoad_103 : decode cX6_readsRoad 103 = .ok (.iconst 0, 1) := by decide +kernel
theorem dX6_readsRoad_104 : decode cX6_readsRoad 104 = .ok (.ireturn, 1) := by decide +kernel
theorem dX6_readsRoad_105 : decode cX6_readsRoad 105 = .ok (.aload_n 0, 1) := by decide +kernel
theorem dX6_readsRoad_106 : decode cX6_readsRoad 106 = .ok (.bipush 10, 2) := by decide +kernel
theorem dX6_readsRoad_108 : decode cX6_readsRoad 108 = .ok (.iload_n 3, 1) := by decide +kernel
theorem dX6_readsRoad_109 : decode cX6_readsRoad 109 = .ok (.imul, 1) := by decide +kernel
theorem dX6_readsRoad_110 : decode cX6_readsRoad 110 = .ok (.iload 4, 2) := by decide +kernel
theorem dX6_readsRoad_112 : decode cX6_readsRoad 112 = .ok (.iadd, 1) := by decide +kernel
theorem dX6_readsRoad_113 : decode cX6_readsRoad 113 = .ok (.putfield 120, 3) := by decide +kernel
theorem dX6_readsRoad_116 : decode cX6_readsRoad 116 = .ok (.aload_n 0, 1) := by decide +kernel
theorem dX6_readsRoad_117 : decode cX6_readsRoad 117 = .ok (.aload_n 0, 1) := by decide +kernel
theorem dX6_readsRoad_118 : decode cX6_readsRoad 118 = .ok (.getfield 120, 3) := by decide +kernel
theorem dX6_readsRoad_121 : decode cX6_readsRoad 121 = .ok (.bipush 60, 2) := by decide +kernel
theorem dX6_readsRoad_123 : decode cX6_readsRoad 123 = .ok (.if_icmp .le 7, 3) := by decide +kernel
theorem dX6_readsRoad_126 : decode cX6_readsRoad 126 = .ok (.iload_n 2, 1) := by decide +kernel
theorem dX6_readsRoad_127 : decode cX6_readsRoad 127 = .ok (.goto 7, 3) := by decide +kernel
theorem dX6_readsRoad_130 : decode cX6_readsRoad 130 = .ok (.aload_n 0, 1) := by decide +kernel
theorem dX6_readsRoad_131 : decode cX6_readsRoad 131 = .ok (.getfield 111, 3) := by decide +kernel
theorem dX6_readsRoad_134 : decode cX6_readsRoad 134 = .ok (.putfield 111, 3) := by decide +kernel
theorem dX6_readsRoad_137 : decode cX6_readsRoad 137 = .ok (.aload_n 0, 1) := by decide +kernel
theorem dX6_readsRoad_138 : decode cX6_readsRoad 138 = .ok (.iconst 1, 1) := by decide +kernel
theorem dX6_readsRoad_139 : decode cX6_readsRoad 139 = .ok (.putfield 123, 3) := by decide +kernel
theorem dX6_readsRoad_142 : decode cX6_readsRoad 142 = .ok (.aload_n 0, 1) := by decide +kernel
theorem dX6_readsRoad_143 : decode cX6_readsRoad 143 = .ok (.getfield 120, 3) := by decide +kernel
theorem dX6_readsRoad_146 : decode cX6_readsRoad 146 = .ok (.bipush 60, 2) := by decide +kernel
theorem dX6_readsRoad_148 : decode cX6_readsRoad 148 = .ok (.if_icmp .gt 7, 3) := by decide +kernel
theorem dX6_readsRoad_151 : decode cX6_readsRoad 151 = .ok (.iconst 1, 1) := by decide +kernel
theorem dX6_readsRoad_152 : decode cX6_readsRoad 152 = .ok (.goto 4, 3) := by decide +kernel
theorem dX6_readsRoad_155 : decode cX6_readsRoad 155 = .ok (.iconst 0, 1) := by decide +kernel
theorem dX6_readsRoad_156 : decode cX6_readsRoad 156 = .ok (.ireturn, 1) := by decide +kernel
theorem dX6_readsSpoke_0 : decode cX6_readsSpoke 0 = .ok (.aload_n 0, 1) := by decide +kernel
theorem dX6_readsSpoke_1 : decode cX6_readsSpoke 1 = .ok (.iload_n 1, 1) := by decide +kernel
theorem dX6_readsSpoke_2 : decode cX6_readsSpoke 2 = .ok (.aload_n 0, 1) := by decide +kernel
theorem dX6_readsSpoke_3 : decode cX6_readsSpoke 3 = .ok (.getfield 111, 3) := by decide +kernel
theorem dX6_readsSpoke_6 : decode cX6_readsSpoke 6 = .ok (.invokevirtual 114, 3) := by decide +kernel
theorem dX6_readsSpoke_9 : decode cX6_readsSpoke 9 = .ok (.invokestatic 127, 3) := by decide +kernel
theorem dX6_readsSpoke_12 : decode cX6_readsSpoke 12 = .ok (.istore_n 2, 1) := by decide +kernel
theorem dX6_readsSpoke_13 : decode cX6_readsSpoke 13 = .ok (.iload_n 2, 1) := by decide +kernel
theorem dX6_readsSpoke_14 : decode cX6_readsSpoke 14 = .ok (.bipush (-9), 2) := by decide +kernel
theorem dX6_readsSpoke_16 : decode cX6_readsSpoke 16 = .ok (.if_icmp .eq 12, 3) := by decide +kernel
theorem dX6_readsSpoke_19 : decode cX6_readsSpoke 19 = .ok (.aload_n 0, 1) := by decide +kernel
theorem dX6_readsSpoke_20 : decode cX6_readsSpoke 20 = .ok (.getfield 130, 3) := by decide +kernel
theorem dX6_readsSpoke_23 : decode cX6_readsSpoke 23 = .ok (.bipush 8, 2) := by decide +kernel
theorem dX6_readsSpoke_25 : decode cX6_readsSpoke 25 = .ok (.if_icmp .ne 5, 3) := by decide +kernel
theorem dX6_readsSpoke_28 : decode cX6_readsSpoke 28 = .ok (.iconst 0, 1) := by decide +kernel
theorem dX6_readsSpoke_29 : decode cX6_readsSpoke 29 = .ok (.ireturn, 1) := by decide +kernel
theorem dX6_readsSpoke_30 : decode cX6_readsSpoke 30 = .ok (.aload_n 0, 1) := by decide +kernel
theorem dX6_readsSpoke_31 : decode cX6_readsSpoke 31 = .ok (.dup, 1) := by decide +kernel
theorem dX6_readsSpoke_32 : decode cX6_readsSpoke 32 = .ok (.getfield 111, 3) := by decide +kernel
theorem dX6_readsSpoke_35 : decode cX6_readsSpoke 35 = .ok (.iconst 1, 1) := by decide +kernel
theorem dX6_readsSpoke_36 : decode cX6_readsSpoke 36 = .ok (.iadd, 1) := by decide +kernel
theorem dX6_readsSpoke_37 : decode cX6_readsSpoke 37 = .ok (.putfield 111, 3) := by decide +kernel
theorem dX6_readsSpoke_40 : decode cX6_readsSpoke 40 = .ok (.aload_n 0, 1) := by decide +kernel
theorem dX6_readsSpoke_41 : decode cX6_readsSpoke 41 = .ok (.iload_n 1, 1) := by decide +kernel
theorem dX6_readsSpoke_42 : decode cX6_readsSpoke 42 = .ok (.iconst 1, 1) := by decide +kernel
theorem dX6_readsSpoke_43 : decode cX6_readsSpoke 43 = .ok (.invokevirtual 117, 3) := by decide +kernel
theorem dX6_readsSpoke_46 : decode cX6_readsSpoke 46 = .ok (.istore_n 3, 1) := by decide +kernel
theorem dX6_readsSpoke_47 : decode cX6_readsSpoke 47 = .ok (.iload_n 3, 1) := by decide +kernel
theorem dX6_readsSpoke_48 : decode cX6_readsSpoke 48 = .ok (.bipush (-9), 2) := by decide +kernel
theorem dX6_readsSpoke_50 : decode cX6_readsSpoke 50 = .ok (.if_icmp .ne 8, 3) := by decide +kernel
theorem dX6_readsSpoke_53 : decode cX6_readsSpoke 53 = .ok (.bipush (-9), 2) := by decide +kernel
theorem dX6_readsSpoke_55 : decode cX6_readsSpoke 55 = .ok (.goto 9, 3) := by decide +kernel
theorem dX6_readsSpoke_58 : decode cX6_readsSpoke 58 = .ok (.aload_n 0, 1) := by decide +kernel
theorem dX6_readsSpoke_59 : decode cX6_readsSpoke 59 = .ok (.iload_n 1, 1) := by decide +kernel
theorem dX6_readsSpoke_60 : decode cX6_readsSpoke 60 = .ok (.iconst 0, 1) := by decide +kernel
theorem dX6_readsSpoke_61 : decode cX6_readsSpoke 61 = .ok (.invokevirtual 117, 3) := by decide +kernel
theorem dX6_readsSpoke_64 : decode cX6_readsSpoke 64 = .ok (.istore 4, 2) := by decide +kernel
theorem dX6_readsSpoke_66 : decode cX6_readsSpoke 66 = .ok (.iload 4, 2) := by decide +kernel
theorem dX6_readsSpoke_68 : decode cX6_readsSpoke 68 = .ok (.bipush (-9), 2) := by decide +kernel
theorem dX6_readsSpoke_70 : decode cX6_readsSpoke 70 = .ok (.if_icmp .ne 5, 3) := by decide +kernel
theorem dX6_readsSpoke_73 : decode cX6_readsSpoke 73 = .ok (.iconst 0, 1) := by decide +kernel
theorem dX6_readsSpoke_74 : decode cX6_readsSpoke 74 = .ok (.ireturn, 1) := by decide +kernel
theorem dX6_readsSpoke_75 : decode cX6_readsSpoke 75 = .ok (.aload_n 0, 1) := by decide +kernel
theorem dX6_readsSpoke_76 : decode cX6_readsSpoke 76 = .ok (.getfield 36, 3) := by decide +kernel
theorem dX6_readsSpoke_79 : decode cX6_readsSpoke 79 = .ok (.aload_n 0, 1) := by decide +kernel
theorem dX6_readsSpoke_80 : decode cX6_readsSpoke 80 = .ok (.getfield 130, 3) := by decide +kernel
theorem dX6_readsSpoke_83 : decode cX6_readsSpoke 83 = .ok (.iload_n 2, 1) := by decide +kernel
theorem dX6_readsSpoke_84 : decode cX6_readsSpoke 84 = .ok (.iastore, 1) := by decide +kernel
theorem dX6_readsSpoke_85 : decode cX6_readsSpoke 85 = .ok (.aload_n 0, 1) := by decide +kernel
theorem dX6_readsSpoke_86 : decode cX6_readsSpoke 86 = .ok (.getfield 39, 3) := by decide +kernel
theorem dX6_readsSpoke_89 : decode cX6_readsSpoke 89 = .ok (.aload_n 0, 1) := by decide +kernel
theorem dX6_readsSpoke_90 : decode cX6_readsSpoke 90 = .ok (.getfield 130, 3) := by decide +kernel
theorem dX6_readsSpoke_93 : decode cX6_readsSpoke 93 = .ok (.iload_n 3, 1) := by decide +kernel
theorem dX6_readsSpoke_94 : decode cX6_readsSpoke 94 = .ok (.iastore, 1) := by decide +kernel
theorem dX6_readsSpoke_95 : decode cX6_readsSpoke 95 = .ok (.aload_n 0, 1) := by decide +kernel
theorem dX6_readsSpoke_96 : decode cX6_readsSpoke 96 = .ok (.getfield 42, 3) := by decide +kernel
theorem dX6_readsSpoke_99 : decode cX6_readsSpoke 99 = .ok (.aload_n 0, 1) := by decide +kernel
theorem dX6_readsSpoke_100 : decode cX6_readsSpoke 100 = .ok (.getfield 130, 3) := by decide +kernel
theorem dX6_readsSpoke_103 : decode cX6_readsSpoke 103 = .ok (.iload 4, 2) := by decide +kernel
theorem dX6_readsSpoke_105 : decode cX6_readsSpoke 105 = .ok (.iastore, 1) := by decide +kernel
theorem dX6_readsSpoke_106 : decode cX6_readsSpoke 106 = .ok (.aload_n 0, 1) := by decide +kernel
theorem dX6_readsSpoke_107 : decode cX6_readsSpoke 107 = .ok (.dup, 1) := by decide +kernel
theorem dX6_readsSpoke_108 : decode cX6_readsSpoke 108 = .ok (.getfield 130, 3) := by decide +kernel
theorem dX6_readsSpoke_111 : decode cX6_readsSpoke 111 = .ok (.iconst 1, 1) := by decide +kernel
theorem dX6_readsSpoke_112 : decode cX6_readsSpoke 112 = .ok (.iadd, 1) := by decide +kernel
theorem dX6_readsSpoke_113 : decode cX6_readsSpoke 113 = .ok (.putfield 130, 3) := by decide +kernel
theorem dX6_readsSpoke_116 : decode cX6_readsSpoke 116 = .ok (.iconst 1, 1) := by decide +kernel
theorem dX6_readsSpoke_117 : decode cX6_readsSpoke 117 = .ok (.ireturn, 1) := by decide +kernel
theorem dX6_faultOf_0 : decode cX6_faultOf 0 = .ok (.aload_n 0, 1) := by decide +kernel
theorem dX6_faultOf_1 : decode cX6_faultOf 1 = .ok (.iconst 0, 1) := by decide +kernel
theorem dX6_faultOf_2 : decode cX6_faultOf 2 = .ok (.putfield 111, 3) := by decide +kernel
theorem dX6_faultOf_5 : decode cX6_faultOf 5 = .ok (.aload_n 0, 1) := by decide +kernel
theorem dX6_faultOf_6 : decode cX6_faultOf 6 = .ok (.iconst 0, 1) := by decide +kernel
theorem dX6_faultOf_7 : decode cX6_faultOf 7 = .ok (.putfield 130, 3) := by decide +kernel
theorem dX6_faultOf_10 : decode cX6_faultOf 10 = .ok (.aload_n 0, 1) := by decide +kernel
theorem dX6_faultOf_11 : decode cX6_faultOf 11 = .ok (.iconst 0, 1) := by decide +kernel
theorem dX6_faultOf_12 : decode cX6_faultOf 12 = .ok (.putfield 123, 3) := by decide +kernel
theorem dX6_faultOf_15 : decode cX6_faultOf 15 = .ok (.aload_n 0, 1) := by decide +kernel
theorem dX6_faultOf_16 : decode cX6_faultOf 16 = .ok (.getfield 111, 3) := by decide +kernel
theorem dX6_faultOf_19 : decode cX6_faultOf 19 = .ok (.aload_n 0, 1) := by decide +kernel
theorem dX6_faultOf_20 : decode cX6_faultOf 20 = .ok (.getfield 26, 3) := by decide +kernel
theorem dX6_faultOf_23 : decode cX6_faultOf 23 = .ok (.iload_n 1, 1) := by decide +kernel
theorem dX6_faultOf_24 : decode cX6_faultOf 24 = .ok (.iaload, 1) := by decide +kernel
theorem dX6_faultOf_25 : decode cX6_faultOf 25 = .ok (.if_icmp .ge 61, 3) := by decide +kernel
theorem dX6_faultOf_28 : decode cX6_faultOf 28 = .ok (.aload_n 0, 1) := by decide +kernel
theorem dX6_faultOf_29 : decode cX6_faultOf 29 = .ok (.iload_n 1, 1) := by decide +kernel
theorem dX6_faultOf_30 : decode cX6_faultOf 30 = .ok (.aload_n 0, 1) := by decide +kernel
theorem dX6_faultOf_31 : decode cX6_faultOf 31 = .ok (.getfield 111, 3) := by decide +kernel
theorem dX6_faultOf_34 : decode cX6_faultOf 34 = .ok (.invokevirtual 114, 3) := by decide +kernel
theorem dX6_faultOf_37 : decode cX6_faultOf 37 = .ok (.bipush 32, 2) := by decide +kernel
theorem dX6_faultOf_39 : decode cX6_faultOf 39 = .ok (.if_icmp .ne 16, 3) := by decide +kernel
theorem dX6_faultOf_42 : decode cX6_faultOf 42 = .ok (.aload_n 0, 1) := by decide +kernel
theorem dX6_faultOf_43 : decode cX6_faultOf 43 = .ok (.dup, 1) := by decide +kernel
theorem dX6_faultOf_44 : decode cX6_faultOf 44 = .ok (.getfield 111, 3) := by decide +kernel
theorem dX6_faultOf_47 : decode cX6_faultOf 47 = .ok (.iconst 1, 1) := by decide +kernel
theorem dX6_faultOf_48 : decode cX6_faultOf 48 = .ok (.iadd, 1) := by decide +kernel
theorem dX6_faultOf_49 : decode cX6_faultOf 49 = .ok (.putfield 111, 3) := by decide +kernel
theorem dX6_faultOf_52 : decode cX6_faultOf 52 = .ok (.goto (-37), 3) := by decide +kernel
theorem dX6_faultOf_55 : decode cX6_faultOf 55 = .ok (.aload_n 0, 1) := by decide +kernel
theorem dX6_faultOf_56 : decode cX6_faultOf 56 = .ok (.getfield 123, 3) := by decide +kernel
theorem dX6_faultOf_59 : decode cX6_faultOf 59 = .ok (.ifCond .eq 14, 3) := by decide +kernel
theorem dX6_faultOf_62 : decode cX6_faultOf 62 = .ok (.aload_n 0, 1) := by decide +kernel
theorem dX6_faultOf_63 : decode cX6_faultOf 63 = .ok (.iload_n 1, 1) := by decide +kernel
theorem dX6_faultOf_64 : decode cX6_faultOf 64 = .ok (.invokevirtual 133, 3) := by decide +kernel
theorem dX6_faultOf_67 : decode cX6_faultOf 67 = .ok (.ifCond .eq 14, 3) := by decide +kernel
theorem dX6_faultOf_70 : decode cX6_faultOf 70 = .ok (.goto (-55), 3) := by decide +kernel
theorem dX6_faultOf_73 : decode cX6_faultOf 73 = .ok (.aload_n 0, 1) := by decide +kernel
theorem dX6_faultOf_74 : decode cX6_faultOf 74 = .ok (.iload_n 1, 1) := by decide +kernel
theorem dX6_faultOf_75 : decode cX6_faultOf 75 = .ok (.invokevirtual 136, 3) := by decide +kernel
theorem dX6_faultOf_78 : decode cX6_faultOf 78 = .ok (.ifCond .ne (-63), 3) := by decide +kernel
theorem dX6_faultOf_81 : decode cX6_faultOf 81 = .ok (.aload_n 0, 1) := by decide +kernel
theorem dX6_faultOf_82 : decode cX6_faultOf 82 = .ok (.getfield 111, 3) := by decide +kernel
theorem dX6_faultOf_85 : decode cX6_faultOf 85 = .ok (.ireturn, 1) := by decide +kernel
theorem dX6_faultOf_86 : decode cX6_faultOf 86 = .ok (.aload_n 0, 1) := by decide +kernel
theorem dX6_faultOf_87 : decode cX6_faultOf 87 = .ok (.getfield 130, 3) := by decide +kernel
theorem dX6_faultOf_90 : decode cX6_faultOf 90 = .ok (.iconst 3, 1) := by decide +kernel
theorem dX6_faultOf_91 : decode cX6_faultOf 91 = .ok (.if_icmp .ge 12, 3) := by decide +kernel
theorem dX6_faultOf_94 : decode cX6_faultOf 94 = .ok (.aload_n 0, 1) := by decide +kernel
theorem dX6_faultOf_95 : decode cX6_faultOf 95 = .ok (.getfield 26, 3) := by decide +kernel
theorem dX6_faultOf_98 : decode cX6_faultOf 98 = .ok (.iload_n 1, 1) := by decide +kernel
theorem dX6_faultOf_99 : decode cX6_faultOf 99 = .ok (.iaload, 1) := by decide +kernel
theorem dX6_faultOf_100 : decode cX6_faultOf 100 = .ok (.goto 5, 3) := by decide +kernel
theorem dX6_faultOf_103 : decode cX6_faultOf 103 = .ok (.bipush (-9), 2) := by decide +kernel
theorem dX6_faultOf_105 : decode cX6_faultOf 105 = .ok (.ireturn, 1) := by decide +kernel
theorem dX6_fault_0 : decode cX6_fault 0 = .ok (.iload_n 1, 1) := by decide +kernel
theorem dX6_fault_1 : decode cX6_fault 1 = .ok (.invokestatic 108, 3) := by decide +kernel
theorem dX6_fault_4 : decode cX6_fault 4 = .ok (.ifCond .ne 7, 3) := by decide +kernel
theorem dX6_fault_7 : decode cX6_fault 7 = .ok (.iconst (-1), 1) := by decide +kernel
theorem dX6_fault_8 : decode cX6_fault 8 = .ok (.goto 25, 3) := by decide +kernel
theorem dX6_fault_11 : decode cX6_fault 11 = .ok (.aload_n 0, 1) := by decide +kernel
theorem dX6_fault_12 : decode cX6_fault 12 = .ok (.getfield 26, 3) := by decide +kernel
theorem dX6_fault_15 : decode cX6_fault 15 = .ok (.iload_n 1, 1) := by decide +kernel
theorem dX6_fault_16 : decode cX6_fault 16 = .ok (.iaload, 1) := by decide +kernel
theorem dX6_fault_17 : decode cX6_fault 17 = .ok (.ifCond .ge 11, 3) := by decide +kernel
theorem dX6_fault_20 : decode cX6_fault 20 = .ok (.aload_n 0, 1) := by decide +kernel
theorem dX6_fault_21 : decode cX6_fault 21 = .ok (.iconst 1, 1) := by decide +kernel
theorem dX6_fault_22 : decode cX6_fault 22 = .ok (.invokevirtual 97, 3) := by decide +kernel
theorem dX6_fault_25 : decode cX6_fault 25 = .ok (.goto 8, 3) := by decide +kernel
theorem dX6_fault_28 : decode cX6_fault 28 = .ok (.aload_n 0, 1) := by decide +kernel
theorem dX6_fault_29 : decode cX6_fault 29 = .ok (.iload_n 1, 1) := by decide +kernel
theorem dX6_fault_30 : decode cX6_fault 30 = .ok (.invokevirtual 139, 3) := by decide +kernel
theorem dX6_fault_33 : decode cX6_fault 33 = .ok (.ireturn, 1) := by decide +kernel
theorem dX6_wheel_0 : decode cX6_wheel 0 = .ok (.iload_n 1, 1) := by decide +kernel
theorem dX6_wheel_1 : decode cX6_wheel 1 = .ok (.invokestatic 108, 3) := by decide +kernel
theorem dX6_wheel_4 : decode cX6_wheel 4 = .ok (.ifCond .ne 5, 3) := by decide +kernel
theorem dX6_wheel_7 : decode cX6_wheel 7 = .ok (.iconst (-1), 1) := by decide +kernel
theorem dX6_wheel_8 : decode cX6_wheel 8 = .ok (.ireturn, 1) := by decide +kernel
theorem dX6_wheel_9 : decode cX6_wheel 9 = .ok (.aload_n 0, 1) := by decide +kernel
theorem dX6_wheel_10 : decode cX6_wheel 10 = .ok (.getfield 26, 3) := by decide +kernel
theorem dX6_wheel_13 : decode cX6_wheel 13 = .ok (.iload_n 1, 1) := by decide +kernel
theorem dX6_wheel_14 : decode cX6_wheel 14 = .ok (.iaload, 1) := by decide +kernel
theorem dX6_wheel_15 : decode cX6_wheel 15 = .ok (.ifCond .ge 9, 3) := by decide +kernel
theorem dX6_wheel_18 : decode cX6_wheel 18 = .ok (.aload_n 0, 1) := by decide +kernel
theorem dX6_wheel_19 : decode cX6_wheel 19 = .ok (.iconst 1, 1) := by decide +kernel
theorem dX6_wheel_20 : decode cX6_wheel 20 = .ok (.invokevirtual 97, 3) := by decide +kernel
theorem dX6_wheel_23 : decode cX6_wheel 23 = .ok (.ireturn, 1) := by decide +kernel
theorem dX6_wheel_24 : decode cX6_wheel 24 = .ok (.aload_n 0, 1) := by decide +kernel
theorem dX6_wheel_25 : decode cX6_wheel 25 = .ok (.iload_n 1, 1) := by decide +kernel
theorem dX6_wheel_26 : decode cX6_wheel 26 = .ok (.invokevirtual 139, 3) := by decide +kernel
theorem dX6_wheel_29 : decode cX6_wheel 29 = .ok (.bipush (-9), 2) := by decide +kernel
theorem dX6_wheel_31 : decode cX6_wheel 31 = .ok (.if_icmp .eq 6, 3) := by decide +kernel
theorem dX6_wheel_34 : decode cX6_wheel 34 = .ok (.bipush (-4), 2) := by decide +kernel
theorem dX6_wheel_36 : decode cX6_wheel 36 = .ok (.ireturn, 1) := by decide +kernel
theorem dX6_wheel_37 : decode cX6_wheel 37 = .ok (.aload_n 0, 1) := by decide +kernel
theorem dX6_wheel_38 : decode cX6_wheel 38 = .ok (.aload_n 0, 1) := by decide +kernel
theorem dX6_wheel_39 : decode cX6_wheel 39 = .ok (.getfield 130, 3) := by decide +kernel
theorem dX6_wheel_42 : decode cX6_wheel 42 = .ok (.putfield 142, 3) := by decide +kernel
theorem dX6_wheel_45 : decode cX6_wheel 45 = .ok (.aload_n 0, 1) := by decide +kernel
theorem dX6_wheel_46 : decode cX6_wheel 46 = .ok (.aload_n 0, 1) := by decide +kernel
theorem dX6_wheel_47 : decode cX6_wheel 47 = .ok (.getfield 120, 3) := by decide +kernel
theorem dX6_wheel_50 : decode cX6_wheel 50 = .ok (.putfield 145, 3) := by decide +kernel
theorem dX6_wheel_53 : decode cX6_wheel 53 = .ok (.iconst 0, 1) := by decide +kernel
theorem dX6_wheel_54 : decode cX6_wheel 54 = .ok (.istore_n 2, 1) := by decide +kernel
theorem dX6_wheel_55 : decode cX6_wheel 55 = .ok (.iload_n 2, 1) := by decide +kernel
theorem dX6_wheel_56 : decode cX6_wheel 56 = .ok (.bipush 8, 2) := by decide +kernel
theorem dX6_wheel_58 : decode cX6_wheel 58 = .ok (.if_icmp .ge 21, 3) := by decide +kernel
theorem dX6_wheel_61 : decode cX6_wheel 61 = .ok (.aload_n 0, 1) := by decide +kernel
theorem dX6_wheel_62 : decode cX6_wheel 62 = .ok (.getfield 45, 3) := by decide +kernel
theorem dX6_wheel_65 : decode cX6_wheel 65 = .ok (.iload_n 2, 1) := by decide +kernel
theorem dX6_wheel_66 : decode cX6_wheel 66 = .ok (.aload_n 0, 1) := by decide +kernel
theorem dX6_wheel_67 : decode cX6_wheel 67 = .ok (.getfield 33, 3) := by decide +kernel
theorem dX6_wheel_70 : decode cX6_wheel 70 = .ok (.iload_n 2, 1) := by decide +kernel
theorem dX6_wheel_71 : decode cX6_wheel 71 = .ok (.iaload, 1) := by decide +kernel
theorem dX6_wheel_72 : decode cX6_wheel 72 = .ok (.iastore, 1) := by decide +kernel
theorem dX6_wheel_73 : decode cX6_wheel 73 = .ok (.iinc 2 1, 3) := by decide +kernel
theorem dX6_wheel_76 : decode cX6_wheel 76 = .ok (.goto (-21), 3) := by decide +kernel
theorem dX6_wheel_79 : decode cX6_wheel 79 = .ok (.iconst 0, 1) := by decide +kernel
theorem dX6_wheel_80 : decode cX6_wheel 80 = .ok (.istore_n 2, 1) := by decide +kernel
theorem dX6_wheel_81 : decode cX6_wheel 81 = .ok (.iload_n 2, 1) := by decide +kernel
theorem dX6_wheel_82 : decode cX6_wheel 82 = .ok (.aload_n 0, 1) := by decide +kernel
theorem dX6_wheel_83 : decode cX6_wheel 83 = .ok (.getfield 142, 3) := by decide +kernel
theorem dX6_wheel_86 : decode cX6_wheel 86 = .ok (.if_icmp .ge 45, 3) := by decide +kernel
theorem dX6_wheel_89 : decode cX6_wheel 89 = .ok (.aload_n 0, 1) := by decide +kernel
theorem dX6_wheel_90 : decode cX6_wheel 90 = .ok (.getfield 48, 3) := by decide +kernel
theorem dX6_wheel_93 : decode cX6_wheel 93 = .ok (.iload_n 2, 1) := by decide +kernel
theorem dX6_wheel_94 : decode cX6_wheel 94 = .ok (.aload_n 0, 1) := by decide +kernel
theorem dX6_wheel_95 : decode cX6_wheel 95 = .ok (.getfield 36, 3) := by decide +kernel
theorem dX6_wheel_98 : decode cX6_wheel 98 = .ok (.iload_n 2, 1) := by decide +kernel
theorem dX6_wheel_99 : decode cX6_wheel 99 = .ok (.iaload, 1) := by decide +kernel
theorem dX6_wheel_100 : decode cX6_wheel 100 = .ok (.iastore, 1) := by decide +kernel
theorem dX6_wheel_101 : decode cX6_wheel 101 = .ok (.aload_n 0, 1) := by decide +kernel
theorem dX6_wheel_102 : decode cX6_wheel 102 = .ok (.getfield 51, 3) := by decide +kernel
theorem dX6_wheel_105 : decode cX6_wheel 105 = .ok (.iload_n 2, 1) := by decide +kernel
theorem dX6_wheel_106 : decode cX6_wheel 106 = .ok (.aload_n 0, 1) := by decide +kernel
theorem dX6_wheel_107 : decode cX6_wheel 107 = .ok (.getfield 39, 3) := by decide +kernel
theorem dX6_wheel_110 : decode cX6_wheel 110 = .ok (.iload_n 2, 1) := by decide +kernel
theorem dX6_wheel_111 : decode cX6_wheel 111 = .ok (.iaload, 1) := by decide +kernel
theorem dX6_wheel_112 : decode cX6_wheel 112 = .ok (.iastore, 1) := by decide +kernel
theorem dX6_wheel_113 : decode cX6_wheel 113 = .ok (.aload_n 0, 1) := by decide +kernel
theorem dX6_wheel_114 : decode cX6_wheel 114 = .ok (.getfield 54, 3) := by decide +kernel
theorem dX6_wheel_117 : decode cX6_wheel 117 = .ok (.iload_n 2, 1) := by decide +kernel
theorem dX6_wheel_118 : decode cX6_wheel 118 = .ok (.aload_n 0, 1) := by decide +kernel
theorem dX6_wheel_119 : decode cX6_wheel 119 = .ok (.getfield 42, 3) := by decide +kernel
theorem dX6_wheel_122 : decode cX6_wheel 122 = .ok (.iload_n 2, 1) := by decide +kernel
theorem dX6_wheel_123 : decode cX6_wheel 123 = .ok (.iaload, 1) := by decide +kernel
theorem dX6_wheel_124 : decode cX6_wheel 124 = .ok (.iastore, 1) := by decide +kernel
theorem dX6_wheel_125 : decode cX6_wheel 125 = .ok (.iinc 2 1, 3) := by decide +kernel
theorem dX6_wheel_128 : decode cX6_wheel 128 = .ok (.goto (-47), 3) := by decide +kernel
theorem dX6_wheel_131 : decode cX6_wheel 131 = .ok (.iconst 0, 1) := by decide +kernel
theorem dX6_wheel_132 : decode cX6_wheel 132 = .ok (.istore_n 2, 1) := by decide +kernel
theorem dX6_wheel_133 : decode cX6_wheel 133 = .ok (.iload_n 2, 1) := by decide +kernel
theorem dX6_wheel_134 : decode cX6_wheel 134 = .ok (.bipush 12, 2) := by decide +kernel
theorem dX6_wheel_136 : decode cX6_wheel 136 = .ok (.if_icmp .ge 16, 3) := by decide +kernel
theorem dX6_wheel_139 : decode cX6_wheel 139 = .ok (.aload_n 0, 1) := by decide +kernel
theorem dX6_wheel_140 : decode cX6_wheel 140 = .ok (.getfield 57, 3) := by decide +kernel
theorem dX6_wheel_143 : decode cX6_wheel 143 = .ok (.iload_n 2, 1) := by decide +kernel
theorem dX6_wheel_144 : decode cX6_wheel 144 = .ok (.iconst 0, 1) := by decide +kernel
theorem dX6_wheel_145 : decode cX6_wheel 145 = .ok (.iastore, 1) := by decide +kernel
theorem dX6_wheel_146 : decode cX6_wheel 146 = .ok (.iinc 2 1, 3) := by decide +kernel
theorem dX6_wheel_149 : decode cX6_wheel 149 = .ok (.goto (-16), 3) := by decide +kernel
theorem dX6_wheel_152 : decode cX6_wheel 152 = .ok (.aload_n 0, 1) := by decide +kernel
theorem dX6_wheel_153 : decode cX6_wheel 153 = .ok (.getfield 57, 3) := by decide +kernel
theorem dX6_wheel_156 : decode cX6_wheel 156 = .ok (.iconst 3, 1) := by decide +kernel
theorem dX6_wheel_157 : decode cX6_wheel 157 = .ok (.iconst 1, 1) := by decide +kernel
theorem dX6_wheel_158 : decode cX6_wheel 158 = .ok (.aload_n 0, 1) := by decide +kernel
theorem dX6_wheel_159 : decode cX6_wheel 159 = .ok (.getfield 142, 3) := by decide +kernel
theorem dX6_wheel_162 : decode cX6_wheel 162 = .ok (.ishl, 1) := by decide +kernel
theorem dX6_wheel_163 : decode cX6_wheel 163 = .ok (.iconst 1, 1) := by decide +kernel
theorem dX6_wheel_164 : decode cX6_wheel 164 = .ok (.isub, 1) := by decide +kernel
theorem dX6_wheel_165 : decode cX6_wheel 165 = .ok (.iastore, 1) := by decide +kernel
theorem dX6_wheel_166 : decode cX6_wheel 166 = .ok (.aload_n 0, 1) := by decide +kernel
theorem dX6_wheel_167 : decode cX6_wheel 167 = .ok (.iconst 0, 1) := by decide +kernel
theorem dX6_wheel_168 : decode cX6_wheel 168 = .ok (.putfield 148, 3) := by decide +kernel
theorem dX6_wheel_171 : decode cX6_wheel 171 = .ok (.iconst 0, 1) := by decide +kernel
theorem dX6_wheel_172 : decode cX6_wheel 172 = .ok (.istore_n 2, 1) := by decide +kernel
theorem dX6_wheel_173 : decode cX6_wheel 173 = .ok (.iload_n 2, 1) := by decide +kernel
theorem dX6_wheel_174 : decode cX6_wheel 174 = .ok (.iconst 3, 1) := by decide +kernel
theorem dX6_wheel_175 : decode cX6_wheel 175 = .ok (.if_icmp .ge 16, 3) := by decide +kernel
theorem dX6_wheel_178 : decode cX6_wheel 178 = .ok (.aload_n 0, 1) := by decide +kernel
theorem dX6_wheel_179 : decode cX6_wheel 179 = .ok (.getfield 66, 3) := by decide +kernel
theorem dX6_wheel_182 : decode cX6_wheel 182 = .ok (.iload_n 2, 1) := by decide +kernel
theorem dX6_wheel_183 : decode cX6_wheel 183 = .ok (.iconst (-1), 1) := by decide +kernel
theorem dX6_wheel_184 : decode cX6_wheel 184 = .ok (.iastore, 1) := by decide +kernel
theorem dX6_wheel_185 : decode cX6_wheel 185 = .ok (.iinc 2 1, 3) := by decide +kernel
theorem dX6_wheel_188 : decode cX6_wheel 188 = .ok (.goto (-15), 3) := by decide +kernel
theorem dX6_wheel_191 : decode cX6_wheel 191 = .ok (.aload_n 0, 1) := by decide +kernel
theorem dX6_wheel_192 : decode cX6_wheel 192 = .ok (.getfield 142, 3) := by decide +kernel
theorem dX6_wheel_195 : decode cX6_wheel 195 = .ok (.ireturn, 1) := by decide +kernel
theorem dX6_isSpoke_0 : decode cX6_isSpoke 0 = .ok (.iload_n 1, 1) := by decide +kernel
theorem dX6_isSpoke_1 : decode cX6_isSpoke 1 = .ok (.iconst 0, 1) := by decide +kernel
theorem dX6_isSpoke_2 : decode cX6_isSpoke 2 = .ok (.aload_n 0, 1) := by decide +kernel
theorem dX6_isSpoke_3 : decode cX6_isSpoke 3 = .ok (.getfield 142, 3) := by decide +kernel
theorem dX6_isSpoke_6 : decode cX6_isSpoke 6 = .ok (.iconst 1, 1) := by decide +kernel
theorem dX6_isSpoke_7 : decode cX6_isSpoke 7 = .ok (.isub, 1) := by decide +kernel
theorem dX6_isSpoke_8 : decode cX6_isSpoke 8 = .ok (.invokestatic 89, 3) := by decide +kernel
theorem dX6_isSpoke_11 : decode cX6_isSpoke 11 = .ok (.ireturn, 1) := by decide +kernel
theorem dX6_depth_0 : decode cX6_depth 0 = .ok (.aload_n 0, 1) := by decide +kernel
theorem dX6_depth_1 : decode cX6_depth 1 = .ok (.getfield 45, 3) := by decide +kernel
theorem dX6_depth_4 : decode cX6_depth 4 = .ok (.iload_n 1, 1) := by decide +kernel
theorem dX6_depth_5 : decode cX6_depth 5 = .ok (.bipush 8, 2) := by decide +kernel
theorem dX6_depth_7 : decode cX6_depth 7 = .ok (.irem, 1) := by decide +kernel
theorem dX6_depth_8 : decode cX6_depth 8 = .ok (.iaload, 1) := by decide +kernel
theorem dX6_depth_9 : decode cX6_depth 9 = .ok (.ireturn, 1) := by decide +kernel
theorem dX6_above0_0 : decode cX6_above0 0 = .ok (.iload_n 0, 1) := by decide +kernel
theorem dX6_above0_1 : decode cX6_above0 1 = .ok (.ifCond .le 7, 3) := by decide +kernel
theorem dX6_above0_4 : decode cX6_above0 4 = .ok (.iload_n 0, 1) := by decide +kernel
theorem dX6_above0_5 : decode cX6_above0 5 = .ok (.goto 4, 3) := by decide +kernel
theorem dX6_above0_8 : decode cX6_above0 8 = .ok (.iconst 0, 1) := by decide +kernel
theorem dX6_above0_9 : decode cX6_above0 9 = .ok (.ireturn, 1) := by decide +kernel
theorem dX6_bearsAs_0 : decode cX6_bearsAs 0 = .ok (.iconst 2, 1) := by decide +kernel
theorem dX6_bearsAs_1 : decode cX6_bearsAs 1 = .ok (.iload_n 1, 1) := by decide +kernel
theorem dX6_bearsAs_2 : decode cX6_bearsAs 2 = .ok (.imul, 1) := by decide +kernel
theorem dX6_bearsAs_3 : decode cX6_bearsAs 3 = .ok (.iload_n 3, 1) := by decide +kernel
theorem dX6_bearsAs_4 : decode cX6_bearsAs 4 = .ok (.isub, 1) := by decide +kernel
theorem dX6_bearsAs_5 : decode cX6_bearsAs 5 = .ok (.invokestatic 151, 3) := by decide +kernel
theorem dX6_bearsAs_8 : decode cX6_bearsAs 8 = .ok (.istore 5, 2) := by decide +kernel
theorem dX6_bearsAs_10 : decode cX6_bearsAs 10 = .ok (.iload_n 2, 1) := by decide +kernel
theorem dX6_bearsAs_11 : decode cX6_bearsAs 11 = .ok (.iconst 5, 1) := by decide +kernel
theorem dX6_bearsAs_12 : decode cX6_bearsAs 12 = .ok (.if_icmp .lt 7, 3) := by decide +kernel
theorem dX6_bearsAs_15 : decode cX6_bearsAs 15 = .ok (.iconst 3, 1) := by decide +kernel
theorem dX6_bearsAs_16 : decode cX6_bearsAs 16 = .ok (.goto 4, 3) := by decide +kernel
theorem dX6_bearsAs_19 : decode cX6_bearsAs 19 = .ok (.iconst 0, 1) := by decide +kernel
theorem dX6_bearsAs_20 : decode cX6_bearsAs 20 = .ok (.istore 6, 2) := by decide +kernel
theorem dX6_bearsAs_22 : decode cX6_bearsAs 22 = .ok (.iload_n 0, 1) := by decide +kernel
theorem dX6_bearsAs_23 : decode cX6_bearsAs 23 = .ok (.tableswitch 74 1 5 #[33, 38, 44, 58, 62], 33) := by decide +kernel
theorem dX6_bearsAs_56 : decode cX6_bearsAs 56 = .ok (.iload 5, 2) := by decide +kernel
theorem dX6_bearsAs_58 : decode cX6_bearsAs 58 = .ok (.iconst 2, 1) := by decide +kernel
theorem dX6_bearsAs_59 : decode cX6_bearsAs 59 = .ok (.idiv, 1) := by decide +kernel
theorem dX6_bearsAs_60 : decode cX6_bearsAs 60 = .ok (.ireturn, 1) := by decide +kernel
theorem dX6_bearsAs_61 : decode cX6_bearsAs 61 = .ok (.iload 5, 2) := by decide +kernel
theorem dX6_bearsAs_63 : decode cX6_bearsAs 63 = .ok (.iload 6, 2) := by decide +kernel
theorem dX6_bearsAs_65 : decode cX6_bearsAs 65 = .ok (.iadd, 1) := by decide +kernel
theorem dX6_bearsAs_66 : decode cX6_bearsAs 66 = .ok (.ireturn, 1) := by decide +kernel
theorem dX6_bearsAs_67 : decode cX6_bearsAs 67 = .ok (.iconst 2, 1) := by decide +kernel
theorem dX6_bearsAs_68 : decode cX6_bearsAs 68 = .ok (.iload_n 1, 1) := by decide +kernel
theorem dX6_bearsAs_69 : decode cX6_bearsAs 69 = .ok (.imul, 1) := by decide +kernel
theorem dX6_bearsAs_70 : decode cX6_bearsAs 70 = .ok (.iload_n 3, 1) := by decide +kernel
theorem dX6_bearsAs_71 : decode cX6_bearsAs 71 = .ok (.iconst 2, 1) := by decide +kernel
theorem dX6_bearsAs_72 : decode cX6_bearsAs 72 = .ok (.idiv, 1) := by decide +kernel
theorem dX6_bearsAs_73 : decode cX6_bearsAs 73 = .ok (.isub, 1) := by decide +kernel
theorem dX6_bearsAs_74 : decode cX6_bearsAs 74 = .ok (.invokestatic 151, 3) := by decide +kernel
theorem dX6_bearsAs_77 : decode cX6_bearsAs 77 = .ok (.iload 6, 2) := by decide +kernel
theorem dX6_bearsAs_79 : decode cX6_bearsAs 79 = .ok (.iadd, 1) := by decide +kernel
theorem dX6_bearsAs_80 : decode cX6_bearsAs 80 = .ok (.ireturn, 1) := by decide +kernel
theorem dX6_bearsAs_81 : decode cX6_bearsAs 81 = .ok (.iconst 2, 1) := by decide +kernel
theorem dX6_bearsAs_82 : decode cX6_bearsAs 82 = .ok (.iload_n 1, 1) := by decide +kernel
theorem dX6_bearsAs_83 : decode cX6_bearsAs 83 = .ok (.imul, 1) := by decide +kernel
theorem dX6_bearsAs_84 : decode cX6_bearsAs 84 = .ok (.ireturn, 1) := by decide +kernel
theorem dX6_bearsAs_85 : decode cX6_bearsAs 85 = .ok (.iconst 2, 1) := by decide +kernel
theorem dX6_bearsAs_86 : decode cX6_bearsAs 86 = .ok (.iload_n 1, 1) := by decide +kernel
theorem dX6_bearsAs_87 : decode cX6_bearsAs 87 = .ok (.imul, 1) := by decide +kernel
theorem dX6_bearsAs_88 : decode cX6_bearsAs 88 = .ok (.iload_n 3, 1) := by decide +kernel
theorem dX6_bearsAs_89 : decode cX6_bearsAs 89 = .ok (.iload 4, 2) := by decide +kernel
theorem dX6_bearsAs_91 : decode cX6_bearsAs 91 = .ok (.imul, 1) := by decide +kernel
theorem dX6_bearsAs_92 : decode cX6_bearsAs 92 = .ok (.isub, 1) := by decide +kernel
theorem dX6_bearsAs_93 : decode cX6_bearsAs 93 = .ok (.invokestatic 151, 3) := by decide +kernel
theorem dX6_bearsAs_96 : decode cX6_bearsAs 96 = .ok (.ireturn, 1) := by decide +kernel
theorem dX6_bearsAs_97 : decode cX6_bearsAs 97 = .ok (.iload 5, 2) := by decide +kernel
theorem dX6_bearsAs_99 : decode cX6_bearsAs 99 = .ok (.ireturn, 1) := by decide +kernel
theorem dX6_bearsOn_0 : decode cX6_bearsOn 0 = .ok (.aload_n 0, 1) := by decide +kernel
theorem dX6_bearsOn_1 : decode cX6_bearsOn 1 = .ok (.getfield 48, 3) := by decide +kernel
theorem dX6_bearsOn_4 : decode cX6_bearsOn 4 = .ok (.iload_n 2, 1) := by decide +kernel
theorem dX6_bearsOn_5 : decode cX6_bearsOn 5 = .ok (.iaload, 1) := by decide +kernel
theorem dX6_bearsOn_6 : decode cX6_bearsOn 6 = .ok (.aload_n 0, 1) := by decide +kernel
theorem dX6_bearsOn_7 : decode cX6_bearsOn 7 = .ok (.getfield 54, 3) := by decide +kernel
theorem dX6_bearsOn_10 : decode cX6_bearsOn 10 = .ok (.iload_n 2, 1) := by decide +kernel
theorem dX6_bearsOn_11 : decode cX6_bearsOn 11 = .ok (.iaload, 1) := by decide +kernel
theorem dX6_bearsOn_12 : decode cX6_bearsOn 12 = .ok (.iload_n 3, 1) := by decide +kernel
theorem dX6_bearsOn_13 : decode cX6_bearsOn 13 = .ok (.aload_n 1, 1) := by decide +kernel
theorem dX6_bearsOn_14 : decode cX6_bearsOn 14 = .ok (.iconst 4, 1) := by decide +kernel
theorem dX6_bearsOn_15 : decode cX6_bearsOn 15 = .ok (.iload_n 2, 1) := by decide +kernel
theorem dX6_bearsOn_16 : decode cX6_bearsOn 16 = .ok (.iadd, 1) := by decide +kernel
theorem dX6_bearsOn_17 : decode cX6_bearsOn 17 = .ok (.iaload, 1) := by decide +kernel
theorem dX6_bearsOn_18 : decode cX6_bearsOn 18 = .ok (.aload_n 1, 1) := by decide +kernel
theorem dX6_bearsOn_19 : decode cX6_bearsOn 19 = .ok (.iconst 2, 1) := by decide +kernel
theorem dX6_bearsOn_20 : decode cX6_bearsOn 20 = .ok (.iaload, 1) := by decide +kernel
theorem dX6_bearsOn_21 : decode cX6_bearsOn 21 = .ok (.invokestatic 154, 3) := by decide +kernel
theorem dX6_bearsOn_24 : decode cX6_bearsOn 24 = .ok (.ireturn, 1) := by decide +kernel
theorem dX6_isOver_0 : decode cX6_isOver 0 = .ok (.iconst 0, 1) := by decide +kernel
theorem dX6_isOver_1 : decode cX6_isOver 1 = .ok (.istore_n 2, 1) := by decide +kernel
theorem dX6_isOver_2 : decode cX6_isOver 2 = .ok (.iconst 0, 1) := by decide +kernel
theorem dX6_isOver_3 : decode cX6_isOver 3 = .ok (.istore_n 3, 1) := by decide +kernel
theorem dX6_isOver_4 : decode cX6_isOver 4 = .ok (.iload_n 3, 1) := by decide +kernel
theorem dX6_isOver_5 : decode cX6_isOver 5 = .ok (.aload_n 0, 1) := by decide +kernel
theorem dX6_isOver_6 : decode cX6_isOver 6 = .ok (.getfield 142, 3) := by decide +kernel
theorem dX6_isOver_9 : decode cX6_isOver 9 = .ok (.if_icmp .ge 46, 3) := by decide +kernel
theorem dX6_isOver_12 : decode cX6_isOver 12 = .ok (.iload_n 2, 1) := by decide +kernel
theorem dX6_isOver_13 : decode cX6_isOver 13 = .ok (.ifCond .ne 30, 3) := by decide +kernel
theorem dX6_isOver_16 : decode cX6_isOver 16 = .ok (.aload_n 1, 1) := by decide +kernel
theorem dX6_isOver_17 : decode cX6_isOver 17 = .ok (.iconst 3, 1) := by decide +kernel
theorem dX6_isOver_18 : decode cX6_isOver 18 = .ok (.iaload, 1) := by decide +kernel
theorem dX6_isOver_19 : decode cX6_isOver 19 = .ok (.iload_n 3, 1) := by decide +kernel
theorem dX6_isOver_20 : decode cX6_isOver 20 = .ok (.invokestatic 158, 3) := by decide +kernel
theorem dX6_isOver_23 : decode cX6_isOver 23 = .ok (.ifCond .ne 24, 3) := by decide +kernel
theorem dX6_isOver_26 : decode cX6_isOver 26 = .ok (.aload_n 1, 1) := by decide +kernel
theorem dX6_isOver_27 : decode cX6_isOver 27 = .ok (.iconst 3, 1) := by decide +kernel
theorem dX6_isOver_28 : decode cX6_isOver 28 = .ok (.iaload, 1) := by decide +kernel
theorem dX6_isOver_29 : decode cX6_isOver 29 = .ok (.iload_n 3, 1) := by decide +kernel
theorem dX6_isOver_30 : decode cX6_isOver 30 = .ok (.iconst 1, 1) := by decide +kernel
theorem dX6_isOver_31 : decode cX6_isOver 31 = .ok (.iadd, 1) := by decide +kernel
theorem dX6_isOver_32 : decode cX6_isOver 32 = .ok (.aload_n 0, 1) := by decide +kernel
theorem dX6_isOver_33 : decode cX6_isOver 33 = .ok (.getfield 142, 3) := by decide +kernel
theorem dX6_isOver_36 : decode cX6_isOver 36 = .ok (.irem, 1) := by decide +kernel
theorem dX6_isOver_37 : decode cX6_isOver 37 = .ok (.invokestatic 158, 3) := by decide +kernel
theorem dX6_isOver_40 : decode cX6_isOver 40 = .ok (.ifCond .ne 7, 3) := by decide +kernel
theorem dX6_isOver_43 : decode cX6_isOver 43 = .ok (.iconst 1, 1) := by decide +kernel
theorem dX6_isOver_44 : decode cX6_isOver 44 = .ok (.goto 4, 3) := by decide +kernel
theorem dX6_isOver_47 : decode cX6_isOver 47 = .ok (.iconst 0, 1) := by decide +kernel
theorem dX6_isOver_48 : decode cX6_isOver 48 = .ok (.istore_n 2, 1) := by decide +kernel
theorem dX6_isOver_49 : decode cX6_isOver 49 = .ok (.iinc 3 1, 3) := by decide +kernel
theorem dX6_isOver_52 : decode cX6_isOver 52 = .ok (.goto (-48), 3) := by decide +kernel
theorem dX6_isOver_55 : decode cX6_isOver 55 = .ok (.iload_n 2, 1) := by decide +kernel
theorem dX6_isOver_56 : decode cX6_isOver 56 = .ok (.ireturn, 1) := by decide +kernel
theorem dX6_steps_0 : decode cX6_steps 0 = .ok (.aload_n 1, 1) := by decide +kernel
theorem dX6_steps_1 : decode cX6_steps 1 = .ok (.iconst 1, 1) := by decide +kernel
theorem dX6_steps_2 : decode cX6_steps 2 = .ok (.iaload, 1) := by decide +kernel
theorem dX6_steps_3 : decode cX6_steps 3 = .ok (.istore_n 2, 1) := by decide +kernel
theorem dX6_steps_4 : decode cX6_steps 4 = .ok (.aload_n 1, 1) := by decide +kernel
theorem dX6_steps_5 : decode cX6_steps 5 = .ok (.iconst 0, 1) := by decide +kernel
theorem dX6_steps_6 : decode cX6_steps 6 = .ok (.iaload, 1) := by decide +kernel
theorem dX6_steps_7 : decode cX6_steps 7 = .ok (.istore_n 3, 1) := by decide +kernel
theorem dX6_steps_8 : decode cX6_steps 8 = .ok (.aload_n 0, 1) := by decide +kernel
theorem dX6_steps_9 : decode cX6_steps 9 = .ok (.iload_n 3, 1) := by decide +kernel
theorem dX6_steps_10 : decode cX6_steps 10 = .ok (.invokevirtual 162, 3) := by decide +kernel
theorem dX6_steps_13 : decode cX6_steps 13 = .ok (.istore 4, 2) := by decide +kernel
theorem dX6_steps_15 : decode cX6_steps 15 = .ok (.aload_n 1, 1) := by decide +kernel
theorem dX6_steps_16 : decode cX6_steps 16 = .ok (.iconst 3, 1) := by decide +kernel
theorem dX6_steps_17 : decode cX6_steps 17 = .ok (.iaload, 1) := by decide +kernel
theorem dX6_steps_18 : decode cX6_steps 18 = .ok (.iload_n 2, 1) := by decide +kernel
theorem dX6_steps_19 : decode cX6_steps 19 = .ok (.invokestatic 158, 3) := by decide +kernel
theorem dX6_steps_22 : decode cX6_steps 22 = .ok (.ifCond .eq 14, 3) := by decide +kernel
theorem dX6_steps_25 : decode cX6_steps 25 = .ok (.aload_n 0, 1) := by decide +kernel
theorem dX6_steps_26 : decode cX6_steps 26 = .ok (.getfield 51, 3) := by decide +kernel
theorem dX6_steps_29 : decode cX6_steps 29 = .ok (.iload_n 2, 1) := by decide +kernel
theorem dX6_steps_30 : decode cX6_steps 30 = .ok (.iaload, 1) := by decide +kernel
theorem dX6_steps_31 : decode cX6_steps 31 = .ok (.iload 4, 2) := by decide +kernel
theorem dX6_steps_33 : decode cX6_steps 33 = .ok (.if_icmp .ge 7, 3) := by decide +kernel
theorem dX6_steps_36 : decode cX6_steps 36 = .ok (.iconst 1, 1) := by decide +kernel
theorem dX6_steps_37 : decode cX6_steps 37 = .ok (.goto 4, 3) := by decide +kernel
theorem dX6_steps_40 : decode cX6_steps 40 = .ok (.iconst 0, 1) := by decide +kernel
theorem dX6_steps_41 : decode cX6_steps 41 = .ok (.istore 5, 2) := by decide +kernel
theorem dX6_steps_43 : decode cX6_steps 43 = .ok (.iload 5, 2) := by decide +kernel
theorem dX6_steps_45 : decode cX6_steps 45 = .ok (.ifCond .ne 33, 3) := by decide +kernel
theorem dX6_steps_48 : decode cX6_steps 48 = .ok (.aload_n 0, 1) := by decide +kernel
theorem dX6_steps_49 : decode cX6_steps 49 = .ok (.aload_n 1, 1) := by decide +kernel
theorem dX6_steps_50 : decode cX6_steps 50 = .ok (.iload_n 2, 1) := by decide +kernel
theorem dX6_steps_51 : decode cX6_steps 51 = .ok (.iload 4, 2) := by decide +kernel
theorem dX6_steps_53 : decode cX6_steps 53 = .ok (.invokevirtual 165, 3) := by decide +kernel
theorem dX6_steps_56 : decode cX6_steps 56 = .ok (.iload 4, 2) := by decide +kernel
theorem dX6_steps_58 : decode cX6_steps 58 = .ok (.if_icmp .ge 20, 3) := by decide +kernel
theorem dX6_steps_61 : decode cX6_steps 61 = .ok (.iconst 1, 1) := by decide +kernel
theorem dX6_steps_62 : decode cX6_steps 62 = .ok (.istore 5, 2) := by decide +kernel
theorem dX6_steps_64 : decode cX6_steps 64 = .ok (.aload_n 1, 1) := by decide +kernel
theorem dX6_steps_65 : decode cX6_steps 65 = .ok (.iconst 3, 1) := by decide +kernel
theorem dX6_steps_66 : decode cX6_steps 66 = .ok (.dup2, 1) := by decide +kernel
theorem dX6_steps_67 : decode cX6_steps 67 = .ok (.iaload, 1) := by decide +kernel
theorem dX6_steps_68 : decode cX6_steps 68 = .ok (.iconst 1, 1) := by decide +kernel
theorem dX6_steps_69 : decode cX6_steps 69 = .ok (.iload_n 2, 1) := by decide +kernel
theorem dX6_steps_70 : decode cX6_steps 70 = .ok (.ishl, 1) := by decide +kernel
theorem dX6_steps_71 : decode cX6_steps 71 = .ok (.iconst (-1), 1) := by decide +kernel
theorem dX6_steps_72 : decode cX6_steps 72 = .ok (.ixor, 1) := by decide +kernel
theorem dX6_steps_73 : decode cX6_steps 73 = .ok (.iand, 1) := by decide +kernel
theorem dX6_steps_74 : decode cX6_steps 74 = .ok (.iastore, 1) := by decide +kernel
theorem dX6_steps_75 : decode cX6_steps 75 = .ok (.goto 45, 3) := by decide +kernel
theorem dX6_steps_78 : decode cX6_steps 78 = .ok (.iload 5, 2) := by decide +kernel
theorem dX6_steps_80 : decode cX6_steps 80 = .ok (.ifCond .ne 40, 3) := by decide +kernel
theorem dX6_steps_83 : decode cX6_steps 83 = .ok (.aload_n 1, 1) := by decide +kernel
theorem dX6_steps_84 : decode cX6_steps 84 = .ok (.iconst 2, 1) := by decide +kernel
theorem dX6_steps_85 : decode cX6_steps 85 = .ok (.iaload, 1) := by decide +kernel
theorem dX6_steps_86 : decode cX6_steps 86 = .ok (.iconst 1, 1) := by decide +kernel
theorem dX6_steps_87 : decode cX6_steps 87 = .ok (.if_icmp .eq 10, 3) := by decide +kernel
theorem dX6_steps_90 : decode cX6_steps 90 = .ok (.iload_n 3, 1) := by decide +kernel
theorem dX6_steps_91 : decode cX6_steps 91 = .ok (.iconst 2, 1) := by decide +kernel
theorem dX6_steps_92 : decode cX6_steps 92 = .ok (.irem, 1) := by decide +kernel
theorem dX6_steps_93 : decode cX6_steps 93 = .ok (.iconst 1, 1) := by decide +kernel
theorem dX6_steps_94 : decode cX6_steps 94 = .ok (.if_icmp .ne 26, 3) := by decide +kernel
theorem dX6_steps_97 : decode cX6_steps 97 = .ok (.aload_n 1, 1) := by decide +kernel
theorem dX6_steps_98 : decode cX6_steps 98 = .ok (.iconst 4, 1) := by decide +kernel
theorem dX6_steps_99 : decode cX6_steps 99 = .ok (.iload_n 2, 1) := by decide +kernel
theorem dX6_steps_100 : decode cX6_steps 100 = .ok (.iadd, 1) := by decide +kernel
theorem dX6_steps_101 : decode cX6_steps 101 = .ok (.dup2, 1) := by decide +kernel
theorem dX6_steps_102 : decode cX6_steps 102 = .ok (.iaload, 1) := by decide +kernel
theorem dX6_steps_103 : decode cX6_steps 103 = .ok (.aload_n 1, 1) := by decide +kernel
theorem dX6_steps_104 : decode cX6_steps 104 = .ok (.iconst 4, 1) := by decide +kernel
theorem dX6_steps_105 : decode cX6_steps 105 = .ok (.iload_n 2, 1) := by decide +kernel
theorem dX6_steps_106 : decode cX6_steps 106 = .ok (.iadd, 1) := by decide +kernel
theorem dX6_steps_107 : decode cX6_steps 107 = .ok (.iaload, 1) := by decide +kernel
theorem dX6_steps_108 : decode cX6_steps 108 = .ok (.bipush 30, 2) := by decide +kernel
theorem dX6_steps_110 : decode cX6_steps 110 = .ok (.if_icmp .ge 7, 3) := by decide +kernel
theorem dX6_steps_113 : decode cX6_steps 113 = .ok (.iconst 1, 1) := by decide +kernel
theorem dX6_steps_114 : decode cX6_steps 114 = .ok (.goto 4, 3) := by decide +kernel
theorem dX6_steps_117 : decode cX6_steps 117 = .ok (.iconst 0, 1) := by decide +kernel
theorem dX6_steps_118 : decode cX6_steps 118 = .ok (.iadd, 1) := by decide +kernel
theorem dX6_steps_119 : decode cX6_steps 119 = .ok (.iastore, 1) := by decide +kernel
theorem dX6_steps_120 : decode cX6_steps 120 = .ok (.aload_n 1, 1) := by decide +kernel
theorem dX6_steps_121 : decode cX6_steps 121 = .ok (.iconst 1, 1) := by decide +kernel
theorem dX6_steps_122 : decode cX6_steps 122 = .ok (.iload_n 2, 1) := by decide +kernel
theorem dX6_steps_123 : decode cX6_steps 123 = .ok (.iconst 1, 1) := by decide +kernel
theorem dX6_steps_124 : decode cX6_steps 124 = .ok (.iadd, 1) := by decide +kernel
theorem dX6_steps_125 : decode cX6_steps 125 = .ok (.aload_n 0, 1) := by decide +kernel
theorem dX6_steps_126 : decode cX6_steps 126 = .ok (.getfield 142, 3) := by decide +kernel
theorem dX6_steps_129 : decode cX6_steps 129 = .ok (.irem, 1) := by decide +kernel
theorem dX6_steps_130 : decode cX6_steps 130 = .ok (.iastore, 1) := by decide +kernel
theorem dX6_steps_131 : decode cX6_steps 131 = .ok (.aload_n 1, 1) := by decide +kernel
theorem dX6_steps_132 : decode cX6_steps 132 = .ok (.iconst 0, 1) := by decide +kernel
theorem dX6_steps_133 : decode cX6_steps 133 = .ok (.dup2, 1) := by decide +kernel
theorem dX6_steps_134 : decode cX6_steps 134 = .ok (.iaload, 1) := by decide +kernel
theorem dX6_steps_135 : decode cX6_steps 135 = .ok (.iconst 1, 1) := by decide +kernel
theorem dX6_steps_136 : decode cX6_steps 136 = .ok (.iadd, 1) := by decide +kernel
theorem dX6_steps_137 : decode cX6_steps 137 = .ok (.iastore, 1) := by decide +kernel
theorem dX6_steps_138 : decode cX6_steps 138 = .ok (.iload 5, 2) := by decide +kernel
theorem dX6_steps_140 : decode cX6_steps 140 = .ok (.ireturn, 1) := by decide +kernel
theorem dX6_spokeTells_0 : decode cX6_spokeTells 0 = .ok (.iload_n 2, 1) := by decide +kernel
theorem dX6_spokeTells_1 : decode cX6_spokeTells 1 = .ok (.tableswitch 76 0 4 #[35, 42, 49, 56, 65], 35) := by decide +kernel
theorem dX6_spokeTells_36 : decode cX6_spokeTells 36 = .ok (.aload_n 0, 1) := by decide +kernel
theorem dX6_spokeTells_37 : decode cX6_spokeTells 37 = .ok (.getfield 48, 3) := by decide +kernel
theorem dX6_spokeTells_40 : decode cX6_spokeTells 40 = .ok (.iload_n 1, 1) := by decide +kernel
theorem dX6_spokeTells_41 : decode cX6_spokeTells 41 = .ok (.iaload, 1) := by decide +kernel
theorem dX6_spokeTells_42 : decode cX6_spokeTells 42 = .ok (.ireturn, 1) := by decide +kernel
theorem dX6_spokeTells_43 : decode cX6_spokeTells 43 = .ok (.aload_n 0, 1) := by decide +kernel
theorem dX6_spokeTells_44 : decode cX6_spokeTells 44 = .ok (.getfield 51, 3) := by decide +kernel
theorem dX6_spokeTells_47 : decode cX6_spokeTells 47 = .ok (.iload_n 1, 1) := by decide +kernel
theorem dX6_spokeTells_48 : decode cX6_spokeTells 48 = .ok (.iaload, 1) := by decide +kernel
theorem dX6_spokeTells_49 : decode cX6_spokeTells 49 = .ok (.ireturn, 1) := by decide +kernel
theorem dX6_spokeTells_50 : decode cX6_spokeTells 50 = .ok (.aload_n 0, 1) := by decide +kernel
theorem dX6_spokeTells_51 : decode cX6_spokeTells 51 = .ok (.getfield 54, 3) := by decide +kernel
theorem dX6_spokeTells_54 : decode cX6_spokeTells 54 = .ok (.iload_n 1, 1) := by decide +kernel
theorem dX6_spokeTells_55 : decode cX6_spokeTells 55 = .ok (.iaload, 1) := by decide +kernel
theorem dX6_spokeTells_56 : decode cX6_spokeTells 56 = .ok (.ireturn, 1) := by decide +kernel
theorem dX6_spokeTells_57 : decode cX6_spokeTells 57 = .ok (.aload_n 0, 1) := by decide +kernel
theorem dX6_spokeTells_58 : decode cX6_spokeTells 58 = .ok (.getfield 57, 3) := by decide +kernel
theorem dX6_spokeTells_61 : decode cX6_spokeTells 61 = .ok (.iconst 4, 1) := by decide +kernel
theorem dX6_spokeTells_62 : decode cX6_spokeTells 62 = .ok (.iload_n 1, 1) := by decide +kernel
theorem dX6_spokeTells_63 : decode cX6_spokeTells 63 = .ok (.iadd, 1) := by decide +kernel
theorem dX6_spokeTells_64 : decode cX6_spokeTells 64 = .ok (.iaload, 1) := by decide +kernel
theorem dX6_spokeTells_65 : decode cX6_spokeTells 65 = .ok (.ireturn, 1) := by decide +kernel
theorem dX6_spokeTells_66 : decode cX6_spokeTells 66 = .ok (.aload_n 0, 1) := by decide +kernel
theorem dX6_spokeTells_67 : decode cX6_spokeTells 67 = .ok (.getfield 57, 3) := by decide +kernel
theorem dX6_spokeTells_70 : decode cX6_spokeTells 70 = .ok (.iconst 3, 1) := by decide +kernel
theorem dX6_spokeTells_71 : decode cX6_spokeTells 71 = .ok (.iaload, 1) := by decide +kernel
theorem dX6_spokeTells_72 : decode cX6_spokeTells 72 = .ok (.iload_n 1, 1) := by decide +kernel
theorem dX6_spokeTells_73 : decode cX6_spokeTells 73 = .ok (.ishr, 1) := by decide +kernel
theorem dX6_spokeTells_74 : decode cX6_spokeTells 74 = .ok (.iconst 1, 1) := by decide +kernel
theorem dX6_spokeTells_75 : decode cX6_spokeTells 75 = .ok (.iand, 1) := by decide +kernel
theorem dX6_spokeTells_76 : decode cX6_spokeTells 76 = .ok (.ireturn, 1) := by decide +kernel
theorem dX6_spokeTells_77 : decode cX6_spokeTells 77 = .ok (.aload_n 0, 1) := by decide +kernel
theorem dX6_spokeTells_78 : decode cX6_spokeTells 78 = .ok (.aload_n 0, 1) := by decide +kernel
theorem dX6_spokeTells_79 : decode cX6_spokeTells 79 = .ok (.getfield 57, 3) := by decide +kernel
theorem dX6_spokeTells_82 : decode cX6_spokeTells 82 = .ok (.iload_n 1, 1) := by decide +kernel
theorem dX6_spokeTells_83 : decode cX6_spokeTells 83 = .ok (.aload_n 0, 1) := by decide +kernel
theorem dX6_spokeTells_84 : decode cX6_spokeTells 84 = .ok (.aload_n 0, 1) := by decide +kernel
theorem dX6_spokeTells_85 : decode cX6_spokeTells 85 = .ok (.getfield 57, 3) := by decide +kernel
theorem dX6_spokeTells_88 : decode cX6_spokeTells 88 = .ok (.iconst 0, 1) := by decide +kernel
theorem dX6_spokeTells_89 : decode cX6_spokeTells 89 = .ok (.iaload, 1) := by decide +kernel
theorem dX6_spokeTells_90 : decode cX6_spokeTells 90 = .ok (.invokevirtual 162, 3) := by decide +kernel
theorem dX6_spokeTells_93 : decode cX6_spokeTells 93 = .ok (.invokevirtual 165, 3) := by decide +kernel
theorem dX6_spokeTells_96 : decode cX6_spokeTells 96 = .ok (.ireturn, 1) := by decide +kernel
theorem dX6_spoke_0 : decode cX6_spoke 0 = .ok (.aload_n 0, 1) := by decide +kernel
theorem dX6_spoke_1 : decode cX6_spoke 1 = .ok (.iload_n 1, 1) := by decide +kernel
theorem dX6_spoke_2 : decode cX6_spoke 2 = .ok (.invokevirtual 169, 3) := by decide +kernel
theorem dX6_spoke_5 : decode cX6_spoke 5 = .ok (.ifCond .eq 26, 3) := by decide +kernel
theorem dX6_spoke_8 : decode cX6_spoke 8 = .ok (.iload_n 2, 1) := by decide +kernel
theorem dX6_spoke_9 : decode cX6_spoke 9 = .ok (.iconst 0, 1) := by decide +kernel
theorem dX6_spoke_10 : decode cX6_spoke 10 = .ok (.iconst 5, 1) := by decide +kernel
theorem dX6_spoke_11 : decode cX6_spoke 11 = .ok (.invokestatic 89, 3) := by decide +kernel
theorem dX6_spoke_14 : decode cX6_spoke 14 = .ok (.ifCond .eq 17, 3) := by decide +kernel
theorem dX6_spoke_17 : decode cX6_spoke 17 = .ok (.aload_n 0, 1) := by decide +kernel
theorem dX6_spoke_18 : decode cX6_spoke 18 = .ok (.aload_n 0, 1) := by decide +kernel
theorem dX6_spoke_19 : decode cX6_spoke 19 = .ok (.iload_n 1, 1) := by decide +kernel
theorem dX6_spoke_20 : decode cX6_spoke 20 = .ok (.iload_n 2, 1) := by decide +kernel
theorem dX6_spoke_21 : decode cX6_spoke 21 = .ok (.invokevirtual 172, 3) := by decide +kernel
theorem dX6_spoke_24 : decode cX6_spoke 24 = .ok (.iconst 1, 1) := by decide +kernel
theorem dX6_spoke_25 : decode cX6_spoke 25 = .ok (.invokevirtual 105, 3) := by decide +kernel
theorem dX6_spoke_28 : decode cX6_spoke 28 = .ok (.goto 4, 3) := by decide +kernel
theorem dX6_spoke_31 : decode cX6_spoke 31 = .ok (.iconst (-1), 1) := by decide +kernel
theorem dX6_spoke_32 : decode cX6_spoke 32 = .ok (.ireturn, 1) := by decide +kernel
theorem dX6_isOf_0 : decode cX6_isOf 0 = .ok (.iload_n 0, 1) := by decide +kernel
theorem dX6_isOf_1 : decode cX6_isOf 1 = .ok (.iload_n 1, 1) := by decide +kernel
theorem dX6_isOf_2 : decode cX6_isOf 2 = .ok (.if_icmp .eq 23, 3) := by decide +kernel
theorem dX6_isOf_5 : decode cX6_isOf 5 = .ok (.iload_n 1, 1) := by decide +kernel
theorem dX6_isOf_6 : decode cX6_isOf 6 = .ok (.iconst 2, 1) := by decide +kernel
theorem dX6_isOf_7 : decode cX6_isOf 7 = .ok (.if_icmp .ne 8, 3) := by decide +kernel
theorem dX6_isOf_10 : decode cX6_isOf 10 = .ok (.iload_n 0, 1) := by decide +kernel
theorem dX6_isOf_11 : decode cX6_isOf 11 = .ok (.iconst 3, 1) := by decide +kernel
theorem dX6_isOf_12 : decode cX6_isOf 12 = .ok (.if_icmp .eq 13, 3) := by decide +kernel
theorem dX6_isOf_15 : decode cX6_isOf 15 = .ok (.iload_n 1, 1) := by decide +kernel
theorem dX6_isOf_16 : decode cX6_isOf 16 = .ok (.iconst 4, 1) := by decide +kernel
theorem dX6_isOf_17 : decode cX6_isOf 17 = .ok (.if_icmp .ne 12, 3) := by decide +kernel
theorem dX6_isOf_20 : decode cX6_isOf 20 = .ok (.iload_n 0, 1) := by decide +kernel
theorem dX6_isOf_21 : decode cX6_isOf 21 = .ok (.iconst 5, 1) := by decide +kernel
theorem dX6_isOf_22 : decode cX6_isOf 22 = .ok (.if_icmp .ne 7, 3) := by decide +kernel
theorem dX6_isOf_25 : decode cX6_isOf 25 = .ok (.iconst 1, 1) := by decide +kernel
theorem dX6_isOf_26 : decode cX6_isOf 26 = .ok (.goto 4, 3) := by decide +kernel
theorem dX6_isOf_29 : decode cX6_isOf 29 = .ok (.iconst 0, 1) := by decide +kernel
theorem dX6_isOf_30 : decode cX6_isOf 30 = .ok (.ireturn, 1) := by decide +kernel
theorem dX6_alike_0 : decode cX6_alike 0 = .ok (.iload_n 2, 1) := by decide +kernel
theorem dX6_alike_1 : decode cX6_alike 1 = .ok (.aload_n 0, 1) := by decide +kernel
theorem dX6_alike_2 : decode cX6_alike 2 = .ok (.getfield 54, 3) := by decide +kernel
theorem dX6_alike_5 : decode cX6_alike 5 = .ok (.iload_n 1, 1) := by decide +kernel
theorem dX6_alike_6 : decode cX6_alike 6 = .ok (.iaload, 1) := by decide +kernel
theorem dX6_alike_7 : decode cX6_alike 7 = .ok (.aload_n 0, 1) := by decide +kernel
theorem dX6_alike_8 : decode cX6_alike 8 = .ok (.aload_n 0, 1) := by decide +kernel
theorem dX6_alike_9 : decode cX6_alike 9 = .ok (.getfield 57, 3) := by decide +kernel
theorem dX6_alike_12 : decode cX6_alike 12 = .ok (.iconst 0, 1) := by decide +kernel
theorem dX6_alike_13 : decode cX6_alike 13 = .ok (.iaload, 1) := by decide +kernel
theorem dX6_alike_14 : decode cX6_alike 14 = .ok (.invokevirtual 162, 3) := by decide +kernel
theorem dX6_alike_17 : decode cX6_alike 17 = .ok (.aload_n 0, 1) := by decide +kernel
theorem dX6_alike_18 : decode cX6_alike 18 = .ok (.getfield 57, 3) := by decide +kernel
theorem dX6_alike_21 : decode cX6_alike 21 = .ok (.iconst 4, 1) := by decide +kernel
theorem dX6_alike_22 : decode cX6_alike 22 = .ok (.iload_n 1, 1) := by decide +kernel
theorem dX6_alike_23 : decode cX6_alike 23 = .ok (.iadd, 1) := by decide +kernel
theorem dX6_alike_24 : decode cX6_alike 24 = .ok (.iaload, 1) := by decide +kernel
theorem dX6_alike_25 : decode cX6_alike 25 = .ok (.aload_n 0, 1) := by decide +kernel
theorem dX6_alike_26 : decode cX6_alike 26 = .ok (.getfield 57, 3) := by decide +kernel
theorem dX6_alike_29 : decode cX6_alike 29 = .ok (.iconst 2, 1) := by decide +kernel
theorem dX6_alike_30 : decode cX6_alike 30 = .ok (.iaload, 1) := by decide +kernel
theorem dX6_alike_31 : decode cX6_alike 31 = .ok (.invokestatic 154, 3) := by decide +kernel
theorem dX6_alike_34 : decode cX6_alike 34 = .ok (.ireturn, 1) := by decide +kernel
theorem dX6_mark_0 : decode cX6_mark 0 = .ok (.aload_n 0, 1) := by decide +kernel
theorem dX6_mark_1 : decode cX6_mark 1 = .ok (.iload_n 1, 1) := by decide +kernel
theorem dX6_mark_2 : decode cX6_mark 2 = .ok (.invokevirtual 169, 3) := by decide +kernel
theorem dX6_mark_5 : decode cX6_mark 5 = .ok (.ifCond .eq 12, 3) := by decide +kernel
theorem dX6_mark_8 : decode cX6_mark 8 = .ok (.iload_n 2, 1) := by decide +kernel
theorem dX6_mark_9 : decode cX6_mark 9 = .ok (.iconst 1, 1) := by decide +kernel
theorem dX6_mark_10 : decode cX6_mark 10 = .ok (.iconst 5, 1) := by decide +kernel
theorem dX6_mark_11 : decode cX6_mark 11 = .ok (.invokestatic 89, 3) := by decide +kernel
theorem dX6_mark_14 : decode cX6_mark 14 = .ok (.ifCond .ne 5, 3) := by decide +kernel
theorem dX6_mark_17 : decode cX6_mark 17 = .ok (.iconst (-1), 1) := by decide +kernel
theorem dX6_mark_18 : decode cX6_mark 18 = .ok (.ireturn, 1) := by decide +kernel
theorem dX6_mark_19 : decode cX6_mark 19 = .ok (.aload_n 0, 1) := by decide +kernel
theorem dX6_mark_20 : decode cX6_mark 20 = .ok (.getfield 48, 3) := by decide +kernel
theorem dX6_mark_23 : decode cX6_mark 23 = .ok (.iload_n 1, 1) := by decide +kernel
theorem dX6_mark_24 : decode cX6_mark 24 = .ok (.iaload, 1) := by decide +kernel
theorem dX6_mark_25 : decode cX6_mark 25 = .ok (.iload_n 2, 1) := by decide +kernel
theorem dX6_mark_26 : decode cX6_mark 26 = .ok (.invokestatic 175, 3) := by decide +kernel
theorem dX6_mark_29 : decode cX6_mark 29 = .ok (.ifCond .ne 9, 3) := by decide +kernel
theorem dX6_mark_32 : decode cX6_mark 32 = .ok (.aload_n 0, 1) := by decide +kernel
theorem dX6_mark_33 : decode cX6_mark 33 = .ok (.iconst 3, 1) := by decide +kernel
theorem dX6_mark_34 : decode cX6_mark 34 = .ok (.invokevirtual 97, 3) := by decide +kernel
theorem dX6_mark_37 : decode cX6_mark 37 = .ok (.ireturn, 1) := by decide +kernel
theorem dX6_mark_38 : decode cX6_mark 38 = .ok (.aload_n 0, 1) := by decide +kernel
theorem dX6_mark_39 : decode cX6_mark 39 = .ok (.iload_n 1, 1) := by decide +kernel
theorem dX6_mark_40 : decode cX6_mark 40 = .ok (.aload_n 0, 1) := by decide +kernel
theorem dX6_mark_41 : decode cX6_mark 41 = .ok (.getfield 48, 3) := by decide +kernel
theorem dX6_mark_44 : decode cX6_mark 44 = .ok (.iload_n 1, 1) := by decide +kernel
theorem dX6_mark_45 : decode cX6_mark 45 = .ok (.iaload, 1) := by decide +kernel
theorem dX6_mark_46 : decode cX6_mark 46 = .ok (.invokevirtual 178, 3) := by decide +kernel
theorem dX6_mark_49 : decode cX6_mark 49 = .ok (.istore_n 3, 1) := by decide +kernel
theorem dX6_mark_50 : decode cX6_mark 50 = .ok (.iload_n 2, 1) := by decide +kernel
theorem dX6_mark_51 : decode cX6_mark 51 = .ok (.tableswitch 60 1 5 #[33, 60, 42, 60, 51], 33) := by decide +kernel
theorem dX6_mark_84 : decode cX6_mark 84 = .ok (.aload_n 0, 1) := by decide +kernel
theorem dX6_mark_85 : decode cX6_mark 85 = .ok (.iload_n 1, 1) := by decide +kernel
theorem dX6_mark_86 : decode cX6_mark 86 = .ok (.iconst 0, 1) := by decide +kernel
theorem dX6_mark_87 : decode cX6_mark 87 = .ok (.invokevirtual 178, 3) := by decide +kernel
theorem dX6_mark_90 : decode cX6_mark 90 = .ok (.iload_n 3, 1) := by decide +kernel
theorem dX6_mark_91 : decode cX6_mark 91 = .ok (.isub, 1) := by decide +kernel
theorem dX6_mark_92 : decode cX6_mark 92 = .ok (.ireturn, 1) := by decide +kernel
theorem dX6_mark_93 : decode cX6_mark 93 = .ok (.iload_n 3, 1) := by decide +kernel
theorem dX6_mark_94 : decode cX6_mark 94 = .ok (.aload_n 0, 1) := by decide +kernel
theorem dX6_mark_95 : decode cX6_mark 95 = .ok (.iload_n 1, 1) := by decide +kernel
theorem dX6_mark_96 : decode cX6_mark 96 = .ok (.iconst 2, 1) := by decide +kernel
theorem dX6_mark_97 : decode cX6_mark 97 = .ok (.invokevirtual 178, 3) := by decide +kernel
theorem dX6_mark_100 : decode cX6_mark 100 = .ok (.isub, 1) := by decide +kernel
theorem dX6_mark_101 : decode cX6_mark 101 = .ok (.ireturn, 1) := by decide +kernel
theorem dX6_mark_102 : decode cX6_mark 102 = .ok (.aload_n 0, 1) := by decide +kernel
theorem dX6_mark_103 : decode cX6_mark 103 = .ok (.iload_n 1, 1) := by decide +kernel
theorem dX6_mark_104 : decode cX6_mark 104 = .ok (.iconst 4, 1) := by decide +kernel
theorem dX6_mark_105 : decode cX6_mark 105 = .ok (.invokevirtual 178, 3) := by decide +kernel
theorem dX6_mark_108 : decode cX6_mark 108 = .ok (.iload_n 3, 1) := by decide +kernel
theorem dX6_mark_109 : decode cX6_mark 109 = .ok (.isub, 1) := by decide +kernel
theorem dX6_mark_110 : decode cX6_mark 110 = .ok (.ireturn, 1) := by decide +kernel
theorem dX6_mark_111 : decode cX6_mark 111 = .ok (.iload_n 3, 1) := by decide +kernel
theorem dX6_mark_112 : decode cX6_mark 112 = .ok (.aload_n 0, 1) := by decide +kernel
theorem dX6_mark_113 : decode cX6_mark 113 = .ok (.iload_n 1, 1) := by decide +kernel
theorem dX6_mark_114 : decode cX6_mark 114 = .ok (.iconst 0, 1) := by decide +kernel
theorem dX6_mark_115 : decode cX6_mark 115 = .ok (.invokevirtual 178, 3) := by decide +kernel
theorem dX6_mark_118 : decode cX6_mark 118 = .ok (.isub, 1) := by decide +kernel
theorem dX6_mark_119 : decode cX6_mark 119 = .ok (.bipush 100, 2) := by decide +kernel
theorem dX6_mark_121 : decode cX6_mark 121 = .ok (.iadd, 1) := by decide +kernel
theorem dX6_mark_122 : decode cX6_mark 122 = .ok (.ireturn, 1) := by decide +kernel
theorem dX6_bears_0 : decode cX6_bears 0 = .ok (.aload_n 0, 1) := by decide +kernel
theorem dX6_bears_1 : decode cX6_bears 1 = .ok (.iload_n 1, 1) := by decide +kernel
theorem dX6_bears_2 : decode cX6_bears 2 = .ok (.invokevirtual 169, 3) := by decide +kernel
theorem dX6_bears_5 : decode cX6_bears 5 = .ok (.ifCond .eq 49, 3) := by decide +kernel
theorem dX6_bears_8 : decode cX6_bears 8 = .ok (.iload_n 2, 1) := by decide +kernel
theorem dX6_bears_9 : decode cX6_bears 9 = .ok (.iconst 0, 1) := by decide +kernel
theorem dX6_bears_10 : decode cX6_bears 10 = .ok (.bipush 9, 2) := by decide +kernel
theorem dX6_bears_12 : decode cX6_bears 12 = .ok (.invokestatic 89, 3) := by decide +kernel
theorem dX6_bears_15 : decode cX6_bears 15 = .ok (.ifCond .eq 39, 3) := by decide +kernel
theorem dX6_bears_18 : decode cX6_bears 18 = .ok (.iload_n 3, 1) := by decide +kernel
theorem dX6_bears_19 : decode cX6_bears 19 = .ok (.iconst 0, 1) := by decide +kernel
theorem dX6_bears_20 : decode cX6_bears 20 = .ok (.bipush 30, 2) := by decide +kernel
theorem dX6_bears_22 : decode cX6_bears 22 = .ok (.invokestatic 89, 3) := by decide +kernel
theorem dX6_bears_25 : decode cX6_bears 25 = .ok (.ifCond .eq 29, 3) := by decide +kernel
theorem dX6_bears_28 : decode cX6_bears 28 = .ok (.aload_n 0, 1) := by decide +kernel
theorem dX6_bears_29 : decode cX6_bears 29 = .ok (.getfield 48, 3) := by decide +kernel
theorem dX6_bears_32 : decode cX6_bears 32 = .ok (.iload_n 1, 1) := by decide +kernel
theorem dX6_bears_33 : decode cX6_bears 33 = .ok (.iaload, 1) := by decide +kernel
theorem dX6_bears_34 : decode cX6_bears 34 = .ok (.aload_n 0, 1) := by decide +kernel
theorem dX6_bears_35 : decode cX6_bears 35 = .ok (.getfield 54, 3) := by decide +kernel
theorem dX6_bears_38 : decode cX6_bears 38 = .ok (.iload_n 1, 1) := by decide +kernel
theorem dX6_bears_39 : decode cX6_bears 39 = .ok (.iaload, 1) := by decide +kernel
theorem dX6_bears_40 : decode cX6_bears 40 = .ok (.iload_n 2, 1) := by decide +kernel
theorem dX6_bears_41 : decode cX6_bears 41 = .ok (.iload_n 3, 1) := by decide +kernel
theorem dX6_bears_42 : decode cX6_bears 42 = .ok (.aload_n 0, 1) := by decide +kernel
theorem dX6_bears_43 : decode cX6_bears 43 = .ok (.getfield 57, 3) := by decide +kernel
theorem dX6_bears_46 : decode cX6_bears 46 = .ok (.iconst 2, 1) := by decide +kernel
theorem dX6_bears_47 : decode cX6_bears 47 = .ok (.iaload, 1) := by decide +kernel
theorem dX6_bears_48 : decode cX6_bears 48 = .ok (.invokestatic 154, 3) := by decide +kernel
theorem dX6_bears_51 : decode cX6_bears 51 = .ok (.goto 4, 3) := by decide +kernel
theorem dX6_bears_54 : decode cX6_bears 54 = .ok (.iconst (-1), 1) := by decide +kernel
theorem dX6_bears_55 : decode cX6_bears 55 = .ok (.ireturn, 1) := by decide +kernel
theorem dX6_remember_0 : decode cX6_remember 0 = .ok (.iconst 0, 1) := by decide +kernel
theorem dX6_remember_1 : decode cX6_remember 1 = .ok (.istore_n 1, 1) := by decide +kernel
theorem dX6_remember_2 : decode cX6_remember 2 = .ok (.iload_n 1, 1) := by decide +kernel
theorem dX6_remember_3 : decode cX6_remember 3 = .ok (.bipush 12, 2) := by decide +kernel
theorem dX6_remember_5 : decode cX6_remember 5 = .ok (.if_icmp .ge 29, 3) := by decide +kernel
theorem dX6_remember_8 : decode cX6_remember 8 = .ok (.aload_n 0, 1) := by decide +kernel
theorem dX6_remember_9 : decode cX6_remember 9 = .ok (.getfield 63, 3) := by decide +kernel
theorem dX6_remember_12 : decode cX6_remember 12 = .ok (.bipush 12, 2) := by decide +kernel
theorem dX6_remember_14 : decode cX6_remember 14 = .ok (.aload_n 0, 1) := by decide +kernel
theorem dX6_remember_15 : decode cX6_remember 15 = .ok (.getfield 148, 3) := by decide +kernel
theorem dX6_remember_18 : decode cX6_remember 18 = .ok (.imul, 1) := by decide +kernel
theorem dX6_remember_19 : decode cX6_remember 19 = .ok (.iload_n 1, 1) := by decide +kernel
theorem dX6_remember_20 : decode cX6_remember 20 = .ok (.iadd, 1) := by decide +kernel
theorem dX6_remember_21 : decode cX6_remember 21 = .ok (.aload_n 0, 1) := by decide +kernel
theorem dX6_remember_22 : decode cX6_remember 22 = .ok (.getfield 57, 3) := by decide +kernel
theorem dX6_remember_25 : decode cX6_remember 25 = .ok (.iload_n 1, 1) := by decide +kernel
theorem dX6_remember_26 : decode cX6_remember 26 = .ok (.iaload, 1) := by decide +kernel
theorem dX6_remember_27 : decode cX6_remember 27 = .ok (.iastore, 1) := by decide +kernel
theorem dX6_remember_28 : decode cX6_remember 28 = .ok (.iinc 1 1, 3) := by decide +kernel
theorem dX6_remember_31 : decode cX6_remember 31 = .ok (.goto (-29), 3) := by decide +kernel
theorem dX6_remember_34 : decode cX6_remember 34 = .ok (.aload_n 0, 1) := by decide +kernel
theorem dX6_remember_35 : decode cX6_remember 35 = .ok (.dup, 1) := by decide +kernel
theorem dX6_remember_36 : decode cX6_remember 36 = .ok (.getfield 148, 3) := by decide +kernel
theorem dX6_remember_39 : decode cX6_remember 39 = .ok (.iconst 1, 1) := by decide +kernel
theorem dX6_remember_40 : decode cX6_remember 40 = .ok (.iadd, 1) := by decide +kernel
theorem dX6_remember_41 : decode cX6_remember 41 = .ok (.putfield 148, 3) := by decide +kernel
theorem dX6_remember_44 : decode cX6_remember 44 = .ok (.return_, 1) := by decide +kernel
theorem dX6_need_0 : decode cX6_need 0 = .ok (.aload_n 0, 1) := by decide +kernel
theorem dX6_need_1 : decode cX6_need 1 = .ok (.getfield 142, 3) := by decide +kernel
theorem dX6_need_4 : decode cX6_need 4 = .ok (.ifCond .ne 8, 3) := by decide +kernel
theorem dX6_need_7 : decode cX6_need 7 = .ok (.bipush (-4), 2) := by decide +kernel
theorem dX6_need_9 : decode cX6_need 9 = .ok (.goto 18, 3) := by decide +kernel
theorem dX6_need_12 : decode cX6_need 12 = .ok (.aload_n 0, 1) := by decide +kernel
theorem dX6_need_13 : decode cX6_need 13 = .ok (.getfield 148, 3) := by decide +kernel
theorem dX6_need_16 : decode cX6_need 16 = .ok (.bipush 40, 2) := by decide +kernel
theorem dX6_need_18 : decode cX6_need 18 = .ok (.if_icmp .ne 8, 3) := by decide +kernel
theorem dX6_need_21 : decode cX6_need 21 = .ok (.bipush (-2), 2) := by decide +kernel
theorem dX6_need_23 : decode cX6_need 23 = .ok (.goto 4, 3) := by decide +kernel
theorem dX6_need_26 : decode cX6_need 26 = .ok (.iconst 0, 1) := by decide +kernel
theorem dX6_need_27 : decode cX6_need 27 = .ok (.ireturn, 1) := by decide +kernel
theorem dX6_step_0 : decode cX6_step 0 = .ok (.aload_n 0, 1) := by decide +kernel
theorem dX6_step_1 : decode cX6_step 1 = .ok (.getfield 142, 3) := by decide +kernel
theorem dX6_step_4 : decode cX6_step 4 = .ok (.ifCond .eq 14, 3) := by decide +kernel
theorem dX6_step_7 : decode cX6_step 7 = .ok (.aload_n 0, 1) := by decide +kernel
theorem dX6_step_8 : decode cX6_step 8 = .ok (.aload_n 0, 1) := by decide +kernel
theorem dX6_step_9 : decode cX6_step 9 = .ok (.getfield 57, 3) := by decide +kernel
theorem dX6_step_12 : decode cX6_step 12 = .ok (.invokevirtual 181, 3) := by decide +kernel
theorem dX6_step_15 : decode cX6_step 15 = .ok (.ifCond .eq 6, 3) := by decide +kernel
theorem dX6_step_18 : decode cX6_step 18 = .ok (.bipush (-4), 2) := by decide +kernel
theorem dX6_step_20 : decode cX6_step 20 = .ok (.ireturn, 1) := by decide +kernel
theorem dX6_step_21 : decode cX6_step 21 = .ok (.aload_n 0, 1) := by decide +kernel
theorem dX6_step_22 : decode cX6_step 22 = .ok (.getfield 148, 3) := by decide +kernel
theorem dX6_step_25 : decode cX6_step 25 = .ok (.bipush 40, 2) := by decide +kernel
theorem dX6_step_27 : decode cX6_step 27 = .ok (.if_icmp .ne 6, 3) := by decide +kernel
theorem dX6_step_30 : decode cX6_step 30 = .ok (.bipush (-2), 2) := by decide +kernel
theorem dX6_step_32 : decode cX6_step 32 = .ok (.ireturn, 1) := by decide +kernel
theorem dX6_step_33 : decode cX6_step 33 = .ok (.aload_n 0, 1) := by decide +kernel
theorem dX6_step_34 : decode cX6_step 34 = .ok (.invokevirtual 185, 3) := by decide +kernel
theorem dX6_step_37 : decode cX6_step 37 = .ok (.aload_n 0, 1) := by decide +kernel
theorem dX6_step_38 : decode cX6_step 38 = .ok (.aload_n 0, 1) := by decide +kernel
theorem dX6_step_39 : decode cX6_step 39 = .ok (.getfield 57, 3) := by decide +kernel
theorem dX6_step_42 : decode cX6_step 42 = .ok (.invokevirtual 188, 3) := by decide +kernel
theorem dX6_step_45 : decode cX6_step 45 = .ok (.ifCond .eq 7, 3) := by decide +kernel
theorem dX6_step_48 : decode cX6_step 48 = .ok (.iconst 1, 1) := by decide +kernel
theorem dX6_step_49 : decode cX6_step 49 = .ok (.goto 4, 3) := by decide +kernel
theorem dX6_step_52 : decode cX6_step 52 = .ok (.iconst 0, 1) := by decide +kernel
theorem dX6_step_53 : decode cX6_step 53 = .ok (.ireturn, 1) := by decide +kernel
theorem dX6_soaks_0 : decode cX6_soaks 0 = .ok (.iconst 0, 1) := by decide +kernel
theorem dX6_soaks_1 : decode cX6_soaks 1 = .ok (.istore_n 1, 1) := by decide +kernel
theorem dX6_soaks_2 : decode cX6_soaks 2 = .ok (.iconst 0, 1) := by decide +kernel
theorem dX6_soaks_3 : decode cX6_soaks 3 = .ok (.istore_n 2, 1) := by decide +kernel
theorem dX6_soaks_4 : decode cX6_soaks 4 = .ok (.iload_n 2, 1) := by decide +kernel
theorem dX6_soaks_5 : decode cX6_soaks 5 = .ok (.bipush 8, 2) := by decide +kernel
theorem dX6_soaks_7 : decode cX6_soaks 7 = .ok (.if_icmp .ge 26, 3) := by decide +kernel
theorem dX6_soaks_10 : decode cX6_soaks 10 = .ok (.aload_n 0, 1) := by decide +kernel
theorem dX6_soaks_11 : decode cX6_soaks 11 = .ok (.iconst 4, 1) := by decide +kernel
theorem dX6_soaks_12 : decode cX6_soaks 12 = .ok (.iload_n 2, 1) := by decide +kernel
theorem dX6_soaks_13 : decode cX6_soaks 13 = .ok (.iadd, 1) := by decide +kernel
theorem dX6_soaks_14 : decode cX6_soaks 14 = .ok (.dup2, 1) := by decide +kernel
theorem dX6_soaks_15 : decode cX6_soaks 15 = .ok (.iaload, 1) := by decide +kernel
theorem dX6_soaks_16 : decode cX6_soaks 16 = .ok (.iconst 2, 1) := by decide +kernel
theorem dX6_soaks_17 : decode cX6_soaks 17 = .ok (.idiv, 1) := by decide +kernel
theorem dX6_soaks_18 : decode cX6_soaks 18 = .ok (.iastore, 1) := by decide +kernel
theorem dX6_soaks_19 : decode cX6_soaks 19 = .ok (.iload_n 1, 1) := by decide +kernel
theorem dX6_soaks_20 : decode cX6_soaks 20 = .ok (.aload_n 0, 1) := by decide +kernel
theorem dX6_soaks_21 : decode cX6_soaks 21 = .ok (.iconst 4, 1) := by decide +kernel
theorem dX6_soaks_22 : decode cX6_soaks 22 = .ok (.iload_n 2, 1) := by decide +kernel
theorem dX6_soaks_23 : decode cX6_soaks 23 = .ok (.iadd, 1) := by decide +kernel
theorem dX6_soaks_24 : decode cX6_soaks 24 = .ok (.iaload, 1) := by decide +kernel
theorem dX6_soaks_25 : decode cX6_soaks 25 = .ok (.iadd, 1) := by decide +kernel
theorem dX6_soaks_26 : decode cX6_soaks 26 = .ok (.istore_n 1, 1) := by decide +kernel
theorem dX6_soaks_27 : decode cX6_soaks 27 = .ok (.iinc 2 1, 3) := by decide +kernel
theorem dX6_soaks_30 : decode cX6_soaks 30 = .ok (.goto (-26), 3) := by decide +kernel
theorem dX6_soaks_33 : decode cX6_soaks 33 = .ok (.iload_n 1, 1) := by decide +kernel
theorem dX6_soaks_34 : decode cX6_soaks 34 = .ok (.ireturn, 1) := by decide +kernel
theorem dX6_soak_0 : decode cX6_soak 0 = .ok (.aload_n 0, 1) := by decide +kernel
theorem dX6_soak_1 : decode cX6_soak 1 = .ok (.invokevirtual 191, 3) := by decide +kernel
theorem dX6_soak_4 : decode cX6_soak 4 = .ok (.ifCond .ge 8, 3) := by decide +kernel
theorem dX6_soak_7 : decode cX6_soak 7 = .ok (.aload_n 0, 1) := by decide +kernel
theorem dX6_soak_8 : decode cX6_soak 8 = .ok (.invokevirtual 191, 3) := by decide +kernel
theorem dX6_soak_11 : decode cX6_soak 11 = .ok (.ireturn, 1) := by decide +kernel
theorem dX6_soak_12 : decode cX6_soak 12 = .ok (.aload_n 0, 1) := by decide +kernel
theorem dX6_soak_13 : decode cX6_soak 13 = .ok (.invokevirtual 185, 3) := by decide +kernel
theorem dX6_soak_16 : decode cX6_soak 16 = .ok (.aload_n 0, 1) := by decide +kernel
theorem dX6_soak_17 : decode cX6_soak 17 = .ok (.getfield 57, 3) := by decide +kernel
theorem dX6_soak_20 : decode cX6_soak 20 = .ok (.invokestatic 195, 3) := by decide +kernel
theorem dX6_soak_23 : decode cX6_soak 23 = .ok (.ireturn, 1) := by decide +kernel
theorem dX6_weather_0 : decode cX6_weather 0 = .ok (.aload_n 0, 1) := by decide +kernel
theorem dX6_weather_1 : decode cX6_weather 1 = .ok (.invokevirtual 191, 3) := by decide +kernel
theorem dX6_weather_4 : decode cX6_weather 4 = .ok (.ifCond .ge 8, 3) := by decide +kernel
theorem dX6_weather_7 : decode cX6_weather 7 = .ok (.aload_n 0, 1) := by decide +kernel
theorem dX6_weather_8 : decode cX6_weather 8 = .ok (.invokevirtual 191, 3) := by decide +kernel
theorem dX6_weather_11 : decode cX6_weather 11 = .ok (.ireturn, 1) := by decide +kernel
theorem dX6_weather_12 : decode cX6_weather 12 = .ok (.aload_n 0, 1) := by decide +kernel
theorem dX6_weather_13 : decode cX6_weather 13 = .ok (.invokevirtual 185, 3) := by decide +kernel
theorem dX6_weather_16 : decode cX6_weather 16 = .ok (.aload_n 0, 1) := by decide +kernel
theorem dX6_weather_17 : decode cX6_weather 17 = .ok (.getfield 57, 3) := by decide +kernel
theorem dX6_weather_20 : decode cX6_weather 20 = .ok (.iconst 2, 1) := by decide +kernel
theorem dX6_weather_21 : decode cX6_weather 21 = .ok (.iconst 1, 1) := by decide +kernel
theorem dX6_weather_22 : decode cX6_weather 22 = .ok (.aload_n 0, 1) := by decide +kernel
theorem dX6_weather_23 : decode cX6_weather 23 = .ok (.getfield 57, 3) := by decide +kernel
theorem dX6_weather_26 : decode cX6_weather 26 = .ok (.iconst 2, 1) := by decide +kernel
theorem dX6_weather_27 : decode cX6_weather 27 = .ok (.iaload, 1) := by decide +kernel
theorem dX6_weather_28 : decode cX6_weather 28 = .ok (.isub, 1) := by decide +kernel
theorem dX6_weather_29 : decode cX6_weather 29 = .ok (.iastore, 1) := by decide +kernel
theorem dX6_weather_30 : decode cX6_weather 30 = .ok (.aload_n 0, 1) := by decide +kernel
theorem dX6_weather_31 : decode cX6_weather 31 = .ok (.getfield 57, 3) := by decide +kernel
theorem dX6_weather_34 : decode cX6_weather 34 = .ok (.iconst 2, 1) := by decide +kernel
theorem dX6_weather_35 : decode cX6_weather 35 = .ok (.iaload, 1) := by decide +kernel
theorem dX6_weather_36 : decode cX6_weather 36 = .ok (.ireturn, 1) := by decide +kernel
theorem dX6_knock_0 : decode cX6_knock 0 = .ok (.aload_n 0, 1) := by decide +kernel
theorem dX6_knock_1 : decode cX6_knock 1 = .ok (.iload_n 1, 1) := by decide +kernel
theorem dX6_knock_2 : decode cX6_knock 2 = .ok (.invokevirtual 169, 3) := by decide +kernel
theorem dX6_knock_5 : decode cX6_knock 5 = .ok (.ifCond .ne 5, 3) := by decide +kernel
theorem dX6_knock_8 : decode cX6_knock 8 = .ok (.iconst (-1), 1) := by decide +kernel
theorem dX6_knock_9 : decode cX6_knock 9 = .ok (.ireturn, 1) := by decide +kernel
theorem dX6_knock_10 : decode cX6_knock 10 = .ok (.aload_n 0, 1) := by decide +kernel
theorem dX6_knock_11 : decode cX6_knock 11 = .ok (.getfield 57, 3) := by decide +kernel
theorem dX6_knock_14 : decode cX6_knock 14 = .ok (.iconst 3, 1) := by decide +kernel
theorem dX6_knock_15 : decode cX6_knock 15 = .ok (.iaload, 1) := by decide +kernel
theorem dX6_knock_16 : decode cX6_knock 16 = .ok (.iload_n 1, 1) := by decide +kernel
theorem dX6_knock_17 : decode cX6_knock 17 = .ok (.invokestatic 158, 3) := by decide +kernel
theorem dX6_knock_20 : decode cX6_knock 20 = .ok (.ifCond .ne 6, 3) := by decide +kernel
theorem dX6_knock_23 : decode cX6_knock 23 = .ok (.bipush (-4), 2) := by decide +kernel
theorem dX6_knock_25 : decode cX6_knock 25 = .ok (.ireturn, 1) := by decide +kernel
theorem dX6_knock_26 : decode cX6_knock 26 = .ok (.aload_n 0, 1) := by decide +kernel
theorem dX6_knock_27 : decode cX6_knock 27 = .ok (.getfield 148, 3) := by decide +kernel
theorem dX6_knock_30 : decode cX6_knock 30 = .ok (.bipush 40, 2) := by decide +kernel
theorem dX6_knock_32 : decode cX6_knock 32 = .ok (.if_icmp .ne 6, 3) := by decide +kernel
theorem dX6_knock_35 : decode cX6_knock 35 = .ok (.bipush (-2), 2) := by decide +kernel
theorem dX6_knock_37 : decode cX6_knock 37 = .ok (.ireturn, 1) := by decide +kernel
theorem dX6_knock_38 : decode cX6_knock 38 = .ok (.aload_n 0, 1) := by decide +kernel
theorem dX6_knock_39 : decode cX6_knock 39 = .ok (.invokevirtual 185, 3) := by decide +kernel
theorem dX6_knock_42 : decode cX6_knock 42 = .ok (.aload_n 0, 1) := by decide +kernel
theorem dX6_knock_43 : decode cX6_knock 43 = .ok (.getfield 57, 3) := by decide +kernel
theorem dX6_knock_46 : decode cX6_knock 46 = .ok (.iconst 3, 1) := by decide +kernel
theorem dX6_knock_47 : decode cX6_knock 47 = .ok (.dup2, 1) := by decide +kernel
theorem dX6_knock_48 : decode cX6_knock 48 = .ok (.iaload, 1) := by decide +kernel
theorem dX6_knock_49 : decode cX6_knock 49 = .ok (.iconst 1, 1) := by decide +kernel
theorem dX6_knock_50 : decode cX6_knock 50 = .ok (.iload_n 1, 1) := by decide +kernel
theorem dX6_knock_51 : decode cX6_knock 51 = .ok (.ishl, 1) := by decide +kernel
theorem dX6_knock_52 : decode cX6_knock 52 = .ok (.iconst (-1), 1) := by decide +kernel
theorem dX6_knock_53 : decode cX6_knock 53 = .ok (.ixor, 1) := by decide +kernel
theorem dX6_knock_54 : decode cX6_knock 54 = .ok (.iand, 1) := by decide +kernel
theorem dX6_knock_55 : decode cX6_knock 55 = .ok (.iastore, 1) := by decide +kernel
theorem dX6_knock_56 : decode cX6_knock 56 = .ok (.aload_n 0, 1) := by decide +kernel
theorem dX6_knock_57 : decode cX6_knock 57 = .ok (.getfield 57, 3) := by decide +kernel
theorem dX6_knock_60 : decode cX6_knock 60 = .ok (.iconst 4, 1) := by decide +kernel
theorem dX6_knock_61 : decode cX6_knock 61 = .ok (.iload_n 1, 1) := by decide +kernel
theorem dX6_knock_62 : decode cX6_knock 62 = .ok (.iadd, 1) := by decide +kernel
theorem dX6_knock_63 : decode cX6_knock 63 = .ok (.iaload, 1) := by decide +kernel
theorem dX6_knock_64 : decode cX6_knock 64 = .ok (.ireturn, 1) := by decide +kernel
theorem dX6_puts_0 : decode cX6_puts 0 = .ok (.aload_n 0, 1) := by decide +kernel
theorem dX6_puts_1 : decode cX6_puts 1 = .ok (.iconst 3, 1) := by decide +kernel
theorem dX6_puts_2 : decode cX6_puts 2 = .ok (.dup2, 1) := by decide +kernel
theorem dX6_puts_3 : decode cX6_puts 3 = .ok (.iaload, 1) := by decide +kernel
theorem dX6_puts_4 : decode cX6_puts 4 = .ok (.iconst 1, 1) := by decide +kernel
theorem dX6_puts_5 : decode cX6_puts 5 = .ok (.iload_n 1, 1) := by decide +kernel
theorem dX6_puts_6 : decode cX6_puts 6 = .ok (.ishl, 1) := by decide +kernel
theorem dX6_puts_7 : decode cX6_puts 7 = .ok (.ior, 1) := by decide +kernel
theorem dX6_puts_8 : decode cX6_puts 8 = .ok (.iastore, 1) := by decide +kernel
theorem dX6_puts_9 : decode cX6_puts 9 = .ok (.aload_n 0, 1) := by decide +kernel
theorem dX6_puts_10 : decode cX6_puts 10 = .ok (.iconst 4, 1) := by decide +kernel
theorem dX6_puts_11 : decode cX6_puts 11 = .ok (.iload_n 1, 1) := by decide +kernel
theorem dX6_puts_12 : decode cX6_puts 12 = .ok (.iadd, 1) := by decide +kernel
theorem dX6_puts_13 : decode cX6_puts 13 = .ok (.iconst 0, 1) := by decide +kernel
theorem dX6_puts_14 : decode cX6_puts 14 = .ok (.iastore, 1) := by decide +kernel
theorem dX6_puts_15 : decode cX6_puts 15 = .ok (.return_, 1) := by decide +kernel
theorem dX6_mend_0 : decode cX6_mend 0 = .ok (.aload_n 0, 1) := by decide +kernel
theorem dX6_mend_1 : decode cX6_mend 1 = .ok (.iload_n 1, 1) := by decide +kernel
theorem dX6_mend_2 : decode cX6_mend 2 = .ok (.invokevirtual 169, 3) := by decide +kernel
theorem dX6_mend_5 : decode cX6_mend 5 = .ok (.ifCond .ne 5, 3) := by decide +kernel
theorem dX6_mend_8 : decode cX6_mend 8 = .ok (.iconst (-1), 1) := by decide +kernel
theorem dX6_mend_9 : decode cX6_mend 9 = .ok (.ireturn, 1) := by decide +kernel
theorem dX6_mend_10 : decode cX6_mend 10 = .ok (.aload_n 0, 1) := by decide +kernel
theorem dX6_mend_11 : decode cX6_mend 11 = .ok (.getfield 148, 3) := by decide +kernel
theorem dX6_mend_14 : decode cX6_mend 14 = .ok (.bipush 40, 2) := by decide +kernel
theorem dX6_mend_16 : decode cX6_mend 16 = .ok (.if_icmp .ne 6, 3) := by decide +kernel
theorem dX6_mend_19 : decode cX6_mend 19 = .ok (.bipush (-2), 2) := by decide +kernel
theorem dX6_mend_21 : decode cX6_mend 21 = .ok (.ireturn, 1) := by decide +kernel
theorem dX6_mend_22 : decode cX6_mend 22 = .ok (.aload_n 0, 1) := by decide +kernel
theorem dX6_mend_23 : decode cX6_mend 23 = .ok (.invokevirtual 185, 3) := by decide +kernel
theorem dX6_mend_26 : decode cX6_mend 26 = .ok (.aload_n 0, 1) := by decide +kernel
theorem dX6_mend_27 : decode cX6_mend 27 = .ok (.getfield 57, 3) := by decide +kernel
theorem dX6_mend_30 : decode cX6_mend 30 = .ok (.iconst 3, 1) := by decide +kernel
theorem dX6_mend_31 : decode cX6_mend 31 = .ok (.iaload, 1) := by decide +kernel
theorem dX6_mend_32 : decode cX6_mend 32 = .ok (.iload_n 1, 1) := by decide +kernel
theorem dX6_mend_33 : decode cX6_mend 33 = .ok (.ishr, 1) := by decide +kernel
theorem dX6_mend_34 : decode cX6_mend 34 = .ok (.iconst 1, 1) := by decide +kernel
theorem dX6_mend_35 : decode cX6_mend 35 = .ok (.iand, 1) := by decide +kernel
theorem dX6_mend_36 : decode cX6_mend 36 = .ok (.istore_n 2, 1) := by decide +kernel
theorem dX6_mend_37 : decode cX6_mend 37 = .ok (.aload_n 0, 1) := by decide +kernel
theorem dX6_mend_38 : decode cX6_mend 38 = .ok (.getfield 57, 3) := by decide +kernel
theorem dX6_mend_41 : decode cX6_mend 41 = .ok (.iload_n 1, 1) := by decide +kernel
theorem dX6_mend_42 : decode cX6_mend 42 = .ok (.invokestatic 199, 3) := by decide +kernel
theorem dX6_mend_45 : decode cX6_mend 45 = .ok (.iconst 1, 1) := by decide +kernel
theorem dX6_mend_46 : decode cX6_mend 46 = .ok (.iload_n 2, 1) := by decide +kernel
theorem dX6_mend_47 : decode cX6_mend 47 = .ok (.isub, 1) := by decide +kernel
theorem dX6_mend_48 : decode cX6_mend 48 = .ok (.ireturn, 1) := by decide +kernel
theorem dX6_undo_0 : decode cX6_undo 0 = .ok (.iload_n 1, 1) := by decide +kernel
theorem dX6_undo_1 : decode cX6_undo 1 = .ok (.iconst 0, 1) := by decide +kernel
theorem dX6_undo_2 : decode cX6_undo 2 = .ok (.aload_n 0, 1) := by decide +kernel
theorem dX6_undo_3 : decode cX6_undo 3 = .ok (.getfield 148, 3) := by decide +kernel
theorem dX6_undo_6 : decode cX6_undo 6 = .ok (.invokestatic 89, 3) := by decide +kernel
theorem dX6_undo_9 : decode cX6_undo 9 = .ok (.ifCond .ne 5, 3) := by decide +kernel
theorem dX6_undo_12 : decode cX6_undo 12 = .ok (.iconst (-1), 1) := by decide +kernel
theorem dX6_undo_13 : decode cX6_undo 13 = .ok (.ireturn, 1) := by decide +kernel
theorem dX6_undo_14 : decode cX6_undo 14 = .ok (.aload_n 0, 1) := by decide +kernel
theorem dX6_undo_15 : decode cX6_undo 15 = .ok (.getfield 148, 3) := by decide +kernel
theorem dX6_undo_18 : decode cX6_undo 18 = .ok (.iload_n 1, 1) := by decide +kernel
theorem dX6_undo_19 : decode cX6_undo 19 = .ok (.isub, 1) := by decide +kernel
theorem dX6_undo_20 : decode cX6_undo 20 = .ok (.istore_n 2, 1) := by decide +kernel
theorem dX6_undo_21 : decode cX6_undo 21 = .ok (.iconst 0, 1) := by decide +kernel
theorem dX6_undo_22 : decode cX6_undo 22 = .ok (.istore_n 3, 1) := by decide +kernel
theorem dX6_undo_23 : decode cX6_undo 23 = .ok (.iload_n 3, 1) := by decide +kernel
theorem dX6_undo_24 : decode cX6_undo 24 = .ok (.bipush 12, 2) := by decide +kernel
theorem dX6_undo_26 : decode cX6_undo 26 = .ok (.if_icmp .ge 30, 3) := by decide +kernel
theorem dX6_undo_29 : decode cX6_undo 29 = .ok (.iload_n 2, 1) := by decide +kernel
theorem dX6_undo_30 : decode cX6_undo 30 = .ok (.ifCond .le 26, 3) := by decide +kernel
theorem dX6_undo_33 : decode cX6_undo 33 = .ok (.aload_n 0, 1) := by decide +kernel
theorem dX6_undo_34 : decode cX6_undo 34 = .ok (.getfield 57, 3) := by decide +kernel
theorem dX6_undo_37 : decode cX6_undo 37 = .ok (.iload_n 3, 1) := by decide +kernel
theorem dX6_undo_38 : decode cX6_undo 38 = .ok (.aload_n 0, 1) := by decide +kernel
theorem dX6_undo_39 : decode cX6_undo 39 = .ok (.getfield 63, 3) := by decide +kernel
theorem dX6_undo_42 : decode cX6_undo 42 = .ok (.bipush 12, 2) := by decide +kernel
theorem dX6_undo_44 : decode cX6_undo 44 = .ok (.iload_n 1, 1) := by decide +kernel
theorem dX6_undo_45 : decode cX6_undo 45 = .ok (.imul, 1) := by decide +kernel
theorem dX6_undo_46 : decode cX6_undo 46 = .ok (.iload_n 3, 1) := by decide +kernel
theorem dX6_undo_47 : decode cX6_undo 47 = .ok (.iadd, 1) := by decide +kernel
theorem dX6_undo_48 : decode cX6_undo 48 = .ok (.iaload, 1) := by decide +kernel
theorem dX6_undo_49 : decode cX6_undo 49 = .ok (.iastore, 1) := by decide +kernel
theorem dX6_undo_50 : decode cX6_undo 50 = .ok (.iinc 3 1, 3) := by decide +kernel
theorem dX6_undo_53 : decode cX6_undo 53 = .ok (.goto (-30), 3) := by decide +kernel
theorem dX6_undo_56 : decode cX6_undo 56 = .ok (.aload_n 0, 1) := by decide +kernel
theorem dX6_undo_57 : decode cX6_undo 57 = .ok (.iload_n 1, 1) := by decide +kernel
theorem dX6_undo_58 : decode cX6_undo 58 = .ok (.putfield 148, 3) := by decide +kernel
theorem dX6_undo_61 : decode cX6_undo 61 = .ok (.iload_n 2, 1) := by decide +kernel
theorem dX6_undo_62 : decode cX6_undo 62 = .ok (.ireturn, 1) := by decide +kernel
theorem dX6_keep_0 : decode cX6_keep 0 = .ok (.iload_n 1, 1) := by decide +kernel
theorem dX6_keep_1 : decode cX6_keep 1 = .ok (.iconst 0, 1) := by decide +kernel
theorem dX6_keep_2 : decode cX6_keep 2 = .ok (.iconst 2, 1) := by decide +kernel
theorem dX6_keep_3 : decode cX6_keep 3 = .ok (.invokestatic 89, 3) := by decide +kernel
theorem dX6_keep_6 : decode cX6_keep 6 = .ok (.ifCond .ne 5, 3) := by decide +kernel
theorem dX6_keep_9 : decode cX6_keep 9 = .ok (.iconst (-1), 1) := by decide +kernel
theorem dX6_keep_10 : decode cX6_keep 10 = .ok (.ireturn, 1) := by decide +kernel
theorem dX6_keep_11 : decode cX6_keep 11 = .ok (.aload_n 0, 1) := by decide +kernel
theorem dX6_keep_12 : decode cX6_keep 12 = .ok (.getfield 142, 3) := by decide +kernel
theorem dX6_keep_15 : decode cX6_keep 15 = .ok (.ifCond .ne 6, 3) := by decide +kernel
theorem dX6_keep_18 : decode cX6_keep 18 = .ok (.bipush (-4), 2) := by decide +kernel
theorem dX6_keep_20 : decode cX6_keep 20 = .ok (.ireturn, 1) := by decide +kernel
theorem dX6_keep_21 : decode cX6_keep 21 = .ok (.aload_n 0, 1) := by decide +kernel
theorem dX6_keep_22 : decode cX6_keep 22 = .ok (.getfield 66, 3) := by decide +kernel
theorem dX6_keep_25 : decode cX6_keep 25 = .ok (.iload_n 1, 1) := by decide +kernel
theorem dX6_keep_26 : decode cX6_keep 26 = .ok (.aload_n 0, 1) := by decide +kernel
theorem dX6_keep_27 : decode cX6_keep 27 = .ok (.getfield 148, 3) := by decide +kernel
theorem dX6_keep_30 : decode cX6_keep 30 = .ok (.iastore, 1) := by decide +kernel
theorem dX6_keep_31 : decode cX6_keep 31 = .ok (.iconst 0, 1) := by decide +kernel
theorem dX6_keep_32 : decode cX6_keep 32 = .ok (.istore_n 2, 1) := by decide +kernel
theorem dX6_keep_33 : decode cX6_keep 33 = .ok (.iload_n 2, 1) := by decide +kernel
theorem dX6_keep_34 : decode cX6_keep 34 = .ok (.bipush 12, 2) := by decide +kernel
theorem dX6_keep_36 : decode cX6_keep 36 = .ok (.if_icmp .ge 27, 3) := by decide +kernel
theorem dX6_keep_39 : decode cX6_keep 39 = .ok (.aload_n 0, 1) := by decide +kernel
theorem dX6_keep_40 : decode cX6_keep 40 = .ok (.getfield 69, 3) := by decide +kernel
theorem dX6_keep_43 : decode cX6_keep 43 = .ok (.sipush 492, 3) := by decide +kernel
theorem dX6_keep_46 : decode cX6_keep 46 = .ok (.iload_n 1, 1) := by decide +kernel
theorem dX6_keep_47 : decode cX6_keep 47 = .ok (.imul, 1) := by decide +kernel
theorem dX6_keep_48 : decode cX6_keep 48 = .ok (.iload_n 2, 1) := by decide +kernel
theorem dX6_keep_49 : decode cX6_keep 49 = .ok (.iadd, 1) := by decide +kernel
theorem dX6_keep_50 : decode cX6_keep 50 = .ok (.aload_n 0, 1) := by decide +kernel
theorem dX6_keep_51 : decode cX6_keep 51 = .ok (.getfield 57, 3) := by decide +kernel
theorem dX6_keep_54 : decode cX6_keep 54 = .ok (.iload_n 2, 1) := by decide +kernel
theorem dX6_keep_55 : decode cX6_keep 55 = .ok (.iaload, 1) := by decide +kernel
theorem dX6_keep_56 : decode cX6_keep 56 = .ok (.iastore, 1) := by decide +kernel
theorem dX6_keep_57 : decode cX6_keep 57 = .ok (.iinc 2 1, 3) := by decide +kernel
theorem dX6_keep_60 : decode cX6_keep 60 = .ok (.goto (-27), 3) := by decide +kernel
theorem dX6_keep_63 : decode cX6_keep 63 = .ok (.iconst 0, 1) := by decide +kernel
theorem dX6_keep_64 : decode cX6_keep 64 = .ok (.istore_n 2, 1) := by decide +kernel
theorem dX6_keep_65 : decode cX6_keep 65 = .ok (.iload_n 2, 1) := by decide +kernel
theorem dX6_keep_66 : decode cX6_keep 66 = .ok (.bipush 12, 2) := by decide +kernel
theorem dX6_keep_68 : decode cX6_keep 68 = .ok (.aload_n 0, 1) := by decide +kernel
theorem dX6_keep_69 : decode cX6_keep 69 = .ok (.getfield 148, 3) := by decide +kernel
theorem dX6_keep_72 : decode cX6_keep 72 = .ok (.imul, 1) := by decide +kernel
theorem dX6_keep_73 : decode cX6_keep 73 = .ok (.if_icmp .ge 30, 3) := by decide +kernel
theorem dX6_keep_76 : decode cX6_keep 76 = .ok (.aload_n 0, 1) := by decide +kernel
theorem dX6_keep_77 : decode cX6_keep 77 = .ok (.getfield 69, 3) := by decide +kernel
theorem dX6_keep_80 : decode cX6_keep 80 = .ok (.sipush 492, 3) := by decide +kernel
theorem dX6_keep_83 : decode cX6_keep 83 = .ok (.iload_n 1, 1) := by decide +kernel
theorem dX6_keep_84 : decode cX6_keep 84 = .ok (.imul, 1) := by decide +kernel
theorem dX6_keep_85 : decode cX6_keep 85 = .ok (.bipush 12, 2) := by decide +kernel
theorem dX6_keep_87 : decode cX6_keep 87 = .ok (.iadd, 1) := by decide +kernel
theorem dX6_keep_88 : decode cX6_keep 88 = .ok (.iload_n 2, 1) := by decide +kernel
theorem dX6_keep_89 : decode cX6_keep 89 = .ok (.iadd, 1) := by decide +kernel
theorem dX6_keep_90 : decode cX6_keep 90 = .ok (.aload_n 0, 1) := by decide +kernel
theorem dX6_keep_91 : decode cX6_keep 91 = .ok (.getfield 63, 3) := by decide +kernel
theorem dX6_keep_94 : decode cX6_keep 94 = .ok (.iload_n 2, 1) := by decide +kernel
theorem dX6_keep_95 : decode cX6_keep 95 = .ok (.iaload, 1) := by decide +kernel
theorem dX6_keep_96 : decode cX6_keep 96 = .ok (.iastore, 1) := by decide +kernel
theorem dX6_keep_97 : decode cX6_keep 97 = .ok (.iinc 2 1, 3) := by decide +kernel
theorem dX6_keep_100 : decode cX6_keep 100 = .ok (.goto (-35), 3) := by decide +kernel
theorem dX6_keep_103 : decode cX6_keep 103 = .ok (.aload_n 0, 1) := by decide +kernel
theorem dX6_keep_104 : decode cX6_keep 104 = .ok (.getfield 148, 3) := by decide +kernel
theorem dX6_keep_107 : decode cX6_keep 107 = .ok (.ireturn, 1) := by decide +kernel
theorem dX6_on_0 : decode cX6_on 0 = .ok (.iload_n 1, 1) := by decide +kernel
theorem dX6_on_1 : decode cX6_on 1 = .ok (.iconst 0, 1) := by decide +kernel
theorem dX6_on_2 : decode cX6_on 2 = .ok (.iconst 2, 1) := by decide +kernel
theorem dX6_on_3 : decode cX6_on 3 = .ok (.invokestatic 89, 3) := by decide +kernel
theorem dX6_on_6 : decode cX6_on 6 = .ok (.ifCond .ne 5, 3) := by decide +kernel
theorem dX6_on_9 : decode cX6_on 9 = .ok (.iconst (-1), 1) := by decide +kernel
theorem dX6_on_10 : decode cX6_on 10 = .ok (.ireturn, 1) := by decide +kernel
theorem dX6_on_11 : decode cX6_on 11 = .ok (.aload_n 0, 1) := by decide +kernel
theorem dX6_on_12 : decode cX6_on 12 = .ok (.getfield 66, 3) := by decide +kernel
theorem dX6_on_15 : decode cX6_on 15 = .ok (.iload_n 1, 1) := by decide +kernel
theorem dX6_on_16 : decode cX6_on 16 = .ok (.iaload, 1) := by decide +kernel
theorem dX6_on_17 : decode cX6_on 17 = .ok (.ifCond .ge 9, 3) := by decide +kernel
theorem dX6_on_20 : decode cX6_on 20 = .ok (.aload_n 0, 1) := by decide +kernel
theorem dX6_on_21 : decode cX6_on 21 = .ok (.iconst 1, 1) := by decide +kernel
theorem dX6_on_22 : decode cX6_on 22 = .ok (.invokevirtual 97, 3) := by decide +kernel
theorem dX6_on_25 : decode cX6_on 25 = .ok (.ireturn, 1) := by decide +kernel
theorem dX6_on_26 : decode cX6_on 26 = .ok (.aload_n 0, 1) := by decide +kernel
theorem dX6_on_27 : decode cX6_on 27 = .ok (.aload_n 0, 1) := by decide +kernel
theorem dX6_on_28 : decode cX6_on 28 = .ok (.getfield 66, 3) := by decide +kernel
theorem dX6_on_31 : decode cX6_on 31 = .ok (.iload_n 1, 1) := by decide +kernel
theorem dX6_on_32 : decode cX6_on 32 = .ok (.iaload, 1) := by decide +kernel
theorem dX6_on_33 : decode cX6_on 33 = .ok (.putfield 148, 3) := by decide +kernel
theorem dX6_on_36 : decode cX6_on 36 = .ok (.iconst 0, 1) := by decide +kernel
theorem dX6_on_37 : decode cX6_on 37 = .ok (.istore_n 2, 1) := by decide +kernel
theorem dX6_on_38 : decode cX6_on 38 = .ok (.iload_n 2, 1) := by decide +kernel
theorem dX6_on_39 : decode cX6_on 39 = .ok (.bipush 12, 2) := by decide +kernel
theorem dX6_on_41 : decode cX6_on 41 = .ok (.if_icmp .ge 27, 3) := by decide +kernel
theorem dX6_on_44 : decode cX6_on 44 = .ok (.aload_n 0, 1) := by decide +kernel
theorem dX6_on_45 : decode cX6_on 45 = .ok (.getfield 57, 3) := by decide +kernel
theorem dX6_on_48 : decode cX6_on 48 = .ok (.iload_n 2, 1) := by decide +kernel
theorem dX6_on_49 : decode cX6_on 49 = .ok (.aload_n 0, 1) := by decide +kernel
theorem dX6_on_50 : decode cX6_on 50 = .ok (.getfield 69, 3) := by decide +kernel
theorem dX6_on_53 : decode cX6_on 53 = .ok (.sipush 492, 3) := by decide +kernel
theorem dX6_on_56 : decode cX6_on 56 = .ok (.iload_n 1, 1) := by decide +kernel
theorem dX6_on_57 : decode cX6_on 57 = .ok (.imul, 1) := by decide +kernel
theorem dX6_on_58 : decode cX6_on 58 = .ok (.iload_n 2, 1) := by decide +kernel
theorem dX6_on_59 : decode cX6_on 59 = .ok (.iadd, 1) := by decide +kernel
theorem dX6_on_60 : decode cX6_on 60 = .ok (.iaload, 1) := by decide +kernel
theorem dX6_on_61 : decode cX6_on 61 = .ok (.iastore, 1) := by decide +kernel
theorem dX6_on_62 : decode cX6_on 62 = .ok (.iinc 2 1, 3) := by decide +kernel
theorem dX6_on_65 : decode cX6_on 65 = .ok (.goto (-27), 3) := by decide +kernel
theorem dX6_on_68 : decode cX6_on 68 = .ok (.iconst 0, 1) := by decide +kernel
theorem dX6_on_69 : decode cX6_on 69 = .ok (.istore_n 2, 1) := by decide +kernel
theorem dX6_on_70 : decode cX6_on 70 = .ok (.iload_n 2, 1) := by decide +kernel
theorem dX6_on_71 : decode cX6_on 71 = .ok (.bipush 12, 2) := by decide +kernel
theorem dX6_on_73 : decode cX6_on 73 = .ok (.aload_n 0, 1) := by decide +kernel
theorem dX6_on_74 : decode cX6_on 74 = .ok (.getfield 148, 3) := by decide +kernel
theorem dX6_on_77 : decode cX6_on 77 = .ok (.imul, 1) := by decide +kernel
theorem dX6_on_78 : decode cX6_on 78 = .ok (.if_icmp .ge 30, 3) := by decide +kernel
theorem dX6_on_81 : decode cX6_on 81 = .ok (.aload_n 0, 1) := by decide +kernel
theorem dX6_on_82 : decode cX6_on 82 = .ok (.getfield 63, 3) := by decide +kernel
theorem dX6_on_85 : decode cX6_on 85 = .ok (.iload_n 2, 1) := by decide +kernel
theorem dX6_on_86 : decode cX6_on 86 = .ok (.aload_n 0, 1) := by decide +kernel
theorem dX6_on_87 : decode cX6_on 87 = .ok (.getfield 69, 3) := by decide +kernel
theorem dX6_on_90 : decode cX6_on 90 = .ok (.sipush 492, 3) := by decide +kernel
theorem dX6_on_93 : decode cX6_on 93 = .ok (.iload_n 1, 1) := by decide +kernel
theorem dX6_on_94 : decode cX6_on 94 = .ok (.imul, 1) := by decide +kernel
theorem dX6_on_95 : decode cX6_on 95 = .ok (.bipush 12, 2) := by decide +kernel
theorem dX6_on_97 : decode cX6_on 97 = .ok (.iadd, 1) := by decide +kernel
theorem dX6_on_98 : decode cX6_on 98 = .ok (.iload_n 2, 1) := by decide +kernel
theorem dX6_on_99 : decode cX6_on 99 = .ok (.iadd, 1) := by decide +kernel
theorem dX6_on_100 : decode cX6_on 100 = .ok (.iaload, 1) := by decide +kernel
theorem dX6_on_101 : decode cX6_on 101 = .ok (.iastore, 1) := by decide +kernel
theorem dX6_on_102 : decode cX6_on 102 = .ok (.iinc 2 1, 3) := by decide +kernel
theorem dX6_on_105 : decode cX6_on 105 = .ok (.goto (-35), 3) := by decide +kernel
theorem dX6_on_108 : decode cX6_on 108 = .ok (.aload_n 0, 1) := by decide +kernel
theorem dX6_on_109 : decode cX6_on 109 = .ok (.getfield 148, 3) := by decide +kernel
theorem dX6_on_112 : decode cX6_on 112 = .ok (.ireturn, 1) := by decide +kernel
theorem dX6_copyNow_0 : decode cX6_copyNow 0 = .ok (.iconst 0, 1) := by decide +kernel
theorem dX6_copyNow_1 : decode cX6_copyNow 1 = .ok (.istore_n 1, 1) := by decide +kernel
theorem dX6_copyNow_2 : decode cX6_copyNow 2 = .ok (.iload_n 1, 1) := by decide +kernel
theorem dX6_copyNow_3 : decode cX6_copyNow 3 = .ok (.bipush 12, 2) := by decide +kernel
theorem dX6_copyNow_5 : decode cX6_copyNow 5 = .ok (.if_icmp .ge 21, 3) := by decide +kernel
theorem dX6_copyNow_8 : decode cX6_copyNow 8 = .ok (.aload_n 0, 1) := by decide +kernel
theorem dX6_copyNow_9 : decode cX6_copyNow 9 = .ok (.getfield 60, 3) := by decide +kernel
theorem dX6_copyNow_12 : decode cX6_copyNow 12 = .ok (.iload_n 1, 1) := by decide +kernel
theorem dX6_copyNow_13 : decode cX6_copyNow 13 = .ok (.aload_n 0, 1) := by decide +kernel
theorem dX6_copyNow_14 : decode cX6_copyNow 14 = .ok (.getfield 57, 3) := by decide +kernel
theorem dX6_copyNow_17 : decode cX6_copyNow 17 = .ok (.iload_n 1, 1) := by decide +kernel
theorem dX6_copyNow_18 : decode cX6_copyNow 18 = .ok (.iaload, 1) := by decide +kernel
theorem dX6_copyNow_19 : decode cX6_copyNow 19 = .ok (.iastore, 1) := by decide +kernel
theorem dX6_copyNow_20 : decode cX6_copyNow 20 = .ok (.iinc 1 1, 3) := by decide +kernel
theorem dX6_copyNow_23 : decode cX6_copyNow 23 = .ok (.goto (-21), 3) := by decide +kernel
theorem dX6_copyNow_26 : decode cX6_copyNow 26 = .ok (.return_, 1) := by decide +kernel
theorem dX6_limpsIn_0 : decode cX6_limpsIn 0 = .ok (.iconst 0, 1) := by decide +kernel
theorem dX6_limpsIn_1 : decode cX6_limpsIn 1 = .ok (.istore_n 3, 1) := by decide +kernel
theorem dX6_limpsIn_2 : decode cX6_limpsIn 2 = .ok (.iconst 0, 1) := by decide +kernel
theorem dX6_limpsIn_3 : decode cX6_limpsIn 3 = .ok (.istore 4, 2) := by decide +kernel
theorem dX6_limpsIn_5 : decode cX6_limpsIn 5 = .ok (.iload 4, 2) := by decide +kernel
theorem dX6_limpsIn_7 : decode cX6_limpsIn 7 = .ok (.iload_n 1, 1) := by decide +kernel
theorem dX6_limpsIn_8 : decode cX6_limpsIn 8 = .ok (.if_icmp .ge 55, 3) := by decide +kernel
theorem dX6_limpsIn_11 : decode cX6_limpsIn 11 = .ok (.aload_n 0, 1) := by decide +kernel
theorem dX6_limpsIn_12 : decode cX6_limpsIn 12 = .ok (.aload_n 0, 1) := by decide +kernel
theorem dX6_limpsIn_13 : decode cX6_limpsIn 13 = .ok (.getfield 60, 3) := by decide +kernel
theorem dX6_limpsIn_16 : decode cX6_limpsIn 16 = .ok (.invokevirtual 181, 3) := by decide +kernel
theorem dX6_limpsIn_19 : decode cX6_limpsIn 19 = .ok (.istore 5, 2) := by decide +kernel
theorem dX6_limpsIn_21 : decode cX6_limpsIn 21 = .ok (.iload_n 3, 1) := by decide +kernel
theorem dX6_limpsIn_22 : decode cX6_limpsIn 22 = .ok (.iload 5, 2) := by decide +kernel
theorem dX6_limpsIn_24 : decode cX6_limpsIn 24 = .ok (.ifCond .eq 15, 3) := by decide +kernel
theorem dX6_limpsIn_27 : decode cX6_limpsIn 27 = .ok (.iload_n 2, 1) := by decide +kernel
theorem dX6_limpsIn_28 : decode cX6_limpsIn 28 = .ok (.ifCond .eq 7, 3) := by decide +kernel
theorem dX6_limpsIn_31 : decode cX6_limpsIn 31 = .ok (.iconst 1, 1) := by decide +kernel
theorem dX6_limpsIn_32 : decode cX6_limpsIn 32 = .ok (.goto 23, 3) := by decide +kernel
theorem dX6_limpsIn_35 : decode cX6_limpsIn 35 = .ok (.iconst 0, 1) := by decide +kernel
theorem dX6_limpsIn_36 : decode cX6_limpsIn 36 = .ok (.goto 19, 3) := by decide +kernel
theorem dX6_limpsIn_39 : decode cX6_limpsIn 39 = .ok (.aload_n 0, 1) := by decide +kernel
theorem dX6_limpsIn_40 : decode cX6_limpsIn 40 = .ok (.aload_n 0, 1) := by decide +kernel
theorem dX6_limpsIn_41 : decode cX6_limpsIn 41 = .ok (.getfield 60, 3) := by decide +kernel
theorem dX6_limpsIn_44 : decode cX6_limpsIn 44 = .ok (.invokevirtual 188, 3) := by decide +kernel
theorem dX6_limpsIn_47 : decode cX6_limpsIn 47 = .ok (.ifCond .eq 7, 3) := by decide +kernel
theorem dX6_limpsIn_50 : decode cX6_limpsIn 50 = .ok (.iconst 1, 1) := by decide +kernel
theorem dX6_limpsIn_51 : decode cX6_limpsIn 51 = .ok (.goto 4, 3) := by decide +kernel
theorem dX6_limpsIn_54 : decode cX6_limpsIn 54 = .ok (.iconst 0, 1) := by decide +kernel
theorem dX6_limpsIn_55 : decode cX6_limpsIn 55 = .ok (.iadd, 1) := by decide +kernel
theorem dX6_limpsIn_56 : decode cX6_limpsIn 56 = .ok (.istore_n 3, 1) := by decide +kernel
theorem dX6_limpsIn_57 : decode cX6_limpsIn 57 = .ok (.iinc 4 1, 3) := by decide +kernel
theorem dX6_limpsIn_60 : decode cX6_limpsIn 60 = .ok (.goto (-55), 3) := by decide +kernel
theorem dX6_limpsIn_63 : decode cX6_limpsIn 63 = .ok (.iload_n 3, 1) := by decide +kernel
theorem dX6_limpsIn_64 : decode cX6_limpsIn 64 = .ok (.ireturn, 1) := by decide +kernel
theorem dX6_goes_0 : decode cX6_goes 0 = .ok (.iload_n 1, 1) := by decide +kernel
theorem dX6_goes_1 : decode cX6_goes 1 = .ok (.iconst 0, 1) := by decide +kernel
theorem dX6_goes_2 : decode cX6_goes 2 = .ok (.bipush 60, 2) := by decide +kernel
theorem dX6_goes_4 : decode cX6_goes 4 = .ok (.invokestatic 89, 3) := by decide +kernel
theorem dX6_goes_7 : decode cX6_goes 7 = .ok (.ifCond .ne 5, 3) := by decide +kernel
theorem dX6_goes_10 : decode cX6_goes 10 = .ok (.iconst (-1), 1) := by decide +kernel
theorem dX6_goes_11 : decode cX6_goes 11 = .ok (.ireturn, 1) := by decide +kernel
theorem dX6_goes_12 : decode cX6_goes 12 = .ok (.aload_n 0, 1) := by decide +kernel
theorem dX6_goes_13 : decode cX6_goes 13 = .ok (.getfield 142, 3) := by decide +kernel
theorem dX6_goes_16 : decode cX6_goes 16 = .ok (.ifCond .ne 6, 3) := by decide +kernel
theorem dX6_goes_19 : decode cX6_goes 19 = .ok (.bipush (-4), 2) := by decide +kernel
theorem dX6_goes_21 : decode cX6_goes 21 = .ok (.ireturn, 1) := by decide +kernel
theorem dX6_goes_22 : decode cX6_goes 22 = .ok (.aload_n 0, 1) := by decide +kernel
theorem dX6_goes_23 : decode cX6_goes 23 = .ok (.invokevirtual 203, 3) := by decide +kernel
theorem dX6_goes_26 : decode cX6_goes 26 = .ok (.aload_n 0, 1) := by decide +kernel
theorem dX6_goes_27 : decode cX6_goes 27 = .ok (.iload_n 1, 1) := by decide +kernel
theorem dX6_goes_28 : decode cX6_goes 28 = .ok (.iconst 0, 1) := by decide +kernel
theorem dX6_goes_29 : decode cX6_goes 29 = .ok (.invokevirtual 206, 3) := by decide +kernel
theorem dX6_goes_32 : decode cX6_goes 32 = .ok (.istore_n 2, 1) := by decide +kernel
theorem dX6_goes_33 : decode cX6_goes 33 = .ok (.aload_n 0, 1) := by decide +kernel
theorem dX6_goes_34 : decode cX6_goes 34 = .ok (.iload_n 2, 1) := by decide +kernel
theorem dX6_goes_35 : decode cX6_goes 35 = .ok (.aload_n 0, 1) := by decide +kernel
theorem dX6_goes_36 : decode cX6_goes 36 = .ok (.getfield 60, 3) := by decide +kernel
theorem dX6_goes_39 : decode cX6_goes 39 = .ok (.iconst 0, 1) := by decide +kernel
theorem dX6_goes_40 : decode cX6_goes 40 = .ok (.iaload, 1) := by decide +kernel
theorem dX6_goes_41 : decode cX6_goes 41 = .ok (.invokevirtual 105, 3) := by decide +kernel
theorem dX6_goes_44 : decode cX6_goes 44 = .ok (.ireturn, 1) := by decide +kernel
theorem dX6_all_0 : decode cX6_all 0 = .ok (.iconst 1, 1) := by decide +kernel
theorem dX6_all_1 : decode cX6_all 1 = .ok (.aload_n 0, 1) := by decide +kernel
theorem dX6_all_2 : decode cX6_all 2 = .ok (.getfield 142, 3) := by decide +kernel
theorem dX6_all_5 : decode cX6_all 5 = .ok (.ishl, 1) := by decide +kernel
theorem dX6_all_6 : decode cX6_all 6 = .ok (.iconst 1, 1) := by decide +kernel
theorem dX6_all_7 : decode cX6_all 7 = .ok (.isub, 1) := by decide +kernel
theorem dX6_all_8 : decode cX6_all 8 = .ok (.ireturn, 1) := by decide +kernel
theorem dX6_over_0 : decode cX6_over 0 = .ok (.aload_n 0, 1) := by decide +kernel
theorem dX6_over_1 : decode cX6_over 1 = .ok (.getfield 142, 3) := by decide +kernel
theorem dX6_over_4 : decode cX6_over 4 = .ok (.ifCond .ne 6, 3) := by decide +kernel
theorem dX6_over_7 : decode cX6_over 7 = .ok (.bipush (-4), 2) := by decide +kernel
theorem dX6_over_9 : decode cX6_over 9 = .ok (.ireturn, 1) := by decide +kernel
theorem dX6_over_10 : decode cX6_over 10 = .ok (.aload_n 0, 1) := by decide +kernel
theorem dX6_over_11 : decode cX6_over 11 = .ok (.invokevirtual 203, 3) := by decide +kernel
theorem dX6_over_14 : decode cX6_over 14 = .ok (.aload_n 0, 1) := by decide +kernel
theorem dX6_over_15 : decode cX6_over 15 = .ok (.bipush 60, 2) := by decide +kernel
theorem dX6_over_17 : decode cX6_over 17 = .ok (.iconst 0, 1) := by decide +kernel
theorem dX6_over_18 : decode cX6_over 18 = .ok (.invokevirtual 206, 3) := by decide +kernel
theorem dX6_over_21 : decode cX6_over 21 = .ok (.pop, 1) := by decide +kernel
theorem dX6_over_22 : decode cX6_over 22 = .ok (.aload_n 0, 1) := by decide +kernel
theorem dX6_over_23 : decode cX6_over 23 = .ok (.aload_n 0, 1) := by decide +kernel
theorem dX6_over_24 : decode cX6_over 24 = .ok (.getfield 60, 3) := by decide +kernel
theorem dX6_over_27 : decode cX6_over 27 = .ok (.invokevirtual 181, 3) := by decide +kernel
theorem dX6_over_30 : decode cX6_over 30 = .ok (.ifCond .eq 29, 3) := by decide +kernel
theorem dX6_over_33 : decode cX6_over 33 = .ok (.aload_n 0, 1) := by decide +kernel
theorem dX6_over_34 : decode cX6_over 34 = .ok (.aload_n 0, 1) := by decide +kernel
theorem dX6_over_35 : decode cX6_over 35 = .ok (.invokevirtual 210, 3) := by decide +kernel
theorem dX6_over_38 : decode cX6_over 38 = .ok (.aload_n 0, 1) := by decide +kernel
theorem dX6_over_39 : decode cX6_over 39 = .ok (.getfield 60, 3) := by decide +kernel
theorem dX6_over_42 : decode cX6_over 42 = .ok (.iconst 3, 1) := by decide +kernel
theorem dX6_over_43 : decode cX6_over 43 = .ok (.iaload, 1) := by decide +kernel
theorem dX6_over_44 : decode cX6_over 44 = .ok (.iconst (-1), 1) := by decide +kernel
theorem dX6_over_45 : decode cX6_over 45 = .ok (.ixor, 1) := by decide +kernel
theorem dX6_over_46 : decode cX6_over 46 = .ok (.iand, 1) := by decide +kernel
theorem dX6_over_47 : decode cX6_over 47 = .ok (.aload_n 0, 1) := by decide +kernel
theorem dX6_over_48 : decode cX6_over 48 = .ok (.getfield 60, 3) := by decide +kernel
theorem dX6_over_51 : decode cX6_over 51 = .ok (.iconst 0, 1) := by decide +kernel
theorem dX6_over_52 : decode cX6_over 52 = .ok (.iaload, 1) := by decide +kernel
theorem dX6_over_53 : decode cX6_over 53 = .ok (.invokevirtual 105, 3) := by decide +kernel
theorem dX6_over_56 : decode cX6_over 56 = .ok (.goto 5, 3) := by decide +kernel
theorem dX6_over_59 : decode cX6_over 59 = .ok (.bipush (-9), 2) := by decide +kernel
theorem dX6_over_61 : decode cX6_over 61 = .ok (.ireturn, 1) := by decide +kernel
theorem dX6_limps_0 : decode cX6_limps 0 = .ok (.iload_n 1, 1) := by decide +kernel
theorem dX6_limps_1 : decode cX6_limps 1 = .ok (.iconst 1, 1) := by decide +kernel
theorem dX6_limps_2 : decode cX6_limps 2 = .ok (.bipush 20, 2) := by decide +kernel
theorem dX6_limps_4 : decode cX6_limps 4 = .ok (.invokestatic 89, 3) := by decide +kernel
theorem dX6_limps_7 : decode cX6_limps 7 = .ok (.ifCond .eq 10, 3) := by decide +kernel
theorem dX6_limps_10 : decode cX6_limps 10 = .ok (.iload_n 2, 1) := by decide +kernel
theorem dX6_limps_11 : decode cX6_limps 11 = .ok (.invokestatic 93, 3) := by decide +kernel
theorem dX6_limps_14 : decode cX6_limps 14 = .ok (.ifCond .ne 5, 3) := by decide +kernel
theorem dX6_limps_17 : decode cX6_limps 17 = .ok (.iconst (-1), 1) := by decide +kernel
theorem dX6_limps_18 : decode cX6_limps 18 = .ok (.ireturn, 1) := by decide +kernel
theorem dX6_limps_19 : decode cX6_limps 19 = .ok (.aload_n 0, 1) := by decide +kernel
theorem dX6_limps_20 : decode cX6_limps 20 = .ok (.getfield 142, 3) := by decide +kernel
theorem dX6_limps_23 : decode cX6_limps 23 = .ok (.ifCond .ne 6, 3) := by decide +kernel
theorem dX6_limps_26 : decode cX6_limps 26 = .ok (.bipush (-4), 2) := by decide +kernel
theorem dX6_limps_28 : decode cX6_limps 28 = .ok (.ireturn, 1) := by decide +kernel
theorem dX6_limps_29 : decode cX6_limps 29 = .ok (.aload_n 0, 1) := by decide +kernel
theorem dX6_limps_30 : decode cX6_limps 30 = .ok (.invokevirtual 203, 3) := by decide +kernel
theorem dX6_limps_33 : decode cX6_limps 33 = .ok (.aload_n 0, 1) := by decide +kernel
theorem dX6_limps_34 : decode cX6_limps 34 = .ok (.iload_n 2, 1) := by decide +kernel
theorem dX6_limps_35 : decode cX6_limps 35 = .ok (.iload_n 1, 1) := by decide +kernel
theorem dX6_limps_36 : decode cX6_limps 36 = .ok (.invokevirtual 213, 3) := by decide +kernel
theorem dX6_limps_39 : decode cX6_limps 39 = .ok (.pop, 1) := by decide +kernel
theorem dX6_limps_40 : decode cX6_limps 40 = .ok (.iconst 0, 1) := by decide +kernel
theorem dX6_limps_41 : decode cX6_limps 41 = .ok (.istore_n 3, 1) := by decide +kernel
theorem dX6_limps_42 : decode cX6_limps 42 = .ok (.iconst 0, 1) := by decide +kernel
theorem dX6_limps_43 : decode cX6_limps 43 = .ok (.istore 4, 2) := by decide +kernel
theorem dX6_limps_45 : decode cX6_limps 45 = .ok (.iload 4, 2) := by decide +kernel
theorem dX6_limps_47 : decode cX6_limps 47 = .ok (.iload_n 1, 1) := by decide +kernel
theorem dX6_limps_48 : decode cX6_limps 48 = .ok (.if_icmp .ge 36, 3) := by decide +kernel
theorem dX6_limps_51 : decode cX6_limps 51 = .ok (.aload_n 0, 1) := by decide +kernel
theorem dX6_limps_52 : decode cX6_limps 52 = .ok (.iconst 1, 1) := by decide +kernel
theorem dX6_limps_53 : decode cX6_limps 53 = .ok (.iconst 0, 1) := by decide +kernel
theorem dX6_limps_54 : decode cX6_limps 54 = .ok (.invokevirtual 206, 3) := by decide +kernel
theorem dX6_limps_57 : decode cX6_limps 57 = .ok (.istore 5, 2) := by decide +kernel
theorem dX6_limps_59 : decode cX6_limps 59 = .ok (.aload_n 0, 1) := by decide +kernel
theorem dX6_limps_60 : decode cX6_limps 60 = .ok (.getfield 20, 3) := by decide +kernel
theorem dX6_limps_63 : decode cX6_limps 63 = .ok (.bipush 40, 2) := by decide +kernel
theorem dX6_limps_65 : decode cX6_limps 65 = .ok (.iload_n 2, 1) := by decide +kernel
theorem dX6_limps_66 : decode cX6_limps 66 = .ok (.imul, 1) := by decide +kernel
theorem dX6_limps_67 : decode cX6_limps 67 = .ok (.iload 4, 2) := by decide +kernel
theorem dX6_limps_69 : decode cX6_limps 69 = .ok (.iadd, 1) := by decide +kernel
theorem dX6_limps_70 : decode cX6_limps 70 = .ok (.iload 5, 2) := by decide +kernel
theorem dX6_limps_72 : decode cX6_limps 72 = .ok (.iastore, 1) := by decide +kernel
theorem dX6_limps_73 : decode cX6_limps 73 = .ok (.iload_n 3, 1) := by decide +kernel
theorem dX6_limps_74 : decode cX6_limps 74 = .ok (.iload 5, 2) := by decide +kernel
theorem dX6_limps_76 : decode cX6_limps 76 = .ok (.iadd, 1) := by decide +kernel
theorem dX6_limps_77 : decode cX6_limps 77 = .ok (.istore_n 3, 1) := by decide +kernel
theorem dX6_limps_78 : decode cX6_limps 78 = .ok (.iinc 4 1, 3) := by decide +kernel
theorem dX6_limps_81 : decode cX6_limps 81 = .ok (.goto (-36), 3) := by decide +kernel
theorem dX6_limps_84 : decode cX6_limps 84 = .ok (.iload_n 3, 1) := by decide +kernel
theorem dX6_limps_85 : decode cX6_limps 85 = .ok (.ireturn, 1) := by decide +kernel
theorem dX6_comes_0 : decode cX6_comes 0 = .ok (.iconst 0, 1) := by decide +kernel
theorem dX6_comes_1 : decode cX6_comes 1 = .ok (.istore_n 1, 1) := by decide +kernel
theorem dX6_comes_2 : decode cX6_comes 2 = .ok (.iload_n 1, 1) := by decide +kernel
theorem dX6_comes_3 : decode cX6_comes 3 = .ok (.bipush 60, 2) := by decide +kernel
theorem dX6_comes_5 : decode cX6_comes 5 = .ok (.if_icmp .ge 29, 3) := by decide +kernel
theorem dX6_comes_8 : decode cX6_comes 8 = .ok (.aload_n 0, 1) := by decide +kernel
theorem dX6_comes_9 : decode cX6_comes 9 = .ok (.getfield 60, 3) := by decide +kernel
theorem dX6_comes_12 : decode cX6_comes 12 = .ok (.iconst 0, 1) := by decide +kernel
theorem dX6_comes_13 : decode cX6_comes 13 = .ok (.iaload, 1) := by decide +kernel
theorem dX6_comes_14 : decode cX6_comes 14 = .ok (.aload_n 0, 1) := by decide +kernel
theorem dX6_comes_15 : decode cX6_comes 15 = .ok (.getfield 145, 3) := by decide +kernel
theorem dX6_comes_18 : decode cX6_comes 18 = .ok (.if_icmp .ge 16, 3) := by decide +kernel
theorem dX6_comes_21 : decode cX6_comes 21 = .ok (.aload_n 0, 1) := by decide +kernel
theorem dX6_comes_22 : decode cX6_comes 22 = .ok (.iconst 1, 1) := by decide +kernel
theorem dX6_comes_23 : decode cX6_comes 23 = .ok (.iconst 0, 1) := by decide +kernel
theorem dX6_comes_24 : decode cX6_comes 24 = .ok (.invokevirtual 206, 3) := by decide +kernel
theorem dX6_comes_27 : decode cX6_comes 27 = .ok (.pop, 1) := by decide +kernel
theorem dX6_comes_28 : decode cX6_comes 28 = .ok (.iinc 1 1, 3) := by decide +kernel
theorem dX6_comes_31 : decode cX6_comes 31 = .ok (.goto (-29), 3) := by decide +kernel
theorem dX6_comes_34 : decode cX6_comes 34 = .ok (.aload_n 0, 1) := by decide +kernel
theorem dX6_comes_35 : decode cX6_comes 35 = .ok (.getfield 60, 3) := by decide +kernel
theorem dX6_comes_38 : decode cX6_comes 38 = .ok (.iconst 0, 1) := by decide +kernel
theorem dX6_comes_39 : decode cX6_comes 39 = .ok (.iaload, 1) := by decide +kernel
theorem dX6_comes_40 : decode cX6_comes 40 = .ok (.aload_n 0, 1) := by decide +kernel
theorem dX6_comes_41 : decode cX6_comes 41 = .ok (.getfield 145, 3) := by decide +kernel
theorem dX6_comes_44 : decode cX6_comes 44 = .ok (.if_icmp .lt 7, 3) := by decide +kernel
theorem dX6_comes_47 : decode cX6_comes 47 = .ok (.iconst 1, 1) := by decide +kernel
theorem dX6_comes_48 : decode cX6_comes 48 = .ok (.goto 4, 3) := by decide +kernel
theorem dX6_comes_51 : decode cX6_comes 51 = .ok (.iconst 0, 1) := by decide +kernel
theorem dX6_comes_52 : decode cX6_comes 52 = .ok (.ireturn, 1) := by decide +kernel
theorem dX6_gate_0 : decode cX6_gate 0 = .ok (.aload_n 0, 1) := by decide +kernel
theorem dX6_gate_1 : decode cX6_gate 1 = .ok (.getfield 142, 3) := by decide +kernel
theorem dX6_gate_4 : decode cX6_gate 4 = .ok (.ifCond .ne 6, 3) := by decide +kernel
theorem dX6_gate_7 : decode cX6_gate 7 = .ok (.bipush (-4), 2) := by decide +kernel
theorem dX6_gate_9 : decode cX6_gate 9 = .ok (.ireturn, 1) := by decide +kernel
theorem dX6_gate_10 : decode cX6_gate 10 = .ok (.bipush (-9), 2) := by decide +kernel
theorem dX6_gate_12 : decode cX6_gate 12 = .ok (.istore_n 1, 1) := by decide +kernel
theorem dX6_gate_13 : decode cX6_gate 13 = .ok (.aload_n 0, 1) := by decide +kernel
theorem dX6_gate_14 : decode cX6_gate 14 = .ok (.invokevirtual 210, 3) := by decide +kernel
theorem dX6_gate_17 : decode cX6_gate 17 = .ok (.istore_n 2, 1) := by decide +kernel
theorem dX6_gate_18 : decode cX6_gate 18 = .ok (.iload_n 2, 1) := by decide +kernel
theorem dX6_gate_19 : decode cX6_gate 19 = .ok (.ifCond .lt 75, 3) := by decide +kernel
theorem dX6_gate_22 : decode cX6_gate 22 = .ok (.iload_n 1, 1) := by decide +kernel
theorem dX6_gate_23 : decode cX6_gate 23 = .ok (.bipush (-9), 2) := by decide +kernel
theorem dX6_gate_25 : decode cX6_gate 25 = .ok (.if_icmp .eq 14, 3) := by decide +kernel
theorem dX6_gate_28 : decode cX6_gate 28 = .ok (.iload_n 2, 1) := by decide +kernel
theorem dX6_gate_29 : decode cX6_gate 29 = .ok (.invokestatic 216, 3) := by decide +kernel
theorem dX6_gate_32 : decode cX6_gate 32 = .ok (.iload_n 1, 1) := by decide +kernel
theorem dX6_gate_33 : decode cX6_gate 33 = .ok (.invokestatic 216, 3) := by decide +kernel
theorem dX6_gate_36 : decode cX6_gate 36 = .ok (.if_icmp .gt 52, 3) := by decide +kernel
theorem dX6_gate_39 : decode cX6_gate 39 = .ok (.aload_n 0, 1) := by decide +kernel
theorem dX6_gate_40 : decode cX6_gate 40 = .ok (.invokevirtual 203, 3) := by decide +kernel
theorem dX6_gate_43 : decode cX6_gate 43 = .ok (.iconst 0, 1) := by decide +kernel
theorem dX6_gate_44 : decode cX6_gate 44 = .ok (.istore_n 3, 1) := by decide +kernel
theorem dX6_gate_45 : decode cX6_gate 45 = .ok (.iload_n 3, 1) := by decide +kernel
theorem dX6_gate_46 : decode cX6_gate 46 = .ok (.aload_n 0, 1) := by decide +kernel
theorem dX6_gate_47 : decode cX6_gate 47 = .ok (.getfield 142, 3) := by decide +kernel
theorem dX6_gate_50 : decode cX6_gate 50 = .ok (.if_icmp .ge 25, 3) := by decide +kernel
theorem dX6_gate_53 : decode cX6_gate 53 = .ok (.iload_n 2, 1) := by decide +kernel
theorem dX6_gate_54 : decode cX6_gate 54 = .ok (.iload_n 3, 1) := by decide +kernel
theorem dX6_gate_55 : decode cX6_gate 55 = .ok (.invokestatic 158, 3) := by decide +kernel
theorem dX6_gate_58 : decode cX6_gate 58 = .ok (.ifCond .eq 11, 3) := by decide +kernel
theorem dX6_gate_61 : decode cX6_gate 61 = .ok (.aload_n 0, 1) := by decide +kernel
theorem dX6_gate_62 : decode cX6_gate 62 = .ok (.getfield 60, 3) := by decide +kernel
theorem dX6_gate_65 : decode cX6_gate 65 = .ok (.iload_n 3, 1) := by decide +kernel
theorem dX6_gate_66 : decode cX6_gate 66 = .ok (.invokestatic 199, 3) := by decide +kernel
theorem dX6_gate_69 : decode cX6_gate 69 = .ok (.iinc 3 1, 3) := by decide +kernel
theorem dX6_gate_72 : decode cX6_gate 72 = .ok (.goto (-27), 3) := by decide +kernel
theorem dX6_gate_75 : decode cX6_gate 75 = .ok (.aload_n 0, 1) := by decide +kernel
theorem dX6_gate_76 : decode cX6_gate 76 = .ok (.invokevirtual 219, 3) := by decide +kernel
theorem dX6_gate_79 : decode cX6_gate 79 = .ok (.ifCond .eq 7, 3) := by decide +kernel
theorem dX6_gate_82 : decode cX6_gate 82 = .ok (.iload_n 2, 1) := by decide +kernel
theorem dX6_gate_83 : decode cX6_gate 83 = .ok (.goto 4, 3) := by decide +kernel
theorem dX6_gate_86 : decode cX6_gate 86 = .ok (.iload_n 1, 1) := by decide +kernel
theorem dX6_gate_87 : decode cX6_gate 87 = .ok (.istore_n 1, 1) := by decide +kernel
theorem dX6_gate_88 : decode cX6_gate 88 = .ok (.iinc 2 (-1), 3) := by decide +kernel
theorem dX6_gate_91 : decode cX6_gate 91 = .ok (.goto (-73), 3) := by decide +kernel
theorem dX6_gate_94 : decode cX6_gate 94 = .ok (.iload_n 1, 1) := by decide +kernel
theorem dX6_gate_95 : decode cX6_gate 95 = .ok (.bipush (-9), 2) := by decide +kernel
theorem dX6_gate_97 : decode cX6_gate 97 = .ok (.if_icmp .ne 8, 3) := by decide +kernel
theorem dX6_gate_100 : decode cX6_gate 100 = .ok (.bipush (-9), 2) := by decide +kernel
theorem dX6_gate_102 : decode cX6_gate 102 = .ok (.goto 12, 3) := by decide +kernel
theorem dX6_gate_105 : decode cX6_gate 105 = .ok (.aload_n 0, 1) := by decide +kernel
theorem dX6_gate_106 : decode cX6_gate 106 = .ok (.iload_n 1, 1) := by decide +kernel
theorem dX6_gate_107 : decode cX6_gate 107 = .ok (.iload_n 1, 1) := by decide +kernel
theorem dX6_gate_108 : decode cX6_gate 108 = .ok (.invokestatic 216, 3) := by decide +kernel
theorem dX6_gate_111 : decode cX6_gate 111 = .ok (.invokevirtual 105, 3) := by decide +kernel
theorem dX6_gate_114 : decode cX6_gate 114 = .ok (.ireturn, 1) := by decide +kernel
theorem dX6_turned_0 : decode cX6_turned 0 = .ok (.aload_n 0, 1) := by decide +kernel
theorem dX6_turned_1 : decode cX6_turned 1 = .ok (.getfield 142, 3) := by decide +kernel
theorem dX6_turned_4 : decode cX6_turned 4 = .ok (.ifCond .ne 6, 3) := by decide +kernel
theorem dX6_turned_7 : decode cX6_turned 7 = .ok (.bipush (-4), 2) := by decide +kernel
theorem dX6_turned_9 : decode cX6_turned 9 = .ok (.ireturn, 1) := by decide +kernel
theorem dX6_turned_10 : decode cX6_turned 10 = .ok (.iconst 0, 1) := by decide +kernel
theorem dX6_turned_11 : decode cX6_turned 11 = .ok (.istore_n 1, 1) := by decide +kernel
theorem dX6_turned_12 : decode cX6_turned 12 = .ok (.ldc 223, 2) := by decide +kernel
theorem dX6_turned_14 : decode cX6_turned 14 = .ok (.istore_n 2, 1) := by decide +kernel
theorem dX6_turned_15 : decode cX6_turned 15 = .ok (.iconst 0, 1) := by decide +kernel
theorem dX6_turned_16 : decode cX6_turned 16 = .ok (.istore_n 3, 1) := by decide +kernel
theorem dX6_turned_17 : decode cX6_turned 17 = .ok (.iload_n 3, 1) := by decide +kernel
theorem dX6_turned_18 : decode cX6_turned 18 = .ok (.aload_n 0, 1) := by decide +kernel
theorem dX6_turned_19 : decode cX6_turned 19 = .ok (.getfield 142, 3) := by decide +kernel
theorem dX6_turned_22 : decode cX6_turned 22 = .ok (.if_icmp .ge 54, 3) := by decide +kernel
theorem dX6_turned_25 : decode cX6_turned 25 = .ok (.aload_n 0, 1) := by decide +kernel
theorem dX6_turned_26 : decode cX6_turned 26 = .ok (.invokevirtual 203, 3) := by decide +kernel
theorem dX6_turned_29 : decode cX6_turned 29 = .ok (.aload_n 0, 1) := by decide +kernel
theorem dX6_turned_30 : decode cX6_turned 30 = .ok (.getfield 60, 3) := by decide +kernel
theorem dX6_turned_33 : decode cX6_turned 33 = .ok (.iconst 1, 1) := by decide +kernel
theorem dX6_turned_34 : decode cX6_turned 34 = .ok (.iload_n 3, 1) := by decide +kernel
theorem dX6_turned_35 : decode cX6_turned 35 = .ok (.iastore, 1) := by decide +kernel
theorem dX6_turned_36 : decode cX6_turned 36 = .ok (.aload_n 0, 1) := by decide +kernel
theorem dX6_turned_37 : decode cX6_turned 37 = .ok (.bipush 20, 2) := by decide +kernel
theorem dX6_turned_39 : decode cX6_turned 39 = .ok (.iconst 1, 1) := by decide +kernel
theorem dX6_turned_40 : decode cX6_turned 40 = .ok (.invokevirtual 206, 3) := by decide +kernel
theorem dX6_turned_43 : decode cX6_turned 43 = .ok (.istore 4, 2) := by decide +kernel
theorem dX6_turned_45 : decode cX6_turned 45 = .ok (.iload 4, 2) := by decide +kernel
theorem dX6_turned_47 : decode cX6_turned 47 = .ok (.iload_n 2, 1) := by decide +kernel
theorem dX6_turned_48 : decode cX6_turned 48 = .ok (.if_icmp .ge 7, 3) := by decide +kernel
theorem dX6_turned_51 : decode cX6_turned 51 = .ok (.iload_n 3, 1) := by decide +kernel
theorem dX6_turned_52 : decode cX6_turned 52 = .ok (.goto 4, 3) := by decide +kernel
theorem dX6_turned_55 : decode cX6_turned 55 = .ok (.iload_n 1, 1) := by decide +kernel
theorem dX6_turned_56 : decode cX6_turned 56 = .ok (.istore_n 1, 1) := by decide +kernel
theorem dX6_turned_57 : decode cX6_turned 57 = .ok (.iload 4, 2) := by decide +kernel
theorem dX6_turned_59 : decode cX6_turned 59 = .ok (.iload_n 2, 1) := by decide +kernel
theorem dX6_turned_60 : decode cX6_turned 60 = .ok (.if_icmp .ge 8, 3) := by decide +kernel
theorem dX6_turned_63 : decode cX6_turned 63 = .ok (.iload 4, 2) := by decide +kernel
theorem dX6_turned_65 : decode cX6_turned 65 = .ok (.goto 4, 3) := by decide +kernel
theorem dX6_turned_68 : decode cX6_turned 68 = .ok (.iload_n 2, 1) := by decide +kernel
theorem dX6_turned_69 : decode cX6_turned 69 = .ok (.istore_n 2, 1) := by decide +kernel
theorem dX6_turned_70 : decode cX6_turned 70 = .ok (.iinc 3 1, 3) := by decide +kernel
theorem dX6_turned_73 : decode cX6_turned 73 = .ok (.goto (-56), 3) := by decide +kernel
theorem dX6_turned_76 : decode cX6_turned 76 = .ok (.aload_n 0, 1) := by decide +kernel
theorem dX6_turned_77 : decode cX6_turned 77 = .ok (.iload_n 2, 1) := by decide +kernel
theorem dX6_turned_78 : decode cX6_turned 78 = .ok (.iload_n 1, 1) := by decide +kernel
theorem dX6_turned_79 : decode cX6_turned 79 = .ok (.invokevirtual 105, 3) := by decide +kernel
theorem dX6_turned_82 : decode cX6_turned 82 = .ok (.ireturn, 1) := by decide +kernel
theorem dX6_swap_0 : decode cX6_swap 0 = .ok (.aload_n 0, 1) := by decide +kernel
theorem dX6_swap_1 : decode cX6_swap 1 = .ok (.iload_n 1, 1) := by decide +kernel
theorem dX6_swap_2 : decode cX6_swap 2 = .ok (.iaload, 1) := by decide +kernel
theorem dX6_swap_3 : decode cX6_swap 3 = .ok (.istore_n 3, 1) := by decide +kernel
theorem dX6_swap_4 : decode cX6_swap 4 = .ok (.aload_n 0, 1) := by decide +kernel
theorem dX6_swap_5 : decode cX6_swap 5 = .ok (.iload_n 1, 1) := by decide +kernel
theorem dX6_swap_6 : decode cX6_swap 6 = .ok (.aload_n 0, 1) := by decide +kernel
theorem dX6_swap_7 : decode cX6_swap 7 = .ok (.iload_n 2, 1) := by decide +kernel
theorem dX6_swap_8 : decode cX6_swap 8 = .ok (.iaload, 1) := by decide +kernel
theorem dX6_swap_9 : decode cX6_swap 9 = .ok (.iastore, 1) := by decide +kernel
theorem dX6_swap_10 : decode cX6_swap 10 = .ok (.aload_n 0, 1) := by decide +kernel
theorem dX6_swap_11 : decode cX6_swap 11 = .ok (.iload_n 2, 1) := by decide +kernel
theorem dX6_swap_12 : decode cX6_swap 12 = .ok (.iload_n 3, 1) := by decide +kernel
theorem dX6_swap_13 : decode cX6_swap 13 = .ok (.iastore, 1) := by decide +kernel
theorem dX6_swap_14 : decode cX6_swap 14 = .ok (.return_, 1) := by decide +kernel
theorem dX6_changes_0 : decode cX6_changes 0 = .ok (.aload_n 0, 1) := by decide +kernel
theorem dX6_changes_1 : decode cX6_changes 1 = .ok (.getfield 48, 3) := by decide +kernel
theorem dX6_changes_4 : decode cX6_changes 4 = .ok (.iload_n 1, 1) := by decide +kernel
theorem dX6_changes_5 : decode cX6_changes 5 = .ok (.iload_n 2, 1) := by decide +kernel
theorem dX6_changes_6 : decode cX6_changes 6 = .ok (.invokestatic 224, 3) := by decide +kernel
theorem dX6_changes_9 : decode cX6_changes 9 = .ok (.aload_n 0, 1) := by decide +kernel
theorem dX6_changes_10 : decode cX6_changes 10 = .ok (.getfield 51, 3) := by decide +kernel
theorem dX6_changes_13 : decode cX6_changes 13 = .ok (.iload_n 1, 1) := by decide +kernel
theorem dX6_changes_14 : decode cX6_changes 14 = .ok (.iload_n 2, 1) := by decide +kernel
theorem dX6_changes_15 : decode cX6_changes 15 = .ok (.invokestatic 224, 3) := by decide +kernel
theorem dX6_changes_18 : decode cX6_changes 18 = .ok (.aload_n 0, 1) := by decide +kernel
theorem dX6_changes_19 : decode cX6_changes 19 = .ok (.getfield 54, 3) := by decide +kernel
theorem dX6_changes_22 : decode cX6_changes 22 = .ok (.iload_n 1, 1) := by decide +kernel
theorem dX6_changes_23 : decode cX6_changes 23 = .ok (.iload_n 2, 1) := by decide +kernel
theorem dX6_changes_24 : decode cX6_changes 24 = .ok (.invokestatic 224, 3) := by decide +kernel
theorem dX6_changes_27 : decode cX6_changes 27 = .ok (.return_, 1) := by decide +kernel
theorem dX6_change_0 : decode cX6_change 0 = .ok (.aload_n 0, 1) := by decide +kernel
theorem dX6_change_1 : decode cX6_change 1 = .ok (.getfield 142, 3) := by decide +kernel
theorem dX6_change_4 : decode cX6_change 4 = .ok (.ifCond .ne 6, 3) := by decide +kernel
theorem dX6_change_7 : decode cX6_change 7 = .ok (.bipush (-4), 2) := by decide +kernel
theorem dX6_change_9 : decode cX6_change 9 = .ok (.ireturn, 1) := by decide +kernel
theorem dX6_change_10 : decode cX6_change 10 = .ok (.aload_n 0, 1) := by decide +kernel
theorem dX6_change_11 : decode cX6_change 11 = .ok (.invokevirtual 203, 3) := by decide +kernel
theorem dX6_change_14 : decode cX6_change 14 = .ok (.aload_n 0, 1) := by decide +kernel
theorem dX6_change_15 : decode cX6_change 15 = .ok (.bipush 20, 2) := by decide +kernel
theorem dX6_change_17 : decode cX6_change 17 = .ok (.iconst 1, 1) := by decide +kernel
theorem dX6_change_18 : decode cX6_change 18 = .ok (.invokevirtual 206, 3) := by decide +kernel
theorem dX6_change_21 : decode cX6_change 21 = .ok (.istore_n 1, 1) := by decide +kernel
theorem dX6_change_22 : decode cX6_change 22 = .ok (.bipush (-9), 2) := by decide +kernel
theorem dX6_change_24 : decode cX6_change 24 = .ok (.istore_n 2, 1) := by decide +kernel
theorem dX6_change_25 : decode cX6_change 25 = .ok (.iconst 0, 1) := by decide +kernel
theorem dX6_change_26 : decode cX6_change 26 = .ok (.istore_n 3, 1) := by decide +kernel
theorem dX6_change_27 : decode cX6_change 27 = .ok (.iload_n 3, 1) := by decide +kernel
theorem dX6_change_28 : decode cX6_change 28 = .ok (.aload_n 0, 1) := by decide +kernel
theorem dX6_change_29 : decode cX6_change 29 = .ok (.getfield 142, 3) := by decide +kernel
theorem dX6_change_32 : decode cX6_change 32 = .ok (.if_icmp .ge 162, 3) := by decide +kernel
theorem dX6_change_35 : decode cX6_change 35 = .ok (.iload_n 3, 1) := by decide +kernel
theorem dX6_change_36 : decode cX6_change 36 = .ok (.iconst 1, 1) := by decide +kernel
theorem dX6_change_37 : decode cX6_change 37 = .ok (.iadd, 1) := by decide +kernel
theorem dX6_change_38 : decode cX6_change 38 = .ok (.istore 4, 2) := by decide +kernel
theorem dX6_change_40 : decode cX6_change 40 = .ok (.iload 4, 2) := by decide +kernel
theorem dX6_change_42 : decode cX6_change 42 = .ok (.aload_n 0, 1) := by decide +kernel
theorem dX6_change_43 : decode cX6_change 43 = .ok (.getfield 142, 3) := by decide +kernel
theorem dX6_change_46 : decode cX6_change 46 = .ok (.if_icmp .ge 142, 3) := by decide +kernel
theorem dX6_change_49 : decode cX6_change 49 = .ok (.aload_n 0, 1) := by decide +kernel
theorem dX6_change_50 : decode cX6_change 50 = .ok (.invokevirtual 203, 3) := by decide +kernel
theorem dX6_change_53 : decode cX6_change 53 = .ok (.aload_n 0, 1) := by decide +kernel
theorem dX6_change_54 : decode cX6_change 54 = .ok (.getfield 60, 3) := by decide +kernel
theorem dX6_change_57 : decode cX6_change 57 = .ok (.iconst 4, 1) := by decide +kernel
theorem dX6_change_58 : decode cX6_change 58 = .ok (.iload_n 3, 1) := by decide +kernel
theorem dX6_change_59 : decode cX6_change 59 = .ok (.iadd, 1) := by decide +kernel
theorem dX6_change_60 : decode cX6_change 60 = .ok (.iconst 4, 1) := by decide +kernel
theorem dX6_change_61 : decode cX6_change 61 = .ok (.iload 4, 2) := by decide +kernel
theorem dX6_change_63 : decode cX6_change 63 = .ok (.iadd, 1) := by decide +kernel
theorem dX6_change_64 : decode cX6_change 64 = .ok (.invokestatic 224, 3) := by decide +kernel
theorem dX6_change_67 : decode cX6_change 67 = .ok (.aload_n 0, 1) := by decide +kernel
theorem dX6_change_68 : decode cX6_change 68 = .ok (.getfield 60, 3) := by decide +kernel
theorem dX6_change_71 : decode cX6_change 71 = .ok (.iconst 3, 1) := by decide +kernel
theorem dX6_change_72 : decode cX6_change 72 = .ok (.iaload, 1) := by decide +kernel
theorem dX6_change_73 : decode cX6_change 73 = .ok (.iload_n 3, 1) := by decide +kernel
theorem dX6_change_74 : decode cX6_change 74 = .ok (.ishr, 1) := by decide +kernel
theorem dX6_change_75 : decode cX6_change 75 = .ok (.iconst 1, 1) := by decide +kernel
theorem dX6_change_76 : decode cX6_change 76 = .ok (.iand, 1) := by decide +kernel
theorem dX6_change_77 : decode cX6_change 77 = .ok (.istore 5, 2) := by decide +kernel
theorem dX6_change_79 : decode cX6_change 79 = .ok (.aload_n 0, 1) := by decide +kernel
theorem dX6_change_80 : decode cX6_change 80 = .ok (.getfield 60, 3) := by decide +kernel
theorem dX6_change_83 : decode cX6_change 83 = .ok (.iconst 3, 1) := by decide +kernel
theorem dX6_change_84 : decode cX6_change 84 = .ok (.iaload, 1) := by decide +kernel
theorem dX6_change_85 : decode cX6_change 85 = .ok (.iload 4, 2) := by decide +kernel
theorem dX6_change_87 : decode cX6_change 87 = .ok (.ishr, 1) := by decide +kernel
theorem dX6_change_88 : decode cX6_change 88 = .ok (.iconst 1, 1) := by decide +kernel
theorem dX6_change_89 : decode cX6_change 89 = .ok (.iand, 1) := by decide +kernel
theorem dX6_change_90 : decode cX6_change 90 = .ok (.istore 6, 2) := by decide +kernel
theorem dX6_change_92 : decode cX6_change 92 = .ok (.aload_n 0, 1) := by decide +kernel
theorem dX6_change_93 : decode cX6_change 93 = .ok (.getfield 60, 3) := by decide +kernel
theorem dX6_change_96 : decode cX6_change 96 = .ok (.iconst 3, 1) := by decide +kernel
theorem dX6_change_97 : decode cX6_change 97 = .ok (.aload_n 0, 1) := by decide +kernel
theorem dX6_change_98 : decode cX6_change 98 = .ok (.getfield 60, 3) := by decide +kernel
theorem dX6_change_101 : decode cX6_change 101 = .ok (.iconst 3, 1) := by decide +kernel
theorem dX6_change_102 : decode cX6_change 102 = .ok (.iaload, 1) := by decide +kernel
theorem dX6_change_103 : decode cX6_change 103 = .ok (.iconst 1, 1) := by decide +kernel
theorem dX6_change_104 : decode cX6_change 104 = .ok (.iload_n 3, 1) := by decide +kernel
theorem dX6_change_105 : decode cX6_change 105 = .ok (.ishl, 1) := by decide +kernel
theorem dX6_change_106 : decode cX6_change 106 = .ok (.iconst (-1), 1) := by decide +kernel
theorem dX6_change_107 : decode cX6_change 107 = .ok (.ixor, 1) := by decide +kernel
theorem dX6_change_108 : decode cX6_change 108 = .ok (.iand, 1) := by decide +kernel
theorem dX6_change_109 : decode cX6_change 109 = .ok (.iconst 1, 1) := by decide +kernel
theorem dX6_change_110 : decode cX6_change 110 = .ok (.iload 4, 2) := by decide +kernel
theorem dX6_change_112 : decode cX6_change 112 = .ok (.ishl, 1) := by decide +kernel
theorem dX6_change_113 : decode cX6_change 113 = .ok (.iconst (-1), 1) := by decide +kernel
theorem dX6_change_114 : decode cX6_change 114 = .ok (.ixor, 1) := by decide +kernel
theorem dX6_change_115 : decode cX6_change 115 = .ok (.iand, 1) := by decide +kernel
theorem dX6_change_116 : decode cX6_change 116 = .ok (.iload 6, 2) := by decide +kernel
theorem dX6_change_118 : decode cX6_change 118 = .ok (.iload_n 3, 1) := by decide +kernel
theorem dX6_change_119 : decode cX6_change 119 = .ok (.ishl, 1) := by decide +kernel
theorem dX6_change_120 : decode cX6_change 120 = .ok (.ior, 1) := by decide +kernel
theorem dX6_change_121 : decode cX6_change 121 = .ok (.iload 5, 2) := by decide +kernel
theorem dX6_change_123 : decode cX6_change 123 = .ok (.iload 4, 2) := by decide +kernel
theorem dX6_change_125 : decode cX6_change 125 = .ok (.ishl, 1) := by decide +kernel
theorem dX6_change_126 : decode cX6_change 126 = .ok (.ior, 1) := by decide +kernel
theorem dX6_change_127 : decode cX6_change 127 = .ok (.iastore, 1) := by decide +kernel
theorem dX6_change_128 : decode cX6_change 128 = .ok (.aload_n 0, 1) := by decide +kernel
theorem dX6_change_129 : decode cX6_change 129 = .ok (.iload_n 3, 1) := by decide +kernel
theorem dX6_change_130 : decode cX6_change 130 = .ok (.iload 4, 2) := by decide +kernel
theorem dX6_change_132 : decode cX6_change 132 = .ok (.invokevirtual 228, 3) := by decide +kernel
theorem dX6_change_135 : decode cX6_change 135 = .ok (.aload_n 0, 1) := by decide +kernel
theorem dX6_change_136 : decode cX6_change 136 = .ok (.bipush 20, 2) := by decide +kernel
theorem dX6_change_138 : decode cX6_change 138 = .ok (.iconst 1, 1) := by decide +kernel
theorem dX6_change_139 : decode cX6_change 139 = .ok (.invokevirtual 206, 3) := by decide +kernel
theorem dX6_change_142 : decode cX6_change 142 = .ok (.istore 7, 2) := by decide +kernel
theorem dX6_change_144 : decode cX6_change 144 = .ok (.aload_n 0, 1) := by decide +kernel
theorem dX6_change_145 : decode cX6_change 145 = .ok (.iload_n 3, 1) := by decide +kernel
theorem dX6_change_146 : decode cX6_change 146 = .ok (.iload 4, 2) := by decide +kernel
theorem dX6_change_148 : decode cX6_change 148 = .ok (.invokevirtual 228, 3) := by decide +kernel
theorem dX6_change_151 : decode cX6_change 151 = .ok (.iload 7, 2) := by decide +kernel
theorem dX6_change_153 : decode cX6_change 153 = .ok (.iload_n 1, 1) := by decide +kernel
theorem dX6_change_154 : decode cX6_change 154 = .ok (.if_icmp .ge 13, 3) := by decide +kernel
theorem dX6_change_157 : decode cX6_change 157 = .ok (.bipush 10, 2) := by decide +kernel
theorem dX6_change_159 : decode cX6_change 159 = .ok (.iload_n 3, 1) := by decide +kernel
theorem dX6_change_160 : decode cX6_change 160 = .ok (.imul, 1) := by decide +kernel
theorem dX6_change_161 : decode cX6_change 161 = .ok (.iload 4, 2) := by decide +kernel
theorem dX6_change_163 : decode cX6_change 163 = .ok (.iadd, 1) := by decide +kernel
theorem dX6_change_164 : decode cX6_change 164 = .ok (.goto 4, 3) := by decide +kernel
theorem dX6_change_167 : decode cX6_change 167 = .ok (.iload_n 2, 1) := by decide +kernel
theorem dX6_change_168 : decode cX6_change 168 = .ok (.istore_n 2, 1) := by decide +kernel
theorem dX6_change_169 : decode cX6_change 169 = .ok (.iload 7, 2) := by decide +kernel
theorem dX6_change_171 : decode cX6_change 171 = .ok (.iload_n 1, 1) := by decide +kernel
theorem dX6_change_172 : decode cX6_change 172 = .ok (.if_icmp .ge 8, 3) := by decide +kernel
theorem dX6_change_175 : decode cX6_change 175 = .ok (.iload 7, 2) := by decide +kernel
theorem dX6_change_177 : decode cX6_change 177 = .ok (.goto 4, 3) := by decide +kernel
theorem dX6_change_180 : decode cX6_change 180 = .ok (.iload_n 1, 1) := by decide +kernel
theorem dX6_change_181 : decode cX6_change 181 = .ok (.istore_n 1, 1) := by decide +kernel
theorem dX6_change_182 : decode cX6_change 182 = .ok (.iinc 4 1, 3) := by decide +kernel
theorem dX6_change_185 : decode cX6_change 185 = .ok (.goto (-145), 3) := by decide +kernel
theorem dX6_change_188 : decode cX6_change 188 = .ok (.iinc 3 1, 3) := by decide +kernel
theorem dX6_change_191 : decode cX6_change 191 = .ok (.goto (-164), 3) := by decide +kernel
theorem dX6_change_194 : decode cX6_change 194 = .ok (.iload_n 2, 1) := by decide +kernel
theorem dX6_change_195 : decode cX6_change 195 = .ok (.bipush (-9), 2) := by decide +kernel
theorem dX6_change_197 : decode cX6_change 197 = .ok (.if_icmp .ne 8, 3) := by decide +kernel
theorem dX6_change_200 : decode cX6_change 200 = .ok (.bipush (-9), 2) := by decide +kernel
theorem dX6_change_202 : decode cX6_change 202 = .ok (.goto 9, 3) := by decide +kernel
theorem dX6_change_205 : decode cX6_change 205 = .ok (.aload_n 0, 1) := by decide +kernel
theorem dX6_change_206 : decode cX6_change 206 = .ok (.iload_n 1, 1) := by decide +kernel
theorem dX6_change_207 : decode cX6_change 207 = .ok (.iload_n 2, 1) := by decide +kernel
theorem dX6_change_208 : decode cX6_change 208 = .ok (.invokevirtual 105, 3) := by decide +kernel
theorem dX6_change_211 : decode cX6_change 211 = .ok (.ireturn, 1) := by decide +kernel
theorem dX6_needLimps_0 : decode cX6_needLimps 0 = .ok (.aload_n 0, 1) := by decide +kernel
theorem dX6_needLimps_1 : decode cX6_needLimps 1 = .ok (.getfield 17, 3) := by decide +kernel
theorem dX6_needLimps_4 : decode cX6_needLimps 4 = .ok (.iload_n 1, 1) := by decide +kernel
theorem dX6_needLimps_5 : decode cX6_needLimps 5 = .ok (.iaload, 1) := by decide +kernel
theorem dX6_needLimps_6 : decode cX6_needLimps 6 = .ok (.ifCond .ge 9, 3) := by decide +kernel
theorem dX6_needLimps_9 : decode cX6_needLimps 9 = .ok (.aload_n 0, 1) := by decide +kernel
theorem dX6_needLimps_10 : decode cX6_needLimps 10 = .ok (.iconst 1, 1) := by decide +kernel
theorem dX6_needLimps_11 : decode cX6_needLimps 11 = .ok (.invokevirtual 97, 3) := by decide +kernel
theorem dX6_needLimps_14 : decode cX6_needLimps 14 = .ok (.ireturn, 1) := by decide +kernel
theorem dX6_needLimps_15 : decode cX6_needLimps 15 = .ok (.aload_n 0, 1) := by decide +kernel
theorem dX6_needLimps_16 : decode cX6_needLimps 16 = .ok (.getfield 17, 3) := by decide +kernel
theorem dX6_needLimps_19 : decode cX6_needLimps 19 = .ok (.iload_n 1, 1) := by decide +kernel
theorem dX6_needLimps_20 : decode cX6_needLimps 20 = .ok (.iaload, 1) := by decide +kernel
theorem dX6_needLimps_21 : decode cX6_needLimps 21 = .ok (.iconst 1, 1) := by decide +kernel
theorem dX6_needLimps_22 : decode cX6_needLimps 22 = .ok (.bipush 20, 2) := by decide +kernel
theorem dX6_needLimps_24 : decode cX6_needLimps 24 = .ok (.invokestatic 89, 3) := by decide +kernel
theorem dX6_needLimps_27 : decode cX6_needLimps 27 = .ok (.ifCond .ne 9, 3) := by decide +kernel
theorem dX6_needLimps_30 : decode cX6_needLimps 30 = .ok (.aload_n 0, 1) := by decide +kernel
theorem dX6_needLimps_31 : decode cX6_needLimps 31 = .ok (.iconst 5, 1) := by decide +kernel
theorem dX6_needLimps_32 : decode cX6_needLimps 32 = .ok (.invokevirtual 97, 3) := by decide +kernel
theorem dX6_needLimps_35 : decode cX6_needLimps 35 = .ok (.ireturn, 1) := by decide +kernel
theorem dX6_needLimps_36 : decode cX6_needLimps 36 = .ok (.iconst 1, 1) := by decide +kernel
theorem dX6_needLimps_37 : decode cX6_needLimps 37 = .ok (.istore_n 2, 1) := by decide +kernel
theorem dX6_needLimps_38 : decode cX6_needLimps 38 = .ok (.iconst 0, 1) := by decide +kernel
theorem dX6_needLimps_39 : decode cX6_needLimps 39 = .ok (.istore_n 3, 1) := by decide +kernel
theorem dX6_needLimps_40 : decode cX6_needLimps 40 = .ok (.iload_n 3, 1) := by decide +kernel
theorem dX6_needLimps_41 : decode cX6_needLimps 41 = .ok (.aload_n 0, 1) := by decide +kernel
theorem dX6_needLimps_42 : decode cX6_needLimps 42 = .ok (.getfield 17, 3) := by decide +kernel
theorem dX6_needLimps_45 : decode cX6_needLimps 45 = .ok (.iload_n 1, 1) := by decide +kernel
theorem dX6_needLimps_46 : decode cX6_needLimps 46 = .ok (.iaload, 1) := by decide +kernel
theorem dX6_needLimps_47 : decode cX6_needLimps 47 = .ok (.if_icmp .ge 33, 3) := by decide +kernel
theorem dX6_needLimps_50 : decode cX6_needLimps 50 = .ok (.iload_n 2, 1) := by decide +kernel
theorem dX6_needLimps_51 : decode cX6_needLimps 51 = .ok (.ifCond .eq 21, 3) := by decide +kernel
theorem dX6_needLimps_54 : decode cX6_needLimps 54 = .ok (.aload_n 0, 1) := by decide +kernel
theorem dX6_needLimps_55 : decode cX6_needLimps 55 = .ok (.iload_n 1, 1) := by decide +kernel
theorem dX6_needLimps_56 : decode cX6_needLimps 56 = .ok (.iload_n 3, 1) := by decide +kernel
theorem dX6_needLimps_57 : decode cX6_needLimps 57 = .ok (.invokevirtual 101, 3) := by decide +kernel
theorem dX6_needLimps_60 : decode cX6_needLimps 60 = .ok (.iconst 0, 1) := by decide +kernel
theorem dX6_needLimps_61 : decode cX6_needLimps 61 = .ok (.iconst 1, 1) := by decide +kernel
theorem dX6_needLimps_62 : decode cX6_needLimps 62 = .ok (.invokestatic 89, 3) := by decide +kernel
theorem dX6_needLimps_65 : decode cX6_needLimps 65 = .ok (.ifCond .eq 7, 3) := by decide +kernel
theorem dX6_needLimps_68 : decode cX6_needLimps 68 = .ok (.iconst 1, 1) := by decide +kernel
theorem dX6_needLimps_69 : decode cX6_needLimps 69 = .ok (.goto 4, 3) := by decide +kernel
theorem dX6_needLimps_72 : decode cX6_needLimps 72 = .ok (.iconst 0, 1) := by decide +kernel
theorem dX6_needLimps_73 : decode cX6_needLimps 73 = .ok (.istore_n 2, 1) := by decide +kernel
theorem dX6_needLimps_74 : decode cX6_needLimps 74 = .ok (.iinc 3 1, 3) := by decide +kernel
theorem dX6_needLimps_77 : decode cX6_needLimps 77 = .ok (.goto (-37), 3) := by decide +kernel
theorem dX6_needLimps_80 : decode cX6_needLimps 80 = .ok (.iload_n 2, 1) := by decide +kernel
theorem dX6_needLimps_81 : decode cX6_needLimps 81 = .ok (.ifCond .eq 7, 3) := by decide +kernel
theorem dX6_needLimps_84 : decode cX6_needLimps 84 = .ok (.iconst 0, 1) := by decide +kernel
theorem dX6_needLimps_85 : decode cX6_needLimps 85 = .ok (.goto 8, 3) := by decide +kernel
theorem dX6_needLimps_88 : decode cX6_needLimps 88 = .ok (.aload_n 0, 1) := by decide +kernel
theorem dX6_needLimps_89 : decode cX6_needLimps 89 = .ok (.iconst 3, 1) := by decide +kernel
theorem dX6_needLimps_90 : decode cX6_needLimps 90 = .ok (.invokevirtual 97, 3) := by decide +kernel
theorem dX6_needLimps_93 : decode cX6_needLimps 93 = .ok (.ireturn, 1) := by decide +kernel
theorem dX6_isSo_0 : decode cX6_isSo 0 = .ok (.iconst 1, 1) := by decide +kernel
theorem dX6_isSo_1 : decode cX6_isSo 1 = .ok (.istore_n 2, 1) := by decide +kernel
theorem dX6_isSo_2 : decode cX6_isSo 2 = .ok (.iconst 0, 1) := by decide +kernel
theorem dX6_isSo_3 : decode cX6_isSo 3 = .ok (.istore_n 3, 1) := by decide +kernel
theorem dX6_isSo_4 : decode cX6_isSo 4 = .ok (.iload_n 3, 1) := by decide +kernel
theorem dX6_isSo_5 : decode cX6_isSo 5 = .ok (.aload_n 0, 1) := by decide +kernel
theorem dX6_isSo_6 : decode cX6_isSo 6 = .ok (.getfield 17, 3) := by decide +kernel
theorem dX6_isSo_9 : decode cX6_isSo 9 = .ok (.iload_n 1, 1) := by decide +kernel
theorem dX6_isSo_10 : decode cX6_isSo 10 = .ok (.iaload, 1) := by decide +kernel
theorem dX6_isSo_11 : decode cX6_isSo 11 = .ok (.if_icmp .ge 34, 3) := by decide +kernel
theorem dX6_isSo_14 : decode cX6_isSo 14 = .ok (.iload_n 2, 1) := by decide +kernel
theorem dX6_isSo_15 : decode cX6_isSo 15 = .ok (.ifCond .eq 30, 3) := by decide +kernel
theorem dX6_isSo_18 : decode cX6_isSo 18 = .ok (.aload_n 0, 1) := by decide +kernel
theorem dX6_isSo_19 : decode cX6_isSo 19 = .ok (.iconst 1, 1) := by decide +kernel
theorem dX6_isSo_20 : decode cX6_isSo 20 = .ok (.iconst 0, 1) := by decide +kernel
theorem dX6_isSo_21 : decode cX6_isSo 21 = .ok (.invokevirtual 206, 3) := by decide +kernel
theorem dX6_isSo_24 : decode cX6_isSo 24 = .ok (.aload_n 0, 1) := by decide +kernel
theorem dX6_isSo_25 : decode cX6_isSo 25 = .ok (.iload_n 1, 1) := by decide +kernel
theorem dX6_isSo_26 : decode cX6_isSo 26 = .ok (.iload_n 3, 1) := by decide +kernel
theorem dX6_isSo_27 : decode cX6_isSo 27 = .ok (.invokevirtual 101, 3) := by decide +kernel
theorem dX6_isSo_30 : decode cX6_isSo 30 = .ok (.if_icmp .ne 7, 3) := by decide +kernel
theorem dX6_isSo_33 : decode cX6_isSo 33 = .ok (.iconst 1, 1) := by decide +kernel
theorem dX6_isSo_34 : decode cX6_isSo 34 = .ok (.goto 4, 3) := by decide +kernel
theorem dX6_isSo_37 : decode cX6_isSo 37 = .ok (.iconst 0, 1) := by decide +kernel
theorem dX6_isSo_38 : decode cX6_isSo 38 = .ok (.istore_n 2, 1) := by decide +kernel
theorem dX6_isSo_39 : decode cX6_isSo 39 = .ok (.iinc 3 1, 3) := by decide +kernel
theorem dX6_isSo_42 : decode cX6_isSo 42 = .ok (.goto (-38), 3) := by decide +kernel
theorem dX6_isSo_45 : decode cX6_isSo 45 = .ok (.iload_n 2, 1) := by decide +kernel
theorem dX6_isSo_46 : decode cX6_isSo 46 = .ok (.ireturn, 1) := by decide +kernel
theorem dX6_gone_0 : decode cX6_gone 0 = .ok (.iload_n 1, 1) := by decide +kernel
theorem dX6_gone_1 : decode cX6_gone 1 = .ok (.invokestatic 93, 3) := by decide +kernel
theorem dX6_gone_4 : decode cX6_gone 4 = .ok (.ifCond .ne 5, 3) := by decide +kernel
theorem dX6_gone_7 : decode cX6_gone 7 = .ok (.iconst (-1), 1) := by decide +kernel
theorem dX6_gone_8 : decode cX6_gone 8 = .ok (.ireturn, 1) := by decide +kernel
theorem dX6_gone_9 : decode cX6_gone 9 = .ok (.aload_n 0, 1) := by decide +kernel
theorem dX6_gone_10 : decode cX6_gone 10 = .ok (.getfield 142, 3) := by decide +kernel
theorem dX6_gone_13 : decode cX6_gone 13 = .ok (.ifCond .ne 6, 3) := by decide +kernel
theorem dX6_gone_16 : decode cX6_gone 16 = .ok (.bipush (-4), 2) := by decide +kernel
theorem dX6_gone_18 : decode cX6_gone 18 = .ok (.ireturn, 1) := by decide +kernel
theorem dX6_gone_19 : decode cX6_gone 19 = .ok (.aload_n 0, 1) := by decide +kernel
theorem dX6_gone_20 : decode cX6_gone 20 = .ok (.iload_n 1, 1) := by decide +kernel
theorem dX6_gone_21 : decode cX6_gone 21 = .ok (.invokevirtual 232, 3) := by decide +kernel
theorem dX6_gone_24 : decode cX6_gone 24 = .ok (.istore_n 2, 1) := by decide +kernel
theorem dX6_gone_25 : decode cX6_gone 25 = .ok (.iload_n 2, 1) := by decide +kernel
theorem dX6_gone_26 : decode cX6_gone 26 = .ok (.ifCond .ge 5, 3) := by decide +kernel
theorem dX6_gone_29 : decode cX6_gone 29 = .ok (.iload_n 2, 1) := by decide +kernel
theorem dX6_gone_30 : decode cX6_gone 30 = .ok (.ireturn, 1) := by decide +kernel
theorem dX6_gone_31 : decode cX6_gone 31 = .ok (.iconst 0, 1) := by decide +kernel
theorem dX6_gone_32 : decode cX6_gone 32 = .ok (.istore_n 3, 1) := by decide +kernel
theorem dX6_gone_33 : decode cX6_gone 33 = .ok (.bipush (-9), 2) := by decide +kernel
theorem dX6_gone_35 : decode cX6_gone 35 = .ok (.istore 4, 2) := by decide +kernel
theorem dX6_gone_37 : decode cX6_gone 37 = .ok (.aload_n 0, 1) := by decide +kernel
theorem dX6_gone_38 : decode cX6_gone 38 = .ok (.invokevirtual 210, 3) := by decide +kernel
theorem dX6_gone_41 : decode cX6_gone 41 = .ok (.istore 5, 2) := by decide +kernel
theorem dX6_gone_43 : decode cX6_gone 43 = .ok (.iload 5, 2) := by decide +kernel
theorem dX6_gone_45 : decode cX6_gone 45 = .ok (.ifCond .lt 62, 3) := by decide +kernel
theorem dX6_gone_48 : decode cX6_gone 48 = .ok (.aload_n 0, 1) := by decide +kernel
theorem dX6_gone_49 : decode cX6_gone 49 = .ok (.invokevirtual 203, 3) := by decide +kernel
theorem dX6_gone_52 : decode cX6_gone 52 = .ok (.aload_n 0, 1) := by decide +kernel
theorem dX6_gone_53 : decode cX6_gone 53 = .ok (.getfield 60, 3) := by decide +kernel
theorem dX6_gone_56 : decode cX6_gone 56 = .ok (.iconst 3, 1) := by decide +kernel
theorem dX6_gone_57 : decode cX6_gone 57 = .ok (.aload_n 0, 1) := by decide +kernel
theorem dX6_gone_58 : decode cX6_gone 58 = .ok (.invokevirtual 210, 3) := by decide +kernel
theorem dX6_gone_61 : decode cX6_gone 61 = .ok (.iload 5, 2) := by decide +kernel
theorem dX6_gone_63 : decode cX6_gone 63 = .ok (.iconst (-1), 1) := by decide +kernel
theorem dX6_gone_64 : decode cX6_gone 64 = .ok (.ixor, 1) := by decide +kernel
theorem dX6_gone_65 : decode cX6_gone 65 = .ok (.iand, 1) := by decide +kernel
theorem dX6_gone_66 : decode cX6_gone 66 = .ok (.iastore, 1) := by decide +kernel
theorem dX6_gone_67 : decode cX6_gone 67 = .ok (.aload_n 0, 1) := by decide +kernel
theorem dX6_gone_68 : decode cX6_gone 68 = .ok (.iload_n 1, 1) := by decide +kernel
theorem dX6_gone_69 : decode cX6_gone 69 = .ok (.invokevirtual 235, 3) := by decide +kernel
theorem dX6_gone_72 : decode cX6_gone 72 = .ok (.istore 6, 2) := by decide +kernel
theorem dX6_gone_74 : decode cX6_gone 74 = .ok (.iload_n 3, 1) := by decide +kernel
theorem dX6_gone_75 : decode cX6_gone 75 = .ok (.iload 6, 2) := by decide +kernel
theorem dX6_gone_77 : decode cX6_gone 77 = .ok (.ifCond .eq 7, 3) := by decide +kernel
theorem dX6_gone_80 : decode cX6_gone 80 = .ok (.iconst 1, 1) := by decide +kernel
theorem dX6_gone_81 : decode cX6_gone 81 = .ok (.goto 4, 3) := by decide +kernel
theorem dX6_gone_84 : decode cX6_gone 84 = .ok (.iconst 0, 1) := by decide +kernel
theorem dX6_gone_85 : decode cX6_gone 85 = .ok (.iadd, 1) := by decide +kernel
theorem dX6_gone_86 : decode cX6_gone 86 = .ok (.istore_n 3, 1) := by decide +kernel
theorem dX6_gone_87 : decode cX6_gone 87 = .ok (.iload 6, 2) := by decide +kernel
theorem dX6_gone_89 : decode cX6_gone 89 = .ok (.ifCond .eq 8, 3) := by decide +kernel
theorem dX6_gone_92 : decode cX6_gone 92 = .ok (.iload 5, 2) := by decide +kernel
theorem dX6_gone_94 : decode cX6_gone 94 = .ok (.goto 5, 3) := by decide +kernel
theorem dX6_gone_97 : decode cX6_gone 97 = .ok (.iload 4, 2) := by decide +kernel
theorem dX6_gone_99 : decode cX6_gone 99 = .ok (.istore 4, 2) := by decide +kernel
theorem dX6_gone_101 : decode cX6_gone 101 = .ok (.iinc 5 (-1), 3) := by decide +kernel
theorem dX6_gone_104 : decode cX6_gone 104 = .ok (.goto (-61), 3) := by decide +kernel
theorem dX6_gone_107 : decode cX6_gone 107 = .ok (.iload_n 3, 1) := by decide +kernel
theorem dX6_gone_108 : decode cX6_gone 108 = .ok (.ifCond .ne 8, 3) := by decide +kernel
theorem dX6_gone_111 : decode cX6_gone 111 = .ok (.bipush (-9), 2) := by decide +kernel
theorem dX6_gone_113 : decode cX6_gone 113 = .ok (.goto 10, 3) := by decide +kernel
theorem dX6_gone_116 : decode cX6_gone 116 = .ok (.aload_n 0, 1) := by decide +kernel
theorem dX6_gone_117 : decode cX6_gone 117 = .ok (.iload 4, 2) := by decide +kernel
theorem dX6_gone_119 : decode cX6_gone 119 = .ok (.iload_n 3, 1) := by decide +kernel
theorem dX6_gone_120 : decode cX6_gone 120 = .ok (.invokevirtual 105, 3) := by decide +kernel
theorem dX6_gone_123 : decode cX6_gone 123 = .ok (.ireturn, 1) := by decide +kernel
theorem dX6_strengths_0 : decode cX6_strengths 0 = .ok (.aload_n 0, 1) := by decide +kernel
theorem dX6_strengths_1 : decode cX6_strengths 1 = .ok (.iload_n 1, 1) := by decide +kernel
theorem dX6_strengths_2 : decode cX6_strengths 2 = .ok (.invokevirtual 169, 3) := by decide +kernel
theorem dX6_strengths_5 : decode cX6_strengths 5 = .ok (.ifCond .eq 10, 3) := by decide +kernel
theorem dX6_strengths_8 : decode cX6_strengths 8 = .ok (.iload_n 2, 1) := by decide +kernel
theorem dX6_strengths_9 : decode cX6_strengths 9 = .ok (.invokestatic 93, 3) := by decide +kernel
theorem dX6_strengths_12 : decode cX6_strengths 12 = .ok (.ifCond .ne 5, 3) := by decide +kernel
theorem dX6_strengths_15 : decode cX6_strengths 15 = .ok (.iconst (-1), 1) := by decide +kernel
theorem dX6_strengths_16 : decode cX6_strengths 16 = .ok (.ireturn, 1) := by decide +kernel
theorem dX6_strengths_17 : decode cX6_strengths 17 = .ok (.aload_n 0, 1) := by decide +kernel
theorem dX6_strengths_18 : decode cX6_strengths 18 = .ok (.iload_n 2, 1) := by decide +kernel
theorem dX6_strengths_19 : decode cX6_strengths 19 = .ok (.invokevirtual 232, 3) := by decide +kernel
theorem dX6_strengths_22 : decode cX6_strengths 22 = .ok (.istore_n 3, 1) := by decide +kernel
theorem dX6_strengths_23 : decode cX6_strengths 23 = .ok (.iload_n 3, 1) := by decide +kernel
theorem dX6_strengths_24 : decode cX6_strengths 24 = .ok (.ifCond .ge 5, 3) := by decide +kernel
theorem dX6_strengths_27 : decode cX6_strengths 27 = .ok (.iload_n 3, 1) := by decide +kernel
theorem dX6_strengths_28 : decode cX6_strengths 28 = .ok (.ireturn, 1) := by decide +kernel
theorem dX6_strengths_29 : decode cX6_strengths 29 = .ok (.aload_n 0, 1) := by decide +kernel
theorem dX6_strengths_30 : decode cX6_strengths 30 = .ok (.getfield 54, 3) := by decide +kernel
theorem dX6_strengths_33 : decode cX6_strengths 33 = .ok (.iload_n 1, 1) := by decide +kernel
theorem dX6_strengths_34 : decode cX6_strengths 34 = .ok (.iaload, 1) := by decide +kernel
theorem dX6_strengths_35 : decode cX6_strengths 35 = .ok (.istore 4, 2) := by decide +kernel
theorem dX6_strengths_37 : decode cX6_strengths 37 = .ok (.iconst 0, 1) := by decide +kernel
theorem dX6_strengths_38 : decode cX6_strengths 38 = .ok (.istore 5, 2) := by decide +kernel
theorem dX6_strengths_40 : decode cX6_strengths 40 = .ok (.iconst 0, 1) := by decide +kernel
theorem dX6_strengths_41 : decode cX6_strengths 41 = .ok (.istore 6, 2) := by decide +kernel
theorem dX6_strengths_43 : decode cX6_strengths 43 = .ok (.iload 6, 2) := by decide +kernel
theorem dX6_strengths_45 : decode cX6_strengths 45 = .ok (.bipush 10, 2) := by decide +kernel
theorem dX6_strengths_47 : decode cX6_strengths 47 = .ok (.if_icmp .ge 42, 3) := by decide +kernel
theorem dX6_strengths_50 : decode cX6_strengths 50 = .ok (.aload_n 0, 1) := by decide +kernel
theorem dX6_strengths_51 : decode cX6_strengths 51 = .ok (.invokevirtual 203, 3) := by decide +kernel
theorem dX6_strengths_54 : decode cX6_strengths 54 = .ok (.aload_n 0, 1) := by decide +kernel
theorem dX6_strengths_55 : decode cX6_strengths 55 = .ok (.getfield 54, 3) := by decide +kernel
theorem dX6_strengths_58 : decode cX6_strengths 58 = .ok (.iload_n 1, 1) := by decide +kernel
theorem dX6_strengths_59 : decode cX6_strengths 59 = .ok (.iload 6, 2) := by decide +kernel
theorem dX6_strengths_61 : decode cX6_strengths 61 = .ok (.iastore, 1) := by decide +kernel
theorem dX6_strengths_62 : decode cX6_strengths 62 = .ok (.iload 5, 2) := by decide +kernel
theorem dX6_strengths_64 : decode cX6_strengths 64 = .ok (.aload_n 0, 1) := by decide +kernel
theorem dX6_strengths_65 : decode cX6_strengths 65 = .ok (.iload_n 2, 1) := by decide +kernel
theorem dX6_strengths_66 : decode cX6_strengths 66 = .ok (.invokevirtual 235, 3) := by decide +kernel
theorem dX6_strengths_69 : decode cX6_strengths 69 = .ok (.ifCond .eq 10, 3) := by decide +kernel
theorem dX6_strengths_72 : decode cX6_strengths 72 = .ok (.iconst 1, 1) := by decide +kernel
theorem dX6_strengths_73 : decode cX6_strengths 73 = .ok (.iload 6, 2) := by decide +kernel
theorem dX6_strengths_75 : decode cX6_strengths 75 = .ok (.ishl, 1) := by decide +kernel
theorem dX6_strengths_76 : decode cX6_strengths 76 = .ok (.goto 4, 3) := by decide +kernel
theorem dX6_strengths_79 : decode cX6_strengths 79 = .ok (.iconst 0, 1) := by decide +kernel
theorem dX6_strengths_80 : decode cX6_strengths 80 = .ok (.ior, 1) := by decide +kernel
theorem dX6_strengths_81 : decode cX6_strengths 81 = .ok (.istore 5, 2) := by decide +kernel
theorem dX6_strengths_83 : decode cX6_strengths 83 = .ok (.iinc 6 1, 3) := by decide +kernel
theorem dX6_strengths_86 : decode cX6_strengths 86 = .ok (.goto (-43), 3) := by decide +kernel
theorem dX6_strengths_89 : decode cX6_strengths 89 = .ok (.aload_n 0, 1) := by decide +kernel
theorem dX6_strengths_90 : decode cX6_strengths 90 = .ok (.getfield 54, 3) := by decide +kernel
theorem dX6_strengths_93 : decode cX6_strengths 93 = .ok (.iload_n 1, 1) := by decide +kernel
theorem dX6_strengths_94 : decode cX6_strengths 94 = .ok (.iload 4, 2) := by decide +kernel
theorem dX6_strengths_96 : decode cX6_strengths 96 = .ok (.iastore, 1) := by decide +kernel
theorem dX6_strengths_97 : decode cX6_strengths 97 = .ok (.iload 5, 2) := by decide +kernel
theorem dX6_strengths_99 : decode cX6_strengths 99 = .ok (.ireturn, 1) := by decide +kernel
theorem dX6_kinds_0 : decode cX6_kinds 0 = .ok (.aload_n 0, 1) := by decide +kernel
theorem dX6_kinds_1 : decode cX6_kinds 1 = .ok (.iload_n 1, 1) := by decide +kernel
theorem dX6_kinds_2 : decode cX6_kinds 2 = .ok (.invokevirtual 169, 3) := by decide +kernel
theorem dX6_kinds_5 : decode cX6_kinds 5 = .ok (.ifCond .eq 10, 3) := by decide +kernel
theorem dX6_kinds_8 : decode cX6_kinds 8 = .ok (.iload_n 2, 1) := by decide +kernel
theorem dX6_kinds_9 : decode cX6_kinds 9 = .ok (.invokestatic 93, 3) := by decide +kernel
theorem dX6_kinds_12 : decode cX6_kinds 12 = .ok (.ifCond .ne 5, 3) := by decide +kernel
theorem dX6_kinds_15 : decode cX6_kinds 15 = .ok (.iconst (-1), 1) := by decide +kernel
theorem dX6_kinds_16 : decode cX6_kinds 16 = .ok (.ireturn, 1) := by decide +kernel
theorem dX6_kinds_17 : decode cX6_kinds 17 = .ok (.aload_n 0, 1) := by decide +kernel
theorem dX6_kinds_18 : decode cX6_kinds 18 = .ok (.iload_n 2, 1) := by decide +kernel
theorem dX6_kinds_19 : decode cX6_kinds 19 = .ok (.invokevirtual 232, 3) := by decide +kernel
theorem dX6_kinds_22 : decode cX6_kinds 22 = .ok (.istore_n 3, 1) := by decide +kernel
theorem dX6_kinds_23 : decode cX6_kinds 23 = .ok (.iload_n 3, 1) := by decide +kernel
theorem dX6_kinds_24 : decode cX6_kinds 24 = .ok (.ifCond .ge 5, 3) := by decide +kernel
theorem dX6_kinds_27 : decode cX6_kinds 27 = .ok (.iload_n 3, 1) := by decide +kernel
theorem dX6_kinds_28 : decode cX6_kinds 28 = .ok (.ireturn, 1) := by decide +kernel
theorem dX6_kinds_29 : decode cX6_kinds 29 = .ok (.aload_n 0, 1) := by decide +kernel
theorem dX6_kinds_30 : decode cX6_kinds 30 = .ok (.getfield 48, 3) := by decide +kernel
theorem dX6_kinds_33 : decode cX6_kinds 33 = .ok (.iload_n 1, 1) := by decide +kernel
theorem dX6_kinds_34 : decode cX6_kinds 34 = .ok (.iaload, 1) := by decide +kernel
theorem dX6_kinds_35 : decode cX6_kinds 35 = .ok (.istore 4, 2) := by decide +kernel
theorem dX6_kinds_37 : decode cX6_kinds 37 = .ok (.iconst 0, 1) := by decide +kernel
theorem dX6_kinds_38 : decode cX6_kinds 38 = .ok (.istore 5, 2) := by decide +kernel
theorem dX6_kinds_40 : decode cX6_kinds 40 = .ok (.iconst 0, 1) := by decide +kernel
theorem dX6_kinds_41 : decode cX6_kinds 41 = .ok (.istore 6, 2) := by decide +kernel
theorem dX6_kinds_43 : decode cX6_kinds 43 = .ok (.iload 6, 2) := by decide +kernel
theorem dX6_kinds_45 : decode cX6_kinds 45 = .ok (.bipush 6, 2) := by decide +kernel
theorem dX6_kinds_47 : decode cX6_kinds 47 = .ok (.if_icmp .ge 42, 3) := by decide +kernel
theorem dX6_kinds_50 : decode cX6_kinds 50 = .ok (.aload_n 0, 1) := by decide +kernel
theorem dX6_kinds_51 : decode cX6_kinds 51 = .ok (.invokevirtual 203, 3) := by decide +kernel
theorem dX6_kinds_54 : decode cX6_kinds 54 = .ok (.aload_n 0, 1) := by decide +kernel
theorem dX6_kinds_55 : decode cX6_kinds 55 = .ok (.getfield 48, 3) := by decide +kernel
theorem dX6_kinds_58 : decode cX6_kinds 58 = .ok (.iload_n 1, 1) := by decide +kernel
theorem dX6_kinds_59 : decode cX6_kinds 59 = .ok (.iload 6, 2) := by decide +kernel
theorem dX6_kinds_61 : decode cX6_kinds 61 = .ok (.iastore, 1) := by decide +kernel
theorem dX6_kinds_62 : decode cX6_kinds 62 = .ok (.iload 5, 2) := by decide +kernel
theorem dX6_kinds_64 : decode cX6_kinds 64 = .ok (.aload_n 0, 1) := by decide +kernel
theorem dX6_kinds_65 : decode cX6_kinds 65 = .ok (.iload_n 2, 1) := by decide +kernel
theorem dX6_kinds_66 : decode cX6_kinds 66 = .ok (.invokevirtual 235, 3) := by decide +kernel
theorem dX6_kinds_69 : decode cX6_kinds 69 = .ok (.ifCond .eq 10, 3) := by decide +kernel
theorem dX6_kinds_72 : decode cX6_kinds 72 = .ok (.iconst 1, 1) := by decide +kernel
theorem dX6_kinds_73 : decode cX6_kinds 73 = .ok (.iload 6, 2) := by decide +kernel
theorem dX6_kinds_75 : decode cX6_kinds 75 = .ok (.ishl, 1) := by decide +kernel
theorem dX6_kinds_76 : decode cX6_kinds 76 = .ok (.goto 4, 3) := by decide +kernel
theorem dX6_kinds_79 : decode cX6_kinds 79 = .ok (.iconst 0, 1) := by decide +kernel
theorem dX6_kinds_80 : decode cX6_kinds 80 = .ok (.ior, 1) := by decide +kernel
theorem dX6_kinds_81 : decode cX6_kinds 81 = .ok (.istore 5, 2) := by decide +kernel
theorem dX6_kinds_83 : decode cX6_kinds 83 = .ok (.iinc 6 1, 3) := by decide +kernel
theorem dX6_kinds_86 : decode cX6_kinds 86 = .ok (.goto (-43), 3) := by decide +kernel
theorem dX6_kinds_89 : decode cX6_kinds 89 = .ok (.aload_n 0, 1) := by decide +kernel
theorem dX6_kinds_90 : decode cX6_kinds 90 = .ok (.getfield 48, 3) := by decide +kernel
theorem dX6_kinds_93 : decode cX6_kinds 93 = .ok (.iload_n 1, 1) := by decide +kernel
theorem dX6_kinds_94 : decode cX6_kinds 94 = .ok (.iload 4, 2) := by decide +kernel
theorem dX6_kinds_96 : decode cX6_kinds 96 = .ok (.iastore, 1) := by decide +kernel
theorem dX6_kinds_97 : decode cX6_kinds 97 = .ok (.iload 5, 2) := by decide +kernel
theorem dX6_kinds_99 : decode cX6_kinds 99 = .ok (.ireturn, 1) := by decide +kernel
theorem dX6_look_0 : decode cX6_look 0 = .ok (.aload_n 0, 1) := by decide +kernel
theorem dX6_look_1 : decode cX6_look 1 = .ok (.iload_n 1, 1) := by decide +kernel
theorem dX6_look_2 : decode cX6_look 2 = .ok (.invokevirtual 169, 3) := by decide +kernel
theorem dX6_look_5 : decode cX6_look 5 = .ok (.ifCond .ne 5, 3) := by decide +kernel
theorem dX6_look_8 : decode cX6_look 8 = .ok (.iconst (-1), 1) := by decide +kernel
theorem dX6_look_9 : decode cX6_look 9 = .ok (.ireturn, 1) := by decide +kernel
theorem dX6_look_10 : decode cX6_look 10 = .ok (.iconst 0, 1) := by decide +kernel
theorem dX6_look_11 : decode cX6_look 11 = .ok (.istore_n 2, 1) := by decide +kernel
theorem dX6_look_12 : decode cX6_look 12 = .ok (.ldc 223, 2) := by decide +kernel
theorem dX6_look_14 : decode cX6_look 14 = .ok (.istore_n 3, 1) := by decide +kernel
theorem dX6_look_15 : decode cX6_look 15 = .ok (.iconst 0, 1) := by decide +kernel
theorem dX6_look_16 : decode cX6_look 16 = .ok (.istore 4, 2) := by decide +kernel
theorem dX6_look_18 : decode cX6_look 18 = .ok (.iload 4, 2) := by decide +kernel
theorem dX6_look_20 : decode cX6_look 20 = .ok (.bipush 10, 2) := by decide +kernel
theorem dX6_look_22 : decode cX6_look 22 = .ok (.if_icmp .ge 118, 3) := by decide +kernel
theorem dX6_look_25 : decode cX6_look 25 = .ok (.iconst 0, 1) := by decide +kernel
theorem dX6_look_26 : decode cX6_look 26 = .ok (.istore 5, 2) := by decide +kernel
theorem dX6_look_28 : decode cX6_look 28 = .ok (.iconst 0, 1) := by decide +kernel
theorem dX6_look_29 : decode cX6_look 29 = .ok (.istore 6, 2) := by decide +kernel
theorem dX6_look_31 : decode cX6_look 31 = .ok (.iload 6, 2) := by decide +kernel
theorem dX6_look_33 : decode cX6_look 33 = .ok (.bipush 6, 2) := by decide +kernel
theorem dX6_look_35 : decode cX6_look 35 = .ok (.if_icmp .ge 51, 3) := by decide +kernel
theorem dX6_look_38 : decode cX6_look 38 = .ok (.iload 5, 2) := by decide +kernel
theorem dX6_look_40 : decode cX6_look 40 = .ok (.iload 6, 2) := by decide +kernel
theorem dX6_look_42 : decode cX6_look 42 = .ok (.aload_n 0, 1) := by decide +kernel
theorem dX6_look_43 : decode cX6_look 43 = .ok (.getfield 54, 3) := by decide +kernel
theorem dX6_look_46 : decode cX6_look 46 = .ok (.iload_n 1, 1) := by decide +kernel
theorem dX6_look_47 : decode cX6_look 47 = .ok (.iaload, 1) := by decide +kernel
theorem dX6_look_48 : decode cX6_look 48 = .ok (.iload 4, 2) := by decide +kernel
theorem dX6_look_50 : decode cX6_look 50 = .ok (.aload_n 0, 1) := by decide +kernel
theorem dX6_look_51 : decode cX6_look 51 = .ok (.getfield 57, 3) := by decide +kernel
theorem dX6_look_54 : decode cX6_look 54 = .ok (.iconst 4, 1) := by decide +kernel
theorem dX6_look_55 : decode cX6_look 55 = .ok (.iload_n 1, 1) := by decide +kernel
theorem dX6_look_56 : decode cX6_look 56 = .ok (.iadd, 1) := by decide +kernel
theorem dX6_look_57 : decode cX6_look 57 = .ok (.iaload, 1) := by decide +kernel
theorem dX6_look_58 : decode cX6_look 58 = .ok (.aload_n 0, 1) := by decide +kernel
theorem dX6_look_59 : decode cX6_look 59 = .ok (.getfield 57, 3) := by decide +kernel
theorem dX6_look_62 : decode cX6_look 62 = .ok (.iconst 2, 1) := by decide +kernel
theorem dX6_look_63 : decode cX6_look 63 = .ok (.iaload, 1) := by decide +kernel
theorem dX6_look_64 : decode cX6_look 64 = .ok (.invokestatic 154, 3) := by decide +kernel
theorem dX6_look_67 : decode cX6_look 67 = .ok (.iload 4, 2) := by decide +kernel
theorem dX6_look_69 : decode cX6_look 69 = .ok (.if_icmp .lt 7, 3) := by decide +kernel
theorem dX6_look_72 : decode cX6_look 72 = .ok (.iconst 1, 1) := by decide +kernel
theorem dX6_look_73 : decode cX6_look 73 = .ok (.goto 4, 3) := by decide +kernel
theorem dX6_look_76 : decode cX6_look 76 = .ok (.iconst 0, 1) := by decide +kernel
theorem dX6_look_77 : decode cX6_look 77 = .ok (.iadd, 1) := by decide +kernel
theorem dX6_look_78 : decode cX6_look 78 = .ok (.istore 5, 2) := by decide +kernel
theorem dX6_look_80 : decode cX6_look 80 = .ok (.iinc 6 1, 3) := by decide +kernel
theorem dX6_look_83 : decode cX6_look 83 = .ok (.goto (-52), 3) := by decide +kernel
theorem dX6_look_86 : decode cX6_look 86 = .ok (.iload 5, 2) := by decide +kernel
theorem dX6_look_88 : decode cX6_look 88 = .ok (.bipush 6, 2) := by decide +kernel
theorem dX6_look_90 : decode cX6_look 90 = .ok (.iload 5, 2) := by decide +kernel
theorem dX6_look_92 : decode cX6_look 92 = .ok (.isub, 1) := by decide +kernel
theorem dX6_look_93 : decode cX6_look 93 = .ok (.if_icmp .le 8, 3) := by decide +kernel
theorem dX6_look_96 : decode cX6_look 96 = .ok (.iload 5, 2) := by decide +kernel
theorem dX6_look_98 : decode cX6_look 98 = .ok (.goto 8, 3) := by decide +kernel
theorem dX6_look_101 : decode cX6_look 101 = .ok (.bipush 6, 2) := by decide +kernel
theorem dX6_look_103 : decode cX6_look 103 = .ok (.iload 5, 2) := by decide +kernel
theorem dX6_look_105 : decode cX6_look 105 = .ok (.isub, 1) := by decide +kernel
theorem dX6_look_106 : decode cX6_look 106 = .ok (.istore 6, 2) := by decide +kernel
theorem dX6_look_108 : decode cX6_look 108 = .ok (.iload 6, 2) := by decide +kernel
theorem dX6_look_110 : decode cX6_look 110 = .ok (.iload_n 3, 1) := by decide +kernel
theorem dX6_look_111 : decode cX6_look 111 = .ok (.if_icmp .ge 8, 3) := by decide +kernel
theorem dX6_look_114 : decode cX6_look 114 = .ok (.iload 4, 2) := by decide +kernel
theorem dX6_look_116 : decode cX6_look 116 = .ok (.goto 4, 3) := by decide +kernel
theorem dX6_look_119 : decode cX6_look 119 = .ok (.iload_n 2, 1) := by decide +kernel
theorem dX6_look_120 : decode cX6_look 120 = .ok (.istore_n 2, 1) := by decide +kernel
theorem dX6_look_121 : decode cX6_look 121 = .ok (.iload 6, 2) := by decide +kernel
theorem dX6_look_123 : decode cX6_look 123 = .ok (.iload_n 3, 1) := by decide +kernel
theorem dX6_look_124 : decode cX6_look 124 = .ok (.if_icmp .ge 8, 3) := by decide +kernel
theorem dX6_look_127 : decode cX6_look 127 = .ok (.iload 6, 2) := by decide +kernel
theorem dX6_look_129 : decode cX6_look 129 = .ok (.goto 4, 3) := by decide +kernel
theorem dX6_look_132 : decode cX6_look 132 = .ok (.iload_n 3, 1) := by decide +kernel
theorem dX6_look_133 : decode cX6_look 133 = .ok (.istore_n 3, 1) := by decide +kernel
theorem dX6_look_134 : decode cX6_look 134 = .ok (.iinc 4 1, 3) := by decide +kernel
theorem dX6_look_137 : decode cX6_look 137 = .ok (.goto (-119), 3) := by decide +kernel
theorem dX6_look_140 : decode cX6_look 140 = .ok (.aload_n 0, 1) := by decide +kernel
theorem dX6_look_141 : decode cX6_look 141 = .ok (.iload_n 3, 1) := by decide +kernel
theorem dX6_look_142 : decode cX6_look 142 = .ok (.iload_n 2, 1) := by decide +kernel
theorem dX6_look_143 : decode cX6_look 143 = .ok (.invokevirtual 105, 3) := by decide +kernel
theorem dX6_look_146 : decode cX6_look 146 = .ok (.ireturn, 1) := by decide +kernel
theorem dX6_isMoved_0 : decode cX6_isMoved 0 = .ok (.iconst 1, 1) := by decide +kernel
theorem dX6_isMoved_1 : decode cX6_isMoved 1 = .ok (.istore_n 3, 1) := by decide +kernel
theorem dX6_isMoved_2 : decode cX6_isMoved 2 = .ok (.iconst 1, 1) := by decide +kernel
theorem dX6_isMoved_3 : decode cX6_isMoved 3 = .ok (.istore 4, 2) := by decide +kernel
theorem dX6_isMoved_5 : decode cX6_isMoved 5 = .ok (.iload 4, 2) := by decide +kernel
theorem dX6_isMoved_7 : decode cX6_isMoved 7 = .ok (.iload_n 2, 1) := by decide +kernel
theorem dX6_isMoved_8 : decode cX6_isMoved 8 = .ok (.if_icmp .ge 14, 3) := by decide +kernel
theorem dX6_isMoved_11 : decode cX6_isMoved 11 = .ok (.iload_n 3, 1) := by decide +kernel
theorem dX6_isMoved_12 : decode cX6_isMoved 12 = .ok (.bipush 9, 2) := by decide +kernel
theorem dX6_isMoved_14 : decode cX6_isMoved 14 = .ok (.imul, 1) := by decide +kernel
theorem dX6_isMoved_15 : decode cX6_isMoved 15 = .ok (.istore_n 3, 1) := by decide +kernel
theorem dX6_isMoved_16 : decode cX6_isMoved 16 = .ok (.iinc 4 1, 3) := by decide +kernel
theorem dX6_isMoved_19 : decode cX6_isMoved 19 = .ok (.goto (-14), 3) := by decide +kernel
theorem dX6_isMoved_22 : decode cX6_isMoved 22 = .ok (.iconst 1, 1) := by decide +kernel
theorem dX6_isMoved_23 : decode cX6_isMoved 23 = .ok (.istore 4, 2) := by decide +kernel
theorem dX6_isMoved_25 : decode cX6_isMoved 25 = .ok (.iconst 0, 1) := by decide +kernel
theorem dX6_isMoved_26 : decode cX6_isMoved 26 = .ok (.istore 5, 2) := by decide +kernel
theorem dX6_isMoved_28 : decode cX6_isMoved 28 = .ok (.iload 5, 2) := by decide +kernel
theorem dX6_isMoved_30 : decode cX6_isMoved 30 = .ok (.iload_n 2, 1) := by decide +kernel
theorem dX6_isMoved_31 : decode cX6_isMoved 31 = .ok (.if_icmp .ge 159, 3) := by decide +kernel
theorem dX6_isMoved_34 : decode cX6_isMoved 34 = .ok (.iload_n 1, 1) := by decide +kernel
theorem dX6_isMoved_35 : decode cX6_isMoved 35 = .ok (.iload_n 3, 1) := by decide +kernel
theorem dX6_isMoved_36 : decode cX6_isMoved 36 = .ok (.idiv, 1) := by decide +kernel
theorem dX6_isMoved_37 : decode cX6_isMoved 37 = .ok (.bipush 9, 2) := by decide +kernel
theorem dX6_isMoved_39 : decode cX6_isMoved 39 = .ok (.irem, 1) := by decide +kernel
theorem dX6_isMoved_40 : decode cX6_isMoved 40 = .ok (.istore 6, 2) := by decide +kernel
theorem dX6_isMoved_42 : decode cX6_isMoved 42 = .ok (.iload_n 3, 1) := by decide +kernel
theorem dX6_isMoved_43 : decode cX6_isMoved 43 = .ok (.bipush 9, 2) := by decide +kernel
theorem dX6_isMoved_45 : decode cX6_isMoved 45 = .ok (.idiv, 1) := by decide +kernel
theorem dX6_isMoved_46 : decode cX6_isMoved 46 = .ok (.istore_n 3, 1) := by decide +kernel
theorem dX6_isMoved_47 : decode cX6_isMoved 47 = .ok (.iload 6, 2) := by decide +kernel
theorem dX6_isMoved_49 : decode cX6_isMoved 49 = .ok (.aload_n 0, 1) := by decide +kernel
theorem dX6_isMoved_50 : decode cX6_isMoved 50 = .ok (.getfield 142, 3) := by decide +kernel
theorem dX6_isMoved_53 : decode cX6_isMoved 53 = .ok (.if_icmp .ge 21, 3) := by decide +kernel
theorem dX6_isMoved_56 : decode cX6_isMoved 56 = .ok (.aload_n 0, 1) := by decide +kernel
theorem dX6_isMoved_57 : decode cX6_isMoved 57 = .ok (.getfield 60, 3) := by decide +kernel
theorem dX6_isMoved_60 : decode cX6_isMoved 60 = .ok (.iconst 3, 1) := by decide +kernel
theorem dX6_isMoved_61 : decode cX6_isMoved 61 = .ok (.iaload, 1) := by decide +kernel
theorem dX6_isMoved_62 : decode cX6_isMoved 62 = .ok (.iload 6, 2) := by decide +kernel
theorem dX6_isMoved_64 : decode cX6_isMoved 64 = .ok (.invokestatic 158, 3) := by decide +kernel
theorem dX6_isMoved_67 : decode cX6_isMoved 67 = .ok (.ifCond .eq 7, 3) := by decide +kernel
theorem dX6_isMoved_70 : decode cX6_isMoved 70 = .ok (.iconst 1, 1) := by decide +kernel
theorem dX6_isMoved_71 : decode cX6_isMoved 71 = .ok (.goto 4, 3) := by decide +kernel
theorem dX6_isMoved_74 : decode cX6_isMoved 74 = .ok (.iconst 0, 1) := by decide +kernel
theorem dX6_isMoved_75 : decode cX6_isMoved 75 = .ok (.istore 7, 2) := by decide +kernel
theorem dX6_isMoved_77 : decode cX6_isMoved 77 = .ok (.iload 4, 2) := by decide +kernel
theorem dX6_isMoved_79 : decode cX6_isMoved 79 = .ok (.ifCond .eq 40, 3) := by decide +kernel
theorem dX6_isMoved_82 : decode cX6_isMoved 82 = .ok (.iload 6, 2) := by decide +kernel
theorem dX6_isMoved_84 : decode cX6_isMoved 84 = .ok (.bipush 8, 2) := by decide +kernel
theorem dX6_isMoved_86 : decode cX6_isMoved 86 = .ok (.if_icmp .eq 29, 3) := by decide +kernel
theorem dX6_isMoved_89 : decode cX6_isMoved 89 = .ok (.iload 6, 2) := by decide +kernel
theorem dX6_isMoved_91 : decode cX6_isMoved 91 = .ok (.aload_n 0, 1) := by decide +kernel
theorem dX6_isMoved_92 : decode cX6_isMoved 92 = .ok (.getfield 142, 3) := by decide +kernel
theorem dX6_isMoved_95 : decode cX6_isMoved 95 = .ok (.if_icmp .ge 24, 3) := by decide +kernel
theorem dX6_isMoved_98 : decode cX6_isMoved 98 = .ok (.iload 7, 2) := by decide +kernel
theorem dX6_isMoved_100 : decode cX6_isMoved 100 = .ok (.iload 5, 2) := by decide +kernel
theorem dX6_isMoved_102 : decode cX6_isMoved 102 = .ok (.iconst 2, 1) := by decide +kernel
theorem dX6_isMoved_103 : decode cX6_isMoved 103 = .ok (.irem, 1) := by decide +kernel
theorem dX6_isMoved_104 : decode cX6_isMoved 104 = .ok (.ifCond .ne 7, 3) := by decide +kernel
theorem dX6_isMoved_107 : decode cX6_isMoved 107 = .ok (.iconst 1, 1) := by decide +kernel
theorem dX6_isMoved_108 : decode cX6_isMoved 108 = .ok (.goto 4, 3) := by decide +kernel
theorem dX6_isMoved_111 : decode cX6_isMoved 111 = .ok (.iconst 0, 1) := by decide +kernel
theorem dX6_isMoved_112 : decode cX6_isMoved 112 = .ok (.if_icmp .ne 7, 3) := by decide +kernel
theorem dX6_isMoved_115 : decode cX6_isMoved 115 = .ok (.iconst 1, 1) := by decide +kernel
theorem dX6_isMoved_116 : decode cX6_isMoved 116 = .ok (.goto 4, 3) := by decide +kernel
theorem dX6_isMoved_119 : decode cX6_isMoved 119 = .ok (.iconst 0, 1) := by decide +kernel
theorem dX6_isMoved_120 : decode cX6_isMoved 120 = .ok (.istore 4, 2) := by decide +kernel
theorem dX6_isMoved_122 : decode cX6_isMoved 122 = .ok (.iload 4, 2) := by decide +kernel
theorem dX6_isMoved_124 : decode cX6_isMoved 124 = .ok (.ifCond .eq 37, 3) := by decide +kernel
theorem dX6_isMoved_127 : decode cX6_isMoved 127 = .ok (.iload 6, 2) := by decide +kernel
theorem dX6_isMoved_129 : decode cX6_isMoved 129 = .ok (.aload_n 0, 1) := by decide +kernel
theorem dX6_isMoved_130 : decode cX6_isMoved 130 = .ok (.getfield 142, 3) := by decide +kernel
theorem dX6_isMoved_133 : decode cX6_isMoved 133 = .ok (.if_icmp .ge 28, 3) := by decide +kernel
theorem dX6_isMoved_136 : decode cX6_isMoved 136 = .ok (.iload 5, 2) := by decide +kernel
theorem dX6_isMoved_138 : decode cX6_isMoved 138 = .ok (.iconst 2, 1) := by decide +kernel
theorem dX6_isMoved_139 : decode cX6_isMoved 139 = .ok (.irem, 1) := by decide +kernel
theorem dX6_isMoved_140 : decode cX6_isMoved 140 = .ok (.ifCond .ne 21, 3) := by decide +kernel
theorem dX6_isMoved_143 : decode cX6_isMoved 143 = .ok (.aload_n 0, 1) := by decide +kernel
theorem dX6_isMoved_144 : decode cX6_isMoved 144 = .ok (.getfield 60, 3) := by decide +kernel
theorem dX6_isMoved_147 : decode cX6_isMoved 147 = .ok (.iconst 3, 1) := by decide +kernel
theorem dX6_isMoved_148 : decode cX6_isMoved 148 = .ok (.dup2, 1) := by decide +kernel
theorem dX6_isMoved_149 : decode cX6_isMoved 149 = .ok (.iaload, 1) := by decide +kernel
theorem dX6_isMoved_150 : decode cX6_isMoved 150 = .ok (.iconst 1, 1) := by decide +kernel
theorem dX6_isMoved_151 : decode cX6_isMoved 151 = .ok (.iload 6, 2) := by decide +kernel
theorem dX6_isMoved_153 : decode cX6_isMoved 153 = .ok (.ishl, 1) := by decide +kernel
theorem dX6_isMoved_154 : decode cX6_isMoved 154 = .ok (.iconst (-1), 1) := by decide +kernel
theorem dX6_isMoved_155 : decode cX6_isMoved 155 = .ok (.ixor, 1) := by decide +kernel
theorem dX6_isMoved_156 : decode cX6_isMoved 156 = .ok (.iand, 1) := by decide +kernel
theorem dX6_isMoved_157 : decode cX6_isMoved 157 = .ok (.iastore, 1) := by decide +kernel
theorem dX6_isMoved_158 : decode cX6_isMoved 158 = .ok (.goto 26, 3) := by decide +kernel
theorem dX6_isMoved_161 : decode cX6_isMoved 161 = .ok (.iload 4, 2) := by decide +kernel
theorem dX6_isMoved_163 : decode cX6_isMoved 163 = .ok (.ifCond .eq 21, 3) := by decide +kernel
theorem dX6_isMoved_166 : decode cX6_isMoved 166 = .ok (.iload 6, 2) := by decide +kernel
theorem dX6_isMoved_168 : decode cX6_isMoved 168 = .ok (.aload_n 0, 1) := by decide +kernel
theorem dX6_isMoved_169 : decode cX6_isMoved 169 = .ok (.getfield 142, 3) := by decide +kernel
theorem dX6_isMoved_172 : decode cX6_isMoved 172 = .ok (.if_icmp .ge 12, 3) := by decide +kernel
theorem dX6_isMoved_175 : decode cX6_isMoved 175 = .ok (.aload_n 0, 1) := by decide +kernel
theorem dX6_isMoved_176 : decode cX6_isMoved 176 = .ok (.getfield 60, 3) := by decide +kernel
theorem dX6_isMoved_179 : decode cX6_isMoved 179 = .ok (.iload 6, 2) := by decide +kernel
theorem dX6_isMoved_181 : decode cX6_isMoved 181 = .ok (.invokestatic 199, 3) := by decide +kernel
theorem dX6_isMoved_184 : decode cX6_isMoved 184 = .ok (.iinc 5 1, 3) := by decide +kernel
theorem dX6_isMoved_187 : decode cX6_isMoved 187 = .ok (.goto (-159), 3) := by decide +kernel
theorem dX6_isMoved_190 : decode cX6_isMoved 190 = .ok (.iload 4, 2) := by decide +kernel
theorem dX6_isMoved_192 : decode cX6_isMoved 192 = .ok (.ireturn, 1) := by decide +kernel
theorem dX6_duel_0 : decode cX6_duel 0 = .ok (.iload_n 1, 1) := by decide +kernel
theorem dX6_duel_1 : decode cX6_duel 1 = .ok (.iconst 0, 1) := by decide +kernel
theorem dX6_duel_2 : decode cX6_duel 2 = .ok (.iconst 4, 1) := by decide +kernel
theorem dX6_duel_3 : decode cX6_duel 3 = .ok (.invokestatic 89, 3) := by decide +kernel
theorem dX6_duel_6 : decode cX6_duel 6 = .ok (.ifCond .ne 5, 3) := by decide +kernel
theorem dX6_duel_9 : decode cX6_duel 9 = .ok (.iconst (-1), 1) := by decide +kernel
theorem dX6_duel_10 : decode cX6_duel 10 = .ok (.ireturn, 1) := by decide +kernel
theorem dX6_duel_11 : decode cX6_duel 11 = .ok (.aload_n 0, 1) := by decide +kernel
theorem dX6_duel_12 : decode cX6_duel 12 = .ok (.getfield 142, 3) := by decide +kernel
theorem dX6_duel_15 : decode cX6_duel 15 = .ok (.ifCond .ne 6, 3) := by decide +kernel
theorem dX6_duel_18 : decode cX6_duel 18 = .ok (.bipush (-4), 2) := by decide +kernel
theorem dX6_duel_20 : decode cX6_duel 20 = .ok (.ireturn, 1) := by decide +kernel
theorem dX6_duel_21 : decode cX6_duel 21 = .ok (.iconst 1, 1) := by decide +kernel
theorem dX6_duel_22 : decode cX6_duel 22 = .ok (.istore_n 2, 1) := by decide +kernel
theorem dX6_duel_23 : decode cX6_duel 23 = .ok (.iconst 0, 1) := by decide +kernel
theorem dX6_duel_24 : decode cX6_duel 24 = .ok (.istore_n 3, 1) := by decide +kernel
theorem dX6_duel_25 : decode cX6_duel 25 = .ok (.iload_n 3, 1) := by decide +kernel
theorem dX6_duel_26 : decode cX6_duel 26 = .ok (.iload_n 1, 1) := by decide +kernel
theorem dX6_duel_27 : decode cX6_duel 27 = .ok (.if_icmp .ge 14, 3) := by decide +kernel
theorem dX6_duel_30 : decode cX6_duel 30 = .ok (.iload_n 2, 1) := by decide +kernel
theorem dX6_duel_31 : decode cX6_duel 31 = .ok (.bipush 9, 2) := by decide +kernel
theorem dX6_duel_33 : decode cX6_duel 33 = .ok (.imul, 1) := by decide +kernel
theorem dX6_duel_34 : decode cX6_duel 34 = .ok (.istore_n 2, 1) := by decide +kernel
theorem dX6_duel_35 : decode cX6_duel 35 = .ok (.iinc 3 1, 3) := by decide +kernel
theorem dX6_duel_38 : decode cX6_duel 38 = .ok (.goto (-13), 3) := by decide +kernel
theorem dX6_duel_41 : decode cX6_duel 41 = .ok (.iconst 0, 1) := by decide +kernel
theorem dX6_duel_42 : decode cX6_duel 42 = .ok (.istore_n 3, 1) := by decide +kernel
theorem dX6_duel_43 : decode cX6_duel 43 = .ok (.iload_n 3, 1) := by decide +kernel
theorem dX6_duel_44 : decode cX6_duel 44 = .ok (.iload_n 2, 1) := by decide +kernel
theorem dX6_duel_45 : decode cX6_duel 45 = .ok (.if_icmp .ge 40, 3) := by decide +kernel
theorem dX6_duel_48 : decode cX6_duel 48 = .ok (.aload_n 0, 1) := by decide +kernel
theorem dX6_duel_49 : decode cX6_duel 49 = .ok (.invokevirtual 203, 3) := by decide +kernel
theorem dX6_duel_52 : decode cX6_duel 52 = .ok (.aload_n 0, 1) := by decide +kernel
theorem dX6_duel_53 : decode cX6_duel 53 = .ok (.getfield 72, 3) := by decide +kernel
theorem dX6_duel_56 : decode cX6_duel 56 = .ok (.iload_n 3, 1) := by decide +kernel
theorem dX6_duel_57 : decode cX6_duel 57 = .ok (.aload_n 0, 1) := by decide +kernel
theorem dX6_duel_58 : decode cX6_duel 58 = .ok (.iload_n 3, 1) := by decide +kernel
theorem dX6_duel_59 : decode cX6_duel 59 = .ok (.iload_n 1, 1) := by decide +kernel
theorem dX6_duel_60 : decode cX6_duel 60 = .ok (.invokevirtual 238, 3) := by decide +kernel
theorem dX6_duel_63 : decode cX6_duel 63 = .ok (.ifCond .eq 13, 3) := by decide +kernel
theorem dX6_duel_66 : decode cX6_duel 66 = .ok (.aload_n 0, 1) := by decide +kernel
theorem dX6_duel_67 : decode cX6_duel 67 = .ok (.bipush 12, 2) := by decide +kernel
theorem dX6_duel_69 : decode cX6_duel 69 = .ok (.iconst 1, 1) := by decide +kernel
theorem dX6_duel_70 : decode cX6_duel 70 = .ok (.invokevirtual 206, 3) := by decide +kernel
theorem dX6_duel_73 : decode cX6_duel 73 = .ok (.goto 5, 3) := by decide +kernel
theorem dX6_duel_76 : decode cX6_duel 76 = .ok (.ldc 223, 2) := by decide +kernel
theorem dX6_duel_78 : decode cX6_duel 78 = .ok (.iastore, 1) := by decide +kernel
theorem dX6_duel_79 : decode cX6_duel 79 = .ok (.iinc 3 1, 3) := by decide +kernel
theorem dX6_duel_82 : decode cX6_duel 82 = .ok (.goto (-39), 3) := by decide +kernel
theorem dX6_duel_85 : decode cX6_duel 85 = .ok (.iload_n 1, 1) := by decide +kernel
theorem dX6_duel_86 : decode cX6_duel 86 = .ok (.iconst 1, 1) := by decide +kernel
theorem dX6_duel_87 : decode cX6_duel 87 = .ok (.isub, 1) := by decide +kernel
theorem dX6_duel_88 : decode cX6_duel 88 = .ok (.istore_n 3, 1) := by decide +kernel
theorem dX6_duel_89 : decode cX6_duel 89 = .ok (.iload_n 3, 1) := by decide +kernel
theorem dX6_duel_90 : decode cX6_duel 90 = .ok (.ifCond .lt 131, 3) := by decide +kernel
theorem dX6_duel_93 : decode cX6_duel 93 = .ok (.iload_n 2, 1) := by decide +kernel
theorem dX6_duel_94 : decode cX6_duel 94 = .ok (.bipush 9, 2) := by decide +kernel
theorem dX6_duel_96 : decode cX6_duel 96 = .ok (.idiv, 1) := by decide +kernel
theorem dX6_duel_97 : decode cX6_duel 97 = .ok (.istore_n 2, 1) := by decide +kernel
theorem dX6_duel_98 : decode cX6_duel 98 = .ok (.iconst 0, 1) := by decide +kernel
theorem dX6_duel_99 : decode cX6_duel 99 = .ok (.istore 4, 2) := by decide +kernel
theorem dX6_duel_101 : decode cX6_duel 101 = .ok (.iload 4, 2) := by decide +kernel
theorem dX6_duel_103 : decode cX6_duel 103 = .ok (.iload_n 2, 1) := by decide +kernel
theorem dX6_duel_104 : decode cX6_duel 104 = .ok (.if_icmp .ge 111, 3) := by decide +kernel
theorem dX6_duel_107 : decode cX6_duel 107 = .ok (.ldc 223, 2) := by decide +kernel
theorem dX6_duel_109 : decode cX6_duel 109 = .ok (.istore 5, 2) := by decide +kernel
theorem dX6_duel_111 : decode cX6_duel 111 = .ok (.iconst 0, 1) := by decide +kernel
theorem dX6_duel_112 : decode cX6_duel 112 = .ok (.istore 6, 2) := by decide +kernel
theorem dX6_duel_114 : decode cX6_duel 114 = .ok (.iload 6, 2) := by decide +kernel
theorem dX6_duel_116 : decode cX6_duel 116 = .ok (.bipush 9, 2) := by decide +kernel
theorem dX6_duel_118 : decode cX6_duel 118 = .ok (.if_icmp .ge 82, 3) := by decide +kernel
theorem dX6_duel_121 : decode cX6_duel 121 = .ok (.aload_n 0, 1) := by decide +kernel
theorem dX6_duel_122 : decode cX6_duel 122 = .ok (.getfield 72, 3) := by decide +kernel
theorem dX6_duel_125 : decode cX6_duel 125 = .ok (.bipush 9, 2) := by decide +kernel
theorem dX6_duel_127 : decode cX6_duel 127 = .ok (.iload 4, 2) := by decide +kernel
theorem dX6_duel_129 : decode cX6_duel 129 = .ok (.imul, 1) := by decide +kernel
theorem dX6_duel_130 : decode cX6_duel 130 = .ok (.iload 6, 2) := by decide +kernel
theorem dX6_duel_132 : decode cX6_duel 132 = .ok (.iadd, 1) := by decide +kernel
theorem dX6_duel_133 : decode cX6_duel 133 = .ok (.iaload, 1) := by decide +kernel
theorem dX6_duel_134 : decode cX6_duel 134 = .ok (.istore 7, 2) := by decide +kernel
theorem dX6_duel_136 : decode cX6_duel 136 = .ok (.iload 7, 2) := by decide +kernel
theorem dX6_duel_138 : decode cX6_duel 138 = .ok (.ldc 223, 2) := by decide +kernel
theorem dX6_duel_140 : decode cX6_duel 140 = .ok (.if_icmp .eq 37, 3) := by decide +kernel
theorem dX6_duel_143 : decode cX6_duel 143 = .ok (.iload 5, 2) := by decide +kernel
theorem dX6_duel_145 : decode cX6_duel 145 = .ok (.ldc 223, 2) := by decide +kernel
theorem dX6_duel_147 : decode cX6_duel 147 = .ok (.if_icmp .eq 26, 3) := by decide +kernel
theorem dX6_duel_150 : decode cX6_duel 150 = .ok (.iload_n 3, 1) := by decide +kernel
theorem dX6_duel_151 : decode cX6_duel 151 = .ok (.iconst 2, 1) := by decide +kernel
theorem dX6_duel_152 : decode cX6_duel 152 = .ok (.irem, 1) := by decide +kernel
theorem dX6_duel_153 : decode cX6_duel 153 = .ok (.ifCond .ne 13, 3) := by decide +kernel
theorem dX6_duel_156 : decode cX6_duel 156 = .ok (.iload 7, 2) := by decide +kernel
theorem dX6_duel_158 : decode cX6_duel 158 = .ok (.iload 5, 2) := by decide +kernel
theorem dX6_duel_160 : decode cX6_duel 160 = .ok (.if_icmp .le 17, 3) := by decide +kernel
theorem dX6_duel_163 : decode cX6_duel 163 = .ok (.goto 10, 3) := by decide +kernel
theorem dX6_duel_166 : decode cX6_duel 166 = .ok (.iload 7, 2) := by decide +kernel
theorem dX6_duel_168 : decode cX6_duel 168 = .ok (.iload 5, 2) := by decide +kernel
theorem dX6_duel_170 : decode cX6_duel 170 = .ok (.if_icmp .ge 7, 3) := by decide +kernel
theorem dX6_duel_173 : decode cX6_duel 173 = .ok (.iconst 1, 1) := by decide +kernel
theorem dX6_duel_174 : decode cX6_duel 174 = .ok (.goto 4, 3) := by decide +kernel
theorem dX6_duel_177 : decode cX6_duel 177 = .ok (.iconst 0, 1) := by decide +kernel
theorem dX6_duel_178 : decode cX6_duel 178 = .ok (.istore 8, 2) := by decide +kernel
theorem dX6_duel_180 : decode cX6_duel 180 = .ok (.iload 8, 2) := by decide +kernel
theorem dX6_duel_182 : decode cX6_duel 182 = .ok (.ifCond .eq 8, 3) := by decide +kernel
theorem dX6_duel_185 : decode cX6_duel 185 = .ok (.iload 7, 2) := by decide +kernel
theorem dX6_duel_187 : decode cX6_duel 187 = .ok (.goto 5, 3) := by decide +kernel
theorem dX6_duel_190 : decode cX6_duel 190 = .ok (.iload 5, 2) := by decide +kernel
theorem dX6_duel_192 : decode cX6_duel 192 = .ok (.istore 5, 2) := by decide +kernel
theorem dX6_duel_194 : decode cX6_duel 194 = .ok (.iinc 6 1, 3) := by decide +kernel
theorem dX6_duel_197 : decode cX6_duel 197 = .ok (.goto (-83), 3) := by decide +kernel
theorem dX6_duel_200 : decode cX6_duel 200 = .ok (.aload_n 0, 1) := by decide +kernel
theorem dX6_duel_201 : decode cX6_duel 201 = .ok (.getfield 72, 3) := by decide +kernel
theorem dX6_duel_204 : decode cX6_duel 204 = .ok (.iload 4, 2) := by decide +kernel
theorem dX6_duel_206 : decode cX6_duel 206 = .ok (.iload 5, 2) := by decide +kernel
theorem dX6_duel_208 : decode cX6_duel 208 = .ok (.iastore, 1) := by decide +kernel
theorem dX6_duel_209 : decode cX6_duel 209 = .ok (.iinc 4 1, 3) := by decide +kernel
theorem dX6_duel_212 : decode cX6_duel 212 = .ok (.goto (-111), 3) := by decide +kernel
theorem dX6_duel_215 : decode cX6_duel 215 = .ok (.iinc 3 (-1), 3) := by decide +kernel
theorem dX6_duel_218 : decode cX6_duel 218 = .ok (.goto (-129), 3) := by decide +kernel
theorem dX6_duel_221 : decode cX6_duel 221 = .ok (.aload_n 0, 1) := by decide +kernel
theorem dX6_duel_222 : decode cX6_duel 222 = .ok (.getfield 72, 3) := by decide +kernel
theorem dX6_duel_225 : decode cX6_duel 225 = .ok (.iconst 0, 1) := by decide +kernel
theorem dX6_duel_226 : decode cX6_duel 226 = .ok (.iaload, 1) := by decide +kernel
theorem dX6_duel_227 : decode cX6_duel 227 = .ok (.ireturn, 1) := by decide +kernel
theorem dX6_layParts_0 : decode cX6_layParts 0 = .ok (.aload_n 0, 1) := by decide +kernel
theorem dX6_layParts_1 : decode cX6_layParts 1 = .ok (.lconst 1, 1) := by decide +kernel
theorem dX6_layParts_2 : decode cX6_layParts 2 = .ok (.putfield 241, 3) := by decide +kernel
theorem dX6_layParts_5 : decode cX6_layParts 5 = .ok (.iconst 0, 1) := by decide +kernel
theorem dX6_layParts_6 : decode cX6_layParts 6 = .ok (.istore_n 2, 1) := by decide +kernel
theorem dX6_layParts_7 : decode cX6_layParts 7 = .ok (.iload_n 2, 1) := by decide +kernel
theorem dX6_layParts_8 : decode cX6_layParts 8 = .ok (.aload_n 0, 1) := by decide +kernel
theorem dX6_layParts_9 : decode cX6_layParts 9 = .ok (.getfield 142, 3) := by decide +kernel
theorem dX6_layParts_12 : decode cX6_layParts 12 = .ok (.if_icmp .ge 38, 3) := by decide +kernel
theorem dX6_layParts_15 : decode cX6_layParts 15 = .ok (.aload_n 0, 1) := by decide +kernel
theorem dX6_layParts_16 : decode cX6_layParts 16 = .ok (.dup, 1) := by decide +kernel
theorem dX6_layParts_17 : decode cX6_layParts 17 = .ok (.getfield 241, 3) := by decide +kernel
theorem dX6_layParts_20 : decode cX6_layParts 20 = .ok (.aload_n 0, 1) := by decide +kernel
theorem dX6_layParts_21 : decode cX6_layParts 21 = .ok (.getfield 57, 3) := by decide +kernel
theorem dX6_layParts_24 : decode cX6_layParts 24 = .ok (.iconst 3, 1) := by decide +kernel
theorem dX6_layParts_25 : decode cX6_layParts 25 = .ok (.iaload, 1) := by decide +kernel
theorem dX6_layParts_26 : decode cX6_layParts 26 = .ok (.iload_n 2, 1) := by decide +kernel
theorem dX6_layParts_27 : decode cX6_layParts 27 = .ok (.invokestatic 158, 3) := by decide +kernel
theorem dX6_layParts_30 : decode cX6_layParts 30 = .ok (.ifCond .eq 9, 3) := by decide +kernel
theorem dX6_layParts_33 : decode cX6_layParts 33 = .ok (.ldc2_w 244, 3) := by decide +kernel
theorem dX6_layParts_36 : decode cX6_layParts 36 = .ok (.goto 4, 3) := by decide +kernel
theorem dX6_layParts_39 : decode cX6_layParts 39 = .ok (.lconst 1, 1) := by decide +kernel
theorem dX6_layParts_40 : decode cX6_layParts 40 = .ok (.lmul, 1) := by decide +kernel
theorem dX6_layParts_41 : decode cX6_layParts 41 = .ok (.putfield 241, 3) := by decide +kernel
theorem dX6_layParts_44 : decode cX6_layParts 44 = .ok (.iinc 2 1, 3) := by decide +kernel
theorem dX6_layParts_47 : decode cX6_layParts 47 = .ok (.goto (-40), 3) := by decide +kernel
theorem dX6_layParts_50 : decode cX6_layParts 50 = .ok (.iconst 0, 1) := by decide +kernel
theorem dX6_layParts_51 : decode cX6_layParts 51 = .ok (.istore_n 2, 1) := by decide +kernel
theorem dX6_layParts_52 : decode cX6_layParts 52 = .ok (.iload_n 2, 1) := by decide +kernel
theorem dX6_layParts_53 : decode cX6_layParts 53 = .ok (.bipush 12, 2) := by decide +kernel
theorem dX6_layParts_55 : decode cX6_layParts 55 = .ok (.if_icmp .gt 16, 3) := by decide +kernel
theorem dX6_layParts_58 : decode cX6_layParts 58 = .ok (.aload_n 0, 1) := by decide +kernel
theorem dX6_layParts_59 : decode cX6_layParts 59 = .ok (.getfield 75, 3) := by decide +kernel
theorem dX6_layParts_62 : decode cX6_layParts 62 = .ok (.iload_n 2, 1) := by decide +kernel
theorem dX6_layParts_63 : decode cX6_layParts 63 = .ok (.lconst 0, 1) := by decide +kernel
theorem dX6_layParts_64 : decode cX6_layParts 64 = .ok (.lastore, 1) := by decide +kernel
theorem dX6_layParts_65 : decode cX6_layParts 65 = .ok (.iinc 2 1, 3) := by decide +kernel
theorem dX6_layParts_68 : decode cX6_layParts 68 = .ok (.goto (-16), 3) := by decide +kernel
theorem dX6_layParts_71 : decode cX6_layParts 71 = .ok (.iconst 0, 1) := by decide +kernel
theorem dX6_layParts_72 : decode cX6_layParts 72 = .ok (.istore_n 2, 1) := by decide +kernel
theorem dX6_layParts_73 : decode cX6_layParts 73 = .ok (.iload_n 2, 1) := by decide +kernel
theorem dX6_layParts_74 : decode cX6_layParts 74 = .ok (.aload_n 0, 1) := by decide +kernel
theorem dX6_layParts_75 : decode cX6_layParts 75 = .ok (.getfield 57, 3) := by decide +kernel
theorem dX6_layParts_78 : decode cX6_layParts 78 = .ok (.iconst 3, 1) := by decide +kernel
theorem dX6_layParts_79 : decode cX6_layParts 79 = .ok (.iaload, 1) := by decide +kernel
theorem dX6_layParts_80 : decode cX6_layParts 80 = .ok (.if_icmp .gt 114, 3) := by decide +kernel
theorem dX6_layParts_83 : decode cX6_layParts 83 = .ok (.iload_n 2, 1) := by decide +kernel
theorem dX6_layParts_84 : decode cX6_layParts 84 = .ok (.aload_n 0, 1) := by decide +kernel
theorem dX6_layParts_85 : decode cX6_layParts 85 = .ok (.getfield 57, 3) := by decide +kernel
theorem dX6_layParts_88 : decode cX6_layParts 88 = .ok (.iconst 3, 1) := by decide +kernel
theorem dX6_layParts_89 : decode cX6_layParts 89 = .ok (.iaload, 1) := by decide +kernel
theorem dX6_layParts_90 : decode cX6_layParts 90 = .ok (.iconst (-1), 1) := by decide +kernel
theorem dX6_layParts_91 : decode cX6_layParts 91 = .ok (.ixor, 1) := by decide +kernel
theorem dX6_layParts_92 : decode cX6_layParts 92 = .ok (.iand, 1) := by decide +kernel
theorem dX6_layParts_93 : decode cX6_layParts 93 = .ok (.ifCond .ne 95, 3) := by decide +kernel
theorem dX6_layParts_96 : decode cX6_layParts 96 = .ok (.lconst 1, 1) := by decide +kernel
theorem dX6_layParts_97 : decode cX6_layParts 97 = .ok (.lstore_n 3, 1) := by decide +kernel
theorem dX6_layParts_98 : decode cX6_layParts 98 = .ok (.iconst 0, 1) := by decide +kernel
theorem dX6_layParts_99 : decode cX6_layParts 99 = .ok (.istore 5, 2) := by decide +kernel
theorem dX6_layParts_101 : decode cX6_layParts 101 = .ok (.iload 5, 2) := by decide +kernel
theorem dX6_layParts_103 : decode cX6_layParts 103 = .ok (.aload_n 0, 1) := by decide +kernel
theorem dX6_layParts_104 : decode cX6_layParts 104 = .ok (.getfield 142, 3) := by decide +kernel
theorem dX6_layParts_107 : decode cX6_layParts 107 = .ok (.if_icmp .ge 49, 3) := by decide +kernel
theorem dX6_layParts_110 : decode cX6_layParts 110 = .ok (.lload_n 3, 1) := by decide +kernel
theorem dX6_layParts_111 : decode cX6_layParts 111 = .ok (.aload_n 0, 1) := by decide +kernel
theorem dX6_layParts_112 : decode cX6_layParts 112 = .ok (.getfield 57, 3) := by decide +kernel
theorem dX6_layParts_115 : decode cX6_layParts 115 = .ok (.iconst 3, 1) := by decide +kernel
theorem dX6_layParts_116 : decode cX6_layParts 116 = .ok (.iaload, 1) := by decide +kernel
theorem dX6_layParts_117 : decode cX6_layParts 117 = .ok (.iload 5, 2) := by decide +kernel
theorem dX6_layParts_119 : decode cX6_layParts 119 = .ok (.invokestatic 158, 3) := by decide +kernel
theorem dX6_layParts_122 : decode cX6_layParts 122 = .ok (.ifCond .ne 7, 3) := by decide +kernel
theorem dX6_layParts_125 : decode cX6_layParts 125 = .ok (.lconst 1, 1) := by decide +kernel
theorem dX6_layParts_126 : decode cX6_layParts 126 = .ok (.goto 22, 3) := by decide +kernel
theorem dX6_layParts_129 : decode cX6_layParts 129 = .ok (.iload_n 2, 1) := by decide +kernel
theorem dX6_layParts_130 : decode cX6_layParts 130 = .ok (.iload 5, 2) := by decide +kernel
theorem dX6_layParts_132 : decode cX6_layParts 132 = .ok (.invokestatic 158, 3) := by decide +kernel
theorem dX6_layParts_135 : decode cX6_layParts 135 = .ok (.ifCond .eq 8, 3) := by decide +kernel
theorem dX6_layParts_138 : decode cX6_layParts 138 = .ok (.iload_n 1, 1) := by decide +kernel
theorem dX6_layParts_139 : decode cX6_layParts 139 = .ok (.i2l, 1) := by decide +kernel
theorem dX6_layParts_140 : decode cX6_layParts 140 = .ok (.goto 8, 3) := by decide +kernel
theorem dX6_layParts_143 : decode cX6_layParts 143 = .ok (.bipush 12, 2) := by decide +kernel
theorem dX6_layParts_145 : decode cX6_layParts 145 = .ok (.iload_n 1, 1) := by decide +kernel
theorem dX6_layParts_146 : decode cX6_layParts 146 = .ok (.isub, 1) := by decide +kernel
theorem dX6_layParts_147 : decode cX6_layParts 147 = .ok (.i2l, 1) := by decide +kernel
theorem dX6_layParts_148 : decode cX6_layParts 148 = .ok (.lmul, 1) := by decide +kernel
theorem dX6_layParts_149 : decode cX6_layParts 149 = .ok (.lstore_n 3, 1) := by decide +kernel
theorem dX6_layParts_150 : decode cX6_layParts 150 = .ok (.iinc 5 1, 3) := by decide +kernel
theorem dX6_layParts_153 : decode cX6_layParts 153 = .ok (.goto (-52), 3) := by decide +kernel
theorem dX6_layParts_156 : decode cX6_layParts 156 = .ok (.aload_n 0, 1) := by decide +kernel
theorem dX6_layParts_157 : decode cX6_layParts 157 = .ok (.invokevirtual 203, 3) := by decide +kernel
theorem dX6_layParts_160 : decode cX6_layParts 160 = .ok (.aload_n 0, 1) := by decide +kernel
theorem dX6_layParts_161 : decode cX6_layParts 161 = .ok (.getfield 60, 3) := by decide +kernel
theorem dX6_layParts_164 : decode cX6_layParts 164 = .ok (.iconst 3, 1) := by decide +kernel
theorem dX6_layParts_165 : decode cX6_layParts 165 = .ok (.dup2, 1) := by decide +kernel
theorem dX6_layParts_166 : decode cX6_layParts 166 = .ok (.iaload, 1) := by decide +kernel
theorem dX6_layParts_167 : decode cX6_layParts 167 = .ok (.iload_n 2, 1) := by decide +kernel
theorem dX6_layParts_168 : decode cX6_layParts 168 = .ok (.iconst (-1), 1) := by decide +kernel
theorem dX6_layParts_169 : decode cX6_layParts 169 = .ok (.ixor, 1) := by decide +kernel
theorem dX6_layParts_170 : decode cX6_layParts 170 = .ok (.iand, 1) := by decide +kernel
theorem dX6_layParts_171 : decode cX6_layParts 171 = .ok (.iastore, 1) := by decide +kernel
theorem dX6_layParts_172 : decode cX6_layParts 172 = .ok (.aload_n 0, 1) := by decide +kernel
theorem dX6_layParts_173 : decode cX6_layParts 173 = .ok (.getfield 75, 3) := by decide +kernel
theorem dX6_layParts_176 : decode cX6_layParts 176 = .ok (.aload_n 0, 1) := by decide +kernel
theorem dX6_layParts_177 : decode cX6_layParts 177 = .ok (.bipush 12, 2) := by decide +kernel
theorem dX6_layParts_179 : decode cX6_layParts 179 = .ok (.iconst 1, 1) := by decide +kernel
theorem dX6_layParts_180 : decode cX6_layParts 180 = .ok (.invokevirtual 206, 3) := by decide +kernel
theorem dX6_layParts_183 : decode cX6_layParts 183 = .ok (.dup2, 1) := by decide +kernel
theorem dX6_layParts_184 : decode cX6_layParts 184 = .ok (.laload, 1) := by decide +kernel
theorem dX6_layParts_185 : decode cX6_layParts 185 = .ok (.lload_n 3, 1) := by decide +kernel
theorem dX6_layParts_186 : decode cX6_layParts 186 = .ok (.ladd, 1) := by decide +kernel
theorem dX6_layParts_187 : decode cX6_layParts 187 = .ok (.lastore, 1) := by decide +kernel
theorem dX6_layParts_188 : decode cX6_layParts 188 = .ok (.iinc 2 1, 3) := by decide +kernel
theorem dX6_layParts_191 : decode cX6_layParts 191 = .ok (.goto (-118), 3) := by decide +kernel
theorem dX6_layParts_194 : decode cX6_layParts 194 = .ok (.return_, 1) := by decide +kernel
theorem dX6_odds_0 : decode cX6_odds 0 = .ok (.iload_n 1, 1) := by decide +kernel
theorem dX6_odds_1 : decode cX6_odds 1 = .ok (.iconst 0, 1) := by decide +kernel
theorem dX6_odds_2 : decode cX6_odds 2 = .ok (.bipush 20, 2) := by decide +kernel
theorem dX6_odds_4 : decode cX6_odds 4 = .ok (.invokestatic 89, 3) := by decide +kernel
theorem dX6_odds_7 : decode cX6_odds 7 = .ok (.ifCond .eq 13, 3) := by decide +kernel
theorem dX6_odds_10 : decode cX6_odds 10 = .ok (.iload_n 2, 1) := by decide +kernel
theorem dX6_odds_11 : decode cX6_odds 11 = .ok (.iconst 0, 1) := by decide +kernel
theorem dX6_odds_12 : decode cX6_odds 12 = .ok (.bipush 12, 2) := by decide +kernel
theorem dX6_odds_14 : decode cX6_odds 14 = .ok (.invokestatic 89, 3) := by decide +kernel
theorem dX6_odds_17 : decode cX6_odds 17 = .ok (.ifCond .ne 5, 3) := by decide +kernel
theorem dX6_odds_20 : decode cX6_odds 20 = .ok (.iconst (-1), 1) := by decide +kernel
theorem dX6_odds_21 : decode cX6_odds 21 = .ok (.ireturn, 1) := by decide +kernel
theorem dX6_odds_22 : decode cX6_odds 22 = .ok (.aload_n 0, 1) := by decide +kernel
theorem dX6_odds_23 : decode cX6_odds 23 = .ok (.getfield 142, 3) := by decide +kernel
theorem dX6_odds_26 : decode cX6_odds 26 = .ok (.ifCond .ne 6, 3) := by decide +kernel
theorem dX6_odds_29 : decode cX6_odds 29 = .ok (.bipush (-4), 2) := by decide +kernel
theorem dX6_odds_31 : decode cX6_odds 31 = .ok (.ireturn, 1) := by decide +kernel
theorem dX6_odds_32 : decode cX6_odds 32 = .ok (.aload_n 0, 1) := by decide +kernel
theorem dX6_odds_33 : decode cX6_odds 33 = .ok (.iload_n 2, 1) := by decide +kernel
theorem dX6_odds_34 : decode cX6_odds 34 = .ok (.invokevirtual 246, 3) := by decide +kernel
theorem dX6_odds_37 : decode cX6_odds 37 = .ok (.lconst 0, 1) := by decide +kernel
theorem dX6_odds_38 : decode cX6_odds 38 = .ok (.lstore_n 3, 1) := by decide +kernel
theorem dX6_odds_39 : decode cX6_odds 39 = .ok (.iconst 0, 1) := by decide +kernel
theorem dX6_odds_40 : decode cX6_odds 40 = .ok (.istore 5, 2) := by decide +kernel
theorem dX6_odds_42 : decode cX6_odds 42 = .ok (.iload 5, 2) := by decide +kernel
theorem dX6_odds_44 : decode cX6_odds 44 = .ok (.iload_n 1, 1) := by decide +kernel
theorem dX6_odds_45 : decode cX6_odds 45 = .ok (.if_icmp .gt 26, 3) := by decide +kernel
theorem dX6_odds_48 : decode cX6_odds 48 = .ok (.iload 5, 2) := by decide +kernel
theorem dX6_odds_50 : decode cX6_odds 50 = .ok (.bipush 12, 2) := by decide +kernel
theorem dX6_odds_52 : decode cX6_odds 52 = .ok (.if_icmp .gt 19, 3) := by decide +kernel
theorem dX6_odds_55 : decode cX6_odds 55 = .ok (.lload_n 3, 1) := by decide +kernel
theorem dX6_odds_56 : decode cX6_odds 56 = .ok (.aload_n 0, 1) := by decide +kernel
theorem dX6_odds_57 : decode cX6_odds 57 = .ok (.getfield 75, 3) := by decide +kernel
theorem dX6_odds_60 : decode cX6_odds 60 = .ok (.iload 5, 2) := by decide +kernel
theorem dX6_odds_62 : decode cX6_odds 62 = .ok (.laload, 1) := by decide +kernel
theorem dX6_odds_63 : decode cX6_odds 63 = .ok (.ladd, 1) := by decide +kernel
theorem dX6_odds_64 : decode cX6_odds 64 = .ok (.lstore_n 3, 1) := by decide +kernel
theorem dX6_odds_65 : decode cX6_odds 65 = .ok (.iinc 5 1, 3) := by decide +kernel
theorem dX6_odds_68 : decode cX6_odds 68 = .ok (.goto (-26), 3) := by decide +kernel
theorem dX6_odds_71 : decode cX6_odds 71 = .ok (.aload_n 0, 1) := by decide +kernel
theorem dX6_odds_72 : decode cX6_odds 72 = .ok (.lload_n 3, 1) := by decide +kernel
theorem dX6_odds_73 : decode cX6_odds 73 = .ok (.aload_n 0, 1) := by decide +kernel
theorem dX6_odds_74 : decode cX6_odds 74 = .ok (.getfield 241, 3) := by decide +kernel
theorem dX6_odds_77 : decode cX6_odds 77 = .ok (.invokevirtual 250, 3) := by decide +kernel
theorem dX6_odds_80 : decode cX6_odds 80 = .ok (.ireturn, 1) := by decide +kernel
theorem dX6_mid_0 : decode cX6_mid 0 = .ok (.iload_n 1, 1) := by decide +kernel
theorem dX6_mid_1 : decode cX6_mid 1 = .ok (.iconst 0, 1) := by decide +kernel
theorem dX6_mid_2 : decode cX6_mid 2 = .ok (.bipush 12, 2) := by decide +kernel
theorem dX6_mid_4 : decode cX6_mid 4 = .ok (.invokestatic 89, 3) := by decide +kernel
theorem dX6_mid_7 : decode cX6_mid 7 = .ok (.ifCond .ne 5, 3) := by decide +kernel
theorem dX6_mid_10 : decode cX6_mid 10 = .ok (.iconst (-1), 1) := by decide +kernel
theorem dX6_mid_11 : decode cX6_mid 11 = .ok (.ireturn, 1) := by decide +kernel
theorem dX6_mid_12 : decode cX6_mid 12 = .ok (.aload_n 0, 1) := by decide +kernel
theorem dX6_mid_13 : decode cX6_mid 13 = .ok (.getfield 142, 3) := by decide +kernel
theorem dX6_mid_16 : decode cX6_mid 16 = .ok (.ifCond .ne 6, 3) := by decide +kernel
theorem dX6_mid_19 : decode cX6_mid 19 = .ok (.bipush (-4), 2) := by decide +kernel
theorem dX6_mid_21 : decode cX6_mid 21 = .ok (.ireturn, 1) := by decide +kernel
theorem dX6_mid_22 : decode cX6_mid 22 = .ok (.aload_n 0, 1) := by decide +kernel
theorem dX6_mid_23 : decode cX6_mid 23 = .ok (.iload_n 1, 1) := by decide +kernel
theorem dX6_mid_24 : decode cX6_mid 24 = .ok (.invokevirtual 246, 3) := by decide +kernel
theorem dX6_mid_27 : decode cX6_mid 27 = .ok (.lconst 0, 1) := by decide +kernel
theorem dX6_mid_28 : decode cX6_mid 28 = .ok (.lstore_n 2, 1) := by decide +kernel
theorem dX6_mid_29 : decode cX6_mid 29 = .ok (.iconst 1, 1) := by decide +kernel
theorem dX6_mid_30 : decode cX6_mid 30 = .ok (.istore 4, 2) := by decide +kernel
theorem dX6_mid_32 : decode cX6_mid 32 = .ok (.iload 4, 2) := by decide +kernel
theorem dX6_mid_34 : decode cX6_mid 34 = .ok (.bipush 12, 2) := by decide +kernel
theorem dX6_mid_36 : decode cX6_mid 36 = .ok (.if_icmp .gt 23, 3) := by decide +kernel
theorem dX6_mid_39 : decode cX6_mid 39 = .ok (.lload_n 2, 1) := by decide +kernel
theorem dX6_mid_40 : decode cX6_mid 40 = .ok (.iload 4, 2) := by decide +kernel
theorem dX6_mid_42 : decode cX6_mid 42 = .ok (.i2l, 1) := by decide +kernel
theorem dX6_mid_43 : decode cX6_mid 43 = .ok (.aload_n 0, 1) := by decide +kernel
theorem dX6_mid_44 : decode cX6_mid 44 = .ok (.getfield 75, 3) := by decide +kernel
theorem dX6_mid_47 : decode cX6_mid 47 = .ok (.iload 4, 2) := by decide +kernel
theorem dX6_mid_49 : decode cX6_mid 49 = .ok (.laload, 1) := by decide +kernel
theorem dX6_mid_50 : decode cX6_mid 50 = .ok (.lmul, 1) := by decide +kernel
theorem dX6_mid_51 : decode cX6_mid 51 = .ok (.ladd, 1) := by decide +kernel
theorem dX6_mid_52 : decode cX6_mid 52 = .ok (.lstore_n 2, 1) := by decide +kernel
theorem dX6_mid_53 : decode cX6_mid 53 = .ok (.iinc 4 1, 3) := by decide +kernel
theorem dX6_mid_56 : decode cX6_mid 56 = .ok (.goto (-24), 3) := by decide +kernel
theorem dX6_mid_59 : decode cX6_mid 59 = .ok (.aload_n 0, 1) := by decide +kernel
theorem dX6_mid_60 : decode cX6_mid 60 = .ok (.lload_n 2, 1) := by decide +kernel
theorem dX6_mid_61 : decode cX6_mid 61 = .ok (.aload_n 0, 1) := by decide +kernel
theorem dX6_mid_62 : decode cX6_mid 62 = .ok (.getfield 241, 3) := by decide +kernel
theorem dX6_mid_65 : decode cX6_mid 65 = .ok (.invokevirtual 250, 3) := by decide +kernel
theorem dX6_mid_68 : decode cX6_mid 68 = .ok (.ireturn, 1) := by decide +kernel
theorem dX6_lots_0 : decode cX6_lots 0 = .ok (.iload_n 1, 1) := by decide +kernel
theorem dX6_lots_1 : decode cX6_lots 1 = .ok (.iconst 1, 1) := by decide +kernel
theorem dX6_lots_2 : decode cX6_lots 2 = .ok (.bipush 20, 2) := by decide +kernel
theorem dX6_lots_4 : decode cX6_lots 4 = .ok (.invokestatic 89, 3) := by decide +kernel
theorem dX6_lots_7 : decode cX6_lots 7 = .ok (.ifCond .eq 13, 3) := by decide +kernel
theorem dX6_lots_10 : decode cX6_lots 10 = .ok (.iload_n 2, 1) := by decide +kernel
theorem dX6_lots_11 : decode cX6_lots 11 = .ok (.iconst 1, 1) := by decide +kernel
theorem dX6_lots_12 : decode cX6_lots 12 = .ok (.ldc 254, 2) := by decide +kernel
theorem dX6_lots_14 : decode cX6_lots 14 = .ok (.invokestatic 89, 3) := by decide +kernel
theorem dX6_lots_17 : decode cX6_lots 17 = .ok (.ifCond .ne 5, 3) := by decide +kernel
theorem dX6_lots_20 : decode cX6_lots 20 = .ok (.iconst (-1), 1) := by decide +kernel
theorem dX6_lots_21 : decode cX6_lots 21 = .ok (.ireturn, 1) := by decide +kernel
theorem dX6_lots_22 : decode cX6_lots 22 = .ok (.aload_n 0, 1) := by decide +kernel
theorem dX6_lots_23 : decode cX6_lots 23 = .ok (.getfield 142, 3) := by decide +kernel
theorem dX6_lots_26 : decode cX6_lots 26 = .ok (.ifCond .ne 6, 3) := by decide +kernel
theorem dX6_lots_29 : decode cX6_lots 29 = .ok (.bipush (-4), 2) := by decide +kernel
theorem dX6_lots_31 : decode cX6_lots 31 = .ok (.ireturn, 1) := by decide +kernel
theorem dX6_lots_32 : decode cX6_lots 32 = .ok (.aload_n 0, 1) := by decide +kernel
theorem dX6_lots_33 : decode cX6_lots 33 = .ok (.getfield 148, 3) := by decide +kernel
theorem dX6_lots_36 : decode cX6_lots 36 = .ok (.iload_n 1, 1) := by decide +kernel
theorem dX6_lots_37 : decode cX6_lots 37 = .ok (.iadd, 1) := by decide +kernel
theorem dX6_lots_38 : decode cX6_lots 38 = .ok (.bipush 40, 2) := by decide +kernel
theorem dX6_lots_40 : decode cX6_lots 40 = .ok (.if_icmp .le 6, 3) := by decide +kernel
theorem dX6_lots_43 : decode cX6_lots 43 = .ok (.bipush (-2), 2) := by decide +kernel
theorem dX6_lots_45 : decode cX6_lots 45 = .ok (.ireturn, 1) := by decide +kernel
theorem dX6_lots_46 : decode cX6_lots 46 = .ok (.iload_n 2, 1) := by decide +kernel
theorem dX6_lots_47 : decode cX6_lots 47 = .ok (.i2l, 1) := by decide +kernel
theorem dX6_lots_48 : decode cX6_lots 48 = .ok (.lstore_n 3, 1) := by decide +kernel
theorem dX6_lots_49 : decode cX6_lots 49 = .ok (.iconst 0, 1) := by decide +kernel
theorem dX6_lots_50 : decode cX6_lots 50 = .ok (.istore 5, 2) := by decide +kernel
theorem dX6_lots_52 : decode cX6_lots 52 = .ok (.iload 5, 2) := by decide +kernel
theorem dX6_lots_54 : decode cX6_lots 54 = .ok (.iload_n 1, 1) := by decide +kernel
theorem dX6_lots_55 : decode cX6_lots 55 = .ok (.if_icmp .ge 113, 3) := by decide +kernel
theorem dX6_lots_58 : decode cX6_lots 58 = .ok (.ldc2_w 255, 3) := by decide +kernel
theorem dX6_lots_61 : decode cX6_lots 61 = .ok (.lload_n 3, 1) := by decide +kernel
theorem dX6_lots_62 : decode cX6_lots 62 = .ok (.lmul, 1) := by decide +kernel
theorem dX6_lots_63 : decode cX6_lots 63 = .ok (.ldc2_w 257, 3) := by decide +kernel
theorem dX6_lots_66 : decode cX6_lots 66 = .ok (.lrem, 1) := by decide +kernel
theorem dX6_lots_67 : decode cX6_lots 67 = .ok (.lstore_n 3, 1) := by decide +kernel
theorem dX6_lots_68 : decode cX6_lots 68 = .ok (.aload_n 0, 1) := by decide +kernel
theorem dX6_lots_69 : decode cX6_lots 69 = .ok (.invokevirtual 185, 3) := by decide +kernel
theorem dX6_lots_72 : decode cX6_lots 72 = .ok (.lload_n 3, 1) := by decide +kernel
theorem dX6_lots_73 : decode cX6_lots 73 = .ok (.ldc2_w 259, 3) := by decide +kernel
theorem dX6_lots_76 : decode cX6_lots 76 = .ok (.lrem, 1) := by decide +kernel
theorem dX6_lots_77 : decode cX6_lots 77 = .ok (.lconst 0, 1) := by decide +kernel
theorem dX6_lots_78 : decode cX6_lots 78 = .ok (.lcmp, 1) := by decide +kernel
theorem dX6_lots_79 : decode cX6_lots 79 = .ok (.ifCond .ne 20, 3) := by decide +kernel
theorem dX6_lots_82 : decode cX6_lots 82 = .ok (.aload_n 0, 1) := by decide +kernel
theorem dX6_lots_83 : decode cX6_lots 83 = .ok (.getfield 57, 3) := by decide +kernel
theorem dX6_lots_86 : decode cX6_lots 86 = .ok (.iconst 2, 1) := by decide +kernel
theorem dX6_lots_87 : decode cX6_lots 87 = .ok (.iconst 1, 1) := by decide +kernel
theorem dX6_lots_88 : decode cX6_lots 88 = .ok (.aload_n 0, 1) := by decide +kernel
theorem dX6_lots_89 : decode cX6_lots 89 = .ok (.getfield 57, 3) := by decide +kernel
theorem dX6_lots_92 : decode cX6_lots 92 = .ok (.iconst 2, 1) := by decide +kernel
theorem dX6_lots_93 : decode cX6_lots 93 = .ok (.iaload, 1) := by decide +kernel
theorem dX6_lots_94 : decode cX6_lots 94 = .ok (.isub, 1) := by decide +kernel
theorem dX6_lots_95 : decode cX6_lots 95 = .ok (.iastore, 1) := by decide +kernel
theorem dX6_lots_96 : decode cX6_lots 96 = .ok (.goto 66, 3) := by decide +kernel
theorem dX6_lots_99 : decode cX6_lots 99 = .ok (.lload_n 3, 1) := by decide +kernel
theorem dX6_lots_100 : decode cX6_lots 100 = .ok (.ldc2_w 259, 3) := by decide +kernel
theorem dX6_lots_103 : decode cX6_lots 103 = .ok (.lrem, 1) := by decide +kernel
theorem dX6_lots_104 : decode cX6_lots 104 = .ok (.lconst 1, 1) := by decide +kernel
theorem dX6_lots_105 : decode cX6_lots 105 = .ok (.lcmp, 1) := by decide +kernel
theorem dX6_lots_106 : decode cX6_lots 106 = .ok (.ifCond .ne 25, 3) := by decide +kernel
theorem dX6_lots_109 : decode cX6_lots 109 = .ok (.aload_n 0, 1) := by decide +kernel
theorem dX6_lots_110 : decode cX6_lots 110 = .ok (.getfield 57, 3) := by decide +kernel
theorem dX6_lots_113 : decode cX6_lots 113 = .ok (.lload_n 3, 1) := by decide +kernel
theorem dX6_lots_114 : decode cX6_lots 114 = .ok (.ldc2_w 261, 3) := by decide +kernel
theorem dX6_lots_117 : decode cX6_lots 117 = .ok (.ldiv, 1) := by decide +kernel
theorem dX6_lots_118 : decode cX6_lots 118 = .ok (.aload_n 0, 1) := by decide +kernel
theorem dX6_lots_119 : decode cX6_lots 119 = .ok (.getfield 142, 3) := by decide +kernel
theorem dX6_lots_122 : decode cX6_lots 122 = .ok (.i2l, 1) := by decide +kernel
theorem dX6_lots_123 : decode cX6_lots 123 = .ok (.lrem, 1) := by decide +kernel
theorem dX6_lots_124 : decode cX6_lots 124 = .ok (.l2i, 1) := by decide +kernel
theorem dX6_lots_125 : decode cX6_lots 125 = .ok (.invokestatic 199, 3) := by decide +kernel
theorem dX6_lots_128 : decode cX6_lots 128 = .ok (.goto 34, 3) := by decide +kernel
theorem dX6_lots_131 : decode cX6_lots 131 = .ok (.aload_n 0, 1) := by decide +kernel
theorem dX6_lots_132 : decode cX6_lots 132 = .ok (.aload_n 0, 1) := by decide +kernel
theorem dX6_lots_133 : decode cX6_lots 133 = .ok (.getfield 57, 3) := by decide +kernel
theorem dX6_lots_136 : decode cX6_lots 136 = .ok (.invokevirtual 181, 3) := by decide +kernel
theorem dX6_lots_139 : decode cX6_lots 139 = .ok (.ifCond .eq 14, 3) := by decide +kernel
theorem dX6_lots_142 : decode cX6_lots 142 = .ok (.aload_n 0, 1) := by decide +kernel
theorem dX6_lots_143 : decode cX6_lots 143 = .ok (.getfield 57, 3) := by decide +kernel
theorem dX6_lots_146 : decode cX6_lots 146 = .ok (.invokestatic 195, 3) := by decide +kernel
theorem dX6_lots_149 : decode cX6_lots 149 = .ok (.pop, 1) := by decide +kernel
theorem dX6_lots_150 : decode cX6_lots 150 = .ok (.goto 12, 3) := by decide +kernel
theorem dX6_lots_153 : decode cX6_lots 153 = .ok (.aload_n 0, 1) := by decide +kernel
theorem dX6_lots_154 : decode cX6_lots 154 = .ok (.aload_n 0, 1) := by decide +kernel
theorem dX6_lots_155 : decode cX6_lots 155 = .ok (.getfield 57, 3) := by decide +kernel
theorem dX6_lots_158 : decode cX6_lots 158 = .ok (.invokevirtual 188, 3) := by decide +kernel
theorem dX6_lots_161 : decode cX6_lots 161 = .ok (.pop, 1) := by decide +kernel
theorem dX6_lots_162 : decode cX6_lots 162 = .ok (.iinc 5 1, 3) := by decide +kernel
theorem dX6_lots_165 : decode cX6_lots 165 = .ok (.goto (-113), 3) := by decide +kernel
theorem dX6_lots_168 : decode cX6_lots 168 = .ok (.aload_n 0, 1) := by decide +kernel
theorem dX6_lots_169 : decode cX6_lots 169 = .ok (.getfield 57, 3) := by decide +kernel
theorem dX6_lots_172 : decode cX6_lots 172 = .ok (.iconst 0, 1) := by decide +kernel
theorem dX6_lots_173 : decode cX6_lots 173 = .ok (.iaload, 1) := by decide +kernel
theorem dX6_lots_174 : decode cX6_lots 174 = .ok (.ireturn, 1) := by decide +kernel
theorem dX6_counted_0 : decode cX6_counted 0 = .ok (.iconst 0, 1) := by decide +kernel
theorem dX6_counted_1 : decode cX6_counted 1 = .ok (.istore_n 2, 1) := by decide +kernel
theorem dX6_counted_2 : decode cX6_counted 2 = .ok (.iload_n 1, 1) := by decide +kernel
theorem dX6_counted_3 : decode cX6_counted 3 = .ok (.tableswitch 262 0 11 #[61, 66, 73, 78, 85, 92, 99, 116, 121, 154, 186, 218], 61) := by decide +kernel
theorem dX6_counted_64 : decode cX6_counted 64 = .ok (.aload_n 0, 1) := by decide +kernel
theorem dX6_counted_65 : decode cX6_counted 65 = .ok (.getfield 142, 3) := by decide +kernel
theorem dX6_counted_68 : decode cX6_counted 68 = .ok (.ireturn, 1) := by decide +kernel
theorem dX6_counted_69 : decode cX6_counted 69 = .ok (.aload_n 0, 1) := by decide +kernel
theorem dX6_counted_70 : decode cX6_counted 70 = .ok (.getfield 57, 3) := by decide +kernel
theorem dX6_counted_73 : decode cX6_counted 73 = .ok (.iconst 0, 1) := by decide +kernel
theorem dX6_counted_74 : decode cX6_counted 74 = .ok (.iaload, 1) := by decide +kernel
theorem dX6_counted_75 : decode cX6_counted 75 = .ok (.ireturn, 1) := by decide +kernel
theorem dX6_counted_76 : decode cX6_counted 76 = .ok (.aload_n 0, 1) := by decide +kernel
theorem dX6_counted_77 : decode cX6_counted 77 = .ok (.getfield 148, 3) := by decide +kernel
theorem dX6_counted_80 : decode cX6_counted 80 = .ok (.ireturn, 1) := by decide +kernel
theorem dX6_counted_81 : decode cX6_counted 81 = .ok (.aload_n 0, 1) := by decide +kernel
theorem dX6_counted_82 : decode cX6_counted 82 = .ok (.getfield 57, 3) := by decide +kernel
theorem dX6_counted_85 : decode cX6_counted 85 = .ok (.iconst 1, 1) := by decide +kernel
theorem dX6_counted_86 : decode cX6_counted 86 = .ok (.iaload, 1) := by decide +kernel
theorem dX6_counted_87 : decode cX6_counted 87 = .ok (.ireturn, 1) := by decide +kernel
theorem dX6_counted_88 : decode cX6_counted 88 = .ok (.aload_n 0, 1) := by decide +kernel
theorem dX6_counted_89 : decode cX6_counted 89 = .ok (.getfield 57, 3) := by decide +kernel
theorem dX6_counted_92 : decode cX6_counted 92 = .ok (.iconst 3, 1) := by decide +kernel
theorem dX6_counted_93 : decode cX6_counted 93 = .ok (.iaload, 1) := by decide +kernel
theorem dX6_counted_94 : decode cX6_counted 94 = .ok (.ireturn, 1) := by decide +kernel
theorem dX6_counted_95 : decode cX6_counted 95 = .ok (.aload_n 0, 1) := by decide +kernel
theorem dX6_counted_96 : decode cX6_counted 96 = .ok (.getfield 57, 3) := by decide +kernel
theorem dX6_counted_99 : decode cX6_counted 99 = .ok (.iconst 2, 1) := by decide +kernel
theorem dX6_counted_100 : decode cX6_counted 100 = .ok (.iaload, 1) := by decide +kernel
theorem dX6_counted_101 : decode cX6_counted 101 = .ok (.ireturn, 1) := by decide +kernel
theorem dX6_counted_102 : decode cX6_counted 102 = .ok (.aload_n 0, 1) := by decide +kernel
theorem dX6_counted_103 : decode cX6_counted 103 = .ok (.aload_n 0, 1) := by decide +kernel
theorem dX6_counted_104 : decode cX6_counted 104 = .ok (.getfield 57, 3) := by decide +kernel
theorem dX6_counted_107 : decode cX6_counted 107 = .ok (.invokevirtual 181, 3) := by decide +kernel
theorem dX6_counted_110 : decode cX6_counted 110 = .ok (.ifCond .eq 7, 3) := by decide +kernel
theorem dX6_counted_113 : decode cX6_counted 113 = .ok (.iconst 1, 1) := by decide +kernel
theorem dX6_counted_114 : decode cX6_counted 114 = .ok (.goto 4, 3) := by decide +kernel
theorem dX6_counted_117 : decode cX6_counted 117 = .ok (.iconst 0, 1) := by decide +kernel
theorem dX6_counted_118 : decode cX6_counted 118 = .ok (.ireturn, 1) := by decide +kernel
theorem dX6_counted_119 : decode cX6_counted 119 = .ok (.aload_n 0, 1) := by decide +kernel
theorem dX6_counted_120 : decode cX6_counted 120 = .ok (.getfield 145, 3) := by decide +kernel
theorem dX6_counted_123 : decode cX6_counted 123 = .ok (.ireturn, 1) := by decide +kernel
theorem dX6_counted_124 : decode cX6_counted 124 = .ok (.iconst 0, 1) := by decide +kernel
theorem dX6_counted_125 : decode cX6_counted 125 = .ok (.istore_n 3, 1) := by decide +kernel
theorem dX6_counted_126 : decode cX6_counted 126 = .ok (.iload_n 3, 1) := by decide +kernel
theorem dX6_counted_127 : decode cX6_counted 127 = .ok (.bipush 6, 2) := by decide +kernel
theorem dX6_counted_129 : decode cX6_counted 129 = .ok (.if_icmp .ge 26, 3) := by decide +kernel
theorem dX6_counted_132 : decode cX6_counted 132 = .ok (.iload_n 2, 1) := by decide +kernel
theorem dX6_counted_133 : decode cX6_counted 133 = .ok (.aload_n 0, 1) := by decide +kernel
theorem dX6_counted_134 : decode cX6_counted 134 = .ok (.getfield 17, 3) := by decide +kernel
theorem dX6_counted_137 : decode cX6_counted 137 = .ok (.iload_n 3, 1) := by decide +kernel
theorem dX6_counted_138 : decode cX6_counted 138 = .ok (.iaload, 1) := by decide +kernel
theorem dX6_counted_139 : decode cX6_counted 139 = .ok (.ifCond .lt 7, 3) := by decide +kernel
theorem dX6_counted_142 : decode cX6_counted 142 = .ok (.iconst 1, 1) := by decide +kernel
theorem dX6_counted_143 : decode cX6_counted 143 = .ok (.goto 4, 3) := by decide +kernel
theorem dX6_counted_146 : decode cX6_counted 146 = .ok (.iconst 0, 1) := by decide +kernel
theorem dX6_counted_147 : decode cX6_counted 147 = .ok (.iadd, 1) := by decide +kernel
theorem dX6_counted_148 : decode cX6_counted 148 = .ok (.istore_n 2, 1) := by decide +kernel
theorem dX6_counted_149 : decode cX6_counted 149 = .ok (.iinc 3 1, 3) := by decide +kernel
theorem dX6_counted_152 : decode cX6_counted 152 = .ok (.goto (-26), 3) := by decide +kernel
theorem dX6_counted_155 : decode cX6_counted 155 = .ok (.iload_n 2, 1) := by decide +kernel
theorem dX6_counted_156 : decode cX6_counted 156 = .ok (.ireturn, 1) := by decide +kernel
theorem dX6_counted_157 : decode cX6_counted 157 = .ok (.iconst 0, 1) := by decide +kernel
theorem dX6_counted_158 : decode cX6_counted 158 = .ok (.istore_n 3, 1) := by decide +kernel
theorem dX6_counted_159 : decode cX6_counted 159 = .ok (.iload_n 3, 1) := by decide +kernel
theorem dX6_counted_160 : decode cX6_counted 160 = .ok (.iconst 4, 1) := by decide +kernel
theorem dX6_counted_161 : decode cX6_counted 161 = .ok (.if_icmp .ge 26, 3) := by decide +kernel
theorem dX6_counted_164 : decode cX6_counted 164 = .ok (.iload_n 2, 1) := by decide +kernel
theorem dX6_counted_165 : decode cX6_counted 165 = .ok (.aload_n 0, 1) := by decide +kernel
theorem dX6_counted_166 : decode cX6_counted 166 = .ok (.getfield 26, 3) := by decide +kernel
theorem dX6_counted_169 : decode cX6_counted 169 = .ok (.iload_n 3, 1) := by decide +kernel
theorem dX6_counted_170 : decode cX6_counted 170 = .ok (.iaload, 1) := by decide +kernel
theorem dX6_counted_171 : decode cX6_counted 171 = .ok (.ifCond .lt 7, 3) := by decide +kernel
theorem dX6_counted_174 : decode cX6_counted 174 = .ok (.iconst 1, 1) := by decide +kernel
theorem dX6_counted_175 : decode cX6_counted 175 = .ok (.goto 4, 3) := by decide +kernel
theorem dX6_counted_178 : decode cX6_counted 178 = .ok (.iconst 0, 1) := by decide +kernel
theorem dX6_counted_179 : decode cX6_counted 179 = .ok (.iadd, 1) := by decide +kernel
theorem dX6_counted_180 : decode cX6_counted 180 = .ok (.istore_n 2, 1) := by decide +kernel
theorem dX6_counted_181 : decode cX6_counted 181 = .ok (.iinc 3 1, 3) := by decide +kernel
theorem dX6_counted_184 : decode cX6_counted 184 = .ok (.goto (-25), 3) := by decide +kernel
theorem dX6_counted_187 : decode cX6_counted 187 = .ok (.iload_n 2, 1) := by decide +kernel
theorem dX6_counted_188 : decode cX6_counted 188 = .ok (.ireturn, 1) := by decide +kernel
theorem dX6_counted_189 : decode cX6_counted 189 = .ok (.iconst 0, 1) := by decide +kernel
theorem dX6_counted_190 : decode cX6_counted 190 = .ok (.istore_n 3, 1) := by decide +kernel
theorem dX6_counted_191 : decode cX6_counted 191 = .ok (.iload_n 3, 1) := by decide +kernel
theorem dX6_counted_192 : decode cX6_counted 192 = .ok (.iconst 3, 1) := by decide +kernel
theorem dX6_counted_193 : decode cX6_counted 193 = .ok (.if_icmp .ge 26, 3) := by decide +kernel
theorem dX6_counted_196 : decode cX6_counted 196 = .ok (.iload_n 2, 1) := by decide +kernel
theorem dX6_counted_197 : decode cX6_counted 197 = .ok (.aload_n 0, 1) := by decide +kernel
theorem dX6_counted_198 : decode cX6_counted 198 = .ok (.getfield 66, 3) := by decide +kernel
theorem dX6_counted_201 : decode cX6_counted 201 = .ok (.iload_n 3, 1) := by decide +kernel
theorem dX6_counted_202 : decode cX6_counted 202 = .ok (.iaload, 1) := by decide +kernel
theorem dX6_counted_203 : decode cX6_counted 203 = .ok (.ifCond .lt 7, 3) := by decide +kernel
theorem dX6_counted_206 : decode cX6_counted 206 = .ok (.iconst 1, 1) := by decide +kernel
theorem dX6_counted_207 : decode cX6_counted 207 = .ok (.goto 4, 3) := by decide +kernel
theorem dX6_counted_210 : decode cX6_counted 210 = .ok (.iconst 0, 1) := by decide +kernel
theorem dX6_counted_211 : decode cX6_counted 211 = .ok (.iadd, 1) := by decide +kernel
theorem dX6_counted_212 : decode cX6_counted 212 = .ok (.istore_n 2, 1) := by decide +kernel
theorem dX6_counted_213 : decode cX6_counted 213 = .ok (.iinc 3 1, 3) := by decide +kernel
theorem dX6_counted_216 : decode cX6_counted 216 = .ok (.goto (-25), 3) := by decide +kernel
theorem dX6_counted_219 : decode cX6_counted 219 = .ok (.iload_n 2, 1) := by decide +kernel
theorem dX6_counted_220 : decode cX6_counted 220 = .ok (.ireturn, 1) := by decide +kernel
theorem dX6_counted_221 : decode cX6_counted 221 = .ok (.iconst 0, 1) := by decide +kernel
theorem dX6_counted_222 : decode cX6_counted 222 = .ok (.istore_n 3, 1) := by decide +kernel
theorem dX6_counted_223 : decode cX6_counted 223 = .ok (.iload_n 3, 1) := by decide +kernel
theorem dX6_counted_224 : decode cX6_counted 224 = .ok (.aload_n 0, 1) := by decide +kernel
theorem dX6_counted_225 : decode cX6_counted 225 = .ok (.getfield 142, 3) := by decide +kernel
theorem dX6_counted_228 : decode cX6_counted 228 = .ok (.if_icmp .ge 35, 3) := by decide +kernel
theorem dX6_counted_231 : decode cX6_counted 231 = .ok (.iload_n 2, 1) := by decide +kernel
theorem dX6_counted_232 : decode cX6_counted 232 = .ok (.aload_n 0, 1) := by decide +kernel
theorem dX6_counted_233 : decode cX6_counted 233 = .ok (.getfield 57, 3) := by decide +kernel
theorem dX6_counted_236 : decode cX6_counted 236 = .ok (.iconst 3, 1) := by decide +kernel
theorem dX6_counted_237 : decode cX6_counted 237 = .ok (.iaload, 1) := by decide +kernel
theorem dX6_counted_238 : decode cX6_counted 238 = .ok (.iload_n 3, 1) := by decide +kernel
theorem dX6_counted_239 : decode cX6_counted 239 = .ok (.invokestatic 158, 3) := by decide +kernel
theorem dX6_counted_242 : decode cX6_counted 242 = .ok (.ifCond .eq 12, 3) := by decide +kernel
theorem dX6_counted_245 : decode cX6_counted 245 = .ok (.aload_n 0, 1) := by decide +kernel
theorem dX6_counted_246 : decode cX6_counted 246 = .ok (.getfield 51, 3) := by decide +kernel
theorem dX6_counted_249 : decode cX6_counted 249 = .ok (.iload_n 3, 1) := by decide +kernel
theorem dX6_counted_250 : decode cX6_counted 250 = .ok (.iaload, 1) := by decide +kernel
theorem dX6_counted_251 : decode cX6_counted 251 = .ok (.goto 4, 3) := by decide +kernel
theorem dX6_counted_254 : decode cX6_counted 254 = .ok (.iconst 0, 1) := by decide +kernel
theorem dX6_counted_255 : decode cX6_counted 255 = .ok (.iadd, 1) := by decide +kernel
theorem dX6_counted_256 : decode cX6_counted 256 = .ok (.istore_n 2, 1) := by decide +kernel
theorem dX6_counted_257 : decode cX6_counted 257 = .ok (.iinc 3 1, 3) := by decide +kernel
theorem dX6_counted_260 : decode cX6_counted 260 = .ok (.goto (-37), 3) := by decide +kernel
theorem dX6_counted_263 : decode cX6_counted 263 = .ok (.iload_n 2, 1) := by decide +kernel
theorem dX6_counted_264 : decode cX6_counted 264 = .ok (.ireturn, 1) := by decide +kernel
theorem dX6_counted_265 : decode cX6_counted 265 = .ok (.iconst 0, 1) := by decide +kernel
theorem dX6_counted_266 : decode cX6_counted 266 = .ok (.istore_n 3, 1) := by decide +kernel
theorem dX6_counted_267 : decode cX6_counted 267 = .ok (.iload_n 3, 1) := by decide +kernel
theorem dX6_counted_268 : decode cX6_counted 268 = .ok (.aload_n 0, 1) := by decide +kernel
theorem dX6_counted_269 : decode cX6_counted 269 = .ok (.getfield 142, 3) := by decide +kernel
theorem dX6_counted_272 : decode cX6_counted 272 = .ok (.if_icmp .ge 30, 3) := by decide +kernel
theorem dX6_counted_275 : decode cX6_counted 275 = .ok (.iload_n 2, 1) := by decide +kernel
theorem dX6_counted_276 : decode cX6_counted 276 = .ok (.aload_n 0, 1) := by decide +kernel
theorem dX6_counted_277 : decode cX6_counted 277 = .ok (.getfield 48, 3) := by decide +kernel
theorem dX6_counted_280 : decode cX6_counted 280 = .ok (.iload_n 3, 1) := by decide +kernel
theorem dX6_counted_281 : decode cX6_counted 281 = .ok (.iaload, 1) := by decide +kernel
theorem dX6_counted_282 : decode cX6_counted 282 = .ok (.iconst 4, 1) := by decide +kernel
theorem dX6_counted_283 : decode cX6_counted 283 = .ok (.invokestatic 175, 3) := by decide +kernel
theorem dX6_counted_286 : decode cX6_counted 286 = .ok (.ifCond .eq 7, 3) := by decide +kernel
theorem dX6_counted_289 : decode cX6_counted 289 = .ok (.iconst 1, 1) := by decide +kernel
theorem dX6_counted_290 : decode cX6_counted 290 = .ok (.goto 4, 3) := by decide +kernel
theorem dX6_counted_293 : decode cX6_counted 293 = .ok (.iconst 0, 1) := by decide +kernel
theorem dX6_counted_294 : decode cX6_counted 294 = .ok (.iadd, 1) := by decide +kernel
theorem dX6_counted_295 : decode cX6_counted 295 = .ok (.istore_n 2, 1) := by decide +kernel
theorem dX6_counted_296 : decode cX6_counted 296 = .ok (.iinc 3 1, 3) := by decide +kernel
theorem dX6_counted_299 : decode cX6_counted 299 = .ok (.goto (-32), 3) := by decide +kernel
theorem dX6_counted_302 : decode cX6_counted 302 = .ok (.iload_n 2, 1) := by decide +kernel
theorem dX6_counted_303 : decode cX6_counted 303 = .ok (.ireturn, 1) := by decide +kernel
theorem dX6_count_0 : decode cX6_count 0 = .ok (.iload_n 1, 1) := by decide +kernel
theorem dX6_count_1 : decode cX6_count 1 = .ok (.iconst 0, 1) := by decide +kernel
theorem dX6_count_2 : decode cX6_count 2 = .ok (.bipush 12, 2) := by decide +kernel
theorem dX6_count_4 : decode cX6_count 4 = .ok (.invokestatic 89, 3) := by decide +kernel
theorem dX6_count_7 : decode cX6_count 7 = .ok (.ifCond .eq 11, 3) := by decide +kernel
theorem dX6_count_10 : decode cX6_count 10 = .ok (.aload_n 0, 1) := by decide +kernel
theorem dX6_count_11 : decode cX6_count 11 = .ok (.iload_n 1, 1) := by decide +kernel
theorem dX6_count_12 : decode cX6_count 12 = .ok (.invokevirtual 263, 3) := by decide +kernel
theorem dX6_count_15 : decode cX6_count 15 = .ok (.goto 4, 3) := by decide +kernel
theorem dX6_count_18 : decode cX6_count 18 = .ok (.iconst (-1), 1) := by decide +kernel
theorem dX6_count_19 : decode cX6_count 19 = .ok (.ireturn, 1) := by decide +kernel
theorem dX6_adds_0 : decode cX6_adds 0 = .ok (.aload_n 0, 1) := by decide +kernel
theorem dX6_adds_1 : decode cX6_adds 1 = .ok (.ldc2_w 266, 3) := by decide +kernel
theorem dX6_adds_4 : decode cX6_adds 4 = .ok (.aload_n 0, 1) := by decide +kernel
theorem dX6_adds_5 : decode cX6_adds 5 = .ok (.getfield 268, 3) := by decide +kernel
theorem dX6_adds_8 : decode cX6_adds 8 = .ok (.lmul, 1) := by decide +kernel
theorem dX6_adds_9 : decode cX6_adds 9 = .ok (.lload_n 1, 1) := by decide +kernel
theorem dX6_adds_10 : decode cX6_adds 10 = .ok (.ladd, 1) := by decide +kernel
theorem dX6_adds_11 : decode cX6_adds 11 = .ok (.putfield 268, 3) := by decide +kernel
theorem dX6_adds_14 : decode cX6_adds 14 = .ok (.return_, 1) := by decide +kernel
theorem dX6_digest_0 : decode cX6_digest 0 = .ok (.aload_n 0, 1) := by decide +kernel
theorem dX6_digest_1 : decode cX6_digest 1 = .ok (.ldc2_w 271, 3) := by decide +kernel
theorem dX6_digest_4 : decode cX6_digest 4 = .ok (.putfield 268, 3) := by decide +kernel
theorem dX6_digest_7 : decode cX6_digest 7 = .ok (.iconst 0, 1) := by decide +kernel
theorem dX6_digest_8 : decode cX6_digest 8 = .ok (.istore_n 1, 1) := by decide +kernel
theorem dX6_digest_9 : decode cX6_digest 9 = .ok (.iload_n 1, 1) := by decide +kernel
theorem dX6_digest_10 : decode cX6_digest 10 = .ok (.bipush 12, 2) := by decide +kernel
theorem dX6_digest_12 : decode cX6_digest 12 = .ok (.if_icmp .gt 19, 3) := by decide +kernel
theorem dX6_digest_15 : decode cX6_digest 15 = .ok (.aload_n 0, 1) := by decide +kernel
theorem dX6_digest_16 : decode cX6_digest 16 = .ok (.aload_n 0, 1) := by decide +kernel
theorem dX6_digest_17 : decode cX6_digest 17 = .ok (.iload_n 1, 1) := by decide +kernel
theorem dX6_digest_18 : decode cX6_digest 18 = .ok (.invokevirtual 263, 3) := by decide +kernel
theorem dX6_digest_21 : decode cX6_digest 21 = .ok (.i2l, 1) := by decide +kernel
theorem dX6_digest_22 : decode cX6_digest 22 = .ok (.invokevirtual 273, 3) := by decide +kernel
theorem dX6_digest_25 : decode cX6_digest 25 = .ok (.iinc 1 1, 3) := by decide +kernel
theorem dX6_digest_28 : decode cX6_digest 28 = .ok (.goto (-19), 3) := by decide +kernel
theorem dX6_digest_31 : decode cX6_digest 31 = .ok (.iconst 0, 1) := by decide +kernel
theorem dX6_digest_32 : decode cX6_digest 32 = .ok (.istore_n 1, 1) := by decide +kernel
theorem dX6_digest_33 : decode cX6_digest 33 = .ok (.iload_n 1, 1) := by decide +kernel
theorem dX6_digest_34 : decode cX6_digest 34 = .ok (.bipush 8, 2) := by decide +kernel
theorem dX6_digest_36 : decode cX6_digest 36 = .ok (.if_icmp .ge 20, 3) := by decide +kernel
theorem dX6_digest_39 : decode cX6_digest 39 = .ok (.aload_n 0, 1) := by decide +kernel
theorem dX6_digest_40 : decode cX6_digest 40 = .ok (.aload_n 0, 1) := by decide +kernel
theorem dX6_digest_41 : decode cX6_digest 41 = .ok (.getfield 45, 3) := by decide +kernel
theorem dX6_digest_44 : decode cX6_digest 44 = .ok (.iload_n 1, 1) := by decide +kernel
theorem dX6_digest_45 : decode cX6_digest 45 = .ok (.iaload, 1) := by decide +kernel
theorem dX6_digest_46 : decode cX6_digest 46 = .ok (.i2l, 1) := by decide +kernel
theorem dX6_digest_47 : decode cX6_digest 47 = .ok (.invokevirtual 273, 3) := by decide +kernel
theorem dX6_digest_50 : decode cX6_digest 50 = .ok (.iinc 1 1, 3) := by decide +kernel
theorem dX6_digest_53 : decode cX6_digest 53 = .ok (.goto (-20), 3) := by decide +kernel
theorem dX6_digest_56 : decode cX6_digest 56 = .ok (.iconst 0, 1) := by decide +kernel
theorem dX6_digest_57 : decode cX6_digest 57 = .ok (.istore_n 1, 1) := by decide +kernel
theorem dX6_digest_58 : decode cX6_digest 58 = .ok (.iload_n 1, 1) := by decide +kernel
theorem dX6_digest_59 : decode cX6_digest 59 = .ok (.aload_n 0, 1) := by decide +kernel
theorem dX6_digest_60 : decode cX6_digest 60 = .ok (.getfield 142, 3) := by decide +kernel
theorem dX6_digest_63 : decode cX6_digest 63 = .ok (.if_icmp .ge 34, 3) := by decide +kernel
theorem dX6_digest_66 : decode cX6_digest 66 = .ok (.iconst 0, 1) := by decide +kernel
theorem dX6_digest_67 : decode cX6_digest 67 = .ok (.istore_n 2, 1) := by decide +kernel
theorem dX6_digest_68 : decode cX6_digest 68 = .ok (.iload_n 2, 1) := by decide +kernel
theorem dX6_digest_69 : decode cX6_digest 69 = .ok (.bipush 6, 2) := by decide +kernel
theorem dX6_digest_71 : decode cX6_digest 71 = .ok (.if_icmp .ge 20, 3) := by decide +kernel
theorem dX6_digest_74 : decode cX6_digest 74 = .ok (.aload_n 0, 1) := by decide +kernel
theorem dX6_digest_75 : decode cX6_digest 75 = .ok (.aload_n 0, 1) := by decide +kernel
theorem dX6_digest_76 : decode cX6_digest 76 = .ok (.iload_n 1, 1) := by decide +kernel
theorem dX6_digest_77 : decode cX6_digest 77 = .ok (.iload_n 2, 1) := by decide +kernel
theorem dX6_digest_78 : decode cX6_digest 78 = .ok (.invokevirtual 172, 3) := by decide +kernel
theorem dX6_digest_81 : decode cX6_digest 81 = .ok (.i2l, 1) := by decide +kernel
theorem dX6_digest_82 : decode cX6_digest 82 = .ok (.invokevirtual 273, 3) := by decide +kernel
theorem dX6_digest_85 : decode cX6_digest 85 = .ok (.iinc 2 1, 3) := by decide +kernel
theorem dX6_digest_88 : decode cX6_digest 88 = .ok (.goto (-20), 3) := by decide +kernel
theorem dX6_digest_91 : decode cX6_digest 91 = .ok (.iinc 1 1, 3) := by decide +kernel
theorem dX6_digest_94 : decode cX6_digest 94 = .ok (.goto (-36), 3) := by decide +kernel
theorem dX6_digest_97 : decode cX6_digest 97 = .ok (.iconst 0, 1) := by decide +kernel
theorem dX6_digest_98 : decode cX6_digest 98 = .ok (.istore_n 1, 1) := by decide +kernel
theorem dX6_digest_99 : decode cX6_digest 99 = .ok (.iload_n 1, 1) := by decide +kernel
theorem dX6_digest_100 : decode cX6_digest 100 = .ok (.iconst 3, 1) := by decide +kernel
theorem dX6_digest_101 : decode cX6_digest 101 = .ok (.if_icmp .ge 20, 3) := by decide +kernel
theorem dX6_digest_104 : decode cX6_digest 104 = .ok (.aload_n 0, 1) := by decide +kernel
theorem dX6_digest_105 : decode cX6_digest 105 = .ok (.aload_n 0, 1) := by decide +kernel
theorem dX6_digest_106 : decode cX6_digest 106 = .ok (.getfield 66, 3) := by decide +kernel
theorem dX6_digest_109 : decode cX6_digest 109 = .ok (.iload_n 1, 1) := by decide +kernel
theorem dX6_digest_110 : decode cX6_digest 110 = .ok (.iaload, 1) := by decide +kernel
theorem dX6_digest_111 : decode cX6_digest 111 = .ok (.i2l, 1) := by decide +kernel
theorem dX6_digest_112 : decode cX6_digest 112 = .ok (.invokevirtual 273, 3) := by decide +kernel
theorem dX6_digest_115 : decode cX6_digest 115 = .ok (.iinc 1 1, 3) := by decide +kernel
theorem dX6_digest_118 : decode cX6_digest 118 = .ok (.goto (-19), 3) := by decide +kernel
theorem dX6_digest_121 : decode cX6_digest 121 = .ok (.iconst 0, 1) := by decide +kernel
theorem dX6_digest_122 : decode cX6_digest 122 = .ok (.istore_n 1, 1) := by decide +kernel
theorem dX6_digest_123 : decode cX6_digest 123 = .ok (.iload_n 1, 1) := by decide +kernel
theorem dX6_digest_124 : decode cX6_digest 124 = .ok (.bipush 6, 2) := by decide +kernel
theorem dX6_digest_126 : decode cX6_digest 126 = .ok (.if_icmp .ge 49, 3) := by decide +kernel
theorem dX6_digest_129 : decode cX6_digest 129 = .ok (.aload_n 0, 1) := by decide +kernel
theorem dX6_digest_130 : decode cX6_digest 130 = .ok (.aload_n 0, 1) := by decide +kernel
theorem dX6_digest_131 : decode cX6_digest 131 = .ok (.getfield 17, 3) := by decide +kernel
theorem dX6_digest_134 : decode cX6_digest 134 = .ok (.iload_n 1, 1) := by decide +kernel
theorem dX6_digest_135 : decode cX6_digest 135 = .ok (.iaload, 1) := by decide +kernel
theorem dX6_digest_136 : decode cX6_digest 136 = .ok (.i2l, 1) := by decide +kernel
theorem dX6_digest_137 : decode cX6_digest 137 = .ok (.invokevirtual 273, 3) := by decide +kernel
theorem dX6_digest_140 : decode cX6_digest 140 = .ok (.iconst 0, 1) := by decide +kernel
theorem dX6_digest_141 : decode cX6_digest 141 = .ok (.istore_n 2, 1) := by decide +kernel
theorem dX6_digest_142 : decode cX6_digest 142 = .ok (.iload_n 2, 1) := by decide +kernel
theorem dX6_digest_143 : decode cX6_digest 143 = .ok (.aload_n 0, 1) := by decide +kernel
theorem dX6_digest_144 : decode cX6_digest 144 = .ok (.getfield 17, 3) := by decide +kernel
theorem dX6_digest_147 : decode cX6_digest 147 = .ok (.iload_n 1, 1) := by decide +kernel
theorem dX6_digest_148 : decode cX6_digest 148 = .ok (.iaload, 1) := by decide +kernel
theorem dX6_digest_149 : decode cX6_digest 149 = .ok (.if_icmp .ge 20, 3) := by decide +kernel
theorem dX6_digest_152 : decode cX6_digest 152 = .ok (.aload_n 0, 1) := by decide +kernel
theorem dX6_digest_153 : decode cX6_digest 153 = .ok (.aload_n 0, 1) := by decide +kernel
theorem dX6_digest_154 : decode cX6_digest 154 = .ok (.iload_n 1, 1) := by decide +kernel
theorem dX6_digest_155 : decode cX6_digest 155 = .ok (.iload_n 2, 1) := by decide +kernel
theorem dX6_digest_156 : decode cX6_digest 156 = .ok (.invokevirtual 101, 3) := by decide +kernel
theorem dX6_digest_159 : decode cX6_digest 159 = .ok (.i2l, 1) := by decide +kernel
theorem dX6_digest_160 : decode cX6_digest 160 = .ok (.invokevirtual 273, 3) := by decide +kernel
theorem dX6_digest_163 : decode cX6_digest 163 = .ok (.iinc 2 1, 3) := by decide +kernel
theorem dX6_digest_166 : decode cX6_digest 166 = .ok (.goto (-24), 3) := by decide +kernel
theorem dX6_digest_169 : decode cX6_digest 169 = .ok (.iinc 1 1, 3) := by decide +kernel
theorem dX6_digest_172 : decode cX6_digest 172 = .ok (.goto (-49), 3) := by decide +kernel
theorem dX6_digest_175 : decode cX6_digest 175 = .ok (.iconst 0, 1) := by decide +kernel
theorem dX6_digest_176 : decode cX6_digest 176 = .ok (.istore_n 1, 1) := by decide +kernel
theorem dX6_digest_177 : decode cX6_digest 177 = .ok (.iload_n 1, 1) := by decide +kernel
theorem dX6_digest_178 : decode cX6_digest 178 = .ok (.iconst 4, 1) := by decide +kernel
theorem dX6_digest_179 : decode cX6_digest 179 = .ok (.if_icmp .ge 54, 3) := by decide +kernel
theorem dX6_digest_182 : decode cX6_digest 182 = .ok (.aload_n 0, 1) := by decide +kernel
theorem dX6_digest_183 : decode cX6_digest 183 = .ok (.aload_n 0, 1) := by decide +kernel
theorem dX6_digest_184 : decode cX6_digest 184 = .ok (.getfield 26, 3) := by decide +kernel
theorem dX6_digest_187 : decode cX6_digest 187 = .ok (.iload_n 1, 1) := by decide +kernel
theorem dX6_digest_188 : decode cX6_digest 188 = .ok (.iaload, 1) := by decide +kernel
theorem dX6_digest_189 : decode cX6_digest 189 = .ok (.i2l, 1) := by decide +kernel
theorem dX6_digest_190 : decode cX6_digest 190 = .ok (.invokevirtual 273, 3) := by decide +kernel
theorem dX6_digest_193 : decode cX6_digest 193 = .ok (.iconst 0, 1) := by decide +kernel
theorem dX6_digest_194 : decode cX6_digest 194 = .ok (.istore_n 2, 1) := by decide +kernel
theorem dX6_digest_195 : decode cX6_digest 195 = .ok (.iload_n 2, 1) := by decide +kernel
theorem dX6_digest_196 : decode cX6_digest 196 = .ok (.aload_n 0, 1) := by decide +kernel
theorem dX6_digest_197 : decode cX6_digest 197 = .ok (.getfield 26, 3) := by decide +kernel
theorem dX6_digest_200 : decode cX6_digest 200 = .ok (.iload_n 1, 1) := by decide +kernel
theorem dX6_digest_201 : decode cX6_digest 201 = .ok (.iaload, 1) := by decide +kernel
theorem dX6_digest_202 : decode cX6_digest 202 = .ok (.if_icmp .ge 25, 3) := by decide +kernel
theorem dX6_digest_205 : decode cX6_digest 205 = .ok (.aload_n 0, 1) := by decide +kernel
theorem dX6_digest_206 : decode cX6_digest 206 = .ok (.aload_n 0, 1) := by decide +kernel
theorem dX6_digest_207 : decode cX6_digest 207 = .ok (.getfield 29, 3) := by decide +kernel
theorem dX6_digest_210 : decode cX6_digest 210 = .ok (.bipush 60, 2) := by decide +kernel
theorem dX6_digest_212 : decode cX6_digest 212 = .ok (.iload_n 1, 1) := by decide +kernel
theorem dX6_digest_213 : decode cX6_digest 213 = .ok (.imul, 1) := by decide +kernel
theorem dX6_digest_214 : decode cX6_digest 214 = .ok (.iload_n 2, 1) := by decide +kernel
theorem dX6_digest_215 : decode cX6_digest 215 = .ok (.iadd, 1) := by decide +kernel
theorem dX6_digest_216 : decode cX6_digest 216 = .ok (.baload, 1) := by decide +kernel
theorem dX6_digest_217 : decode cX6_digest 217 = .ok (.i2l, 1) := by decide +kernel
theorem dX6_digest_218 : decode cX6_digest 218 = .ok (.invokevirtual 273, 3) := by decide +kernel
theorem dX6_digest_221 : decode cX6_digest 221 = .ok (.iinc 2 1, 3) := by decide +kernel
theorem dX6_digest_224 : decode cX6_digest 224 = .ok (.goto (-29), 3) := by decide +kernel
theorem dX6_digest_227 : decode cX6_digest 227 = .ok (.iinc 1 1, 3) := by decide +kernel
theorem dX6_digest_230 : decode cX6_digest 230 = .ok (.goto (-53), 3) := by decide +kernel
theorem dX6_digest_233 : decode cX6_digest 233 = .ok (.aload_n 0, 1) := by decide +kernel
theorem dX6_digest_234 : decode cX6_digest 234 = .ok (.getfield 268, 3) := by decide +kernel
theorem dX6_digest_237 : decode cX6_digest 237 = .ok (.lreturn, 1) := by decide +kernel
