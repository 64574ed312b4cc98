theorem dX8_keepsWay_47 : decode cX8_keepsWay 47 = .ok (.lastore, 1) := by decide +kernel
theorem dX8_keepsWay_48 : decode cX8_keepsWay 48 = .ok (.aload_n 0, 1) := by decide +kernel
theorem dX8_keepsWay_49 : decode cX8_keepsWay 49 = .ok (.dup, 1) := by decide +kernel
theorem dX8_keepsWay_50 : decode cX8_keepsWay 50 = .ok (.getfield 217, 3) := by decide +kernel
theorem dX8_keepsWay_53 : decode cX8_keepsWay 53 = .ok (.iconst 1, 1) := by decide +kernel
theorem dX8_keepsWay_54 : decode cX8_keepsWay 54 = .ok (.iadd, 1) := by decide +kernel
theorem dX8_keepsWay_55 : decode cX8_keepsWay 55 = .ok (.putfield 217, 3) := by decide +kernel
theorem dX8_keepsWay_58 : decode cX8_keepsWay 58 = .ok (.return_, 1) := by decide +kernel
theorem dX8_soonOf_0 : decode cX8_soonOf 0 = .ok (.aload_n 0, 1) := by decide +kernel
theorem dX8_soonOf_1 : decode cX8_soonOf 1 = .ok (.iload_n 1, 1) := by decide +kernel
theorem dX8_soonOf_2 : decode cX8_soonOf 2 = .ok (.invokevirtual 200, 3) := by decide +kernel
theorem dX8_soonOf_5 : decode cX8_soonOf 5 = .ok (.pop, 1) := by decide +kernel
theorem dX8_soonOf_6 : decode cX8_soonOf 6 = .ok (.aload_n 0, 1) := by decide +kernel
theorem dX8_soonOf_7 : decode cX8_soonOf 7 = .ok (.getfield 40, 3) := by decide +kernel
theorem dX8_soonOf_10 : decode cX8_soonOf 10 = .ok (.iconst 0, 1) := by decide +kernel
theorem dX8_soonOf_11 : decode cX8_soonOf 11 = .ok (.iaload, 1) := by decide +kernel
theorem dX8_soonOf_12 : decode cX8_soonOf 12 = .ok (.iload_n 2, 1) := by decide +kernel
theorem dX8_soonOf_13 : decode cX8_soonOf 13 = .ok (.if_icmp .ne 15, 3) := by decide +kernel
theorem dX8_soonOf_16 : decode cX8_soonOf 16 = .ok (.aload_n 0, 1) := by decide +kernel
theorem dX8_soonOf_17 : decode cX8_soonOf 17 = .ok (.getfield 40, 3) := by decide +kernel
theorem dX8_soonOf_20 : decode cX8_soonOf 20 = .ok (.iconst 1, 1) := by decide +kernel
theorem dX8_soonOf_21 : decode cX8_soonOf 21 = .ok (.iaload, 1) := by decide +kernel
theorem dX8_soonOf_22 : decode cX8_soonOf 22 = .ok (.iload_n 3, 1) := by decide +kernel
theorem dX8_soonOf_23 : decode cX8_soonOf 23 = .ok (.if_icmp .ne 5, 3) := by decide +kernel
theorem dX8_soonOf_26 : decode cX8_soonOf 26 = .ok (.iconst 0, 1) := by decide +kernel
theorem dX8_soonOf_27 : decode cX8_soonOf 27 = .ok (.ireturn, 1) := by decide +kernel
theorem dX8_soonOf_28 : decode cX8_soonOf 28 = .ok (.aload_n 0, 1) := by decide +kernel
theorem dX8_soonOf_29 : decode cX8_soonOf 29 = .ok (.iconst 0, 1) := by decide +kernel
theorem dX8_soonOf_30 : decode cX8_soonOf 30 = .ok (.putfield 217, 3) := by decide +kernel
theorem dX8_soonOf_33 : decode cX8_soonOf 33 = .ok (.aload_n 0, 1) := by decide +kernel
theorem dX8_soonOf_34 : decode cX8_soonOf 34 = .ok (.aload_n 0, 1) := by decide +kernel
theorem dX8_soonOf_35 : decode cX8_soonOf 35 = .ok (.invokevirtual 220, 3) := by decide +kernel
theorem dX8_soonOf_38 : decode cX8_soonOf 38 = .ok (.invokevirtual 224, 3) := by decide +kernel
theorem dX8_soonOf_41 : decode cX8_soonOf 41 = .ok (.iconst 0, 1) := by decide +kernel
theorem dX8_soonOf_42 : decode cX8_soonOf 42 = .ok (.istore 4, 2) := by decide +kernel
theorem dX8_soonOf_44 : decode cX8_soonOf 44 = .ok (.iconst 0, 1) := by decide +kernel
theorem dX8_soonOf_45 : decode cX8_soonOf 45 = .ok (.istore 5, 2) := by decide +kernel
theorem dX8_soonOf_47 : decode cX8_soonOf 47 = .ok (.iload 4, 2) := by decide +kernel
theorem dX8_soonOf_49 : decode cX8_soonOf 49 = .ok (.aload_n 0, 1) := by decide +kernel
theorem dX8_soonOf_50 : decode cX8_soonOf 50 = .ok (.getfield 217, 3) := by decide +kernel
theorem dX8_soonOf_53 : decode cX8_soonOf 53 = .ok (.if_icmp .ge 212, 3) := by decide +kernel
theorem dX8_soonOf_56 : decode cX8_soonOf 56 = .ok (.aload_n 0, 1) := by decide +kernel
theorem dX8_soonOf_57 : decode cX8_soonOf 57 = .ok (.getfield 217, 3) := by decide +kernel
theorem dX8_soonOf_60 : decode cX8_soonOf 60 = .ok (.istore 6, 2) := by decide +kernel
theorem dX8_soonOf_62 : decode cX8_soonOf 62 = .ok (.iconst 0, 1) := by decide +kernel
theorem dX8_soonOf_63 : decode cX8_soonOf 63 = .ok (.istore 7, 2) := by decide +kernel
theorem dX8_soonOf_65 : decode cX8_soonOf 65 = .ok (.iinc 5 1, 3) := by decide +kernel
theorem dX8_soonOf_68 : decode cX8_soonOf 68 = .ok (.iload 4, 2) := by decide +kernel
theorem dX8_soonOf_70 : decode cX8_soonOf 70 = .ok (.istore 8, 2) := by decide +kernel
theorem dX8_soonOf_72 : decode cX8_soonOf 72 = .ok (.iload 8, 2) := by decide +kernel
theorem dX8_soonOf_74 : decode cX8_soonOf 74 = .ok (.iload 6, 2) := by decide +kernel
theorem dX8_soonOf_76 : decode cX8_soonOf 76 = .ok (.if_icmp .ge 161, 3) := by decide +kernel
theorem dX8_soonOf_79 : decode cX8_soonOf 79 = .ok (.aload_n 0, 1) := by decide +kernel
theorem dX8_soonOf_80 : decode cX8_soonOf 80 = .ok (.getfield 52, 3) := by decide +kernel
theorem dX8_soonOf_83 : decode cX8_soonOf 83 = .ok (.iload 8, 2) := by decide +kernel
theorem dX8_soonOf_85 : decode cX8_soonOf 85 = .ok (.laload, 1) := by decide +kernel
theorem dX8_soonOf_86 : decode cX8_soonOf 86 = .ok (.lstore 9, 2) := by decide +kernel
theorem dX8_soonOf_88 : decode cX8_soonOf 88 = .ok (.iconst 0, 1) := by decide +kernel
theorem dX8_soonOf_89 : decode cX8_soonOf 89 = .ok (.istore 11, 2) := by decide +kernel
theorem dX8_soonOf_91 : decode cX8_soonOf 91 = .ok (.iload 11, 2) := by decide +kernel
theorem dX8_soonOf_93 : decode cX8_soonOf 93 = .ok (.bipush 16, 2) := by decide +kernel
theorem dX8_soonOf_95 : decode cX8_soonOf 95 = .ok (.if_icmp .ge 136, 3) := by decide +kernel
theorem dX8_soonOf_98 : decode cX8_soonOf 98 = .ok (.aload_n 0, 1) := by decide +kernel
theorem dX8_soonOf_99 : decode cX8_soonOf 99 = .ok (.lload 9, 2) := by decide +kernel
theorem dX8_soonOf_101 : decode cX8_soonOf 101 = .ok (.invokevirtual 228, 3) := by decide +kernel
theorem dX8_soonOf_104 : decode cX8_soonOf 104 = .ok (.iload 11, 2) := by decide +kernel
theorem dX8_soonOf_106 : decode cX8_soonOf 106 = .ok (.bipush 8, 2) := by decide +kernel
theorem dX8_soonOf_108 : decode cX8_soonOf 108 = .ok (.idiv, 1) := by decide +kernel
theorem dX8_soonOf_109 : decode cX8_soonOf 109 = .ok (.istore 12, 2) := by decide +kernel
theorem dX8_soonOf_111 : decode cX8_soonOf 111 = .ok (.iload 11, 2) := by decide +kernel
theorem dX8_soonOf_113 : decode cX8_soonOf 113 = .ok (.bipush 8, 2) := by decide +kernel
theorem dX8_soonOf_115 : decode cX8_soonOf 115 = .ok (.irem, 1) := by decide +kernel
theorem dX8_soonOf_116 : decode cX8_soonOf 116 = .ok (.aload_n 0, 1) := by decide +kernel
theorem dX8_soonOf_117 : decode cX8_soonOf 117 = .ok (.getfield 111, 3) := by decide +kernel
theorem dX8_soonOf_120 : decode cX8_soonOf 120 = .ok (.if_icmp .ge 46, 3) := by decide +kernel
theorem dX8_soonOf_123 : decode cX8_soonOf 123 = .ok (.aload_n 0, 1) := by decide +kernel
theorem dX8_soonOf_124 : decode cX8_soonOf 124 = .ok (.iload 11, 2) := by decide +kernel
theorem dX8_soonOf_126 : decode cX8_soonOf 126 = .ok (.bipush 8, 2) := by decide +kernel
theorem dX8_soonOf_128 : decode cX8_soonOf 128 = .ok (.irem, 1) := by decide +kernel
theorem dX8_soonOf_129 : decode cX8_soonOf 129 = .ok (.aload_n 0, 1) := by decide +kernel
theorem dX8_soonOf_130 : decode cX8_soonOf 130 = .ok (.getfield 40, 3) := by decide +kernel
theorem dX8_soonOf_133 : decode cX8_soonOf 133 = .ok (.iload 12, 2) := by decide +kernel
theorem dX8_soonOf_135 : decode cX8_soonOf 135 = .ok (.iaload, 1) := by decide +kernel
theorem dX8_soonOf_136 : decode cX8_soonOf 136 = .ok (.invokevirtual 173, 3) := by decide +kernel
theorem dX8_soonOf_139 : decode cX8_soonOf 139 = .ok (.ifCond .eq 27, 3) := by decide +kernel
theorem dX8_soonOf_142 : decode cX8_soonOf 142 = .ok (.aload_n 0, 1) := by decide +kernel
theorem dX8_soonOf_143 : decode cX8_soonOf 143 = .ok (.iload 12, 2) := by decide +kernel
theorem dX8_soonOf_145 : decode cX8_soonOf 145 = .ok (.iload 11, 2) := by decide +kernel
theorem dX8_soonOf_147 : decode cX8_soonOf 147 = .ok (.bipush 8, 2) := by decide +kernel
theorem dX8_soonOf_149 : decode cX8_soonOf 149 = .ok (.irem, 1) := by decide +kernel
theorem dX8_soonOf_150 : decode cX8_soonOf 150 = .ok (.invokevirtual 177, 3) := by decide +kernel
theorem dX8_soonOf_153 : decode cX8_soonOf 153 = .ok (.aload_n 0, 1) := by decide +kernel
theorem dX8_soonOf_154 : decode cX8_soonOf 154 = .ok (.getfield 34, 3) := by decide +kernel
theorem dX8_soonOf_157 : decode cX8_soonOf 157 = .ok (.iconst 2, 1) := by decide +kernel
theorem dX8_soonOf_158 : decode cX8_soonOf 158 = .ok (.iaload, 1) := by decide +kernel
theorem dX8_soonOf_159 : decode cX8_soonOf 159 = .ok (.if_icmp .gt 7, 3) := by decide +kernel
theorem dX8_soonOf_162 : decode cX8_soonOf 162 = .ok (.iconst 1, 1) := by decide +kernel
theorem dX8_soonOf_163 : decode cX8_soonOf 163 = .ok (.goto 4, 3) := by decide +kernel
theorem dX8_soonOf_166 : decode cX8_soonOf 166 = .ok (.iconst 0, 1) := by decide +kernel
theorem dX8_soonOf_167 : decode cX8_soonOf 167 = .ok (.istore 13, 2) := by decide +kernel
theorem dX8_soonOf_169 : decode cX8_soonOf 169 = .ok (.iload 13, 2) := by decide +kernel
theorem dX8_soonOf_171 : decode cX8_soonOf 171 = .ok (.ifCond .eq 54, 3) := by decide +kernel
theorem dX8_soonOf_174 : decode cX8_soonOf 174 = .ok (.aload_n 0, 1) := by decide +kernel
theorem dX8_soonOf_175 : decode cX8_soonOf 175 = .ok (.iload 12, 2) := by decide +kernel
theorem dX8_soonOf_177 : decode cX8_soonOf 177 = .ok (.iload 11, 2) := by decide +kernel
theorem dX8_soonOf_179 : decode cX8_soonOf 179 = .ok (.bipush 8, 2) := by decide +kernel
theorem dX8_soonOf_181 : decode cX8_soonOf 181 = .ok (.irem, 1) := by decide +kernel
theorem dX8_soonOf_182 : decode cX8_soonOf 182 = .ok (.invokevirtual 180, 3) := by decide +kernel
theorem dX8_soonOf_185 : decode cX8_soonOf 185 = .ok (.iload 7, 2) := by decide +kernel
theorem dX8_soonOf_187 : decode cX8_soonOf 187 = .ok (.ifCond .ne 23, 3) := by decide +kernel
theorem dX8_soonOf_190 : decode cX8_soonOf 190 = .ok (.aload_n 0, 1) := by decide +kernel
theorem dX8_soonOf_191 : decode cX8_soonOf 191 = .ok (.getfield 40, 3) := by decide +kernel
theorem dX8_soonOf_194 : decode cX8_soonOf 194 = .ok (.iconst 0, 1) := by decide +kernel
theorem dX8_soonOf_195 : decode cX8_soonOf 195 = .ok (.iaload, 1) := by decide +kernel
theorem dX8_soonOf_196 : decode cX8_soonOf 196 = .ok (.iload_n 2, 1) := by decide +kernel
theorem dX8_soonOf_197 : decode cX8_soonOf 197 = .ok (.if_icmp .ne 17, 3) := by decide +kernel
theorem dX8_soonOf_200 : decode cX8_soonOf 200 = .ok (.aload_n 0, 1) := by decide +kernel
theorem dX8_soonOf_201 : decode cX8_soonOf 201 = .ok (.getfield 40, 3) := by decide +kernel
theorem dX8_soonOf_204 : decode cX8_soonOf 204 = .ok (.iconst 1, 1) := by decide +kernel
theorem dX8_soonOf_205 : decode cX8_soonOf 205 = .ok (.iaload, 1) := by decide +kernel
theorem dX8_soonOf_206 : decode cX8_soonOf 206 = .ok (.iload_n 3, 1) := by decide +kernel
theorem dX8_soonOf_207 : decode cX8_soonOf 207 = .ok (.if_icmp .ne 7, 3) := by decide +kernel
theorem dX8_soonOf_210 : decode cX8_soonOf 210 = .ok (.iconst 1, 1) := by decide +kernel
theorem dX8_soonOf_211 : decode cX8_soonOf 211 = .ok (.goto 4, 3) := by decide +kernel
theorem dX8_soonOf_214 : decode cX8_soonOf 214 = .ok (.iconst 0, 1) := by decide +kernel
theorem dX8_soonOf_215 : decode cX8_soonOf 215 = .ok (.istore 7, 2) := by decide +kernel
theorem dX8_soonOf_217 : decode cX8_soonOf 217 = .ok (.aload_n 0, 1) := by decide +kernel
theorem dX8_soonOf_218 : decode cX8_soonOf 218 = .ok (.aload_n 0, 1) := by decide +kernel
theorem dX8_soonOf_219 : decode cX8_soonOf 219 = .ok (.invokevirtual 220, 3) := by decide +kernel
theorem dX8_soonOf_222 : decode cX8_soonOf 222 = .ok (.invokevirtual 224, 3) := by decide +kernel
theorem dX8_soonOf_225 : decode cX8_soonOf 225 = .ok (.iinc 11 1, 3) := by decide +kernel
theorem dX8_soonOf_228 : decode cX8_soonOf 228 = .ok (.goto (-137), 3) := by decide +kernel
theorem dX8_soonOf_231 : decode cX8_soonOf 231 = .ok (.iinc 8 1, 3) := by decide +kernel
theorem dX8_soonOf_234 : decode cX8_soonOf 234 = .ok (.goto (-162), 3) := by decide +kernel
theorem dX8_soonOf_237 : decode cX8_soonOf 237 = .ok (.iload 7, 2) := by decide +kernel
theorem dX8_soonOf_239 : decode cX8_soonOf 239 = .ok (.ifCond .eq 6, 3) := by decide +kernel
theorem dX8_soonOf_242 : decode cX8_soonOf 242 = .ok (.iload 5, 2) := by decide +kernel
theorem dX8_soonOf_244 : decode cX8_soonOf 244 = .ok (.ireturn, 1) := by decide +kernel
theorem dX8_soonOf_245 : decode cX8_soonOf 245 = .ok (.aload_n 0, 1) := by decide +kernel
theorem dX8_soonOf_246 : decode cX8_soonOf 246 = .ok (.getfield 217, 3) := by decide +kernel
theorem dX8_soonOf_249 : decode cX8_soonOf 249 = .ok (.sipush 1000, 3) := by decide +kernel
theorem dX8_soonOf_252 : decode cX8_soonOf 252 = .ok (.if_icmp .le 6, 3) := by decide +kernel
theorem dX8_soonOf_255 : decode cX8_soonOf 255 = .ok (.bipush (-4), 2) := by decide +kernel
theorem dX8_soonOf_257 : decode cX8_soonOf 257 = .ok (.ireturn, 1) := by decide +kernel
theorem dX8_soonOf_258 : decode cX8_soonOf 258 = .ok (.iload 6, 2) := by decide +kernel
theorem dX8_soonOf_260 : decode cX8_soonOf 260 = .ok (.istore 4, 2) := by decide +kernel
theorem dX8_soonOf_262 : decode cX8_soonOf 262 = .ok (.goto (-215), 3) := by decide +kernel
theorem dX8_soonOf_265 : decode cX8_soonOf 265 = .ok (.iconst (-1), 1) := by decide +kernel
theorem dX8_soonOf_266 : decode cX8_soonOf 266 = .ok (.ireturn, 1) := by decide +kernel
theorem dX8_soon_0 : decode cX8_soon 0 = .ok (.aload_n 0, 1) := by decide +kernel
theorem dX8_soon_1 : decode cX8_soon 1 = .ok (.invokevirtual 129, 3) := by decide +kernel
theorem dX8_soon_4 : decode cX8_soon 4 = .ok (.pop, 1) := by decide +kernel
theorem dX8_soon_5 : decode cX8_soon 5 = .ok (.iload_n 1, 1) := by decide +kernel
theorem dX8_soon_6 : decode cX8_soon 6 = .ok (.invokestatic 135, 3) := by decide +kernel
theorem dX8_soon_9 : decode cX8_soon 9 = .ok (.ifCond .eq 27, 3) := by decide +kernel
theorem dX8_soon_12 : decode cX8_soon 12 = .ok (.iload_n 2, 1) := by decide +kernel
theorem dX8_soon_13 : decode cX8_soon 13 = .ok (.invokestatic 138, 3) := by decide +kernel
theorem dX8_soon_16 : decode cX8_soon 16 = .ok (.ifCond .eq 20, 3) := by decide +kernel
theorem dX8_soon_19 : decode cX8_soon 19 = .ok (.iload_n 3, 1) := by decide +kernel
theorem dX8_soon_20 : decode cX8_soon 20 = .ok (.invokestatic 138, 3) := by decide +kernel
theorem dX8_soon_23 : decode cX8_soon 23 = .ok (.ifCond .eq 13, 3) := by decide +kernel
theorem dX8_soon_26 : decode cX8_soon 26 = .ok (.aload_n 0, 1) := by decide +kernel
theorem dX8_soon_27 : decode cX8_soon 27 = .ok (.iload_n 1, 1) := by decide +kernel
theorem dX8_soon_28 : decode cX8_soon 28 = .ok (.iload_n 2, 1) := by decide +kernel
theorem dX8_soon_29 : decode cX8_soon 29 = .ok (.iload_n 3, 1) := by decide +kernel
theorem dX8_soon_30 : decode cX8_soon 30 = .ok (.invokevirtual 231, 3) := by decide +kernel
theorem dX8_soon_33 : decode cX8_soon 33 = .ok (.goto 5, 3) := by decide +kernel
theorem dX8_soon_36 : decode cX8_soon 36 = .ok (.bipush (-2), 2) := by decide +kernel
theorem dX8_soon_38 : decode cX8_soon 38 = .ok (.ireturn, 1) := by decide +kernel
theorem dX8_looseOf_0 : decode cX8_looseOf 0 = .ok (.aload_n 0, 1) := by decide +kernel
theorem dX8_looseOf_1 : decode cX8_looseOf 1 = .ok (.iload_n 1, 1) := by decide +kernel
theorem dX8_looseOf_2 : decode cX8_looseOf 2 = .ok (.invokevirtual 200, 3) := by decide +kernel
theorem dX8_looseOf_5 : decode cX8_looseOf 5 = .ok (.pop, 1) := by decide +kernel
theorem dX8_looseOf_6 : decode cX8_looseOf 6 = .ok (.aload_n 0, 1) := by decide +kernel
theorem dX8_looseOf_7 : decode cX8_looseOf 7 = .ok (.getfield 150, 3) := by decide +kernel
theorem dX8_looseOf_10 : decode cX8_looseOf 10 = .ok (.ireturn, 1) := by decide +kernel
theorem dX8_loose_0 : decode cX8_loose 0 = .ok (.aload_n 0, 1) := by decide +kernel
theorem dX8_loose_1 : decode cX8_loose 1 = .ok (.invokevirtual 129, 3) := by decide +kernel
theorem dX8_loose_4 : decode cX8_loose 4 = .ok (.pop, 1) := by decide +kernel
theorem dX8_loose_5 : decode cX8_loose 5 = .ok (.iload_n 1, 1) := by decide +kernel
theorem dX8_loose_6 : decode cX8_loose 6 = .ok (.invokestatic 135, 3) := by decide +kernel
theorem dX8_loose_9 : decode cX8_loose 9 = .ok (.ifCond .eq 11, 3) := by decide +kernel
theorem dX8_loose_12 : decode cX8_loose 12 = .ok (.aload_n 0, 1) := by decide +kernel
theorem dX8_loose_13 : decode cX8_loose 13 = .ok (.iload_n 1, 1) := by decide +kernel
theorem dX8_loose_14 : decode cX8_loose 14 = .ok (.invokevirtual 234, 3) := by decide +kernel
theorem dX8_loose_17 : decode cX8_loose 17 = .ok (.goto 5, 3) := by decide +kernel
theorem dX8_loose_20 : decode cX8_loose 20 = .ok (.bipush (-2), 2) := by decide +kernel
theorem dX8_loose_22 : decode cX8_loose 22 = .ok (.ireturn, 1) := by decide +kernel
theorem dX8_haveLikeEnds_0 : decode cX8_haveLikeEnds 0 = .ok (.aload_n 0, 1) := by decide +kernel
theorem dX8_haveLikeEnds_1 : decode cX8_haveLikeEnds 1 = .ok (.iload_n 2, 1) := by decide +kernel
theorem dX8_haveLikeEnds_2 : decode cX8_haveLikeEnds 2 = .ok (.aload_n 0, 1) := by decide +kernel
theorem dX8_haveLikeEnds_3 : decode cX8_haveLikeEnds 3 = .ok (.getfield 28, 3) := by decide +kernel
theorem dX8_haveLikeEnds_6 : decode cX8_haveLikeEnds 6 = .ok (.iconst 3, 1) := by decide +kernel
theorem dX8_haveLikeEnds_7 : decode cX8_haveLikeEnds 7 = .ok (.iload_n 1, 1) := by decide +kernel
theorem dX8_haveLikeEnds_8 : decode cX8_haveLikeEnds 8 = .ok (.imul, 1) := by decide +kernel
theorem dX8_haveLikeEnds_9 : decode cX8_haveLikeEnds 9 = .ok (.iaload, 1) := by decide +kernel
theorem dX8_haveLikeEnds_10 : decode cX8_haveLikeEnds 10 = .ok (.invokevirtual 173, 3) := by decide +kernel
theorem dX8_haveLikeEnds_13 : decode cX8_haveLikeEnds 13 = .ok (.ifCond .eq 25, 3) := by decide +kernel
theorem dX8_haveLikeEnds_16 : decode cX8_haveLikeEnds 16 = .ok (.aload_n 0, 1) := by decide +kernel
theorem dX8_haveLikeEnds_17 : decode cX8_haveLikeEnds 17 = .ok (.iload_n 2, 1) := by decide +kernel
theorem dX8_haveLikeEnds_18 : decode cX8_haveLikeEnds 18 = .ok (.aload_n 0, 1) := by decide +kernel
theorem dX8_haveLikeEnds_19 : decode cX8_haveLikeEnds 19 = .ok (.getfield 28, 3) := by decide +kernel
theorem dX8_haveLikeEnds_22 : decode cX8_haveLikeEnds 22 = .ok (.iconst 3, 1) := by decide +kernel
theorem dX8_haveLikeEnds_23 : decode cX8_haveLikeEnds 23 = .ok (.iload_n 1, 1) := by decide +kernel
theorem dX8_haveLikeEnds_24 : decode cX8_haveLikeEnds 24 = .ok (.imul, 1) := by decide +kernel
theorem dX8_haveLikeEnds_25 : decode cX8_haveLikeEnds 25 = .ok (.iconst 1, 1) := by decide +kernel
theorem dX8_haveLikeEnds_26 : decode cX8_haveLikeEnds 26 = .ok (.iadd, 1) := by decide +kernel
theorem dX8_haveLikeEnds_27 : decode cX8_haveLikeEnds 27 = .ok (.iaload, 1) := by decide +kernel
theorem dX8_haveLikeEnds_28 : decode cX8_haveLikeEnds 28 = .ok (.invokevirtual 173, 3) := by decide +kernel
theorem dX8_haveLikeEnds_31 : decode cX8_haveLikeEnds 31 = .ok (.ifCond .eq 7, 3) := by decide +kernel
theorem dX8_haveLikeEnds_34 : decode cX8_haveLikeEnds 34 = .ok (.iconst 1, 1) := by decide +kernel
theorem dX8_haveLikeEnds_35 : decode cX8_haveLikeEnds 35 = .ok (.goto 4, 3) := by decide +kernel
theorem dX8_haveLikeEnds_38 : decode cX8_haveLikeEnds 38 = .ok (.iconst 0, 1) := by decide +kernel
theorem dX8_haveLikeEnds_39 : decode cX8_haveLikeEnds 39 = .ok (.ireturn, 1) := by decide +kernel
theorem dX8_pulledOf_0 : decode cX8_pulledOf 0 = .ok (.aload_n 0, 1) := by decide +kernel
theorem dX8_pulledOf_1 : decode cX8_pulledOf 1 = .ok (.iload_n 2, 1) := by decide +kernel
theorem dX8_pulledOf_2 : decode cX8_pulledOf 2 = .ok (.iload_n 3, 1) := by decide +kernel
theorem dX8_pulledOf_3 : decode cX8_pulledOf 3 = .ok (.invokevirtual 237, 3) := by decide +kernel
theorem dX8_pulledOf_6 : decode cX8_pulledOf 6 = .ok (.ifCond .ne 6, 3) := by decide +kernel
theorem dX8_pulledOf_9 : decode cX8_pulledOf 9 = .ok (.bipush (-3), 2) := by decide +kernel
theorem dX8_pulledOf_11 : decode cX8_pulledOf 11 = .ok (.ireturn, 1) := by decide +kernel
theorem dX8_pulledOf_12 : decode cX8_pulledOf 12 = .ok (.iload_n 2, 1) := by decide +kernel
theorem dX8_pulledOf_13 : decode cX8_pulledOf 13 = .ok (.iload_n 3, 1) := by decide +kernel
theorem dX8_pulledOf_14 : decode cX8_pulledOf 14 = .ok (.if_icmp .ge 7, 3) := by decide +kernel
theorem dX8_pulledOf_17 : decode cX8_pulledOf 17 = .ok (.iload_n 2, 1) := by decide +kernel
theorem dX8_pulledOf_18 : decode cX8_pulledOf 18 = .ok (.goto 4, 3) := by decide +kernel
theorem dX8_pulledOf_21 : decode cX8_pulledOf 21 = .ok (.iload_n 3, 1) := by decide +kernel
theorem dX8_pulledOf_22 : decode cX8_pulledOf 22 = .ok (.istore 5, 2) := by decide +kernel
theorem dX8_pulledOf_24 : decode cX8_pulledOf 24 = .ok (.iload_n 2, 1) := by decide +kernel
theorem dX8_pulledOf_25 : decode cX8_pulledOf 25 = .ok (.iload_n 3, 1) := by decide +kernel
theorem dX8_pulledOf_26 : decode cX8_pulledOf 26 = .ok (.if_icmp .ge 7, 3) := by decide +kernel
theorem dX8_pulledOf_29 : decode cX8_pulledOf 29 = .ok (.iload_n 3, 1) := by decide +kernel
theorem dX8_pulledOf_30 : decode cX8_pulledOf 30 = .ok (.goto 4, 3) := by decide +kernel
theorem dX8_pulledOf_33 : decode cX8_pulledOf 33 = .ok (.iload_n 2, 1) := by decide +kernel
theorem dX8_pulledOf_34 : decode cX8_pulledOf 34 = .ok (.istore 6, 2) := by decide +kernel
theorem dX8_pulledOf_36 : decode cX8_pulledOf 36 = .ok (.aload_n 0, 1) := by decide +kernel
theorem dX8_pulledOf_37 : decode cX8_pulledOf 37 = .ok (.getfield 28, 3) := by decide +kernel
theorem dX8_pulledOf_40 : decode cX8_pulledOf 40 = .ok (.iconst 3, 1) := by decide +kernel
theorem dX8_pulledOf_41 : decode cX8_pulledOf 41 = .ok (.iload 6, 2) := by decide +kernel
theorem dX8_pulledOf_43 : decode cX8_pulledOf 43 = .ok (.imul, 1) := by decide +kernel
theorem dX8_pulledOf_44 : decode cX8_pulledOf 44 = .ok (.iconst 2, 1) := by decide +kernel
theorem dX8_pulledOf_45 : decode cX8_pulledOf 45 = .ok (.iadd, 1) := by decide +kernel
theorem dX8_pulledOf_46 : decode cX8_pulledOf 46 = .ok (.iaload, 1) := by decide +kernel
theorem dX8_pulledOf_47 : decode cX8_pulledOf 47 = .ok (.aload_n 0, 1) := by decide +kernel
theorem dX8_pulledOf_48 : decode cX8_pulledOf 48 = .ok (.getfield 28, 3) := by decide +kernel
theorem dX8_pulledOf_51 : decode cX8_pulledOf 51 = .ok (.iconst 3, 1) := by decide +kernel
theorem dX8_pulledOf_52 : decode cX8_pulledOf 52 = .ok (.iload 5, 2) := by decide +kernel
theorem dX8_pulledOf_54 : decode cX8_pulledOf 54 = .ok (.imul, 1) := by decide +kernel
theorem dX8_pulledOf_55 : decode cX8_pulledOf 55 = .ok (.iconst 2, 1) := by decide +kernel
theorem dX8_pulledOf_56 : decode cX8_pulledOf 56 = .ok (.iadd, 1) := by decide +kernel
theorem dX8_pulledOf_57 : decode cX8_pulledOf 57 = .ok (.iaload, 1) := by decide +kernel
theorem dX8_pulledOf_58 : decode cX8_pulledOf 58 = .ok (.if_icmp .ge 8, 3) := by decide +kernel
theorem dX8_pulledOf_61 : decode cX8_pulledOf 61 = .ok (.iload 6, 2) := by decide +kernel
theorem dX8_pulledOf_63 : decode cX8_pulledOf 63 = .ok (.goto 5, 3) := by decide +kernel
theorem dX8_pulledOf_66 : decode cX8_pulledOf 66 = .ok (.iload 5, 2) := by decide +kernel
theorem dX8_pulledOf_68 : decode cX8_pulledOf 68 = .ok (.istore 7, 2) := by decide +kernel
theorem dX8_pulledOf_70 : decode cX8_pulledOf 70 = .ok (.aload_n 0, 1) := by decide +kernel
theorem dX8_pulledOf_71 : decode cX8_pulledOf 71 = .ok (.iload_n 1, 1) := by decide +kernel
theorem dX8_pulledOf_72 : decode cX8_pulledOf 72 = .ok (.invokevirtual 200, 3) := by decide +kernel
theorem dX8_pulledOf_75 : decode cX8_pulledOf 75 = .ok (.pop, 1) := by decide +kernel
theorem dX8_pulledOf_76 : decode cX8_pulledOf 76 = .ok (.iconst 0, 1) := by decide +kernel
theorem dX8_pulledOf_77 : decode cX8_pulledOf 77 = .ok (.istore 8, 2) := by decide +kernel
theorem dX8_pulledOf_79 : decode cX8_pulledOf 79 = .ok (.iconst 0, 1) := by decide +kernel
theorem dX8_pulledOf_80 : decode cX8_pulledOf 80 = .ok (.istore 9, 2) := by decide +kernel
theorem dX8_pulledOf_82 : decode cX8_pulledOf 82 = .ok (.iconst 0, 1) := by decide +kernel
theorem dX8_pulledOf_83 : decode cX8_pulledOf 83 = .ok (.istore 10, 2) := by decide +kernel
theorem dX8_pulledOf_85 : decode cX8_pulledOf 85 = .ok (.iload 10, 2) := by decide +kernel
theorem dX8_pulledOf_87 : decode cX8_pulledOf 87 = .ok (.aload_n 0, 1) := by decide +kernel
theorem dX8_pulledOf_88 : decode cX8_pulledOf 88 = .ok (.getfield 150, 3) := by decide +kernel
theorem dX8_pulledOf_91 : decode cX8_pulledOf 91 = .ok (.if_icmp .ge 146, 3) := by decide +kernel
theorem dX8_pulledOf_94 : decode cX8_pulledOf 94 = .ok (.aload_n 0, 1) := by decide +kernel
theorem dX8_pulledOf_95 : decode cX8_pulledOf 95 = .ok (.getfield 43, 3) := by decide +kernel
theorem dX8_pulledOf_98 : decode cX8_pulledOf 98 = .ok (.iload 10, 2) := by decide +kernel
theorem dX8_pulledOf_100 : decode cX8_pulledOf 100 = .ok (.iaload, 1) := by decide +kernel
theorem dX8_pulledOf_101 : decode cX8_pulledOf 101 = .ok (.iload_n 2, 1) := by decide +kernel
theorem dX8_pulledOf_102 : decode cX8_pulledOf 102 = .ok (.if_icmp .eq 14, 3) := by decide +kernel
theorem dX8_pulledOf_105 : decode cX8_pulledOf 105 = .ok (.aload_n 0, 1) := by decide +kernel
theorem dX8_pulledOf_106 : decode cX8_pulledOf 106 = .ok (.getfield 43, 3) := by decide +kernel
theorem dX8_pulledOf_109 : decode cX8_pulledOf 109 = .ok (.iload 10, 2) := by decide +kernel
theorem dX8_pulledOf_111 : decode cX8_pulledOf 111 = .ok (.iaload, 1) := by decide +kernel
theorem dX8_pulledOf_112 : decode cX8_pulledOf 112 = .ok (.iload_n 3, 1) := by decide +kernel
theorem dX8_pulledOf_113 : decode cX8_pulledOf 113 = .ok (.if_icmp .ne 8, 3) := by decide +kernel
theorem dX8_pulledOf_116 : decode cX8_pulledOf 116 = .ok (.iload 7, 2) := by decide +kernel
theorem dX8_pulledOf_118 : decode cX8_pulledOf 118 = .ok (.goto 10, 3) := by decide +kernel
theorem dX8_pulledOf_121 : decode cX8_pulledOf 121 = .ok (.aload_n 0, 1) := by decide +kernel
theorem dX8_pulledOf_122 : decode cX8_pulledOf 122 = .ok (.getfield 43, 3) := by decide +kernel
theorem dX8_pulledOf_125 : decode cX8_pulledOf 125 = .ok (.iload 10, 2) := by decide +kernel
theorem dX8_pulledOf_127 : decode cX8_pulledOf 127 = .ok (.iaload, 1) := by decide +kernel
theorem dX8_pulledOf_128 : decode cX8_pulledOf 128 = .ok (.istore 11, 2) := by decide +kernel
theorem dX8_pulledOf_130 : decode cX8_pulledOf 130 = .ok (.iload 8, 2) := by decide +kernel
theorem dX8_pulledOf_132 : decode cX8_pulledOf 132 = .ok (.ifCond .le 21, 3) := by decide +kernel
theorem dX8_pulledOf_135 : decode cX8_pulledOf 135 = .ok (.aload_n 0, 1) := by decide +kernel
theorem dX8_pulledOf_136 : decode cX8_pulledOf 136 = .ok (.getfield 56, 3) := by decide +kernel
theorem dX8_pulledOf_139 : decode cX8_pulledOf 139 = .ok (.iload 8, 2) := by decide +kernel
theorem dX8_pulledOf_141 : decode cX8_pulledOf 141 = .ok (.iconst 1, 1) := by decide +kernel
theorem dX8_pulledOf_142 : decode cX8_pulledOf 142 = .ok (.isub, 1) := by decide +kernel
theorem dX8_pulledOf_143 : decode cX8_pulledOf 143 = .ok (.iaload, 1) := by decide +kernel
theorem dX8_pulledOf_144 : decode cX8_pulledOf 144 = .ok (.iload 11, 2) := by decide +kernel
theorem dX8_pulledOf_146 : decode cX8_pulledOf 146 = .ok (.if_icmp .ne 7, 3) := by decide +kernel
theorem dX8_pulledOf_149 : decode cX8_pulledOf 149 = .ok (.iconst 1, 1) := by decide +kernel
theorem dX8_pulledOf_150 : decode cX8_pulledOf 150 = .ok (.goto 4, 3) := by decide +kernel
theorem dX8_pulledOf_153 : decode cX8_pulledOf 153 = .ok (.iconst 0, 1) := by decide +kernel
theorem dX8_pulledOf_154 : decode cX8_pulledOf 154 = .ok (.istore 12, 2) := by decide +kernel
theorem dX8_pulledOf_156 : decode cX8_pulledOf 156 = .ok (.iload 9, 2) := by decide +kernel
theorem dX8_pulledOf_158 : decode cX8_pulledOf 158 = .ok (.iload 12, 2) := by decide +kernel
theorem dX8_pulledOf_160 : decode cX8_pulledOf 160 = .ok (.ifCond .eq 18, 3) := by decide +kernel
theorem dX8_pulledOf_163 : decode cX8_pulledOf 163 = .ok (.aload_n 0, 1) := by decide +kernel
theorem dX8_pulledOf_164 : decode cX8_pulledOf 164 = .ok (.getfield 28, 3) := by decide +kernel
theorem dX8_pulledOf_167 : decode cX8_pulledOf 167 = .ok (.iconst 3, 1) := by decide +kernel
theorem dX8_pulledOf_168 : decode cX8_pulledOf 168 = .ok (.iload 11, 2) := by decide +kernel
theorem dX8_pulledOf_170 : decode cX8_pulledOf 170 = .ok (.imul, 1) := by decide +kernel
theorem dX8_pulledOf_171 : decode cX8_pulledOf 171 = .ok (.iconst 2, 1) := by decide +kernel
theorem dX8_pulledOf_172 : decode cX8_pulledOf 172 = .ok (.iadd, 1) := by decide +kernel
theorem dX8_pulledOf_173 : decode cX8_pulledOf 173 = .ok (.iaload, 1) := by decide +kernel
theorem dX8_pulledOf_174 : decode cX8_pulledOf 174 = .ok (.ineg, 1) := by decide +kernel
theorem dX8_pulledOf_175 : decode cX8_pulledOf 175 = .ok (.goto 14, 3) := by decide +kernel
theorem dX8_pulledOf_178 : decode cX8_pulledOf 178 = .ok (.aload_n 0, 1) := by decide +kernel
theorem dX8_pulledOf_179 : decode cX8_pulledOf 179 = .ok (.getfield 28, 3) := by decide +kernel
theorem dX8_pulledOf_182 : decode cX8_pulledOf 182 = .ok (.iconst 3, 1) := by decide +kernel
theorem dX8_pulledOf_183 : decode cX8_pulledOf 183 = .ok (.iload 11, 2) := by decide +kernel
theorem dX8_pulledOf_185 : decode cX8_pulledOf 185 = .ok (.imul, 1) := by decide +kernel
theorem dX8_pulledOf_186 : decode cX8_pulledOf 186 = .ok (.iconst 2, 1) := by decide +kernel
theorem dX8_pulledOf_187 : decode cX8_pulledOf 187 = .ok (.iadd, 1) := by decide +kernel
theorem dX8_pulledOf_188 : decode cX8_pulledOf 188 = .ok (.iaload, 1) := by decide +kernel
theorem dX8_pulledOf_189 : decode cX8_pulledOf 189 = .ok (.iadd, 1) := by decide +kernel
theorem dX8_pulledOf_190 : decode cX8_pulledOf 190 = .ok (.istore 9, 2) := by decide +kernel
theorem dX8_pulledOf_192 : decode cX8_pulledOf 192 = .ok (.aload_n 0, 1) := by decide +kernel
theorem dX8_pulledOf_193 : decode cX8_pulledOf 193 = .ok (.getfield 56, 3) := by decide +kernel
theorem dX8_pulledOf_196 : decode cX8_pulledOf 196 = .ok (.iload 8, 2) := by decide +kernel
theorem dX8_pulledOf_198 : decode cX8_pulledOf 198 = .ok (.iload 12, 2) := by decide +kernel
theorem dX8_pulledOf_200 : decode cX8_pulledOf 200 = .ok (.ifCond .eq 13, 3) := by decide +kernel
theorem dX8_pulledOf_203 : decode cX8_pulledOf 203 = .ok (.aload_n 0, 1) := by decide +kernel
theorem dX8_pulledOf_204 : decode cX8_pulledOf 204 = .ok (.getfield 56, 3) := by decide +kernel
theorem dX8_pulledOf_207 : decode cX8_pulledOf 207 = .ok (.iload 8, 2) := by decide +kernel
theorem dX8_pulledOf_209 : decode cX8_pulledOf 209 = .ok (.iaload, 1) := by decide +kernel
theorem dX8_pulledOf_210 : decode cX8_pulledOf 210 = .ok (.goto 5, 3) := by decide +kernel
theorem dX8_pulledOf_213 : decode cX8_pulledOf 213 = .ok (.iload 11, 2) := by decide +kernel
theorem dX8_pulledOf_215 : decode cX8_pulledOf 215 = .ok (.iastore, 1) := by decide +kernel
theorem dX8_pulledOf_216 : decode cX8_pulledOf 216 = .ok (.iload 8, 2) := by decide +kernel
theorem dX8_pulledOf_218 : decode cX8_pulledOf 218 = .ok (.iload 12, 2) := by decide +kernel
theorem dX8_pulledOf_220 : decode cX8_pulledOf 220 = .ok (.ifCond .eq 7, 3) := by decide +kernel
theorem dX8_pulledOf_223 : decode cX8_pulledOf 223 = .ok (.iconst (-1), 1) := by decide +kernel
theorem dX8_pulledOf_224 : decode cX8_pulledOf 224 = .ok (.goto 4, 3) := by decide +kernel
theorem dX8_pulledOf_227 : decode cX8_pulledOf 227 = .ok (.iconst 1, 1) := by decide +kernel
theorem dX8_pulledOf_228 : decode cX8_pulledOf 228 = .ok (.iadd, 1) := by decide +kernel
theorem dX8_pulledOf_229 : decode cX8_pulledOf 229 = .ok (.istore 8, 2) := by decide +kernel
theorem dX8_pulledOf_231 : decode cX8_pulledOf 231 = .ok (.iinc 10 1, 3) := by decide +kernel
theorem dX8_pulledOf_234 : decode cX8_pulledOf 234 = .ok (.goto (-149), 3) := by decide +kernel
theorem dX8_pulledOf_237 : decode cX8_pulledOf 237 = .ok (.iload 4, 2) := by decide +kernel
theorem dX8_pulledOf_239 : decode cX8_pulledOf 239 = .ok (.ifCond .ne 8, 3) := by decide +kernel
theorem dX8_pulledOf_242 : decode cX8_pulledOf 242 = .ok (.iload 8, 2) := by decide +kernel
theorem dX8_pulledOf_244 : decode cX8_pulledOf 244 = .ok (.goto 5, 3) := by decide +kernel
theorem dX8_pulledOf_247 : decode cX8_pulledOf 247 = .ok (.iload 9, 2) := by decide +kernel
theorem dX8_pulledOf_249 : decode cX8_pulledOf 249 = .ok (.ireturn, 1) := by decide +kernel
theorem dX8_pulled_0 : decode cX8_pulled 0 = .ok (.aload_n 0, 1) := by decide +kernel
theorem dX8_pulled_1 : decode cX8_pulled 1 = .ok (.iload_n 2, 1) := by decide +kernel
theorem dX8_pulled_2 : decode cX8_pulled 2 = .ok (.invokevirtual 132, 3) := by decide +kernel
theorem dX8_pulled_5 : decode cX8_pulled 5 = .ok (.ifCond .eq 20, 3) := by decide +kernel
theorem dX8_pulled_8 : decode cX8_pulled 8 = .ok (.aload_n 0, 1) := by decide +kernel
theorem dX8_pulled_9 : decode cX8_pulled 9 = .ok (.iload_n 3, 1) := by decide +kernel
theorem dX8_pulled_10 : decode cX8_pulled 10 = .ok (.invokevirtual 132, 3) := by decide +kernel
theorem dX8_pulled_13 : decode cX8_pulled 13 = .ok (.ifCond .eq 12, 3) := by decide +kernel
theorem dX8_pulled_16 : decode cX8_pulled 16 = .ok (.iload_n 2, 1) := by decide +kernel
theorem dX8_pulled_17 : decode cX8_pulled 17 = .ok (.iload_n 3, 1) := by decide +kernel
theorem dX8_pulled_18 : decode cX8_pulled 18 = .ok (.if_icmp .eq 7, 3) := by decide +kernel
theorem dX8_pulled_21 : decode cX8_pulled 21 = .ok (.iconst 1, 1) := by decide +kernel
theorem dX8_pulled_22 : decode cX8_pulled 22 = .ok (.goto 4, 3) := by decide +kernel
theorem dX8_pulled_25 : decode cX8_pulled 25 = .ok (.iconst 0, 1) := by decide +kernel
theorem dX8_pulled_26 : decode cX8_pulled 26 = .ok (.istore 5, 2) := by decide +kernel
theorem dX8_pulled_28 : decode cX8_pulled 28 = .ok (.iload 5, 2) := by decide +kernel
theorem dX8_pulled_30 : decode cX8_pulled 30 = .ok (.ifCond .eq 30, 3) := by decide +kernel
theorem dX8_pulled_33 : decode cX8_pulled 33 = .ok (.iload_n 1, 1) := by decide +kernel
theorem dX8_pulled_34 : decode cX8_pulled 34 = .ok (.invokestatic 135, 3) := by decide +kernel
theorem dX8_pulled_37 : decode cX8_pulled 37 = .ok (.ifCond .eq 23, 3) := by decide +kernel
theorem dX8_pulled_40 : decode cX8_pulled 40 = .ok (.iload 4, 2) := by decide +kernel
theorem dX8_pulled_42 : decode cX8_pulled 42 = .ok (.invokestatic 135, 3) := by decide +kernel
theorem dX8_pulled_45 : decode cX8_pulled 45 = .ok (.ifCond .eq 15, 3) := by decide +kernel
theorem dX8_pulled_48 : decode cX8_pulled 48 = .ok (.aload_n 0, 1) := by decide +kernel
theorem dX8_pulled_49 : decode cX8_pulled 49 = .ok (.iload_n 1, 1) := by decide +kernel
theorem dX8_pulled_50 : decode cX8_pulled 50 = .ok (.iload_n 2, 1) := by decide +kernel
theorem dX8_pulled_51 : decode cX8_pulled 51 = .ok (.iload_n 3, 1) := by decide +kernel
theorem dX8_pulled_52 : decode cX8_pulled 52 = .ok (.iload 4, 2) := by decide +kernel
theorem dX8_pulled_54 : decode cX8_pulled 54 = .ok (.invokevirtual 240, 3) := by decide +kernel
theorem dX8_pulled_57 : decode cX8_pulled 57 = .ok (.goto 5, 3) := by decide +kernel
theorem dX8_pulled_60 : decode cX8_pulled 60 = .ok (.bipush (-2), 2) := by decide +kernel
theorem dX8_pulled_62 : decode cX8_pulled 62 = .ok (.ireturn, 1) := by decide +kernel
theorem dX8_beganOf_0 : decode cX8_beganOf 0 = .ok (.iconst 0, 1) := by decide +kernel
theorem dX8_beganOf_1 : decode cX8_beganOf 1 = .ok (.istore_n 3, 1) := by decide +kernel
theorem dX8_beganOf_2 : decode cX8_beganOf 2 = .ok (.iload_n 3, 1) := by decide +kernel
theorem dX8_beganOf_3 : decode cX8_beganOf 3 = .ok (.bipush 8, 2) := by decide +kernel
theorem dX8_beganOf_5 : decode cX8_beganOf 5 = .ok (.if_icmp .ge 26, 3) := by decide +kernel
theorem dX8_beganOf_8 : decode cX8_beganOf 8 = .ok (.aload_n 0, 1) := by decide +kernel
theorem dX8_beganOf_9 : decode cX8_beganOf 9 = .ok (.getfield 59, 3) := by decide +kernel
theorem dX8_beganOf_12 : decode cX8_beganOf 12 = .ok (.iload_n 3, 1) := by decide +kernel
theorem dX8_beganOf_13 : decode cX8_beganOf 13 = .ok (.iload_n 3, 1) := by decide +kernel
theorem dX8_beganOf_14 : decode cX8_beganOf 14 = .ok (.iload_n 2, 1) := by decide +kernel
theorem dX8_beganOf_15 : decode cX8_beganOf 15 = .ok (.if_icmp .ne 7, 3) := by decide +kernel
theorem dX8_beganOf_18 : decode cX8_beganOf 18 = .ok (.iconst 0, 1) := by decide +kernel
theorem dX8_beganOf_19 : decode cX8_beganOf 19 = .ok (.goto 5, 3) := by decide +kernel
theorem dX8_beganOf_22 : decode cX8_beganOf 22 = .ok (.ldc 244, 2) := by decide +kernel
theorem dX8_beganOf_24 : decode cX8_beganOf 24 = .ok (.iastore, 1) := by decide +kernel
theorem dX8_beganOf_25 : decode cX8_beganOf 25 = .ok (.iinc 3 1, 3) := by decide +kernel
theorem dX8_beganOf_28 : decode cX8_beganOf 28 = .ok (.goto (-26), 3) := by decide +kernel
theorem dX8_beganOf_31 : decode cX8_beganOf 31 = .ok (.iconst 0, 1) := by decide +kernel
theorem dX8_beganOf_32 : decode cX8_beganOf 32 = .ok (.istore_n 3, 1) := by decide +kernel
theorem dX8_beganOf_33 : decode cX8_beganOf 33 = .ok (.iload_n 3, 1) := by decide +kernel
theorem dX8_beganOf_34 : decode cX8_beganOf 34 = .ok (.bipush 8, 2) := by decide +kernel
theorem dX8_beganOf_36 : decode cX8_beganOf 36 = .ok (.if_icmp .ge 141, 3) := by decide +kernel
theorem dX8_beganOf_39 : decode cX8_beganOf 39 = .ok (.iconst 0, 1) := by decide +kernel
theorem dX8_beganOf_40 : decode cX8_beganOf 40 = .ok (.istore 4, 2) := by decide +kernel
theorem dX8_beganOf_42 : decode cX8_beganOf 42 = .ok (.iload 4, 2) := by decide +kernel
theorem dX8_beganOf_44 : decode cX8_beganOf 44 = .ok (.aload_n 0, 1) := by decide +kernel
theorem dX8_beganOf_45 : decode cX8_beganOf 45 = .ok (.getfield 111, 3) := by decide +kernel
theorem dX8_beganOf_48 : decode cX8_beganOf 48 = .ok (.if_icmp .ge 123, 3) := by decide +kernel
theorem dX8_beganOf_51 : decode cX8_beganOf 51 = .ok (.aload_n 0, 1) := by decide +kernel
theorem dX8_beganOf_52 : decode cX8_beganOf 52 = .ok (.getfield 28, 3) := by decide +kernel
theorem dX8_beganOf_55 : decode cX8_beganOf 55 = .ok (.iconst 3, 1) := by decide +kernel
theorem dX8_beganOf_56 : decode cX8_beganOf 56 = .ok (.iload 4, 2) := by decide +kernel
theorem dX8_beganOf_58 : decode cX8_beganOf 58 = .ok (.imul, 1) := by decide +kernel
theorem dX8_beganOf_59 : decode cX8_beganOf 59 = .ok (.iaload, 1) := by decide +kernel
theorem dX8_beganOf_60 : decode cX8_beganOf 60 = .ok (.istore 5, 2) := by decide +kernel
theorem dX8_beganOf_62 : decode cX8_beganOf 62 = .ok (.aload_n 0, 1) := by decide +kernel
theorem dX8_beganOf_63 : decode cX8_beganOf 63 = .ok (.getfield 28, 3) := by decide +kernel
theorem dX8_beganOf_66 : decode cX8_beganOf 66 = .ok (.iconst 3, 1) := by decide +kernel
theorem dX8_beganOf_67 : decode cX8_beganOf 67 = .ok (.iload 4, 2) := by decide +kernel
theorem dX8_beganOf_69 : decode cX8_beganOf 69 = .ok (.imul, 1) := by decide +kernel
theorem dX8_beganOf_70 : decode cX8_beganOf 70 = .ok (.iconst 1, 1) := by decide +kernel
theorem dX8_beganOf_71 : decode cX8_beganOf 71 = .ok (.iadd, 1) := by decide +kernel
theorem dX8_beganOf_72 : decode cX8_beganOf 72 = .ok (.iaload, 1) := by decide +kernel
theorem dX8_beganOf_73 : decode cX8_beganOf 73 = .ok (.istore 6, 2) := by decide +kernel
theorem dX8_beganOf_75 : decode cX8_beganOf 75 = .ok (.aload_n 0, 1) := by decide +kernel
theorem dX8_beganOf_76 : decode cX8_beganOf 76 = .ok (.getfield 59, 3) := by decide +kernel
theorem dX8_beganOf_79 : decode cX8_beganOf 79 = .ok (.iload 5, 2) := by decide +kernel
theorem dX8_beganOf_81 : decode cX8_beganOf 81 = .ok (.aload_n 0, 1) := by decide +kernel
theorem dX8_beganOf_82 : decode cX8_beganOf 82 = .ok (.getfield 59, 3) := by decide +kernel
theorem dX8_beganOf_85 : decode cX8_beganOf 85 = .ok (.iload 6, 2) := by decide +kernel
theorem dX8_beganOf_87 : decode cX8_beganOf 87 = .ok (.iaload, 1) := by decide +kernel
theorem dX8_beganOf_88 : decode cX8_beganOf 88 = .ok (.iconst 1, 1) := by decide +kernel
theorem dX8_beganOf_89 : decode cX8_beganOf 89 = .ok (.iadd, 1) := by decide +kernel
theorem dX8_beganOf_90 : decode cX8_beganOf 90 = .ok (.aload_n 0, 1) := by decide +kernel
theorem dX8_beganOf_91 : decode cX8_beganOf 91 = .ok (.getfield 59, 3) := by decide +kernel
theorem dX8_beganOf_94 : decode cX8_beganOf 94 = .ok (.iload 5, 2) := by decide +kernel
theorem dX8_beganOf_96 : decode cX8_beganOf 96 = .ok (.iaload, 1) := by decide +kernel
theorem dX8_beganOf_97 : decode cX8_beganOf 97 = .ok (.if_icmp .ge 15, 3) := by decide +kernel
theorem dX8_beganOf_100 : decode cX8_beganOf 100 = .ok (.aload_n 0, 1) := by decide +kernel
theorem dX8_beganOf_101 : decode cX8_beganOf 101 = .ok (.getfield 59, 3) := by decide +kernel
theorem dX8_beganOf_104 : decode cX8_beganOf 104 = .ok (.iload 6, 2) := by decide +kernel
theorem dX8_beganOf_106 : decode cX8_beganOf 106 = .ok (.iaload, 1) := by decide +kernel
theorem dX8_beganOf_107 : decode cX8_beganOf 107 = .ok (.iconst 1, 1) := by decide +kernel
theorem dX8_beganOf_108 : decode cX8_beganOf 108 = .ok (.iadd, 1) := by decide +kernel
theorem dX8_beganOf_109 : decode cX8_beganOf 109 = .ok (.goto 10, 3) := by decide +kernel
theorem dX8_beganOf_112 : decode cX8_beganOf 112 = .ok (.aload_n 0, 1) := by decide +kernel
theorem dX8_beganOf_113 : decode cX8_beganOf 113 = .ok (.getfield 59, 3) := by decide +kernel
theorem dX8_beganOf_116 : decode cX8_beganOf 116 = .ok (.iload 5, 2) := by decide +kernel
theorem dX8_beganOf_118 : decode cX8_beganOf 118 = .ok (.iaload, 1) := by decide +kernel
theorem dX8_beganOf_119 : decode cX8_beganOf 119 = .ok (.iastore, 1) := by decide +kernel
theorem dX8_beganOf_120 : decode cX8_beganOf 120 = .ok (.aload_n 0, 1) := by decide +kernel
theorem dX8_beganOf_121 : decode cX8_beganOf 121 = .ok (.getfield 59, 3) := by decide +kernel
theorem dX8_beganOf_124 : decode cX8_beganOf 124 = .ok (.iload 6, 2) := by decide +kernel
theorem dX8_beganOf_126 : decode cX8_beganOf 126 = .ok (.aload_n 0, 1) := by decide +kernel
theorem dX8_beganOf_127 : decode cX8_beganOf 127 = .ok (.getfield 59, 3) := by decide +kernel
theorem dX8_beganOf_130 : decode cX8_beganOf 130 = .ok (.iload 5, 2) := by decide +kernel
theorem dX8_beganOf_132 : decode cX8_beganOf 132 = .ok (.iaload, 1) := by decide +kernel
theorem dX8_beganOf_133 : decode cX8_beganOf 133 = .ok (.iconst 1, 1) := by decide +kernel
theorem dX8_beganOf_134 : decode cX8_beganOf 134 = .ok (.iadd, 1) := by decide +kernel
theorem dX8_beganOf_135 : decode cX8_beganOf 135 = .ok (.aload_n 0, 1) := by decide +kernel
theorem dX8_beganOf_136 : decode cX8_beganOf 136 = .ok (.getfield 59, 3) := by decide +kernel
theorem dX8_beganOf_139 : decode cX8_beganOf 139 = .ok (.iload 6, 2) := by decide +kernel
theorem dX8_beganOf_141 : decode cX8_beganOf 141 = .ok (.iaload, 1) := by decide +kernel
theorem dX8_beganOf_142 : decode cX8_beganOf 142 = .ok (.if_icmp .ge 15, 3) := by decide +kernel
theorem dX8_beganOf_145 : decode cX8_beganOf 145 = .ok (.aload_n 0, 1) := by decide +kernel
theorem dX8_beganOf_146 : decode cX8_beganOf 146 = .ok (.getfield 59, 3) := by decide +kernel
theorem dX8_beganOf_149 : decode cX8_beganOf 149 = .ok (.iload 5, 2) := by decide +kernel
theorem dX8_beganOf_151 : decode cX8_beganOf 151 = .ok (.iaload, 1) := by decide +kernel
theorem dX8_beganOf_152 : decode cX8_beganOf 152 = .ok (.iconst 1, 1) := by decide +kernel
theorem dX8_beganOf_153 : decode cX8_beganOf 153 = .ok (.iadd, 1) := by decide +kernel
theorem dX8_beganOf_154 : decode cX8_beganOf 154 = .ok (.goto 10, 3) := by decide +kernel
theorem dX8_beganOf_157 : decode cX8_beganOf 157 = .ok (.aload_n 0, 1) := by decide +kernel
theorem dX8_beganOf_158 : decode cX8_beganOf 158 = .ok (.getfield 59, 3) := by decide +kernel
theorem dX8_beganOf_161 : decode cX8_beganOf 161 = .ok (.iload 6, 2) := by decide +kernel
theorem dX8_beganOf_163 : decode cX8_beganOf 163 = .ok (.iaload, 1) := by decide +kernel
theorem dX8_beganOf_164 : decode cX8_beganOf 164 = .ok (.iastore, 1) := by decide +kernel
theorem dX8_beganOf_165 : decode cX8_beganOf 165 = .ok (.iinc 4 1, 3) := by decide +kernel
theorem dX8_beganOf_168 : decode cX8_beganOf 168 = .ok (.goto (-126), 3) := by decide +kernel
theorem dX8_beganOf_171 : decode cX8_beganOf 171 = .ok (.iinc 3 1, 3) := by decide +kernel
theorem dX8_beganOf_174 : decode cX8_beganOf 174 = .ok (.goto (-141), 3) := by decide +kernel
theorem dX8_beganOf_177 : decode cX8_beganOf 177 = .ok (.aload_n 0, 1) := by decide +kernel
theorem dX8_beganOf_178 : decode cX8_beganOf 178 = .ok (.iload_n 1, 1) := by decide +kernel
theorem dX8_beganOf_179 : decode cX8_beganOf 179 = .ok (.invokevirtual 200, 3) := by decide +kernel
theorem dX8_beganOf_182 : decode cX8_beganOf 182 = .ok (.pop, 1) := by decide +kernel
theorem dX8_beganOf_183 : decode cX8_beganOf 183 = .ok (.aload_n 0, 1) := by decide +kernel
theorem dX8_beganOf_184 : decode cX8_beganOf 184 = .ok (.getfield 40, 3) := by decide +kernel
theorem dX8_beganOf_187 : decode cX8_beganOf 187 = .ok (.iconst 0, 1) := by decide +kernel
theorem dX8_beganOf_188 : decode cX8_beganOf 188 = .ok (.iaload, 1) := by decide +kernel
theorem dX8_beganOf_189 : decode cX8_beganOf 189 = .ok (.istore_n 3, 1) := by decide +kernel
theorem dX8_beganOf_190 : decode cX8_beganOf 190 = .ok (.aload_n 0, 1) := by decide +kernel
theorem dX8_beganOf_191 : decode cX8_beganOf 191 = .ok (.getfield 59, 3) := by decide +kernel
theorem dX8_beganOf_194 : decode cX8_beganOf 194 = .ok (.iload_n 3, 1) := by decide +kernel
theorem dX8_beganOf_195 : decode cX8_beganOf 195 = .ok (.iaload, 1) := by decide +kernel
theorem dX8_beganOf_196 : decode cX8_beganOf 196 = .ok (.istore 4, 2) := by decide +kernel
theorem dX8_beganOf_198 : decode cX8_beganOf 198 = .ok (.iconst 0, 1) := by decide +kernel
theorem dX8_beganOf_199 : decode cX8_beganOf 199 = .ok (.istore 5, 2) := by decide +kernel
theorem dX8_beganOf_201 : decode cX8_beganOf 201 = .ok (.iload 5, 2) := by decide +kernel
theorem dX8_beganOf_203 : decode cX8_beganOf 203 = .ok (.aload_n 0, 1) := by decide +kernel
theorem dX8_beganOf_204 : decode cX8_beganOf 204 = .ok (.getfield 150, 3) := by decide +kernel
theorem dX8_beganOf_207 : decode cX8_beganOf 207 = .ok (.if_icmp .ge 46, 3) := by decide +kernel
theorem dX8_beganOf_210 : decode cX8_beganOf 210 = .ok (.aload_n 0, 1) := by decide +kernel
theorem dX8_beganOf_211 : decode cX8_beganOf 211 = .ok (.aload_n 0, 1) := by decide +kernel
theorem dX8_beganOf_212 : decode cX8_beganOf 212 = .ok (.getfield 43, 3) := by decide +kernel
theorem dX8_beganOf_215 : decode cX8_beganOf 215 = .ok (.iload 5, 2) := by decide +kernel
theorem dX8_beganOf_217 : decode cX8_beganOf 217 = .ok (.iaload, 1) := by decide +kernel
theorem dX8_beganOf_218 : decode cX8_beganOf 218 = .ok (.iload_n 3, 1) := by decide +kernel
theorem dX8_beganOf_219 : decode cX8_beganOf 219 = .ok (.invokevirtual 156, 3) := by decide +kernel
theorem dX8_beganOf_222 : decode cX8_beganOf 222 = .ok (.istore_n 3, 1) := by decide +kernel
theorem dX8_beganOf_223 : decode cX8_beganOf 223 = .ok (.aload_n 0, 1) := by decide +kernel
theorem dX8_beganOf_224 : decode cX8_beganOf 224 = .ok (.getfield 59, 3) := by decide +kernel
theorem dX8_beganOf_227 : decode cX8_beganOf 227 = .ok (.iload_n 3, 1) := by decide +kernel
theorem dX8_beganOf_228 : decode cX8_beganOf 228 = .ok (.iaload, 1) := by decide +kernel
theorem dX8_beganOf_229 : decode cX8_beganOf 229 = .ok (.iload 4, 2) := by decide +kernel
theorem dX8_beganOf_231 : decode cX8_beganOf 231 = .ok (.if_icmp .ge 12, 3) := by decide +kernel
theorem dX8_beganOf_234 : decode cX8_beganOf 234 = .ok (.aload_n 0, 1) := by decide +kernel
theorem dX8_beganOf_235 : decode cX8_beganOf 235 = .ok (.getfield 59, 3) := by decide +kernel
theorem dX8_beganOf_238 : decode cX8_beganOf 238 = .ok (.iload_n 3, 1) := by decide +kernel
theorem dX8_beganOf_239 : decode cX8_beganOf 239 = .ok (.iaload, 1) := by decide +kernel
theorem dX8_beganOf_240 : decode cX8_beganOf 240 = .ok (.goto 5, 3) := by decide +kernel
theorem dX8_beganOf_243 : decode cX8_beganOf 243 = .ok (.iload 4, 2) := by decide +kernel
theorem dX8_beganOf_245 : decode cX8_beganOf 245 = .ok (.istore 4, 2) := by decide +kernel
theorem dX8_beganOf_247 : decode cX8_beganOf 247 = .ok (.iinc 5 1, 3) := by decide +kernel
theorem dX8_beganOf_250 : decode cX8_beganOf 250 = .ok (.goto (-49), 3) := by decide +kernel
theorem dX8_beganOf_253 : decode cX8_beganOf 253 = .ok (.iload 4, 2) := by decide +kernel
theorem dX8_beganOf_255 : decode cX8_beganOf 255 = .ok (.ldc 244, 2) := by decide +kernel
theorem dX8_beganOf_257 : decode cX8_beganOf 257 = .ok (.if_icmp .lt 7, 3) := by decide +kernel
theorem dX8_beganOf_260 : decode cX8_beganOf 260 = .ok (.iconst (-1), 1) := by decide +kernel
theorem dX8_beganOf_261 : decode cX8_beganOf 261 = .ok (.goto 12, 3) := by decide +kernel
theorem dX8_beganOf_264 : decode cX8_beganOf 264 = .ok (.aload_n 0, 1) := by decide +kernel
theorem dX8_beganOf_265 : decode cX8_beganOf 265 = .ok (.getfield 150, 3) := by decide +kernel
theorem dX8_beganOf_268 : decode cX8_beganOf 268 = .ok (.iconst 2, 1) := by decide +kernel
theorem dX8_beganOf_269 : decode cX8_beganOf 269 = .ok (.iload 4, 2) := by decide +kernel
theorem dX8_beganOf_271 : decode cX8_beganOf 271 = .ok (.imul, 1) := by decide +kernel
theorem dX8_beganOf_272 : decode cX8_beganOf 272 = .ok (.iadd, 1) := by decide +kernel
theorem dX8_beganOf_273 : decode cX8_beganOf 273 = .ok (.ireturn, 1) := by decide +kernel
theorem dX8_began_0 : decode cX8_began 0 = .ok (.aload_n 0, 1) := by decide +kernel
theorem dX8_began_1 : decode cX8_began 1 = .ok (.invokevirtual 129, 3) := by decide +kernel
theorem dX8_began_4 : decode cX8_began 4 = .ok (.pop, 1) := by decide +kernel
theorem dX8_began_5 : decode cX8_began 5 = .ok (.iload_n 1, 1) := by decide +kernel
theorem dX8_began_6 : decode cX8_began 6 = .ok (.invokestatic 135, 3) := by decide +kernel
theorem dX8_began_9 : decode cX8_began 9 = .ok (.ifCond .eq 19, 3) := by decide +kernel
theorem dX8_began_12 : decode cX8_began 12 = .ok (.iload_n 2, 1) := by decide +kernel
theorem dX8_began_13 : decode cX8_began 13 = .ok (.invokestatic 138, 3) := by decide +kernel
theorem dX8_began_16 : decode cX8_began 16 = .ok (.ifCond .eq 12, 3) := by decide +kernel
theorem dX8_began_19 : decode cX8_began 19 = .ok (.aload_n 0, 1) := by decide +kernel
theorem dX8_began_20 : decode cX8_began 20 = .ok (.iload_n 1, 1) := by decide +kernel
theorem dX8_began_21 : decode cX8_began 21 = .ok (.iload_n 2, 1) := by decide +kernel
theorem dX8_began_22 : decode cX8_began 22 = .ok (.invokevirtual 245, 3) := by decide +kernel
theorem dX8_began_25 : decode cX8_began 25 = .ok (.goto 5, 3) := by decide +kernel
theorem dX8_began_28 : decode cX8_began 28 = .ok (.bipush (-2), 2) := by decide +kernel
theorem dX8_began_30 : decode cX8_began 30 = .ok (.ireturn, 1) := by decide +kernel
theorem dX8_enters_0 : decode cX8_enters 0 = .ok (.aload_n 0, 1) := by decide +kernel
theorem dX8_enters_1 : decode cX8_enters 1 = .ok (.getfield 62, 3) := by decide +kernel
theorem dX8_enters_4 : decode cX8_enters 4 = .ok (.iload_n 1, 1) := by decide +kernel
theorem dX8_enters_5 : decode cX8_enters 5 = .ok (.lload_n 2, 1) := by decide +kernel
theorem dX8_enters_6 : decode cX8_enters 6 = .ok (.lastore, 1) := by decide +kernel
theorem dX8_enters_7 : decode cX8_enters 7 = .ok (.aload_n 0, 1) := by decide +kernel
theorem dX8_enters_8 : decode cX8_enters 8 = .ok (.getfield 65, 3) := by decide +kernel
theorem dX8_enters_11 : decode cX8_enters 11 = .ok (.iload_n 1, 1) := by decide +kernel
theorem dX8_enters_12 : decode cX8_enters 12 = .ok (.iload 4, 2) := by decide +kernel
theorem dX8_enters_14 : decode cX8_enters 14 = .ok (.iastore, 1) := by decide +kernel
theorem dX8_enters_15 : decode cX8_enters 15 = .ok (.aload_n 0, 1) := by decide +kernel
theorem dX8_enters_16 : decode cX8_enters 16 = .ok (.getfield 68, 3) := by decide +kernel
theorem dX8_enters_19 : decode cX8_enters 19 = .ok (.iload_n 1, 1) := by decide +kernel
theorem dX8_enters_20 : decode cX8_enters 20 = .ok (.iload 5, 2) := by decide +kernel
theorem dX8_enters_22 : decode cX8_enters 22 = .ok (.iastore, 1) := by decide +kernel
theorem dX8_enters_23 : decode cX8_enters 23 = .ok (.aload_n 0, 1) := by decide +kernel
theorem dX8_enters_24 : decode cX8_enters 24 = .ok (.getfield 71, 3) := by decide +kernel
theorem dX8_enters_27 : decode cX8_enters 27 = .ok (.iload_n 1, 1) := by decide +kernel
theorem dX8_enters_28 : decode cX8_enters 28 = .ok (.bipush (-2), 2) := by decide +kernel
theorem dX8_enters_30 : decode cX8_enters 30 = .ok (.iastore, 1) := by decide +kernel
theorem dX8_enters_31 : decode cX8_enters 31 = .ok (.return_, 1) := by decide +kernel
theorem dX8_mayPick_0 : decode cX8_mayPick 0 = .ok (.iload_n 2, 1) := by decide +kernel
theorem dX8_mayPick_1 : decode cX8_mayPick 1 = .ok (.iconst (-1), 1) := by decide +kernel
theorem dX8_mayPick_2 : decode cX8_mayPick 2 = .ok (.if_icmp .eq 32, 3) := by decide +kernel
theorem dX8_mayPick_5 : decode cX8_mayPick 5 = .ok (.aload_n 0, 1) := by decide +kernel
theorem dX8_mayPick_6 : decode cX8_mayPick 6 = .ok (.iload_n 2, 1) := by decide +kernel
theorem dX8_mayPick_7 : decode cX8_mayPick 7 = .ok (.aload_n 0, 1) := by decide +kernel
theorem dX8_mayPick_8 : decode cX8_mayPick 8 = .ok (.getfield 40, 3) := by decide +kernel
theorem dX8_mayPick_11 : decode cX8_mayPick 11 = .ok (.iload_n 1, 1) := by decide +kernel
theorem dX8_mayPick_12 : decode cX8_mayPick 12 = .ok (.iaload, 1) := by decide +kernel
theorem dX8_mayPick_13 : decode cX8_mayPick 13 = .ok (.invokevirtual 173, 3) := by decide +kernel
theorem dX8_mayPick_16 : decode cX8_mayPick 16 = .ok (.ifCond .eq 22, 3) := by decide +kernel
theorem dX8_mayPick_19 : decode cX8_mayPick 19 = .ok (.aload_n 0, 1) := by decide +kernel
theorem dX8_mayPick_20 : decode cX8_mayPick 20 = .ok (.iload_n 1, 1) := by decide +kernel
theorem dX8_mayPick_21 : decode cX8_mayPick 21 = .ok (.iload_n 2, 1) := by decide +kernel
theorem dX8_mayPick_22 : decode cX8_mayPick 22 = .ok (.invokevirtual 177, 3) := by decide +kernel
theorem dX8_mayPick_25 : decode cX8_mayPick 25 = .ok (.aload_n 0, 1) := by decide +kernel
theorem dX8_mayPick_26 : decode cX8_mayPick 26 = .ok (.getfield 34, 3) := by decide +kernel
theorem dX8_mayPick_29 : decode cX8_mayPick 29 = .ok (.iconst 2, 1) := by decide +kernel
theorem dX8_mayPick_30 : decode cX8_mayPick 30 = .ok (.iaload, 1) := by decide +kernel
theorem dX8_mayPick_31 : decode cX8_mayPick 31 = .ok (.if_icmp .gt 7, 3) := by decide +kernel
theorem dX8_mayPick_34 : decode cX8_mayPick 34 = .ok (.iconst 1, 1) := by decide +kernel
theorem dX8_mayPick_35 : decode cX8_mayPick 35 = .ok (.goto 4, 3) := by decide +kernel
theorem dX8_mayPick_38 : decode cX8_mayPick 38 = .ok (.iconst 0, 1) := by decide +kernel
theorem dX8_mayPick_39 : decode cX8_mayPick 39 = .ok (.ireturn, 1) := by decide +kernel
theorem dX8_gameOf_0 : decode cX8_gameOf 0 = .ok (.aload_n 0, 1) := by decide +kernel
theorem dX8_gameOf_1 : decode cX8_gameOf 1 = .ok (.iload_n 1, 1) := by decide +kernel
theorem dX8_gameOf_2 : decode cX8_gameOf 2 = .ok (.invokevirtual 200, 3) := by decide +kernel
theorem dX8_gameOf_5 : decode cX8_gameOf 5 = .ok (.pop, 1) := by decide +kernel
theorem dX8_gameOf_6 : decode cX8_gameOf 6 = .ok (.iconst 0, 1) := by decide +kernel
theorem dX8_gameOf_7 : decode cX8_gameOf 7 = .ok (.istore 4, 2) := by decide +kernel
theorem dX8_gameOf_9 : decode cX8_gameOf 9 = .ok (.iconst (-1), 1) := by decide +kernel
theorem dX8_gameOf_10 : decode cX8_gameOf 10 = .ok (.istore 5, 2) := by decide +kernel
theorem dX8_gameOf_12 : decode cX8_gameOf 12 = .ok (.iconst 0, 1) := by decide +kernel
theorem dX8_gameOf_13 : decode cX8_gameOf 13 = .ok (.istore 6, 2) := by decide +kernel
theorem dX8_gameOf_15 : decode cX8_gameOf 15 = .ok (.aload_n 0, 1) := by decide +kernel
theorem dX8_gameOf_16 : decode cX8_gameOf 16 = .ok (.iconst 0, 1) := by decide +kernel
theorem dX8_gameOf_17 : decode cX8_gameOf 17 = .ok (.aload_n 0, 1) := by decide +kernel
theorem dX8_gameOf_18 : decode cX8_gameOf 18 = .ok (.invokevirtual 220, 3) := by decide +kernel
theorem dX8_gameOf_21 : decode cX8_gameOf 21 = .ok (.aload_n 0, 1) := by decide +kernel
theorem dX8_gameOf_22 : decode cX8_gameOf 22 = .ok (.getfield 162, 3) := by decide +kernel
theorem dX8_gameOf_25 : decode cX8_gameOf 25 = .ok (.iconst 0, 1) := by decide +kernel
theorem dX8_gameOf_26 : decode cX8_gameOf 26 = .ok (.invokevirtual 248, 3) := by decide +kernel
theorem dX8_gameOf_29 : decode cX8_gameOf 29 = .ok (.iload 4, 2) := by decide +kernel
theorem dX8_gameOf_31 : decode cX8_gameOf 31 = .ok (.ifCond .lt 396, 3) := by decide +kernel
theorem dX8_gameOf_34 : decode cX8_gameOf 34 = .ok (.iload 4, 2) := by decide +kernel
theorem dX8_gameOf_36 : decode cX8_gameOf 36 = .ok (.iconst 2, 1) := by decide +kernel
theorem dX8_gameOf_37 : decode cX8_gameOf 37 = .ok (.irem, 1) := by decide +kernel
theorem dX8_gameOf_38 : decode cX8_gameOf 38 = .ok (.istore 7, 2) := by decide +kernel
theorem dX8_gameOf_40 : decode cX8_gameOf 40 = .ok (.aload_n 0, 1) := by decide +kernel
theorem dX8_gameOf_41 : decode cX8_gameOf 41 = .ok (.aload_n 0, 1) := by decide +kernel
theorem dX8_gameOf_42 : decode cX8_gameOf 42 = .ok (.getfield 62, 3) := by decide +kernel
theorem dX8_gameOf_45 : decode cX8_gameOf 45 = .ok (.iload 4, 2) := by decide +kernel
theorem dX8_gameOf_47 : decode cX8_gameOf 47 = .ok (.laload, 1) := by decide +kernel
theorem dX8_gameOf_48 : decode cX8_gameOf 48 = .ok (.invokevirtual 228, 3) := by decide +kernel
theorem dX8_gameOf_51 : decode cX8_gameOf 51 = .ok (.aload_n 0, 1) := by decide +kernel
theorem dX8_gameOf_52 : decode cX8_gameOf 52 = .ok (.getfield 71, 3) := by decide +kernel
theorem dX8_gameOf_55 : decode cX8_gameOf 55 = .ok (.iload 4, 2) := by decide +kernel
theorem dX8_gameOf_57 : decode cX8_gameOf 57 = .ok (.dup2, 1) := by decide +kernel
theorem dX8_gameOf_58 : decode cX8_gameOf 58 = .ok (.iaload, 1) := by decide +kernel
theorem dX8_gameOf_59 : decode cX8_gameOf 59 = .ok (.iconst 1, 1) := by decide +kernel
theorem dX8_gameOf_60 : decode cX8_gameOf 60 = .ok (.iadd, 1) := by decide +kernel
theorem dX8_gameOf_61 : decode cX8_gameOf 61 = .ok (.iastore, 1) := by decide +kernel
theorem dX8_gameOf_62 : decode cX8_gameOf 62 = .ok (.aload_n 0, 1) := by decide +kernel
theorem dX8_gameOf_63 : decode cX8_gameOf 63 = .ok (.getfield 71, 3) := by decide +kernel
theorem dX8_gameOf_66 : decode cX8_gameOf 66 = .ok (.iload 4, 2) := by decide +kernel
theorem dX8_gameOf_68 : decode cX8_gameOf 68 = .ok (.iaload, 1) := by decide +kernel
theorem dX8_gameOf_69 : decode cX8_gameOf 69 = .ok (.ifCond .lt 47, 3) := by decide +kernel
theorem dX8_gameOf_72 : decode cX8_gameOf 72 = .ok (.aload_n 0, 1) := by decide +kernel
theorem dX8_gameOf_73 : decode cX8_gameOf 73 = .ok (.getfield 71, 3) := by decide +kernel
theorem dX8_gameOf_76 : decode cX8_gameOf 76 = .ok (.iload 4, 2) := by decide +kernel
theorem dX8_gameOf_78 : decode cX8_gameOf 78 = .ok (.iaload, 1) := by decide +kernel
theorem dX8_gameOf_79 : decode cX8_gameOf 79 = .ok (.aload_n 0, 1) := by decide +kernel
theorem dX8_gameOf_80 : decode cX8_gameOf 80 = .ok (.getfield 111, 3) := by decide +kernel
theorem dX8_gameOf_83 : decode cX8_gameOf 83 = .ok (.if_icmp .ge 33, 3) := by decide +kernel
theorem dX8_gameOf_86 : decode cX8_gameOf 86 = .ok (.aload_n 0, 1) := by decide +kernel
theorem dX8_gameOf_87 : decode cX8_gameOf 87 = .ok (.iload 7, 2) := by decide +kernel
theorem dX8_gameOf_89 : decode cX8_gameOf 89 = .ok (.aload_n 0, 1) := by decide +kernel
theorem dX8_gameOf_90 : decode cX8_gameOf 90 = .ok (.getfield 71, 3) := by decide +kernel
theorem dX8_gameOf_93 : decode cX8_gameOf 93 = .ok (.iload 4, 2) := by decide +kernel
theorem dX8_gameOf_95 : decode cX8_gameOf 95 = .ok (.iaload, 1) := by decide +kernel
theorem dX8_gameOf_96 : decode cX8_gameOf 96 = .ok (.invokevirtual 252, 3) := by decide +kernel
theorem dX8_gameOf_99 : decode cX8_gameOf 99 = .ok (.ifCond .ne 17, 3) := by decide +kernel
theorem dX8_gameOf_102 : decode cX8_gameOf 102 = .ok (.aload_n 0, 1) := by decide +kernel
theorem dX8_gameOf_103 : decode cX8_gameOf 103 = .ok (.getfield 71, 3) := by decide +kernel
theorem dX8_gameOf_106 : decode cX8_gameOf 106 = .ok (.iload 4, 2) := by decide +kernel
theorem dX8_gameOf_108 : decode cX8_gameOf 108 = .ok (.dup2, 1) := by decide +kernel
theorem dX8_gameOf_109 : decode cX8_gameOf 109 = .ok (.iaload, 1) := by decide +kernel
theorem dX8_gameOf_110 : decode cX8_gameOf 110 = .ok (.iconst 1, 1) := by decide +kernel
theorem dX8_gameOf_111 : decode cX8_gameOf 111 = .ok (.iadd, 1) := by decide +kernel
theorem dX8_gameOf_112 : decode cX8_gameOf 112 = .ok (.iastore, 1) := by decide +kernel
theorem dX8_gameOf_113 : decode cX8_gameOf 113 = .ok (.goto (-51), 3) := by decide +kernel
theorem dX8_gameOf_116 : decode cX8_gameOf 116 = .ok (.iload 4, 2) := by decide +kernel
theorem dX8_gameOf_118 : decode cX8_gameOf 118 = .ok (.iload_n 2, 1) := by decide +kernel
theorem dX8_gameOf_119 : decode cX8_gameOf 119 = .ok (.if_icmp .eq 27, 3) := by decide +kernel
theorem dX8_gameOf_122 : decode cX8_gameOf 122 = .ok (.aload_n 0, 1) := by decide +kernel
theorem dX8_gameOf_123 : decode cX8_gameOf 123 = .ok (.getfield 71, 3) := by decide +kernel
theorem dX8_gameOf_126 : decode cX8_gameOf 126 = .ok (.iload 4, 2) := by decide +kernel
theorem dX8_gameOf_128 : decode cX8_gameOf 128 = .ok (.iaload, 1) := by decide +kernel
theorem dX8_gameOf_129 : decode cX8_gameOf 129 = .ok (.ifCond .lt 21, 3) := by decide +kernel
theorem dX8_gameOf_132 : decode cX8_gameOf 132 = .ok (.aload_n 0, 1) := by decide +kernel
theorem dX8_gameOf_133 : decode cX8_gameOf 133 = .ok (.getfield 71, 3) := by decide +kernel
theorem dX8_gameOf_136 : decode cX8_gameOf 136 = .ok (.iload 4, 2) := by decide +kernel
theorem dX8_gameOf_138 : decode cX8_gameOf 138 = .ok (.iaload, 1) := by decide +kernel
theorem dX8_gameOf_139 : decode cX8_gameOf 139 = .ok (.aload_n 0, 1) := by decide +kernel
theorem dX8_gameOf_140 : decode cX8_gameOf 140 = .ok (.getfield 111, 3) := by decide +kernel
theorem dX8_gameOf_143 : decode cX8_gameOf 143 = .ok (.if_icmp .lt 7, 3) := by decide +kernel
theorem dX8_gameOf_146 : decode cX8_gameOf 146 = .ok (.iconst 1, 1) := by decide +kernel
theorem dX8_gameOf_147 : decode cX8_gameOf 147 = .ok (.goto 4, 3) := by decide +kernel
theorem dX8_gameOf_150 : decode cX8_gameOf 150 = .ok (.iconst 0, 1) := by decide +kernel
theorem dX8_gameOf_151 : decode cX8_gameOf 151 = .ok (.istore 8, 2) := by decide +kernel
theorem dX8_gameOf_153 : decode cX8_gameOf 153 = .ok (.iload 8, 2) := by decide +kernel
theorem dX8_gameOf_155 : decode cX8_gameOf 155 = .ok (.ifCond .eq 150, 3) := by decide +kernel
theorem dX8_gameOf_158 : decode cX8_gameOf 158 = .ok (.iload 4, 2) := by decide +kernel
theorem dX8_gameOf_160 : decode cX8_gameOf 160 = .ok (.iload_n 2, 1) := by decide +kernel
theorem dX8_gameOf_161 : decode cX8_gameOf 161 = .ok (.if_icmp .ne 13, 3) := by decide +kernel
theorem dX8_gameOf_164 : decode cX8_gameOf 164 = .ok (.aload_n 0, 1) := by decide +kernel
theorem dX8_gameOf_165 : decode cX8_gameOf 165 = .ok (.getfield 68, 3) := by decide +kernel
theorem dX8_gameOf_168 : decode cX8_gameOf 168 = .ok (.iload 4, 2) := by decide +kernel
theorem dX8_gameOf_170 : decode cX8_gameOf 170 = .ok (.iaload, 1) := by decide +kernel
theorem dX8_gameOf_171 : decode cX8_gameOf 171 = .ok (.goto 10, 3) := by decide +kernel
theorem dX8_gameOf_174 : decode cX8_gameOf 174 = .ok (.aload_n 0, 1) := by decide +kernel
theorem dX8_gameOf_175 : decode cX8_gameOf 175 = .ok (.getfield 74, 3) := by decide +kernel
theorem dX8_gameOf_178 : decode cX8_gameOf 178 = .ok (.iload 4, 2) := by decide +kernel
theorem dX8_gameOf_180 : decode cX8_gameOf 180 = .ok (.iaload, 1) := by decide +kernel
theorem dX8_gameOf_181 : decode cX8_gameOf 181 = .ok (.istore 6, 2) := by decide +kernel
theorem dX8_gameOf_183 : decode cX8_gameOf 183 = .ok (.iinc 4 (-1), 3) := by decide +kernel
theorem dX8_gameOf_186 : decode cX8_gameOf 186 = .ok (.iload 4, 2) := by decide +kernel
theorem dX8_gameOf_188 : decode cX8_gameOf 188 = .ok (.ifCond .lt 236, 3) := by decide +kernel
theorem dX8_gameOf_191 : decode cX8_gameOf 191 = .ok (.aload_n 0, 1) := by decide +kernel
theorem dX8_gameOf_192 : decode cX8_gameOf 192 = .ok (.getfield 71, 3) := by decide +kernel
theorem dX8_gameOf_195 : decode cX8_gameOf 195 = .ok (.iload 4, 2) := by decide +kernel
theorem dX8_gameOf_197 : decode cX8_gameOf 197 = .ok (.iaload, 1) := by decide +kernel
theorem dX8_gameOf_198 : decode cX8_gameOf 198 = .ok (.iconst (-1), 1) := by decide +kernel
theorem dX8_gameOf_199 : decode cX8_gameOf 199 = .ok (.if_icmp .ne 7, 3) := by decide +kernel
theorem dX8_gameOf_202 : decode cX8_gameOf 202 = .ok (.iconst 1, 1) := by decide +kernel
theorem dX8_gameOf_203 : decode cX8_gameOf 203 = .ok (.goto 4, 3) := by decide +kernel
theorem dX8_gameOf_206 : decode cX8_gameOf 206 = .ok (.iconst 0, 1) := by decide +kernel
theorem dX8_gameOf_207 : decode cX8_gameOf 207 = .ok (.istore 9, 2) := by decide +kernel
theorem dX8_gameOf_209 : decode cX8_gameOf 209 = .ok (.iload 9, 2) := by decide +kernel
theorem dX8_gameOf_211 : decode cX8_gameOf 211 = .ok (.ifCond .ne 37, 3) := by decide +kernel
theorem dX8_gameOf_214 : decode cX8_gameOf 214 = .ok (.iload 4, 2) := by decide +kernel
theorem dX8_gameOf_216 : decode cX8_gameOf 216 = .ok (.iconst 2, 1) := by decide +kernel
theorem dX8_gameOf_217 : decode cX8_gameOf 217 = .ok (.irem, 1) := by decide +kernel
theorem dX8_gameOf_218 : decode cX8_gameOf 218 = .ok (.ifCond .ne 18, 3) := by decide +kernel
theorem dX8_gameOf_221 : decode cX8_gameOf 221 = .ok (.iload 6, 2) := by decide +kernel
theorem dX8_gameOf_223 : decode cX8_gameOf 223 = .ok (.aload_n 0, 1) := by decide +kernel
theorem dX8_gameOf_224 : decode cX8_gameOf 224 = .ok (.getfield 74, 3) := by decide +kernel
theorem dX8_gameOf_227 : decode cX8_gameOf 227 = .ok (.iload 4, 2) := by decide +kernel
theorem dX8_gameOf_229 : decode cX8_gameOf 229 = .ok (.iaload, 1) := by decide +kernel
theorem dX8_gameOf_230 : decode cX8_gameOf 230 = .ok (.if_icmp .le 22, 3) := by decide +kernel
theorem dX8_gameOf_233 : decode cX8_gameOf 233 = .ok (.goto 15, 3) := by decide +kernel
theorem dX8_gameOf_236 : decode cX8_gameOf 236 = .ok (.iload 6, 2) := by decide +kernel
theorem dX8_gameOf_238 : decode cX8_gameOf 238 = .ok (.aload_n 0, 1) := by decide +kernel
theorem dX8_gameOf_239 : decode cX8_gameOf 239 = .ok (.getfield 74, 3) := by decide +kernel
theorem dX8_gameOf_242 : decode cX8_gameOf 242 = .ok (.iload 4, 2) := by decide +kernel
theorem dX8_gameOf_244 : decode cX8_gameOf 244 = .ok (.iaload, 1) := by decide +kernel
theorem dX8_gameOf_245 : decode cX8_gameOf 245 = .ok (.if_icmp .ge 7, 3) := by decide +kernel
theorem dX8_gameOf_248 : decode cX8_gameOf 248 = .ok (.iconst 1, 1) := by decide +kernel
theorem dX8_gameOf_249 : decode cX8_gameOf 249 = .ok (.goto 4, 3) := by decide +kernel
theorem dX8_gameOf_252 : decode cX8_gameOf 252 = .ok (.iconst 0, 1) := by decide +kernel
theorem dX8_gameOf_253 : decode cX8_gameOf 253 = .ok (.istore 10, 2) := by decide +kernel
theorem dX8_gameOf_255 : decode cX8_gameOf 255 = .ok (.iload 10, 2) := by decide +kernel
theorem dX8_gameOf_257 : decode cX8_gameOf 257 = .ok (.ifCond .eq 17, 3) := by decide +kernel
theorem dX8_gameOf_260 : decode cX8_gameOf 260 = .ok (.iload 4, 2) := by decide +kernel
theorem dX8_gameOf_262 : decode cX8_gameOf 262 = .ok (.ifCond .ne 12, 3) := by decide +kernel
theorem dX8_gameOf_265 : decode cX8_gameOf 265 = .ok (.aload_n 0, 1) := by decide +kernel
theorem dX8_gameOf_266 : decode cX8_gameOf 266 = .ok (.getfield 71, 3) := by decide +kernel
theorem dX8_gameOf_269 : decode cX8_gameOf 269 = .ok (.iconst 0, 1) := by decide +kernel
theorem dX8_gameOf_270 : decode cX8_gameOf 270 = .ok (.iaload, 1) := by decide +kernel
theorem dX8_gameOf_271 : decode cX8_gameOf 271 = .ok (.goto 5, 3) := by decide +kernel
theorem dX8_gameOf_274 : decode cX8_gameOf 274 = .ok (.iload 5, 2) := by decide +kernel
theorem dX8_gameOf_276 : decode cX8_gameOf 276 = .ok (.istore 5, 2) := by decide +kernel
theorem dX8_gameOf_278 : decode cX8_gameOf 278 = .ok (.aload_n 0, 1) := by decide +kernel
theorem dX8_gameOf_279 : decode cX8_gameOf 279 = .ok (.getfield 74, 3) := by decide +kernel
theorem dX8_gameOf_282 : decode cX8_gameOf 282 = .ok (.iload 4, 2) := by decide +kernel
theorem dX8_gameOf_284 : decode cX8_gameOf 284 = .ok (.iload 10, 2) := by decide +kernel
theorem dX8_gameOf_286 : decode cX8_gameOf 286 = .ok (.ifCond .eq 8, 3) := by decide +kernel
theorem dX8_gameOf_289 : decode cX8_gameOf 289 = .ok (.iload 6, 2) := by decide +kernel
theorem dX8_gameOf_291 : decode cX8_gameOf 291 = .ok (.goto 10, 3) := by decide +kernel
theorem dX8_gameOf_294 : decode cX8_gameOf 294 = .ok (.aload_n 0, 1) := by decide +kernel
theorem dX8_gameOf_295 : decode cX8_gameOf 295 = .ok (.getfield 74, 3) := by decide +kernel
theorem dX8_gameOf_298 : decode cX8_gameOf 298 = .ok (.iload 4, 2) := by decide +kernel
theorem dX8_gameOf_300 : decode cX8_gameOf 300 = .ok (.iaload, 1) := by decide +kernel
theorem dX8_gameOf_301 : decode cX8_gameOf 301 = .ok (.iastore, 1) := by decide +kernel
theorem dX8_gameOf_302 : decode cX8_gameOf 302 = .ok (.goto 122, 3) := by decide +kernel
theorem dX8_gameOf_305 : decode cX8_gameOf 305 = .ok (.aload_n 0, 1) := by decide +kernel
theorem dX8_gameOf_306 : decode cX8_gameOf 306 = .ok (.getfield 71, 3) := by decide +kernel
theorem dX8_gameOf_309 : decode cX8_gameOf 309 = .ok (.iload 4, 2) := by decide +kernel
theorem dX8_gameOf_311 : decode cX8_gameOf 311 = .ok (.iaload, 1) := by decide +kernel
theorem dX8_gameOf_312 : decode cX8_gameOf 312 = .ok (.istore 9, 2) := by decide +kernel
theorem dX8_gameOf_314 : decode cX8_gameOf 314 = .ok (.aload_n 0, 1) := by decide +kernel
theorem dX8_gameOf_315 : decode cX8_gameOf 315 = .ok (.getfield 68, 3) := by decide +kernel
theorem dX8_gameOf_318 : decode cX8_gameOf 318 = .ok (.iload 4, 2) := by decide +kernel
theorem dX8_gameOf_320 : decode cX8_gameOf 320 = .ok (.iaload, 1) := by decide +kernel
theorem dX8_gameOf_321 : decode cX8_gameOf 321 = .ok (.istore 10, 2) := by decide +kernel
theorem dX8_gameOf_323 : decode cX8_gameOf 323 = .ok (.aload_n 0, 1) := by decide +kernel
theorem dX8_gameOf_324 : decode cX8_gameOf 324 = .ok (.getfield 65, 3) := by decide +kernel
theorem dX8_gameOf_327 : decode cX8_gameOf 327 = .ok (.iload 4, 2) := by decide +kernel
theorem dX8_gameOf_329 : decode cX8_gameOf 329 = .ok (.iaload, 1) := by decide +kernel
theorem dX8_gameOf_330 : decode cX8_gameOf 330 = .ok (.istore 11, 2) := by decide +kernel
theorem dX8_gameOf_332 : decode cX8_gameOf 332 = .ok (.iload 9, 2) := by decide +kernel
theorem dX8_gameOf_334 : decode cX8_gameOf 334 = .ok (.iconst (-1), 1) := by decide +kernel
theorem dX8_gameOf_335 : decode cX8_gameOf 335 = .ok (.if_icmp .eq 70, 3) := by decide +kernel
theorem dX8_gameOf_338 : decode cX8_gameOf 338 = .ok (.aload_n 0, 1) := by decide +kernel
theorem dX8_gameOf_339 : decode cX8_gameOf 339 = .ok (.iload 7, 2) := by decide +kernel
theorem dX8_gameOf_341 : decode cX8_gameOf 341 = .ok (.iload 9, 2) := by decide +kernel
theorem dX8_gameOf_343 : decode cX8_gameOf 343 = .ok (.invokevirtual 180, 3) := by decide +kernel
theorem dX8_gameOf_346 : decode cX8_gameOf 346 = .ok (.aload_n 0, 1) := by decide +kernel
theorem dX8_gameOf_347 : decode cX8_gameOf 347 = .ok (.getfield 40, 3) := by decide +kernel
theorem dX8_gameOf_350 : decode cX8_gameOf 350 = .ok (.iload 7, 2) := by decide +kernel
theorem dX8_gameOf_352 : decode cX8_gameOf 352 = .ok (.iaload, 1) := by decide +kernel
theorem dX8_gameOf_353 : decode cX8_gameOf 353 = .ok (.istore 12, 2) := by decide +kernel
theorem dX8_gameOf_355 : decode cX8_gameOf 355 = .ok (.iload 11, 2) := by decide +kernel
theorem dX8_gameOf_357 : decode cX8_gameOf 357 = .ok (.iload 12, 2) := by decide +kernel
theorem dX8_gameOf_359 : decode cX8_gameOf 359 = .ok (.ishr, 1) := by decide +kernel
theorem dX8_gameOf_360 : decode cX8_gameOf 360 = .ok (.iconst 1, 1) := by decide +kernel
theorem dX8_gameOf_361 : decode cX8_gameOf 361 = .ok (.iand, 1) := by decide +kernel
theorem dX8_gameOf_362 : decode cX8_gameOf 362 = .ok (.ifCond .ne 13, 3) := by decide +kernel
theorem dX8_gameOf_365 : decode cX8_gameOf 365 = .ok (.aload_n 0, 1) := by decide +kernel
theorem dX8_gameOf_366 : decode cX8_gameOf 366 = .ok (.getfield 37, 3) := by decide +kernel
theorem dX8_gameOf_369 : decode cX8_gameOf 369 = .ok (.iload 12, 2) := by decide +kernel
theorem dX8_gameOf_371 : decode cX8_gameOf 371 = .ok (.iaload, 1) := by decide +kernel
theorem dX8_gameOf_372 : decode cX8_gameOf 372 = .ok (.goto 4, 3) := by decide +kernel
theorem dX8_gameOf_375 : decode cX8_gameOf 375 = .ok (.iconst 0, 1) := by decide +kernel
theorem dX8_gameOf_376 : decode cX8_gameOf 376 = .ok (.istore 13, 2) := by decide +kernel
theorem dX8_gameOf_378 : decode cX8_gameOf 378 = .ok (.iload 10, 2) := by decide +kernel
theorem dX8_gameOf_380 : decode cX8_gameOf 380 = .ok (.iload 7, 2) := by decide +kernel
theorem dX8_gameOf_382 : decode cX8_gameOf 382 = .ok (.ifCond .ne 8, 3) := by decide +kernel
theorem dX8_gameOf_385 : decode cX8_gameOf 385 = .ok (.iload 13, 2) := by decide +kernel
theorem dX8_gameOf_387 : decode cX8_gameOf 387 = .ok (.goto 6, 3) := by decide +kernel
theorem dX8_gameOf_390 : decode cX8_gameOf 390 = .ok (.iload 13, 2) := by decide +kernel
theorem dX8_gameOf_392 : decode cX8_gameOf 392 = .ok (.ineg, 1) := by decide +kernel
theorem dX8_gameOf_393 : decode cX8_gameOf 393 = .ok (.iadd, 1) := by decide +kernel
theorem dX8_gameOf_394 : decode cX8_gameOf 394 = .ok (.istore 10, 2) := by decide +kernel
theorem dX8_gameOf_396 : decode cX8_gameOf 396 = .ok (.iload 11, 2) := by decide +kernel
theorem dX8_gameOf_398 : decode cX8_gameOf 398 = .ok (.iconst 1, 1) := by decide +kernel
theorem dX8_gameOf_399 : decode cX8_gameOf 399 = .ok (.iload 12, 2) := by decide +kernel
theorem dX8_gameOf_401 : decode cX8_gameOf 401 = .ok (.ishl, 1) := by decide +kernel
theorem dX8_gameOf_402 : decode cX8_gameOf 402 = .ok (.ior, 1) := by decide +kernel
theorem dX8_gameOf_403 : decode cX8_gameOf 403 = .ok (.istore 11, 2) := by decide +kernel
theorem dX8_gameOf_405 : decode cX8_gameOf 405 = .ok (.aload_n 0, 1) := by decide +kernel
theorem dX8_gameOf_406 : decode cX8_gameOf 406 = .ok (.iload 4, 2) := by decide +kernel
theorem dX8_gameOf_408 : decode cX8_gameOf 408 = .ok (.iconst 1, 1) := by decide +kernel
theorem dX8_gameOf_409 : decode cX8_gameOf 409 = .ok (.iadd, 1) := by decide +kernel
theorem dX8_gameOf_410 : decode cX8_gameOf 410 = .ok (.aload_n 0, 1) := by decide +kernel
theorem dX8_gameOf_411 : decode cX8_gameOf 411 = .ok (.invokevirtual 220, 3) := by decide +kernel
theorem dX8_gameOf_414 : decode cX8_gameOf 414 = .ok (.iload 11, 2) := by decide +kernel
theorem dX8_gameOf_416 : decode cX8_gameOf 416 = .ok (.iload 10, 2) := by decide +kernel
theorem dX8_gameOf_418 : decode cX8_gameOf 418 = .ok (.invokevirtual 248, 3) := by decide +kernel
theorem dX8_gameOf_421 : decode cX8_gameOf 421 = .ok (.iinc 4 1, 3) := by decide +kernel
theorem dX8_gameOf_424 : decode cX8_gameOf 424 = .ok (.goto (-395), 3) := by decide +kernel
theorem dX8_gameOf_427 : decode cX8_gameOf 427 = .ok (.iload_n 3, 1) := by decide +kernel
theorem dX8_gameOf_428 : decode cX8_gameOf 428 = .ok (.ifCond .ne 8, 3) := by decide +kernel
theorem dX8_gameOf_431 : decode cX8_gameOf 431 = .ok (.iload 6, 2) := by decide +kernel
theorem dX8_gameOf_433 : decode cX8_gameOf 433 = .ok (.goto 5, 3) := by decide +kernel
theorem dX8_gameOf_436 : decode cX8_gameOf 436 = .ok (.iload 5, 2) := by decide +kernel
theorem dX8_gameOf_438 : decode cX8_gameOf 438 = .ok (.ireturn, 1) := by decide +kernel
theorem dX8_game_0 : decode cX8_game 0 = .ok (.aload_n 0, 1) := by decide +kernel
theorem dX8_game_1 : decode cX8_game 1 = .ok (.invokevirtual 129, 3) := by decide +kernel
theorem dX8_game_4 : decode cX8_game 4 = .ok (.pop, 1) := by decide +kernel
theorem dX8_game_5 : decode cX8_game 5 = .ok (.iload_n 1, 1) := by decide +kernel
theorem dX8_game_6 : decode cX8_game 6 = .ok (.invokestatic 135, 3) := by decide +kernel
theorem dX8_game_9 : decode cX8_game 9 = .ok (.ifCond .eq 32, 3) := by decide +kernel
theorem dX8_game_12 : decode cX8_game 12 = .ok (.iload_n 2, 1) := by decide +kernel
theorem dX8_game_13 : decode cX8_game 13 = .ok (.i2l, 1) := by decide +kernel
theorem dX8_game_14 : decode cX8_game 14 = .ok (.lconst 1, 1) := by decide +kernel
theorem dX8_game_15 : decode cX8_game 15 = .ok (.ldc2_w 255, 3) := by decide +kernel
theorem dX8_game_18 : decode cX8_game 18 = .ok (.invokestatic 77, 3) := by decide +kernel
theorem dX8_game_21 : decode cX8_game 21 = .ok (.ifCond .eq 20, 3) := by decide +kernel
theorem dX8_game_24 : decode cX8_game 24 = .ok (.iload_n 3, 1) := by decide +kernel
theorem dX8_game_25 : decode cX8_game 25 = .ok (.invokestatic 135, 3) := by decide +kernel
theorem dX8_game_28 : decode cX8_game 28 = .ok (.ifCond .eq 13, 3) := by decide +kernel
theorem dX8_game_31 : decode cX8_game 31 = .ok (.aload_n 0, 1) := by decide +kernel
theorem dX8_game_32 : decode cX8_game 32 = .ok (.iload_n 1, 1) := by decide +kernel
theorem dX8_game_33 : decode cX8_game 33 = .ok (.iload_n 2, 1) := by decide +kernel
theorem dX8_game_34 : decode cX8_game 34 = .ok (.iload_n 3, 1) := by decide +kernel
theorem dX8_game_35 : decode cX8_game 35 = .ok (.invokevirtual 257, 3) := by decide +kernel
theorem dX8_game_38 : decode cX8_game 38 = .ok (.goto 6, 3) := by decide +kernel
theorem dX8_game_41 : decode cX8_game 41 = .ok (.sipush (-10002), 3) := by decide +kernel
theorem dX8_game_44 : decode cX8_game 44 = .ok (.ireturn, 1) := by decide +kernel
theorem dX8_alikeNow_0 : decode cX8_alikeNow 0 = .ok (.aload_n 0, 1) := by decide +kernel
theorem dX8_alikeNow_1 : decode cX8_alikeNow 1 = .ok (.iconst 0, 1) := by decide +kernel
theorem dX8_alikeNow_2 : decode cX8_alikeNow 2 = .ok (.invokevirtual 200, 3) := by decide +kernel
theorem dX8_alikeNow_5 : decode cX8_alikeNow 5 = .ok (.pop, 1) := by decide +kernel
theorem dX8_alikeNow_6 : decode cX8_alikeNow 6 = .ok (.aload_n 0, 1) := by decide +kernel
theorem dX8_alikeNow_7 : decode cX8_alikeNow 7 = .ok (.invokevirtual 220, 3) := by decide +kernel
theorem dX8_alikeNow_10 : decode cX8_alikeNow 10 = .ok (.lstore_n 1, 1) := by decide +kernel
theorem dX8_alikeNow_11 : decode cX8_alikeNow 11 = .ok (.aload_n 0, 1) := by decide +kernel
theorem dX8_alikeNow_12 : decode cX8_alikeNow 12 = .ok (.getfield 40, 3) := by decide +kernel
theorem dX8_alikeNow_15 : decode cX8_alikeNow 15 = .ok (.iconst 0, 1) := by decide +kernel
theorem dX8_alikeNow_16 : decode cX8_alikeNow 16 = .ok (.iaload, 1) := by decide +kernel
theorem dX8_alikeNow_17 : decode cX8_alikeNow 17 = .ok (.istore_n 3, 1) := by decide +kernel
theorem dX8_alikeNow_18 : decode cX8_alikeNow 18 = .ok (.aload_n 0, 1) := by decide +kernel
theorem dX8_alikeNow_19 : decode cX8_alikeNow 19 = .ok (.getfield 40, 3) := by decide +kernel
theorem dX8_alikeNow_22 : decode cX8_alikeNow 22 = .ok (.iconst 1, 1) := by decide +kernel
theorem dX8_alikeNow_23 : decode cX8_alikeNow 23 = .ok (.iaload, 1) := by decide +kernel
theorem dX8_alikeNow_24 : decode cX8_alikeNow 24 = .ok (.istore 4, 2) := by decide +kernel
theorem dX8_alikeNow_26 : decode cX8_alikeNow 26 = .ok (.aload_n 0, 1) := by decide +kernel
theorem dX8_alikeNow_27 : decode cX8_alikeNow 27 = .ok (.iconst 1, 1) := by decide +kernel
theorem dX8_alikeNow_28 : decode cX8_alikeNow 28 = .ok (.invokevirtual 200, 3) := by decide +kernel
theorem dX8_alikeNow_31 : decode cX8_alikeNow 31 = .ok (.pop, 1) := by decide +kernel
theorem dX8_alikeNow_32 : decode cX8_alikeNow 32 = .ok (.lload_n 1, 1) := by decide +kernel
theorem dX8_alikeNow_33 : decode cX8_alikeNow 33 = .ok (.aload_n 0, 1) := by decide +kernel
theorem dX8_alikeNow_34 : decode cX8_alikeNow 34 = .ok (.invokevirtual 220, 3) := by decide +kernel
theorem dX8_alikeNow_37 : decode cX8_alikeNow 37 = .ok (.lcmp, 1) := by decide +kernel
theorem dX8_alikeNow_38 : decode cX8_alikeNow 38 = .ok (.ifCond .ne 7, 3) := by decide +kernel
theorem dX8_alikeNow_41 : decode cX8_alikeNow 41 = .ok (.iconst 1, 1) := by decide +kernel
theorem dX8_alikeNow_42 : decode cX8_alikeNow 42 = .ok (.goto 29, 3) := by decide +kernel
theorem dX8_alikeNow_45 : decode cX8_alikeNow 45 = .ok (.iload_n 3, 1) := by decide +kernel
theorem dX8_alikeNow_46 : decode cX8_alikeNow 46 = .ok (.aload_n 0, 1) := by decide +kernel
theorem dX8_alikeNow_47 : decode cX8_alikeNow 47 = .ok (.getfield 40, 3) := by decide +kernel
theorem dX8_alikeNow_50 : decode cX8_alikeNow 50 = .ok (.iconst 0, 1) := by decide +kernel
theorem dX8_alikeNow_51 : decode cX8_alikeNow 51 = .ok (.iaload, 1) := by decide +kernel
theorem dX8_alikeNow_52 : decode cX8_alikeNow 52 = .ok (.if_icmp .ne 18, 3) := by decide +kernel
theorem dX8_alikeNow_55 : decode cX8_alikeNow 55 = .ok (.iload 4, 2) := by decide +kernel
theorem dX8_alikeNow_57 : decode cX8_alikeNow 57 = .ok (.aload_n 0, 1) := by decide +kernel
theorem dX8_alikeNow_58 : decode cX8_alikeNow 58 = .ok (.getfield 40, 3) := by decide +kernel
theorem dX8_alikeNow_61 : decode cX8_alikeNow 61 = .ok (.iconst 1, 1) := by decide +kernel
theorem dX8_alikeNow_62 : decode cX8_alikeNow 62 = .ok (.iaload, 1) := by decide +kernel
theorem dX8_alikeNow_63 : decode cX8_alikeNow 63 = .ok (.if_icmp .ne 7, 3) := by decide +kernel
theorem dX8_alikeNow_66 : decode cX8_alikeNow 66 = .ok (.iconst 2, 1) := by decide +kernel
theorem dX8_alikeNow_67 : decode cX8_alikeNow 67 = .ok (.goto 4, 3) := by decide +kernel
theorem dX8_alikeNow_70 : decode cX8_alikeNow 70 = .ok (.iconst 0, 1) := by decide +kernel
theorem dX8_alikeNow_71 : decode cX8_alikeNow 71 = .ok (.ireturn, 1) := by decide +kernel
theorem dX8_alike_0 : decode cX8_alike 0 = .ok (.aload_n 0, 1) := by decide +kernel
theorem dX8_alike_1 : decode cX8_alike 1 = .ok (.invokevirtual 129, 3) := by decide +kernel
theorem dX8_alike_4 : decode cX8_alike 4 = .ok (.pop, 1) := by decide +kernel
theorem dX8_alike_5 : decode cX8_alike 5 = .ok (.aload_n 0, 1) := by decide +kernel
theorem dX8_alike_6 : decode cX8_alike 6 = .ok (.invokevirtual 260, 3) := by decide +kernel
theorem dX8_alike_9 : decode cX8_alike 9 = .ok (.ireturn, 1) := by decide +kernel
theorem dX8_write_0 : decode cX8_write 0 = .ok (.iload_n 1, 1) := by decide +kernel
theorem dX8_write_1 : decode cX8_write 1 = .ok (.invokestatic 135, 3) := by decide +kernel
theorem dX8_write_4 : decode cX8_write 4 = .ok (.ifCond .eq 10, 3) := by decide +kernel
theorem dX8_write_7 : decode cX8_write 7 = .ok (.iload_n 2, 1) := by decide +kernel
theorem dX8_write_8 : decode cX8_write 8 = .ok (.invokestatic 87, 3) := by decide +kernel
theorem dX8_write_11 : decode cX8_write 11 = .ok (.ifCond .ne 6, 3) := by decide +kernel
theorem dX8_write_14 : decode cX8_write 14 = .ok (.bipush (-2), 2) := by decide +kernel
theorem dX8_write_16 : decode cX8_write 16 = .ok (.ireturn, 1) := by decide +kernel
theorem dX8_write_17 : decode cX8_write 17 = .ok (.aload_n 0, 1) := by decide +kernel
theorem dX8_write_18 : decode cX8_write 18 = .ok (.getfield 7, 3) := by decide +kernel
theorem dX8_write_21 : decode cX8_write 21 = .ok (.iload_n 2, 1) := by decide +kernel
theorem dX8_write_22 : decode cX8_write 22 = .ok (.iaload, 1) := by decide +kernel
theorem dX8_write_23 : decode cX8_write 23 = .ok (.ifCond .ge 9, 3) := by decide +kernel
theorem dX8_write_26 : decode cX8_write 26 = .ok (.aload_n 0, 1) := by decide +kernel
theorem dX8_write_27 : decode cX8_write 27 = .ok (.iconst 1, 1) := by decide +kernel
theorem dX8_write_28 : decode cX8_write 28 = .ok (.invokevirtual 93, 3) := by decide +kernel
theorem dX8_write_31 : decode cX8_write 31 = .ok (.ireturn, 1) := by decide +kernel
theorem dX8_write_32 : decode cX8_write 32 = .ok (.aload_n 0, 1) := by decide +kernel
theorem dX8_write_33 : decode cX8_write 33 = .ok (.invokevirtual 129, 3) := by decide +kernel
theorem dX8_write_36 : decode cX8_write 36 = .ok (.pop, 1) := by decide +kernel
theorem dX8_write_37 : decode cX8_write 37 = .ok (.aload_n 0, 1) := by decide +kernel
theorem dX8_write_38 : decode cX8_write 38 = .ok (.iload_n 1, 1) := by decide +kernel
theorem dX8_write_39 : decode cX8_write 39 = .ok (.invokevirtual 200, 3) := by decide +kernel
theorem dX8_write_42 : decode cX8_write 42 = .ok (.pop, 1) := by decide +kernel
theorem dX8_write_43 : decode cX8_write 43 = .ok (.aload_n 0, 1) := by decide +kernel
theorem dX8_write_44 : decode cX8_write 44 = .ok (.getfield 13, 3) := by decide +kernel
theorem dX8_write_47 : decode cX8_write 47 = .ok (.iload_n 2, 1) := by decide +kernel
theorem dX8_write_48 : decode cX8_write 48 = .ok (.iaload, 1) := by decide +kernel
theorem dX8_write_49 : decode cX8_write 49 = .ok (.aload_n 0, 1) := by decide +kernel
theorem dX8_write_50 : decode cX8_write 50 = .ok (.getfield 150, 3) := by decide +kernel
theorem dX8_write_53 : decode cX8_write 53 = .ok (.if_icmp .ge 12, 3) := by decide +kernel
theorem dX8_write_56 : decode cX8_write 56 = .ok (.aload_n 0, 1) := by decide +kernel
theorem dX8_write_57 : decode cX8_write 57 = .ok (.getfield 13, 3) := by decide +kernel
theorem dX8_write_60 : decode cX8_write 60 = .ok (.iload_n 2, 1) := by decide +kernel
theorem dX8_write_61 : decode cX8_write 61 = .ok (.iaload, 1) := by decide +kernel
theorem dX8_write_62 : decode cX8_write 62 = .ok (.goto 7, 3) := by decide +kernel
theorem dX8_write_65 : decode cX8_write 65 = .ok (.aload_n 0, 1) := by decide +kernel
theorem dX8_write_66 : decode cX8_write 66 = .ok (.getfield 150, 3) := by decide +kernel
theorem dX8_write_69 : decode cX8_write 69 = .ok (.istore_n 3, 1) := by decide +kernel
theorem dX8_write_70 : decode cX8_write 70 = .ok (.iconst 0, 1) := by decide +kernel
theorem dX8_write_71 : decode cX8_write 71 = .ok (.istore 4, 2) := by decide +kernel
theorem dX8_write_73 : decode cX8_write 73 = .ok (.iload 4, 2) := by decide +kernel
theorem dX8_write_75 : decode cX8_write 75 = .ok (.iload_n 3, 1) := by decide +kernel
theorem dX8_write_76 : decode cX8_write 76 = .ok (.if_icmp .ge 37, 3) := by decide +kernel
theorem dX8_write_79 : decode cX8_write 79 = .ok (.aload_n 0, 1) := by decide +kernel
theorem dX8_write_80 : decode cX8_write 80 = .ok (.getfield 16, 3) := by decide +kernel
theorem dX8_write_83 : decode cX8_write 83 = .ok (.bipush 60, 2) := by decide +kernel
theorem dX8_write_85 : decode cX8_write 85 = .ok (.iload_n 2, 1) := by decide +kernel
theorem dX8_write_86 : decode cX8_write 86 = .ok (.imul, 1) := by decide +kernel
theorem dX8_write_87 : decode cX8_write 87 = .ok (.iload 4, 2) := by decide +kernel
theorem dX8_write_89 : decode cX8_write 89 = .ok (.iadd, 1) := by decide +kernel
theorem dX8_write_90 : decode cX8_write 90 = .ok (.aload_n 0, 1) := by decide +kernel
theorem dX8_write_91 : decode cX8_write 91 = .ok (.getfield 7, 3) := by decide +kernel
theorem dX8_write_94 : decode cX8_write 94 = .ok (.iload_n 2, 1) := by decide +kernel
theorem dX8_write_95 : decode cX8_write 95 = .ok (.iaload, 1) := by decide +kernel
theorem dX8_write_96 : decode cX8_write 96 = .ok (.aload_n 0, 1) := by decide +kernel
theorem dX8_write_97 : decode cX8_write 97 = .ok (.getfield 43, 3) := by decide +kernel
theorem dX8_write_100 : decode cX8_write 100 = .ok (.iload 4, 2) := by decide +kernel
theorem dX8_write_102 : decode cX8_write 102 = .ok (.iaload, 1) := by decide +kernel
theorem dX8_write_103 : decode cX8_write 103 = .ok (.invokestatic 101, 3) := by decide +kernel
theorem dX8_write_106 : decode cX8_write 106 = .ok (.iastore, 1) := by decide +kernel
theorem dX8_write_107 : decode cX8_write 107 = .ok (.iinc 4 1, 3) := by decide +kernel
theorem dX8_write_110 : decode cX8_write 110 = .ok (.goto (-37), 3) := by decide +kernel
theorem dX8_write_113 : decode cX8_write 113 = .ok (.iload_n 3, 1) := by decide +kernel
theorem dX8_write_114 : decode cX8_write 114 = .ok (.ireturn, 1) := by decide +kernel
theorem dX8_count_0 : decode cX8_count 0 = .ok (.iconst 0, 1) := by decide +kernel
theorem dX8_count_1 : decode cX8_count 1 = .ok (.istore_n 2, 1) := by decide +kernel
theorem dX8_count_2 : decode cX8_count 2 = .ok (.aload_n 0, 1) := by decide +kernel
theorem dX8_count_3 : decode cX8_count 3 = .ok (.invokevirtual 129, 3) := by decide +kernel
theorem dX8_count_6 : decode cX8_count 6 = .ok (.pop, 1) := by decide +kernel
theorem dX8_count_7 : decode cX8_count 7 = .ok (.iload_n 1, 1) := by decide +kernel
theorem dX8_count_8 : decode cX8_count 8 = .ok (.tableswitch 136 0 8 #[52, 57, 57, 57, 66, 97, 122, 122, 131], 52) := by decide +kernel
theorem dX8_count_60 : decode cX8_count 60 = .ok (.aload_n 0, 1) := by decide +kernel
theorem dX8_count_61 : decode cX8_count 61 = .ok (.getfield 111, 3) := by decide +kernel
theorem dX8_count_64 : decode cX8_count 64 = .ok (.ireturn, 1) := by decide +kernel
theorem dX8_count_65 : decode cX8_count 65 = .ok (.aload_n 0, 1) := by decide +kernel
theorem dX8_count_66 : decode cX8_count 66 = .ok (.getfield 25, 3) := by decide +kernel
theorem dX8_count_69 : decode cX8_count 69 = .ok (.iload_n 1, 1) := by decide +kernel
theorem dX8_count_70 : decode cX8_count 70 = .ok (.iconst 1, 1) := by decide +kernel
theorem dX8_count_71 : decode cX8_count 71 = .ok (.isub, 1) := by decide +kernel
theorem dX8_count_72 : decode cX8_count 72 = .ok (.iaload, 1) := by decide +kernel
theorem dX8_count_73 : decode cX8_count 73 = .ok (.ireturn, 1) := by decide +kernel
theorem dX8_count_74 : decode cX8_count 74 = .ok (.iconst 0, 1) := by decide +kernel
theorem dX8_count_75 : decode cX8_count 75 = .ok (.istore_n 3, 1) := by decide +kernel
theorem dX8_count_76 : decode cX8_count 76 = .ok (.iload_n 3, 1) := by decide +kernel
theorem dX8_count_77 : decode cX8_count 77 = .ok (.aload_n 0, 1) := by decide +kernel
theorem dX8_count_78 : decode cX8_count 78 = .ok (.getfield 111, 3) := by decide +kernel
theorem dX8_count_81 : decode cX8_count 81 = .ok (.if_icmp .ge 22, 3) := by decide +kernel
theorem dX8_count_84 : decode cX8_count 84 = .ok (.iload_n 2, 1) := by decide +kernel
theorem dX8_count_85 : decode cX8_count 85 = .ok (.aload_n 0, 1) := by decide +kernel
theorem dX8_count_86 : decode cX8_count 86 = .ok (.getfield 28, 3) := by decide +kernel
theorem dX8_count_89 : decode cX8_count 89 = .ok (.iconst 3, 1) := by decide +kernel
theorem dX8_count_90 : decode cX8_count 90 = .ok (.iload_n 3, 1) := by decide +kernel
theorem dX8_count_91 : decode cX8_count 91 = .ok (.imul, 1) := by decide +kernel
theorem dX8_count_92 : decode cX8_count 92 = .ok (.iconst 2, 1) := by decide +kernel
theorem dX8_count_93 : decode cX8_count 93 = .ok (.iadd, 1) := by decide +kernel
theorem dX8_count_94 : decode cX8_count 94 = .ok (.iaload, 1) := by decide +kernel
theorem dX8_count_95 : decode cX8_count 95 = .ok (.iadd, 1) := by decide +kernel
theorem dX8_count_96 : decode cX8_count 96 = .ok (.istore_n 2, 1) := by decide +kernel
theorem dX8_count_97 : decode cX8_count 97 = .ok (.iinc 3 1, 3) := by decide +kernel
theorem dX8_count_100 : decode cX8_count 100 = .ok (.goto (-24), 3) := by decide +kernel
theorem dX8_count_103 : decode cX8_count 103 = .ok (.iload_n 2, 1) := by decide +kernel
theorem dX8_count_104 : decode cX8_count 104 = .ok (.ireturn, 1) := by decide +kernel
theorem dX8_count_105 : decode cX8_count 105 = .ok (.iconst 0, 1) := by decide +kernel
theorem dX8_count_106 : decode cX8_count 106 = .ok (.istore_n 3, 1) := by decide +kernel
theorem dX8_count_107 : decode cX8_count 107 = .ok (.iload_n 3, 1) := by decide +kernel
theorem dX8_count_108 : decode cX8_count 108 = .ok (.bipush 8, 2) := by decide +kernel
theorem dX8_count_110 : decode cX8_count 110 = .ok (.if_icmp .ge 18, 3) := by decide +kernel
theorem dX8_count_113 : decode cX8_count 113 = .ok (.iload_n 2, 1) := by decide +kernel
theorem dX8_count_114 : decode cX8_count 114 = .ok (.aload_n 0, 1) := by decide +kernel
theorem dX8_count_115 : decode cX8_count 115 = .ok (.getfield 37, 3) := by decide +kernel
theorem dX8_count_118 : decode cX8_count 118 = .ok (.iload_n 3, 1) := by decide +kernel
theorem dX8_count_119 : decode cX8_count 119 = .ok (.iaload, 1) := by decide +kernel
theorem dX8_count_120 : decode cX8_count 120 = .ok (.iadd, 1) := by decide +kernel
theorem dX8_count_121 : decode cX8_count 121 = .ok (.istore_n 2, 1) := by decide +kernel
theorem dX8_count_122 : decode cX8_count 122 = .ok (.iinc 3 1, 3) := by decide +kernel
theorem dX8_count_125 : decode cX8_count 125 = .ok (.goto (-18), 3) := by decide +kernel
theorem dX8_count_128 : decode cX8_count 128 = .ok (.iload_n 2, 1) := by decide +kernel
theorem dX8_count_129 : decode cX8_count 129 = .ok (.ireturn, 1) := by decide +kernel
theorem dX8_count_130 : decode cX8_count 130 = .ok (.aload_n 0, 1) := by decide +kernel
theorem dX8_count_131 : decode cX8_count 131 = .ok (.iload_n 1, 1) := by decide +kernel
theorem dX8_count_132 : decode cX8_count 132 = .ok (.bipush 6, 2) := by decide +kernel
theorem dX8_count_134 : decode cX8_count 134 = .ok (.isub, 1) := by decide +kernel
theorem dX8_count_135 : decode cX8_count 135 = .ok (.invokevirtual 200, 3) := by decide +kernel
theorem dX8_count_138 : decode cX8_count 138 = .ok (.ireturn, 1) := by decide +kernel
theorem dX8_count_139 : decode cX8_count 139 = .ok (.aload_n 0, 1) := by decide +kernel
theorem dX8_count_140 : decode cX8_count 140 = .ok (.getfield 81, 3) := by decide +kernel
theorem dX8_count_143 : decode cX8_count 143 = .ok (.ireturn, 1) := by decide +kernel
theorem dX8_count_144 : decode cX8_count 144 = .ok (.bipush (-2), 2) := by decide +kernel
theorem dX8_count_146 : decode cX8_count 146 = .ok (.ireturn, 1) := by decide +kernel
theorem dX8_digest_0 : decode cX8_digest 0 = .ok (.ldc2_w 263, 3) := by decide +kernel
theorem dX8_digest_3 : decode cX8_digest 3 = .ok (.lstore_n 1, 1) := by decide +kernel
theorem dX8_digest_4 : decode cX8_digest 4 = .ok (.iconst 0, 1) := by decide +kernel
theorem dX8_digest_5 : decode cX8_digest 5 = .ok (.istore_n 3, 1) := by decide +kernel
theorem dX8_digest_6 : decode cX8_digest 6 = .ok (.iload_n 3, 1) := by decide +kernel
theorem dX8_digest_7 : decode cX8_digest 7 = .ok (.bipush 8, 2) := by decide +kernel
theorem dX8_digest_9 : decode cX8_digest 9 = .ok (.if_icmp .ge 22, 3) := by decide +kernel
theorem dX8_digest_12 : decode cX8_digest 12 = .ok (.ldc2_w 215, 3) := by decide +kernel
theorem dX8_digest_15 : decode cX8_digest 15 = .ok (.lload_n 1, 1) := by decide +kernel
theorem dX8_digest_16 : decode cX8_digest 16 = .ok (.lmul, 1) := by decide +kernel
theorem dX8_digest_17 : decode cX8_digest 17 = .ok (.aload_n 0, 1) := by decide +kernel
theorem dX8_digest_18 : decode cX8_digest 18 = .ok (.iload_n 3, 1) := by decide +kernel
theorem dX8_digest_19 : decode cX8_digest 19 = .ok (.invokevirtual 265, 3) := by decide +kernel
theorem dX8_digest_22 : decode cX8_digest 22 = .ok (.i2l, 1) := by decide +kernel
theorem dX8_digest_23 : decode cX8_digest 23 = .ok (.ladd, 1) := by decide +kernel
theorem dX8_digest_24 : decode cX8_digest 24 = .ok (.lstore_n 1, 1) := by decide +kernel
theorem dX8_digest_25 : decode cX8_digest 25 = .ok (.iinc 3 1, 3) := by decide +kernel
theorem dX8_digest_28 : decode cX8_digest 28 = .ok (.goto (-22), 3) := by decide +kernel
theorem dX8_digest_31 : decode cX8_digest 31 = .ok (.ldc2_w 215, 3) := by decide +kernel
theorem dX8_digest_34 : decode cX8_digest 34 = .ok (.lload_n 1, 1) := by decide +kernel
theorem dX8_digest_35 : decode cX8_digest 35 = .ok (.lmul, 1) := by decide +kernel
theorem dX8_digest_36 : decode cX8_digest 36 = .ok (.aload_n 0, 1) := by decide +kernel
theorem dX8_digest_37 : decode cX8_digest 37 = .ok (.invokevirtual 129, 3) := by decide +kernel
theorem dX8_digest_40 : decode cX8_digest 40 = .ok (.i2l, 1) := by decide +kernel
theorem dX8_digest_41 : decode cX8_digest 41 = .ok (.ladd, 1) := by decide +kernel
theorem dX8_digest_42 : decode cX8_digest 42 = .ok (.lstore_n 1, 1) := by decide +kernel
theorem dX8_digest_43 : decode cX8_digest 43 = .ok (.iconst 0, 1) := by decide +kernel
theorem dX8_digest_44 : decode cX8_digest 44 = .ok (.istore_n 3, 1) := by decide +kernel
theorem dX8_digest_45 : decode cX8_digest 45 = .ok (.iload_n 3, 1) := by decide +kernel
theorem dX8_digest_46 : decode cX8_digest 46 = .ok (.aload_n 0, 1) := by decide +kernel
theorem dX8_digest_47 : decode cX8_digest 47 = .ok (.getfield 111, 3) := by decide +kernel
theorem dX8_digest_50 : decode cX8_digest 50 = .ok (.if_icmp .ge 43, 3) := by decide +kernel
theorem dX8_digest_53 : decode cX8_digest 53 = .ok (.iconst 0, 1) := by decide +kernel
theorem dX8_digest_54 : decode cX8_digest 54 = .ok (.istore 4, 2) := by decide +kernel
theorem dX8_digest_56 : decode cX8_digest 56 = .ok (.iload 4, 2) := by decide +kernel
theorem dX8_digest_58 : decode cX8_digest 58 = .ok (.iconst 3, 1) := by decide +kernel
theorem dX8_digest_59 : decode cX8_digest 59 = .ok (.if_icmp .ge 28, 3) := by decide +kernel
theorem dX8_digest_62 : decode cX8_digest 62 = .ok (.ldc2_w 215, 3) := by decide +kernel
theorem dX8_digest_65 : decode cX8_digest 65 = .ok (.lload_n 1, 1) := by decide +kernel
theorem dX8_digest_66 : decode cX8_digest 66 = .ok (.lmul, 1) := by decide +kernel
theorem dX8_digest_67 : decode cX8_digest 67 = .ok (.aload_n 0, 1) := by decide +kernel
theorem dX8_digest_68 : decode cX8_digest 68 = .ok (.getfield 28, 3) := by decide +kernel
theorem dX8_digest_71 : decode cX8_digest 71 = .ok (.iconst 3, 1) := by decide +kernel
theorem dX8_digest_72 : decode cX8_digest 72 = .ok (.iload_n 3, 1) := by decide +kernel
theorem dX8_digest_73 : decode cX8_digest 73 = .ok (.imul, 1) := by decide +kernel
theorem dX8_digest_74 : decode cX8_digest 74 = .ok (.iload 4, 2) := by decide +kernel
theorem dX8_digest_76 : decode cX8_digest 76 = .ok (.iadd, 1) := by decide +kernel
theorem dX8_digest_77 : decode cX8_digest 77 = .ok (.iaload, 1) := by decide +kernel
theorem dX8_digest_78 : decode cX8_digest 78 = .ok (.i2l, 1) := by decide +kernel
theorem dX8_digest_79 : decode cX8_digest 79 = .ok (.ladd, 1) := by decide +kernel
theorem dX8_digest_80 : decode cX8_digest 80 = .ok (.lstore_n 1, 1) := by decide +kernel
theorem dX8_digest_81 : decode cX8_digest 81 = .ok (.iinc 4 1, 3) := by decide +kernel
theorem dX8_digest_84 : decode cX8_digest 84 = .ok (.goto (-28), 3) := by decide +kernel
theorem dX8_digest_87 : decode cX8_digest 87 = .ok (.iinc 3 1, 3) := by decide +kernel
theorem dX8_digest_90 : decode cX8_digest 90 = .ok (.goto (-45), 3) := by decide +kernel
theorem dX8_digest_93 : decode cX8_digest 93 = .ok (.iconst 0, 1) := by decide +kernel
theorem dX8_digest_94 : decode cX8_digest 94 = .ok (.istore_n 3, 1) := by decide +kernel
theorem dX8_digest_95 : decode cX8_digest 95 = .ok (.iload_n 3, 1) := by decide +kernel
theorem dX8_digest_96 : decode cX8_digest 96 = .ok (.iconst 2, 1) := by decide +kernel
theorem dX8_digest_97 : decode cX8_digest 97 = .ok (.if_icmp .ge 197, 3) := by decide +kernel
theorem dX8_digest_100 : decode cX8_digest 100 = .ok (.ldc2_w 215, 3) := by decide +kernel
theorem dX8_digest_103 : decode cX8_digest 103 = .ok (.lload_n 1, 1) := by decide +kernel
theorem dX8_digest_104 : decode cX8_digest 104 = .ok (.lmul, 1) := by decide +kernel
theorem dX8_digest_105 : decode cX8_digest 105 = .ok (.aload_n 0, 1) := by decide +kernel
theorem dX8_digest_106 : decode cX8_digest 106 = .ok (.iload_n 3, 1) := by decide +kernel
theorem dX8_digest_107 : decode cX8_digest 107 = .ok (.invokevirtual 203, 3) := by decide +kernel
theorem dX8_digest_110 : decode cX8_digest 110 = .ok (.i2l, 1) := by decide +kernel
theorem dX8_digest_111 : decode cX8_digest 111 = .ok (.ladd, 1) := by decide +kernel
theorem dX8_digest_112 : decode cX8_digest 112 = .ok (.lstore_n 1, 1) := by decide +kernel
theorem dX8_digest_113 : decode cX8_digest 113 = .ok (.aload_n 0, 1) := by decide +kernel
theorem dX8_digest_114 : decode cX8_digest 114 = .ok (.iload_n 3, 1) := by decide +kernel
theorem dX8_digest_115 : decode cX8_digest 115 = .ok (.invokevirtual 200, 3) := by decide +kernel
theorem dX8_digest_118 : decode cX8_digest 118 = .ok (.pop, 1) := by decide +kernel
theorem dX8_digest_119 : decode cX8_digest 119 = .ok (.iconst 0, 1) := by decide +kernel
theorem dX8_digest_120 : decode cX8_digest 120 = .ok (.istore 4, 2) := by decide +kernel
theorem dX8_digest_122 : decode cX8_digest 122 = .ok (.iload 4, 2) := by decide +kernel
theorem dX8_digest_124 : decode cX8_digest 124 = .ok (.bipush 8, 2) := by decide +kernel
theorem dX8_digest_126 : decode cX8_digest 126 = .ok (.if_icmp .ge 23, 3) := by decide +kernel
theorem dX8_digest_129 : decode cX8_digest 129 = .ok (.ldc2_w 215, 3) := by decide +kernel
theorem dX8_digest_132 : decode cX8_digest 132 = .ok (.lload_n 1, 1) := by decide +kernel
theorem dX8_digest_133 : decode cX8_digest 133 = .ok (.lmul, 1) := by decide +kernel
theorem dX8_digest_134 : decode cX8_digest 134 = .ok (.aload_n 0, 1) := by decide +kernel
theorem dX8_digest_135 : decode cX8_digest 135 = .ok (.iload 4, 2) := by decide +kernel
theorem dX8_digest_137 : decode cX8_digest 137 = .ok (.invokevirtual 209, 3) := by decide +kernel
theorem dX8_digest_140 : decode cX8_digest 140 = .ok (.i2l, 1) := by decide +kernel
theorem dX8_digest_141 : decode cX8_digest 141 = .ok (.ladd, 1) := by decide +kernel
theorem dX8_digest_142 : decode cX8_digest 142 = .ok (.lstore_n 1, 1) := by decide +kernel
theorem dX8_digest_143 : decode cX8_digest 143 = .ok (.iinc 4 1, 3) := by decide +kernel
theorem dX8_digest_146 : decode cX8_digest 146 = .ok (.goto (-24), 3) := by decide +kernel
theorem dX8_digest_149 : decode cX8_digest 149 = .ok (.ldc2_w 215, 3) := by decide +kernel
theorem dX8_digest_152 : decode cX8_digest 152 = .ok (.lload_n 1, 1) := by decide +kernel
theorem dX8_digest_153 : decode cX8_digest 153 = .ok (.lmul, 1) := by decide +kernel
theorem dX8_digest_154 : decode cX8_digest 154 = .ok (.aload_n 0, 1) := by decide +kernel
theorem dX8_digest_155 : decode cX8_digest 155 = .ok (.getfield 150, 3) := by decide +kernel
theorem dX8_digest_158 : decode cX8_digest 158 = .ok (.ifCond .le 12, 3) := by decide +kernel
theorem dX8_digest_161 : decode cX8_digest 161 = .ok (.aload_n 0, 1) := by decide +kernel
theorem dX8_digest_162 : decode cX8_digest 162 = .ok (.getfield 43, 3) := by decide +kernel
theorem dX8_digest_165 : decode cX8_digest 165 = .ok (.iconst 0, 1) := by decide +kernel
theorem dX8_digest_166 : decode cX8_digest 166 = .ok (.iaload, 1) := by decide +kernel
theorem dX8_digest_167 : decode cX8_digest 167 = .ok (.goto 4, 3) := by decide +kernel
theorem dX8_digest_170 : decode cX8_digest 170 = .ok (.iconst (-1), 1) := by decide +kernel
theorem dX8_digest_171 : decode cX8_digest 171 = .ok (.i2l, 1) := by decide +kernel
theorem dX8_digest_172 : decode cX8_digest 172 = .ok (.ladd, 1) := by decide +kernel
theorem dX8_digest_173 : decode cX8_digest 173 = .ok (.lstore_n 1, 1) := by decide +kernel
theorem dX8_digest_174 : decode cX8_digest 174 = .ok (.ldc2_w 215, 3) := by decide +kernel
theorem dX8_digest_177 : decode cX8_digest 177 = .ok (.lload_n 1, 1) := by decide +kernel
theorem dX8_digest_178 : decode cX8_digest 178 = .ok (.lmul, 1) := by decide +kernel
theorem dX8_digest_179 : decode cX8_digest 179 = .ok (.aload_n 0, 1) := by decide +kernel
theorem dX8_digest_180 : decode cX8_digest 180 = .ok (.iload_n 3, 1) := by decide +kernel
theorem dX8_digest_181 : decode cX8_digest 181 = .ok (.invokevirtual 212, 3) := by decide +kernel
theorem dX8_digest_184 : decode cX8_digest 184 = .ok (.i2l, 1) := by decide +kernel
theorem dX8_digest_185 : decode cX8_digest 185 = .ok (.ladd, 1) := by decide +kernel
theorem dX8_digest_186 : decode cX8_digest 186 = .ok (.lstore_n 1, 1) := by decide +kernel
theorem dX8_digest_187 : decode cX8_digest 187 = .ok (.ldc2_w 215, 3) := by decide +kernel
theorem dX8_digest_190 : decode cX8_digest 190 = .ok (.lload_n 1, 1) := by decide +kernel
theorem dX8_digest_191 : decode cX8_digest 191 = .ok (.lmul, 1) := by decide +kernel
theorem dX8_digest_192 : decode cX8_digest 192 = .ok (.aload_n 0, 1) := by decide +kernel
theorem dX8_digest_193 : decode cX8_digest 193 = .ok (.iload_n 3, 1) := by decide +kernel
theorem dX8_digest_194 : decode cX8_digest 194 = .ok (.iconst 0, 1) := by decide +kernel
theorem dX8_digest_195 : decode cX8_digest 195 = .ok (.iconst 1, 1) := by decide +kernel
theorem dX8_digest_196 : decode cX8_digest 196 = .ok (.invokevirtual 231, 3) := by decide +kernel
theorem dX8_digest_199 : decode cX8_digest 199 = .ok (.i2l, 1) := by decide +kernel
theorem dX8_digest_200 : decode cX8_digest 200 = .ok (.ladd, 1) := by decide +kernel
theorem dX8_digest_201 : decode cX8_digest 201 = .ok (.lstore_n 1, 1) := by decide +kernel
theorem dX8_digest_202 : decode cX8_digest 202 = .ok (.ldc2_w 215, 3) := by decide +kernel
theorem dX8_digest_205 : decode cX8_digest 205 = .ok (.lload_n 1, 1) := by decide +kernel
theorem dX8_digest_206 : decode cX8_digest 206 = .ok (.lmul, 1) := by decide +kernel
theorem dX8_digest_207 : decode cX8_digest 207 = .ok (.aload_n 0, 1) := by decide +kernel
theorem dX8_digest_208 : decode cX8_digest 208 = .ok (.iload_n 3, 1) := by decide +kernel
theorem dX8_digest_209 : decode cX8_digest 209 = .ok (.iconst 2, 1) := by decide +kernel
theorem dX8_digest_210 : decode cX8_digest 210 = .ok (.iconst 2, 1) := by decide +kernel
theorem dX8_digest_211 : decode cX8_digest 211 = .ok (.invokevirtual 231, 3) := by decide +kernel
theorem dX8_digest_214 : decode cX8_digest 214 = .ok (.i2l, 1) := by decide +kernel
theorem dX8_digest_215 : decode cX8_digest 215 = .ok (.ladd, 1) := by decide +kernel
theorem dX8_digest_216 : decode cX8_digest 216 = .ok (.lstore_n 1, 1) := by decide +kernel
theorem dX8_digest_217 : decode cX8_digest 217 = .ok (.ldc2_w 215, 3) := by decide +kernel
theorem dX8_digest_220 : decode cX8_digest 220 = .ok (.lload_n 1, 1) := by decide +kernel
theorem dX8_digest_221 : decode cX8_digest 221 = .ok (.lmul, 1) := by decide +kernel
theorem dX8_digest_222 : decode cX8_digest 222 = .ok (.aload_n 0, 1) := by decide +kernel
theorem dX8_digest_223 : decode cX8_digest 223 = .ok (.iload_n 3, 1) := by decide +kernel
theorem dX8_digest_224 : decode cX8_digest 224 = .ok (.invokevirtual 234, 3) := by decide +kernel
theorem dX8_digest_227 : decode cX8_digest 227 = .ok (.i2l, 1) := by decide +kernel
theorem dX8_digest_228 : decode cX8_digest 228 = .ok (.ladd, 1) := by decide +kernel
theorem dX8_digest_229 : decode cX8_digest 229 = .ok (.lstore_n 1, 1) := by decide +kernel
theorem dX8_digest_230 : decode cX8_digest 230 = .ok (.ldc2_w 215, 3) := by decide +kernel
theorem dX8_digest_233 : decode cX8_digest 233 = .ok (.lload_n 1, 1) := by decide +kernel
theorem dX8_digest_234 : decode cX8_digest 234 = .ok (.lmul, 1) := by decide +kernel
theorem dX8_digest_235 : decode cX8_digest 235 = .ok (.aload_n 0, 1) := by decide +kernel
theorem dX8_digest_236 : decode cX8_digest 236 = .ok (.iload_n 3, 1) := by decide +kernel
theorem dX8_digest_237 : decode cX8_digest 237 = .ok (.iconst 0, 1) := by decide +kernel
theorem dX8_digest_238 : decode cX8_digest 238 = .ok (.invokevirtual 245, 3) := by decide +kernel
theorem dX8_digest_241 : decode cX8_digest 241 = .ok (.i2l, 1) := by decide +kernel
theorem dX8_digest_242 : decode cX8_digest 242 = .ok (.ladd, 1) := by decide +kernel
theorem dX8_digest_243 : decode cX8_digest 243 = .ok (.lstore_n 1, 1) := by decide +kernel
theorem dX8_digest_244 : decode cX8_digest 244 = .ok (.ldc2_w 215, 3) := by decide +kernel
theorem dX8_digest_247 : decode cX8_digest 247 = .ok (.lload_n 1, 1) := by decide +kernel
theorem dX8_digest_248 : decode cX8_digest 248 = .ok (.lmul, 1) := by decide +kernel
theorem dX8_digest_249 : decode cX8_digest 249 = .ok (.aload_n 0, 1) := by decide +kernel
theorem dX8_digest_250 : decode cX8_digest 250 = .ok (.iload_n 3, 1) := by decide +kernel
theorem dX8_digest_251 : decode cX8_digest 251 = .ok (.iconst 1, 1) := by decide +kernel
theorem dX8_digest_252 : decode cX8_digest 252 = .ok (.invokevirtual 245, 3) := by decide +kernel
theorem dX8_digest_255 : decode cX8_digest 255 = .ok (.i2l, 1) := by decide +kernel
theorem dX8_digest_256 : decode cX8_digest 256 = .ok (.ladd, 1) := by decide +kernel
theorem dX8_digest_257 : decode cX8_digest 257 = .ok (.lstore_n 1, 1) := by decide +kernel
theorem dX8_digest_258 : decode cX8_digest 258 = .ok (.ldc2_w 215, 3) := by decide +kernel
theorem dX8_digest_261 : decode cX8_digest 261 = .ok (.lload_n 1, 1) := by decide +kernel
theorem dX8_digest_262 : decode cX8_digest 262 = .ok (.lmul, 1) := by decide +kernel
theorem dX8_digest_263 : decode cX8_digest 263 = .ok (.aload_n 0, 1) := by decide +kernel
theorem dX8_digest_264 : decode cX8_digest 264 = .ok (.iload_n 3, 1) := by decide +kernel
theorem dX8_digest_265 : decode cX8_digest 265 = .ok (.iconst 3, 1) := by decide +kernel
theorem dX8_digest_266 : decode cX8_digest 266 = .ok (.iconst 0, 1) := by decide +kernel
theorem dX8_digest_267 : decode cX8_digest 267 = .ok (.invokevirtual 257, 3) := by decide +kernel
theorem dX8_digest_270 : decode cX8_digest 270 = .ok (.i2l, 1) := by decide +kernel
theorem dX8_digest_271 : decode cX8_digest 271 = .ok (.ladd, 1) := by decide +kernel
theorem dX8_digest_272 : decode cX8_digest 272 = .ok (.lstore_n 1, 1) := by decide +kernel
theorem dX8_digest_273 : decode cX8_digest 273 = .ok (.ldc2_w 215, 3) := by decide +kernel
theorem dX8_digest_276 : decode cX8_digest 276 = .ok (.lload_n 1, 1) := by decide +kernel
theorem dX8_digest_277 : decode cX8_digest 277 = .ok (.lmul, 1) := by decide +kernel
theorem dX8_digest_278 : decode cX8_digest 278 = .ok (.aload_n 0, 1) := by decide +kernel
theorem dX8_digest_279 : decode cX8_digest 279 = .ok (.iload_n 3, 1) := by decide +kernel
theorem dX8_digest_280 : decode cX8_digest 280 = .ok (.iconst 3, 1) := by decide +kernel
theorem dX8_digest_281 : decode cX8_digest 281 = .ok (.iconst 1, 1) := by decide +kernel
theorem dX8_digest_282 : decode cX8_digest 282 = .ok (.invokevirtual 257, 3) := by decide +kernel
theorem dX8_digest_285 : decode cX8_digest 285 = .ok (.i2l, 1) := by decide +kernel
theorem dX8_digest_286 : decode cX8_digest 286 = .ok (.ladd, 1) := by decide +kernel
theorem dX8_digest_287 : decode cX8_digest 287 = .ok (.lstore_n 1, 1) := by decide +kernel
theorem dX8_digest_288 : decode cX8_digest 288 = .ok (.iinc 3 1, 3) := by decide +kernel
theorem dX8_digest_291 : decode cX8_digest 291 = .ok (.goto (-196), 3) := by decide +kernel
theorem dX8_digest_294 : decode cX8_digest 294 = .ok (.ldc2_w 215, 3) := by decide +kernel
theorem dX8_digest_297 : decode cX8_digest 297 = .ok (.lload_n 1, 1) := by decide +kernel
theorem dX8_digest_298 : decode cX8_digest 298 = .ok (.lmul, 1) := by decide +kernel
theorem dX8_digest_299 : decode cX8_digest 299 = .ok (.aload_n 0, 1) := by decide +kernel
theorem dX8_digest_300 : decode cX8_digest 300 = .ok (.iconst 0, 1) := by decide +kernel
theorem dX8_digest_301 : decode cX8_digest 301 = .ok (.iconst 0, 1) := by decide +kernel
theorem dX8_digest_302 : decode cX8_digest 302 = .ok (.iconst 1, 1) := by decide +kernel
theorem dX8_digest_303 : decode cX8_digest 303 = .ok (.iconst 0, 1) := by decide +kernel
theorem dX8_digest_304 : decode cX8_digest 304 = .ok (.invokevirtual 268, 3) := by decide +kernel
theorem dX8_digest_307 : decode cX8_digest 307 = .ok (.i2l, 1) := by decide +kernel
theorem dX8_digest_308 : decode cX8_digest 308 = .ok (.ladd, 1) := by decide +kernel
theorem dX8_digest_309 : decode cX8_digest 309 = .ok (.lstore_n 1, 1) := by decide +kernel
theorem dX8_digest_310 : decode cX8_digest 310 = .ok (.ldc2_w 215, 3) := by decide +kernel
theorem dX8_digest_313 : decode cX8_digest 313 = .ok (.lload_n 1, 1) := by decide +kernel
theorem dX8_digest_314 : decode cX8_digest 314 = .ok (.lmul, 1) := by decide +kernel
theorem dX8_digest_315 : decode cX8_digest 315 = .ok (.aload_n 0, 1) := by decide +kernel
theorem dX8_digest_316 : decode cX8_digest 316 = .ok (.iconst 0, 1) := by decide +kernel
theorem dX8_digest_317 : decode cX8_digest 317 = .ok (.iconst 0, 1) := by decide +kernel
theorem dX8_digest_318 : decode cX8_digest 318 = .ok (.iconst 1, 1) := by decide +kernel
theorem dX8_digest_319 : decode cX8_digest 319 = .ok (.iconst 1, 1) := by decide +kernel
theorem dX8_digest_320 : decode cX8_digest 320 = .ok (.invokevirtual 268, 3) := by decide +kernel
theorem dX8_digest_323 : decode cX8_digest 323 = .ok (.i2l, 1) := by decide +kernel
theorem dX8_digest_324 : decode cX8_digest 324 = .ok (.ladd, 1) := by decide +kernel
theorem dX8_digest_325 : decode cX8_digest 325 = .ok (.lstore_n 1, 1) := by decide +kernel
theorem dX8_digest_326 : decode cX8_digest 326 = .ok (.ldc2_w 215, 3) := by decide +kernel
theorem dX8_digest_329 : decode cX8_digest 329 = .ok (.lload_n 1, 1) := by decide +kernel
theorem dX8_digest_330 : decode cX8_digest 330 = .ok (.lmul, 1) := by decide +kernel
theorem dX8_digest_331 : decode cX8_digest 331 = .ok (.aload_n 0, 1) := by decide +kernel
theorem dX8_digest_332 : decode cX8_digest 332 = .ok (.invokevirtual 260, 3) := by decide +kernel
theorem dX8_digest_335 : decode cX8_digest 335 = .ok (.i2l, 1) := by decide +kernel
theorem dX8_digest_336 : decode cX8_digest 336 = .ok (.ladd, 1) := by decide +kernel
theorem dX8_digest_337 : decode cX8_digest 337 = .ok (.lreturn, 1) := by decide +kernel
theorem dJ9_max_7cf53_0 : decode cJ9_max_7cf53 0 = .ok (.iload_n 0, 1) := by decide +kernel
theorem dJ9_max_7cf53_1 : decode cJ9_max_7cf53 1 = .ok (.iload_n 1, 1) := by decide +kernel
theorem dJ9_max_7cf53_2 : decode cJ9_max_7cf53 2 = .ok (.if_icmp .lt 7, 3) := by decide +kernel
theorem dJ9_max_7cf53_5 : decode cJ9_max_7cf53 5 = .ok (.iload_n 0, 1) := by decide +kernel
theorem dJ9_max_7cf53_6 : decode cJ9_max_7cf53 6 = .ok (.goto 4, 3) := by decide +kernel
theorem dJ9_max_7cf53_9 : decode cJ9_max_7cf53 9 = .ok (.iload_n 1, 1) := by decide +kernel
theorem dJ9_max_7cf53_10 : decode cJ9_max_7cf53 10 = .ok (.ireturn, 1) := by decide +kernel
theorem dJ9_min_7cf53_0 : decode cJ9_min_7cf53 0 = .ok (.iload_n 0, 1) := by decide +kernel
theorem dJ9_min_7cf53_1 : decode cJ9_min_7cf53 1 = .ok (.iload_n 1, 1) := by decide +kernel
theorem dJ9_min_7cf53_2 : decode cJ9_min_7cf53 2 = .ok (.if_icmp .gt 7, 3) := by decide +kernel
theorem dJ9_min_7cf53_5 : decode cJ9_min_7cf53 5 = .ok (.iload_n 0, 1) := by decide +kernel
theorem dJ9_min_7cf53_6 : decode cJ9_min_7cf53 6 = .ok (.goto 4, 3) := by decide +kernel
theorem dJ9_min_7cf53_9 : decode cJ9_min_7cf53 9 = .ok (.iload_n 1, 1) := by decide +kernel
theorem dJ9_min_7cf53_10 : decode cJ9_min_7cf53 10 = .ok (.ireturn, 1) := by decide +kernel
theorem dJ7_fill_53178_0 : decode cJ7_fill_53178 0 = .ok (.iconst 0, 1) := by decide +kernel
theorem dJ7_fill_53178_1 : decode cJ7_fill_53178 1 = .ok (.istore_n 2, 1) := by decide +kernel
theorem dJ7_fill_53178_2 : decode cJ7_fill_53178 2 = .ok (.aload_n 0, 1) := by decide +kernel
theorem dJ7_fill_53178_3 : decode cJ7_fill_53178 3 = .ok (.arraylength, 1) := by decide +kernel
theorem dJ7_fill_53178_4 : decode cJ7_fill_53178 4 = .ok (.istore_n 3, 1) := by decide +kernel
theorem dJ7_fill_53178_5 : decode cJ7_fill_53178 5 = .ok (.iload_n 2, 1) := by decide +kernel
theorem dJ7_fill_53178_6 : decode cJ7_fill_53178 6 = .ok (.iload_n 3, 1) := by decide +kernel
theorem dJ7_fill_53178_7 : decode cJ7_fill_53178 7 = .ok (.if_icmp .ge 13, 3) := by decide +kernel
theorem dJ7_fill_53178_10 : decode cJ7_fill_53178 10 = .ok (.aload_n 0, 1) := by decide +kernel
theorem dJ7_fill_53178_11 : decode cJ7_fill_53178 11 = .ok (.iload_n 2, 1) := by decide +kernel
theorem dJ7_fill_53178_12 : decode cJ7_fill_53178 12 = .ok (.iload_n 1, 1) := by decide +kernel
theorem dJ7_fill_53178_13 : decode cJ7_fill_53178 13 = .ok (.iastore, 1) := by decide +kernel
theorem dJ7_fill_53178_14 : decode cJ7_fill_53178 14 = .ok (.iinc 2 1, 3) := by decide +kernel
theorem dJ7_fill_53178_17 : decode cJ7_fill_53178 17 = .ok (.goto (-12), 3) := by decide +kernel
theorem dJ7_fill_53178_20 : decode cJ7_fill_53178 20 = .ok (.return_, 1) := by decide +kernel
theorem dL_law_0 : decode cL_law 0 = .ok (.new 7, 3) := by decide +kernel
theorem dL_law_3 : decode cL_law 3 = .ok (.dup, 1) := by decide +kernel
theorem dL_law_4 : decode cL_law 4 = .ok (.invokespecial 9, 3) := by decide +kernel
theorem dL_law_7 : decode cL_law 7 = .ok (.astore_n 1, 1) := by decide +kernel
theorem dL_law_8 : decode cL_law 8 = .ok (.new 10, 3) := by decide +kernel
theorem dL_law_11 : decode cL_law 11 = .ok (.dup, 1) := by decide +kernel
theorem dL_law_12 : decode cL_law 12 = .ok (.invokespecial 12, 3) := by decide +kernel
theorem dL_law_15 : decode cL_law 15 = .ok (.astore_n 2, 1) := by decide +kernel
theorem dL_law_16 : decode cL_law 16 = .ok (.iconst 0, 1) := by decide +kernel
theorem dL_law_17 : decode cL_law 17 = .ok (.istore_n 3, 1) := by decide +kernel
theorem dL_law_18 : decode cL_law 18 = .ok (.iload_n 3, 1) := by decide +kernel
theorem dL_law_19 : decode cL_law 19 = .ok (.aload_n 0, 1) := by decide +kernel
theorem dL_law_20 : decode cL_law 20 = .ok (.arraylength, 1) := by decide +kernel
theorem dL_law_21 : decode cL_law 21 = .ok (.bipush 6, 2) := by decide +kernel
theorem dL_law_23 : decode cL_law 23 = .ok (.isub, 1) := by decide +kernel
theorem dL_law_24 : decode cL_law 24 = .ok (.if_icmp .gt 1030, 3) := by decide +kernel
theorem dL_law_27 : decode cL_law 27 = .ok (.aload_n 0, 1) := by decide +kernel
theorem dL_law_28 : decode cL_law 28 = .ok (.iload_n 3, 1) := by decide +kernel
theorem dL_law_29 : decode cL_law 29 = .ok (.iaload, 1) := by decide +kernel
theorem dL_law_30 : decode cL_law 30 = .ok (.bipush 31, 2) := by decide +kernel
theorem dL_law_32 : decode cL_law 32 = .ok (.iand, 1) := by decide +kernel
theorem dL_law_33 : decode cL_law 33 = .ok (.tableswitch 1015 0 26 #[123, 156, 179, 192, 225, 258, 291, 324, 357, 380, 403, 446, 489, 512, 555, 578, 631, 664, 707, 720, 763, 786, 839, 882, 945, 978, 1001], 123) := by decide +kernel
theorem dL_law_156 : decode cL_law 156 = .ok (.aload_n 1, 1) := by decide +kernel
theorem dL_law_157 : decode cL_law 157 = .ok (.aload_n 0, 1) := by decide +kernel
theorem dL_law_158 : decode cL_law 158 = .ok (.iload_n 3, 1) := by decide +kernel
theorem dL_law_159 : decode cL_law 159 = .ok (.iconst 1, 1) := by decide +kernel
theorem dL_law_160 : decode cL_law 160 = .ok (.iadd, 1) := by decide +kernel
theorem dL_law_161 : decode cL_law 161 = .ok (.iaload, 1) := by decide +kernel
theorem dL_law_162 : decode cL_law 162 = .ok (.aload_n 0, 1) := by decide +kernel
theorem dL_law_163 : decode cL_law 163 = .ok (.iload_n 3, 1) := by decide +kernel
theorem dL_law_164 : decode cL_law 164 = .ok (.iconst 2, 1) := by decide +kernel
theorem dL_law_165 : decode cL_law 165 = .ok (.iadd, 1) := by decide +kernel
theorem dL_law_166 : decode cL_law 166 = .ok (.iaload, 1) := by decide +kernel
theorem dL_law_167 : decode cL_law 167 = .ok (.invokevirtual 13, 3) := by decide +kernel
theorem dL_law_170 : decode cL_law 170 = .ok (.aload_n 2, 1) := by decide +kernel
theorem dL_law_171 : decode cL_law 171 = .ok (.aload_n 0, 1) := by decide +kernel
theorem dL_law_172 : decode cL_law 172 = .ok (.iload_n 3, 1) := by decide +kernel
theorem dL_law_173 : decode cL_law 173 = .ok (.iconst 1, 1) := by decide +kernel
theorem dL_law_174 : decode cL_law 174 = .ok (.iadd, 1) := by decide +kernel
theorem dL_law_175 : decode cL_law 175 = .ok (.iaload, 1) := by decide +kernel
theorem dL_law_176 : decode cL_law 176 = .ok (.aload_n 0, 1) := by decide +kernel
theorem dL_law_177 : decode cL_law 177 = .ok (.iload_n 3, 1) := by decide +kernel
theorem dL_law_178 : decode cL_law 178 = .ok (.iconst 2, 1) := by decide +kernel
theorem dL_law_179 : decode cL_law 179 = .ok (.iadd, 1) := by decide +kernel
theorem dL_law_180 : decode cL_law 180 = .ok (.iaload, 1) := by decide +kernel
theorem dL_law_181 : decode cL_law 181 = .ok (.invokevirtual 17, 3) := by decide +kernel
theorem dL_law_184 : decode cL_law 184 = .ok (.if_icmp .eq 864, 3) := by decide +kernel
theorem dL_law_187 : decode cL_law 187 = .ok (.iconst 0, 1) := by decide +kernel
theorem dL_law_188 : decode cL_law 188 = .ok (.ireturn, 1) := by decide +kernel
theorem dL_law_189 : decode cL_law 189 = .ok (.aload_n 1, 1) := by decide +kernel
theorem dL_law_190 : decode cL_law 190 = .ok (.aload_n 0, 1) := by decide +kernel
theorem dL_law_191 : decode cL_law 191 = .ok (.iload_n 3, 1) := by decide +kernel
theorem dL_law_192 : decode cL_law 192 = .ok (.iconst 1, 1) := by decide +kernel
theorem dL_law_193 : decode cL_law 193 = .ok (.iadd, 1) := by decide +kernel
theorem dL_law_194 : decode cL_law 194 = .ok (.iaload, 1) := by decide +kernel
theorem dL_law_195 : decode cL_law 195 = .ok (.invokevirtual 18, 3) := by decide +kernel
theorem dL_law_198 : decode cL_law 198 = .ok (.aload_n 2, 1) := by decide +kernel
theorem dL_law_199 : decode cL_law 199 = .ok (.aload_n 0, 1) := by decide +kernel
theorem dL_law_200 : decode cL_law 200 = .ok (.iload_n 3, 1) := by decide +kernel
theorem dL_law_201 : decode cL_law 201 = .ok (.iconst 1, 1) := by decide +kernel
theorem dL_law_202 : decode cL_law 202 = .ok (.iadd, 1) := by decide +kernel
theorem dL_law_203 : decode cL_law 203 = .ok (.iaload, 1) := by decide +kernel
theorem dL_law_204 : decode cL_law 204 = .ok (.invokevirtual 22, 3) := by decide +kernel
theorem dL_law_207 : decode cL_law 207 = .ok (.if_icmp .eq 841, 3) := by decide +kernel
theorem dL_law_210 : decode cL_law 210 = .ok (.iconst 0, 1) := by decide +kernel
theorem dL_law_211 : decode cL_law 211 = .ok (.ireturn, 1) := by decide +kernel
theorem dL_law_212 : decode cL_law 212 = .ok (.aload_n 1, 1) := by decide +kernel
theorem dL_law_213 : decode cL_law 213 = .ok (.invokevirtual 23, 3) := by decide +kernel
theorem dL_law_216 : decode cL_law 216 = .ok (.aload_n 2, 1) := by decide +kernel
theorem dL_law_217 : decode cL_law 217 = .ok (.invokevirtual 27, 3) := by decide +kernel
theorem dL_law_220 : decode cL_law 220 = .ok (.if_icmp .eq 828, 3) := by decide +kernel
theorem dL_law_223 : decode cL_law 223 = .ok (.iconst 0, 1) := by decide +kernel
theorem dL_law_224 : decode cL_law 224 = .ok (.ireturn, 1) := by decide +kernel
theorem dL_law_225 : decode cL_law 225 = .ok (.aload_n 1, 1) := by decide +kernel
theorem dL_law_226 : decode cL_law 226 = .ok (.aload_n 0, 1) := by decide +kernel
theorem dL_law_227 : decode cL_law 227 = .ok (.iload_n 3, 1) := by decide +kernel
theorem dL_law_228 : decode cL_law 228 = .ok (.iconst 1, 1) := by decide +kernel
theorem dL_law_229 : decode cL_law 229 = .ok (.iadd, 1) := by decide +kernel
theorem dL_law_230 : decode cL_law 230 = .ok (.iaload, 1) := by decide +kernel
theorem dL_law_231 : decode cL_law 231 = .ok (.aload_n 0, 1) := by decide +kernel
theorem dL_law_232 : decode cL_law 232 = .ok (.iload_n 3, 1) := by decide +kernel
theorem dL_law_233 : decode cL_law 233 = .ok (.iconst 2, 1) := by decide +kernel
theorem dL_law_234 : decode cL_law 234 = .ok (.iadd, 1) := by decide +kernel
theorem dL_law_235 : decode cL_law 235 = .ok (.iaload, 1) := by decide +kernel
theorem dL_law_236 : decode cL_law 236 = .ok (.invokevirtual 28, 3) := by decide +kernel
theorem dL_law_239 : decode cL_law 239 = .ok (.aload_n 2, 1) := by decide +kernel
theorem dL_law_240 : decode cL_law 240 = .ok (.aload_n 0, 1) := by decide +kernel
theorem dL_law_241 : decode cL_law 241 = .ok (.iload_n 3, 1) := by decide +kernel
theorem dL_law_242 : decode cL_law 242 = .ok (.iconst 1, 1) := by decide +kernel
theorem dL_law_243 : decode cL_law 243 = .ok (.iadd, 1) := by decide +kernel
theorem dL_law_244 : decode cL_law 244 = .ok (.iaload, 1) := by decide +kernel
theorem dL_law_245 : decode cL_law 245 = .ok (.aload_n 0, 1) := by decide +kernel
theorem dL_law_246 : decode cL_law 246 = .ok (.iload_n 3, 1) := by decide +kernel
theorem dL_law_247 : decode cL_law 247 = .ok (.iconst 2, 1) := by decide +kernel
theorem dL_law_248 : decode cL_law 248 = .ok (.iadd, 1) := by decide +kernel
theorem dL_law_249 : decode cL_law 249 = .ok (.iaload, 1) := by decide +kernel
theorem dL_law_250 : decode cL_law 250 = .ok (.invokevirtual 31, 3) := by decide +kernel
theorem dL_law_253 : decode cL_law 253 = .ok (.if_icmp .eq 795, 3) := by decide +kernel
theorem dL_law_256 : decode cL_law 256 = .ok (.iconst 0, 1) := by decide +kernel
theorem dL_law_257 : decode cL_law 257 = .ok (.ireturn, 1) := by decide +kernel
theorem dL_law_258 : decode cL_law 258 = .ok (.aload_n 1, 1) := by decide +kernel
theorem dL_law_259 : decode cL_law 259 = .ok (.aload_n 0, 1) := by decide +kernel
theorem dL_law_260 : decode cL_law 260 = .ok (.iload_n 3, 1) := by decide +kernel
theorem dL_law_261 : decode cL_law 261 = .ok (.iconst 1, 1) := by decide +kernel
theorem dL_law_262 : decode cL_law 262 = .ok (.iadd, 1) := by decide +kernel
theorem dL_law_263 : decode cL_law 263 = .ok (.iaload, 1) := by decide +kernel
theorem dL_law_264 : decode cL_law 264 = .ok (.aload_n 0, 1) := by decide +kernel
theorem dL_law_265 : decode cL_law 265 = .ok (.iload_n 3, 1) := by decide +kernel
theorem dL_law_266 : decode cL_law 266 = .ok (.iconst 2, 1) := by decide +kernel
theorem dL_law_267 : decode cL_law 267 = .ok (.iadd, 1) := by decide +kernel
theorem dL_law_268 : decode cL_law 268 = .ok (.iaload, 1) := by decide +kernel
theorem dL_law_269 : decode cL_law 269 = .ok (.invokevirtual 32, 3) := by decide +kernel
theorem dL_law_272 : decode cL_law 272 = .ok (.aload_n 2, 1) := by decide +kernel
theorem dL_law_273 : decode cL_law 273 = .ok (.aload_n 0, 1) := by decide +kernel
theorem dL_law_274 : decode cL_law 274 = .ok (.iload_n 3, 1) := by decide +kernel
theorem dL_law_275 : decode cL_law 275 = .ok (.iconst 1, 1) := by decide +kernel
theorem dL_law_276 : decode cL_law 276 = .ok (.iadd, 1) := by decide +kernel
theorem dL_law_277 : decode cL_law 277 = .ok (.iaload, 1) := by decide +kernel
theorem dL_law_278 : decode cL_law 278 = .ok (.aload_n 0, 1) := by decide +kernel
theorem dL_law_279 : decode cL_law 279 = .ok (.iload_n 3, 1) := by decide +kernel
theorem dL_law_280 : decode cL_law 280 = .ok (.iconst 2, 1) := by decide +kernel
theorem dL_law_281 : decode cL_law 281 = .ok (.iadd, 1) := by decide +kernel
theorem dL_law_282 : decode cL_law 282 = .ok (.iaload, 1) := by decide +kernel
theorem dL_law_283 : decode cL_law 283 = .ok (.invokevirtual 35, 3) := by decide +kernel
theorem dL_law_286 : decode cL_law 286 = .ok (.if_icmp .eq 762, 3) := by decide +kernel
theorem dL_law_289 : decode cL_law 289 = .ok (.iconst 0, 1) := by decide +kernel
theorem dL_law_290 : decode cL_law 290 = .ok (.ireturn, 1) := by decide +kernel
theorem dL_law_291 : decode cL_law 291 = .ok (.aload_n 1, 1) := by decide +kernel
theorem dL_law_292 : decode cL_law 292 = .ok (.aload_n 0, 1) := by decide +kernel
theorem dL_law_293 : decode cL_law 293 = .ok (.iload_n 3, 1) := by decide +kernel
theorem dL_law_294 : decode cL_law 294 = .ok (.iconst 1, 1) := by decide +kernel
theorem dL_law_295 : decode cL_law 295 = .ok (.iadd, 1) := by decide +kernel
theorem dL_law_296 : decode cL_law 296 = .ok (.iaload, 1) := by decide +kernel
theorem dL_law_297 : decode cL_law 297 = .ok (.aload_n 0, 1) := by decide +kernel
theorem dL_law_298 : decode cL_law 298 = .ok (.iload_n 3, 1) := by decide +kernel
theorem dL_law_299 : decode cL_law 299 = .ok (.iconst 2, 1) := by decide +kernel
theorem dL_law_300 : decode cL_law 300 = .ok (.iadd, 1) := by decide +kernel
theorem dL_law_301 : decode cL_law 301 = .ok (.iaload, 1) := by decide +kernel
theorem dL_law_302 : decode cL_law 302 = .ok (.invokevirtual 36, 3) := by decide +kernel
theorem dL_law_305 : decode cL_law 305 = .ok (.aload_n 2, 1) := by decide +kernel
theorem dL_law_306 : decode cL_law 306 = .ok (.aload_n 0, 1) := by decide +kernel
theorem dL_law_307 : decode cL_law 307 = .ok (.iload_n 3, 1) := by decide +kernel
theorem dL_law_308 : decode cL_law 308 = .ok (.iconst 1, 1) := by decide +kernel
theorem dL_law_309 : decode cL_law 309 = .ok (.iadd, 1) := by decide +kernel
theorem dL_law_310 : decode cL_law 310 = .ok (.iaload, 1) := by decide +kernel
theorem dL_law_311 : decode cL_law 311 = .ok (.aload_n 0, 1) := by decide +kernel
theorem dL_law_312 : decode cL_law 312 = .ok (.iload_n 3, 1) := by decide +kernel
theorem dL_law_313 : decode cL_law 313 = .ok (.iconst 2, 1) := by decide +kernel
theorem dL_law_314 : decode cL_law 314 = .ok (.iadd, 1) := by decide +kernel
theorem dL_law_315 : decode cL_law 315 = .ok (.iaload, 1) := by decide +kernel
theorem dL_law_316 : decode cL_law 316 = .ok (.invokevirtual 39, 3) := by decide +kernel
theorem dL_law_319 : decode cL_law 319 = .ok (.if_icmp .eq 729, 3) := by decide +kernel
theorem dL_law_322 : decode cL_law 322 = .ok (.iconst 0, 1) := by decide +kernel
theorem dL_law_323 : decode cL_law 323 = .ok (.ireturn, 1) := by decide +kernel
theorem dL_law_324 : decode cL_law 324 = .ok (.aload_n 1, 1) := by decide +kernel
theorem dL_law_325 : decode cL_law 325 = .ok (.aload_n 0, 1) := by decide +kernel
theorem dL_law_326 : decode cL_law 326 = .ok (.iload_n 3, 1) := by decide +kernel
theorem dL_law_327 : decode cL_law 327 = .ok (.iconst 1, 1) := by decide +kernel
theorem dL_law_328 : decode cL_law 328 = .ok (.iadd, 1) := by decide +kernel
theorem dL_law_329 : decode cL_law 329 = .ok (.iaload, 1) := by decide +kernel
theorem dL_law_330 : decode cL_law 330 = .ok (.aload_n 0, 1) := by decide +kernel
theorem dL_law_331 : decode cL_law 331 = .ok (.iload_n 3, 1) := by decide +kernel
theorem dL_law_332 : decode cL_law 332 = .ok (.iconst 2, 1) := by decide +kernel
theorem dL_law_333 : decode cL_law 333 = .ok (.iadd, 1) := by decide +kernel
theorem dL_law_334 : decode cL_law 334 = .ok (.iaload, 1) := by decide +kernel
theorem dL_law_335 : decode cL_law 335 = .ok (.invokevirtual 40, 3) := by decide +kernel
theorem dL_law_338 : decode cL_law 338 = .ok (.aload_n 2, 1) := by decide +kernel
theorem dL_law_339 : decode cL_law 339 = .ok (.aload_n 0, 1) := by decide +kernel
theorem dL_law_340 : decode cL_law 340 = .ok (.iload_n 3, 1) := by decide +kernel
theorem dL_law_341 : decode cL_law 341 = .ok (.iconst 1, 1) := by decide +kernel
theorem dL_law_342 : decode cL_law 342 = .ok (.iadd, 1) := by decide +kernel
theorem dL_law_343 : decode cL_law 343 = .ok (.iaload, 1) := by decide +kernel
theorem dL_law_344 : decode cL_law 344 = .ok (.aload_n 0, 1) := by decide +kernel
theorem dL_law_345 : decode cL_law 345 = .ok (.iload_n 3, 1) := by decide +kernel
theorem dL_law_346 : decode cL_law 346 = .ok (.iconst 2, 1) := by decide +kernel
theorem dL_law_347 : decode cL_law 347 = .ok (.iadd, 1) := by decide +kernel
theorem dL_law_348 : decode cL_law 348 = .ok (.iaload, 1) := by decide +kernel
theorem dL_law_349 : decode cL_law 349 = .ok (.invokevirtual 43, 3) := by decide +kernel
theorem dL_law_352 : decode cL_law 352 = .ok (.if_icmp .eq 696, 3) := by decide +kernel
theorem dL_law_355 : decode cL_law 355 = .ok (.iconst 0, 1) := by decide +kernel
theorem dL_law_356 : decode cL_law 356 = .ok (.ireturn, 1) := by decide +kernel
theorem dL_law_357 : decode cL_law 357 = .ok (.aload_n 1, 1) := by decide +kernel
theorem dL_law_358 : decode cL_law 358 = .ok (.aload_n 0, 1) := by decide +kernel
theorem dL_law_359 : decode cL_law 359 = .ok (.iload_n 3, 1) := by decide +kernel
theorem dL_law_360 : decode cL_law 360 = .ok (.iconst 1, 1) := by decide +kernel
theorem dL_law_361 : decode cL_law 361 = .ok (.iadd, 1) := by decide +kernel
theorem dL_law_362 : decode cL_law 362 = .ok (.iaload, 1) := by decide +kernel
theorem dL_law_363 : decode cL_law 363 = .ok (.aload_n 0, 1) := by decide +kernel
theorem dL_law_364 : decode cL_law 364 = .ok (.iload_n 3, 1) := by decide +kernel
theorem dL_law_365 : decode cL_law 365 = .ok (.iconst 2, 1) := by decide +kernel
theorem dL_law_366 : decode cL_law 366 = .ok (.iadd, 1) := by decide +kernel
theorem dL_law_367 : decode cL_law 367 = .ok (.iaload, 1) := by decide +kernel
theorem dL_law_368 : decode cL_law 368 = .ok (.invokevirtual 44, 3) := by decide +kernel
theorem dL_law_371 : decode cL_law 371 = .ok (.aload_n 2, 1) := by decide +kernel
theorem dL_law_372 : decode cL_law 372 = .ok (.aload_n 0, 1) := by decide +kernel
theorem dL_law_373 : decode cL_law 373 = .ok (.iload_n 3, 1) := by decide +kernel
theorem dL_law_374 : decode cL_law 374 = .ok (.iconst 1, 1) := by decide +kernel
theorem dL_law_375 : decode cL_law 375 = .ok (.iadd, 1) := by decide +kernel
theorem dL_law_376 : decode cL_law 376 = .ok (.iaload, 1) := by decide +kernel
theorem dL_law_377 : decode cL_law 377 = .ok (.aload_n 0, 1) := by decide +kernel
theorem dL_law_378 : decode cL_law 378 = .ok (.iload_n 3, 1) := by decide +kernel
theorem dL_law_379 : decode cL_law 379 = .ok (.iconst 2, 1) := by decide +kernel
theorem dL_law_380 : decode cL_law 380 = .ok (.iadd, 1) := by decide +kernel
theorem dL_law_381 : decode cL_law 381 = .ok (.iaload, 1) := by decide +kernel
theorem dL_law_382 : decode cL_law 382 = .ok (.invokevirtual 47, 3) := by decide +kernel
theorem dL_law_385 : decode cL_law 385 = .ok (.if_icmp .eq 663, 3) := by decide +kernel
theorem dL_law_388 : decode cL_law 388 = .ok (.iconst 0, 1) := by decide +kernel
theorem dL_law_389 : decode cL_law 389 = .ok (.ireturn, 1) := by decide +kernel
theorem dL_law_390 : decode cL_law 390 = .ok (.aload_n 1, 1) := by decide +kernel
theorem dL_law_391 : decode cL_law 391 = .ok (.aload_n 0, 1) := by decide +kernel
theorem dL_law_392 : decode cL_law 392 = .ok (.iload_n 3, 1) := by decide +kernel
theorem dL_law_393 : decode cL_law 393 = .ok (.iconst 1, 1) := by decide +kernel
theorem dL_law_394 : decode cL_law 394 = .ok (.iadd, 1) := by decide +kernel
theorem dL_law_395 : decode cL_law 395 = .ok (.iaload, 1) := by decide +kernel
theorem dL_law_396 : decode cL_law 396 = .ok (.invokevirtual 48, 3) := by decide +kernel
theorem dL_law_399 : decode cL_law 399 = .ok (.aload_n 2, 1) := by decide +kernel
theorem dL_law_400 : decode cL_law 400 = .ok (.aload_n 0, 1) := by decide +kernel
theorem dL_law_401 : decode cL_law 401 = .ok (.iload_n 3, 1) := by decide +kernel
theorem dL_law_402 : decode cL_law 402 = .ok (.iconst 1, 1) := by decide +kernel
theorem dL_law_403 : decode cL_law 403 = .ok (.iadd, 1) := by decide +kernel
theorem dL_law_404 : decode cL_law 404 = .ok (.iaload, 1) := by decide +kernel
theorem dL_law_405 : decode cL_law 405 = .ok (.invokevirtual 51, 3) := by decide +kernel
theorem dL_law_408 : decode cL_law 408 = .ok (.if_icmp .eq 640, 3) := by decide +kernel
theorem dL_law_411 : decode cL_law 411 = .ok (.iconst 0, 1) := by decide +kernel
theorem dL_law_412 : decode cL_law 412 = .ok (.ireturn, 1) := by decide +kernel
theorem dL_law_413 : decode cL_law 413 = .ok (.aload_n 1, 1) := by decide +kernel
theorem dL_law_414 : decode cL_law 414 = .ok (.aload_n 0, 1) := by decide +kernel
theorem dL_law_415 : decode cL_law 415 = .ok (.iload_n 3, 1) := by decide +kernel
theorem dL_law_416 : decode cL_law 416 = .ok (.iconst 1, 1) := by decide +kernel
theorem dL_law_417 : decode cL_law 417 = .ok (.iadd, 1) := by decide +kernel
theorem dL_law_418 : decode cL_law 418 = .ok (.iaload, 1) := by decide +kernel
theorem dL_law_419 : decode cL_law 419 = .ok (.invokevirtual 52, 3) := by decide +kernel
theorem dL_law_422 : decode cL_law 422 = .ok (.aload_n 2, 1) := by decide +kernel
theorem dL_law_423 : decode cL_law 423 = .ok (.aload_n 0, 1) := by decide +kernel
theorem dL_law_424 : decode cL_law 424 = .ok (.iload_n 3, 1) := by decide +kernel
theorem dL_law_425 : decode cL_law 425 = .ok (.iconst 1, 1) := by decide +kernel
theorem dL_law_426 : decode cL_law 426 = .ok (.iadd, 1) := by decide +kernel
theorem dL_law_427 : decode cL_law 427 = .ok (.iaload, 1) := by decide +kernel
theorem dL_law_428 : decode cL_law 428 = .ok (.invokevirtual 55, 3) := by decide +kernel
theorem dL_law_431 : decode cL_law 431 = .ok (.if_icmp .eq 617, 3) := by decide +kernel
theorem dL_law_434 : decode cL_law 434 = .ok (.iconst 0, 1) := by decide +kernel
theorem dL_law_435 : decode cL_law 435 = .ok (.ireturn, 1) := by decide +kernel
theorem dL_law_436 : decode cL_law 436 = .ok (.aload_n 1, 1) := by decide +kernel
theorem dL_law_437 : decode cL_law 437 = .ok (.aload_n 0, 1) := by decide +kernel
theorem dL_law_438 : decode cL_law 438 = .ok (.iload_n 3, 1) := by decide +kernel
theorem dL_law_439 : decode cL_law 439 = .ok (.iconst 1, 1) := by decide +kernel
theorem dL_law_440 : decode cL_law 440 = .ok (.iadd, 1) := by decide +kernel
theorem dL_law_441 : decode cL_law 441 = .ok (.iaload, 1) := by decide +kernel
theorem dL_law_442 : decode cL_law 442 = .ok (.aload_n 0, 1) := by decide +kernel
theorem dL_law_443 : decode cL_law 443 = .ok (.iload_n 3, 1) := by decide +kernel
theorem dL_law_444 : decode cL_law 444 = .ok (.iconst 2, 1) := by decide +kernel
theorem dL_law_445 : decode cL_law 445 = .ok (.iadd, 1) := by decide +kernel
theorem dL_law_446 : decode cL_law 446 = .ok (.iaload, 1) := by decide +kernel
theorem dL_law_447 : decode cL_law 447 = .ok (.aload_n 0, 1) := by decide +kernel
theorem dL_law_448 : decode cL_law 448 = .ok (.iload_n 3, 1) := by decide +kernel
theorem dL_law_449 : decode cL_law 449 = .ok (.iconst 3, 1) := by decide +kernel
theorem dL_law_450 : decode cL_law 450 = .ok (.iadd, 1) := by decide +kernel
theorem dL_law_451 : decode cL_law 451 = .ok (.iaload, 1) := by decide +kernel
theorem dL_law_452 : decode cL_law 452 = .ok (.invokevirtual 56, 3) := by decide +kernel
theorem dL_law_455 : decode cL_law 455 = .ok (.aload_n 2, 1) := by decide +kernel
theorem dL_law_456 : decode cL_law 456 = .ok (.aload_n 0, 1) := by decide +kernel
theorem dL_law_457 : decode cL_law 457 = .ok (.iload_n 3, 1) := by decide +kernel
theorem dL_law_458 : decode cL_law 458 = .ok (.iconst 1, 1) := by decide +kernel
theorem dL_law_459 : decode cL_law 459 = .ok (.iadd, 1) := by decide +kernel
theorem dL_law_460 : decode cL_law 460 = .ok (.iaload, 1) := by decide +kernel
theorem dL_law_461 : decode cL_law 461 = .ok (.aload_n 0, 1) := by decide +kernel
theorem dL_law_462 : decode cL_law 462 = .ok (.iload_n 3, 1) := by decide +kernel
theorem dL_law_463 : decode cL_law 463 = .ok (.iconst 2, 1) := by decide +kernel
theorem dL_law_464 : decode cL_law 464 = .ok (.iadd, 1) := by decide +kernel
theorem dL_law_465 : decode cL_law 465 = .ok (.iaload, 1) := by decide +kernel
theorem dL_law_466 : decode cL_law 466 = .ok (.aload_n 0, 1) := by decide +kernel
theorem dL_law_467 : decode cL_law 467 = .ok (.iload_n 3, 1) := by decide +kernel
theorem dL_law_468 : decode cL_law 468 = .ok (.iconst 3, 1) := by decide +kernel
theorem dL_law_469 : decode cL_law 469 = .ok (.iadd, 1) := by decide +kernel
theorem dL_law_470 : decode cL_law 470 = .ok (.iaload, 1) := by decide +kernel
theorem dL_law_471 : decode cL_law 471 = .ok (.invokevirtual 60, 3) := by decide +kernel
theorem dL_law_474 : decode cL_law 474 = .ok (.if_icmp .eq 574, 3) := by decide +kernel
theorem dL_law_477 : decode cL_law 477 = .ok (.iconst 0, 1) := by decide +kernel
theorem dL_law_478 : decode cL_law 478 = .ok (.ireturn, 1) := by decide +kernel
theorem dL_law_479 : decode cL_law 479 = .ok (.aload_n 1, 1) := by decide +kernel
theorem dL_law_480 : decode cL_law 480 = .ok (.aload_n 0, 1) := by decide +kernel
theorem dL_law_481 : decode cL_law 481 = .ok (.iload_n 3, 1) := by decide +kernel
theorem dL_law_482 : decode cL_law 482 = .ok (.iconst 1, 1) := by decide +kernel
theorem dL_law_483 : decode cL_law 483 = .ok (.iadd, 1) := by decide +kernel
theorem dL_law_484 : decode cL_law 484 = .ok (.iaload, 1) := by decide +kernel
theorem dL_law_485 : decode cL_law 485 = .ok (.aload_n 0, 1) := by decide +kernel
theorem dL_law_486 : decode cL_law 486 = .ok (.iload_n 3, 1) := by decide +kernel
theorem dL_law_487 : decode cL_law 487 = .ok (.iconst 2, 1) := by decide +kernel
theorem dL_law_488 : decode cL_law 488 = .ok (.iadd, 1) := by decide +kernel
theorem dL_law_489 : decode cL_law 489 = .ok (.iaload, 1) := by decide +kernel
theorem dL_law_490 : decode cL_law 490 = .ok (.aload_n 0, 1) := by decide +kernel
theorem dL_law_491 : decode cL_law 491 = .ok (.iload_n 3, 1) := by decide +kernel
theorem dL_law_492 : decode cL_law 492 = .ok (.iconst 3, 1) := by decide +kernel
theorem dL_law_493 : decode cL_law 493 = .ok (.iadd, 1) := by decide +kernel
theorem dL_law_494 : decode cL_law 494 = .ok (.iaload, 1) := by decide +kernel
theorem dL_law_495 : decode cL_law 495 = .ok (.invokevirtual 61, 3) := by decide +kernel
theorem dL_law_498 : decode cL_law 498 = .ok (.aload_n 2, 1) := by decide +kernel
theorem dL_law_499 : decode cL_law 499 = .ok (.aload_n 0, 1) := by decide +kernel
theorem dL_law_500 : decode cL_law 500 = .ok (.iload_n 3, 1) := by decide +kernel
theorem dL_law_501 : decode cL_law 501 = .ok (.iconst 1, 1) := by decide +kernel
theorem dL_law_502 : decode cL_law 502 = .ok (.iadd, 1) := by decide +kernel
theorem dL_law_503 : decode cL_law 503 = .ok (.iaload, 1) := by decide +kernel
theorem dL_law_504 : decode cL_law 504 = .ok (.aload_n 0, 1) := by decide +kernel
theorem dL_law_505 : decode cL_law 505 = .ok (.iload_n 3, 1) := by decide +kernel
theorem dL_law_506 : decode cL_law 506 = .ok (.iconst 2, 1) := by decide +kernel
theorem dL_law_507 : decode cL_law 507 = .ok (.iadd, 1) := by decide +kernel
theorem dL_law_508 : decode cL_law 508 = .ok (.iaload, 1) := by decide +kernel
theorem dL_law_509 : decode cL_law 509 = .ok (.aload_n 0, 1) := by decide +kernel
theorem dL_law_510 : decode cL_law 510 = .ok (.iload_n 3, 1) := by decide +kernel
theorem dL_law_511 : decode cL_law 511 = .ok (.iconst 3, 1) := by decide +kernel
theorem dL_law_512 : decode cL_law 512 = .ok (.iadd, 1) := by decide +kernel
theorem dL_law_513 : decode cL_law 513 = .ok (.iaload, 1) := by decide +kernel
theorem dL_law_514 : decode cL_law 514 = .ok (.invokevirtual 64, 3) := by decide +kernel
theorem dL_law_517 : decode cL_law 517 = .ok (.if_icmp .eq 531, 3) := by decide +kernel
theorem dL_law_520 : decode cL_law 520 = .ok (.iconst 0, 1) := by decide +kernel
theorem dL_law_521 : decode cL_law 521 = .ok (.ireturn, 1) := by decide +kernel
theorem dL_law_522 : decode cL_law 522 = .ok (.aload_n 1, 1) := by decide +kernel
theorem dL_law_523 : decode cL_law 523 = .ok (.aload_n 0, 1) := by decide +kernel
theorem dL_law_524 : decode cL_law 524 = .ok (.iload_n 3, 1) := by decide +kernel
theorem dL_law_525 : decode cL_law 525 = .ok (.iconst 1, 1) := by decide +kernel
theorem dL_law_526 : decode cL_law 526 = .ok (.iadd, 1) := by decide +kernel
theorem dL_law_527 : decode cL_law 527 = .ok (.iaload, 1) := by decide +kernel
theorem dL_law_528 : decode cL_law 528 = .ok (.invokevirtual 65, 3) := by decide +kernel
theorem dL_law_531 : decode cL_law 531 = .ok (.aload_n 2, 1) := by decide +kernel
theorem dL_law_532 : decode cL_law 532 = .ok (.aload_n 0, 1) := by decide +kernel
theorem dL_law_533 : decode cL_law 533 = .ok (.iload_n 3, 1) := by decide +kernel
theorem dL_law_534 : decode cL_law 534 = .ok (.iconst 1, 1) := by decide +kernel
theorem dL_law_535 : decode cL_law 535 = .ok (.iadd, 1) := by decide +kernel
theorem dL_law_536 : decode cL_law 536 = .ok (.iaload, 1) := by decide +kernel
theorem dL_law_537 : decode cL_law 537 = .ok (.invokevirtual 68, 3) := by decide +kernel
theorem dL_law_540 : decode cL_law 540 = .ok (.if_icmp .eq 508, 3) := by decide +kernel
theorem dL_law_543 : decode cL_law 543 = .ok (.iconst 0, 1) := by decide +kernel
theorem dL_law_544 : decode cL_law 544 = .ok (.ireturn, 1) := by decide +kernel
theorem dL_law_545 : decode cL_law 545 = .ok (.aload_n 1, 1) := by decide +kernel
theorem dL_law_546 : decode cL_law 546 = .ok (.aload_n 0, 1) := by decide +kernel
theorem dL_law_547 : decode cL_law 547 = .ok (.iload_n 3, 1) := by decide +kernel
theorem dL_law_548 : decode cL_law 548 = .ok (.iconst 1, 1) := by decide +kernel
theorem dL_law_549 : decode cL_law 549 = .ok (.iadd, 1) := by decide +kernel
theorem dL_law_550 : decode cL_law 550 = .ok (.iaload, 1) := by decide +kernel
theorem dL_law_551 : decode cL_law 551 = .ok (.aload_n 0, 1) := by decide +kernel
theorem dL_law_552 : decode cL_law 552 = .ok (.iload_n 3, 1) := by decide +kernel
theorem dL_law_553 : decode cL_law 553 = .ok (.iconst 2, 1) := by decide +kernel
theorem dL_law_554 : decode cL_law 554 = .ok (.iadd, 1) := by decide +kernel
theorem dL_law_555 : decode cL_law 555 = .ok (.iaload, 1) := by decide +kernel
theorem dL_law_556 : decode cL_law 556 = .ok (.aload_n 0, 1) := by decide +kernel
theorem dL_law_557 : decode cL_law 557 = .ok (.iload_n 3, 1) := by decide +kernel
theorem dL_law_558 : decode cL_law 558 = .ok (.iconst 3, 1) := by decide +kernel
theorem dL_law_559 : decode cL_law 559 = .ok (.iadd, 1) := by decide +kernel
theorem dL_law_560 : decode cL_law 560 = .ok (.iaload, 1) := by decide +kernel
theorem dL_law_561 : decode cL_law 561 = .ok (.invokevirtual 69, 3) := by decide +kernel
theorem dL_law_564 : decode cL_law 564 = .ok (.aload_n 2, 1) := by decide +kernel
theorem dL_law_565 : decode cL_law 565 = .ok (.aload_n 0, 1) := by decide +kernel
theorem dL_law_566 : decode cL_law 566 = .ok (.iload_n 3, 1) := by decide +kernel
theorem dL_law_567 : decode cL_law 567 = .ok (.iconst 1, 1) := by decide +kernel
theorem dL_law_568 : decode cL_law 568 = .ok (.iadd, 1) := by decide +kernel
theorem dL_law_569 : decode cL_law 569 = .ok (.iaload, 1) := by decide +kernel
theorem dL_law_570 : decode cL_law 570 = .ok (.aload_n 0, 1) := by decide +kernel
theorem dL_law_571 : decode cL_law 571 = .ok (.iload_n 3, 1) := by decide +kernel
theorem dL_law_572 : decode cL_law 572 = .ok (.iconst 2, 1) := by decide +kernel
theorem dL_law_573 : decode cL_law 573 = .ok (.iadd, 1) := by decide +kernel
theorem dL_law_574 : decode cL_law 574 = .ok (.iaload, 1) := by decide +kernel
theorem dL_law_575 : decode cL_law 575 = .ok (.aload_n 0, 1) := by decide +kernel
theorem dL_law_576 : decode cL_law 576 = .ok (.iload_n 3, 1) := by decide +kernel
theorem dL_law_577 : decode cL_law 577 = .ok (.iconst 3, 1) := by decide +kernel
theorem dL_law_578 : decode cL_law 578 = .ok (.iadd, 1) := by decide +kernel
theorem dL_law_579 : decode cL_law 579 = .ok (.iaload, 1) := by decide +kernel
theorem dL_law_580 : decode cL_law 580 = .ok (.invokevirtual 72, 3) := by decide +kernel
theorem dL_law_583 : decode cL_law 583 = .ok (.if_icmp .eq 465, 3) := by decide +kernel
theorem dL_law_586 : decode cL_law 586 = .ok (.iconst 0, 1) := by decide +kernel
theorem dL_law_587 : decode cL_law 587 = .ok (.ireturn, 1) := by decide +kernel
theorem dL_law_588 : decode cL_law 588 = .ok (.aload_n 1, 1) := by decide +kernel
theorem dL_law_589 : decode cL_law 589 = .ok (.aload_n 0, 1) := by decide +kernel
theorem dL_law_590 : decode cL_law 590 = .ok (.iload_n 3, 1) := by decide +kernel
theorem dL_law_591 : decode cL_law 591 = .ok (.iconst 1, 1) := by decide +kernel
theorem dL_law_592 : decode cL_law 592 = .ok (.iadd, 1) := by decide +kernel
theorem dL_law_593 : decode cL_law 593 = .ok (.iaload, 1) := by decide +kernel
theorem dL_law_594 : decode cL_law 594 = .ok (.invokevirtual 73, 3) := by decide +kernel
theorem dL_law_597 : decode cL_law 597 = .ok (.aload_n 2, 1) := by decide +kernel
theorem dL_law_598 : decode cL_law 598 = .ok (.aload_n 0, 1) := by decide +kernel
theorem dL_law_599 : decode cL_law 599 = .ok (.iload_n 3, 1) := by decide +kernel
theorem dL_law_600 : decode cL_law 600 = .ok (.iconst 1, 1) := by decide +kernel
theorem dL_law_601 : decode cL_law 601 = .ok (.iadd, 1) := by decide +kernel
theorem dL_law_602 : decode cL_law 602 = .ok (.iaload, 1) := by decide +kernel
theorem dL_law_603 : decode cL_law 603 = .ok (.invokevirtual 76, 3) := by decide +kernel
theorem dL_law_606 : decode cL_law 606 = .ok (.if_icmp .eq 442, 3) := by decide +kernel
theorem dL_law_609 : decode cL_law 609 = .ok (.iconst 0, 1) := by decide +kernel
theorem dL_law_610 : decode cL_law 610 = .ok (.ireturn, 1) := by decide +kernel
theorem dL_law_611 : decode cL_law 611 = .ok (.aload_n 1, 1) := by decide +kernel
theorem dL_law_612 : decode cL_law 612 = .ok (.aload_n 0, 1) := by decide +kernel
theorem dL_law_613 : decode cL_law 613 = .ok (.iload_n 3, 1) := by decide +kernel
theorem dL_law_614 : decode cL_law 614 = .ok (.iconst 1, 1) := by decide +kernel
theorem dL_law_615 : decode cL_law 615 = .ok (.iadd, 1) := by decide +kernel
theorem dL_law_616 : decode cL_law 616 = .ok (.iaload, 1) := by decide +kernel
theorem dL_law_617 : decode cL_law 617 = .ok (.aload_n 0, 1) := by decide +kernel
theorem dL_law_618 : decode cL_law 618 = .ok (.iload_n 3, 1) := by decide +kernel
theorem dL_law_619 : decode cL_law 619 = .ok (.iconst 2, 1) := by decide +kernel
theorem dL_law_620 : decode cL_law 620 = .ok (.iadd, 1) := by decide +kernel
theorem dL_law_621 : decode cL_law 621 = .ok (.iaload, 1) := by decide +kernel
theorem dL_law_622 : decode cL_law 622 = .ok (.aload_n 0, 1) := by decide +kernel
theorem dL_law_623 : decode cL_law 623 = .ok (.iload_n 3, 1) := by decide +kernel
theorem dL_law_624 : decode cL_law 624 = .ok (.iconst 3, 1) := by decide +kernel
theorem dL_law_625 : decode cL_law 625 = .ok (.iadd, 1) := by decide +kernel
theorem dL_law_626 : decode cL_law 626 = .ok (.iaload, 1) := by decide +kernel
theorem dL_law_627 : decode cL_law 627 = .ok (.aload_n 0, 1) := by decide +kernel
theorem dL_law_628 : decode cL_law 628 = .ok (.iload_n 3, 1) := by decide +kernel
theorem dL_law_629 : decode cL_law 629 = .ok (.iconst 4, 1) := by decide +kernel
theorem dL_law_630 : decode cL_law 630 = .ok (.iadd, 1) := by decide +kernel
theorem dL_law_631 : decode cL_law 631 = .ok (.iaload, 1) := by decide +kernel
theorem dL_law_632 : decode cL_law 632 = .ok (.invokevirtual 77, 3) := by decide +kernel
theorem dL_law_635 : decode cL_law 635 = .ok (.aload_n 2, 1) := by decide +kernel
theorem dL_law_636 : decode cL_law 636 = .ok (.aload_n 0, 1) := by decide +kernel
theorem dL_law_637 : decode cL_law 637 = .ok (.iload_n 3, 1) := by decide +kernel
theorem dL_law_638 : decode cL_law 638 = .ok (.iconst 1, 1) := by decide +kernel
theorem dL_law_639 : decode cL_law 639 = .ok (.iadd, 1) := by decide +kernel
theorem dL_law_640 : decode cL_law 640 = .ok (.iaload, 1) := by decide +kernel
theorem dL_law_641 : decode cL_law 641 = .ok (.aload_n 0, 1) := by decide +kernel
theorem dL_law_642 : decode cL_law 642 = .ok (.iload_n 3, 1) := by decide +kernel
theorem dL_law_643 : decode cL_law 643 = .ok (.iconst 2, 1) := by decide +kernel
theorem dL_law_644 : decode cL_law 644 = .ok (.iadd, 1) := by decide +kernel
theorem dL_law_645 : decode cL_law 645 = .ok (.iaload, 1) := by decide +kernel
theorem dL_law_646 : decode cL_law 646 = .ok (.aload_n 0, 1) := by decide +kernel
theorem dL_law_647 : decode cL_law 647 = .ok (.iload_n 3, 1) := by decide +kernel
theorem dL_law_648 : decode cL_law 648 = .ok (.iconst 3, 1) := by decide +kernel
theorem dL_law_649 : decode cL_law 649 = .ok (.iadd, 1) := by decide +kernel
theorem dL_law_650 : decode cL_law 650 = .ok (.iaload, 1) := by decide +kernel
theorem dL_law_651 : decode cL_law 651 = .ok (.aload_n 0, 1) := by decide +kernel
theorem dL_law_652 : decode cL_law 652 = .ok (.iload_n 3, 1) := by decide +kernel
theorem dL_law_653 : decode cL_law 653 = .ok (.iconst 4, 1) := by decide +kernel
theorem dL_law_654 : decode cL_law 654 = .ok (.iadd, 1) := by decide +kernel
theorem dL_law_655 : decode cL_law 655 = .ok (.iaload, 1) := by decide +kernel
theorem dL_law_656 : decode cL_law 656 = .ok (.invokevirtual 81, 3) := by decide +kernel
theorem dL_law_659 : decode cL_law 659 = .ok (.if_icmp .eq 389, 3) := by decide +kernel
theorem dL_law_662 : decode cL_law 662 = .ok (.iconst 0, 1) := by decide +kernel
theorem dL_law_663 : decode cL_law 663 = .ok (.ireturn, 1) := by decide +kernel
theorem dL_law_664 : decode cL_law 664 = .ok (.aload_n 1, 1) := by decide +kernel
theorem dL_law_665 : decode cL_law 665 = .ok (.aload_n 0, 1) := by decide +kernel
theorem dL_law_666 : decode cL_law 666 = .ok (.iload_n 3, 1) := by decide +kernel
theorem dL_law_667 : decode cL_law 667 = .ok (.iconst 1, 1) := by decide +kernel
theorem dL_law_668 : decode cL_law 668 = .ok (.iadd, 1) := by decide +kernel
theorem dL_law_669 : decode cL_law 669 = .ok (.iaload, 1) := by decide +kernel
theorem dL_law_670 : decode cL_law 670 = .ok (.aload_n 0, 1) := by decide +kernel
theorem dL_law_671 : decode cL_law 671 = .ok (.iload_n 3, 1) := by decide +kernel
theorem dL_law_672 : decode cL_law 672 = .ok (.iconst 2, 1) := by decide +kernel
theorem dL_law_673 : decode cL_law 673 = .ok (.iadd, 1) := by decide +kernel
theorem dL_law_674 : decode cL_law 674 = .ok (.iaload, 1) := by decide +kernel
theorem dL_law_675 : decode cL_law 675 = .ok (.invokevirtual 82, 3) := by decide +kernel
theorem dL_law_678 : decode cL_law 678 = .ok (.aload_n 2, 1) := by decide +kernel
theorem dL_law_679 : decode cL_law 679 = .ok (.aload_n 0, 1) := by decide +kernel
theorem dL_law_680 : decode cL_law 680 = .ok (.iload_n 3, 1) := by decide +kernel
theorem dL_law_681 : decode cL_law 681 = .ok (.iconst 1, 1) := by decide +kernel
theorem dL_law_682 : decode cL_law 682 = .ok (.iadd, 1) := by decide +kernel
theorem dL_law_683 : decode cL_law 683 = .ok (.iaload, 1) := by decide +kernel
theorem dL_law_684 : decode cL_law 684 = .ok (.aload_n 0, 1) := by decide +kernel
theorem dL_law_685 : decode cL_law 685 = .ok (.iload_n 3, 1) := by decide +kernel
theorem dL_law_686 : decode cL_law 686 = .ok (.iconst 2, 1) := by decide +kernel
theorem dL_law_687 : decode cL_law 687 = .ok (.iadd, 1) := by decide +kernel
theorem dL_law_688 : decode cL_law 688 = .ok (.iaload, 1) := by decide +kernel
theorem dL_law_689 : decode cL_law 689 = .ok (.invokevirtual 85, 3) := by decide +kernel
theorem dL_law_692 : decode cL_law 692 = .ok (.if_icmp .eq 356, 3) := by decide +kernel
theorem dL_law_695 : decode cL_law 695 = .ok (.iconst 0, 1) := by decide +kernel
theorem dL_law_696 : decode cL_law 696 = .ok (.ireturn, 1) := by decide +kernel
theorem dL_law_697 : decode cL_law 697 = .ok (.aload_n 1, 1) := by decide +kernel
theorem dL_law_698 : decode cL_law 698 = .ok (.aload_n 0, 1) := by decide +kernel
theorem dL_law_699 : decode cL_law 699 = .ok (.iload_n 3, 1) := by decide +kernel
theorem dL_law_700 : decode cL_law 700 = .ok (.iconst 1, 1) := by decide +kernel
theorem dL_law_701 : decode cL_law 701 = .ok (.iadd, 1) := by decide +kernel
theorem dL_law_702 : decode cL_law 702 = .ok (.iaload, 1) := by decide +kernel
theorem dL_law_703 : decode cL_law 703 = .ok (.aload_n 0, 1) := by decide +kernel
theorem dL_law_704 : decode cL_law 704 = .ok (.iload_n 3, 1) := by decide +kernel
theorem dL_law_705 : decode cL_law 705 = .ok (.iconst 2, 1) := by decide +kernel
theorem dL_law_706 : decode cL_law 706 = .ok (.iadd, 1) := by decide +kernel
theorem dL_law_707 : decode cL_law 707 = .ok (.iaload, 1) := by decide +kernel
theorem dL_law_708 : decode cL_law 708 = .ok (.aload_n 0, 1) := by decide +kernel
theorem dL_law_709 : decode cL_law 709 = .ok (.iload_n 3, 1) := by decide +kernel
theorem dL_law_710 : decode cL_law 710 = .ok (.iconst 3, 1) := by decide +kernel
theorem dL_law_711 : decode cL_law 711 = .ok (.iadd, 1) := by decide +kernel
theorem dL_law_712 : decode cL_law 712 = .ok (.iaload, 1) := by decide +kernel
theorem dL_law_713 : decode cL_law 713 = .ok (.invokevirtual 86, 3) := by decide +kernel
theorem dL_law_716 : decode cL_law 716 = .ok (.aload_n 2, 1) := by decide +kernel
theorem dL_law_717 : decode cL_law 717 = .ok (.aload_n 0, 1) := by decide +kernel
theorem dL_law_718 : decode cL_law 718 = .ok (.iload_n 3, 1) := by decide +kernel
theorem dL_law_719 : decode cL_law 719 = .ok (.iconst 1, 1) := by decide +kernel
theorem dL_law_720 : decode cL_law 720 = .ok (.iadd, 1) := by decide +kernel
theorem dL_law_721 : decode cL_law 721 = .ok (.iaload, 1) := by decide +kernel
theorem dL_law_722 : decode cL_law 722 = .ok (.aload_n 0, 1) := by decide +kernel
theorem dL_law_723 : decode cL_law 723 = .ok (.iload_n 3, 1) := by decide +kernel
theorem dL_law_724 : decode cL_law 724 = .ok (.iconst 2, 1) := by decide +kernel
theorem dL_law_725 : decode cL_law 725 = .ok (.iadd, 1) := by decide +kernel
theorem dL_law_726 : decode cL_law 726 = .ok (.iaload, 1) := by decide +kernel
theorem dL_law_727 : decode cL_law 727 = .ok (.aload_n 0, 1) := by decide +kernel
theorem dL_law_728 : decode cL_law 728 = .ok (.iload_n 3, 1) := by decide +kernel
theorem dL_law_729 : decode cL_law 729 = .ok (.iconst 3, 1) := by decide +kernel
theorem dL_law_730 : decode cL_law 730 = .ok (.iadd, 1) := by decide +kernel
theorem dL_law_731 : decode cL_law 731 = .ok (.iaload, 1) := by decide +kernel
theorem dL_law_732 : decode cL_law 732 = .ok (.invokevirtual 89, 3) := by decide +kernel
theorem dL_law_735 : decode cL_law 735 = .ok (.if_icmp .eq 313, 3) := by decide +kernel
theorem dL_law_738 : decode cL_law 738 = .ok (.iconst 0, 1) := by decide +kernel
theorem dL_law_739 : decode cL_law 739 = .ok (.ireturn, 1) := by decide +kernel
theorem dL_law_740 : decode cL_law 740 = .ok (.aload_n 1, 1) := by decide +kernel
theorem dL_law_741 : decode cL_law 741 = .ok (.invokevirtual 90, 3) := by decide +kernel
theorem dL_law_744 : decode cL_law 744 = .ok (.aload_n 2, 1) := by decide +kernel
theorem dL_law_745 : decode cL_law 745 = .ok (.invokevirtual 93, 3) := by decide +kernel
theorem dL_law_748 : decode cL_law 748 = .ok (.if_icmp .eq 300, 3) := by decide +kernel
theorem dL_law_751 : decode cL_law 751 = .ok (.iconst 0, 1) := by decide +kernel
theorem dL_law_752 : decode cL_law 752 = .ok (.ireturn, 1) := by decide +kernel
theorem dL_law_753 : decode cL_law 753 = .ok (.aload_n 1, 1) := by decide +kernel
theorem dL_law_754 : decode cL_law 754 = .ok (.aload_n 0, 1) := by decide +kernel
theorem dL_law_755 : decode cL_law 755 = .ok (.iload_n 3, 1) := by decide +kernel
theorem dL_law_756 : decode cL_law 756 = .ok (.iconst 1, 1) := by decide +kernel
theorem dL_law_757 : decode cL_law 757 = .ok (.iadd, 1) := by decide +kernel
theorem dL_law_758 : decode cL_law 758 = .ok (.iaload, 1) := by decide +kernel
theorem dL_law_759 : decode cL_law 759 = .ok (.aload_n 0, 1) := by decide +kernel
theorem dL_law_760 : decode cL_law 760 = .ok (.iload_n 3, 1) := by decide +kernel
theorem dL_law_761 : decode cL_law 761 = .ok (.iconst 2, 1) := by decide +kernel
theorem dL_law_762 : decode cL_law 762 = .ok (.iadd, 1) := by decide +kernel
theorem dL_law_763 : decode cL_law 763 = .ok (.iaload, 1) := by decide +kernel
theorem dL_law_764 : decode cL_law 764 = .ok (.aload_n 0, 1) := by decide +kernel
theorem dL_law_765 : decode cL_law 765 = .ok (.iload_n 3, 1) := by decide +kernel
theorem dL_law_766 : decode cL_law 766 = .ok (.iconst 3, 1) := by decide +kernel
theorem dL_law_767 : decode cL_law 767 = .ok (.iadd, 1) := by decide +kernel
theorem dL_law_768 : decode cL_law 768 = .ok (.iaload, 1) := by decide +kernel
theorem dL_law_769 : decode cL_law 769 = .ok (.invokevirtual 94, 3) := by decide +kernel
theorem dL_law_772 : decode cL_law 772 = .ok (.aload_n 2, 1) := by decide +kernel
theorem dL_law_773 : decode cL_law 773 = .ok (.aload_n 0, 1) := by decide +kernel
theorem dL_law_774 : decode cL_law 774 = .ok (.iload_n 3, 1) := by decide +kernel
theorem dL_law_775 : decode cL_law 775 = .ok (.iconst 1, 1) := by decide +kernel
theorem dL_law_776 : decode cL_law 776 = .ok (.iadd, 1) := by decide +kernel
theorem dL_law_777 : decode cL_law 777 = .ok (.iaload, 1) := by decide +kernel
theorem dL_law_778 : decode cL_law 778 = .ok (.aload_n 0, 1) := by decide +kernel
theorem dL_law_779 : decode cL_law 779 = .ok (.iload_n 3, 1) := by decide +kernel
theorem dL_law_780 : decode cL_law 780 = .ok (.iconst 2, 1) := by decide +kernel
theorem dL_law_781 : decode cL_law 781 = .ok (.iadd, 1) := by decide +kernel
theorem dL_law_782 : decode cL_law 782 = .ok (.iaload, 1) := by decide +kernel
theorem dL_law_783 : decode cL_law 783 = .ok (.aload_n 0, 1) := by decide +kernel
theorem dL_law_784 : decode cL_law 784 = .ok (.iload_n 3, 1) := by decide +kernel
theorem dL_law_785 : decode cL_law 785 = .ok (.iconst 3, 1) := by decide +kernel
theorem dL_law_786 : decode cL_law 786 = .ok (.iadd, 1) := by decide +kernel
theorem dL_law_787 : decode cL_law 787 = .ok (.iaload, 1) := by decide +kernel
theorem dL_law_788 : decode cL_law 788 = .ok (.invokevirtual 97, 3) := by decide +kernel
theorem dL_law_791 : decode cL_law 791 = .ok (.if_icmp .eq 257, 3) := by decide +kernel
theorem dL_law_794 : decode cL_law 794 = .ok (.iconst 0, 1) := by decide +kernel
theorem dL_law_795 : decode cL_law 795 = .ok (.ireturn, 1) := by decide +kernel
theorem dL_law_796 : decode cL_law 796 = .ok (.aload_n 1, 1) := by decide +kernel
theorem dL_law_797 : decode cL_law 797 = .ok (.aload_n 0, 1) := by decide +kernel
theorem dL_law_798 : decode cL_law 798 = .ok (.iload_n 3, 1) := by decide +kernel
theorem dL_law_799 : decode cL_law 799 = .ok (.iconst 1, 1) := by decide +kernel
theorem dL_law_800 : decode cL_law 800 = .ok (.iadd, 1) := by decide +kernel
theorem dL_law_801 : decode cL_law 801 = .ok (.iaload, 1) := by decide +kernel
theorem dL_law_802 : decode cL_law 802 = .ok (.invokevirtual 98, 3) := by decide +kernel
theorem dL_law_805 : decode cL_law 805 = .ok (.aload_n 2, 1) := by decide +kernel
theorem dL_law_806 : decode cL_law 806 = .ok (.aload_n 0, 1) := by decide +kernel
theorem dL_law_807 : decode cL_law 807 = .ok (.iload_n 3, 1) := by decide +kernel
theorem dL_law_808 : decode cL_law 808 = .ok (.iconst 1, 1) := by decide +kernel
theorem dL_law_809 : decode cL_law 809 = .ok (.iadd, 1) := by decide +kernel
theorem dL_law_810 : decode cL_law 810 = .ok (.iaload, 1) := by decide +kernel
theorem dL_law_811 : decode cL_law 811 = .ok (.invokevirtual 101, 3) := by decide +kernel
theorem dL_law_814 : decode cL_law 814 = .ok (.if_icmp .eq 234, 3) := by decide +kernel
theorem dL_law_817 : decode cL_law 817 = .ok (.iconst 0, 1) := by decide +kernel
theorem dL_law_818 : decode cL_law 818 = .ok (.ireturn, 1) := by decide +kernel
theorem dL_law_819 : decode cL_law 819 = .ok (.aload_n 1, 1) := by decide +kernel
theorem dL_law_820 : decode cL_law 820 = .ok (.aload_n 0, 1) := by decide +kernel
theorem dL_law_821 : decode cL_law 821 = .ok (.iload_n 3, 1) := by decide +kernel
theorem dL_law_822 : decode cL_law 822 = .ok (.iconst 1, 1) := by decide +kernel
theorem dL_law_823 : decode cL_law 823 = .ok (.iadd, 1) := by decide +kernel
theorem dL_law_824 : decode cL_law 824 = .ok (.iaload, 1) := by decide +kernel
theorem dL_law_825 : decode cL_law 825 = .ok (.aload_n 0, 1) := by decide +kernel
theorem dL_law_826 : decode cL_law 826 = .ok (.iload_n 3, 1) := by decide +kernel
theorem dL_law_827 : decode cL_law 827 = .ok (.iconst 2, 1) := by decide +kernel
theorem dL_law_828 : decode cL_law 828 = .ok (.iadd, 1) := by decide +kernel
theorem dL_law_829 : decode cL_law 829 = .ok (.iaload, 1) := by decide +kernel
theorem dL_law_830 : decode cL_law 830 = .ok (.aload_n 0, 1) := by decide +kernel
theorem dL_law_831 : decode cL_law 831 = .ok (.iload_n 3, 1) := by decide +kernel
theorem dL_law_832 : decode cL_law 832 = .ok (.iconst 3, 1) := by decide +kernel
theorem dL_law_833 : decode cL_law 833 = .ok (.iadd, 1) := by decide +kernel
theorem dL_law_834 : decode cL_law 834 = .ok (.iaload, 1) := by decide +kernel
theorem dL_law_835 : decode cL_law 835 = .ok (.aload_n 0, 1) := by decide +kernel
theorem dL_law_836 : decode cL_law 836 = .ok (.iload_n 3, 1) := by decide +kernel
theorem dL_law_837 : decode cL_law 837 = .ok (.iconst 4, 1) := by decide +kernel
theorem dL_law_838 : decode cL_law 838 = .ok (.iadd, 1) := by decide +kernel
theorem dL_law_839 : decode cL_law 839 = .ok (.iaload, 1) := by decide +kernel
theorem dL_law_840 : decode cL_law 840 = .ok (.invokevirtual 102, 3) := by decide +kernel
theorem dL_law_843 : decode cL_law 843 = .ok (.aload_n 2, 1) := by decide +kernel
theorem dL_law_844 : decode cL_law 844 = .ok (.aload_n 0, 1) := by decide +kernel
theorem dL_law_845 : decode cL_law 845 = .ok (.iload_n 3, 1) := by decide +kernel
theorem dL_law_846 : decode cL_law 846 = .ok (.iconst 1, 1) := by decide +kernel
theorem dL_law_847 : decode cL_law 847 = .ok (.iadd, 1) := by decide +kernel
theorem dL_law_848 : decode cL_law 848 = .ok (.iaload, 1) := by decide +kernel
theorem dL_law_849 : decode cL_law 849 = .ok (.aload_n 0, 1) := by decide +kernel
theorem dL_law_850 : decode cL_law 850 = .ok (.iload_n 3, 1) := by decide +kernel
theorem dL_law_851 : decode cL_law 851 = .ok (.iconst 2, 1) := by decide +kernel
theorem dL_law_852 : decode cL_law 852 = .ok (.iadd, 1) := by decide +kernel
theorem dL_law_853 : decode cL_law 853 = .ok (.iaload, 1) := by decide +kernel
theorem dL_law_854 : decode cL_law 854 = .ok (.aload_n 0, 1) := by decide +kernel
theorem dL_law_855 : decode cL_law 855 = .ok (.iload_n 3, 1) := by decide +kernel
theorem dL_law_856 : decode cL_law 856 = .ok (.iconst 3, 1) := by decide +kernel
theorem dL_law_857 : decode cL_law 857 = .ok (.iadd, 1) := by decide +kernel
theorem dL_law_858 : decode cL_law 858 = .ok (.iaload, 1) := by decide +kernel
theorem dL_law_859 : decode cL_law 859 = .ok (.aload_n 0, 1) := by decide +kernel
theorem dL_law_860 : decode cL_law 860 = .ok (.iload_n 3, 1) := by decide +kernel
theorem dL_law_861 : decode cL_law 861 = .ok (.iconst 4, 1) := by decide +kernel
theorem dL_law_862 : decode cL_law 862 = .ok (.iadd, 1) := by decide +kernel
theorem dL_law_863 : decode cL_law 863 = .ok (.iaload, 1) := by decide +kernel
theorem dL_law_864 : decode cL_law 864 = .ok (.invokevirtual 105, 3) := by decide +kernel
theorem dL_law_867 : decode cL_law 867 = .ok (.if_icmp .eq 181, 3) := by decide +kernel
theorem dL_law_870 : decode cL_law 870 = .ok (.iconst 0, 1) := by decide +kernel
theorem dL_law_871 : decode cL_law 871 = .ok (.ireturn, 1) := by decide +kernel
theorem dL_law_872 : decode cL_law 872 = .ok (.aload_n 1, 1) := by decide +kernel
theorem dL_law_873 : decode cL_law 873 = .ok (.aload_n 0, 1) := by decide +kernel
theorem dL_law_874 : decode cL_law 874 = .ok (.iload_n 3, 1) := by decide +kernel
theorem dL_law_875 : decode cL_law 875 = .ok (.iconst 1, 1) := by decide +kernel
theorem dL_law_876 : decode cL_law 876 = .ok (.iadd, 1) := by decide +kernel
theorem dL_law_877 : decode cL_law 877 = .ok (.iaload, 1) := by decide +kernel
theorem dL_law_878 : decode cL_law 878 = .ok (.aload_n 0, 1) := by decide +kernel
theorem dL_law_879 : decode cL_law 879 = .ok (.iload_n 3, 1) := by decide +kernel
theorem dL_law_880 : decode cL_law 880 = .ok (.iconst 2, 1) := by decide +kernel
theorem dL_law_881 : decode cL_law 881 = .ok (.iadd, 1) := by decide +kernel
theorem dL_law_882 : decode cL_law 882 = .ok (.iaload, 1) := by decide +kernel
theorem dL_law_883 : decode cL_law 883 = .ok (.aload_n 0, 1) := by decide +kernel
theorem dL_law_884 : decode cL_law 884 = .ok (.iload_n 3, 1) := by decide +kernel
theorem dL_law_885 : decode cL_law 885 = .ok (.iconst 3, 1) := by decide +kernel
theorem dL_law_886 : decode cL_law 886 = .ok (.iadd, 1) := by decide +kernel
theorem dL_law_887 : decode cL_law 887 = .ok (.iaload, 1) := by decide +kernel
theorem dL_law_888 : decode cL_law 888 = .ok (.invokevirtual 106, 3) := by decide +kernel
theorem dL_law_891 : decode cL_law 891 = .ok (.aload_n 2, 1) := by decide +kernel
theorem dL_law_892 : decode cL_law 892 = .ok (.aload_n 0, 1) := by decide +kernel
theorem dL_law_893 : decode cL_law 893 = .ok (.iload_n 3, 1) := by decide +kernel
theorem dL_law_894 : decode cL_law 894 = .ok (.iconst 1, 1) := by decide +kernel
theorem dL_law_895 : decode cL_law 895 = .ok (.iadd, 1) := by decide +kernel
theorem dL_law_896 : decode cL_law 896 = .ok (.iaload, 1) := by decide +kernel
theorem dL_law_897 : decode cL_law 897 = .ok (.aload_n 0, 1) := by decide +kernel
theorem dL_law_898 : decode cL_law 898 = .ok (.iload_n 3, 1) := by decide +kernel
theorem dL_law_899 : decode cL_law 899 = .ok (.iconst 2, 1) := by decide +kernel
theorem dL_law_900 : decode cL_law 900 = .ok (.iadd, 1) := by decide +kernel
theorem dL_law_901 : decode cL_law 901 = .ok (.iaload, 1) := by decide +kernel
theorem dL_law_902 : decode cL_law 902 = .ok (.aload_n 0, 1) := by decide +kernel
theorem dL_law_903 : decode cL_law 903 = .ok (.iload_n 3, 1) := by decide +kernel
theorem dL_law_904 : decode cL_law 904 = .ok (.iconst 3, 1) := by decide +kernel
theorem dL_law_905 : decode cL_law 905 = .ok (.iadd, 1) := by decide +kernel
theorem dL_law_906 : decode cL_law 906 = .ok (.iaload, 1) := by decide +kernel
theorem dL_law_907 : decode cL_law 907 = .ok (.invokevirtual 109, 3) := by decide +kernel
theorem dL_law_910 : decode cL_law 910 = .ok (.if_icmp .eq 138, 3) := by decide +kernel
theorem dL_law_913 : decode cL_law 913 = .ok (.iconst 0, 1) := by decide +kernel
theorem dL_law_914 : decode cL_law 914 = .ok (.ireturn, 1) := by decide +kernel
theorem dL_law_915 : decode cL_law 915 = .ok (.aload_n 1, 1) := by decide +kernel
theorem dL_law_916 : decode cL_law 916 = .ok (.aload_n 0, 1) := by decide +kernel
theorem dL_law_917 : decode cL_law 917 = .ok (.iload_n 3, 1) := by decide +kernel
theorem dL_law_918 : decode cL_law 918 = .ok (.iconst 1, 1) := by decide +kernel
theorem dL_law_919 : decode cL_law 919 = .ok (.iadd, 1) := by decide +kernel
theorem dL_law_920 : decode cL_law 920 = .ok (.iaload, 1) := by decide +kernel
theorem dL_law_921 : decode cL_law 921 = .ok (.aload_n 0, 1) := by decide +kernel
theorem dL_law_922 : decode cL_law 922 = .ok (.iload_n 3, 1) := by decide +kernel
theorem dL_law_923 : decode cL_law 923 = .ok (.iconst 2, 1) := by decide +kernel
theorem dL_law_924 : decode cL_law 924 = .ok (.iadd, 1) := by decide +kernel
theorem dL_law_925 : decode cL_law 925 = .ok (.iaload, 1) := by decide +kernel
theorem dL_law_926 : decode cL_law 926 = .ok (.aload_n 0, 1) := by decide +kernel
theorem dL_law_927 : decode cL_law 927 = .ok (.iload_n 3, 1) := by decide +kernel
theorem dL_law_928 : decode cL_law 928 = .ok (.iconst 3, 1) := by decide +kernel
theorem dL_law_929 : decode cL_law 929 = .ok (.iadd, 1) := by decide +kernel
theorem dL_law_930 : decode cL_law 930 = .ok (.iaload, 1) := by decide +kernel
theorem dL_law_931 : decode cL_law 931 = .ok (.aload_n 0, 1) := by decide +kernel
theorem dL_law_932 : decode cL_law 932 = .ok (.iload_n 3, 1) := by decide +kernel
theorem dL_law_933 : decode cL_law 933 = .ok (.iconst 4, 1) := by decide +kernel
theorem dL_law_934 : decode cL_law 934 = .ok (.iadd, 1) := by decide +kernel
theorem dL_law_935 : decode cL_law 935 = .ok (.iaload, 1) := by decide +kernel
theorem dL_law_936 : decode cL_law 936 = .ok (.aload_n 0, 1) := by decide +kernel
theorem dL_law_937 : decode cL_law 937 = .ok (.iload_n 3, 1) := by decide +kernel
theorem dL_law_938 : decode cL_law 938 = .ok (.iconst 5, 1) := by decide +kernel
theorem dL_law_939 : decode cL_law 939 = .ok (.iadd, 1) := by decide +kernel
theorem dL_law_940 : decode cL_law 940 = .ok (.iaload, 1) := by decide +kernel
theorem dL_law_941 : decode cL_law 941 = .ok (.invokevirtual 110, 3) := by decide +kernel
theorem dL_law_944 : decode cL_law 944 = .ok (.aload_n 2, 1) := by decide +kernel
theorem dL_law_945 : decode cL_law 945 = .ok (.aload_n 0, 1) := by decide +kernel
theorem dL_law_946 : decode cL_law 946 = .ok (.iload_n 3, 1) := by decide +kernel
theorem dL_law_947 : decode cL_law 947 = .ok (.iconst 1, 1) := by decide +kernel
theorem dL_law_948 : decode cL_law 948 = .ok (.iadd, 1) := by decide +kernel
theorem dL_law_949 : decode cL_law 949 = .ok (.iaload, 1) := by decide +kernel
theorem dL_law_950 : decode cL_law 950 = .ok (.aload_n 0, 1) := by decide +kernel
theorem dL_law_951 : decode cL_law 951 = .ok (.iload_n 3, 1) := by decide +kernel
theorem dL_law_952 : decode cL_law 952 = .ok (.iconst 2, 1) := by decide +kernel
theorem dL_law_953 : decode cL_law 953 = .ok (.iadd, 1) := by decide +kernel
theorem dL_law_954 : decode cL_law 954 = .ok (.iaload, 1) := by decide +kernel
theorem dL_law_955 : decode cL_law 955 = .ok (.aload_n 0, 1) := by decide +kernel
theorem dL_law_956 : decode cL_law 956 = .ok (.iload_n 3, 1) := by decide +kernel
theorem dL_law_957 : decode cL_law 957 = .ok (.iconst 3, 1) := by decide +kernel
theorem dL_law_958 : decode cL_law 958 = .ok (.iadd, 1) := by decide +kernel
theorem dL_law_959 : decode cL_law 959 = .ok (.iaload, 1) := by decide +kernel
theorem dL_law_960 : decode cL_law 960 = .ok (.aload_n 0, 1) := by decide +kernel
theorem dL_law_961 : decode cL_law 961 = .ok (.iload_n 3, 1) := by decide +kernel
theorem dL_law_962 : decode cL_law 962 = .ok (.iconst 4, 1) := by decide +kernel
theorem dL_law_963 : decode cL_law 963 = .ok (.iadd, 1) := by decide +kernel
theorem dL_law_964 : decode cL_law 964 = .ok (.iaload, 1) := by decide +kernel
theorem dL_law_965 : decode cL_law 965 = .ok (.aload_n 0, 1) := by decide +kernel
theorem dL_law_966 : decode cL_law 966 = .ok (.iload_n 3, 1) := by decide +kernel
theorem dL_law_967 : decode cL_law 967 = .ok (.iconst 5, 1) := by decide +kernel
theorem dL_law_968 : decode cL_law 968 = .ok (.iadd, 1) := by decide +kernel
theorem dL_law_969 : decode cL_law 969 = .ok (.iaload, 1) := by decide +kernel
theorem dL_law_970 : decode cL_law 970 = .ok (.invokevirtual 114, 3) := by decide +kernel
theorem dL_law_973 : decode cL_law 973 = .ok (.if_icmp .eq 75, 3) := by decide +kernel
theorem dL_law_976 : decode cL_law 976 = .ok (.iconst 0, 1) := by decide +kernel
theorem dL_law_977 : decode cL_law 977 = .ok (.ireturn, 1) := by decide +kernel
theorem dL_law_978 : decode cL_law 978 = .ok (.aload_n 1, 1) := by decide +kernel
theorem dL_law_979 : decode cL_law 979 = .ok (.aload_n 0, 1) := by decide +kernel
theorem dL_law_980 : decode cL_law 980 = .ok (.iload_n 3, 1) := by decide +kernel
theorem dL_law_981 : decode cL_law 981 = .ok (.iconst 1, 1) := by decide +kernel
theorem dL_law_982 : decode cL_law 982 = .ok (.iadd, 1) := by decide +kernel
theorem dL_law_983 : decode cL_law 983 = .ok (.iaload, 1) := by decide +kernel
theorem dL_law_984 : decode cL_law 984 = .ok (.aload_n 0, 1) := by decide +kernel
theorem dL_law_985 : decode cL_law 985 = .ok (.iload_n 3, 1) := by decide +kernel
theorem dL_law_986 : decode cL_law 986 = .ok (.iconst 2, 1) := by decide +kernel
theorem dL_law_987 : decode cL_law 987 = .ok (.iadd, 1) := by decide +kernel
theorem dL_law_988 : decode cL_law 988 = .ok (.iaload, 1) := by decide +kernel
theorem dL_law_989 : decode cL_law 989 = .ok (.invokevirtual 115, 3) := by decide +kernel
theorem dL_law_992 : decode cL_law 992 = .ok (.aload_n 2, 1) := by decide +kernel
theorem dL_law_993 : decode cL_law 993 = .ok (.aload_n 0, 1) := by decide +kernel
theorem dL_law_994 : decode cL_law 994 = .ok (.iload_n 3, 1) := by decide +kernel
theorem dL_law_995 : decode cL_law 995 = .ok (.iconst 1, 1) := by decide +kernel
theorem dL_law_996 : decode cL_law 996 = .ok (.iadd, 1) := by decide +kernel
theorem dL_law_997 : decode cL_law 997 = .ok (.iaload, 1) := by decide +kernel
theorem dL_law_998 : decode cL_law 998 = .ok (.aload_n 0, 1) := by decide +kernel
theorem dL_law_999 : decode cL_law 999 = .ok (.iload_n 3, 1) := by decide +kernel
theorem dL_law_1000 : decode cL_law 1000 = .ok (.iconst 2, 1) := by decide +kernel
theorem dL_law_1001 : decode cL_law 1001 = .ok (.iadd, 1) := by decide +kernel
theorem dL_law_1002 : decode cL_law 1002 = .ok (.iaload, 1) := by decide +kernel
theorem dL_law_1003 : decode cL_law 1003 = .ok (.invokevirtual 118, 3) := by decide +kernel
theorem dL_law_1006 : decode cL_law 1006 = .ok (.if_icmp .eq 42, 3) := by decide +kernel
theorem dL_law_1009 : decode cL_law 1009 = .ok (.iconst 0, 1) := by decide +kernel
theorem dL_law_1010 : decode cL_law 1010 = .ok (.ireturn, 1) := by decide +kernel
theorem dL_law_1011 : decode cL_law 1011 = .ok (.aload_n 1, 1) := by decide +kernel
theorem dL_law_1012 : decode cL_law 1012 = .ok (.aload_n 0, 1) := by decide +kernel
theorem dL_law_1013 : decode cL_law 1013 = .ok (.iload_n 3, 1) := by decide +kernel
theorem dL_law_1014 : decode cL_law 1014 = .ok (.iconst 1, 1) := by decide +kernel
theorem dL_law_1015 : decode cL_law 1015 = .ok (.iadd, 1) := by decide +kernel
theorem dL_law_1016 : decode cL_law 1016 = .ok (.iaload, 1) := by decide +kernel
theorem dL_law_1017 : decode cL_law 1017 = .ok (.invokevirtual 119, 3) := by decide +kernel
theorem dL_law_1020 : decode cL_law 1020 = .ok (.aload_n 2, 1) := by decide +kernel
theorem dL_law_1021 : decode cL_law 1021 = .ok (.aload_n 0, 1) := by decide +kernel
theorem dL_law_1022 : decode cL_law 1022 = .ok (.iload_n 3, 1) := by decide +kernel
theorem dL_law_1023 : decode cL_law 1023 = .ok (.iconst 1, 1) := by decide +kernel
theorem dL_law_1024 : decode cL_law 1024 = .ok (.iadd, 1) := by decide +kernel
theorem dL_law_1025 : decode cL_law 1025 = .ok (.iaload, 1) := by decide +kernel
theorem dL_law_1026 : decode cL_law 1026 = .ok (.invokevirtual 122, 3) := by decide +kernel
theorem dL_law_1029 : decode cL_law 1029 = .ok (.if_icmp .eq 19, 3) := by decide +kernel
theorem dL_law_1032 : decode cL_law 1032 = .ok (.iconst 0, 1) := by decide +kernel
theorem dL_law_1033 : decode cL_law 1033 = .ok (.ireturn, 1) := by decide +kernel
theorem dL_law_1034 : decode cL_law 1034 = .ok (.aload_n 1, 1) := by decide +kernel
theorem dL_law_1035 : decode cL_law 1035 = .ok (.invokevirtual 123, 3) := by decide +kernel
theorem dL_law_1038 : decode cL_law 1038 = .ok (.aload_n 2, 1) := by decide +kernel
theorem dL_law_1039 : decode cL_law 1039 = .ok (.invokevirtual 127, 3) := by decide +kernel
theorem dL_law_1042 : decode cL_law 1042 = .ok (.lcmp, 1) := by decide +kernel
theorem dL_law_1043 : decode cL_law 1043 = .ok (.ifCond .eq 5, 3) := by decide +kernel
theorem dL_law_1046 : decode cL_law 1046 = .ok (.iconst 0, 1) := by decide +kernel
theorem dL_law_1047 : decode cL_law 1047 = .ok (.ireturn, 1) := by decide +kernel
theorem dL_law_1048 : decode cL_law 1048 = .ok (.iinc 3 6, 3) := by decide +kernel
theorem dL_law_1051 : decode cL_law 1051 = .ok (.goto (-1033), 3) := by decide +kernel
theorem dL_law_1054 : decode cL_law 1054 = .ok (.iconst 1, 1) := by decide +kernel
theorem dL_law_1055 : decode cL_law 1055 = .ok (.ireturn, 1) := by decide +kernel
