theorem dX8_init_0 : decode cX8_init 0 = .ok (.aload_n 0, 1) := by decide +kernel
theorem dX8_init_1 : decode cX8_init 1 = .ok (.invokespecial 1, 3) := by decide +kernel
theorem dX8_init_4 : decode cX8_init 4 = .ok (.aload_n 0, 1) := by decide +kernel
theorem dX8_init_5 : decode cX8_init 5 = .ok (.iconst 2, 1) := by decide +kernel
theorem dX8_init_6 : decode cX8_init 6 = .ok (.newarray .int, 2) := by decide +kernel
theorem dX8_init_8 : decode cX8_init 8 = .ok (.putfield 7, 3) := by decide +kernel
theorem dX8_init_11 : decode cX8_init 11 = .ok (.aload_n 0, 1) := by decide +kernel
theorem dX8_init_12 : decode cX8_init 12 = .ok (.iconst 2, 1) := by decide +kernel
theorem dX8_init_13 : decode cX8_init 13 = .ok (.newarray .boolean, 2) := by decide +kernel
theorem dX8_init_15 : decode cX8_init 15 = .ok (.putfield 13, 3) := by decide +kernel
theorem dX8_init_18 : decode cX8_init 18 = .ok (.aload_n 0, 1) := by decide +kernel
theorem dX8_init_19 : decode cX8_init 19 = .ok (.bipush 60, 2) := by decide +kernel
theorem dX8_init_21 : decode cX8_init 21 = .ok (.newarray .int, 2) := by decide +kernel
theorem dX8_init_23 : decode cX8_init 23 = .ok (.putfield 17, 3) := by decide +kernel
theorem dX8_init_26 : decode cX8_init 26 = .ok (.aload_n 0, 1) := by decide +kernel
theorem dX8_init_27 : decode cX8_init 27 = .ok (.bipush 60, 2) := by decide +kernel
theorem dX8_init_29 : decode cX8_init 29 = .ok (.newarray .int, 2) := by decide +kernel
theorem dX8_init_31 : decode cX8_init 31 = .ok (.putfield 20, 3) := by decide +kernel
theorem dX8_init_34 : decode cX8_init 34 = .ok (.aload_n 0, 1) := by decide +kernel
theorem dX8_init_35 : decode cX8_init 35 = .ok (.bipush 60, 2) := by decide +kernel
theorem dX8_init_37 : decode cX8_init 37 = .ok (.newarray .int, 2) := by decide +kernel
theorem dX8_init_39 : decode cX8_init 39 = .ok (.putfield 23, 3) := by decide +kernel
theorem dX8_init_42 : decode cX8_init 42 = .ok (.aload_n 0, 1) := by decide +kernel
theorem dX8_init_43 : decode cX8_init 43 = .ok (.bipush 60, 2) := by decide +kernel
theorem dX8_init_45 : decode cX8_init 45 = .ok (.newarray .int, 2) := by decide +kernel
theorem dX8_init_47 : decode cX8_init 47 = .ok (.putfield 26, 3) := by decide +kernel
theorem dX8_init_50 : decode cX8_init 50 = .ok (.aload_n 0, 1) := by decide +kernel
theorem dX8_init_51 : decode cX8_init 51 = .ok (.bipush 60, 2) := by decide +kernel
theorem dX8_init_53 : decode cX8_init 53 = .ok (.newarray .int, 2) := by decide +kernel
theorem dX8_init_55 : decode cX8_init 55 = .ok (.putfield 29, 3) := by decide +kernel
theorem dX8_init_58 : decode cX8_init 58 = .ok (.aload_n 0, 1) := by decide +kernel
theorem dX8_init_59 : decode cX8_init 59 = .ok (.sipush 840, 3) := by decide +kernel
theorem dX8_init_62 : decode cX8_init 62 = .ok (.newarray .int, 2) := by decide +kernel
theorem dX8_init_64 : decode cX8_init 64 = .ok (.putfield 32, 3) := by decide +kernel
theorem dX8_init_67 : decode cX8_init 67 = .ok (.aload_n 0, 1) := by decide +kernel
theorem dX8_init_68 : decode cX8_init 68 = .ok (.sipush 840, 3) := by decide +kernel
theorem dX8_init_71 : decode cX8_init 71 = .ok (.newarray .int, 2) := by decide +kernel
theorem dX8_init_73 : decode cX8_init 73 = .ok (.putfield 35, 3) := by decide +kernel
theorem dX8_init_76 : decode cX8_init 76 = .ok (.aload_n 0, 1) := by decide +kernel
theorem dX8_init_77 : decode cX8_init 77 = .ok (.sipush 840, 3) := by decide +kernel
theorem dX8_init_80 : decode cX8_init 80 = .ok (.newarray .int, 2) := by decide +kernel
theorem dX8_init_82 : decode cX8_init 82 = .ok (.putfield 38, 3) := by decide +kernel
theorem dX8_init_85 : decode cX8_init 85 = .ok (.aload_n 0, 1) := by decide +kernel
theorem dX8_init_86 : decode cX8_init 86 = .ok (.bipush 110, 2) := by decide +kernel
theorem dX8_init_88 : decode cX8_init 88 = .ok (.newarray .int, 2) := by decide +kernel
theorem dX8_init_90 : decode cX8_init 90 = .ok (.putfield 41, 3) := by decide +kernel
theorem dX8_init_93 : decode cX8_init 93 = .ok (.aload_n 0, 1) := by decide +kernel
theorem dX8_init_94 : decode cX8_init 94 = .ok (.bipush 120, 2) := by decide +kernel
theorem dX8_init_96 : decode cX8_init 96 = .ok (.newarray .int, 2) := by decide +kernel
theorem dX8_init_98 : decode cX8_init 98 = .ok (.putfield 44, 3) := by decide +kernel
theorem dX8_init_101 : decode cX8_init 101 = .ok (.aload_n 0, 1) := by decide +kernel
theorem dX8_init_102 : decode cX8_init 102 = .ok (.bipush 120, 2) := by decide +kernel
theorem dX8_init_104 : decode cX8_init 104 = .ok (.newarray .int, 2) := by decide +kernel
theorem dX8_init_106 : decode cX8_init 106 = .ok (.putfield 47, 3) := by decide +kernel
theorem dX8_init_109 : decode cX8_init 109 = .ok (.aload_n 0, 1) := by decide +kernel
theorem dX8_init_110 : decode cX8_init 110 = .ok (.bipush 60, 2) := by decide +kernel
theorem dX8_init_112 : decode cX8_init 112 = .ok (.newarray .int, 2) := by decide +kernel
theorem dX8_init_114 : decode cX8_init 114 = .ok (.putfield 50, 3) := by decide +kernel
theorem dX8_init_117 : decode cX8_init 117 = .ok (.aload_n 0, 1) := by decide +kernel
theorem dX8_init_118 : decode cX8_init 118 = .ok (.bipush 48, 2) := by decide +kernel
theorem dX8_init_120 : decode cX8_init 120 = .ok (.newarray .int, 2) := by decide +kernel
theorem dX8_init_122 : decode cX8_init 122 = .ok (.putfield 53, 3) := by decide +kernel
theorem dX8_init_125 : decode cX8_init 125 = .ok (.aload_n 0, 1) := by decide +kernel
theorem dX8_init_126 : decode cX8_init 126 = .ok (.bipush 8, 2) := by decide +kernel
theorem dX8_init_128 : decode cX8_init 128 = .ok (.newarray .int, 2) := by decide +kernel
theorem dX8_init_130 : decode cX8_init 130 = .ok (.putfield 56, 3) := by decide +kernel
theorem dX8_init_133 : decode cX8_init 133 = .ok (.aload_n 0, 1) := by decide +kernel
theorem dX8_init_134 : decode cX8_init 134 = .ok (.bipush 8, 2) := by decide +kernel
theorem dX8_init_136 : decode cX8_init 136 = .ok (.newarray .int, 2) := by decide +kernel
theorem dX8_init_138 : decode cX8_init 138 = .ok (.putfield 59, 3) := by decide +kernel
theorem dX8_init_141 : decode cX8_init 141 = .ok (.aload_n 0, 1) := by decide +kernel
theorem dX8_init_142 : decode cX8_init 142 = .ok (.bipush 8, 2) := by decide +kernel
theorem dX8_init_144 : decode cX8_init 144 = .ok (.newarray .int, 2) := by decide +kernel
theorem dX8_init_146 : decode cX8_init 146 = .ok (.putfield 62, 3) := by decide +kernel
theorem dX8_init_149 : decode cX8_init 149 = .ok (.aload_n 0, 1) := by decide +kernel
theorem dX8_init_150 : decode cX8_init 150 = .ok (.bipush 24, 2) := by decide +kernel
theorem dX8_init_152 : decode cX8_init 152 = .ok (.newarray .int, 2) := by decide +kernel
theorem dX8_init_154 : decode cX8_init 154 = .ok (.putfield 65, 3) := by decide +kernel
theorem dX8_init_157 : decode cX8_init 157 = .ok (.aload_n 0, 1) := by decide +kernel
theorem dX8_init_158 : decode cX8_init 158 = .ok (.bipush 24, 2) := by decide +kernel
theorem dX8_init_160 : decode cX8_init 160 = .ok (.newarray .int, 2) := by decide +kernel
theorem dX8_init_162 : decode cX8_init 162 = .ok (.putfield 68, 3) := by decide +kernel
theorem dX8_init_165 : decode cX8_init 165 = .ok (.aload_n 0, 1) := by decide +kernel
theorem dX8_init_166 : decode cX8_init 166 = .ok (.bipush 24, 2) := by decide +kernel
theorem dX8_init_168 : decode cX8_init 168 = .ok (.newarray .int, 2) := by decide +kernel
theorem dX8_init_170 : decode cX8_init 170 = .ok (.putfield 71, 3) := by decide +kernel
theorem dX8_init_173 : decode cX8_init 173 = .ok (.iconst 0, 1) := by decide +kernel
theorem dX8_init_174 : decode cX8_init 174 = .ok (.istore_n 1, 1) := by decide +kernel
theorem dX8_init_175 : decode cX8_init 175 = .ok (.iload_n 1, 1) := by decide +kernel
theorem dX8_init_176 : decode cX8_init 176 = .ok (.bipush 8, 2) := by decide +kernel
theorem dX8_init_178 : decode cX8_init 178 = .ok (.if_icmp .ge 18, 3) := by decide +kernel
theorem dX8_init_181 : decode cX8_init 181 = .ok (.aload_n 0, 1) := by decide +kernel
theorem dX8_init_182 : decode cX8_init 182 = .ok (.getfield 56, 3) := by decide +kernel
theorem dX8_init_185 : decode cX8_init 185 = .ok (.iload_n 1, 1) := by decide +kernel
theorem dX8_init_186 : decode cX8_init 186 = .ok (.sipush 1000, 3) := by decide +kernel
theorem dX8_init_189 : decode cX8_init 189 = .ok (.iastore, 1) := by decide +kernel
theorem dX8_init_190 : decode cX8_init 190 = .ok (.iinc 1 1, 3) := by decide +kernel
theorem dX8_init_193 : decode cX8_init 193 = .ok (.goto (-18), 3) := by decide +kernel
theorem dX8_init_196 : decode cX8_init 196 = .ok (.iconst 0, 1) := by decide +kernel
theorem dX8_init_197 : decode cX8_init 197 = .ok (.istore_n 1, 1) := by decide +kernel
theorem dX8_init_198 : decode cX8_init 198 = .ok (.iload_n 1, 1) := by decide +kernel
theorem dX8_init_199 : decode cX8_init 199 = .ok (.bipush 24, 2) := by decide +kernel
theorem dX8_init_201 : decode cX8_init 201 = .ok (.if_icmp .ge 30, 3) := by decide +kernel
theorem dX8_init_204 : decode cX8_init 204 = .ok (.aload_n 0, 1) := by decide +kernel
theorem dX8_init_205 : decode cX8_init 205 = .ok (.getfield 65, 3) := by decide +kernel
theorem dX8_init_208 : decode cX8_init 208 = .ok (.iload_n 1, 1) := by decide +kernel
theorem dX8_init_209 : decode cX8_init 209 = .ok (.iconst (-1), 1) := by decide +kernel
theorem dX8_init_210 : decode cX8_init 210 = .ok (.iastore, 1) := by decide +kernel
theorem dX8_init_211 : decode cX8_init 211 = .ok (.aload_n 0, 1) := by decide +kernel
theorem dX8_init_212 : decode cX8_init 212 = .ok (.getfield 68, 3) := by decide +kernel
theorem dX8_init_215 : decode cX8_init 215 = .ok (.iload_n 1, 1) := by decide +kernel
theorem dX8_init_216 : decode cX8_init 216 = .ok (.iconst (-1), 1) := by decide +kernel
theorem dX8_init_217 : decode cX8_init 217 = .ok (.iastore, 1) := by decide +kernel
theorem dX8_init_218 : decode cX8_init 218 = .ok (.aload_n 0, 1) := by decide +kernel
theorem dX8_init_219 : decode cX8_init 219 = .ok (.getfield 71, 3) := by decide +kernel
theorem dX8_init_222 : decode cX8_init 222 = .ok (.iload_n 1, 1) := by decide +kernel
theorem dX8_init_223 : decode cX8_init 223 = .ok (.iconst (-1), 1) := by decide +kernel
theorem dX8_init_224 : decode cX8_init 224 = .ok (.iastore, 1) := by decide +kernel
theorem dX8_init_225 : decode cX8_init 225 = .ok (.iinc 1 1, 3) := by decide +kernel
theorem dX8_init_228 : decode cX8_init 228 = .ok (.goto (-30), 3) := by decide +kernel
theorem dX8_init_231 : decode cX8_init 231 = .ok (.aload_n 0, 1) := by decide +kernel
theorem dX8_init_232 : decode cX8_init 232 = .ok (.iconst (-1), 1) := by decide +kernel
theorem dX8_init_233 : decode cX8_init 233 = .ok (.putfield 74, 3) := by decide +kernel
theorem dX8_init_236 : decode cX8_init 236 = .ok (.return_, 1) := by decide +kernel
theorem dX8_thrown_0 : decode cX8_thrown 0 = .ok (.aload_n 0, 1) := by decide +kernel
theorem dX8_thrown_1 : decode cX8_thrown 1 = .ok (.getfield 78, 3) := by decide +kernel
theorem dX8_thrown_4 : decode cX8_thrown 4 = .ok (.ireturn, 1) := by decide +kernel
theorem dX8_holds_0 : decode cX8_holds 0 = .ok (.aload_n 0, 1) := by decide +kernel
theorem dX8_holds_1 : decode cX8_holds 1 = .ok (.iload_n 1, 1) := by decide +kernel
theorem dX8_holds_2 : decode cX8_holds 2 = .ok (.putfield 78, 3) := by decide +kernel
theorem dX8_holds_5 : decode cX8_holds 5 = .ok (.iload_n 1, 1) := by decide +kernel
theorem dX8_holds_6 : decode cX8_holds 6 = .ok (.ifCond .ne 7, 3) := by decide +kernel
theorem dX8_holds_9 : decode cX8_holds 9 = .ok (.iconst 1, 1) := by decide +kernel
theorem dX8_holds_10 : decode cX8_holds 10 = .ok (.goto 4, 3) := by decide +kernel
theorem dX8_holds_13 : decode cX8_holds 13 = .ok (.iconst 0, 1) := by decide +kernel
theorem dX8_holds_14 : decode cX8_holds 14 = .ok (.ireturn, 1) := by decide +kernel
theorem dX8_in_0 : decode cX8_in 0 = .ok (.iload_n 0, 1) := by decide +kernel
theorem dX8_in_1 : decode cX8_in 1 = .ok (.iload_n 1, 1) := by decide +kernel
theorem dX8_in_2 : decode cX8_in 2 = .ok (.if_icmp .lt 12, 3) := by decide +kernel
theorem dX8_in_5 : decode cX8_in 5 = .ok (.iload_n 0, 1) := by decide +kernel
theorem dX8_in_6 : decode cX8_in 6 = .ok (.iload_n 2, 1) := by decide +kernel
theorem dX8_in_7 : decode cX8_in 7 = .ok (.if_icmp .gt 7, 3) := by decide +kernel
theorem dX8_in_10 : decode cX8_in 10 = .ok (.iconst 1, 1) := by decide +kernel
theorem dX8_in_11 : decode cX8_in 11 = .ok (.goto 4, 3) := by decide +kernel
theorem dX8_in_14 : decode cX8_in 14 = .ok (.iconst 0, 1) := by decide +kernel
theorem dX8_in_15 : decode cX8_in 15 = .ok (.ireturn, 1) := by decide +kernel
theorem dX8_isClub_0 : decode cX8_isClub 0 = .ok (.iload_n 0, 1) := by decide +kernel
theorem dX8_isClub_1 : decode cX8_isClub 1 = .ok (.iconst 0, 1) := by decide +kernel
theorem dX8_isClub_2 : decode cX8_isClub 2 = .ok (.bipush 7, 2) := by decide +kernel
theorem dX8_isClub_4 : decode cX8_isClub 4 = .ok (.invokestatic 81, 3) := by decide +kernel
theorem dX8_isClub_7 : decode cX8_isClub 7 = .ok (.ireturn, 1) := by decide +kernel
theorem dX8_isSide_0 : decode cX8_isSide 0 = .ok (.iload_n 0, 1) := by decide +kernel
theorem dX8_isSide_1 : decode cX8_isSide 1 = .ok (.iconst 0, 1) := by decide +kernel
theorem dX8_isSide_2 : decode cX8_isSide 2 = .ok (.iconst 1, 1) := by decide +kernel
theorem dX8_isSide_3 : decode cX8_isSide 3 = .ok (.invokestatic 81, 3) := by decide +kernel
theorem dX8_isSide_6 : decode cX8_isSide 6 = .ok (.ireturn, 1) := by decide +kernel
theorem dX8_isPlayer_0 : decode cX8_isPlayer 0 = .ok (.iload_n 0, 1) := by decide +kernel
theorem dX8_isPlayer_1 : decode cX8_isPlayer 1 = .ok (.iconst 0, 1) := by decide +kernel
theorem dX8_isPlayer_2 : decode cX8_isPlayer 2 = .ok (.bipush 9, 2) := by decide +kernel
theorem dX8_isPlayer_4 : decode cX8_isPlayer 4 = .ok (.invokestatic 81, 3) := by decide +kernel
theorem dX8_isPlayer_7 : decode cX8_isPlayer 7 = .ok (.ireturn, 1) := by decide +kernel
theorem dX8_isLot_0 : decode cX8_isLot 0 = .ok (.iload_n 0, 1) := by decide +kernel
theorem dX8_isLot_1 : decode cX8_isLot 1 = .ok (.iconst 0, 1) := by decide +kernel
theorem dX8_isLot_2 : decode cX8_isLot 2 = .ok (.bipush 23, 2) := by decide +kernel
theorem dX8_isLot_4 : decode cX8_isLot 4 = .ok (.invokestatic 81, 3) := by decide +kernel
theorem dX8_isLot_7 : decode cX8_isLot 7 = .ok (.ireturn, 1) := by decide +kernel
theorem dX8_starts_0 : decode cX8_starts 0 = .ok (.iconst 0, 1) := by decide +kernel
theorem dX8_starts_1 : decode cX8_starts 1 = .ok (.istore_n 1, 1) := by decide +kernel
theorem dX8_starts_2 : decode cX8_starts 2 = .ok (.iload_n 1, 1) := by decide +kernel
theorem dX8_starts_3 : decode cX8_starts 3 = .ok (.bipush 110, 2) := by decide +kernel
theorem dX8_starts_5 : decode cX8_starts 5 = .ok (.if_icmp .ge 35, 3) := by decide +kernel
theorem dX8_starts_8 : decode cX8_starts 8 = .ok (.aload_n 0, 1) := by decide +kernel
theorem dX8_starts_9 : decode cX8_starts 9 = .ok (.getfield 41, 3) := by decide +kernel
theorem dX8_starts_12 : decode cX8_starts 12 = .ok (.iload_n 1, 1) := by decide +kernel
theorem dX8_starts_13 : decode cX8_starts 13 = .ok (.iload_n 1, 1) := by decide +kernel
theorem dX8_starts_14 : decode cX8_starts 14 = .ok (.bipush 20, 2) := by decide +kernel
theorem dX8_starts_16 : decode cX8_starts 16 = .ok (.if_icmp .ge 16, 3) := by decide +kernel
theorem dX8_starts_19 : decode cX8_starts 19 = .ok (.iload_n 1, 1) := by decide +kernel
theorem dX8_starts_20 : decode cX8_starts 20 = .ok (.bipush 10, 2) := by decide +kernel
theorem dX8_starts_22 : decode cX8_starts 22 = .ok (.irem, 1) := by decide +kernel
theorem dX8_starts_23 : decode cX8_starts 23 = .ok (.bipush 6, 2) := by decide +kernel
theorem dX8_starts_25 : decode cX8_starts 25 = .ok (.if_icmp .le 7, 3) := by decide +kernel
theorem dX8_starts_28 : decode cX8_starts 28 = .ok (.iconst 1, 1) := by decide +kernel
theorem dX8_starts_29 : decode cX8_starts 29 = .ok (.goto 4, 3) := by decide +kernel
theorem dX8_starts_32 : decode cX8_starts 32 = .ok (.iconst 0, 1) := by decide +kernel
theorem dX8_starts_33 : decode cX8_starts 33 = .ok (.iastore, 1) := by decide +kernel
theorem dX8_starts_34 : decode cX8_starts 34 = .ok (.iinc 1 1, 3) := by decide +kernel
theorem dX8_starts_37 : decode cX8_starts 37 = .ok (.goto (-35), 3) := by decide +kernel
theorem dX8_starts_40 : decode cX8_starts 40 = .ok (.return_, 1) := by decide +kernel
theorem dX8_is_0 : decode cX8_is 0 = .ok (.aload_n 0, 1) := by decide +kernel
theorem dX8_is_1 : decode cX8_is 1 = .ok (.getfield 41, 3) := by decide +kernel
theorem dX8_is_4 : decode cX8_is 4 = .ok (.bipush 10, 2) := by decide +kernel
theorem dX8_is_6 : decode cX8_is 6 = .ok (.iload_n 1, 1) := by decide +kernel
theorem dX8_is_7 : decode cX8_is 7 = .ok (.imul, 1) := by decide +kernel
theorem dX8_is_8 : decode cX8_is 8 = .ok (.iload_n 2, 1) := by decide +kernel
theorem dX8_is_9 : decode cX8_is 9 = .ok (.iadd, 1) := by decide +kernel
theorem dX8_is_10 : decode cX8_is 10 = .ok (.iaload, 1) := by decide +kernel
theorem dX8_is_11 : decode cX8_is 11 = .ok (.iload_n 3, 1) := by decide +kernel
theorem dX8_is_12 : decode cX8_is 12 = .ok (.if_icmp .ne 7, 3) := by decide +kernel
theorem dX8_is_15 : decode cX8_is 15 = .ok (.iconst 1, 1) := by decide +kernel
theorem dX8_is_16 : decode cX8_is 16 = .ok (.goto 4, 3) := by decide +kernel
theorem dX8_is_19 : decode cX8_is 19 = .ok (.iconst 0, 1) := by decide +kernel
theorem dX8_is_20 : decode cX8_is 20 = .ok (.ireturn, 1) := by decide +kernel
theorem dX8_manyThat_0 : decode cX8_manyThat 0 = .ok (.iconst 0, 1) := by decide +kernel
theorem dX8_manyThat_1 : decode cX8_manyThat 1 = .ok (.istore 4, 2) := by decide +kernel
theorem dX8_manyThat_3 : decode cX8_manyThat 3 = .ok (.iconst 0, 1) := by decide +kernel
theorem dX8_manyThat_4 : decode cX8_manyThat 4 = .ok (.istore 5, 2) := by decide +kernel
theorem dX8_manyThat_6 : decode cX8_manyThat 6 = .ok (.iload 5, 2) := by decide +kernel
theorem dX8_manyThat_8 : decode cX8_manyThat 8 = .ok (.bipush 10, 2) := by decide +kernel
theorem dX8_manyThat_10 : decode cX8_manyThat 10 = .ok (.if_icmp .ge 41, 3) := by decide +kernel
theorem dX8_manyThat_13 : decode cX8_manyThat 13 = .ok (.iload 4, 2) := by decide +kernel
theorem dX8_manyThat_15 : decode cX8_manyThat 15 = .ok (.aload_n 0, 1) := by decide +kernel
theorem dX8_manyThat_16 : decode cX8_manyThat 16 = .ok (.iload_n 1, 1) := by decide +kernel
theorem dX8_manyThat_17 : decode cX8_manyThat 17 = .ok (.iload 5, 2) := by decide +kernel
theorem dX8_manyThat_19 : decode cX8_manyThat 19 = .ok (.iload_n 2, 1) := by decide +kernel
theorem dX8_manyThat_20 : decode cX8_manyThat 20 = .ok (.invokevirtual 85, 3) := by decide +kernel
theorem dX8_manyThat_23 : decode cX8_manyThat 23 = .ok (.ifCond .ne 14, 3) := by decide +kernel
theorem dX8_manyThat_26 : decode cX8_manyThat 26 = .ok (.aload_n 0, 1) := by decide +kernel
theorem dX8_manyThat_27 : decode cX8_manyThat 27 = .ok (.iload_n 1, 1) := by decide +kernel
theorem dX8_manyThat_28 : decode cX8_manyThat 28 = .ok (.iload 5, 2) := by decide +kernel
theorem dX8_manyThat_30 : decode cX8_manyThat 30 = .ok (.iload_n 3, 1) := by decide +kernel
theorem dX8_manyThat_31 : decode cX8_manyThat 31 = .ok (.invokevirtual 85, 3) := by decide +kernel
theorem dX8_manyThat_34 : decode cX8_manyThat 34 = .ok (.ifCond .eq 7, 3) := by decide +kernel
theorem dX8_manyThat_37 : decode cX8_manyThat 37 = .ok (.iconst 1, 1) := by decide +kernel
theorem dX8_manyThat_38 : decode cX8_manyThat 38 = .ok (.goto 4, 3) := by decide +kernel
theorem dX8_manyThat_41 : decode cX8_manyThat 41 = .ok (.iconst 0, 1) := by decide +kernel
theorem dX8_manyThat_42 : decode cX8_manyThat 42 = .ok (.iadd, 1) := by decide +kernel
theorem dX8_manyThat_43 : decode cX8_manyThat 43 = .ok (.istore 4, 2) := by decide +kernel
theorem dX8_manyThat_45 : decode cX8_manyThat 45 = .ok (.iinc 5 1, 3) := by decide +kernel
theorem dX8_manyThat_48 : decode cX8_manyThat 48 = .ok (.goto (-42), 3) := by decide +kernel
theorem dX8_manyThat_51 : decode cX8_manyThat 51 = .ok (.iload 4, 2) := by decide +kernel
theorem dX8_manyThat_53 : decode cX8_manyThat 53 = .ok (.ireturn, 1) := by decide +kernel
theorem dX8_turn_0 : decode cX8_turn 0 = .ok (.aload_n 0, 1) := by decide +kernel
theorem dX8_turn_1 : decode cX8_turn 1 = .ok (.getfield 41, 3) := by decide +kernel
theorem dX8_turn_4 : decode cX8_turn 4 = .ok (.bipush 109, 2) := by decide +kernel
theorem dX8_turn_6 : decode cX8_turn 6 = .ok (.iaload, 1) := by decide +kernel
theorem dX8_turn_7 : decode cX8_turn 7 = .ok (.iconst 2, 1) := by decide +kernel
theorem dX8_turn_8 : decode cX8_turn 8 = .ok (.irem, 1) := by decide +kernel
theorem dX8_turn_9 : decode cX8_turn 9 = .ok (.ireturn, 1) := by decide +kernel
theorem dX8_goesOut_0 : decode cX8_goesOut 0 = .ok (.aload_n 0, 1) := by decide +kernel
theorem dX8_goesOut_1 : decode cX8_goesOut 1 = .ok (.getfield 41, 3) := by decide +kernel
theorem dX8_goesOut_4 : decode cX8_goesOut 4 = .ok (.bipush 10, 2) := by decide +kernel
theorem dX8_goesOut_6 : decode cX8_goesOut 6 = .ok (.iload_n 1, 1) := by decide +kernel
theorem dX8_goesOut_7 : decode cX8_goesOut 7 = .ok (.imul, 1) := by decide +kernel
theorem dX8_goesOut_8 : decode cX8_goesOut 8 = .ok (.iload_n 2, 1) := by decide +kernel
theorem dX8_goesOut_9 : decode cX8_goesOut 9 = .ok (.iadd, 1) := by decide +kernel
theorem dX8_goesOut_10 : decode cX8_goesOut 10 = .ok (.iconst 2, 1) := by decide +kernel
theorem dX8_goesOut_11 : decode cX8_goesOut 11 = .ok (.iastore, 1) := by decide +kernel
theorem dX8_goesOut_12 : decode cX8_goesOut 12 = .ok (.aload_n 0, 1) := by decide +kernel
theorem dX8_goesOut_13 : decode cX8_goesOut 13 = .ok (.getfield 41, 3) := by decide +kernel
theorem dX8_goesOut_16 : decode cX8_goesOut 16 = .ok (.bipush 80, 2) := by decide +kernel
theorem dX8_goesOut_18 : decode cX8_goesOut 18 = .ok (.bipush 10, 2) := by decide +kernel
theorem dX8_goesOut_20 : decode cX8_goesOut 20 = .ok (.iload_n 1, 1) := by decide +kernel
theorem dX8_goesOut_21 : decode cX8_goesOut 21 = .ok (.imul, 1) := by decide +kernel
theorem dX8_goesOut_22 : decode cX8_goesOut 22 = .ok (.iadd, 1) := by decide +kernel
theorem dX8_goesOut_23 : decode cX8_goesOut 23 = .ok (.aload_n 0, 1) := by decide +kernel
theorem dX8_goesOut_24 : decode cX8_goesOut 24 = .ok (.getfield 41, 3) := by decide +kernel
theorem dX8_goesOut_27 : decode cX8_goesOut 27 = .ok (.bipush 100, 2) := by decide +kernel
theorem dX8_goesOut_29 : decode cX8_goesOut 29 = .ok (.iload_n 1, 1) := by decide +kernel
theorem dX8_goesOut_30 : decode cX8_goesOut 30 = .ok (.iadd, 1) := by decide +kernel
theorem dX8_goesOut_31 : decode cX8_goesOut 31 = .ok (.iaload, 1) := by decide +kernel
theorem dX8_goesOut_32 : decode cX8_goesOut 32 = .ok (.iadd, 1) := by decide +kernel
theorem dX8_goesOut_33 : decode cX8_goesOut 33 = .ok (.iload_n 2, 1) := by decide +kernel
theorem dX8_goesOut_34 : decode cX8_goesOut 34 = .ok (.iastore, 1) := by decide +kernel
theorem dX8_goesOut_35 : decode cX8_goesOut 35 = .ok (.aload_n 0, 1) := by decide +kernel
theorem dX8_goesOut_36 : decode cX8_goesOut 36 = .ok (.getfield 41, 3) := by decide +kernel
theorem dX8_goesOut_39 : decode cX8_goesOut 39 = .ok (.bipush 100, 2) := by decide +kernel
theorem dX8_goesOut_41 : decode cX8_goesOut 41 = .ok (.iload_n 1, 1) := by decide +kernel
theorem dX8_goesOut_42 : decode cX8_goesOut 42 = .ok (.iadd, 1) := by decide +kernel
theorem dX8_goesOut_43 : decode cX8_goesOut 43 = .ok (.dup2, 1) := by decide +kernel
theorem dX8_goesOut_44 : decode cX8_goesOut 44 = .ok (.iaload, 1) := by decide +kernel
theorem dX8_goesOut_45 : decode cX8_goesOut 45 = .ok (.iconst 1, 1) := by decide +kernel
theorem dX8_goesOut_46 : decode cX8_goesOut 46 = .ok (.iadd, 1) := by decide +kernel
theorem dX8_goesOut_47 : decode cX8_goesOut 47 = .ok (.iastore, 1) := by decide +kernel
theorem dX8_goesOut_48 : decode cX8_goesOut 48 = .ok (.return_, 1) := by decide +kernel
theorem dX8_comesBack_0 : decode cX8_comesBack 0 = .ok (.aload_n 0, 1) := by decide +kernel
theorem dX8_comesBack_1 : decode cX8_comesBack 1 = .ok (.getfield 41, 3) := by decide +kernel
theorem dX8_comesBack_4 : decode cX8_comesBack 4 = .ok (.bipush 100, 2) := by decide +kernel
theorem dX8_comesBack_6 : decode cX8_comesBack 6 = .ok (.iload_n 1, 1) := by decide +kernel
theorem dX8_comesBack_7 : decode cX8_comesBack 7 = .ok (.iadd, 1) := by decide +kernel
theorem dX8_comesBack_8 : decode cX8_comesBack 8 = .ok (.iaload, 1) := by decide +kernel
theorem dX8_comesBack_9 : decode cX8_comesBack 9 = .ok (.ifCond .le 90, 3) := by decide +kernel
theorem dX8_comesBack_12 : decode cX8_comesBack 12 = .ok (.aload_n 0, 1) := by decide +kernel
theorem dX8_comesBack_13 : decode cX8_comesBack 13 = .ok (.getfield 41, 3) := by decide +kernel
theorem dX8_comesBack_16 : decode cX8_comesBack 16 = .ok (.bipush 10, 2) := by decide +kernel
theorem dX8_comesBack_18 : decode cX8_comesBack 18 = .ok (.iload_n 1, 1) := by decide +kernel
theorem dX8_comesBack_19 : decode cX8_comesBack 19 = .ok (.imul, 1) := by decide +kernel
theorem dX8_comesBack_20 : decode cX8_comesBack 20 = .ok (.aload_n 0, 1) := by decide +kernel
theorem dX8_comesBack_21 : decode cX8_comesBack 21 = .ok (.getfield 41, 3) := by decide +kernel
theorem dX8_comesBack_24 : decode cX8_comesBack 24 = .ok (.bipush 80, 2) := by decide +kernel
theorem dX8_comesBack_26 : decode cX8_comesBack 26 = .ok (.bipush 10, 2) := by decide +kernel
theorem dX8_comesBack_28 : decode cX8_comesBack 28 = .ok (.iload_n 1, 1) := by decide +kernel
theorem dX8_comesBack_29 : decode cX8_comesBack 29 = .ok (.imul, 1) := by decide +kernel
theorem dX8_comesBack_30 : decode cX8_comesBack 30 = .ok (.iadd, 1) := by decide +kernel
theorem dX8_comesBack_31 : decode cX8_comesBack 31 = .ok (.iaload, 1) := by decide +kernel
theorem dX8_comesBack_32 : decode cX8_comesBack 32 = .ok (.iadd, 1) := by decide +kernel
theorem dX8_comesBack_33 : decode cX8_comesBack 33 = .ok (.iconst 0, 1) := by decide +kernel
theorem dX8_comesBack_34 : decode cX8_comesBack 34 = .ok (.iastore, 1) := by decide +kernel
theorem dX8_comesBack_35 : decode cX8_comesBack 35 = .ok (.aload_n 0, 1) := by decide +kernel
theorem dX8_comesBack_36 : decode cX8_comesBack 36 = .ok (.getfield 41, 3) := by decide +kernel
theorem dX8_comesBack_39 : decode cX8_comesBack 39 = .ok (.bipush 100, 2) := by decide +kernel
theorem dX8_comesBack_41 : decode cX8_comesBack 41 = .ok (.iload_n 1, 1) := by decide +kernel
theorem dX8_comesBack_42 : decode cX8_comesBack 42 = .ok (.iadd, 1) := by decide +kernel
theorem dX8_comesBack_43 : decode cX8_comesBack 43 = .ok (.dup2, 1) := by decide +kernel
theorem dX8_comesBack_44 : decode cX8_comesBack 44 = .ok (.iaload, 1) := by decide +kernel
theorem dX8_comesBack_45 : decode cX8_comesBack 45 = .ok (.iconst 1, 1) := by decide +kernel
theorem dX8_comesBack_46 : decode cX8_comesBack 46 = .ok (.isub, 1) := by decide +kernel
theorem dX8_comesBack_47 : decode cX8_comesBack 47 = .ok (.iastore, 1) := by decide +kernel
theorem dX8_comesBack_48 : decode cX8_comesBack 48 = .ok (.iconst 0, 1) := by decide +kernel
theorem dX8_comesBack_49 : decode cX8_comesBack 49 = .ok (.istore_n 2, 1) := by decide +kernel
theorem dX8_comesBack_50 : decode cX8_comesBack 50 = .ok (.iload_n 2, 1) := by decide +kernel
theorem dX8_comesBack_51 : decode cX8_comesBack 51 = .ok (.aload_n 0, 1) := by decide +kernel
theorem dX8_comesBack_52 : decode cX8_comesBack 52 = .ok (.getfield 41, 3) := by decide +kernel
theorem dX8_comesBack_55 : decode cX8_comesBack 55 = .ok (.bipush 100, 2) := by decide +kernel
theorem dX8_comesBack_57 : decode cX8_comesBack 57 = .ok (.iload_n 1, 1) := by decide +kernel
theorem dX8_comesBack_58 : decode cX8_comesBack 58 = .ok (.iadd, 1) := by decide +kernel
theorem dX8_comesBack_59 : decode cX8_comesBack 59 = .ok (.iaload, 1) := by decide +kernel
theorem dX8_comesBack_60 : decode cX8_comesBack 60 = .ok (.if_icmp .ge 39, 3) := by decide +kernel
theorem dX8_comesBack_63 : decode cX8_comesBack 63 = .ok (.aload_n 0, 1) := by decide +kernel
theorem dX8_comesBack_64 : decode cX8_comesBack 64 = .ok (.getfield 41, 3) := by decide +kernel
theorem dX8_comesBack_67 : decode cX8_comesBack 67 = .ok (.bipush 80, 2) := by decide +kernel
theorem dX8_comesBack_69 : decode cX8_comesBack 69 = .ok (.bipush 10, 2) := by decide +kernel
theorem dX8_comesBack_71 : decode cX8_comesBack 71 = .ok (.iload_n 1, 1) := by decide +kernel
theorem dX8_comesBack_72 : decode cX8_comesBack 72 = .ok (.imul, 1) := by decide +kernel
theorem dX8_comesBack_73 : decode cX8_comesBack 73 = .ok (.iadd, 1) := by decide +kernel
theorem dX8_comesBack_74 : decode cX8_comesBack 74 = .ok (.iload_n 2, 1) := by decide +kernel
theorem dX8_comesBack_75 : decode cX8_comesBack 75 = .ok (.iadd, 1) := by decide +kernel
theorem dX8_comesBack_76 : decode cX8_comesBack 76 = .ok (.aload_n 0, 1) := by decide +kernel
theorem dX8_comesBack_77 : decode cX8_comesBack 77 = .ok (.getfield 41, 3) := by decide +kernel
theorem dX8_comesBack_80 : decode cX8_comesBack 80 = .ok (.bipush 80, 2) := by decide +kernel
theorem dX8_comesBack_82 : decode cX8_comesBack 82 = .ok (.bipush 10, 2) := by decide +kernel
theorem dX8_comesBack_84 : decode cX8_comesBack 84 = .ok (.iload_n 1, 1) := by decide +kernel
theorem dX8_comesBack_85 : decode cX8_comesBack 85 = .ok (.imul, 1) := by decide +kernel
theorem dX8_comesBack_86 : decode cX8_comesBack 86 = .ok (.iadd, 1) := by decide +kernel
theorem dX8_comesBack_87 : decode cX8_comesBack 87 = .ok (.iload_n 2, 1) := by decide +kernel
theorem dX8_comesBack_88 : decode cX8_comesBack 88 = .ok (.iadd, 1) := by decide +kernel
theorem dX8_comesBack_89 : decode cX8_comesBack 89 = .ok (.iconst 1, 1) := by decide +kernel
theorem dX8_comesBack_90 : decode cX8_comesBack 90 = .ok (.iadd, 1) := by decide +kernel
theorem dX8_comesBack_91 : decode cX8_comesBack 91 = .ok (.iaload, 1) := by decide +kernel
theorem dX8_comesBack_92 : decode cX8_comesBack 92 = .ok (.iastore, 1) := by decide +kernel
theorem dX8_comesBack_93 : decode cX8_comesBack 93 = .ok (.iinc 2 1, 3) := by decide +kernel
theorem dX8_comesBack_96 : decode cX8_comesBack 96 = .ok (.goto (-46), 3) := by decide +kernel
theorem dX8_comesBack_99 : decode cX8_comesBack 99 = .ok (.return_, 1) := by decide +kernel
theorem dX8_looksAtMat_0 : decode cX8_looksAtMat 0 = .ok (.aload_n 0, 1) := by decide +kernel
theorem dX8_looksAtMat_1 : decode cX8_looksAtMat 1 = .ok (.iload_n 1, 1) := by decide +kernel
theorem dX8_looksAtMat_2 : decode cX8_looksAtMat 2 = .ok (.iconst 0, 1) := by decide +kernel
theorem dX8_looksAtMat_3 : decode cX8_looksAtMat 3 = .ok (.iconst 0, 1) := by decide +kernel
theorem dX8_looksAtMat_4 : decode cX8_looksAtMat 4 = .ok (.invokevirtual 88, 3) := by decide +kernel
theorem dX8_looksAtMat_7 : decode cX8_looksAtMat 7 = .ok (.ifCond .ne 36, 3) := by decide +kernel
theorem dX8_looksAtMat_10 : decode cX8_looksAtMat 10 = .ok (.aload_n 0, 1) := by decide +kernel
theorem dX8_looksAtMat_11 : decode cX8_looksAtMat 11 = .ok (.getfield 41, 3) := by decide +kernel
theorem dX8_looksAtMat_14 : decode cX8_looksAtMat 14 = .ok (.bipush 105, 2) := by decide +kernel
theorem dX8_looksAtMat_16 : decode cX8_looksAtMat 16 = .ok (.iload_n 1, 1) := by decide +kernel
theorem dX8_looksAtMat_17 : decode cX8_looksAtMat 17 = .ok (.isub, 1) := by decide +kernel
theorem dX8_looksAtMat_18 : decode cX8_looksAtMat 18 = .ok (.dup2, 1) := by decide +kernel
theorem dX8_looksAtMat_19 : decode cX8_looksAtMat 19 = .ok (.iaload, 1) := by decide +kernel
theorem dX8_looksAtMat_20 : decode cX8_looksAtMat 20 = .ok (.iconst 2, 1) := by decide +kernel
theorem dX8_looksAtMat_21 : decode cX8_looksAtMat 21 = .ok (.iadd, 1) := by decide +kernel
theorem dX8_looksAtMat_22 : decode cX8_looksAtMat 22 = .ok (.iastore, 1) := by decide +kernel
theorem dX8_looksAtMat_23 : decode cX8_looksAtMat 23 = .ok (.aload_n 0, 1) := by decide +kernel
theorem dX8_looksAtMat_24 : decode cX8_looksAtMat 24 = .ok (.getfield 41, 3) := by decide +kernel
theorem dX8_looksAtMat_27 : decode cX8_looksAtMat 27 = .ok (.bipush 100, 2) := by decide +kernel
theorem dX8_looksAtMat_29 : decode cX8_looksAtMat 29 = .ok (.iload_n 1, 1) := by decide +kernel
theorem dX8_looksAtMat_30 : decode cX8_looksAtMat 30 = .ok (.iadd, 1) := by decide +kernel
theorem dX8_looksAtMat_31 : decode cX8_looksAtMat 31 = .ok (.iaload, 1) := by decide +kernel
theorem dX8_looksAtMat_32 : decode cX8_looksAtMat 32 = .ok (.ifCond .le 11, 3) := by decide +kernel
theorem dX8_looksAtMat_35 : decode cX8_looksAtMat 35 = .ok (.aload_n 0, 1) := by decide +kernel
theorem dX8_looksAtMat_36 : decode cX8_looksAtMat 36 = .ok (.iload_n 1, 1) := by decide +kernel
theorem dX8_looksAtMat_37 : decode cX8_looksAtMat 37 = .ok (.invokevirtual 92, 3) := by decide +kernel
theorem dX8_looksAtMat_40 : decode cX8_looksAtMat 40 = .ok (.goto (-17), 3) := by decide +kernel
theorem dX8_looksAtMat_43 : decode cX8_looksAtMat 43 = .ok (.return_, 1) := by decide +kernel
theorem dX8_stepsThat_0 : decode cX8_stepsThat 0 = .ok (.iconst 0, 1) := by decide +kernel
theorem dX8_stepsThat_1 : decode cX8_stepsThat 1 = .ok (.istore_n 3, 1) := by decide +kernel
theorem dX8_stepsThat_2 : decode cX8_stepsThat 2 = .ok (.iconst 0, 1) := by decide +kernel
theorem dX8_stepsThat_3 : decode cX8_stepsThat 3 = .ok (.istore 4, 2) := by decide +kernel
theorem dX8_stepsThat_5 : decode cX8_stepsThat 5 = .ok (.iload 4, 2) := by decide +kernel
theorem dX8_stepsThat_7 : decode cX8_stepsThat 7 = .ok (.aload_n 0, 1) := by decide +kernel
theorem dX8_stepsThat_8 : decode cX8_stepsThat 8 = .ok (.getfield 29, 3) := by decide +kernel
theorem dX8_stepsThat_11 : decode cX8_stepsThat 11 = .ok (.iload_n 1, 1) := by decide +kernel
theorem dX8_stepsThat_12 : decode cX8_stepsThat 12 = .ok (.iaload, 1) := by decide +kernel
theorem dX8_stepsThat_13 : decode cX8_stepsThat 13 = .ok (.if_icmp .ge 33, 3) := by decide +kernel
theorem dX8_stepsThat_16 : decode cX8_stepsThat 16 = .ok (.iload_n 3, 1) := by decide +kernel
theorem dX8_stepsThat_17 : decode cX8_stepsThat 17 = .ok (.aload_n 0, 1) := by decide +kernel
theorem dX8_stepsThat_18 : decode cX8_stepsThat 18 = .ok (.getfield 32, 3) := by decide +kernel
theorem dX8_stepsThat_21 : decode cX8_stepsThat 21 = .ok (.bipush 14, 2) := by decide +kernel
theorem dX8_stepsThat_23 : decode cX8_stepsThat 23 = .ok (.iload_n 1, 1) := by decide +kernel
theorem dX8_stepsThat_24 : decode cX8_stepsThat 24 = .ok (.imul, 1) := by decide +kernel
theorem dX8_stepsThat_25 : decode cX8_stepsThat 25 = .ok (.iload 4, 2) := by decide +kernel
theorem dX8_stepsThat_27 : decode cX8_stepsThat 27 = .ok (.iadd, 1) := by decide +kernel
theorem dX8_stepsThat_28 : decode cX8_stepsThat 28 = .ok (.iaload, 1) := by decide +kernel
theorem dX8_stepsThat_29 : decode cX8_stepsThat 29 = .ok (.iload_n 2, 1) := by decide +kernel
theorem dX8_stepsThat_30 : decode cX8_stepsThat 30 = .ok (.if_icmp .ne 7, 3) := by decide +kernel
theorem dX8_stepsThat_33 : decode cX8_stepsThat 33 = .ok (.iconst 1, 1) := by decide +kernel
theorem dX8_stepsThat_34 : decode cX8_stepsThat 34 = .ok (.goto 4, 3) := by decide +kernel
theorem dX8_stepsThat_37 : decode cX8_stepsThat 37 = .ok (.iconst 0, 1) := by decide +kernel
theorem dX8_stepsThat_38 : decode cX8_stepsThat 38 = .ok (.iadd, 1) := by decide +kernel
theorem dX8_stepsThat_39 : decode cX8_stepsThat 39 = .ok (.istore_n 3, 1) := by decide +kernel
theorem dX8_stepsThat_40 : decode cX8_stepsThat 40 = .ok (.iinc 4 1, 3) := by decide +kernel
theorem dX8_stepsThat_43 : decode cX8_stepsThat 43 = .ok (.goto (-38), 3) := by decide +kernel
theorem dX8_stepsThat_46 : decode cX8_stepsThat 46 = .ok (.iload_n 3, 1) := by decide +kernel
theorem dX8_stepsThat_47 : decode cX8_stepsThat 47 = .ok (.ireturn, 1) := by decide +kernel
theorem dX8_raiderIsOut_0 : decode cX8_raiderIsOut 0 = .ok (.aload_n 0, 1) := by decide +kernel
theorem dX8_raiderIsOut_1 : decode cX8_raiderIsOut 1 = .ok (.iload_n 1, 1) := by decide +kernel
theorem dX8_raiderIsOut_2 : decode cX8_raiderIsOut 2 = .ok (.iload_n 2, 1) := by decide +kernel
theorem dX8_raiderIsOut_3 : decode cX8_raiderIsOut 3 = .ok (.invokevirtual 96, 3) := by decide +kernel
theorem dX8_raiderIsOut_6 : decode cX8_raiderIsOut 6 = .ok (.aload_n 0, 1) := by decide +kernel
theorem dX8_raiderIsOut_7 : decode cX8_raiderIsOut 7 = .ok (.getfield 41, 3) := by decide +kernel
theorem dX8_raiderIsOut_10 : decode cX8_raiderIsOut 10 = .ok (.bipush 105, 2) := by decide +kernel
theorem dX8_raiderIsOut_12 : decode cX8_raiderIsOut 12 = .ok (.iload_n 1, 1) := by decide +kernel
theorem dX8_raiderIsOut_13 : decode cX8_raiderIsOut 13 = .ok (.isub, 1) := by decide +kernel
theorem dX8_raiderIsOut_14 : decode cX8_raiderIsOut 14 = .ok (.dup2, 1) := by decide +kernel
theorem dX8_raiderIsOut_15 : decode cX8_raiderIsOut 15 = .ok (.iaload, 1) := by decide +kernel
theorem dX8_raiderIsOut_16 : decode cX8_raiderIsOut 16 = .ok (.iload_n 3, 1) := by decide +kernel
theorem dX8_raiderIsOut_17 : decode cX8_raiderIsOut 17 = .ok (.iadd, 1) := by decide +kernel
theorem dX8_raiderIsOut_18 : decode cX8_raiderIsOut 18 = .ok (.iastore, 1) := by decide +kernel
theorem dX8_raiderIsOut_19 : decode cX8_raiderIsOut 19 = .ok (.aload_n 0, 1) := by decide +kernel
theorem dX8_raiderIsOut_20 : decode cX8_raiderIsOut 20 = .ok (.iconst 1, 1) := by decide +kernel
theorem dX8_raiderIsOut_21 : decode cX8_raiderIsOut 21 = .ok (.iload_n 1, 1) := by decide +kernel
theorem dX8_raiderIsOut_22 : decode cX8_raiderIsOut 22 = .ok (.isub, 1) := by decide +kernel
theorem dX8_raiderIsOut_23 : decode cX8_raiderIsOut 23 = .ok (.invokevirtual 92, 3) := by decide +kernel
theorem dX8_raiderIsOut_26 : decode cX8_raiderIsOut 26 = .ok (.return_, 1) := by decide +kernel
theorem dX8_comesHome_0 : decode cX8_comesHome 0 = .ok (.aload_n 0, 1) := by decide +kernel
theorem dX8_comesHome_1 : decode cX8_comesHome 1 = .ok (.iload_n 1, 1) := by decide +kernel
theorem dX8_comesHome_2 : decode cX8_comesHome 2 = .ok (.iconst 0, 1) := by decide +kernel
theorem dX8_comesHome_3 : decode cX8_comesHome 3 = .ok (.invokevirtual 100, 3) := by decide +kernel
theorem dX8_comesHome_6 : decode cX8_comesHome 6 = .ok (.istore 4, 2) := by decide +kernel
theorem dX8_comesHome_8 : decode cX8_comesHome 8 = .ok (.aload_n 0, 1) := by decide +kernel
theorem dX8_comesHome_9 : decode cX8_comesHome 9 = .ok (.getfield 41, 3) := by decide +kernel
theorem dX8_comesHome_12 : decode cX8_comesHome 12 = .ok (.bipush 106, 2) := by decide +kernel
theorem dX8_comesHome_14 : decode cX8_comesHome 14 = .ok (.iload_n 2, 1) := by decide +kernel
theorem dX8_comesHome_15 : decode cX8_comesHome 15 = .ok (.iadd, 1) := by decide +kernel
theorem dX8_comesHome_16 : decode cX8_comesHome 16 = .ok (.iaload, 1) := by decide +kernel
theorem dX8_comesHome_17 : decode cX8_comesHome 17 = .ok (.iconst 2, 1) := by decide +kernel
theorem dX8_comesHome_18 : decode cX8_comesHome 18 = .ok (.if_icmp .ne 7, 3) := by decide +kernel
theorem dX8_comesHome_21 : decode cX8_comesHome 21 = .ok (.iconst 1, 1) := by decide +kernel
theorem dX8_comesHome_22 : decode cX8_comesHome 22 = .ok (.goto 4, 3) := by decide +kernel
theorem dX8_comesHome_25 : decode cX8_comesHome 25 = .ok (.iconst 0, 1) := by decide +kernel
theorem dX8_comesHome_26 : decode cX8_comesHome 26 = .ok (.istore 5, 2) := by decide +kernel
theorem dX8_comesHome_28 : decode cX8_comesHome 28 = .ok (.iload 4, 2) := by decide +kernel
theorem dX8_comesHome_30 : decode cX8_comesHome 30 = .ok (.ifCond .ne 25, 3) := by decide +kernel
theorem dX8_comesHome_33 : decode cX8_comesHome 33 = .ok (.aload_n 0, 1) := by decide +kernel
theorem dX8_comesHome_34 : decode cX8_comesHome 34 = .ok (.iload_n 1, 1) := by decide +kernel
theorem dX8_comesHome_35 : decode cX8_comesHome 35 = .ok (.iconst 1, 1) := by decide +kernel
theorem dX8_comesHome_36 : decode cX8_comesHome 36 = .ok (.invokevirtual 100, 3) := by decide +kernel
theorem dX8_comesHome_39 : decode cX8_comesHome 39 = .ok (.ifCond .ne 16, 3) := by decide +kernel
theorem dX8_comesHome_42 : decode cX8_comesHome 42 = .ok (.aload_n 0, 1) := by decide +kernel
theorem dX8_comesHome_43 : decode cX8_comesHome 43 = .ok (.iload_n 1, 1) := by decide +kernel
theorem dX8_comesHome_44 : decode cX8_comesHome 44 = .ok (.iconst 2, 1) := by decide +kernel
theorem dX8_comesHome_45 : decode cX8_comesHome 45 = .ok (.invokevirtual 100, 3) := by decide +kernel
theorem dX8_comesHome_48 : decode cX8_comesHome 48 = .ok (.ifCond .ne 7, 3) := by decide +kernel
theorem dX8_comesHome_51 : decode cX8_comesHome 51 = .ok (.iconst 1, 1) := by decide +kernel
theorem dX8_comesHome_52 : decode cX8_comesHome 52 = .ok (.goto 4, 3) := by decide +kernel
theorem dX8_comesHome_55 : decode cX8_comesHome 55 = .ok (.iconst 0, 1) := by decide +kernel
theorem dX8_comesHome_56 : decode cX8_comesHome 56 = .ok (.istore 6, 2) := by decide +kernel
theorem dX8_comesHome_58 : decode cX8_comesHome 58 = .ok (.aload_n 0, 1) := by decide +kernel
theorem dX8_comesHome_59 : decode cX8_comesHome 59 = .ok (.getfield 20, 3) := by decide +kernel
theorem dX8_comesHome_62 : decode cX8_comesHome 62 = .ok (.iload_n 1, 1) := by decide +kernel
theorem dX8_comesHome_63 : decode cX8_comesHome 63 = .ok (.iaload, 1) := by decide +kernel
theorem dX8_comesHome_64 : decode cX8_comesHome 64 = .ok (.istore 7, 2) := by decide +kernel
theorem dX8_comesHome_66 : decode cX8_comesHome 66 = .ok (.iload 6, 2) := by decide +kernel
theorem dX8_comesHome_68 : decode cX8_comesHome 68 = .ok (.ifCond .ne 15, 3) := by decide +kernel
theorem dX8_comesHome_71 : decode cX8_comesHome 71 = .ok (.iload 4, 2) := by decide +kernel
theorem dX8_comesHome_73 : decode cX8_comesHome 73 = .ok (.iload_n 3, 1) := by decide +kernel
theorem dX8_comesHome_74 : decode cX8_comesHome 74 = .ok (.iadd, 1) := by decide +kernel
theorem dX8_comesHome_75 : decode cX8_comesHome 75 = .ok (.ifCond .ne 29, 3) := by decide +kernel
theorem dX8_comesHome_78 : decode cX8_comesHome 78 = .ok (.iload 5, 2) := by decide +kernel
theorem dX8_comesHome_80 : decode cX8_comesHome 80 = .ok (.ifCond .eq 24, 3) := by decide +kernel
theorem dX8_comesHome_83 : decode cX8_comesHome 83 = .ok (.aload_n 0, 1) := by decide +kernel
theorem dX8_comesHome_84 : decode cX8_comesHome 84 = .ok (.getfield 41, 3) := by decide +kernel
theorem dX8_comesHome_87 : decode cX8_comesHome 87 = .ok (.bipush 106, 2) := by decide +kernel
theorem dX8_comesHome_89 : decode cX8_comesHome 89 = .ok (.iload_n 2, 1) := by decide +kernel
theorem dX8_comesHome_90 : decode cX8_comesHome 90 = .ok (.iadd, 1) := by decide +kernel
theorem dX8_comesHome_91 : decode cX8_comesHome 91 = .ok (.iconst 0, 1) := by decide +kernel
theorem dX8_comesHome_92 : decode cX8_comesHome 92 = .ok (.iastore, 1) := by decide +kernel
theorem dX8_comesHome_93 : decode cX8_comesHome 93 = .ok (.aload_n 0, 1) := by decide +kernel
theorem dX8_comesHome_94 : decode cX8_comesHome 94 = .ok (.iload_n 2, 1) := by decide +kernel
theorem dX8_comesHome_95 : decode cX8_comesHome 95 = .ok (.iload 7, 2) := by decide +kernel
theorem dX8_comesHome_97 : decode cX8_comesHome 97 = .ok (.iconst 1, 1) := by decide +kernel
theorem dX8_comesHome_98 : decode cX8_comesHome 98 = .ok (.invokevirtual 104, 3) := by decide +kernel
theorem dX8_comesHome_101 : decode cX8_comesHome 101 = .ok (.goto 149, 3) := by decide +kernel
theorem dX8_comesHome_104 : decode cX8_comesHome 104 = .ok (.iload 4, 2) := by decide +kernel
theorem dX8_comesHome_106 : decode cX8_comesHome 106 = .ok (.iload_n 3, 1) := by decide +kernel
theorem dX8_comesHome_107 : decode cX8_comesHome 107 = .ok (.iadd, 1) := by decide +kernel
theorem dX8_comesHome_108 : decode cX8_comesHome 108 = .ok (.ifCond .ne 19, 3) := by decide +kernel
theorem dX8_comesHome_111 : decode cX8_comesHome 111 = .ok (.aload_n 0, 1) := by decide +kernel
theorem dX8_comesHome_112 : decode cX8_comesHome 112 = .ok (.getfield 41, 3) := by decide +kernel
theorem dX8_comesHome_115 : decode cX8_comesHome 115 = .ok (.bipush 106, 2) := by decide +kernel
theorem dX8_comesHome_117 : decode cX8_comesHome 117 = .ok (.iload_n 2, 1) := by decide +kernel
theorem dX8_comesHome_118 : decode cX8_comesHome 118 = .ok (.iadd, 1) := by decide +kernel
theorem dX8_comesHome_119 : decode cX8_comesHome 119 = .ok (.dup2, 1) := by decide +kernel
theorem dX8_comesHome_120 : decode cX8_comesHome 120 = .ok (.iaload, 1) := by decide +kernel
theorem dX8_comesHome_121 : decode cX8_comesHome 121 = .ok (.iconst 1, 1) := by decide +kernel
theorem dX8_comesHome_122 : decode cX8_comesHome 122 = .ok (.iadd, 1) := by decide +kernel
theorem dX8_comesHome_123 : decode cX8_comesHome 123 = .ok (.iastore, 1) := by decide +kernel
theorem dX8_comesHome_124 : decode cX8_comesHome 124 = .ok (.goto 126, 3) := by decide +kernel
theorem dX8_comesHome_127 : decode cX8_comesHome 127 = .ok (.aload_n 0, 1) := by decide +kernel
theorem dX8_comesHome_128 : decode cX8_comesHome 128 = .ok (.getfield 41, 3) := by decide +kernel
theorem dX8_comesHome_131 : decode cX8_comesHome 131 = .ok (.bipush 106, 2) := by decide +kernel
theorem dX8_comesHome_133 : decode cX8_comesHome 133 = .ok (.iload_n 2, 1) := by decide +kernel
theorem dX8_comesHome_134 : decode cX8_comesHome 134 = .ok (.iadd, 1) := by decide +kernel
theorem dX8_comesHome_135 : decode cX8_comesHome 135 = .ok (.iconst 0, 1) := by decide +kernel
theorem dX8_comesHome_136 : decode cX8_comesHome 136 = .ok (.iastore, 1) := by decide +kernel
theorem dX8_comesHome_137 : decode cX8_comesHome 137 = .ok (.aload_n 0, 1) := by decide +kernel
theorem dX8_comesHome_138 : decode cX8_comesHome 138 = .ok (.getfield 41, 3) := by decide +kernel
theorem dX8_comesHome_141 : decode cX8_comesHome 141 = .ok (.bipush 104, 2) := by decide +kernel
theorem dX8_comesHome_143 : decode cX8_comesHome 143 = .ok (.iload_n 2, 1) := by decide +kernel
theorem dX8_comesHome_144 : decode cX8_comesHome 144 = .ok (.iadd, 1) := by decide +kernel
theorem dX8_comesHome_145 : decode cX8_comesHome 145 = .ok (.dup2, 1) := by decide +kernel
theorem dX8_comesHome_146 : decode cX8_comesHome 146 = .ok (.iaload, 1) := by decide +kernel
theorem dX8_comesHome_147 : decode cX8_comesHome 147 = .ok (.iload 4, 2) := by decide +kernel
theorem dX8_comesHome_149 : decode cX8_comesHome 149 = .ok (.iload_n 3, 1) := by decide +kernel
theorem dX8_comesHome_150 : decode cX8_comesHome 150 = .ok (.iadd, 1) := by decide +kernel
theorem dX8_comesHome_151 : decode cX8_comesHome 151 = .ok (.iadd, 1) := by decide +kernel
theorem dX8_comesHome_152 : decode cX8_comesHome 152 = .ok (.iastore, 1) := by decide +kernel
theorem dX8_comesHome_153 : decode cX8_comesHome 153 = .ok (.aload_n 0, 1) := by decide +kernel
theorem dX8_comesHome_154 : decode cX8_comesHome 154 = .ok (.getfield 41, 3) := by decide +kernel
theorem dX8_comesHome_157 : decode cX8_comesHome 157 = .ok (.bipush 60, 2) := by decide +kernel
theorem dX8_comesHome_159 : decode cX8_comesHome 159 = .ok (.bipush 10, 2) := by decide +kernel
theorem dX8_comesHome_161 : decode cX8_comesHome 161 = .ok (.iload_n 2, 1) := by decide +kernel
theorem dX8_comesHome_162 : decode cX8_comesHome 162 = .ok (.imul, 1) := by decide +kernel
theorem dX8_comesHome_163 : decode cX8_comesHome 163 = .ok (.iadd, 1) := by decide +kernel
theorem dX8_comesHome_164 : decode cX8_comesHome 164 = .ok (.iload 7, 2) := by decide +kernel
theorem dX8_comesHome_166 : decode cX8_comesHome 166 = .ok (.iadd, 1) := by decide +kernel
theorem dX8_comesHome_167 : decode cX8_comesHome 167 = .ok (.dup2, 1) := by decide +kernel
theorem dX8_comesHome_168 : decode cX8_comesHome 168 = .ok (.iaload, 1) := by decide +kernel
theorem dX8_comesHome_169 : decode cX8_comesHome 169 = .ok (.iload 4, 2) := by decide +kernel
theorem dX8_comesHome_171 : decode cX8_comesHome 171 = .ok (.iload_n 3, 1) := by decide +kernel
theorem dX8_comesHome_172 : decode cX8_comesHome 172 = .ok (.iadd, 1) := by decide +kernel
theorem dX8_comesHome_173 : decode cX8_comesHome 173 = .ok (.iadd, 1) := by decide +kernel
theorem dX8_comesHome_174 : decode cX8_comesHome 174 = .ok (.iastore, 1) := by decide +kernel
theorem dX8_comesHome_175 : decode cX8_comesHome 175 = .ok (.iconst 0, 1) := by decide +kernel
theorem dX8_comesHome_176 : decode cX8_comesHome 176 = .ok (.istore 8, 2) := by decide +kernel
theorem dX8_comesHome_178 : decode cX8_comesHome 178 = .ok (.iload 8, 2) := by decide +kernel
theorem dX8_comesHome_180 : decode cX8_comesHome 180 = .ok (.aload_n 0, 1) := by decide +kernel
theorem dX8_comesHome_181 : decode cX8_comesHome 181 = .ok (.getfield 29, 3) := by decide +kernel
theorem dX8_comesHome_184 : decode cX8_comesHome 184 = .ok (.iload_n 1, 1) := by decide +kernel
theorem dX8_comesHome_185 : decode cX8_comesHome 185 = .ok (.iaload, 1) := by decide +kernel
theorem dX8_comesHome_186 : decode cX8_comesHome 186 = .ok (.if_icmp .ge 43, 3) := by decide +kernel
theorem dX8_comesHome_189 : decode cX8_comesHome 189 = .ok (.aload_n 0, 1) := by decide +kernel
theorem dX8_comesHome_190 : decode cX8_comesHome 190 = .ok (.getfield 32, 3) := by decide +kernel
theorem dX8_comesHome_193 : decode cX8_comesHome 193 = .ok (.bipush 14, 2) := by decide +kernel
theorem dX8_comesHome_195 : decode cX8_comesHome 195 = .ok (.iload_n 1, 1) := by decide +kernel
theorem dX8_comesHome_196 : decode cX8_comesHome 196 = .ok (.imul, 1) := by decide +kernel
theorem dX8_comesHome_197 : decode cX8_comesHome 197 = .ok (.iload 8, 2) := by decide +kernel
theorem dX8_comesHome_199 : decode cX8_comesHome 199 = .ok (.iadd, 1) := by decide +kernel
theorem dX8_comesHome_200 : decode cX8_comesHome 200 = .ok (.iaload, 1) := by decide +kernel
theorem dX8_comesHome_201 : decode cX8_comesHome 201 = .ok (.ifCond .ne 22, 3) := by decide +kernel
theorem dX8_comesHome_204 : decode cX8_comesHome 204 = .ok (.aload_n 0, 1) := by decide +kernel
theorem dX8_comesHome_205 : decode cX8_comesHome 205 = .ok (.iconst 1, 1) := by decide +kernel
theorem dX8_comesHome_206 : decode cX8_comesHome 206 = .ok (.iload_n 2, 1) := by decide +kernel
theorem dX8_comesHome_207 : decode cX8_comesHome 207 = .ok (.isub, 1) := by decide +kernel
theorem dX8_comesHome_208 : decode cX8_comesHome 208 = .ok (.aload_n 0, 1) := by decide +kernel
theorem dX8_comesHome_209 : decode cX8_comesHome 209 = .ok (.getfield 35, 3) := by decide +kernel
theorem dX8_comesHome_212 : decode cX8_comesHome 212 = .ok (.bipush 14, 2) := by decide +kernel
theorem dX8_comesHome_214 : decode cX8_comesHome 214 = .ok (.iload_n 1, 1) := by decide +kernel
theorem dX8_comesHome_215 : decode cX8_comesHome 215 = .ok (.imul, 1) := by decide +kernel
theorem dX8_comesHome_216 : decode cX8_comesHome 216 = .ok (.iload 8, 2) := by decide +kernel
theorem dX8_comesHome_218 : decode cX8_comesHome 218 = .ok (.iadd, 1) := by decide +kernel
theorem dX8_comesHome_219 : decode cX8_comesHome 219 = .ok (.iaload, 1) := by decide +kernel
theorem dX8_comesHome_220 : decode cX8_comesHome 220 = .ok (.invokevirtual 96, 3) := by decide +kernel
theorem dX8_comesHome_223 : decode cX8_comesHome 223 = .ok (.iinc 8 1, 3) := by decide +kernel
theorem dX8_comesHome_226 : decode cX8_comesHome 226 = .ok (.goto (-48), 3) := by decide +kernel
theorem dX8_comesHome_229 : decode cX8_comesHome 229 = .ok (.iconst 0, 1) := by decide +kernel
theorem dX8_comesHome_230 : decode cX8_comesHome 230 = .ok (.istore 8, 2) := by decide +kernel
theorem dX8_comesHome_232 : decode cX8_comesHome 232 = .ok (.iload 8, 2) := by decide +kernel
theorem dX8_comesHome_234 : decode cX8_comesHome 234 = .ok (.iload 4, 2) := by decide +kernel
theorem dX8_comesHome_236 : decode cX8_comesHome 236 = .ok (.if_icmp .ge 14, 3) := by decide +kernel
theorem dX8_comesHome_239 : decode cX8_comesHome 239 = .ok (.aload_n 0, 1) := by decide +kernel
theorem dX8_comesHome_240 : decode cX8_comesHome 240 = .ok (.iload_n 2, 1) := by decide +kernel
theorem dX8_comesHome_241 : decode cX8_comesHome 241 = .ok (.invokevirtual 92, 3) := by decide +kernel
theorem dX8_comesHome_244 : decode cX8_comesHome 244 = .ok (.iinc 8 1, 3) := by decide +kernel
theorem dX8_comesHome_247 : decode cX8_comesHome 247 = .ok (.goto (-15), 3) := by decide +kernel
theorem dX8_comesHome_250 : decode cX8_comesHome 250 = .ok (.return_, 1) := by decide +kernel
theorem dX8_endsRaid_0 : decode cX8_endsRaid 0 = .ok (.aload_n 0, 1) := by decide +kernel
theorem dX8_endsRaid_1 : decode cX8_endsRaid 1 = .ok (.invokevirtual 108, 3) := by decide +kernel
theorem dX8_endsRaid_4 : decode cX8_endsRaid 4 = .ok (.istore_n 2, 1) := by decide +kernel
theorem dX8_endsRaid_5 : decode cX8_endsRaid 5 = .ok (.aload_n 0, 1) := by decide +kernel
theorem dX8_endsRaid_6 : decode cX8_endsRaid 6 = .ok (.iconst 1, 1) := by decide +kernel
theorem dX8_endsRaid_7 : decode cX8_endsRaid 7 = .ok (.iload_n 2, 1) := by decide +kernel
theorem dX8_endsRaid_8 : decode cX8_endsRaid 8 = .ok (.isub, 1) := by decide +kernel
theorem dX8_endsRaid_9 : decode cX8_endsRaid 9 = .ok (.iconst 0, 1) := by decide +kernel
theorem dX8_endsRaid_10 : decode cX8_endsRaid 10 = .ok (.iconst 3, 1) := by decide +kernel
theorem dX8_endsRaid_11 : decode cX8_endsRaid 11 = .ok (.invokevirtual 88, 3) := by decide +kernel
theorem dX8_endsRaid_14 : decode cX8_endsRaid 14 = .ok (.istore_n 3, 1) := by decide +kernel
theorem dX8_endsRaid_15 : decode cX8_endsRaid 15 = .ok (.aload_n 0, 1) := by decide +kernel
theorem dX8_endsRaid_16 : decode cX8_endsRaid 16 = .ok (.iload_n 1, 1) := by decide +kernel
theorem dX8_endsRaid_17 : decode cX8_endsRaid 17 = .ok (.iconst 1, 1) := by decide +kernel
theorem dX8_endsRaid_18 : decode cX8_endsRaid 18 = .ok (.invokevirtual 100, 3) := by decide +kernel
theorem dX8_endsRaid_21 : decode cX8_endsRaid 21 = .ok (.ifCond .le 13, 3) := by decide +kernel
theorem dX8_endsRaid_24 : decode cX8_endsRaid 24 = .ok (.iload_n 3, 1) := by decide +kernel
theorem dX8_endsRaid_25 : decode cX8_endsRaid 25 = .ok (.bipush 6, 2) := by decide +kernel
theorem dX8_endsRaid_27 : decode cX8_endsRaid 27 = .ok (.if_icmp .lt 7, 3) := by decide +kernel
theorem dX8_endsRaid_30 : decode cX8_endsRaid 30 = .ok (.iconst 1, 1) := by decide +kernel
theorem dX8_endsRaid_31 : decode cX8_endsRaid 31 = .ok (.goto 4, 3) := by decide +kernel
theorem dX8_endsRaid_34 : decode cX8_endsRaid 34 = .ok (.iconst 0, 1) := by decide +kernel
theorem dX8_endsRaid_35 : decode cX8_endsRaid 35 = .ok (.istore 4, 2) := by decide +kernel
theorem dX8_endsRaid_37 : decode cX8_endsRaid 37 = .ok (.bipush 14, 2) := by decide +kernel
theorem dX8_endsRaid_39 : decode cX8_endsRaid 39 = .ok (.iload_n 1, 1) := by decide +kernel
theorem dX8_endsRaid_40 : decode cX8_endsRaid 40 = .ok (.imul, 1) := by decide +kernel
theorem dX8_endsRaid_41 : decode cX8_endsRaid 41 = .ok (.aload_n 0, 1) := by decide +kernel
theorem dX8_endsRaid_42 : decode cX8_endsRaid 42 = .ok (.getfield 29, 3) := by decide +kernel
theorem dX8_endsRaid_45 : decode cX8_endsRaid 45 = .ok (.iload_n 1, 1) := by decide +kernel
theorem dX8_endsRaid_46 : decode cX8_endsRaid 46 = .ok (.iaload, 1) := by decide +kernel
theorem dX8_endsRaid_47 : decode cX8_endsRaid 47 = .ok (.iadd, 1) := by decide +kernel
theorem dX8_endsRaid_48 : decode cX8_endsRaid 48 = .ok (.iconst 1, 1) := by decide +kernel
theorem dX8_endsRaid_49 : decode cX8_endsRaid 49 = .ok (.isub, 1) := by decide +kernel
theorem dX8_endsRaid_50 : decode cX8_endsRaid 50 = .ok (.istore 5, 2) := by decide +kernel
theorem dX8_endsRaid_52 : decode cX8_endsRaid 52 = .ok (.aload_n 0, 1) := by decide +kernel
theorem dX8_endsRaid_53 : decode cX8_endsRaid 53 = .ok (.getfield 32, 3) := by decide +kernel
theorem dX8_endsRaid_56 : decode cX8_endsRaid 56 = .ok (.iload 5, 2) := by decide +kernel
theorem dX8_endsRaid_58 : decode cX8_endsRaid 58 = .ok (.iaload, 1) := by decide +kernel
theorem dX8_endsRaid_59 : decode cX8_endsRaid 59 = .ok (.iconst 3, 1) := by decide +kernel
theorem dX8_endsRaid_60 : decode cX8_endsRaid 60 = .ok (.if_icmp .ne 14, 3) := by decide +kernel
theorem dX8_endsRaid_63 : decode cX8_endsRaid 63 = .ok (.aload_n 0, 1) := by decide +kernel
theorem dX8_endsRaid_64 : decode cX8_endsRaid 64 = .ok (.iload_n 1, 1) := by decide +kernel
theorem dX8_endsRaid_65 : decode cX8_endsRaid 65 = .ok (.iload_n 2, 1) := by decide +kernel
theorem dX8_endsRaid_66 : decode cX8_endsRaid 66 = .ok (.iload 4, 2) := by decide +kernel
theorem dX8_endsRaid_68 : decode cX8_endsRaid 68 = .ok (.invokevirtual 112, 3) := by decide +kernel
theorem dX8_endsRaid_71 : decode cX8_endsRaid 71 = .ok (.goto 83, 3) := by decide +kernel
theorem dX8_endsRaid_74 : decode cX8_endsRaid 74 = .ok (.aload_n 0, 1) := by decide +kernel
theorem dX8_endsRaid_75 : decode cX8_endsRaid 75 = .ok (.getfield 41, 3) := by decide +kernel
theorem dX8_endsRaid_78 : decode cX8_endsRaid 78 = .ok (.bipush 106, 2) := by decide +kernel
theorem dX8_endsRaid_80 : decode cX8_endsRaid 80 = .ok (.iload_n 2, 1) := by decide +kernel
theorem dX8_endsRaid_81 : decode cX8_endsRaid 81 = .ok (.iadd, 1) := by decide +kernel
theorem dX8_endsRaid_82 : decode cX8_endsRaid 82 = .ok (.iconst 0, 1) := by decide +kernel
theorem dX8_endsRaid_83 : decode cX8_endsRaid 83 = .ok (.iastore, 1) := by decide +kernel
theorem dX8_endsRaid_84 : decode cX8_endsRaid 84 = .ok (.aload_n 0, 1) := by decide +kernel
theorem dX8_endsRaid_85 : decode cX8_endsRaid 85 = .ok (.getfield 41, 3) := by decide +kernel
theorem dX8_endsRaid_88 : decode cX8_endsRaid 88 = .ok (.bipush 104, 2) := by decide +kernel
theorem dX8_endsRaid_90 : decode cX8_endsRaid 90 = .ok (.iload_n 2, 1) := by decide +kernel
theorem dX8_endsRaid_91 : decode cX8_endsRaid 91 = .ok (.iadd, 1) := by decide +kernel
theorem dX8_endsRaid_92 : decode cX8_endsRaid 92 = .ok (.dup2, 1) := by decide +kernel
theorem dX8_endsRaid_93 : decode cX8_endsRaid 93 = .ok (.iaload, 1) := by decide +kernel
theorem dX8_endsRaid_94 : decode cX8_endsRaid 94 = .ok (.iload 4, 2) := by decide +kernel
theorem dX8_endsRaid_96 : decode cX8_endsRaid 96 = .ok (.iadd, 1) := by decide +kernel
theorem dX8_endsRaid_97 : decode cX8_endsRaid 97 = .ok (.iastore, 1) := by decide +kernel
theorem dX8_endsRaid_98 : decode cX8_endsRaid 98 = .ok (.aload_n 0, 1) := by decide +kernel
theorem dX8_endsRaid_99 : decode cX8_endsRaid 99 = .ok (.getfield 41, 3) := by decide +kernel
theorem dX8_endsRaid_102 : decode cX8_endsRaid 102 = .ok (.bipush 60, 2) := by decide +kernel
theorem dX8_endsRaid_104 : decode cX8_endsRaid 104 = .ok (.bipush 10, 2) := by decide +kernel
theorem dX8_endsRaid_106 : decode cX8_endsRaid 106 = .ok (.iload_n 2, 1) := by decide +kernel
theorem dX8_endsRaid_107 : decode cX8_endsRaid 107 = .ok (.imul, 1) := by decide +kernel
theorem dX8_endsRaid_108 : decode cX8_endsRaid 108 = .ok (.iadd, 1) := by decide +kernel
theorem dX8_endsRaid_109 : decode cX8_endsRaid 109 = .ok (.aload_n 0, 1) := by decide +kernel
theorem dX8_endsRaid_110 : decode cX8_endsRaid 110 = .ok (.getfield 20, 3) := by decide +kernel
theorem dX8_endsRaid_113 : decode cX8_endsRaid 113 = .ok (.iload_n 1, 1) := by decide +kernel
theorem dX8_endsRaid_114 : decode cX8_endsRaid 114 = .ok (.iaload, 1) := by decide +kernel
theorem dX8_endsRaid_115 : decode cX8_endsRaid 115 = .ok (.iadd, 1) := by decide +kernel
theorem dX8_endsRaid_116 : decode cX8_endsRaid 116 = .ok (.dup2, 1) := by decide +kernel
theorem dX8_endsRaid_117 : decode cX8_endsRaid 117 = .ok (.iaload, 1) := by decide +kernel
theorem dX8_endsRaid_118 : decode cX8_endsRaid 118 = .ok (.iload 4, 2) := by decide +kernel
theorem dX8_endsRaid_120 : decode cX8_endsRaid 120 = .ok (.iadd, 1) := by decide +kernel
theorem dX8_endsRaid_121 : decode cX8_endsRaid 121 = .ok (.iastore, 1) := by decide +kernel
theorem dX8_endsRaid_122 : decode cX8_endsRaid 122 = .ok (.aload_n 0, 1) := by decide +kernel
theorem dX8_endsRaid_123 : decode cX8_endsRaid 123 = .ok (.iload_n 2, 1) := by decide +kernel
theorem dX8_endsRaid_124 : decode cX8_endsRaid 124 = .ok (.aload_n 0, 1) := by decide +kernel
theorem dX8_endsRaid_125 : decode cX8_endsRaid 125 = .ok (.getfield 20, 3) := by decide +kernel
theorem dX8_endsRaid_128 : decode cX8_endsRaid 128 = .ok (.iload_n 1, 1) := by decide +kernel
theorem dX8_endsRaid_129 : decode cX8_endsRaid 129 = .ok (.iaload, 1) := by decide +kernel
theorem dX8_endsRaid_130 : decode cX8_endsRaid 130 = .ok (.aload_n 0, 1) := by decide +kernel
theorem dX8_endsRaid_131 : decode cX8_endsRaid 131 = .ok (.getfield 32, 3) := by decide +kernel
theorem dX8_endsRaid_134 : decode cX8_endsRaid 134 = .ok (.iload 5, 2) := by decide +kernel
theorem dX8_endsRaid_136 : decode cX8_endsRaid 136 = .ok (.iaload, 1) := by decide +kernel
theorem dX8_endsRaid_137 : decode cX8_endsRaid 137 = .ok (.iconst 4, 1) := by decide +kernel
theorem dX8_endsRaid_138 : decode cX8_endsRaid 138 = .ok (.if_icmp .ne 12, 3) := by decide +kernel
theorem dX8_endsRaid_141 : decode cX8_endsRaid 141 = .ok (.iload_n 3, 1) := by decide +kernel
theorem dX8_endsRaid_142 : decode cX8_endsRaid 142 = .ok (.iconst 3, 1) := by decide +kernel
theorem dX8_endsRaid_143 : decode cX8_endsRaid 143 = .ok (.if_icmp .gt 7, 3) := by decide +kernel
theorem dX8_endsRaid_146 : decode cX8_endsRaid 146 = .ok (.iconst 2, 1) := by decide +kernel
theorem dX8_endsRaid_147 : decode cX8_endsRaid 147 = .ok (.goto 4, 3) := by decide +kernel
theorem dX8_endsRaid_150 : decode cX8_endsRaid 150 = .ok (.iconst 1, 1) := by decide +kernel
theorem dX8_endsRaid_151 : decode cX8_endsRaid 151 = .ok (.invokevirtual 104, 3) := by decide +kernel
theorem dX8_endsRaid_154 : decode cX8_endsRaid 154 = .ok (.aload_n 0, 1) := by decide +kernel
theorem dX8_endsRaid_155 : decode cX8_endsRaid 155 = .ok (.iconst 0, 1) := by decide +kernel
theorem dX8_endsRaid_156 : decode cX8_endsRaid 156 = .ok (.invokevirtual 115, 3) := by decide +kernel
theorem dX8_endsRaid_159 : decode cX8_endsRaid 159 = .ok (.aload_n 0, 1) := by decide +kernel
theorem dX8_endsRaid_160 : decode cX8_endsRaid 160 = .ok (.iconst 1, 1) := by decide +kernel
theorem dX8_endsRaid_161 : decode cX8_endsRaid 161 = .ok (.invokevirtual 115, 3) := by decide +kernel
theorem dX8_endsRaid_164 : decode cX8_endsRaid 164 = .ok (.aload_n 0, 1) := by decide +kernel
theorem dX8_endsRaid_165 : decode cX8_endsRaid 165 = .ok (.getfield 41, 3) := by decide +kernel
theorem dX8_endsRaid_168 : decode cX8_endsRaid 168 = .ok (.bipush 108, 2) := by decide +kernel
theorem dX8_endsRaid_170 : decode cX8_endsRaid 170 = .ok (.dup2, 1) := by decide +kernel
theorem dX8_endsRaid_171 : decode cX8_endsRaid 171 = .ok (.iaload, 1) := by decide +kernel
theorem dX8_endsRaid_172 : decode cX8_endsRaid 172 = .ok (.aload_n 0, 1) := by decide +kernel
theorem dX8_endsRaid_173 : decode cX8_endsRaid 173 = .ok (.getfield 38, 3) := by decide +kernel
theorem dX8_endsRaid_176 : decode cX8_endsRaid 176 = .ok (.iload 5, 2) := by decide +kernel
theorem dX8_endsRaid_178 : decode cX8_endsRaid 178 = .ok (.iaload, 1) := by decide +kernel
theorem dX8_endsRaid_179 : decode cX8_endsRaid 179 = .ok (.iadd, 1) := by decide +kernel
theorem dX8_endsRaid_180 : decode cX8_endsRaid 180 = .ok (.iastore, 1) := by decide +kernel
theorem dX8_endsRaid_181 : decode cX8_endsRaid 181 = .ok (.aload_n 0, 1) := by decide +kernel
theorem dX8_endsRaid_182 : decode cX8_endsRaid 182 = .ok (.getfield 41, 3) := by decide +kernel
theorem dX8_endsRaid_185 : decode cX8_endsRaid 185 = .ok (.bipush 109, 2) := by decide +kernel
theorem dX8_endsRaid_187 : decode cX8_endsRaid 187 = .ok (.dup2, 1) := by decide +kernel
theorem dX8_endsRaid_188 : decode cX8_endsRaid 188 = .ok (.iaload, 1) := by decide +kernel
theorem dX8_endsRaid_189 : decode cX8_endsRaid 189 = .ok (.iconst 1, 1) := by decide +kernel
theorem dX8_endsRaid_190 : decode cX8_endsRaid 190 = .ok (.iadd, 1) := by decide +kernel
theorem dX8_endsRaid_191 : decode cX8_endsRaid 191 = .ok (.iastore, 1) := by decide +kernel
theorem dX8_endsRaid_192 : decode cX8_endsRaid 192 = .ok (.iconst 0, 1) := by decide +kernel
theorem dX8_endsRaid_193 : decode cX8_endsRaid 193 = .ok (.istore 6, 2) := by decide +kernel
theorem dX8_endsRaid_195 : decode cX8_endsRaid 195 = .ok (.iload 6, 2) := by decide +kernel
theorem dX8_endsRaid_197 : decode cX8_endsRaid 197 = .ok (.bipush 20, 2) := by decide +kernel
theorem dX8_endsRaid_199 : decode cX8_endsRaid 199 = .ok (.if_icmp .ge 58, 3) := by decide +kernel
theorem dX8_endsRaid_202 : decode cX8_endsRaid 202 = .ok (.aload_n 0, 1) := by decide +kernel
theorem dX8_endsRaid_203 : decode cX8_endsRaid 203 = .ok (.getfield 41, 3) := by decide +kernel
theorem dX8_endsRaid_206 : decode cX8_endsRaid 206 = .ok (.iload 6, 2) := by decide +kernel
theorem dX8_endsRaid_208 : decode cX8_endsRaid 208 = .ok (.aload_n 0, 1) := by decide +kernel
theorem dX8_endsRaid_209 : decode cX8_endsRaid 209 = .ok (.getfield 41, 3) := by decide +kernel
theorem dX8_endsRaid_212 : decode cX8_endsRaid 212 = .ok (.iload 6, 2) := by decide +kernel
theorem dX8_endsRaid_214 : decode cX8_endsRaid 214 = .ok (.iaload, 1) := by decide +kernel
theorem dX8_endsRaid_215 : decode cX8_endsRaid 215 = .ok (.iconst 3, 1) := by decide +kernel
theorem dX8_endsRaid_216 : decode cX8_endsRaid 216 = .ok (.if_icmp .ne 27, 3) := by decide +kernel
theorem dX8_endsRaid_219 : decode cX8_endsRaid 219 = .ok (.aload_n 0, 1) := by decide +kernel
theorem dX8_endsRaid_220 : decode cX8_endsRaid 220 = .ok (.getfield 41, 3) := by decide +kernel
theorem dX8_endsRaid_223 : decode cX8_endsRaid 223 = .ok (.bipush 20, 2) := by decide +kernel
theorem dX8_endsRaid_225 : decode cX8_endsRaid 225 = .ok (.iload 6, 2) := by decide +kernel
theorem dX8_endsRaid_227 : decode cX8_endsRaid 227 = .ok (.iadd, 1) := by decide +kernel
theorem dX8_endsRaid_228 : decode cX8_endsRaid 228 = .ok (.iaload, 1) := by decide +kernel
theorem dX8_endsRaid_229 : decode cX8_endsRaid 229 = .ok (.aload_n 0, 1) := by decide +kernel
theorem dX8_endsRaid_230 : decode cX8_endsRaid 230 = .ok (.getfield 41, 3) := by decide +kernel
theorem dX8_endsRaid_233 : decode cX8_endsRaid 233 = .ok (.bipush 108, 2) := by decide +kernel
theorem dX8_endsRaid_235 : decode cX8_endsRaid 235 = .ok (.iaload, 1) := by decide +kernel
theorem dX8_endsRaid_236 : decode cX8_endsRaid 236 = .ok (.if_icmp .gt 7, 3) := by decide +kernel
theorem dX8_endsRaid_239 : decode cX8_endsRaid 239 = .ok (.iconst 0, 1) := by decide +kernel
theorem dX8_endsRaid_240 : decode cX8_endsRaid 240 = .ok (.goto 10, 3) := by decide +kernel
theorem dX8_endsRaid_243 : decode cX8_endsRaid 243 = .ok (.aload_n 0, 1) := by decide +kernel
theorem dX8_endsRaid_244 : decode cX8_endsRaid 244 = .ok (.getfield 41, 3) := by decide +kernel
theorem dX8_endsRaid_247 : decode cX8_endsRaid 247 = .ok (.iload 6, 2) := by decide +kernel
theorem dX8_endsRaid_249 : decode cX8_endsRaid 249 = .ok (.iaload, 1) := by decide +kernel
theorem dX8_endsRaid_250 : decode cX8_endsRaid 250 = .ok (.iastore, 1) := by decide +kernel
theorem dX8_endsRaid_251 : decode cX8_endsRaid 251 = .ok (.iinc 6 1, 3) := by decide +kernel
theorem dX8_endsRaid_254 : decode cX8_endsRaid 254 = .ok (.goto (-59), 3) := by decide +kernel
theorem dX8_endsRaid_257 : decode cX8_endsRaid 257 = .ok (.return_, 1) := by decide +kernel
theorem dX8_canStep_0 : decode cX8_canStep 0 = .ok (.bipush 14, 2) := by decide +kernel
theorem dX8_canStep_2 : decode cX8_canStep 2 = .ok (.iload_n 1, 1) := by decide +kernel
theorem dX8_canStep_3 : decode cX8_canStep 3 = .ok (.imul, 1) := by decide +kernel
theorem dX8_canStep_4 : decode cX8_canStep 4 = .ok (.iload_n 2, 1) := by decide +kernel
theorem dX8_canStep_5 : decode cX8_canStep 5 = .ok (.iadd, 1) := by decide +kernel
theorem dX8_canStep_6 : decode cX8_canStep 6 = .ok (.istore_n 3, 1) := by decide +kernel
theorem dX8_canStep_7 : decode cX8_canStep 7 = .ok (.aload_n 0, 1) := by decide +kernel
theorem dX8_canStep_8 : decode cX8_canStep 8 = .ok (.getfield 32, 3) := by decide +kernel
theorem dX8_canStep_11 : decode cX8_canStep 11 = .ok (.iload_n 3, 1) := by decide +kernel
theorem dX8_canStep_12 : decode cX8_canStep 12 = .ok (.iaload, 1) := by decide +kernel
theorem dX8_canStep_13 : decode cX8_canStep 13 = .ok (.istore 4, 2) := by decide +kernel
theorem dX8_canStep_15 : decode cX8_canStep 15 = .ok (.iload 4, 2) := by decide +kernel
theorem dX8_canStep_17 : decode cX8_canStep 17 = .ok (.ifCond .ne 23, 3) := by decide +kernel
theorem dX8_canStep_20 : decode cX8_canStep 20 = .ok (.aload_n 0, 1) := by decide +kernel
theorem dX8_canStep_21 : decode cX8_canStep 21 = .ok (.iconst 1, 1) := by decide +kernel
theorem dX8_canStep_22 : decode cX8_canStep 22 = .ok (.aload_n 0, 1) := by decide +kernel
theorem dX8_canStep_23 : decode cX8_canStep 23 = .ok (.invokevirtual 108, 3) := by decide +kernel
theorem dX8_canStep_26 : decode cX8_canStep 26 = .ok (.isub, 1) := by decide +kernel
theorem dX8_canStep_27 : decode cX8_canStep 27 = .ok (.aload_n 0, 1) := by decide +kernel
theorem dX8_canStep_28 : decode cX8_canStep 28 = .ok (.getfield 35, 3) := by decide +kernel
theorem dX8_canStep_31 : decode cX8_canStep 31 = .ok (.iload_n 3, 1) := by decide +kernel
theorem dX8_canStep_32 : decode cX8_canStep 32 = .ok (.iaload, 1) := by decide +kernel
theorem dX8_canStep_33 : decode cX8_canStep 33 = .ok (.iconst 0, 1) := by decide +kernel
theorem dX8_canStep_34 : decode cX8_canStep 34 = .ok (.invokevirtual 85, 3) := by decide +kernel
theorem dX8_canStep_37 : decode cX8_canStep 37 = .ok (.ifCond .eq 7, 3) := by decide +kernel
theorem dX8_canStep_40 : decode cX8_canStep 40 = .ok (.iconst 1, 1) := by decide +kernel
theorem dX8_canStep_41 : decode cX8_canStep 41 = .ok (.goto 4, 3) := by decide +kernel
theorem dX8_canStep_44 : decode cX8_canStep 44 = .ok (.iconst 0, 1) := by decide +kernel
theorem dX8_canStep_45 : decode cX8_canStep 45 = .ok (.istore 5, 2) := by decide +kernel
theorem dX8_canStep_47 : decode cX8_canStep 47 = .ok (.bipush 14, 2) := by decide +kernel
theorem dX8_canStep_49 : decode cX8_canStep 49 = .ok (.iload_n 1, 1) := by decide +kernel
theorem dX8_canStep_50 : decode cX8_canStep 50 = .ok (.imul, 1) := by decide +kernel
theorem dX8_canStep_51 : decode cX8_canStep 51 = .ok (.istore 6, 2) := by decide +kernel
theorem dX8_canStep_53 : decode cX8_canStep 53 = .ok (.iload 6, 2) := by decide +kernel
theorem dX8_canStep_55 : decode cX8_canStep 55 = .ok (.iload_n 3, 1) := by decide +kernel
theorem dX8_canStep_56 : decode cX8_canStep 56 = .ok (.if_icmp .ge 66, 3) := by decide +kernel
theorem dX8_canStep_59 : decode cX8_canStep 59 = .ok (.aload_n 0, 1) := by decide +kernel
theorem dX8_canStep_60 : decode cX8_canStep 60 = .ok (.getfield 32, 3) := by decide +kernel
theorem dX8_canStep_63 : decode cX8_canStep 63 = .ok (.iload 6, 2) := by decide +kernel
theorem dX8_canStep_65 : decode cX8_canStep 65 = .ok (.iaload, 1) := by decide +kernel
theorem dX8_canStep_66 : decode cX8_canStep 66 = .ok (.iload 4, 2) := by decide +kernel
theorem dX8_canStep_68 : decode cX8_canStep 68 = .ok (.if_icmp .ne 28, 3) := by decide +kernel
theorem dX8_canStep_71 : decode cX8_canStep 71 = .ok (.iload 4, 2) := by decide +kernel
theorem dX8_canStep_73 : decode cX8_canStep 73 = .ok (.ifCond .ne 19, 3) := by decide +kernel
theorem dX8_canStep_76 : decode cX8_canStep 76 = .ok (.aload_n 0, 1) := by decide +kernel
theorem dX8_canStep_77 : decode cX8_canStep 77 = .ok (.getfield 35, 3) := by decide +kernel
theorem dX8_canStep_80 : decode cX8_canStep 80 = .ok (.iload 6, 2) := by decide +kernel
theorem dX8_canStep_82 : decode cX8_canStep 82 = .ok (.iaload, 1) := by decide +kernel
theorem dX8_canStep_83 : decode cX8_canStep 83 = .ok (.aload_n 0, 1) := by decide +kernel
theorem dX8_canStep_84 : decode cX8_canStep 84 = .ok (.getfield 35, 3) := by decide +kernel
theorem dX8_canStep_87 : decode cX8_canStep 87 = .ok (.iload_n 3, 1) := by decide +kernel
theorem dX8_canStep_88 : decode cX8_canStep 88 = .ok (.iaload, 1) := by decide +kernel
theorem dX8_canStep_89 : decode cX8_canStep 89 = .ok (.if_icmp .ne 7, 3) := by decide +kernel
theorem dX8_canStep_92 : decode cX8_canStep 92 = .ok (.iconst 1, 1) := by decide +kernel
theorem dX8_canStep_93 : decode cX8_canStep 93 = .ok (.goto 4, 3) := by decide +kernel
theorem dX8_canStep_96 : decode cX8_canStep 96 = .ok (.iconst 0, 1) := by decide +kernel
theorem dX8_canStep_97 : decode cX8_canStep 97 = .ok (.istore 7, 2) := by decide +kernel
theorem dX8_canStep_99 : decode cX8_canStep 99 = .ok (.iload 5, 2) := by decide +kernel
theorem dX8_canStep_101 : decode cX8_canStep 101 = .ok (.ifCond .eq 12, 3) := by decide +kernel
theorem dX8_canStep_104 : decode cX8_canStep 104 = .ok (.iload 7, 2) := by decide +kernel
theorem dX8_canStep_106 : decode cX8_canStep 106 = .ok (.ifCond .ne 7, 3) := by decide +kernel
theorem dX8_canStep_109 : decode cX8_canStep 109 = .ok (.iconst 1, 1) := by decide +kernel
theorem dX8_canStep_110 : decode cX8_canStep 110 = .ok (.goto 4, 3) := by decide +kernel
theorem dX8_canStep_113 : decode cX8_canStep 113 = .ok (.iconst 0, 1) := by decide +kernel
theorem dX8_canStep_114 : decode cX8_canStep 114 = .ok (.istore 5, 2) := by decide +kernel
theorem dX8_canStep_116 : decode cX8_canStep 116 = .ok (.iinc 6 1, 3) := by decide +kernel
theorem dX8_canStep_119 : decode cX8_canStep 119 = .ok (.goto (-66), 3) := by decide +kernel
theorem dX8_canStep_122 : decode cX8_canStep 122 = .ok (.iload 5, 2) := by decide +kernel
theorem dX8_canStep_124 : decode cX8_canStep 124 = .ok (.ifCond .eq 26, 3) := by decide +kernel
theorem dX8_canStep_127 : decode cX8_canStep 127 = .ok (.iload 4, 2) := by decide +kernel
theorem dX8_canStep_129 : decode cX8_canStep 129 = .ok (.bipush 6, 2) := by decide +kernel
theorem dX8_canStep_131 : decode cX8_canStep 131 = .ok (.if_icmp .ne 15, 3) := by decide +kernel
theorem dX8_canStep_134 : decode cX8_canStep 134 = .ok (.aload_n 0, 1) := by decide +kernel
theorem dX8_canStep_135 : decode cX8_canStep 135 = .ok (.getfield 38, 3) := by decide +kernel
theorem dX8_canStep_138 : decode cX8_canStep 138 = .ok (.iload_n 3, 1) := by decide +kernel
theorem dX8_canStep_139 : decode cX8_canStep 139 = .ok (.iaload, 1) := by decide +kernel
theorem dX8_canStep_140 : decode cX8_canStep 140 = .ok (.sipush 300, 3) := by decide +kernel
theorem dX8_canStep_143 : decode cX8_canStep 143 = .ok (.if_icmp .ne 7, 3) := by decide +kernel
theorem dX8_canStep_146 : decode cX8_canStep 146 = .ok (.iconst 1, 1) := by decide +kernel
theorem dX8_canStep_147 : decode cX8_canStep 147 = .ok (.goto 4, 3) := by decide +kernel
theorem dX8_canStep_150 : decode cX8_canStep 150 = .ok (.iconst 0, 1) := by decide +kernel
theorem dX8_canStep_151 : decode cX8_canStep 151 = .ok (.ireturn, 1) := by decide +kernel
theorem dX8_canRaid_0 : decode cX8_canRaid 0 = .ok (.aload_n 0, 1) := by decide +kernel
theorem dX8_canRaid_1 : decode cX8_canRaid 1 = .ok (.getfield 41, 3) := by decide +kernel
theorem dX8_canRaid_4 : decode cX8_canRaid 4 = .ok (.bipush 108, 2) := by decide +kernel
theorem dX8_canRaid_6 : decode cX8_canRaid 6 = .ok (.iaload, 1) := by decide +kernel
theorem dX8_canRaid_7 : decode cX8_canRaid 7 = .ok (.aload_n 0, 1) := by decide +kernel
theorem dX8_canRaid_8 : decode cX8_canRaid 8 = .ok (.getfield 118, 3) := by decide +kernel
theorem dX8_canRaid_11 : decode cX8_canRaid 11 = .ok (.if_icmp .ge 20, 3) := by decide +kernel
theorem dX8_canRaid_14 : decode cX8_canRaid 14 = .ok (.aload_n 0, 1) := by decide +kernel
theorem dX8_canRaid_15 : decode cX8_canRaid 15 = .ok (.aload_n 0, 1) := by decide +kernel
theorem dX8_canRaid_16 : decode cX8_canRaid 16 = .ok (.invokevirtual 108, 3) := by decide +kernel
theorem dX8_canRaid_19 : decode cX8_canRaid 19 = .ok (.iload_n 1, 1) := by decide +kernel
theorem dX8_canRaid_20 : decode cX8_canRaid 20 = .ok (.iconst 0, 1) := by decide +kernel
theorem dX8_canRaid_21 : decode cX8_canRaid 21 = .ok (.invokevirtual 85, 3) := by decide +kernel
theorem dX8_canRaid_24 : decode cX8_canRaid 24 = .ok (.ifCond .eq 7, 3) := by decide +kernel
theorem dX8_canRaid_27 : decode cX8_canRaid 27 = .ok (.iconst 1, 1) := by decide +kernel
theorem dX8_canRaid_28 : decode cX8_canRaid 28 = .ok (.goto 4, 3) := by decide +kernel
theorem dX8_canRaid_31 : decode cX8_canRaid 31 = .ok (.iconst 0, 1) := by decide +kernel
theorem dX8_canRaid_32 : decode cX8_canRaid 32 = .ok (.ireturn, 1) := by decide +kernel
theorem dX8_colourFor_0 : decode cX8_colourFor 0 = .ok (.iload_n 3, 1) := by decide +kernel
theorem dX8_colourFor_1 : decode cX8_colourFor 1 = .ok (.istore 4, 2) := by decide +kernel
theorem dX8_colourFor_3 : decode cX8_colourFor 3 = .ok (.iload 4, 2) := by decide +kernel
theorem dX8_colourFor_5 : decode cX8_colourFor 5 = .ok (.iconst 2, 1) := by decide +kernel
theorem dX8_colourFor_6 : decode cX8_colourFor 6 = .ok (.if_icmp .ge 32, 3) := by decide +kernel
theorem dX8_colourFor_9 : decode cX8_colourFor 9 = .ok (.aload_n 0, 1) := by decide +kernel
theorem dX8_colourFor_10 : decode cX8_colourFor 10 = .ok (.getfield 41, 3) := by decide +kernel
theorem dX8_colourFor_13 : decode cX8_colourFor 13 = .ok (.bipush 40, 2) := by decide +kernel
theorem dX8_colourFor_15 : decode cX8_colourFor 15 = .ok (.bipush 10, 2) := by decide +kernel
theorem dX8_colourFor_17 : decode cX8_colourFor 17 = .ok (.iload_n 1, 1) := by decide +kernel
theorem dX8_colourFor_18 : decode cX8_colourFor 18 = .ok (.imul, 1) := by decide +kernel
theorem dX8_colourFor_19 : decode cX8_colourFor 19 = .ok (.iadd, 1) := by decide +kernel
theorem dX8_colourFor_20 : decode cX8_colourFor 20 = .ok (.iload_n 2, 1) := by decide +kernel
theorem dX8_colourFor_21 : decode cX8_colourFor 21 = .ok (.iadd, 1) := by decide +kernel
theorem dX8_colourFor_22 : decode cX8_colourFor 22 = .ok (.iaload, 1) := by decide +kernel
theorem dX8_colourFor_23 : decode cX8_colourFor 23 = .ok (.iload 4, 2) := by decide +kernel
theorem dX8_colourFor_25 : decode cX8_colourFor 25 = .ok (.ishr, 1) := by decide +kernel
theorem dX8_colourFor_26 : decode cX8_colourFor 26 = .ok (.iconst 1, 1) := by decide +kernel
theorem dX8_colourFor_27 : decode cX8_colourFor 27 = .ok (.iand, 1) := by decide +kernel
theorem dX8_colourFor_28 : decode cX8_colourFor 28 = .ok (.iconst 1, 1) := by decide +kernel
theorem dX8_colourFor_29 : decode cX8_colourFor 29 = .ok (.if_icmp .ne 9, 3) := by decide +kernel
theorem dX8_colourFor_32 : decode cX8_colourFor 32 = .ok (.iinc 4 1, 3) := by decide +kernel
theorem dX8_colourFor_35 : decode cX8_colourFor 35 = .ok (.goto (-32), 3) := by decide +kernel
theorem dX8_colourFor_38 : decode cX8_colourFor 38 = .ok (.iload 4, 2) := by decide +kernel
theorem dX8_colourFor_40 : decode cX8_colourFor 40 = .ok (.ireturn, 1) := by decide +kernel
theorem dX8_canCard_0 : decode cX8_canCard 0 = .ok (.aload_n 0, 1) := by decide +kernel
theorem dX8_canCard_1 : decode cX8_canCard 1 = .ok (.iload_n 1, 1) := by decide +kernel
theorem dX8_canCard_2 : decode cX8_canCard 2 = .ok (.iload_n 2, 1) := by decide +kernel
theorem dX8_canCard_3 : decode cX8_canCard 3 = .ok (.iconst 0, 1) := by decide +kernel
theorem dX8_canCard_4 : decode cX8_canCard 4 = .ok (.invokevirtual 85, 3) := by decide +kernel
theorem dX8_canCard_7 : decode cX8_canCard 7 = .ok (.ifCond .eq 28, 3) := by decide +kernel
theorem dX8_canCard_10 : decode cX8_canCard 10 = .ok (.aload_n 0, 1) := by decide +kernel
theorem dX8_canCard_11 : decode cX8_canCard 11 = .ok (.iload_n 1, 1) := by decide +kernel
theorem dX8_canCard_12 : decode cX8_canCard 12 = .ok (.iload_n 2, 1) := by decide +kernel
theorem dX8_canCard_13 : decode cX8_canCard 13 = .ok (.iload_n 3, 1) := by decide +kernel
theorem dX8_canCard_14 : decode cX8_canCard 14 = .ok (.invokevirtual 121, 3) := by decide +kernel
theorem dX8_canCard_17 : decode cX8_canCard 17 = .ok (.ifCond .eq 14, 3) := by decide +kernel
theorem dX8_canCard_20 : decode cX8_canCard 20 = .ok (.aload_n 0, 1) := by decide +kernel
theorem dX8_canCard_21 : decode cX8_canCard 21 = .ok (.iload_n 1, 1) := by decide +kernel
theorem dX8_canCard_22 : decode cX8_canCard 22 = .ok (.iconst 3, 1) := by decide +kernel
theorem dX8_canCard_23 : decode cX8_canCard 23 = .ok (.iconst 4, 1) := by decide +kernel
theorem dX8_canCard_24 : decode cX8_canCard 24 = .ok (.invokevirtual 88, 3) := by decide +kernel
theorem dX8_canCard_27 : decode cX8_canCard 27 = .ok (.iconst 3, 1) := by decide +kernel
theorem dX8_canCard_28 : decode cX8_canCard 28 = .ok (.if_icmp .ge 7, 3) := by decide +kernel
theorem dX8_canCard_31 : decode cX8_canCard 31 = .ok (.iconst 1, 1) := by decide +kernel
theorem dX8_canCard_32 : decode cX8_canCard 32 = .ok (.goto 4, 3) := by decide +kernel
theorem dX8_canCard_35 : decode cX8_canCard 35 = .ok (.iconst 0, 1) := by decide +kernel
theorem dX8_canCard_36 : decode cX8_canCard 36 = .ok (.ireturn, 1) := by decide +kernel
theorem dX8_canChange_0 : decode cX8_canChange 0 = .ok (.aload_n 0, 1) := by decide +kernel
theorem dX8_canChange_1 : decode cX8_canChange 1 = .ok (.iload_n 1, 1) := by decide +kernel
theorem dX8_canChange_2 : decode cX8_canChange 2 = .ok (.iload_n 2, 1) := by decide +kernel
theorem dX8_canChange_3 : decode cX8_canChange 3 = .ok (.iconst 0, 1) := by decide +kernel
theorem dX8_canChange_4 : decode cX8_canChange 4 = .ok (.invokevirtual 85, 3) := by decide +kernel
theorem dX8_canChange_7 : decode cX8_canChange 7 = .ok (.ifCond .eq 30, 3) := by decide +kernel
theorem dX8_canChange_10 : decode cX8_canChange 10 = .ok (.aload_n 0, 1) := by decide +kernel
theorem dX8_canChange_11 : decode cX8_canChange 11 = .ok (.iload_n 1, 1) := by decide +kernel
theorem dX8_canChange_12 : decode cX8_canChange 12 = .ok (.iload_n 3, 1) := by decide +kernel
theorem dX8_canChange_13 : decode cX8_canChange 13 = .ok (.iconst 1, 1) := by decide +kernel
theorem dX8_canChange_14 : decode cX8_canChange 14 = .ok (.invokevirtual 85, 3) := by decide +kernel
theorem dX8_canChange_17 : decode cX8_canChange 17 = .ok (.ifCond .eq 20, 3) := by decide +kernel
theorem dX8_canChange_20 : decode cX8_canChange 20 = .ok (.aload_n 0, 1) := by decide +kernel
theorem dX8_canChange_21 : decode cX8_canChange 21 = .ok (.getfield 41, 3) := by decide +kernel
theorem dX8_canChange_24 : decode cX8_canChange 24 = .ok (.bipush 102, 2) := by decide +kernel
theorem dX8_canChange_26 : decode cX8_canChange 26 = .ok (.iload_n 1, 1) := by decide +kernel
theorem dX8_canChange_27 : decode cX8_canChange 27 = .ok (.iadd, 1) := by decide +kernel
theorem dX8_canChange_28 : decode cX8_canChange 28 = .ok (.iaload, 1) := by decide +kernel
theorem dX8_canChange_29 : decode cX8_canChange 29 = .ok (.iconst 5, 1) := by decide +kernel
theorem dX8_canChange_30 : decode cX8_canChange 30 = .ok (.if_icmp .ge 7, 3) := by decide +kernel
theorem dX8_canChange_33 : decode cX8_canChange 33 = .ok (.iconst 1, 1) := by decide +kernel
theorem dX8_canChange_34 : decode cX8_canChange 34 = .ok (.goto 4, 3) := by decide +kernel
theorem dX8_canChange_37 : decode cX8_canChange 37 = .ok (.iconst 0, 1) := by decide +kernel
theorem dX8_canChange_38 : decode cX8_canChange 38 = .ok (.ireturn, 1) := by decide +kernel
theorem dX8_givesCard_0 : decode cX8_givesCard 0 = .ok (.aload_n 0, 1) := by decide +kernel
theorem dX8_givesCard_1 : decode cX8_givesCard 1 = .ok (.iload_n 1, 1) := by decide +kernel
theorem dX8_givesCard_2 : decode cX8_givesCard 2 = .ok (.iload_n 2, 1) := by decide +kernel
theorem dX8_givesCard_3 : decode cX8_givesCard 3 = .ok (.iload_n 3, 1) := by decide +kernel
theorem dX8_givesCard_4 : decode cX8_givesCard 4 = .ok (.invokevirtual 121, 3) := by decide +kernel
theorem dX8_givesCard_7 : decode cX8_givesCard 7 = .ok (.istore 4, 2) := by decide +kernel
theorem dX8_givesCard_9 : decode cX8_givesCard 9 = .ok (.bipush 10, 2) := by decide +kernel
theorem dX8_givesCard_11 : decode cX8_givesCard 11 = .ok (.iload_n 1, 1) := by decide +kernel
theorem dX8_givesCard_12 : decode cX8_givesCard 12 = .ok (.imul, 1) := by decide +kernel
theorem dX8_givesCard_13 : decode cX8_givesCard 13 = .ok (.iload_n 2, 1) := by decide +kernel
theorem dX8_givesCard_14 : decode cX8_givesCard 14 = .ok (.iadd, 1) := by decide +kernel
theorem dX8_givesCard_15 : decode cX8_givesCard 15 = .ok (.istore 5, 2) := by decide +kernel
theorem dX8_givesCard_17 : decode cX8_givesCard 17 = .ok (.aload_n 0, 1) := by decide +kernel
theorem dX8_givesCard_18 : decode cX8_givesCard 18 = .ok (.getfield 41, 3) := by decide +kernel
theorem dX8_givesCard_21 : decode cX8_givesCard 21 = .ok (.bipush 40, 2) := by decide +kernel
theorem dX8_givesCard_23 : decode cX8_givesCard 23 = .ok (.iload 5, 2) := by decide +kernel
theorem dX8_givesCard_25 : decode cX8_givesCard 25 = .ok (.iadd, 1) := by decide +kernel
theorem dX8_givesCard_26 : decode cX8_givesCard 26 = .ok (.dup2, 1) := by decide +kernel
theorem dX8_givesCard_27 : decode cX8_givesCard 27 = .ok (.iaload, 1) := by decide +kernel
theorem dX8_givesCard_28 : decode cX8_givesCard 28 = .ok (.iconst 1, 1) := by decide +kernel
theorem dX8_givesCard_29 : decode cX8_givesCard 29 = .ok (.iload 4, 2) := by decide +kernel
theorem dX8_givesCard_31 : decode cX8_givesCard 31 = .ok (.ishl, 1) := by decide +kernel
theorem dX8_givesCard_32 : decode cX8_givesCard 32 = .ok (.ior, 1) := by decide +kernel
theorem dX8_givesCard_33 : decode cX8_givesCard 33 = .ok (.iastore, 1) := by decide +kernel
theorem dX8_givesCard_34 : decode cX8_givesCard 34 = .ok (.iload 4, 2) := by decide +kernel
theorem dX8_givesCard_36 : decode cX8_givesCard 36 = .ok (.ifCond .le 70, 3) := by decide +kernel
theorem dX8_givesCard_39 : decode cX8_givesCard 39 = .ok (.aload_n 0, 1) := by decide +kernel
theorem dX8_givesCard_40 : decode cX8_givesCard 40 = .ok (.getfield 41, 3) := by decide +kernel
theorem dX8_givesCard_43 : decode cX8_givesCard 43 = .ok (.iload 5, 2) := by decide +kernel
theorem dX8_givesCard_45 : decode cX8_givesCard 45 = .ok (.iload 4, 2) := by decide +kernel
theorem dX8_givesCard_47 : decode cX8_givesCard 47 = .ok (.iconst 1, 1) := by decide +kernel
theorem dX8_givesCard_48 : decode cX8_givesCard 48 = .ok (.if_icmp .ne 7, 3) := by decide +kernel
theorem dX8_givesCard_51 : decode cX8_givesCard 51 = .ok (.iconst 3, 1) := by decide +kernel
theorem dX8_givesCard_52 : decode cX8_givesCard 52 = .ok (.goto 4, 3) := by decide +kernel
theorem dX8_givesCard_55 : decode cX8_givesCard 55 = .ok (.iconst 4, 1) := by decide +kernel
theorem dX8_givesCard_56 : decode cX8_givesCard 56 = .ok (.iastore, 1) := by decide +kernel
theorem dX8_givesCard_57 : decode cX8_givesCard 57 = .ok (.aload_n 0, 1) := by decide +kernel
theorem dX8_givesCard_58 : decode cX8_givesCard 58 = .ok (.getfield 41, 3) := by decide +kernel
theorem dX8_givesCard_61 : decode cX8_givesCard 61 = .ok (.bipush 20, 2) := by decide +kernel
theorem dX8_givesCard_63 : decode cX8_givesCard 63 = .ok (.iload 5, 2) := by decide +kernel
theorem dX8_givesCard_65 : decode cX8_givesCard 65 = .ok (.iadd, 1) := by decide +kernel
theorem dX8_givesCard_66 : decode cX8_givesCard 66 = .ok (.aload_n 0, 1) := by decide +kernel
theorem dX8_givesCard_67 : decode cX8_givesCard 67 = .ok (.getfield 41, 3) := by decide +kernel
theorem dX8_givesCard_70 : decode cX8_givesCard 70 = .ok (.bipush 108, 2) := by decide +kernel
theorem dX8_givesCard_72 : decode cX8_givesCard 72 = .ok (.iaload, 1) := by decide +kernel
theorem dX8_givesCard_73 : decode cX8_givesCard 73 = .ok (.sipush 1200, 3) := by decide +kernel
theorem dX8_givesCard_76 : decode cX8_givesCard 76 = .ok (.iadd, 1) := by decide +kernel
theorem dX8_givesCard_77 : decode cX8_givesCard 77 = .ok (.iastore, 1) := by decide +kernel
theorem dX8_givesCard_78 : decode cX8_givesCard 78 = .ok (.aload_n 0, 1) := by decide +kernel
theorem dX8_givesCard_79 : decode cX8_givesCard 79 = .ok (.getfield 41, 3) := by decide +kernel
theorem dX8_givesCard_82 : decode cX8_givesCard 82 = .ok (.bipush 105, 2) := by decide +kernel
theorem dX8_givesCard_84 : decode cX8_givesCard 84 = .ok (.iload_n 1, 1) := by decide +kernel
theorem dX8_givesCard_85 : decode cX8_givesCard 85 = .ok (.isub, 1) := by decide +kernel
theorem dX8_givesCard_86 : decode cX8_givesCard 86 = .ok (.dup2, 1) := by decide +kernel
theorem dX8_givesCard_87 : decode cX8_givesCard 87 = .ok (.iaload, 1) := by decide +kernel
theorem dX8_givesCard_88 : decode cX8_givesCard 88 = .ok (.iload 4, 2) := by decide +kernel
theorem dX8_givesCard_90 : decode cX8_givesCard 90 = .ok (.iconst 2, 1) := by decide +kernel
theorem dX8_givesCard_91 : decode cX8_givesCard 91 = .ok (.if_icmp .ne 7, 3) := by decide +kernel
theorem dX8_givesCard_94 : decode cX8_givesCard 94 = .ok (.iconst 1, 1) := by decide +kernel
theorem dX8_givesCard_95 : decode cX8_givesCard 95 = .ok (.goto 4, 3) := by decide +kernel
theorem dX8_givesCard_98 : decode cX8_givesCard 98 = .ok (.iconst 0, 1) := by decide +kernel
theorem dX8_givesCard_99 : decode cX8_givesCard 99 = .ok (.iadd, 1) := by decide +kernel
theorem dX8_givesCard_100 : decode cX8_givesCard 100 = .ok (.iastore, 1) := by decide +kernel
theorem dX8_givesCard_101 : decode cX8_givesCard 101 = .ok (.aload_n 0, 1) := by decide +kernel
theorem dX8_givesCard_102 : decode cX8_givesCard 102 = .ok (.iload_n 1, 1) := by decide +kernel
theorem dX8_givesCard_103 : decode cX8_givesCard 103 = .ok (.invokevirtual 115, 3) := by decide +kernel
theorem dX8_givesCard_106 : decode cX8_givesCard 106 = .ok (.return_, 1) := by decide +kernel
theorem dX8_follows_0 : decode cX8_follows 0 = .ok (.iconst 1, 1) := by decide +kernel
theorem dX8_follows_1 : decode cX8_follows 1 = .ok (.istore_n 2, 1) := by decide +kernel
theorem dX8_follows_2 : decode cX8_follows 2 = .ok (.aload_n 0, 1) := by decide +kernel
theorem dX8_follows_3 : decode cX8_follows 3 = .ok (.getfield 17, 3) := by decide +kernel
theorem dX8_follows_6 : decode cX8_follows 6 = .ok (.iload_n 1, 1) := by decide +kernel
theorem dX8_follows_7 : decode cX8_follows 7 = .ok (.iaload, 1) := by decide +kernel
theorem dX8_follows_8 : decode cX8_follows 8 = .ok (.ifCond .ne 63, 3) := by decide +kernel
theorem dX8_follows_11 : decode cX8_follows 11 = .ok (.aload_n 0, 1) := by decide +kernel
theorem dX8_follows_12 : decode cX8_follows 12 = .ok (.aload_n 0, 1) := by decide +kernel
theorem dX8_follows_13 : decode cX8_follows 13 = .ok (.getfield 20, 3) := by decide +kernel
theorem dX8_follows_16 : decode cX8_follows 16 = .ok (.iload_n 1, 1) := by decide +kernel
theorem dX8_follows_17 : decode cX8_follows 17 = .ok (.iaload, 1) := by decide +kernel
theorem dX8_follows_18 : decode cX8_follows 18 = .ok (.invokevirtual 124, 3) := by decide +kernel
theorem dX8_follows_21 : decode cX8_follows 21 = .ok (.istore_n 2, 1) := by decide +kernel
theorem dX8_follows_22 : decode cX8_follows 22 = .ok (.iconst 0, 1) := by decide +kernel
theorem dX8_follows_23 : decode cX8_follows 23 = .ok (.istore_n 3, 1) := by decide +kernel
theorem dX8_follows_24 : decode cX8_follows 24 = .ok (.iload_n 3, 1) := by decide +kernel
theorem dX8_follows_25 : decode cX8_follows 25 = .ok (.aload_n 0, 1) := by decide +kernel
theorem dX8_follows_26 : decode cX8_follows 26 = .ok (.getfield 29, 3) := by decide +kernel
theorem dX8_follows_29 : decode cX8_follows 29 = .ok (.iload_n 1, 1) := by decide +kernel
theorem dX8_follows_30 : decode cX8_follows 30 = .ok (.iaload, 1) := by decide +kernel
theorem dX8_follows_31 : decode cX8_follows 31 = .ok (.if_icmp .ge 28, 3) := by decide +kernel
theorem dX8_follows_34 : decode cX8_follows 34 = .ok (.iload_n 2, 1) := by decide +kernel
theorem dX8_follows_35 : decode cX8_follows 35 = .ok (.ifCond .eq 16, 3) := by decide +kernel
theorem dX8_follows_38 : decode cX8_follows 38 = .ok (.aload_n 0, 1) := by decide +kernel
theorem dX8_follows_39 : decode cX8_follows 39 = .ok (.iload_n 1, 1) := by decide +kernel
theorem dX8_follows_40 : decode cX8_follows 40 = .ok (.iload_n 3, 1) := by decide +kernel
theorem dX8_follows_41 : decode cX8_follows 41 = .ok (.invokevirtual 128, 3) := by decide +kernel
theorem dX8_follows_44 : decode cX8_follows 44 = .ok (.ifCond .eq 7, 3) := by decide +kernel
theorem dX8_follows_47 : decode cX8_follows 47 = .ok (.iconst 1, 1) := by decide +kernel
theorem dX8_follows_48 : decode cX8_follows 48 = .ok (.goto 4, 3) := by decide +kernel
theorem dX8_follows_51 : decode cX8_follows 51 = .ok (.iconst 0, 1) := by decide +kernel
theorem dX8_follows_52 : decode cX8_follows 52 = .ok (.istore_n 2, 1) := by decide +kernel
theorem dX8_follows_53 : decode cX8_follows 53 = .ok (.iinc 3 1, 3) := by decide +kernel
theorem dX8_follows_56 : decode cX8_follows 56 = .ok (.goto (-32), 3) := by decide +kernel
theorem dX8_follows_59 : decode cX8_follows 59 = .ok (.iload_n 2, 1) := by decide +kernel
theorem dX8_follows_60 : decode cX8_follows 60 = .ok (.ifCond .eq 162, 3) := by decide +kernel
theorem dX8_follows_63 : decode cX8_follows 63 = .ok (.aload_n 0, 1) := by decide +kernel
theorem dX8_follows_64 : decode cX8_follows 64 = .ok (.iload_n 1, 1) := by decide +kernel
theorem dX8_follows_65 : decode cX8_follows 65 = .ok (.invokevirtual 132, 3) := by decide +kernel
theorem dX8_follows_68 : decode cX8_follows 68 = .ok (.goto 154, 3) := by decide +kernel
theorem dX8_follows_71 : decode cX8_follows 71 = .ok (.aload_n 0, 1) := by decide +kernel
theorem dX8_follows_72 : decode cX8_follows 72 = .ok (.getfield 17, 3) := by decide +kernel
theorem dX8_follows_75 : decode cX8_follows 75 = .ok (.iload_n 1, 1) := by decide +kernel
theorem dX8_follows_76 : decode cX8_follows 76 = .ok (.iaload, 1) := by decide +kernel
theorem dX8_follows_77 : decode cX8_follows 77 = .ok (.iconst 1, 1) := by decide +kernel
theorem dX8_follows_78 : decode cX8_follows 78 = .ok (.if_icmp .ne 55, 3) := by decide +kernel
theorem dX8_follows_81 : decode cX8_follows 81 = .ok (.aload_n 0, 1) := by decide +kernel
theorem dX8_follows_82 : decode cX8_follows 82 = .ok (.aload_n 0, 1) := by decide +kernel
theorem dX8_follows_83 : decode cX8_follows 83 = .ok (.getfield 20, 3) := by decide +kernel
theorem dX8_follows_86 : decode cX8_follows 86 = .ok (.iload_n 1, 1) := by decide +kernel
theorem dX8_follows_87 : decode cX8_follows 87 = .ok (.iaload, 1) := by decide +kernel
theorem dX8_follows_88 : decode cX8_follows 88 = .ok (.aload_n 0, 1) := by decide +kernel
theorem dX8_follows_89 : decode cX8_follows 89 = .ok (.getfield 23, 3) := by decide +kernel
theorem dX8_follows_92 : decode cX8_follows 92 = .ok (.iload_n 1, 1) := by decide +kernel
theorem dX8_follows_93 : decode cX8_follows 93 = .ok (.iaload, 1) := by decide +kernel
theorem dX8_follows_94 : decode cX8_follows 94 = .ok (.aload_n 0, 1) := by decide +kernel
theorem dX8_follows_95 : decode cX8_follows 95 = .ok (.getfield 26, 3) := by decide +kernel
theorem dX8_follows_98 : decode cX8_follows 98 = .ok (.iload_n 1, 1) := by decide +kernel
theorem dX8_follows_99 : decode cX8_follows 99 = .ok (.iaload, 1) := by decide +kernel
theorem dX8_follows_100 : decode cX8_follows 100 = .ok (.invokevirtual 135, 3) := by decide +kernel
theorem dX8_follows_103 : decode cX8_follows 103 = .ok (.istore_n 2, 1) := by decide +kernel
theorem dX8_follows_104 : decode cX8_follows 104 = .ok (.iload_n 2, 1) := by decide +kernel
theorem dX8_follows_105 : decode cX8_follows 105 = .ok (.ifCond .eq 117, 3) := by decide +kernel
theorem dX8_follows_108 : decode cX8_follows 108 = .ok (.aload_n 0, 1) := by decide +kernel
theorem dX8_follows_109 : decode cX8_follows 109 = .ok (.aload_n 0, 1) := by decide +kernel
theorem dX8_follows_110 : decode cX8_follows 110 = .ok (.getfield 20, 3) := by decide +kernel
theorem dX8_follows_113 : decode cX8_follows 113 = .ok (.iload_n 1, 1) := by decide +kernel
theorem dX8_follows_114 : decode cX8_follows 114 = .ok (.iaload, 1) := by decide +kernel
theorem dX8_follows_115 : decode cX8_follows 115 = .ok (.aload_n 0, 1) := by decide +kernel
theorem dX8_follows_116 : decode cX8_follows 116 = .ok (.getfield 23, 3) := by decide +kernel
theorem dX8_follows_119 : decode cX8_follows 119 = .ok (.iload_n 1, 1) := by decide +kernel
theorem dX8_follows_120 : decode cX8_follows 120 = .ok (.iaload, 1) := by decide +kernel
theorem dX8_follows_121 : decode cX8_follows 121 = .ok (.aload_n 0, 1) := by decide +kernel
theorem dX8_follows_122 : decode cX8_follows 122 = .ok (.getfield 26, 3) := by decide +kernel
theorem dX8_follows_125 : decode cX8_follows 125 = .ok (.iload_n 1, 1) := by decide +kernel
theorem dX8_follows_126 : decode cX8_follows 126 = .ok (.iaload, 1) := by decide +kernel
theorem dX8_follows_127 : decode cX8_follows 127 = .ok (.invokevirtual 138, 3) := by decide +kernel
theorem dX8_follows_130 : decode cX8_follows 130 = .ok (.goto 92, 3) := by decide +kernel
theorem dX8_follows_133 : decode cX8_follows 133 = .ok (.aload_n 0, 1) := by decide +kernel
theorem dX8_follows_134 : decode cX8_follows 134 = .ok (.aload_n 0, 1) := by decide +kernel
theorem dX8_follows_135 : decode cX8_follows 135 = .ok (.getfield 20, 3) := by decide +kernel
theorem dX8_follows_138 : decode cX8_follows 138 = .ok (.iload_n 1, 1) := by decide +kernel
theorem dX8_follows_139 : decode cX8_follows 139 = .ok (.iaload, 1) := by decide +kernel
theorem dX8_follows_140 : decode cX8_follows 140 = .ok (.aload_n 0, 1) := by decide +kernel
theorem dX8_follows_141 : decode cX8_follows 141 = .ok (.getfield 23, 3) := by decide +kernel
theorem dX8_follows_144 : decode cX8_follows 144 = .ok (.iload_n 1, 1) := by decide +kernel
theorem dX8_follows_145 : decode cX8_follows 145 = .ok (.iaload, 1) := by decide +kernel
theorem dX8_follows_146 : decode cX8_follows 146 = .ok (.aload_n 0, 1) := by decide +kernel
theorem dX8_follows_147 : decode cX8_follows 147 = .ok (.getfield 26, 3) := by decide +kernel
theorem dX8_follows_150 : decode cX8_follows 150 = .ok (.iload_n 1, 1) := by decide +kernel
theorem dX8_follows_151 : decode cX8_follows 151 = .ok (.iaload, 1) := by decide +kernel
theorem dX8_follows_152 : decode cX8_follows 152 = .ok (.invokevirtual 141, 3) := by decide +kernel
theorem dX8_follows_155 : decode cX8_follows 155 = .ok (.istore_n 2, 1) := by decide +kernel
theorem dX8_follows_156 : decode cX8_follows 156 = .ok (.iload_n 2, 1) := by decide +kernel
theorem dX8_follows_157 : decode cX8_follows 157 = .ok (.ifCond .eq 65, 3) := by decide +kernel
theorem dX8_follows_160 : decode cX8_follows 160 = .ok (.aload_n 0, 1) := by decide +kernel
theorem dX8_follows_161 : decode cX8_follows 161 = .ok (.getfield 41, 3) := by decide +kernel
theorem dX8_follows_164 : decode cX8_follows 164 = .ok (.bipush 10, 2) := by decide +kernel
theorem dX8_follows_166 : decode cX8_follows 166 = .ok (.aload_n 0, 1) := by decide +kernel
theorem dX8_follows_167 : decode cX8_follows 167 = .ok (.getfield 20, 3) := by decide +kernel
theorem dX8_follows_170 : decode cX8_follows 170 = .ok (.iload_n 1, 1) := by decide +kernel
theorem dX8_follows_171 : decode cX8_follows 171 = .ok (.iaload, 1) := by decide +kernel
theorem dX8_follows_172 : decode cX8_follows 172 = .ok (.imul, 1) := by decide +kernel
theorem dX8_follows_173 : decode cX8_follows 173 = .ok (.aload_n 0, 1) := by decide +kernel
theorem dX8_follows_174 : decode cX8_follows 174 = .ok (.getfield 23, 3) := by decide +kernel
theorem dX8_follows_177 : decode cX8_follows 177 = .ok (.iload_n 1, 1) := by decide +kernel
theorem dX8_follows_178 : decode cX8_follows 178 = .ok (.iaload, 1) := by decide +kernel
theorem dX8_follows_179 : decode cX8_follows 179 = .ok (.iadd, 1) := by decide +kernel
theorem dX8_follows_180 : decode cX8_follows 180 = .ok (.iconst 1, 1) := by decide +kernel
theorem dX8_follows_181 : decode cX8_follows 181 = .ok (.iastore, 1) := by decide +kernel
theorem dX8_follows_182 : decode cX8_follows 182 = .ok (.aload_n 0, 1) := by decide +kernel
theorem dX8_follows_183 : decode cX8_follows 183 = .ok (.getfield 41, 3) := by decide +kernel
theorem dX8_follows_186 : decode cX8_follows 186 = .ok (.bipush 10, 2) := by decide +kernel
theorem dX8_follows_188 : decode cX8_follows 188 = .ok (.aload_n 0, 1) := by decide +kernel
theorem dX8_follows_189 : decode cX8_follows 189 = .ok (.getfield 20, 3) := by decide +kernel
theorem dX8_follows_192 : decode cX8_follows 192 = .ok (.iload_n 1, 1) := by decide +kernel
theorem dX8_follows_193 : decode cX8_follows 193 = .ok (.iaload, 1) := by decide +kernel
theorem dX8_follows_194 : decode cX8_follows 194 = .ok (.imul, 1) := by decide +kernel
theorem dX8_follows_195 : decode cX8_follows 195 = .ok (.aload_n 0, 1) := by decide +kernel
theorem dX8_follows_196 : decode cX8_follows 196 = .ok (.getfield 26, 3) := by decide +kernel
theorem dX8_follows_199 : decode cX8_follows 199 = .ok (.iload_n 1, 1) := by decide +kernel
theorem dX8_follows_200 : decode cX8_follows 200 = .ok (.iaload, 1) := by decide +kernel
theorem dX8_follows_201 : decode cX8_follows 201 = .ok (.iadd, 1) := by decide +kernel
theorem dX8_follows_202 : decode cX8_follows 202 = .ok (.iconst 0, 1) := by decide +kernel
theorem dX8_follows_203 : decode cX8_follows 203 = .ok (.iastore, 1) := by decide +kernel
theorem dX8_follows_204 : decode cX8_follows 204 = .ok (.aload_n 0, 1) := by decide +kernel
theorem dX8_follows_205 : decode cX8_follows 205 = .ok (.getfield 41, 3) := by decide +kernel
theorem dX8_follows_208 : decode cX8_follows 208 = .ok (.bipush 102, 2) := by decide +kernel
theorem dX8_follows_210 : decode cX8_follows 210 = .ok (.aload_n 0, 1) := by decide +kernel
theorem dX8_follows_211 : decode cX8_follows 211 = .ok (.getfield 20, 3) := by decide +kernel
theorem dX8_follows_214 : decode cX8_follows 214 = .ok (.iload_n 1, 1) := by decide +kernel
theorem dX8_follows_215 : decode cX8_follows 215 = .ok (.iaload, 1) := by decide +kernel
theorem dX8_follows_216 : decode cX8_follows 216 = .ok (.iadd, 1) := by decide +kernel
theorem dX8_follows_217 : decode cX8_follows 217 = .ok (.dup2, 1) := by decide +kernel
theorem dX8_follows_218 : decode cX8_follows 218 = .ok (.iaload, 1) := by decide +kernel
theorem dX8_follows_219 : decode cX8_follows 219 = .ok (.iconst 1, 1) := by decide +kernel
theorem dX8_follows_220 : decode cX8_follows 220 = .ok (.iadd, 1) := by decide +kernel
theorem dX8_follows_221 : decode cX8_follows 221 = .ok (.iastore, 1) := by decide +kernel
theorem dX8_follows_222 : decode cX8_follows 222 = .ok (.aload_n 0, 1) := by decide +kernel
theorem dX8_follows_223 : decode cX8_follows 223 = .ok (.iload_n 1, 1) := by decide +kernel
theorem dX8_follows_224 : decode cX8_follows 224 = .ok (.invokevirtual 144, 3) := by decide +kernel
theorem dX8_follows_227 : decode cX8_follows 227 = .ok (.iload_n 2, 1) := by decide +kernel
theorem dX8_follows_228 : decode cX8_follows 228 = .ok (.ireturn, 1) := by decide +kernel
theorem dX8_notes_0 : decode cX8_notes 0 = .ok (.iconst 0, 1) := by decide +kernel
theorem dX8_notes_1 : decode cX8_notes 1 = .ok (.istore_n 2, 1) := by decide +kernel
theorem dX8_notes_2 : decode cX8_notes 2 = .ok (.iload_n 2, 1) := by decide +kernel
theorem dX8_notes_3 : decode cX8_notes 3 = .ok (.iconst 2, 1) := by decide +kernel
theorem dX8_notes_4 : decode cX8_notes 4 = .ok (.if_icmp .ge 79, 3) := by decide +kernel
theorem dX8_notes_7 : decode cX8_notes 7 = .ok (.iconst 0, 1) := by decide +kernel
theorem dX8_notes_8 : decode cX8_notes 8 = .ok (.istore_n 3, 1) := by decide +kernel
theorem dX8_notes_9 : decode cX8_notes 9 = .ok (.iconst 0, 1) := by decide +kernel
theorem dX8_notes_10 : decode cX8_notes 10 = .ok (.istore 4, 2) := by decide +kernel
theorem dX8_notes_12 : decode cX8_notes 12 = .ok (.iload 4, 2) := by decide +kernel
theorem dX8_notes_14 : decode cX8_notes 14 = .ok (.bipush 10, 2) := by decide +kernel
theorem dX8_notes_16 : decode cX8_notes 16 = .ok (.if_icmp .ge 31, 3) := by decide +kernel
theorem dX8_notes_19 : decode cX8_notes 19 = .ok (.iload_n 3, 1) := by decide +kernel
theorem dX8_notes_20 : decode cX8_notes 20 = .ok (.aload_n 0, 1) := by decide +kernel
theorem dX8_notes_21 : decode cX8_notes 21 = .ok (.iload_n 2, 1) := by decide +kernel
theorem dX8_notes_22 : decode cX8_notes 22 = .ok (.iload 4, 2) := by decide +kernel
theorem dX8_notes_24 : decode cX8_notes 24 = .ok (.iconst 0, 1) := by decide +kernel
theorem dX8_notes_25 : decode cX8_notes 25 = .ok (.invokevirtual 85, 3) := by decide +kernel
theorem dX8_notes_28 : decode cX8_notes 28 = .ok (.ifCond .eq 10, 3) := by decide +kernel
theorem dX8_notes_31 : decode cX8_notes 31 = .ok (.iconst 1, 1) := by decide +kernel
theorem dX8_notes_32 : decode cX8_notes 32 = .ok (.iload 4, 2) := by decide +kernel
theorem dX8_notes_34 : decode cX8_notes 34 = .ok (.ishl, 1) := by decide +kernel
theorem dX8_notes_35 : decode cX8_notes 35 = .ok (.goto 4, 3) := by decide +kernel
theorem dX8_notes_38 : decode cX8_notes 38 = .ok (.iconst 0, 1) := by decide +kernel
theorem dX8_notes_39 : decode cX8_notes 39 = .ok (.ior, 1) := by decide +kernel
theorem dX8_notes_40 : decode cX8_notes 40 = .ok (.istore_n 3, 1) := by decide +kernel
theorem dX8_notes_41 : decode cX8_notes 41 = .ok (.iinc 4 1, 3) := by decide +kernel
theorem dX8_notes_44 : decode cX8_notes 44 = .ok (.goto (-32), 3) := by decide +kernel
theorem dX8_notes_47 : decode cX8_notes 47 = .ok (.aload_n 0, 1) := by decide +kernel
theorem dX8_notes_48 : decode cX8_notes 48 = .ok (.getfield 44, 3) := by decide +kernel
theorem dX8_notes_51 : decode cX8_notes 51 = .ok (.iconst 2, 1) := by decide +kernel
theorem dX8_notes_52 : decode cX8_notes 52 = .ok (.iload_n 1, 1) := by decide +kernel
theorem dX8_notes_53 : decode cX8_notes 53 = .ok (.imul, 1) := by decide +kernel
theorem dX8_notes_54 : decode cX8_notes 54 = .ok (.iload_n 2, 1) := by decide +kernel
theorem dX8_notes_55 : decode cX8_notes 55 = .ok (.iadd, 1) := by decide +kernel
theorem dX8_notes_56 : decode cX8_notes 56 = .ok (.iload_n 3, 1) := by decide +kernel
theorem dX8_notes_57 : decode cX8_notes 57 = .ok (.iastore, 1) := by decide +kernel
theorem dX8_notes_58 : decode cX8_notes 58 = .ok (.aload_n 0, 1) := by decide +kernel
theorem dX8_notes_59 : decode cX8_notes 59 = .ok (.getfield 47, 3) := by decide +kernel
theorem dX8_notes_62 : decode cX8_notes 62 = .ok (.iconst 2, 1) := by decide +kernel
theorem dX8_notes_63 : decode cX8_notes 63 = .ok (.iload_n 1, 1) := by decide +kernel
theorem dX8_notes_64 : decode cX8_notes 64 = .ok (.imul, 1) := by decide +kernel
theorem dX8_notes_65 : decode cX8_notes 65 = .ok (.iload_n 2, 1) := by decide +kernel
theorem dX8_notes_66 : decode cX8_notes 66 = .ok (.iadd, 1) := by decide +kernel
theorem dX8_notes_67 : decode cX8_notes 67 = .ok (.aload_n 0, 1) := by decide +kernel
theorem dX8_notes_68 : decode cX8_notes 68 = .ok (.getfield 41, 3) := by decide +kernel
theorem dX8_notes_71 : decode cX8_notes 71 = .ok (.bipush 104, 2) := by decide +kernel
theorem dX8_notes_73 : decode cX8_notes 73 = .ok (.iload_n 2, 1) := by decide +kernel
theorem dX8_notes_74 : decode cX8_notes 74 = .ok (.iadd, 1) := by decide +kernel
theorem dX8_notes_75 : decode cX8_notes 75 = .ok (.iaload, 1) := by decide +kernel
theorem dX8_notes_76 : decode cX8_notes 76 = .ok (.iastore, 1) := by decide +kernel
theorem dX8_notes_77 : decode cX8_notes 77 = .ok (.iinc 2 1, 3) := by decide +kernel
theorem dX8_notes_80 : decode cX8_notes 80 = .ok (.goto (-78), 3) := by decide +kernel
theorem dX8_notes_83 : decode cX8_notes 83 = .ok (.return_, 1) := by decide +kernel
theorem dX8_ended_0 : decode cX8_ended 0 = .ok (.aload_n 0, 1) := by decide +kernel
theorem dX8_ended_1 : decode cX8_ended 1 = .ok (.getfield 147, 3) := by decide +kernel
theorem dX8_ended_4 : decode cX8_ended 4 = .ok (.ifCond .eq 12, 3) := by decide +kernel
theorem dX8_ended_7 : decode cX8_ended 7 = .ok (.aload_n 0, 1) := by decide +kernel
theorem dX8_ended_8 : decode cX8_ended 8 = .ok (.getfield 151, 3) := by decide +kernel
theorem dX8_ended_11 : decode cX8_ended 11 = .ok (.iconst 1, 1) := by decide +kernel
theorem dX8_ended_12 : decode cX8_ended 12 = .ok (.isub, 1) := by decide +kernel
theorem dX8_ended_13 : decode cX8_ended 13 = .ok (.goto 7, 3) := by decide +kernel
theorem dX8_ended_16 : decode cX8_ended 16 = .ok (.aload_n 0, 1) := by decide +kernel
theorem dX8_ended_17 : decode cX8_ended 17 = .ok (.getfield 151, 3) := by decide +kernel
theorem dX8_ended_20 : decode cX8_ended 20 = .ok (.ireturn, 1) := by decide +kernel
theorem dX8_plays_0 : decode cX8_plays 0 = .ok (.aload_n 0, 1) := by decide +kernel
theorem dX8_plays_1 : decode cX8_plays 1 = .ok (.invokevirtual 154, 3) := by decide +kernel
theorem dX8_plays_4 : decode cX8_plays 4 = .ok (.iconst 0, 1) := by decide +kernel
theorem dX8_plays_5 : decode cX8_plays 5 = .ok (.istore_n 1, 1) := by decide +kernel
theorem dX8_plays_6 : decode cX8_plays 6 = .ok (.iload_n 1, 1) := by decide +kernel
theorem dX8_plays_7 : decode cX8_plays 7 = .ok (.aload_n 0, 1) := by decide +kernel
theorem dX8_plays_8 : decode cX8_plays 8 = .ok (.invokevirtual 157, 3) := by decide +kernel
theorem dX8_plays_11 : decode cX8_plays 11 = .ok (.if_icmp .ge 19, 3) := by decide +kernel
theorem dX8_plays_14 : decode cX8_plays 14 = .ok (.aload_n 0, 1) := by decide +kernel
theorem dX8_plays_15 : decode cX8_plays 15 = .ok (.iload_n 1, 1) := by decide +kernel
theorem dX8_plays_16 : decode cX8_plays 16 = .ok (.invokevirtual 160, 3) := by decide +kernel
theorem dX8_plays_19 : decode cX8_plays 19 = .ok (.ifCond .ne 5, 3) := by decide +kernel
theorem dX8_plays_22 : decode cX8_plays 22 = .ok (.iload_n 1, 1) := by decide +kernel
theorem dX8_plays_23 : decode cX8_plays 23 = .ok (.ireturn, 1) := by decide +kernel
theorem dX8_plays_24 : decode cX8_plays 24 = .ok (.iinc 1 1, 3) := by decide +kernel
theorem dX8_plays_27 : decode cX8_plays 27 = .ok (.goto (-21), 3) := by decide +kernel
theorem dX8_plays_30 : decode cX8_plays 30 = .ok (.iconst (-1), 1) := by decide +kernel
theorem dX8_plays_31 : decode cX8_plays 31 = .ok (.ireturn, 1) := by decide +kernel
theorem dX8_begin_0 : decode cX8_begin 0 = .ok (.iload_n 1, 1) := by decide +kernel
theorem dX8_begin_1 : decode cX8_begin 1 = .ok (.invokestatic 163, 3) := by decide +kernel
theorem dX8_begin_4 : decode cX8_begin 4 = .ok (.ifCond .eq 14, 3) := by decide +kernel
theorem dX8_begin_7 : decode cX8_begin 7 = .ok (.iload_n 2, 1) := by decide +kernel
theorem dX8_begin_8 : decode cX8_begin 8 = .ok (.invokestatic 163, 3) := by decide +kernel
theorem dX8_begin_11 : decode cX8_begin 11 = .ok (.ifCond .eq 7, 3) := by decide +kernel
theorem dX8_begin_14 : decode cX8_begin 14 = .ok (.iconst 1, 1) := by decide +kernel
theorem dX8_begin_15 : decode cX8_begin 15 = .ok (.goto 4, 3) := by decide +kernel
theorem dX8_begin_18 : decode cX8_begin 18 = .ok (.iconst 0, 1) := by decide +kernel
theorem dX8_begin_19 : decode cX8_begin 19 = .ok (.istore 4, 2) := by decide +kernel
theorem dX8_begin_21 : decode cX8_begin 21 = .ok (.aload_n 0, 1) := by decide +kernel
theorem dX8_begin_22 : decode cX8_begin 22 = .ok (.iload 4, 2) := by decide +kernel
theorem dX8_begin_24 : decode cX8_begin 24 = .ok (.ifCond .ne 7, 3) := by decide +kernel
theorem dX8_begin_27 : decode cX8_begin 27 = .ok (.iconst 1, 1) := by decide +kernel
theorem dX8_begin_28 : decode cX8_begin 28 = .ok (.goto 37, 3) := by decide +kernel
theorem dX8_begin_31 : decode cX8_begin 31 = .ok (.iload_n 1, 1) := by decide +kernel
theorem dX8_begin_32 : decode cX8_begin 32 = .ok (.iload_n 2, 1) := by decide +kernel
theorem dX8_begin_33 : decode cX8_begin 33 = .ok (.if_icmp .eq 16, 3) := by decide +kernel
theorem dX8_begin_36 : decode cX8_begin 36 = .ok (.iload_n 3, 1) := by decide +kernel
theorem dX8_begin_37 : decode cX8_begin 37 = .ok (.sipush 300, 3) := by decide +kernel
theorem dX8_begin_40 : decode cX8_begin 40 = .ok (.sipush 24000, 3) := by decide +kernel
theorem dX8_begin_43 : decode cX8_begin 43 = .ok (.invokestatic 81, 3) := by decide +kernel
theorem dX8_begin_46 : decode cX8_begin 46 = .ok (.ifCond .ne 7, 3) := by decide +kernel
theorem dX8_begin_49 : decode cX8_begin 49 = .ok (.iconst 2, 1) := by decide +kernel
theorem dX8_begin_50 : decode cX8_begin 50 = .ok (.goto 15, 3) := by decide +kernel
theorem dX8_begin_53 : decode cX8_begin 53 = .ok (.aload_n 0, 1) := by decide +kernel
theorem dX8_begin_54 : decode cX8_begin 54 = .ok (.getfield 166, 3) := by decide +kernel
theorem dX8_begin_57 : decode cX8_begin 57 = .ok (.ifCond .eq 7, 3) := by decide +kernel
theorem dX8_begin_60 : decode cX8_begin 60 = .ok (.iconst 3, 1) := by decide +kernel
theorem dX8_begin_61 : decode cX8_begin 61 = .ok (.goto 4, 3) := by decide +kernel
theorem dX8_begin_64 : decode cX8_begin 64 = .ok (.iconst 0, 1) := by decide +kernel
theorem dX8_begin_65 : decode cX8_begin 65 = .ok (.invokevirtual 169, 3) := by decide +kernel
theorem dX8_begin_68 : decode cX8_begin 68 = .ok (.ifCond .ne 5, 3) := by decide +kernel
theorem dX8_begin_71 : decode cX8_begin 71 = .ok (.iconst 0, 1) := by decide +kernel
theorem dX8_begin_72 : decode cX8_begin 72 = .ok (.ireturn, 1) := by decide +kernel
theorem dX8_begin_73 : decode cX8_begin 73 = .ok (.aload_n 0, 1) := by decide +kernel
theorem dX8_begin_74 : decode cX8_begin 74 = .ok (.iconst 1, 1) := by decide +kernel
theorem dX8_begin_75 : decode cX8_begin 75 = .ok (.putfield 166, 3) := by decide +kernel
theorem dX8_begin_78 : decode cX8_begin 78 = .ok (.aload_n 0, 1) := by decide +kernel
theorem dX8_begin_79 : decode cX8_begin 79 = .ok (.iconst 0, 1) := by decide +kernel
theorem dX8_begin_80 : decode cX8_begin 80 = .ok (.putfield 147, 3) := by decide +kernel
theorem dX8_begin_83 : decode cX8_begin 83 = .ok (.aload_n 0, 1) := by decide +kernel
theorem dX8_begin_84 : decode cX8_begin 84 = .ok (.getfield 7, 3) := by decide +kernel
theorem dX8_begin_87 : decode cX8_begin 87 = .ok (.iconst 0, 1) := by decide +kernel
theorem dX8_begin_88 : decode cX8_begin 88 = .ok (.iload_n 1, 1) := by decide +kernel
theorem dX8_begin_89 : decode cX8_begin 89 = .ok (.iastore, 1) := by decide +kernel
theorem dX8_begin_90 : decode cX8_begin 90 = .ok (.aload_n 0, 1) := by decide +kernel
theorem dX8_begin_91 : decode cX8_begin 91 = .ok (.getfield 7, 3) := by decide +kernel
theorem dX8_begin_94 : decode cX8_begin 94 = .ok (.iconst 1, 1) := by decide +kernel
theorem dX8_begin_95 : decode cX8_begin 95 = .ok (.iload_n 2, 1) := by decide +kernel
theorem dX8_begin_96 : decode cX8_begin 96 = .ok (.iastore, 1) := by decide +kernel
theorem dX8_begin_97 : decode cX8_begin 97 = .ok (.aload_n 0, 1) := by decide +kernel
theorem dX8_begin_98 : decode cX8_begin 98 = .ok (.iload_n 3, 1) := by decide +kernel
theorem dX8_begin_99 : decode cX8_begin 99 = .ok (.putfield 118, 3) := by decide +kernel
theorem dX8_begin_102 : decode cX8_begin 102 = .ok (.aload_n 0, 1) := by decide +kernel
theorem dX8_begin_103 : decode cX8_begin 103 = .ok (.iconst 0, 1) := by decide +kernel
theorem dX8_begin_104 : decode cX8_begin 104 = .ok (.putfield 151, 3) := by decide +kernel
theorem dX8_begin_107 : decode cX8_begin 107 = .ok (.aload_n 0, 1) := by decide +kernel
theorem dX8_begin_108 : decode cX8_begin 108 = .ok (.getfield 13, 3) := by decide +kernel
theorem dX8_begin_111 : decode cX8_begin 111 = .ok (.iconst 0, 1) := by decide +kernel
theorem dX8_begin_112 : decode cX8_begin 112 = .ok (.iconst 0, 1) := by decide +kernel
theorem dX8_begin_113 : decode cX8_begin 113 = .ok (.bastore, 1) := by decide +kernel
theorem dX8_begin_114 : decode cX8_begin 114 = .ok (.aload_n 0, 1) := by decide +kernel
theorem dX8_begin_115 : decode cX8_begin 115 = .ok (.getfield 13, 3) := by decide +kernel
theorem dX8_begin_118 : decode cX8_begin 118 = .ok (.iconst 1, 1) := by decide +kernel
theorem dX8_begin_119 : decode cX8_begin 119 = .ok (.iconst 0, 1) := by decide +kernel
theorem dX8_begin_120 : decode cX8_begin 120 = .ok (.bastore, 1) := by decide +kernel
theorem dX8_begin_121 : decode cX8_begin 121 = .ok (.aload_n 0, 1) := by decide +kernel
theorem dX8_begin_122 : decode cX8_begin 122 = .ok (.invokevirtual 154, 3) := by decide +kernel
theorem dX8_begin_125 : decode cX8_begin 125 = .ok (.aload_n 0, 1) := by decide +kernel
theorem dX8_begin_126 : decode cX8_begin 126 = .ok (.dup, 1) := by decide +kernel
theorem dX8_begin_127 : decode cX8_begin 127 = .ok (.getfield 172, 3) := by decide +kernel
theorem dX8_begin_130 : decode cX8_begin 130 = .ok (.iconst 1, 1) := by decide +kernel
theorem dX8_begin_131 : decode cX8_begin 131 = .ok (.iadd, 1) := by decide +kernel
theorem dX8_begin_132 : decode cX8_begin 132 = .ok (.putfield 172, 3) := by decide +kernel
theorem dX8_begin_135 : decode cX8_begin 135 = .ok (.aload_n 0, 1) := by decide +kernel
theorem dX8_begin_136 : decode cX8_begin 136 = .ok (.getfield 172, 3) := by decide +kernel
theorem dX8_begin_139 : decode cX8_begin 139 = .ok (.ireturn, 1) := by decide +kernel
theorem dX8_isBetween_0 : decode cX8_isBetween 0 = .ok (.aload_n 0, 1) := by decide +kernel
theorem dX8_isBetween_1 : decode cX8_isBetween 1 = .ok (.getfield 166, 3) := by decide +kernel
theorem dX8_isBetween_4 : decode cX8_isBetween 4 = .ok (.ifCond .eq 23, 3) := by decide +kernel
theorem dX8_isBetween_7 : decode cX8_isBetween 7 = .ok (.aload_n 0, 1) := by decide +kernel
theorem dX8_isBetween_8 : decode cX8_isBetween 8 = .ok (.getfield 147, 3) := by decide +kernel
theorem dX8_isBetween_11 : decode cX8_isBetween 11 = .ok (.ifCond .ne 16, 3) := by decide +kernel
theorem dX8_isBetween_14 : decode cX8_isBetween 14 = .ok (.aload_n 0, 1) := by decide +kernel
theorem dX8_isBetween_15 : decode cX8_isBetween 15 = .ok (.getfield 151, 3) := by decide +kernel
theorem dX8_isBetween_18 : decode cX8_isBetween 18 = .ok (.bipush 60, 2) := by decide +kernel
theorem dX8_isBetween_20 : decode cX8_isBetween 20 = .ok (.if_icmp .ge 7, 3) := by decide +kernel
theorem dX8_isBetween_23 : decode cX8_isBetween 23 = .ok (.iconst 1, 1) := by decide +kernel
theorem dX8_isBetween_24 : decode cX8_isBetween 24 = .ok (.goto 4, 3) := by decide +kernel
theorem dX8_isBetween_27 : decode cX8_isBetween 27 = .ok (.iconst 0, 1) := by decide +kernel
theorem dX8_isBetween_28 : decode cX8_isBetween 28 = .ok (.ireturn, 1) := by decide +kernel
theorem dX8_adds_0 : decode cX8_adds 0 = .ok (.aload_n 0, 1) := by decide +kernel
theorem dX8_adds_1 : decode cX8_adds 1 = .ok (.getfield 17, 3) := by decide +kernel
theorem dX8_adds_4 : decode cX8_adds 4 = .ok (.aload_n 0, 1) := by decide +kernel
theorem dX8_adds_5 : decode cX8_adds 5 = .ok (.getfield 151, 3) := by decide +kernel
theorem dX8_adds_8 : decode cX8_adds 8 = .ok (.iload_n 1, 1) := by decide +kernel
theorem dX8_adds_9 : decode cX8_adds 9 = .ok (.iastore, 1) := by decide +kernel
theorem dX8_adds_10 : decode cX8_adds 10 = .ok (.aload_n 0, 1) := by decide +kernel
theorem dX8_adds_11 : decode cX8_adds 11 = .ok (.getfield 20, 3) := by decide +kernel
theorem dX8_adds_14 : decode cX8_adds 14 = .ok (.aload_n 0, 1) := by decide +kernel
theorem dX8_adds_15 : decode cX8_adds 15 = .ok (.getfield 151, 3) := by decide +kernel
theorem dX8_adds_18 : decode cX8_adds 18 = .ok (.iload_n 2, 1) := by decide +kernel
theorem dX8_adds_19 : decode cX8_adds 19 = .ok (.iastore, 1) := by decide +kernel
theorem dX8_adds_20 : decode cX8_adds 20 = .ok (.aload_n 0, 1) := by decide +kernel
theorem dX8_adds_21 : decode cX8_adds 21 = .ok (.getfield 23, 3) := by decide +kernel
theorem dX8_adds_24 : decode cX8_adds 24 = .ok (.aload_n 0, 1) := by decide +kernel
theorem dX8_adds_25 : decode cX8_adds 25 = .ok (.getfield 151, 3) := by decide +kernel
theorem dX8_adds_28 : decode cX8_adds 28 = .ok (.iload_n 3, 1) := by decide +kernel
theorem dX8_adds_29 : decode cX8_adds 29 = .ok (.iastore, 1) := by decide +kernel
theorem dX8_adds_30 : decode cX8_adds 30 = .ok (.aload_n 0, 1) := by decide +kernel
theorem dX8_adds_31 : decode cX8_adds 31 = .ok (.getfield 26, 3) := by decide +kernel
theorem dX8_adds_34 : decode cX8_adds 34 = .ok (.aload_n 0, 1) := by decide +kernel
theorem dX8_adds_35 : decode cX8_adds 35 = .ok (.getfield 151, 3) := by decide +kernel
theorem dX8_adds_38 : decode cX8_adds 38 = .ok (.iload 4, 2) := by decide +kernel
theorem dX8_adds_40 : decode cX8_adds 40 = .ok (.iastore, 1) := by decide +kernel
theorem dX8_adds_41 : decode cX8_adds 41 = .ok (.aload_n 0, 1) := by decide +kernel
theorem dX8_adds_42 : decode cX8_adds 42 = .ok (.getfield 29, 3) := by decide +kernel
theorem dX8_adds_45 : decode cX8_adds 45 = .ok (.aload_n 0, 1) := by decide +kernel
theorem dX8_adds_46 : decode cX8_adds 46 = .ok (.getfield 151, 3) := by decide +kernel
theorem dX8_adds_49 : decode cX8_adds 49 = .ok (.iconst 0, 1) := by decide +kernel
theorem dX8_adds_50 : decode cX8_adds 50 = .ok (.iastore, 1) := by decide +kernel
theorem dX8_adds_51 : decode cX8_adds 51 = .ok (.aload_n 0, 1) := by decide +kernel
theorem dX8_adds_52 : decode cX8_adds 52 = .ok (.dup, 1) := by decide +kernel
theorem dX8_adds_53 : decode cX8_adds 53 = .ok (.getfield 151, 3) := by decide +kernel
theorem dX8_adds_56 : decode cX8_adds 56 = .ok (.iconst 1, 1) := by decide +kernel
theorem dX8_adds_57 : decode cX8_adds 57 = .ok (.iadd, 1) := by decide +kernel
theorem dX8_adds_58 : decode cX8_adds 58 = .ok (.putfield 151, 3) := by decide +kernel
theorem dX8_adds_61 : decode cX8_adds 61 = .ok (.aload_n 0, 1) := by decide +kernel
theorem dX8_adds_62 : decode cX8_adds 62 = .ok (.getfield 151, 3) := by decide +kernel
theorem dX8_adds_65 : decode cX8_adds 65 = .ok (.iconst 1, 1) := by decide +kernel
theorem dX8_adds_66 : decode cX8_adds 66 = .ok (.isub, 1) := by decide +kernel
theorem dX8_adds_67 : decode cX8_adds 67 = .ok (.ireturn, 1) := by decide +kernel
theorem dX8_raid_0 : decode cX8_raid 0 = .ok (.iload_n 1, 1) := by decide +kernel
theorem dX8_raid_1 : decode cX8_raid 1 = .ok (.invokestatic 175, 3) := by decide +kernel
theorem dX8_raid_4 : decode cX8_raid 4 = .ok (.istore_n 2, 1) := by decide +kernel
theorem dX8_raid_5 : decode cX8_raid 5 = .ok (.aload_n 0, 1) := by decide +kernel
theorem dX8_raid_6 : decode cX8_raid 6 = .ok (.iload_n 2, 1) := by decide +kernel
theorem dX8_raid_7 : decode cX8_raid 7 = .ok (.ifCond .ne 7, 3) := by decide +kernel
theorem dX8_raid_10 : decode cX8_raid 10 = .ok (.iconst 1, 1) := by decide +kernel
theorem dX8_raid_11 : decode cX8_raid 11 = .ok (.goto 23, 3) := by decide +kernel
theorem dX8_raid_14 : decode cX8_raid 14 = .ok (.aload_n 0, 1) := by decide +kernel
theorem dX8_raid_15 : decode cX8_raid 15 = .ok (.invokevirtual 178, 3) := by decide +kernel
theorem dX8_raid_18 : decode cX8_raid 18 = .ok (.ifCond .eq 11, 3) := by decide +kernel
theorem dX8_raid_21 : decode cX8_raid 21 = .ok (.aload_n 0, 1) := by decide +kernel
theorem dX8_raid_22 : decode cX8_raid 22 = .ok (.iload_n 1, 1) := by decide +kernel
theorem dX8_raid_23 : decode cX8_raid 23 = .ok (.invokevirtual 124, 3) := by decide +kernel
theorem dX8_raid_26 : decode cX8_raid 26 = .ok (.ifCond .ne 7, 3) := by decide +kernel
theorem dX8_raid_29 : decode cX8_raid 29 = .ok (.iconst 2, 1) := by decide +kernel
theorem dX8_raid_30 : decode cX8_raid 30 = .ok (.goto 4, 3) := by decide +kernel
theorem dX8_raid_33 : decode cX8_raid 33 = .ok (.iconst 0, 1) := by decide +kernel
theorem dX8_raid_34 : decode cX8_raid 34 = .ok (.invokevirtual 169, 3) := by decide +kernel
theorem dX8_raid_37 : decode cX8_raid 37 = .ok (.ifCond .ne 5, 3) := by decide +kernel
theorem dX8_raid_40 : decode cX8_raid 40 = .ok (.iconst 0, 1) := by decide +kernel
theorem dX8_raid_41 : decode cX8_raid 41 = .ok (.ireturn, 1) := by decide +kernel
theorem dX8_raid_42 : decode cX8_raid 42 = .ok (.aload_n 0, 1) := by decide +kernel
theorem dX8_raid_43 : decode cX8_raid 43 = .ok (.iconst 1, 1) := by decide +kernel
theorem dX8_raid_44 : decode cX8_raid 44 = .ok (.putfield 147, 3) := by decide +kernel
theorem dX8_raid_47 : decode cX8_raid 47 = .ok (.aload_n 0, 1) := by decide +kernel
theorem dX8_raid_48 : decode cX8_raid 48 = .ok (.iconst 0, 1) := by decide +kernel
theorem dX8_raid_49 : decode cX8_raid 49 = .ok (.iload_n 1, 1) := by decide +kernel
theorem dX8_raid_50 : decode cX8_raid 50 = .ok (.iconst 0, 1) := by decide +kernel
theorem dX8_raid_51 : decode cX8_raid 51 = .ok (.iconst 0, 1) := by decide +kernel
theorem dX8_raid_52 : decode cX8_raid 52 = .ok (.invokevirtual 182, 3) := by decide +kernel
theorem dX8_raid_55 : decode cX8_raid 55 = .ok (.ireturn, 1) := by decide +kernel
theorem dX8_isWho_0 : decode cX8_isWho 0 = .ok (.iload_n 0, 1) := by decide +kernel
theorem dX8_isWho_1 : decode cX8_isWho 1 = .ok (.ifCond .ne 10, 3) := by decide +kernel
theorem dX8_isWho_4 : decode cX8_isWho 4 = .ok (.iload_n 1, 1) := by decide +kernel
theorem dX8_isWho_5 : decode cX8_isWho 5 = .ok (.invokestatic 175, 3) := by decide +kernel
theorem dX8_isWho_8 : decode cX8_isWho 8 = .ok (.goto 13, 3) := by decide +kernel
theorem dX8_isWho_11 : decode cX8_isWho 11 = .ok (.iload_n 1, 1) := by decide +kernel
theorem dX8_isWho_12 : decode cX8_isWho 12 = .ok (.iconst (-1), 1) := by decide +kernel
theorem dX8_isWho_13 : decode cX8_isWho 13 = .ok (.if_icmp .ne 7, 3) := by decide +kernel
theorem dX8_isWho_16 : decode cX8_isWho 16 = .ok (.iconst 1, 1) := by decide +kernel
theorem dX8_isWho_17 : decode cX8_isWho 17 = .ok (.goto 4, 3) := by decide +kernel
theorem dX8_isWho_20 : decode cX8_isWho 20 = .ok (.iconst 0, 1) := by decide +kernel
theorem dX8_isWho_21 : decode cX8_isWho 21 = .ok (.ireturn, 1) := by decide +kernel
theorem dX8_canTell_0 : decode cX8_canTell 0 = .ok (.aload_n 0, 1) := by decide +kernel
theorem dX8_canTell_1 : decode cX8_canTell 1 = .ok (.getfield 166, 3) := by decide +kernel
theorem dX8_canTell_4 : decode cX8_canTell 4 = .ok (.ifCond .eq 10, 3) := by decide +kernel
theorem dX8_canTell_7 : decode cX8_canTell 7 = .ok (.aload_n 0, 1) := by decide +kernel
theorem dX8_canTell_8 : decode cX8_canTell 8 = .ok (.getfield 147, 3) := by decide +kernel
theorem dX8_canTell_11 : decode cX8_canTell 11 = .ok (.ifCond .ne 5, 3) := by decide +kernel
theorem dX8_canTell_14 : decode cX8_canTell 14 = .ok (.iconst 0, 1) := by decide +kernel
theorem dX8_canTell_15 : decode cX8_canTell 15 = .ok (.ireturn, 1) := by decide +kernel
theorem dX8_canTell_16 : decode cX8_canTell 16 = .ok (.aload_n 0, 1) := by decide +kernel
theorem dX8_canTell_17 : decode cX8_canTell 17 = .ok (.getfield 151, 3) := by decide +kernel
theorem dX8_canTell_20 : decode cX8_canTell 20 = .ok (.iconst 1, 1) := by decide +kernel
theorem dX8_canTell_21 : decode cX8_canTell 21 = .ok (.isub, 1) := by decide +kernel
theorem dX8_canTell_22 : decode cX8_canTell 22 = .ok (.istore 4, 2) := by decide +kernel
theorem dX8_canTell_24 : decode cX8_canTell 24 = .ok (.bipush 14, 2) := by decide +kernel
theorem dX8_canTell_26 : decode cX8_canTell 26 = .ok (.iload 4, 2) := by decide +kernel
theorem dX8_canTell_28 : decode cX8_canTell 28 = .ok (.imul, 1) := by decide +kernel
theorem dX8_canTell_29 : decode cX8_canTell 29 = .ok (.aload_n 0, 1) := by decide +kernel
theorem dX8_canTell_30 : decode cX8_canTell 30 = .ok (.getfield 29, 3) := by decide +kernel
theorem dX8_canTell_33 : decode cX8_canTell 33 = .ok (.iload 4, 2) := by decide +kernel
theorem dX8_canTell_35 : decode cX8_canTell 35 = .ok (.iaload, 1) := by decide +kernel
theorem dX8_canTell_36 : decode cX8_canTell 36 = .ok (.iadd, 1) := by decide +kernel
theorem dX8_canTell_37 : decode cX8_canTell 37 = .ok (.istore 5, 2) := by decide +kernel
theorem dX8_canTell_39 : decode cX8_canTell 39 = .ok (.aload_n 0, 1) := by decide +kernel
theorem dX8_canTell_40 : decode cX8_canTell 40 = .ok (.getfield 32, 3) := by decide +kernel
theorem dX8_canTell_43 : decode cX8_canTell 43 = .ok (.iload 5, 2) := by decide +kernel
theorem dX8_canTell_45 : decode cX8_canTell 45 = .ok (.iload_n 1, 1) := by decide +kernel
theorem dX8_canTell_46 : decode cX8_canTell 46 = .ok (.iastore, 1) := by decide +kernel
theorem dX8_canTell_47 : decode cX8_canTell 47 = .ok (.aload_n 0, 1) := by decide +kernel
theorem dX8_canTell_48 : decode cX8_canTell 48 = .ok (.getfield 35, 3) := by decide +kernel
theorem dX8_canTell_51 : decode cX8_canTell 51 = .ok (.iload 5, 2) := by decide +kernel
theorem dX8_canTell_53 : decode cX8_canTell 53 = .ok (.iload_n 2, 1) := by decide +kernel
theorem dX8_canTell_54 : decode cX8_canTell 54 = .ok (.iastore, 1) := by decide +kernel
theorem dX8_canTell_55 : decode cX8_canTell 55 = .ok (.aload_n 0, 1) := by decide +kernel
theorem dX8_canTell_56 : decode cX8_canTell 56 = .ok (.getfield 38, 3) := by decide +kernel
theorem dX8_canTell_59 : decode cX8_canTell 59 = .ok (.iload 5, 2) := by decide +kernel
theorem dX8_canTell_61 : decode cX8_canTell 61 = .ok (.iload_n 3, 1) := by decide +kernel
theorem dX8_canTell_62 : decode cX8_canTell 62 = .ok (.iastore, 1) := by decide +kernel
theorem dX8_canTell_63 : decode cX8_canTell 63 = .ok (.aload_n 0, 1) := by decide +kernel
theorem dX8_canTell_64 : decode cX8_canTell 64 = .ok (.getfield 29, 3) := by decide +kernel
theorem dX8_canTell_67 : decode cX8_canTell 67 = .ok (.iload 4, 2) := by decide +kernel
theorem dX8_canTell_69 : decode cX8_canTell 69 = .ok (.iaload, 1) := by decide +kernel
theorem dX8_canTell_70 : decode cX8_canTell 70 = .ok (.ifCond .eq 16, 3) := by decide +kernel
theorem dX8_canTell_73 : decode cX8_canTell 73 = .ok (.aload_n 0, 1) := by decide +kernel
theorem dX8_canTell_74 : decode cX8_canTell 74 = .ok (.getfield 38, 3) := by decide +kernel
theorem dX8_canTell_77 : decode cX8_canTell 77 = .ok (.iload 5, 2) := by decide +kernel
theorem dX8_canTell_79 : decode cX8_canTell 79 = .ok (.iconst 1, 1) := by decide +kernel
theorem dX8_canTell_80 : decode cX8_canTell 80 = .ok (.isub, 1) := by decide +kernel
theorem dX8_canTell_81 : decode cX8_canTell 81 = .ok (.iaload, 1) := by decide +kernel
theorem dX8_canTell_82 : decode cX8_canTell 82 = .ok (.iload_n 3, 1) := by decide +kernel
theorem dX8_canTell_83 : decode cX8_canTell 83 = .ok (.if_icmp .ge 23, 3) := by decide +kernel
theorem dX8_canTell_86 : decode cX8_canTell 86 = .ok (.aload_n 0, 1) := by decide +kernel
theorem dX8_canTell_87 : decode cX8_canTell 87 = .ok (.iload 4, 2) := by decide +kernel
theorem dX8_canTell_89 : decode cX8_canTell 89 = .ok (.aload_n 0, 1) := by decide +kernel
theorem dX8_canTell_90 : decode cX8_canTell 90 = .ok (.getfield 29, 3) := by decide +kernel
theorem dX8_canTell_93 : decode cX8_canTell 93 = .ok (.iload 4, 2) := by decide +kernel
theorem dX8_canTell_95 : decode cX8_canTell 95 = .ok (.iaload, 1) := by decide +kernel
theorem dX8_canTell_96 : decode cX8_canTell 96 = .ok (.invokevirtual 128, 3) := by decide +kernel
theorem dX8_canTell_99 : decode cX8_canTell 99 = .ok (.ifCond .eq 7, 3) := by decide +kernel
theorem dX8_canTell_102 : decode cX8_canTell 102 = .ok (.iconst 1, 1) := by decide +kernel
theorem dX8_canTell_103 : decode cX8_canTell 103 = .ok (.goto 4, 3) := by decide +kernel
theorem dX8_canTell_106 : decode cX8_canTell 106 = .ok (.iconst 0, 1) := by decide +kernel
theorem dX8_canTell_107 : decode cX8_canTell 107 = .ok (.ireturn, 1) := by decide +kernel
theorem dX8_step_0 : decode cX8_step 0 = .ok (.iload_n 1, 1) := by decide +kernel
theorem dX8_step_1 : decode cX8_step 1 = .ok (.iconst 0, 1) := by decide +kernel
theorem dX8_step_2 : decode cX8_step 2 = .ok (.bipush 6, 2) := by decide +kernel
theorem dX8_step_4 : decode cX8_step 4 = .ok (.invokestatic 81, 3) := by decide +kernel
theorem dX8_step_7 : decode cX8_step 7 = .ok (.ifCond .eq 26, 3) := by decide +kernel
theorem dX8_step_10 : decode cX8_step 10 = .ok (.iload_n 1, 1) := by decide +kernel
theorem dX8_step_11 : decode cX8_step 11 = .ok (.iload_n 2, 1) := by decide +kernel
theorem dX8_step_12 : decode cX8_step 12 = .ok (.invokestatic 186, 3) := by decide +kernel
theorem dX8_step_15 : decode cX8_step 15 = .ok (.ifCond .eq 18, 3) := by decide +kernel
theorem dX8_step_18 : decode cX8_step 18 = .ok (.iload_n 3, 1) := by decide +kernel
theorem dX8_step_19 : decode cX8_step 19 = .ok (.iconst 1, 1) := by decide +kernel
theorem dX8_step_20 : decode cX8_step 20 = .ok (.sipush 300, 3) := by decide +kernel
theorem dX8_step_23 : decode cX8_step 23 = .ok (.invokestatic 81, 3) := by decide +kernel
theorem dX8_step_26 : decode cX8_step 26 = .ok (.ifCond .eq 7, 3) := by decide +kernel
theorem dX8_step_29 : decode cX8_step 29 = .ok (.iconst 1, 1) := by decide +kernel
theorem dX8_step_30 : decode cX8_step 30 = .ok (.goto 4, 3) := by decide +kernel
theorem dX8_step_33 : decode cX8_step 33 = .ok (.iconst 0, 1) := by decide +kernel
theorem dX8_step_34 : decode cX8_step 34 = .ok (.istore 4, 2) := by decide +kernel
theorem dX8_step_36 : decode cX8_step 36 = .ok (.aload_n 0, 1) := by decide +kernel
theorem dX8_step_37 : decode cX8_step 37 = .ok (.iload 4, 2) := by decide +kernel
theorem dX8_step_39 : decode cX8_step 39 = .ok (.ifCond .ne 7, 3) := by decide +kernel
theorem dX8_step_42 : decode cX8_step 42 = .ok (.iconst 1, 1) := by decide +kernel
theorem dX8_step_43 : decode cX8_step 43 = .ok (.goto 18, 3) := by decide +kernel
theorem dX8_step_46 : decode cX8_step 46 = .ok (.aload_n 0, 1) := by decide +kernel
theorem dX8_step_47 : decode cX8_step 47 = .ok (.iload_n 1, 1) := by decide +kernel
theorem dX8_step_48 : decode cX8_step 48 = .ok (.iload_n 2, 1) := by decide +kernel
theorem dX8_step_49 : decode cX8_step 49 = .ok (.iload_n 3, 1) := by decide +kernel
theorem dX8_step_50 : decode cX8_step 50 = .ok (.invokevirtual 189, 3) := by decide +kernel
theorem dX8_step_53 : decode cX8_step 53 = .ok (.ifCond .eq 7, 3) := by decide +kernel
theorem dX8_step_56 : decode cX8_step 56 = .ok (.iconst 0, 1) := by decide +kernel
theorem dX8_step_57 : decode cX8_step 57 = .ok (.goto 4, 3) := by decide +kernel
theorem dX8_step_60 : decode cX8_step 60 = .ok (.iconst 2, 1) := by decide +kernel
theorem dX8_step_61 : decode cX8_step 61 = .ok (.invokevirtual 169, 3) := by decide +kernel
theorem dX8_step_64 : decode cX8_step 64 = .ok (.ifCond .ne 5, 3) := by decide +kernel
theorem dX8_step_67 : decode cX8_step 67 = .ok (.iconst 0, 1) := by decide +kernel
theorem dX8_step_68 : decode cX8_step 68 = .ok (.ireturn, 1) := by decide +kernel
theorem dX8_step_69 : decode cX8_step 69 = .ok (.aload_n 0, 1) := by decide +kernel
theorem dX8_step_70 : decode cX8_step 70 = .ok (.getfield 151, 3) := by decide +kernel
theorem dX8_step_73 : decode cX8_step 73 = .ok (.iconst 1, 1) := by decide +kernel
theorem dX8_step_74 : decode cX8_step 74 = .ok (.isub, 1) := by decide +kernel
theorem dX8_step_75 : decode cX8_step 75 = .ok (.istore 5, 2) := by decide +kernel
theorem dX8_step_77 : decode cX8_step 77 = .ok (.aload_n 0, 1) := by decide +kernel
theorem dX8_step_78 : decode cX8_step 78 = .ok (.getfield 29, 3) := by decide +kernel
theorem dX8_step_81 : decode cX8_step 81 = .ok (.iload 5, 2) := by decide +kernel
theorem dX8_step_83 : decode cX8_step 83 = .ok (.dup2, 1) := by decide +kernel
theorem dX8_step_84 : decode cX8_step 84 = .ok (.iaload, 1) := by decide +kernel
theorem dX8_step_85 : decode cX8_step 85 = .ok (.iconst 1, 1) := by decide +kernel
theorem dX8_step_86 : decode cX8_step 86 = .ok (.iadd, 1) := by decide +kernel
theorem dX8_step_87 : decode cX8_step 87 = .ok (.iastore, 1) := by decide +kernel
theorem dX8_step_88 : decode cX8_step 88 = .ok (.iload_n 1, 1) := by decide +kernel
theorem dX8_step_89 : decode cX8_step 89 = .ok (.iconst 3, 1) := by decide +kernel
theorem dX8_step_90 : decode cX8_step 90 = .ok (.if_icmp .ge 5, 3) := by decide +kernel
theorem dX8_step_93 : decode cX8_step 93 = .ok (.iconst (-1), 1) := by decide +kernel
theorem dX8_step_94 : decode cX8_step 94 = .ok (.ireturn, 1) := by decide +kernel
theorem dX8_step_95 : decode cX8_step 95 = .ok (.aload_n 0, 1) := by decide +kernel
theorem dX8_step_96 : decode cX8_step 96 = .ok (.invokevirtual 108, 3) := by decide +kernel
theorem dX8_step_99 : decode cX8_step 99 = .ok (.istore 6, 2) := by decide +kernel
theorem dX8_step_101 : decode cX8_step 101 = .ok (.aload_n 0, 1) := by decide +kernel
theorem dX8_step_102 : decode cX8_step 102 = .ok (.getfield 41, 3) := by decide +kernel
theorem dX8_step_105 : decode cX8_step 105 = .ok (.bipush 104, 2) := by decide +kernel
theorem dX8_step_107 : decode cX8_step 107 = .ok (.iload 6, 2) := by decide +kernel
theorem dX8_step_109 : decode cX8_step 109 = .ok (.iadd, 1) := by decide +kernel
theorem dX8_step_110 : decode cX8_step 110 = .ok (.iaload, 1) := by decide +kernel
theorem dX8_step_111 : decode cX8_step 111 = .ok (.istore 7, 2) := by decide +kernel
theorem dX8_step_113 : decode cX8_step 113 = .ok (.aload_n 0, 1) := by decide +kernel
theorem dX8_step_114 : decode cX8_step 114 = .ok (.getfield 41, 3) := by decide +kernel
theorem dX8_step_117 : decode cX8_step 117 = .ok (.bipush 105, 2) := by decide +kernel
theorem dX8_step_119 : decode cX8_step 119 = .ok (.iload 6, 2) := by decide +kernel
theorem dX8_step_121 : decode cX8_step 121 = .ok (.isub, 1) := by decide +kernel
theorem dX8_step_122 : decode cX8_step 122 = .ok (.iaload, 1) := by decide +kernel
theorem dX8_step_123 : decode cX8_step 123 = .ok (.istore 8, 2) := by decide +kernel
theorem dX8_step_125 : decode cX8_step 125 = .ok (.aload_n 0, 1) := by decide +kernel
theorem dX8_step_126 : decode cX8_step 126 = .ok (.iload 5, 2) := by decide +kernel
theorem dX8_step_128 : decode cX8_step 128 = .ok (.invokevirtual 132, 3) := by decide +kernel
theorem dX8_step_131 : decode cX8_step 131 = .ok (.aload_n 0, 1) := by decide +kernel
theorem dX8_step_132 : decode cX8_step 132 = .ok (.iload 5, 2) := by decide +kernel
theorem dX8_step_134 : decode cX8_step 134 = .ok (.invokevirtual 144, 3) := by decide +kernel
theorem dX8_step_137 : decode cX8_step 137 = .ok (.aload_n 0, 1) := by decide +kernel
theorem dX8_step_138 : decode cX8_step 138 = .ok (.iconst 0, 1) := by decide +kernel
theorem dX8_step_139 : decode cX8_step 139 = .ok (.putfield 147, 3) := by decide +kernel
theorem dX8_step_142 : decode cX8_step 142 = .ok (.bipush 10, 2) := by decide +kernel
theorem dX8_step_144 : decode cX8_step 144 = .ok (.aload_n 0, 1) := by decide +kernel
theorem dX8_step_145 : decode cX8_step 145 = .ok (.getfield 41, 3) := by decide +kernel
theorem dX8_step_148 : decode cX8_step 148 = .ok (.bipush 104, 2) := by decide +kernel
theorem dX8_step_150 : decode cX8_step 150 = .ok (.iload 6, 2) := by decide +kernel
theorem dX8_step_152 : decode cX8_step 152 = .ok (.iadd, 1) := by decide +kernel
theorem dX8_step_153 : decode cX8_step 153 = .ok (.iaload, 1) := by decide +kernel
theorem dX8_step_154 : decode cX8_step 154 = .ok (.iload 7, 2) := by decide +kernel
theorem dX8_step_156 : decode cX8_step 156 = .ok (.isub, 1) := by decide +kernel
theorem dX8_step_157 : decode cX8_step 157 = .ok (.imul, 1) := by decide +kernel
theorem dX8_step_158 : decode cX8_step 158 = .ok (.aload_n 0, 1) := by decide +kernel
theorem dX8_step_159 : decode cX8_step 159 = .ok (.getfield 41, 3) := by decide +kernel
theorem dX8_step_162 : decode cX8_step 162 = .ok (.bipush 105, 2) := by decide +kernel
theorem dX8_step_164 : decode cX8_step 164 = .ok (.iload 6, 2) := by decide +kernel
theorem dX8_step_166 : decode cX8_step 166 = .ok (.isub, 1) := by decide +kernel
theorem dX8_step_167 : decode cX8_step 167 = .ok (.iaload, 1) := by decide +kernel
theorem dX8_step_168 : decode cX8_step 168 = .ok (.iadd, 1) := by decide +kernel
theorem dX8_step_169 : decode cX8_step 169 = .ok (.iload 8, 2) := by decide +kernel
theorem dX8_step_171 : decode cX8_step 171 = .ok (.isub, 1) := by decide +kernel
theorem dX8_step_172 : decode cX8_step 172 = .ok (.ireturn, 1) := by decide +kernel
theorem dX8_card_0 : decode cX8_card 0 = .ok (.iload_n 1, 1) := by decide +kernel
theorem dX8_card_1 : decode cX8_card 1 = .ok (.invokestatic 192, 3) := by decide +kernel
theorem dX8_card_4 : decode cX8_card 4 = .ok (.ifCond .eq 14, 3) := by decide +kernel
theorem dX8_card_7 : decode cX8_card 7 = .ok (.iload_n 2, 1) := by decide +kernel
theorem dX8_card_8 : decode cX8_card 8 = .ok (.invokestatic 175, 3) := by decide +kernel
theorem dX8_card_11 : decode cX8_card 11 = .ok (.ifCond .eq 7, 3) := by decide +kernel
theorem dX8_card_14 : decode cX8_card 14 = .ok (.iconst 1, 1) := by decide +kernel
theorem dX8_card_15 : decode cX8_card 15 = .ok (.goto 4, 3) := by decide +kernel
theorem dX8_card_18 : decode cX8_card 18 = .ok (.iconst 0, 1) := by decide +kernel
theorem dX8_card_19 : decode cX8_card 19 = .ok (.istore 4, 2) := by decide +kernel
theorem dX8_card_21 : decode cX8_card 21 = .ok (.aload_n 0, 1) := by decide +kernel
theorem dX8_card_22 : decode cX8_card 22 = .ok (.iload 4, 2) := by decide +kernel
theorem dX8_card_24 : decode cX8_card 24 = .ok (.ifCond .ne 7, 3) := by decide +kernel
theorem dX8_card_27 : decode cX8_card 27 = .ok (.iconst 1, 1) := by decide +kernel
theorem dX8_card_28 : decode cX8_card 28 = .ok (.goto 38, 3) := by decide +kernel
theorem dX8_card_31 : decode cX8_card 31 = .ok (.iload_n 3, 1) := by decide +kernel
theorem dX8_card_32 : decode cX8_card 32 = .ok (.iconst 0, 1) := by decide +kernel
theorem dX8_card_33 : decode cX8_card 33 = .ok (.iconst 2, 1) := by decide +kernel
theorem dX8_card_34 : decode cX8_card 34 = .ok (.invokestatic 81, 3) := by decide +kernel
theorem dX8_card_37 : decode cX8_card 37 = .ok (.ifCond .ne 7, 3) := by decide +kernel
theorem dX8_card_40 : decode cX8_card 40 = .ok (.iconst 2, 1) := by decide +kernel
theorem dX8_card_41 : decode cX8_card 41 = .ok (.goto 25, 3) := by decide +kernel
theorem dX8_card_44 : decode cX8_card 44 = .ok (.aload_n 0, 1) := by decide +kernel
theorem dX8_card_45 : decode cX8_card 45 = .ok (.invokevirtual 178, 3) := by decide +kernel
theorem dX8_card_48 : decode cX8_card 48 = .ok (.ifCond .eq 13, 3) := by decide +kernel
theorem dX8_card_51 : decode cX8_card 51 = .ok (.aload_n 0, 1) := by decide +kernel
theorem dX8_card_52 : decode cX8_card 52 = .ok (.iload_n 1, 1) := by decide +kernel
theorem dX8_card_53 : decode cX8_card 53 = .ok (.iload_n 2, 1) := by decide +kernel
theorem dX8_card_54 : decode cX8_card 54 = .ok (.iload_n 3, 1) := by decide +kernel
theorem dX8_card_55 : decode cX8_card 55 = .ok (.invokevirtual 135, 3) := by decide +kernel
theorem dX8_card_58 : decode cX8_card 58 = .ok (.ifCond .ne 7, 3) := by decide +kernel
theorem dX8_card_61 : decode cX8_card 61 = .ok (.iconst 3, 1) := by decide +kernel
theorem dX8_card_62 : decode cX8_card 62 = .ok (.goto 4, 3) := by decide +kernel
theorem dX8_card_65 : decode cX8_card 65 = .ok (.iconst 0, 1) := by decide +kernel
theorem dX8_card_66 : decode cX8_card 66 = .ok (.invokevirtual 169, 3) := by decide +kernel
theorem dX8_card_69 : decode cX8_card 69 = .ok (.ifCond .ne 5, 3) := by decide +kernel
theorem dX8_card_72 : decode cX8_card 72 = .ok (.iconst 0, 1) := by decide +kernel
theorem dX8_card_73 : decode cX8_card 73 = .ok (.ireturn, 1) := by decide +kernel
theorem dX8_card_74 : decode cX8_card 74 = .ok (.aload_n 0, 1) := by decide +kernel
theorem dX8_card_75 : decode cX8_card 75 = .ok (.iload_n 1, 1) := by decide +kernel
theorem dX8_card_76 : decode cX8_card 76 = .ok (.iload_n 2, 1) := by decide +kernel
theorem dX8_card_77 : decode cX8_card 77 = .ok (.iload_n 3, 1) := by decide +kernel
theorem dX8_card_78 : decode cX8_card 78 = .ok (.invokevirtual 121, 3) := by decide +kernel
theorem dX8_card_81 : decode cX8_card 81 = .ok (.istore 5, 2) := by decide +kernel
theorem dX8_card_83 : decode cX8_card 83 = .ok (.aload_n 0, 1) := by decide +kernel
theorem dX8_card_84 : decode cX8_card 84 = .ok (.iconst 1, 1) := by decide +kernel
theorem dX8_card_85 : decode cX8_card 85 = .ok (.iload_n 1, 1) := by decide +kernel
theorem dX8_card_86 : decode cX8_card 86 = .ok (.iload_n 2, 1) := by decide +kernel
theorem dX8_card_87 : decode cX8_card 87 = .ok (.iload_n 3, 1) := by decide +kernel
theorem dX8_card_88 : decode cX8_card 88 = .ok (.invokevirtual 182, 3) := by decide +kernel
theorem dX8_card_91 : decode cX8_card 91 = .ok (.istore 6, 2) := by decide +kernel
theorem dX8_card_93 : decode cX8_card 93 = .ok (.aload_n 0, 1) := by decide +kernel
theorem dX8_card_94 : decode cX8_card 94 = .ok (.iload 6, 2) := by decide +kernel
theorem dX8_card_96 : decode cX8_card 96 = .ok (.invokevirtual 160, 3) := by decide +kernel
theorem dX8_card_99 : decode cX8_card 99 = .ok (.ifCond .eq 8, 3) := by decide +kernel
theorem dX8_card_102 : decode cX8_card 102 = .ok (.iload 5, 2) := by decide +kernel
theorem dX8_card_104 : decode cX8_card 104 = .ok (.goto 4, 3) := by decide +kernel
theorem dX8_card_107 : decode cX8_card 107 = .ok (.iconst 0, 1) := by decide +kernel
theorem dX8_card_108 : decode cX8_card 108 = .ok (.ireturn, 1) := by decide +kernel
theorem dX8_change_0 : decode cX8_change 0 = .ok (.iload_n 1, 1) := by decide +kernel
theorem dX8_change_1 : decode cX8_change 1 = .ok (.invokestatic 192, 3) := by decide +kernel
theorem dX8_change_4 : decode cX8_change 4 = .ok (.ifCond .eq 21, 3) := by decide +kernel
theorem dX8_change_7 : decode cX8_change 7 = .ok (.iload_n 2, 1) := by decide +kernel
theorem dX8_change_8 : decode cX8_change 8 = .ok (.invokestatic 175, 3) := by decide +kernel
theorem dX8_change_11 : decode cX8_change 11 = .ok (.ifCond .eq 14, 3) := by decide +kernel
theorem dX8_change_14 : decode cX8_change 14 = .ok (.iload_n 3, 1) := by decide +kernel
theorem dX8_change_15 : decode cX8_change 15 = .ok (.invokestatic 175, 3) := by decide +kernel
theorem dX8_change_18 : decode cX8_change 18 = .ok (.ifCond .eq 7, 3) := by decide +kernel
theorem dX8_change_21 : decode cX8_change 21 = .ok (.iconst 1, 1) := by decide +kernel
theorem dX8_change_22 : decode cX8_change 22 = .ok (.goto 4, 3) := by decide +kernel
theorem dX8_change_25 : decode cX8_change 25 = .ok (.iconst 0, 1) := by decide +kernel
theorem dX8_change_26 : decode cX8_change 26 = .ok (.istore 4, 2) := by decide +kernel
theorem dX8_change_28 : decode cX8_change 28 = .ok (.aload_n 0, 1) := by decide +kernel
theorem dX8_change_29 : decode cX8_change 29 = .ok (.iload 4, 2) := by decide +kernel
theorem dX8_change_31 : decode cX8_change 31 = .ok (.ifCond .ne 7, 3) := by decide +kernel
theorem dX8_change_34 : decode cX8_change 34 = .ok (.iconst 1, 1) := by decide +kernel
theorem dX8_change_35 : decode cX8_change 35 = .ok (.goto 25, 3) := by decide +kernel
theorem dX8_change_38 : decode cX8_change 38 = .ok (.aload_n 0, 1) := by decide +kernel
theorem dX8_change_39 : decode cX8_change 39 = .ok (.invokevirtual 178, 3) := by decide +kernel
theorem dX8_change_42 : decode cX8_change 42 = .ok (.ifCond .eq 13, 3) := by decide +kernel
theorem dX8_change_45 : decode cX8_change 45 = .ok (.aload_n 0, 1) := by decide +kernel
theorem dX8_change_46 : decode cX8_change 46 = .ok (.iload_n 1, 1) := by decide +kernel
theorem dX8_change_47 : decode cX8_change 47 = .ok (.iload_n 2, 1) := by decide +kernel
theorem dX8_change_48 : decode cX8_change 48 = .ok (.iload_n 3, 1) := by decide +kernel
theorem dX8_change_49 : decode cX8_change 49 = .ok (.invokevirtual 141, 3) := by decide +kernel
theorem dX8_change_52 : decode cX8_change 52 = .ok (.ifCond .ne 7, 3) := by decide +kernel
theorem dX8_change_55 : decode cX8_change 55 = .ok (.iconst 2, 1) := by decide +kernel
theorem dX8_change_56 : decode cX8_change 56 = .ok (.goto 4, 3) := by decide +kernel
theorem dX8_change_59 : decode cX8_change 59 = .ok (.iconst 0, 1) := by decide +kernel
theorem dX8_change_60 : decode cX8_change 60 = .ok (.invokevirtual 169, 3) := by decide +kernel
theorem dX8_change_63 : decode cX8_change 63 = .ok (.ifCond .ne 5, 3) := by decide +kernel
theorem dX8_change_66 : decode cX8_change 66 = .ok (.iconst 0, 1) := by decide +kernel
theorem dX8_change_67 : decode cX8_change 67 = .ok (.ireturn, 1) := by decide +kernel
theorem dX8_change_68 : decode cX8_change 68 = .ok (.aload_n 0, 1) := by decide +kernel
theorem dX8_change_69 : decode cX8_change 69 = .ok (.iconst 2, 1) := by decide +kernel
theorem dX8_change_70 : decode cX8_change 70 = .ok (.iload_n 1, 1) := by decide +kernel
theorem dX8_change_71 : decode cX8_change 71 = .ok (.iload_n 2, 1) := by decide +kernel
theorem dX8_change_72 : decode cX8_change 72 = .ok (.iload_n 3, 1) := by decide +kernel
theorem dX8_change_73 : decode cX8_change 73 = .ok (.invokevirtual 182, 3) := by decide +kernel
theorem dX8_change_76 : decode cX8_change 76 = .ok (.istore 5, 2) := by decide +kernel
theorem dX8_change_78 : decode cX8_change 78 = .ok (.aload_n 0, 1) := by decide +kernel
theorem dX8_change_79 : decode cX8_change 79 = .ok (.iload 5, 2) := by decide +kernel
theorem dX8_change_81 : decode cX8_change 81 = .ok (.invokevirtual 160, 3) := by decide +kernel
theorem dX8_change_84 : decode cX8_change 84 = .ok (.ifCond .eq 15, 3) := by decide +kernel
theorem dX8_change_87 : decode cX8_change 87 = .ok (.aload_n 0, 1) := by decide +kernel
theorem dX8_change_88 : decode cX8_change 88 = .ok (.getfield 41, 3) := by decide +kernel
theorem dX8_change_91 : decode cX8_change 91 = .ok (.bipush 102, 2) := by decide +kernel
theorem dX8_change_93 : decode cX8_change 93 = .ok (.iload_n 1, 1) := by decide +kernel
theorem dX8_change_94 : decode cX8_change 94 = .ok (.iadd, 1) := by decide +kernel
theorem dX8_change_95 : decode cX8_change 95 = .ok (.iaload, 1) := by decide +kernel
theorem dX8_change_96 : decode cX8_change 96 = .ok (.goto 4, 3) := by decide +kernel
theorem dX8_change_99 : decode cX8_change 99 = .ok (.iconst 0, 1) := by decide +kernel
theorem dX8_change_100 : decode cX8_change 100 = .ok (.ireturn, 1) := by decide +kernel
theorem dX8_isStep_0 : decode cX8_isStep 0 = .ok (.aload_n 0, 1) := by decide +kernel
theorem dX8_isStep_1 : decode cX8_isStep 1 = .ok (.getfield 166, 3) := by decide +kernel
theorem dX8_isStep_4 : decode cX8_isStep 4 = .ok (.ifCond .eq 46, 3) := by decide +kernel
theorem dX8_isStep_7 : decode cX8_isStep 7 = .ok (.iload_n 1, 1) := by decide +kernel
theorem dX8_isStep_8 : decode cX8_isStep 8 = .ok (.iconst 0, 1) := by decide +kernel
theorem dX8_isStep_9 : decode cX8_isStep 9 = .ok (.aload_n 0, 1) := by decide +kernel
theorem dX8_isStep_10 : decode cX8_isStep 10 = .ok (.invokevirtual 157, 3) := by decide +kernel
theorem dX8_isStep_13 : decode cX8_isStep 13 = .ok (.iconst 1, 1) := by decide +kernel
theorem dX8_isStep_14 : decode cX8_isStep 14 = .ok (.isub, 1) := by decide +kernel
theorem dX8_isStep_15 : decode cX8_isStep 15 = .ok (.invokestatic 81, 3) := by decide +kernel
theorem dX8_isStep_18 : decode cX8_isStep 18 = .ok (.ifCond .eq 32, 3) := by decide +kernel
theorem dX8_isStep_21 : decode cX8_isStep 21 = .ok (.aload_n 0, 1) := by decide +kernel
theorem dX8_isStep_22 : decode cX8_isStep 22 = .ok (.getfield 17, 3) := by decide +kernel
theorem dX8_isStep_25 : decode cX8_isStep 25 = .ok (.iload_n 1, 1) := by decide +kernel
theorem dX8_isStep_26 : decode cX8_isStep 26 = .ok (.iaload, 1) := by decide +kernel
theorem dX8_isStep_27 : decode cX8_isStep 27 = .ok (.ifCond .ne 23, 3) := by decide +kernel
theorem dX8_isStep_30 : decode cX8_isStep 30 = .ok (.iload_n 2, 1) := by decide +kernel
theorem dX8_isStep_31 : decode cX8_isStep 31 = .ok (.iconst 0, 1) := by decide +kernel
theorem dX8_isStep_32 : decode cX8_isStep 32 = .ok (.aload_n 0, 1) := by decide +kernel
theorem dX8_isStep_33 : decode cX8_isStep 33 = .ok (.getfield 29, 3) := by decide +kernel
theorem dX8_isStep_36 : decode cX8_isStep 36 = .ok (.iload_n 1, 1) := by decide +kernel
theorem dX8_isStep_37 : decode cX8_isStep 37 = .ok (.iaload, 1) := by decide +kernel
theorem dX8_isStep_38 : decode cX8_isStep 38 = .ok (.iconst 1, 1) := by decide +kernel
theorem dX8_isStep_39 : decode cX8_isStep 39 = .ok (.isub, 1) := by decide +kernel
theorem dX8_isStep_40 : decode cX8_isStep 40 = .ok (.invokestatic 81, 3) := by decide +kernel
theorem dX8_isStep_43 : decode cX8_isStep 43 = .ok (.ifCond .eq 7, 3) := by decide +kernel
theorem dX8_isStep_46 : decode cX8_isStep 46 = .ok (.iconst 1, 1) := by decide +kernel
theorem dX8_isStep_47 : decode cX8_isStep 47 = .ok (.goto 4, 3) := by decide +kernel
theorem dX8_isStep_50 : decode cX8_isStep 50 = .ok (.iconst 0, 1) := by decide +kernel
theorem dX8_isStep_51 : decode cX8_isStep 51 = .ok (.ireturn, 1) := by decide +kernel
theorem dX8_canBeSaid_0 : decode cX8_canBeSaid 0 = .ok (.iload_n 2, 1) := by decide +kernel
theorem dX8_canBeSaid_1 : decode cX8_canBeSaid 1 = .ok (.aload_n 0, 1) := by decide +kernel
theorem dX8_canBeSaid_2 : decode cX8_canBeSaid 2 = .ok (.getfield 29, 3) := by decide +kernel
theorem dX8_canBeSaid_5 : decode cX8_canBeSaid 5 = .ok (.iload_n 1, 1) := by decide +kernel
theorem dX8_canBeSaid_6 : decode cX8_canBeSaid 6 = .ok (.iaload, 1) := by decide +kernel
theorem dX8_canBeSaid_7 : decode cX8_canBeSaid 7 = .ok (.iconst 1, 1) := by decide +kernel
theorem dX8_canBeSaid_8 : decode cX8_canBeSaid 8 = .ok (.isub, 1) := by decide +kernel
theorem dX8_canBeSaid_9 : decode cX8_canBeSaid 9 = .ok (.if_icmp .ne 7, 3) := by decide +kernel
theorem dX8_canBeSaid_12 : decode cX8_canBeSaid 12 = .ok (.iconst 1, 1) := by decide +kernel
theorem dX8_canBeSaid_13 : decode cX8_canBeSaid 13 = .ok (.goto 4, 3) := by decide +kernel
theorem dX8_canBeSaid_16 : decode cX8_canBeSaid 16 = .ok (.iconst 0, 1) := by decide +kernel
theorem dX8_canBeSaid_17 : decode cX8_canBeSaid 17 = .ok (.istore 4, 2) := by decide +kernel
theorem dX8_canBeSaid_19 : decode cX8_canBeSaid 19 = .ok (.iload 4, 2) := by decide +kernel
theorem dX8_canBeSaid_21 : decode cX8_canBeSaid 21 = .ok (.iload_n 3, 1) := by decide +kernel
theorem dX8_canBeSaid_22 : decode cX8_canBeSaid 22 = .ok (.iconst 3, 1) := by decide +kernel
theorem dX8_canBeSaid_23 : decode cX8_canBeSaid 23 = .ok (.if_icmp .lt 7, 3) := by decide +kernel
theorem dX8_canBeSaid_26 : decode cX8_canBeSaid 26 = .ok (.iconst 1, 1) := by decide +kernel
theorem dX8_canBeSaid_27 : decode cX8_canBeSaid 27 = .ok (.goto 4, 3) := by decide +kernel
theorem dX8_canBeSaid_30 : decode cX8_canBeSaid 30 = .ok (.iconst 0, 1) := by decide +kernel
theorem dX8_canBeSaid_31 : decode cX8_canBeSaid 31 = .ok (.if_icmp .ne 7, 3) := by decide +kernel
theorem dX8_canBeSaid_34 : decode cX8_canBeSaid 34 = .ok (.iconst 1, 1) := by decide +kernel
theorem dX8_canBeSaid_35 : decode cX8_canBeSaid 35 = .ok (.goto 4, 3) := by decide +kernel
theorem dX8_canBeSaid_38 : decode cX8_canBeSaid 38 = .ok (.iconst 0, 1) := by decide +kernel
theorem dX8_canBeSaid_39 : decode cX8_canBeSaid 39 = .ok (.ireturn, 1) := by decide +kernel
theorem dX8_says_0 : decode cX8_says 0 = .ok (.aload_n 0, 1) := by decide +kernel
theorem dX8_says_1 : decode cX8_says 1 = .ok (.getfield 32, 3) := by decide +kernel
theorem dX8_says_4 : decode cX8_says 4 = .ok (.iload_n 1, 1) := by decide +kernel
theorem dX8_says_5 : decode cX8_says 5 = .ok (.iload_n 2, 1) := by decide +kernel
theorem dX8_says_6 : decode cX8_says 6 = .ok (.iastore, 1) := by decide +kernel
theorem dX8_says_7 : decode cX8_says 7 = .ok (.aload_n 0, 1) := by decide +kernel
theorem dX8_says_8 : decode cX8_says 8 = .ok (.getfield 35, 3) := by decide +kernel
theorem dX8_says_11 : decode cX8_says 11 = .ok (.iload_n 1, 1) := by decide +kernel
theorem dX8_says_12 : decode cX8_says 12 = .ok (.iload_n 3, 1) := by decide +kernel
theorem dX8_says_13 : decode cX8_says 13 = .ok (.iastore, 1) := by decide +kernel
theorem dX8_says_14 : decode cX8_says 14 = .ok (.return_, 1) := by decide +kernel
theorem dX8_falls_0 : decode cX8_falls 0 = .ok (.aload_n 0, 1) := by decide +kernel
theorem dX8_falls_1 : decode cX8_falls 1 = .ok (.iload_n 1, 1) := by decide +kernel
theorem dX8_falls_2 : decode cX8_falls 2 = .ok (.iload_n 2, 1) := by decide +kernel
theorem dX8_falls_3 : decode cX8_falls 3 = .ok (.iload_n 3, 1) := by decide +kernel
theorem dX8_falls_4 : decode cX8_falls 4 = .ok (.invokevirtual 195, 3) := by decide +kernel
theorem dX8_falls_7 : decode cX8_falls 7 = .ok (.ifCond .ne 5, 3) := by decide +kernel
theorem dX8_falls_10 : decode cX8_falls 10 = .ok (.iload_n 1, 1) := by decide +kernel
theorem dX8_falls_11 : decode cX8_falls 11 = .ok (.ireturn, 1) := by decide +kernel
theorem dX8_falls_12 : decode cX8_falls 12 = .ok (.bipush 14, 2) := by decide +kernel
theorem dX8_falls_14 : decode cX8_falls 14 = .ok (.iload_n 1, 1) := by decide +kernel
theorem dX8_falls_15 : decode cX8_falls 15 = .ok (.imul, 1) := by decide +kernel
theorem dX8_falls_16 : decode cX8_falls 16 = .ok (.iload_n 2, 1) := by decide +kernel
theorem dX8_falls_17 : decode cX8_falls 17 = .ok (.iadd, 1) := by decide +kernel
theorem dX8_falls_18 : decode cX8_falls 18 = .ok (.istore 5, 2) := by decide +kernel
theorem dX8_falls_20 : decode cX8_falls 20 = .ok (.aload_n 0, 1) := by decide +kernel
theorem dX8_falls_21 : decode cX8_falls 21 = .ok (.getfield 32, 3) := by decide +kernel
theorem dX8_falls_24 : decode cX8_falls 24 = .ok (.iload 5, 2) := by decide +kernel
theorem dX8_falls_26 : decode cX8_falls 26 = .ok (.iaload, 1) := by decide +kernel
theorem dX8_falls_27 : decode cX8_falls 27 = .ok (.istore 6, 2) := by decide +kernel
theorem dX8_falls_29 : decode cX8_falls 29 = .ok (.aload_n 0, 1) := by decide +kernel
theorem dX8_falls_30 : decode cX8_falls 30 = .ok (.getfield 35, 3) := by decide +kernel
theorem dX8_falls_33 : decode cX8_falls 33 = .ok (.iload 5, 2) := by decide +kernel
theorem dX8_falls_35 : decode cX8_falls 35 = .ok (.iaload, 1) := by decide +kernel
theorem dX8_falls_36 : decode cX8_falls 36 = .ok (.istore 7, 2) := by decide +kernel
theorem dX8_falls_38 : decode cX8_falls 38 = .ok (.aload_n 0, 1) := by decide +kernel
theorem dX8_falls_39 : decode cX8_falls 39 = .ok (.iload 5, 2) := by decide +kernel
theorem dX8_falls_41 : decode cX8_falls 41 = .ok (.iload_n 3, 1) := by decide +kernel
theorem dX8_falls_42 : decode cX8_falls 42 = .ok (.iload 4, 2) := by decide +kernel
theorem dX8_falls_44 : decode cX8_falls 44 = .ok (.invokevirtual 198, 3) := by decide +kernel
theorem dX8_falls_47 : decode cX8_falls 47 = .ok (.aload_n 0, 1) := by decide +kernel
theorem dX8_falls_48 : decode cX8_falls 48 = .ok (.invokevirtual 201, 3) := by decide +kernel
theorem dX8_falls_51 : decode cX8_falls 51 = .ok (.istore 8, 2) := by decide +kernel
theorem dX8_falls_53 : decode cX8_falls 53 = .ok (.aload_n 0, 1) := by decide +kernel
theorem dX8_falls_54 : decode cX8_falls 54 = .ok (.iload 5, 2) := by decide +kernel
theorem dX8_falls_56 : decode cX8_falls 56 = .ok (.iload 6, 2) := by decide +kernel
theorem dX8_falls_58 : decode cX8_falls 58 = .ok (.iload 7, 2) := by decide +kernel
theorem dX8_falls_60 : decode cX8_falls 60 = .ok (.invokevirtual 198, 3) := by decide +kernel
theorem dX8_falls_63 : decode cX8_falls 63 = .ok (.aload_n 0, 1) := by decide +kernel
theorem dX8_falls_64 : decode cX8_falls 64 = .ok (.invokevirtual 201, 3) := by decide +kernel
theorem dX8_falls_67 : decode cX8_falls 67 = .ok (.istore 9, 2) := by decide +kernel
theorem dX8_falls_69 : decode cX8_falls 69 = .ok (.iload 8, 2) := by decide +kernel
theorem dX8_falls_71 : decode cX8_falls 71 = .ok (.ireturn, 1) := by decide +kernel
theorem dX8_review_0 : decode cX8_review 0 = .ok (.iload_n 1, 1) := by decide +kernel
theorem dX8_review_1 : decode cX8_review 1 = .ok (.invokestatic 192, 3) := by decide +kernel
theorem dX8_review_4 : decode cX8_review 4 = .ok (.ifCond .eq 16, 3) := by decide +kernel
theorem dX8_review_7 : decode cX8_review 7 = .ok (.aload_n 0, 1) := by decide +kernel
theorem dX8_review_8 : decode cX8_review 8 = .ok (.iload_n 2, 1) := by decide +kernel
theorem dX8_review_9 : decode cX8_review 9 = .ok (.iload_n 3, 1) := by decide +kernel
theorem dX8_review_10 : decode cX8_review 10 = .ok (.invokevirtual 204, 3) := by decide +kernel
theorem dX8_review_13 : decode cX8_review 13 = .ok (.ifCond .eq 7, 3) := by decide +kernel
theorem dX8_review_16 : decode cX8_review 16 = .ok (.iconst 1, 1) := by decide +kernel
theorem dX8_review_17 : decode cX8_review 17 = .ok (.goto 4, 3) := by decide +kernel
