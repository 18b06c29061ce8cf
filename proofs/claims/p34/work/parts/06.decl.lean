theorem dL_cell_0 : decode cL_cell 0 = .ok (.iload_n 1, 1) := by decide +kernel
theorem dL_cell_1 : decode cL_cell 1 = .ok (.aload_n 0, 1) := by decide +kernel
theorem dL_cell_2 : decode cL_cell 2 = .ok (.arraylength, 1) := by decide +kernel
theorem dL_cell_3 : decode cL_cell 3 = .ok (.if_icmp .ge 9, 3) := by decide +kernel
theorem dL_cell_6 : decode cL_cell 6 = .ok (.aload_n 0, 1) := by decide +kernel
theorem dL_cell_7 : decode cL_cell 7 = .ok (.iload_n 1, 1) := by decide +kernel
theorem dL_cell_8 : decode cL_cell 8 = .ok (.iaload, 1) := by decide +kernel
theorem dL_cell_9 : decode cL_cell 9 = .ok (.goto 18, 3) := by decide +kernel
theorem dL_cell_12 : decode cL_cell 12 = .ok (.sipush 7919, 3) := by decide +kernel
theorem dL_cell_15 : decode cL_cell 15 = .ok (.iload_n 1, 1) := by decide +kernel
theorem dL_cell_16 : decode cL_cell 16 = .ok (.sipush 1709, 3) := by decide +kernel
theorem dL_cell_19 : decode cL_cell 19 = .ok (.iadd, 1) := by decide +kernel
theorem dL_cell_20 : decode cL_cell 20 = .ok (.imul, 1) := by decide +kernel
theorem dL_cell_21 : decode cL_cell 21 = .ok (.iload_n 1, 1) := by decide +kernel
theorem dL_cell_22 : decode cL_cell 22 = .ok (.sipush 4231, 3) := by decide +kernel
theorem dL_cell_25 : decode cL_cell 25 = .ok (.iadd, 1) := by decide +kernel
theorem dL_cell_26 : decode cL_cell 26 = .ok (.imul, 1) := by decide +kernel
theorem dL_cell_27 : decode cL_cell 27 = .ok (.ireturn, 1) := by decide +kernel
theorem dL_low_0 : decode cL_low 0 = .ok (.iload_n 0, 1) := by decide +kernel
theorem dL_low_1 : decode cL_low 1 = .ok (.ldc 7, 2) := by decide +kernel
theorem dL_low_3 : decode cL_low 3 = .ok (.iand, 1) := by decide +kernel
theorem dL_low_4 : decode cL_low 4 = .ok (.iload_n 1, 1) := by decide +kernel
theorem dL_low_5 : decode cL_low 5 = .ok (.irem, 1) := by decide +kernel
theorem dL_low_6 : decode cL_low 6 = .ok (.ireturn, 1) := by decide +kernel
theorem dL_does_0 : decode cL_does 0 = .ok (.iload_n 1, 1) := by decide +kernel
theorem dL_does_1 : decode cL_does 1 = .ok (.bipush 13, 2) := by decide +kernel
theorem dL_does_3 : decode cL_does 3 = .ok (.if_icmp .ge 19, 3) := by decide +kernel
theorem dL_does_6 : decode cL_does 6 = .ok (.aload_n 0, 1) := by decide +kernel
theorem dL_does_7 : decode cL_does 7 = .ok (.iload_n 1, 1) := by decide +kernel
theorem dL_does_8 : decode cL_does 8 = .ok (.iload_n 2, 1) := by decide +kernel
theorem dL_does_9 : decode cL_does 9 = .ok (.iload_n 3, 1) := by decide +kernel
theorem dL_does_10 : decode cL_does 10 = .ok (.iload 4, 2) := by decide +kernel
theorem dL_does_12 : decode cL_does 12 = .ok (.iload 5, 2) := by decide +kernel
theorem dL_does_14 : decode cL_does 14 = .ok (.iload 6, 2) := by decide +kernel
theorem dL_does_16 : decode cL_does 16 = .ok (.invokestatic 8, 3) := by decide +kernel
theorem dL_does_19 : decode cL_does 19 = .ok (.goto 273, 3) := by decide +kernel
theorem dL_does_22 : decode cL_does 22 = .ok (.iload_n 1, 1) := by decide +kernel
theorem dL_does_23 : decode cL_does 23 = .ok (.bipush 13, 2) := by decide +kernel
theorem dL_does_25 : decode cL_does 25 = .ok (.if_icmp .ne 12, 3) := by decide +kernel
theorem dL_does_28 : decode cL_does 28 = .ok (.aload_n 0, 1) := by decide +kernel
theorem dL_does_29 : decode cL_does 29 = .ok (.iload_n 2, 1) := by decide +kernel
theorem dL_does_30 : decode cL_does 30 = .ok (.iload_n 3, 1) := by decide +kernel
theorem dL_does_31 : decode cL_does 31 = .ok (.invokevirtual 14, 3) := by decide +kernel
theorem dL_does_34 : decode cL_does 34 = .ok (.goto 258, 3) := by decide +kernel
theorem dL_does_37 : decode cL_does 37 = .ok (.iload_n 1, 1) := by decide +kernel
theorem dL_does_38 : decode cL_does 38 = .ok (.bipush 14, 2) := by decide +kernel
theorem dL_does_40 : decode cL_does 40 = .ok (.if_icmp .ne 12, 3) := by decide +kernel
theorem dL_does_43 : decode cL_does 43 = .ok (.aload_n 0, 1) := by decide +kernel
theorem dL_does_44 : decode cL_does 44 = .ok (.iload_n 2, 1) := by decide +kernel
theorem dL_does_45 : decode cL_does 45 = .ok (.iload_n 3, 1) := by decide +kernel
theorem dL_does_46 : decode cL_does 46 = .ok (.invokevirtual 20, 3) := by decide +kernel
theorem dL_does_49 : decode cL_does 49 = .ok (.goto 243, 3) := by decide +kernel
theorem dL_does_52 : decode cL_does 52 = .ok (.iload_n 1, 1) := by decide +kernel
theorem dL_does_53 : decode cL_does 53 = .ok (.bipush 15, 2) := by decide +kernel
theorem dL_does_55 : decode cL_does 55 = .ok (.if_icmp .ne 11, 3) := by decide +kernel
theorem dL_does_58 : decode cL_does 58 = .ok (.aload_n 0, 1) := by decide +kernel
theorem dL_does_59 : decode cL_does 59 = .ok (.iload_n 2, 1) := by decide +kernel
theorem dL_does_60 : decode cL_does 60 = .ok (.invokevirtual 23, 3) := by decide +kernel
theorem dL_does_63 : decode cL_does 63 = .ok (.goto 229, 3) := by decide +kernel
theorem dL_does_66 : decode cL_does 66 = .ok (.iload_n 1, 1) := by decide +kernel
theorem dL_does_67 : decode cL_does 67 = .ok (.bipush 16, 2) := by decide +kernel
theorem dL_does_69 : decode cL_does 69 = .ok (.if_icmp .ne 11, 3) := by decide +kernel
theorem dL_does_72 : decode cL_does 72 = .ok (.aload_n 0, 1) := by decide +kernel
theorem dL_does_73 : decode cL_does 73 = .ok (.iload_n 2, 1) := by decide +kernel
theorem dL_does_74 : decode cL_does 74 = .ok (.invokevirtual 27, 3) := by decide +kernel
theorem dL_does_77 : decode cL_does 77 = .ok (.goto 215, 3) := by decide +kernel
theorem dL_does_80 : decode cL_does 80 = .ok (.iload_n 1, 1) := by decide +kernel
theorem dL_does_81 : decode cL_does 81 = .ok (.bipush 17, 2) := by decide +kernel
theorem dL_does_83 : decode cL_does 83 = .ok (.if_icmp .ne 11, 3) := by decide +kernel
theorem dL_does_86 : decode cL_does 86 = .ok (.aload_n 0, 1) := by decide +kernel
theorem dL_does_87 : decode cL_does 87 = .ok (.iload_n 2, 1) := by decide +kernel
theorem dL_does_88 : decode cL_does 88 = .ok (.invokevirtual 30, 3) := by decide +kernel
theorem dL_does_91 : decode cL_does 91 = .ok (.goto 201, 3) := by decide +kernel
theorem dL_does_94 : decode cL_does 94 = .ok (.iload_n 1, 1) := by decide +kernel
theorem dL_does_95 : decode cL_does 95 = .ok (.bipush 18, 2) := by decide +kernel
theorem dL_does_97 : decode cL_does 97 = .ok (.if_icmp .ne 19, 3) := by decide +kernel
theorem dL_does_100 : decode cL_does 100 = .ok (.aload_n 0, 1) := by decide +kernel
theorem dL_does_101 : decode cL_does 101 = .ok (.iload_n 2, 1) := by decide +kernel
theorem dL_does_102 : decode cL_does 102 = .ok (.invokevirtual 33, 3) := by decide +kernel
theorem dL_does_105 : decode cL_does 105 = .ok (.ifCond .eq 7, 3) := by decide +kernel
theorem dL_does_108 : decode cL_does 108 = .ok (.iconst 1, 1) := by decide +kernel
theorem dL_does_109 : decode cL_does 109 = .ok (.goto 183, 3) := by decide +kernel
theorem dL_does_112 : decode cL_does 112 = .ok (.iconst 0, 1) := by decide +kernel
theorem dL_does_113 : decode cL_does 113 = .ok (.goto 179, 3) := by decide +kernel
theorem dL_does_116 : decode cL_does 116 = .ok (.iload_n 1, 1) := by decide +kernel
theorem dL_does_117 : decode cL_does 117 = .ok (.bipush 19, 2) := by decide +kernel
theorem dL_does_119 : decode cL_does 119 = .ok (.if_icmp .ne 12, 3) := by decide +kernel
theorem dL_does_122 : decode cL_does 122 = .ok (.aload_n 0, 1) := by decide +kernel
theorem dL_does_123 : decode cL_does 123 = .ok (.iload_n 2, 1) := by decide +kernel
theorem dL_does_124 : decode cL_does 124 = .ok (.iload_n 3, 1) := by decide +kernel
theorem dL_does_125 : decode cL_does 125 = .ok (.invokevirtual 37, 3) := by decide +kernel
theorem dL_does_128 : decode cL_does 128 = .ok (.goto 164, 3) := by decide +kernel
theorem dL_does_131 : decode cL_does 131 = .ok (.iload_n 1, 1) := by decide +kernel
theorem dL_does_132 : decode cL_does 132 = .ok (.bipush 20, 2) := by decide +kernel
theorem dL_does_134 : decode cL_does 134 = .ok (.if_icmp .ne 12, 3) := by decide +kernel
theorem dL_does_137 : decode cL_does 137 = .ok (.aload_n 0, 1) := by decide +kernel
theorem dL_does_138 : decode cL_does 138 = .ok (.iload_n 2, 1) := by decide +kernel
theorem dL_does_139 : decode cL_does 139 = .ok (.iload_n 3, 1) := by decide +kernel
theorem dL_does_140 : decode cL_does 140 = .ok (.invokevirtual 40, 3) := by decide +kernel
theorem dL_does_143 : decode cL_does 143 = .ok (.goto 149, 3) := by decide +kernel
theorem dL_does_146 : decode cL_does 146 = .ok (.iload_n 1, 1) := by decide +kernel
theorem dL_does_147 : decode cL_does 147 = .ok (.bipush 21, 2) := by decide +kernel
theorem dL_does_149 : decode cL_does 149 = .ok (.if_icmp .ne 12, 3) := by decide +kernel
theorem dL_does_152 : decode cL_does 152 = .ok (.aload_n 0, 1) := by decide +kernel
theorem dL_does_153 : decode cL_does 153 = .ok (.iload_n 2, 1) := by decide +kernel
theorem dL_does_154 : decode cL_does 154 = .ok (.iload_n 3, 1) := by decide +kernel
theorem dL_does_155 : decode cL_does 155 = .ok (.invokevirtual 43, 3) := by decide +kernel
theorem dL_does_158 : decode cL_does 158 = .ok (.goto 134, 3) := by decide +kernel
theorem dL_does_161 : decode cL_does 161 = .ok (.iload_n 1, 1) := by decide +kernel
theorem dL_does_162 : decode cL_does 162 = .ok (.bipush 22, 2) := by decide +kernel
theorem dL_does_164 : decode cL_does 164 = .ok (.if_icmp .ne 12, 3) := by decide +kernel
theorem dL_does_167 : decode cL_does 167 = .ok (.aload_n 0, 1) := by decide +kernel
theorem dL_does_168 : decode cL_does 168 = .ok (.iload_n 2, 1) := by decide +kernel
theorem dL_does_169 : decode cL_does 169 = .ok (.iload_n 3, 1) := by decide +kernel
theorem dL_does_170 : decode cL_does 170 = .ok (.invokevirtual 46, 3) := by decide +kernel
theorem dL_does_173 : decode cL_does 173 = .ok (.goto 119, 3) := by decide +kernel
theorem dL_does_176 : decode cL_does 176 = .ok (.iload_n 1, 1) := by decide +kernel
theorem dL_does_177 : decode cL_does 177 = .ok (.bipush 23, 2) := by decide +kernel
theorem dL_does_179 : decode cL_does 179 = .ok (.if_icmp .ne 12, 3) := by decide +kernel
theorem dL_does_182 : decode cL_does 182 = .ok (.aload_n 0, 1) := by decide +kernel
theorem dL_does_183 : decode cL_does 183 = .ok (.iload_n 2, 1) := by decide +kernel
theorem dL_does_184 : decode cL_does 184 = .ok (.iload_n 3, 1) := by decide +kernel
theorem dL_does_185 : decode cL_does 185 = .ok (.invokevirtual 49, 3) := by decide +kernel
theorem dL_does_188 : decode cL_does 188 = .ok (.goto 104, 3) := by decide +kernel
theorem dL_does_191 : decode cL_does 191 = .ok (.iload_n 1, 1) := by decide +kernel
theorem dL_does_192 : decode cL_does 192 = .ok (.bipush 24, 2) := by decide +kernel
theorem dL_does_194 : decode cL_does 194 = .ok (.if_icmp .ne 12, 3) := by decide +kernel
theorem dL_does_197 : decode cL_does 197 = .ok (.aload_n 0, 1) := by decide +kernel
theorem dL_does_198 : decode cL_does 198 = .ok (.iload_n 2, 1) := by decide +kernel
theorem dL_does_199 : decode cL_does 199 = .ok (.iload_n 3, 1) := by decide +kernel
theorem dL_does_200 : decode cL_does 200 = .ok (.invokevirtual 52, 3) := by decide +kernel
theorem dL_does_203 : decode cL_does 203 = .ok (.goto 89, 3) := by decide +kernel
theorem dL_does_206 : decode cL_does 206 = .ok (.iload_n 1, 1) := by decide +kernel
theorem dL_does_207 : decode cL_does 207 = .ok (.bipush 25, 2) := by decide +kernel
theorem dL_does_209 : decode cL_does 209 = .ok (.if_icmp .ne 11, 3) := by decide +kernel
theorem dL_does_212 : decode cL_does 212 = .ok (.aload_n 0, 1) := by decide +kernel
theorem dL_does_213 : decode cL_does 213 = .ok (.iload_n 2, 1) := by decide +kernel
theorem dL_does_214 : decode cL_does 214 = .ok (.invokevirtual 55, 3) := by decide +kernel
theorem dL_does_217 : decode cL_does 217 = .ok (.goto 75, 3) := by decide +kernel
theorem dL_does_220 : decode cL_does 220 = .ok (.iload_n 1, 1) := by decide +kernel
theorem dL_does_221 : decode cL_does 221 = .ok (.bipush 26, 2) := by decide +kernel
theorem dL_does_223 : decode cL_does 223 = .ok (.if_icmp .ne 12, 3) := by decide +kernel
theorem dL_does_226 : decode cL_does 226 = .ok (.aload_n 0, 1) := by decide +kernel
theorem dL_does_227 : decode cL_does 227 = .ok (.iload_n 2, 1) := by decide +kernel
theorem dL_does_228 : decode cL_does 228 = .ok (.iload_n 3, 1) := by decide +kernel
theorem dL_does_229 : decode cL_does 229 = .ok (.invokevirtual 58, 3) := by decide +kernel
theorem dL_does_232 : decode cL_does 232 = .ok (.goto 60, 3) := by decide +kernel
theorem dL_does_235 : decode cL_does 235 = .ok (.iload_n 1, 1) := by decide +kernel
theorem dL_does_236 : decode cL_does 236 = .ok (.bipush 27, 2) := by decide +kernel
theorem dL_does_238 : decode cL_does 238 = .ok (.if_icmp .ne 10, 3) := by decide +kernel
theorem dL_does_241 : decode cL_does 241 = .ok (.aload_n 0, 1) := by decide +kernel
theorem dL_does_242 : decode cL_does 242 = .ok (.invokevirtual 61, 3) := by decide +kernel
theorem dL_does_245 : decode cL_does 245 = .ok (.goto 47, 3) := by decide +kernel
theorem dL_does_248 : decode cL_does 248 = .ok (.iload_n 1, 1) := by decide +kernel
theorem dL_does_249 : decode cL_does 249 = .ok (.bipush 28, 2) := by decide +kernel
theorem dL_does_251 : decode cL_does 251 = .ok (.if_icmp .ne 20, 3) := by decide +kernel
theorem dL_does_254 : decode cL_does 254 = .ok (.aload_n 0, 1) := by decide +kernel
theorem dL_does_255 : decode cL_does 255 = .ok (.iload_n 2, 1) := by decide +kernel
theorem dL_does_256 : decode cL_does 256 = .ok (.iconst 1, 1) := by decide +kernel
theorem dL_does_257 : decode cL_does 257 = .ok (.if_icmp .ne 7, 3) := by decide +kernel
theorem dL_does_260 : decode cL_does 260 = .ok (.iconst 1, 1) := by decide +kernel
theorem dL_does_261 : decode cL_does 261 = .ok (.goto 4, 3) := by decide +kernel
theorem dL_does_264 : decode cL_does 264 = .ok (.iconst 0, 1) := by decide +kernel
theorem dL_does_265 : decode cL_does 265 = .ok (.invokevirtual 65, 3) := by decide +kernel
theorem dL_does_268 : decode cL_does 268 = .ok (.goto 24, 3) := by decide +kernel
theorem dL_does_271 : decode cL_does 271 = .ok (.iload_n 1, 1) := by decide +kernel
theorem dL_does_272 : decode cL_does 272 = .ok (.bipush 29, 2) := by decide +kernel
theorem dL_does_274 : decode cL_does 274 = .ok (.if_icmp .ne 12, 3) := by decide +kernel
theorem dL_does_277 : decode cL_does 277 = .ok (.aload_n 0, 1) := by decide +kernel
theorem dL_does_278 : decode cL_does 278 = .ok (.iload_n 2, 1) := by decide +kernel
theorem dL_does_279 : decode cL_does 279 = .ok (.iload_n 3, 1) := by decide +kernel
theorem dL_does_280 : decode cL_does 280 = .ok (.invokevirtual 69, 3) := by decide +kernel
theorem dL_does_283 : decode cL_does 283 = .ok (.goto 9, 3) := by decide +kernel
theorem dL_does_286 : decode cL_does 286 = .ok (.aload_n 0, 1) := by decide +kernel
theorem dL_does_287 : decode cL_does 287 = .ok (.iload_n 2, 1) := by decide +kernel
theorem dL_does_288 : decode cL_does 288 = .ok (.iload_n 3, 1) := by decide +kernel
theorem dL_does_289 : decode cL_does 289 = .ok (.invokevirtual 72, 3) := by decide +kernel
theorem dL_does_292 : decode cL_does 292 = .ok (.ireturn, 1) := by decide +kernel
theorem dL_does_293 : decode cL_does 293 = .ok (.astore 7, 2) := by decide +kernel
theorem dL_does_295 : decode cL_does 295 = .ok (.ldc 77, 2) := by decide +kernel
theorem dL_does_297 : decode cL_does 297 = .ok (.ireturn, 1) := by decide +kernel
theorem dL_does_298 : decode cL_does 298 = .ok (.astore 7, 2) := by decide +kernel
theorem dL_does_300 : decode cL_does 300 = .ok (.ldc 77, 2) := by decide +kernel
theorem dL_does_302 : decode cL_does 302 = .ok (.ireturn, 1) := by decide +kernel
theorem dL_does_303 : decode cL_does 303 = .ok (.astore 7, 2) := by decide +kernel
theorem dL_does_305 : decode cL_does 305 = .ok (.ldc 77, 2) := by decide +kernel
theorem dL_does_307 : decode cL_does 307 = .ok (.ireturn, 1) := by decide +kernel
theorem dL_tells_0 : decode cL_tells 0 = .ok (.iload_n 1, 1) := by decide +kernel
theorem dL_tells_1 : decode cL_tells 1 = .ok (.ifCond .ne 14, 3) := by decide +kernel
theorem dL_tells_4 : decode cL_tells 4 = .ok (.aload_n 0, 1) := by decide +kernel
theorem dL_tells_5 : decode cL_tells 5 = .ok (.iload_n 2, 1) := by decide +kernel
theorem dL_tells_6 : decode cL_tells 6 = .ok (.iload_n 3, 1) := by decide +kernel
theorem dL_tells_7 : decode cL_tells 7 = .ok (.iload 4, 2) := by decide +kernel
theorem dL_tells_9 : decode cL_tells 9 = .ok (.invokevirtual 82, 3) := by decide +kernel
theorem dL_tells_12 : decode cL_tells 12 = .ok (.goto 174, 3) := by decide +kernel
theorem dL_tells_15 : decode cL_tells 15 = .ok (.iload_n 1, 1) := by decide +kernel
theorem dL_tells_16 : decode cL_tells 16 = .ok (.iconst 1, 1) := by decide +kernel
theorem dL_tells_17 : decode cL_tells 17 = .ok (.if_icmp .ne 11, 3) := by decide +kernel
theorem dL_tells_20 : decode cL_tells 20 = .ok (.aload_n 0, 1) := by decide +kernel
theorem dL_tells_21 : decode cL_tells 21 = .ok (.iload_n 2, 1) := by decide +kernel
theorem dL_tells_22 : decode cL_tells 22 = .ok (.invokevirtual 86, 3) := by decide +kernel
theorem dL_tells_25 : decode cL_tells 25 = .ok (.goto 161, 3) := by decide +kernel
theorem dL_tells_28 : decode cL_tells 28 = .ok (.iload_n 1, 1) := by decide +kernel
theorem dL_tells_29 : decode cL_tells 29 = .ok (.iconst 2, 1) := by decide +kernel
theorem dL_tells_30 : decode cL_tells 30 = .ok (.if_icmp .ne 14, 3) := by decide +kernel
theorem dL_tells_33 : decode cL_tells 33 = .ok (.aload_n 0, 1) := by decide +kernel
theorem dL_tells_34 : decode cL_tells 34 = .ok (.iload_n 2, 1) := by decide +kernel
theorem dL_tells_35 : decode cL_tells 35 = .ok (.iload_n 3, 1) := by decide +kernel
theorem dL_tells_36 : decode cL_tells 36 = .ok (.iload 4, 2) := by decide +kernel
theorem dL_tells_38 : decode cL_tells 38 = .ok (.invokevirtual 89, 3) := by decide +kernel
theorem dL_tells_41 : decode cL_tells 41 = .ok (.goto 145, 3) := by decide +kernel
theorem dL_tells_44 : decode cL_tells 44 = .ok (.iload_n 1, 1) := by decide +kernel
theorem dL_tells_45 : decode cL_tells 45 = .ok (.iconst 3, 1) := by decide +kernel
theorem dL_tells_46 : decode cL_tells 46 = .ok (.if_icmp .ne 14, 3) := by decide +kernel
theorem dL_tells_49 : decode cL_tells 49 = .ok (.aload_n 0, 1) := by decide +kernel
theorem dL_tells_50 : decode cL_tells 50 = .ok (.iload_n 2, 1) := by decide +kernel
theorem dL_tells_51 : decode cL_tells 51 = .ok (.iload_n 3, 1) := by decide +kernel
theorem dL_tells_52 : decode cL_tells 52 = .ok (.iload 4, 2) := by decide +kernel
theorem dL_tells_54 : decode cL_tells 54 = .ok (.invokevirtual 92, 3) := by decide +kernel
theorem dL_tells_57 : decode cL_tells 57 = .ok (.goto 129, 3) := by decide +kernel
theorem dL_tells_60 : decode cL_tells 60 = .ok (.iload_n 1, 1) := by decide +kernel
theorem dL_tells_61 : decode cL_tells 61 = .ok (.iconst 4, 1) := by decide +kernel
theorem dL_tells_62 : decode cL_tells 62 = .ok (.if_icmp .ne 14, 3) := by decide +kernel
theorem dL_tells_65 : decode cL_tells 65 = .ok (.aload_n 0, 1) := by decide +kernel
theorem dL_tells_66 : decode cL_tells 66 = .ok (.iload_n 2, 1) := by decide +kernel
theorem dL_tells_67 : decode cL_tells 67 = .ok (.iload_n 3, 1) := by decide +kernel
theorem dL_tells_68 : decode cL_tells 68 = .ok (.iload 4, 2) := by decide +kernel
theorem dL_tells_70 : decode cL_tells 70 = .ok (.invokevirtual 95, 3) := by decide +kernel
theorem dL_tells_73 : decode cL_tells 73 = .ok (.goto 113, 3) := by decide +kernel
theorem dL_tells_76 : decode cL_tells 76 = .ok (.iload_n 1, 1) := by decide +kernel
theorem dL_tells_77 : decode cL_tells 77 = .ok (.iconst 5, 1) := by decide +kernel
theorem dL_tells_78 : decode cL_tells 78 = .ok (.if_icmp .ne 18, 3) := by decide +kernel
theorem dL_tells_81 : decode cL_tells 81 = .ok (.aload_n 0, 1) := by decide +kernel
theorem dL_tells_82 : decode cL_tells 82 = .ok (.iload_n 2, 1) := by decide +kernel
theorem dL_tells_83 : decode cL_tells 83 = .ok (.iload_n 3, 1) := by decide +kernel
theorem dL_tells_84 : decode cL_tells 84 = .ok (.iload 4, 2) := by decide +kernel
theorem dL_tells_86 : decode cL_tells 86 = .ok (.iload 5, 2) := by decide +kernel
theorem dL_tells_88 : decode cL_tells 88 = .ok (.iload 6, 2) := by decide +kernel
theorem dL_tells_90 : decode cL_tells 90 = .ok (.invokevirtual 98, 3) := by decide +kernel
theorem dL_tells_93 : decode cL_tells 93 = .ok (.goto 93, 3) := by decide +kernel
theorem dL_tells_96 : decode cL_tells 96 = .ok (.iload_n 1, 1) := by decide +kernel
theorem dL_tells_97 : decode cL_tells 97 = .ok (.bipush 6, 2) := by decide +kernel
theorem dL_tells_99 : decode cL_tells 99 = .ok (.if_icmp .ne 16, 3) := by decide +kernel
theorem dL_tells_102 : decode cL_tells 102 = .ok (.aload_n 0, 1) := by decide +kernel
theorem dL_tells_103 : decode cL_tells 103 = .ok (.iload_n 2, 1) := by decide +kernel
theorem dL_tells_104 : decode cL_tells 104 = .ok (.iload_n 3, 1) := by decide +kernel
theorem dL_tells_105 : decode cL_tells 105 = .ok (.iload 4, 2) := by decide +kernel
theorem dL_tells_107 : decode cL_tells 107 = .ok (.iload 5, 2) := by decide +kernel
theorem dL_tells_109 : decode cL_tells 109 = .ok (.invokevirtual 102, 3) := by decide +kernel
theorem dL_tells_112 : decode cL_tells 112 = .ok (.goto 74, 3) := by decide +kernel
theorem dL_tells_115 : decode cL_tells 115 = .ok (.iload_n 1, 1) := by decide +kernel
theorem dL_tells_116 : decode cL_tells 116 = .ok (.bipush 7, 2) := by decide +kernel
theorem dL_tells_118 : decode cL_tells 118 = .ok (.if_icmp .ne 11, 3) := by decide +kernel
theorem dL_tells_121 : decode cL_tells 121 = .ok (.aload_n 0, 1) := by decide +kernel
theorem dL_tells_122 : decode cL_tells 122 = .ok (.iload_n 2, 1) := by decide +kernel
theorem dL_tells_123 : decode cL_tells 123 = .ok (.invokevirtual 106, 3) := by decide +kernel
theorem dL_tells_126 : decode cL_tells 126 = .ok (.goto 60, 3) := by decide +kernel
theorem dL_tells_129 : decode cL_tells 129 = .ok (.iload_n 1, 1) := by decide +kernel
theorem dL_tells_130 : decode cL_tells 130 = .ok (.bipush 8, 2) := by decide +kernel
theorem dL_tells_132 : decode cL_tells 132 = .ok (.if_icmp .ne 10, 3) := by decide +kernel
theorem dL_tells_135 : decode cL_tells 135 = .ok (.aload_n 0, 1) := by decide +kernel
theorem dL_tells_136 : decode cL_tells 136 = .ok (.invokevirtual 109, 3) := by decide +kernel
theorem dL_tells_139 : decode cL_tells 139 = .ok (.goto 47, 3) := by decide +kernel
theorem dL_tells_142 : decode cL_tells 142 = .ok (.iload_n 1, 1) := by decide +kernel
theorem dL_tells_143 : decode cL_tells 143 = .ok (.bipush 9, 2) := by decide +kernel
theorem dL_tells_145 : decode cL_tells 145 = .ok (.if_icmp .ne 11, 3) := by decide +kernel
theorem dL_tells_148 : decode cL_tells 148 = .ok (.aload_n 0, 1) := by decide +kernel
theorem dL_tells_149 : decode cL_tells 149 = .ok (.iload_n 2, 1) := by decide +kernel
theorem dL_tells_150 : decode cL_tells 150 = .ok (.invokevirtual 112, 3) := by decide +kernel
theorem dL_tells_153 : decode cL_tells 153 = .ok (.goto 33, 3) := by decide +kernel
theorem dL_tells_156 : decode cL_tells 156 = .ok (.iload_n 1, 1) := by decide +kernel
theorem dL_tells_157 : decode cL_tells 157 = .ok (.bipush 10, 2) := by decide +kernel
theorem dL_tells_159 : decode cL_tells 159 = .ok (.if_icmp .ne 10, 3) := by decide +kernel
theorem dL_tells_162 : decode cL_tells 162 = .ok (.aload_n 0, 1) := by decide +kernel
theorem dL_tells_163 : decode cL_tells 163 = .ok (.invokevirtual 115, 3) := by decide +kernel
theorem dL_tells_166 : decode cL_tells 166 = .ok (.goto 20, 3) := by decide +kernel
theorem dL_tells_169 : decode cL_tells 169 = .ok (.iload_n 1, 1) := by decide +kernel
theorem dL_tells_170 : decode cL_tells 170 = .ok (.bipush 11, 2) := by decide +kernel
theorem dL_tells_172 : decode cL_tells 172 = .ok (.if_icmp .ne 10, 3) := by decide +kernel
theorem dL_tells_175 : decode cL_tells 175 = .ok (.aload_n 0, 1) := by decide +kernel
theorem dL_tells_176 : decode cL_tells 176 = .ok (.invokevirtual 118, 3) := by decide +kernel
theorem dL_tells_179 : decode cL_tells 179 = .ok (.goto 7, 3) := by decide +kernel
theorem dL_tells_182 : decode cL_tells 182 = .ok (.aload_n 0, 1) := by decide +kernel
theorem dL_tells_183 : decode cL_tells 183 = .ok (.invokevirtual 121, 3) := by decide +kernel
theorem dL_tells_186 : decode cL_tells 186 = .ok (.ireturn, 1) := by decide +kernel
theorem dL_act_0 : decode cL_act 0 = .ok (.iload_n 1, 1) := by decide +kernel
theorem dL_act_1 : decode cL_act 1 = .ok (.bipush 18, 2) := by decide +kernel
theorem dL_act_3 : decode cL_act 3 = .ok (.ishr, 1) := by decide +kernel
theorem dL_act_4 : decode cL_act 4 = .ok (.bipush 7, 2) := by decide +kernel
theorem dL_act_6 : decode cL_act 6 = .ok (.iand, 1) := by decide +kernel
theorem dL_act_7 : decode cL_act 7 = .ok (.bipush 7, 2) := by decide +kernel
theorem dL_act_9 : decode cL_act 9 = .ok (.if_icmp .ne 7, 3) := by decide +kernel
theorem dL_act_12 : decode cL_act 12 = .ok (.iconst 1, 1) := by decide +kernel
theorem dL_act_13 : decode cL_act 13 = .ok (.goto 4, 3) := by decide +kernel
theorem dL_act_16 : decode cL_act 16 = .ok (.iconst 0, 1) := by decide +kernel
theorem dL_act_17 : decode cL_act 17 = .ok (.istore_n 2, 1) := by decide +kernel
theorem dL_act_18 : decode cL_act 18 = .ok (.iload_n 1, 1) := by decide +kernel
theorem dL_act_19 : decode cL_act 19 = .ok (.bipush 40, 2) := by decide +kernel
theorem dL_act_21 : decode cL_act 21 = .ok (.invokestatic 124, 3) := by decide +kernel
theorem dL_act_24 : decode cL_act 24 = .ok (.istore_n 3, 1) := by decide +kernel
theorem dL_act_25 : decode cL_act 25 = .ok (.iload_n 1, 1) := by decide +kernel
theorem dL_act_26 : decode cL_act 26 = .ok (.bipush 6, 2) := by decide +kernel
theorem dL_act_28 : decode cL_act 28 = .ok (.ishr, 1) := by decide +kernel
theorem dL_act_29 : decode cL_act 29 = .ok (.istore 4, 2) := by decide +kernel
theorem dL_act_31 : decode cL_act 31 = .ok (.iload_n 3, 1) := by decide +kernel
theorem dL_act_32 : decode cL_act 32 = .ok (.bipush 8, 2) := by decide +kernel
theorem dL_act_34 : decode cL_act 34 = .ok (.if_icmp .ge 104, 3) := by decide +kernel
theorem dL_act_37 : decode cL_act 37 = .ok (.iload_n 3, 1) := by decide +kernel
theorem dL_act_38 : decode cL_act 38 = .ok (.bipush 7, 2) := by decide +kernel
theorem dL_act_40 : decode cL_act 40 = .ok (.if_icmp .ge 38, 3) := by decide +kernel
theorem dL_act_43 : decode cL_act 43 = .ok (.aload_n 0, 1) := by decide +kernel
theorem dL_act_44 : decode cL_act 44 = .ok (.iconst 1, 1) := by decide +kernel
theorem dL_act_45 : decode cL_act 45 = .ok (.iload_n 2, 1) := by decide +kernel
theorem dL_act_46 : decode cL_act 46 = .ok (.ifCond .eq 15, 3) := by decide +kernel
theorem dL_act_49 : decode cL_act 49 = .ok (.iload 4, 2) := by decide +kernel
theorem dL_act_51 : decode cL_act 51 = .ok (.bipush 13, 2) := by decide +kernel
theorem dL_act_53 : decode cL_act 53 = .ok (.invokestatic 124, 3) := by decide +kernel
theorem dL_act_56 : decode cL_act 56 = .ok (.iconst 1, 1) := by decide +kernel
theorem dL_act_57 : decode cL_act 57 = .ok (.isub, 1) := by decide +kernel
theorem dL_act_58 : decode cL_act 58 = .ok (.goto 10, 3) := by decide +kernel
theorem dL_act_61 : decode cL_act 61 = .ok (.iload 4, 2) := by decide +kernel
theorem dL_act_63 : decode cL_act 63 = .ok (.bipush 7, 2) := by decide +kernel
theorem dL_act_65 : decode cL_act 65 = .ok (.invokestatic 124, 3) := by decide +kernel
theorem dL_act_68 : decode cL_act 68 = .ok (.iconst 0, 1) := by decide +kernel
theorem dL_act_69 : decode cL_act 69 = .ok (.iconst 0, 1) := by decide +kernel
theorem dL_act_70 : decode cL_act 70 = .ok (.iconst 0, 1) := by decide +kernel
theorem dL_act_71 : decode cL_act 71 = .ok (.iconst 0, 1) := by decide +kernel
theorem dL_act_72 : decode cL_act 72 = .ok (.invokestatic 127, 3) := by decide +kernel
theorem dL_act_75 : decode cL_act 75 = .ok (.goto 62, 3) := by decide +kernel
theorem dL_act_78 : decode cL_act 78 = .ok (.aload_n 0, 1) := by decide +kernel
theorem dL_act_79 : decode cL_act 79 = .ok (.iconst 0, 1) := by decide +kernel
theorem dL_act_80 : decode cL_act 80 = .ok (.iload 4, 2) := by decide +kernel
theorem dL_act_82 : decode cL_act 82 = .ok (.iload_n 2, 1) := by decide +kernel
theorem dL_act_83 : decode cL_act 83 = .ok (.ifCond .eq 8, 3) := by decide +kernel
theorem dL_act_86 : decode cL_act 86 = .ok (.bipush 10, 2) := by decide +kernel
theorem dL_act_88 : decode cL_act 88 = .ok (.goto 5, 3) := by decide +kernel
theorem dL_act_91 : decode cL_act 91 = .ok (.bipush 8, 2) := by decide +kernel
theorem dL_act_93 : decode cL_act 93 = .ok (.invokestatic 124, 3) := by decide +kernel
theorem dL_act_96 : decode cL_act 96 = .ok (.iload 4, 2) := by decide +kernel
theorem dL_act_98 : decode cL_act 98 = .ok (.iconst 3, 1) := by decide +kernel
theorem dL_act_99 : decode cL_act 99 = .ok (.ishr, 1) := by decide +kernel
theorem dL_act_100 : decode cL_act 100 = .ok (.bipush 8, 2) := by decide +kernel
theorem dL_act_102 : decode cL_act 102 = .ok (.invokestatic 124, 3) := by decide +kernel
theorem dL_act_105 : decode cL_act 105 = .ok (.sipush 300, 3) := by decide +kernel
theorem dL_act_108 : decode cL_act 108 = .ok (.iload 4, 2) := by decide +kernel
theorem dL_act_110 : decode cL_act 110 = .ok (.bipush 6, 2) := by decide +kernel
theorem dL_act_112 : decode cL_act 112 = .ok (.ishr, 1) := by decide +kernel
theorem dL_act_113 : decode cL_act 113 = .ok (.sipush 2000, 3) := by decide +kernel
theorem dL_act_116 : decode cL_act 116 = .ok (.invokestatic 124, 3) := by decide +kernel
theorem dL_act_119 : decode cL_act 119 = .ok (.iadd, 1) := by decide +kernel
theorem dL_act_120 : decode cL_act 120 = .ok (.iload_n 2, 1) := by decide +kernel
theorem dL_act_121 : decode cL_act 121 = .ok (.ifCond .eq 9, 3) := by decide +kernel
theorem dL_act_124 : decode cL_act 124 = .ok (.sipush 200, 3) := by decide +kernel
theorem dL_act_127 : decode cL_act 127 = .ok (.goto 4, 3) := by decide +kernel
theorem dL_act_130 : decode cL_act 130 = .ok (.iconst 0, 1) := by decide +kernel
theorem dL_act_131 : decode cL_act 131 = .ok (.isub, 1) := by decide +kernel
theorem dL_act_132 : decode cL_act 132 = .ok (.iconst 0, 1) := by decide +kernel
theorem dL_act_133 : decode cL_act 133 = .ok (.iconst 0, 1) := by decide +kernel
theorem dL_act_134 : decode cL_act 134 = .ok (.invokestatic 127, 3) := by decide +kernel
theorem dL_act_137 : decode cL_act 137 = .ok (.ireturn, 1) := by decide +kernel
theorem dL_act_138 : decode cL_act 138 = .ok (.iload_n 3, 1) := by decide +kernel
theorem dL_act_139 : decode cL_act 139 = .ok (.bipush 24, 2) := by decide +kernel
theorem dL_act_141 : decode cL_act 141 = .ok (.if_icmp .ge 157, 3) := by decide +kernel
theorem dL_act_144 : decode cL_act 144 = .ok (.iload_n 3, 1) := by decide +kernel
theorem dL_act_145 : decode cL_act 145 = .ok (.bipush 14, 2) := by decide +kernel
theorem dL_act_147 : decode cL_act 147 = .ok (.if_icmp .ge 7, 3) := by decide +kernel
theorem dL_act_150 : decode cL_act 150 = .ok (.iconst 0, 1) := by decide +kernel
theorem dL_act_151 : decode cL_act 151 = .ok (.goto 55, 3) := by decide +kernel
theorem dL_act_154 : decode cL_act 154 = .ok (.iload_n 3, 1) := by decide +kernel
theorem dL_act_155 : decode cL_act 155 = .ok (.bipush 14, 2) := by decide +kernel
theorem dL_act_157 : decode cL_act 157 = .ok (.if_icmp .ne 7, 3) := by decide +kernel
theorem dL_act_160 : decode cL_act 160 = .ok (.iconst 1, 1) := by decide +kernel
theorem dL_act_161 : decode cL_act 161 = .ok (.goto 45, 3) := by decide +kernel
theorem dL_act_164 : decode cL_act 164 = .ok (.iload_n 3, 1) := by decide +kernel
theorem dL_act_165 : decode cL_act 165 = .ok (.bipush 15, 2) := by decide +kernel
theorem dL_act_167 : decode cL_act 167 = .ok (.if_icmp .ne 7, 3) := by decide +kernel
theorem dL_act_170 : decode cL_act 170 = .ok (.iconst 2, 1) := by decide +kernel
theorem dL_act_171 : decode cL_act 171 = .ok (.goto 35, 3) := by decide +kernel
theorem dL_act_174 : decode cL_act 174 = .ok (.iload_n 3, 1) := by decide +kernel
theorem dL_act_175 : decode cL_act 175 = .ok (.bipush 21, 2) := by decide +kernel
theorem dL_act_177 : decode cL_act 177 = .ok (.if_icmp .ge 7, 3) := by decide +kernel
theorem dL_act_180 : decode cL_act 180 = .ok (.iconst 3, 1) := by decide +kernel
theorem dL_act_181 : decode cL_act 181 = .ok (.goto 25, 3) := by decide +kernel
theorem dL_act_184 : decode cL_act 184 = .ok (.iload_n 3, 1) := by decide +kernel
theorem dL_act_185 : decode cL_act 185 = .ok (.bipush 21, 2) := by decide +kernel
theorem dL_act_187 : decode cL_act 187 = .ok (.if_icmp .ne 7, 3) := by decide +kernel
theorem dL_act_190 : decode cL_act 190 = .ok (.iconst 4, 1) := by decide +kernel
theorem dL_act_191 : decode cL_act 191 = .ok (.goto 15, 3) := by decide +kernel
theorem dL_act_194 : decode cL_act 194 = .ok (.iload_n 3, 1) := by decide +kernel
theorem dL_act_195 : decode cL_act 195 = .ok (.bipush 22, 2) := by decide +kernel
theorem dL_act_197 : decode cL_act 197 = .ok (.if_icmp .ne 7, 3) := by decide +kernel
theorem dL_act_200 : decode cL_act 200 = .ok (.iconst 5, 1) := by decide +kernel
theorem dL_act_201 : decode cL_act 201 = .ok (.goto 5, 3) := by decide +kernel
theorem dL_act_204 : decode cL_act 204 = .ok (.bipush 6, 2) := by decide +kernel
theorem dL_act_206 : decode cL_act 206 = .ok (.istore 5, 2) := by decide +kernel
theorem dL_act_208 : decode cL_act 208 = .ok (.aload_n 0, 1) := by decide +kernel
theorem dL_act_209 : decode cL_act 209 = .ok (.iconst 2, 1) := by decide +kernel
theorem dL_act_210 : decode cL_act 210 = .ok (.iload 5, 2) := by decide +kernel
theorem dL_act_212 : decode cL_act 212 = .ok (.iload 5, 2) := by decide +kernel
theorem dL_act_214 : decode cL_act 214 = .ok (.ifCond .ne 22, 3) := by decide +kernel
theorem dL_act_217 : decode cL_act 217 = .ok (.iload 4, 2) := by decide +kernel
theorem dL_act_219 : decode cL_act 219 = .ok (.iload_n 2, 1) := by decide +kernel
theorem dL_act_220 : decode cL_act 220 = .ok (.ifCond .eq 8, 3) := by decide +kernel
theorem dL_act_223 : decode cL_act 223 = .ok (.bipush 12, 2) := by decide +kernel
theorem dL_act_225 : decode cL_act 225 = .ok (.goto 5, 3) := by decide +kernel
theorem dL_act_228 : decode cL_act 228 = .ok (.bipush 7, 2) := by decide +kernel
theorem dL_act_230 : decode cL_act 230 = .ok (.invokestatic 124, 3) := by decide +kernel
theorem dL_act_233 : decode cL_act 233 = .ok (.goto 4, 3) := by decide +kernel
theorem dL_act_236 : decode cL_act 236 = .ok (.iconst (-1), 1) := by decide +kernel
theorem dL_act_237 : decode cL_act 237 = .ok (.iload 5, 2) := by decide +kernel
theorem dL_act_239 : decode cL_act 239 = .ok (.bipush 6, 2) := by decide +kernel
theorem dL_act_241 : decode cL_act 241 = .ok (.if_icmp .ne 9, 3) := by decide +kernel
theorem dL_act_244 : decode cL_act 244 = .ok (.sipush 300, 3) := by decide +kernel
theorem dL_act_247 : decode cL_act 247 = .ok (.goto 45, 3) := by decide +kernel
theorem dL_act_250 : decode cL_act 250 = .ok (.iload 5, 2) := by decide +kernel
theorem dL_act_252 : decode cL_act 252 = .ok (.iconst 3, 1) := by decide +kernel
theorem dL_act_253 : decode cL_act 253 = .ok (.if_icmp .ge 17, 3) := by decide +kernel
theorem dL_act_256 : decode cL_act 256 = .ok (.iconst 1, 1) := by decide +kernel
theorem dL_act_257 : decode cL_act 257 = .ok (.iload 4, 2) := by decide +kernel
theorem dL_act_259 : decode cL_act 259 = .ok (.iconst 4, 1) := by decide +kernel
theorem dL_act_260 : decode cL_act 260 = .ok (.ishr, 1) := by decide +kernel
theorem dL_act_261 : decode cL_act 261 = .ok (.bipush 60, 2) := by decide +kernel
theorem dL_act_263 : decode cL_act 263 = .ok (.invokestatic 124, 3) := by decide +kernel
theorem dL_act_266 : decode cL_act 266 = .ok (.iadd, 1) := by decide +kernel
theorem dL_act_267 : decode cL_act 267 = .ok (.goto 25, 3) := by decide +kernel
theorem dL_act_270 : decode cL_act 270 = .ok (.bipush 61, 2) := by decide +kernel
theorem dL_act_272 : decode cL_act 272 = .ok (.iload 4, 2) := by decide +kernel
theorem dL_act_274 : decode cL_act 274 = .ok (.iconst 4, 1) := by decide +kernel
theorem dL_act_275 : decode cL_act 275 = .ok (.ishr, 1) := by decide +kernel
theorem dL_act_276 : decode cL_act 276 = .ok (.iload_n 2, 1) := by decide +kernel
theorem dL_act_277 : decode cL_act 277 = .ok (.ifCond .eq 9, 3) := by decide +kernel
theorem dL_act_280 : decode cL_act 280 = .ok (.sipush 300, 3) := by decide +kernel
theorem dL_act_283 : decode cL_act 283 = .ok (.goto 5, 3) := by decide +kernel
theorem dL_act_286 : decode cL_act 286 = .ok (.bipush 100, 2) := by decide +kernel
theorem dL_act_288 : decode cL_act 288 = .ok (.invokestatic 124, 3) := by decide +kernel
theorem dL_act_291 : decode cL_act 291 = .ok (.iadd, 1) := by decide +kernel
theorem dL_act_292 : decode cL_act 292 = .ok (.iconst 0, 1) := by decide +kernel
theorem dL_act_293 : decode cL_act 293 = .ok (.iconst 0, 1) := by decide +kernel
theorem dL_act_294 : decode cL_act 294 = .ok (.invokestatic 127, 3) := by decide +kernel
theorem dL_act_297 : decode cL_act 297 = .ok (.ireturn, 1) := by decide +kernel
theorem dL_act_298 : decode cL_act 298 = .ok (.iload_n 3, 1) := by decide +kernel
theorem dL_act_299 : decode cL_act 299 = .ok (.bipush 28, 2) := by decide +kernel
theorem dL_act_301 : decode cL_act 301 = .ok (.if_icmp .ge 104, 3) := by decide +kernel
theorem dL_act_304 : decode cL_act 304 = .ok (.iload_n 3, 1) := by decide +kernel
theorem dL_act_305 : decode cL_act 305 = .ok (.bipush 26, 2) := by decide +kernel
theorem dL_act_307 : decode cL_act 307 = .ok (.if_icmp .ge 57, 3) := by decide +kernel
theorem dL_act_310 : decode cL_act 310 = .ok (.aload_n 0, 1) := by decide +kernel
theorem dL_act_311 : decode cL_act 311 = .ok (.iconst 3, 1) := by decide +kernel
theorem dL_act_312 : decode cL_act 312 = .ok (.iload_n 2, 1) := by decide +kernel
theorem dL_act_313 : decode cL_act 313 = .ok (.ifCond .eq 14, 3) := by decide +kernel
theorem dL_act_316 : decode cL_act 316 = .ok (.iload 4, 2) := by decide +kernel
theorem dL_act_318 : decode cL_act 318 = .ok (.iconst 4, 1) := by decide +kernel
theorem dL_act_319 : decode cL_act 319 = .ok (.invokestatic 124, 3) := by decide +kernel
theorem dL_act_322 : decode cL_act 322 = .ok (.iconst 1, 1) := by decide +kernel
theorem dL_act_323 : decode cL_act 323 = .ok (.isub, 1) := by decide +kernel
theorem dL_act_324 : decode cL_act 324 = .ok (.goto 7, 3) := by decide +kernel
theorem dL_act_327 : decode cL_act 327 = .ok (.iload 4, 2) := by decide +kernel
theorem dL_act_329 : decode cL_act 329 = .ok (.iconst 1, 1) := by decide +kernel
theorem dL_act_330 : decode cL_act 330 = .ok (.iand, 1) := by decide +kernel
theorem dL_act_331 : decode cL_act 331 = .ok (.iload 4, 2) := by decide +kernel
theorem dL_act_333 : decode cL_act 333 = .ok (.iconst 1, 1) := by decide +kernel
theorem dL_act_334 : decode cL_act 334 = .ok (.ishr, 1) := by decide +kernel
theorem dL_act_335 : decode cL_act 335 = .ok (.bipush 10, 2) := by decide +kernel
theorem dL_act_337 : decode cL_act 337 = .ok (.invokestatic 124, 3) := by decide +kernel
theorem dL_act_340 : decode cL_act 340 = .ok (.iload 4, 2) := by decide +kernel
theorem dL_act_342 : decode cL_act 342 = .ok (.iconst 5, 1) := by decide +kernel
theorem dL_act_343 : decode cL_act 343 = .ok (.ishr, 1) := by decide +kernel
theorem dL_act_344 : decode cL_act 344 = .ok (.iload_n 2, 1) := by decide +kernel
theorem dL_act_345 : decode cL_act 345 = .ok (.ifCond .eq 7, 3) := by decide +kernel
theorem dL_act_348 : decode cL_act 348 = .ok (.iconst 5, 1) := by decide +kernel
theorem dL_act_349 : decode cL_act 349 = .ok (.goto 4, 3) := by decide +kernel
theorem dL_act_352 : decode cL_act 352 = .ok (.iconst 3, 1) := by decide +kernel
theorem dL_act_353 : decode cL_act 353 = .ok (.invokestatic 124, 3) := by decide +kernel
theorem dL_act_356 : decode cL_act 356 = .ok (.iconst 0, 1) := by decide +kernel
theorem dL_act_357 : decode cL_act 357 = .ok (.iconst 0, 1) := by decide +kernel
theorem dL_act_358 : decode cL_act 358 = .ok (.invokestatic 127, 3) := by decide +kernel
theorem dL_act_361 : decode cL_act 361 = .ok (.goto 43, 3) := by decide +kernel
theorem dL_act_364 : decode cL_act 364 = .ok (.aload_n 0, 1) := by decide +kernel
theorem dL_act_365 : decode cL_act 365 = .ok (.iconst 4, 1) := by decide +kernel
theorem dL_act_366 : decode cL_act 366 = .ok (.iload 4, 2) := by decide +kernel
theorem dL_act_368 : decode cL_act 368 = .ok (.iconst 1, 1) := by decide +kernel
theorem dL_act_369 : decode cL_act 369 = .ok (.iand, 1) := by decide +kernel
theorem dL_act_370 : decode cL_act 370 = .ok (.iload 4, 2) := by decide +kernel
theorem dL_act_372 : decode cL_act 372 = .ok (.iconst 1, 1) := by decide +kernel
theorem dL_act_373 : decode cL_act 373 = .ok (.ishr, 1) := by decide +kernel
theorem dL_act_374 : decode cL_act 374 = .ok (.iload_n 2, 1) := by decide +kernel
theorem dL_act_375 : decode cL_act 375 = .ok (.ifCond .eq 8, 3) := by decide +kernel
theorem dL_act_378 : decode cL_act 378 = .ok (.bipush 12, 2) := by decide +kernel
theorem dL_act_380 : decode cL_act 380 = .ok (.goto 5, 3) := by decide +kernel
theorem dL_act_383 : decode cL_act 383 = .ok (.bipush 7, 2) := by decide +kernel
theorem dL_act_385 : decode cL_act 385 = .ok (.invokestatic 124, 3) := by decide +kernel
theorem dL_act_388 : decode cL_act 388 = .ok (.bipush 7, 2) := by decide +kernel
theorem dL_act_390 : decode cL_act 390 = .ok (.iload 4, 2) := by decide +kernel
theorem dL_act_392 : decode cL_act 392 = .ok (.iconst 4, 1) := by decide +kernel
theorem dL_act_393 : decode cL_act 393 = .ok (.ishr, 1) := by decide +kernel
theorem dL_act_394 : decode cL_act 394 = .ok (.iconst 3, 1) := by decide +kernel
theorem dL_act_395 : decode cL_act 395 = .ok (.invokestatic 124, 3) := by decide +kernel
theorem dL_act_398 : decode cL_act 398 = .ok (.iadd, 1) := by decide +kernel
theorem dL_act_399 : decode cL_act 399 = .ok (.iconst 0, 1) := by decide +kernel
theorem dL_act_400 : decode cL_act 400 = .ok (.iconst 0, 1) := by decide +kernel
theorem dL_act_401 : decode cL_act 401 = .ok (.invokestatic 127, 3) := by decide +kernel
theorem dL_act_404 : decode cL_act 404 = .ok (.ireturn, 1) := by decide +kernel
theorem dL_act_405 : decode cL_act 405 = .ok (.iload_n 3, 1) := by decide +kernel
theorem dL_act_406 : decode cL_act 406 = .ok (.bipush 32, 2) := by decide +kernel
theorem dL_act_408 : decode cL_act 408 = .ok (.if_icmp .ge 116, 3) := by decide +kernel
theorem dL_act_411 : decode cL_act 411 = .ok (.iload 4, 2) := by decide +kernel
theorem dL_act_413 : decode cL_act 413 = .ok (.iload_n 2, 1) := by decide +kernel
theorem dL_act_414 : decode cL_act 414 = .ok (.ifCond .eq 8, 3) := by decide +kernel
theorem dL_act_417 : decode cL_act 417 = .ok (.bipush 8, 2) := by decide +kernel
theorem dL_act_419 : decode cL_act 419 = .ok (.goto 5, 3) := by decide +kernel
theorem dL_act_422 : decode cL_act 422 = .ok (.bipush 6, 2) := by decide +kernel
theorem dL_act_424 : decode cL_act 424 = .ok (.invokestatic 124, 3) := by decide +kernel
theorem dL_act_427 : decode cL_act 427 = .ok (.istore 5, 2) := by decide +kernel
theorem dL_act_429 : decode cL_act 429 = .ok (.iload 4, 2) := by decide +kernel
theorem dL_act_431 : decode cL_act 431 = .ok (.iconst 3, 1) := by decide +kernel
theorem dL_act_432 : decode cL_act 432 = .ok (.ishr, 1) := by decide +kernel
theorem dL_act_433 : decode cL_act 433 = .ok (.bipush 30, 2) := by decide +kernel
theorem dL_act_435 : decode cL_act 435 = .ok (.invokestatic 124, 3) := by decide +kernel
theorem dL_act_438 : decode cL_act 438 = .ok (.istore 6, 2) := by decide +kernel
theorem dL_act_440 : decode cL_act 440 = .ok (.iload 4, 2) := by decide +kernel
theorem dL_act_442 : decode cL_act 442 = .ok (.bipush 6, 2) := by decide +kernel
theorem dL_act_444 : decode cL_act 444 = .ok (.ishr, 1) := by decide +kernel
theorem dL_act_445 : decode cL_act 445 = .ok (.iconst 3, 1) := by decide +kernel
theorem dL_act_446 : decode cL_act 446 = .ok (.invokestatic 124, 3) := by decide +kernel
theorem dL_act_449 : decode cL_act 449 = .ok (.istore 7, 2) := by decide +kernel
theorem dL_act_451 : decode cL_act 451 = .ok (.iload 5, 2) := by decide +kernel
theorem dL_act_453 : decode cL_act 453 = .ok (.ifCond .ne 16, 3) := by decide +kernel
theorem dL_act_456 : decode cL_act 456 = .ok (.iload 4, 2) := by decide +kernel
theorem dL_act_458 : decode cL_act 458 = .ok (.bipush 8, 2) := by decide +kernel
theorem dL_act_460 : decode cL_act 460 = .ok (.ishr, 1) := by decide +kernel
theorem dL_act_461 : decode cL_act 461 = .ok (.bipush 8, 2) := by decide +kernel
theorem dL_act_463 : decode cL_act 463 = .ok (.invokestatic 124, 3) := by decide +kernel
theorem dL_act_466 : decode cL_act 466 = .ok (.goto 12, 3) := by decide +kernel
theorem dL_act_469 : decode cL_act 469 = .ok (.iload_n 2, 1) := by decide +kernel
theorem dL_act_470 : decode cL_act 470 = .ok (.ifCond .eq 7, 3) := by decide +kernel
theorem dL_act_473 : decode cL_act 473 = .ok (.iconst 0, 1) := by decide +kernel
theorem dL_act_474 : decode cL_act 474 = .ok (.goto 4, 3) := by decide +kernel
theorem dL_act_477 : decode cL_act 477 = .ok (.iconst (-1), 1) := by decide +kernel
theorem dL_act_478 : decode cL_act 478 = .ok (.istore 8, 2) := by decide +kernel
theorem dL_act_480 : decode cL_act 480 = .ok (.iload_n 3, 1) := by decide +kernel
theorem dL_act_481 : decode cL_act 481 = .ok (.bipush 30, 2) := by decide +kernel
theorem dL_act_483 : decode cL_act 483 = .ok (.if_icmp .ge 21, 3) := by decide +kernel
theorem dL_act_486 : decode cL_act 486 = .ok (.aload_n 0, 1) := by decide +kernel
theorem dL_act_487 : decode cL_act 487 = .ok (.bipush 6, 2) := by decide +kernel
theorem dL_act_489 : decode cL_act 489 = .ok (.iload 6, 2) := by decide +kernel
theorem dL_act_491 : decode cL_act 491 = .ok (.iload 7, 2) := by decide +kernel
theorem dL_act_493 : decode cL_act 493 = .ok (.iload 5, 2) := by decide +kernel
theorem dL_act_495 : decode cL_act 495 = .ok (.iload 8, 2) := by decide +kernel
theorem dL_act_497 : decode cL_act 497 = .ok (.iconst 0, 1) := by decide +kernel
theorem dL_act_498 : decode cL_act 498 = .ok (.invokestatic 127, 3) := by decide +kernel
theorem dL_act_501 : decode cL_act 501 = .ok (.goto 22, 3) := by decide +kernel
theorem dL_act_504 : decode cL_act 504 = .ok (.aload_n 0, 1) := by decide +kernel
theorem dL_act_505 : decode cL_act 505 = .ok (.iconst 5, 1) := by decide +kernel
theorem dL_act_506 : decode cL_act 506 = .ok (.iload 4, 2) := by decide +kernel
theorem dL_act_508 : decode cL_act 508 = .ok (.iconst 2, 1) := by decide +kernel
theorem dL_act_509 : decode cL_act 509 = .ok (.ishr, 1) := by decide +kernel
theorem dL_act_510 : decode cL_act 510 = .ok (.iconst 1, 1) := by decide +kernel
theorem dL_act_511 : decode cL_act 511 = .ok (.iand, 1) := by decide +kernel
theorem dL_act_512 : decode cL_act 512 = .ok (.iload 6, 2) := by decide +kernel
theorem dL_act_514 : decode cL_act 514 = .ok (.iload 7, 2) := by decide +kernel
theorem dL_act_516 : decode cL_act 516 = .ok (.iload 5, 2) := by decide +kernel
theorem dL_act_518 : decode cL_act 518 = .ok (.iload 8, 2) := by decide +kernel
theorem dL_act_520 : decode cL_act 520 = .ok (.invokestatic 127, 3) := by decide +kernel
theorem dL_act_523 : decode cL_act 523 = .ok (.ireturn, 1) := by decide +kernel
theorem dL_act_524 : decode cL_act 524 = .ok (.iload_n 3, 1) := by decide +kernel
theorem dL_act_525 : decode cL_act 525 = .ok (.bipush 35, 2) := by decide +kernel
theorem dL_act_527 : decode cL_act 527 = .ok (.if_icmp .ge 66, 3) := by decide +kernel
theorem dL_act_530 : decode cL_act 530 = .ok (.iload_n 3, 1) := by decide +kernel
theorem dL_act_531 : decode cL_act 531 = .ok (.bipush 32, 2) := by decide +kernel
theorem dL_act_533 : decode cL_act 533 = .ok (.if_icmp .ne 23, 3) := by decide +kernel
theorem dL_act_536 : decode cL_act 536 = .ok (.aload_n 0, 1) := by decide +kernel
theorem dL_act_537 : decode cL_act 537 = .ok (.bipush 7, 2) := by decide +kernel
theorem dL_act_539 : decode cL_act 539 = .ok (.iload 4, 2) := by decide +kernel
theorem dL_act_541 : decode cL_act 541 = .ok (.bipush 60, 2) := by decide +kernel
theorem dL_act_543 : decode cL_act 543 = .ok (.invokestatic 124, 3) := by decide +kernel
theorem dL_act_546 : decode cL_act 546 = .ok (.iconst 0, 1) := by decide +kernel
theorem dL_act_547 : decode cL_act 547 = .ok (.iconst 0, 1) := by decide +kernel
theorem dL_act_548 : decode cL_act 548 = .ok (.iconst 0, 1) := by decide +kernel
theorem dL_act_549 : decode cL_act 549 = .ok (.iconst 0, 1) := by decide +kernel
theorem dL_act_550 : decode cL_act 550 = .ok (.invokestatic 127, 3) := by decide +kernel
theorem dL_act_553 : decode cL_act 553 = .ok (.goto 39, 3) := by decide +kernel
theorem dL_act_556 : decode cL_act 556 = .ok (.iload_n 3, 1) := by decide +kernel
theorem dL_act_557 : decode cL_act 557 = .ok (.bipush 33, 2) := by decide +kernel
theorem dL_act_559 : decode cL_act 559 = .ok (.if_icmp .ne 17, 3) := by decide +kernel
theorem dL_act_562 : decode cL_act 562 = .ok (.aload_n 0, 1) := by decide +kernel
theorem dL_act_563 : decode cL_act 563 = .ok (.bipush 8, 2) := by decide +kernel
theorem dL_act_565 : decode cL_act 565 = .ok (.iconst 0, 1) := by decide +kernel
theorem dL_act_566 : decode cL_act 566 = .ok (.iconst 0, 1) := by decide +kernel
theorem dL_act_567 : decode cL_act 567 = .ok (.iconst 0, 1) := by decide +kernel
theorem dL_act_568 : decode cL_act 568 = .ok (.iconst 0, 1) := by decide +kernel
theorem dL_act_569 : decode cL_act 569 = .ok (.iconst 0, 1) := by decide +kernel
theorem dL_act_570 : decode cL_act 570 = .ok (.invokestatic 127, 3) := by decide +kernel
theorem dL_act_573 : decode cL_act 573 = .ok (.goto 19, 3) := by decide +kernel
theorem dL_act_576 : decode cL_act 576 = .ok (.aload_n 0, 1) := by decide +kernel
theorem dL_act_577 : decode cL_act 577 = .ok (.iconst 1, 1) := by decide +kernel
theorem dL_act_578 : decode cL_act 578 = .ok (.iload 4, 2) := by decide +kernel
theorem dL_act_580 : decode cL_act 580 = .ok (.bipush 10, 2) := by decide +kernel
theorem dL_act_582 : decode cL_act 582 = .ok (.invokestatic 124, 3) := by decide +kernel
theorem dL_act_585 : decode cL_act 585 = .ok (.iconst 0, 1) := by decide +kernel
theorem dL_act_586 : decode cL_act 586 = .ok (.iconst 0, 1) := by decide +kernel
theorem dL_act_587 : decode cL_act 587 = .ok (.iconst 0, 1) := by decide +kernel
theorem dL_act_588 : decode cL_act 588 = .ok (.iconst 0, 1) := by decide +kernel
theorem dL_act_589 : decode cL_act 589 = .ok (.invokestatic 127, 3) := by decide +kernel
theorem dL_act_592 : decode cL_act 592 = .ok (.ireturn, 1) := by decide +kernel
theorem dL_act_593 : decode cL_act 593 = .ok (.iload_n 3, 1) := by decide +kernel
theorem dL_act_594 : decode cL_act 594 = .ok (.bipush 35, 2) := by decide +kernel
theorem dL_act_596 : decode cL_act 596 = .ok (.if_icmp .ne 40, 3) := by decide +kernel
theorem dL_act_599 : decode cL_act 599 = .ok (.aload_n 0, 1) := by decide +kernel
theorem dL_act_600 : decode cL_act 600 = .ok (.bipush 24, 2) := by decide +kernel
theorem dL_act_602 : decode cL_act 602 = .ok (.iload 4, 2) := by decide +kernel
theorem dL_act_604 : decode cL_act 604 = .ok (.iload_n 2, 1) := by decide +kernel
theorem dL_act_605 : decode cL_act 605 = .ok (.ifCond .eq 8, 3) := by decide +kernel
theorem dL_act_608 : decode cL_act 608 = .ok (.bipush 10, 2) := by decide +kernel
theorem dL_act_610 : decode cL_act 610 = .ok (.goto 5, 3) := by decide +kernel
theorem dL_act_613 : decode cL_act 613 = .ok (.bipush 8, 2) := by decide +kernel
theorem dL_act_615 : decode cL_act 615 = .ok (.invokestatic 124, 3) := by decide +kernel
theorem dL_act_618 : decode cL_act 618 = .ok (.iload 4, 2) := by decide +kernel
theorem dL_act_620 : decode cL_act 620 = .ok (.iconst 3, 1) := by decide +kernel
theorem dL_act_621 : decode cL_act 621 = .ok (.ishr, 1) := by decide +kernel
theorem dL_act_622 : decode cL_act 622 = .ok (.bipush 24, 2) := by decide +kernel
theorem dL_act_624 : decode cL_act 624 = .ok (.invokestatic 124, 3) := by decide +kernel
theorem dL_act_627 : decode cL_act 627 = .ok (.iconst 0, 1) := by decide +kernel
theorem dL_act_628 : decode cL_act 628 = .ok (.iconst 0, 1) := by decide +kernel
theorem dL_act_629 : decode cL_act 629 = .ok (.iconst 0, 1) := by decide +kernel
theorem dL_act_630 : decode cL_act 630 = .ok (.invokestatic 127, 3) := by decide +kernel
theorem dL_act_633 : decode cL_act 633 = .ok (.goto 126, 3) := by decide +kernel
theorem dL_act_636 : decode cL_act 636 = .ok (.iload_n 3, 1) := by decide +kernel
theorem dL_act_637 : decode cL_act 637 = .ok (.bipush 36, 2) := by decide +kernel
theorem dL_act_639 : decode cL_act 639 = .ok (.if_icmp .ne 32, 3) := by decide +kernel
theorem dL_act_642 : decode cL_act 642 = .ok (.aload_n 0, 1) := by decide +kernel
theorem dL_act_643 : decode cL_act 643 = .ok (.bipush 25, 2) := by decide +kernel
theorem dL_act_645 : decode cL_act 645 = .ok (.iload 4, 2) := by decide +kernel
theorem dL_act_647 : decode cL_act 647 = .ok (.iload_n 2, 1) := by decide +kernel
theorem dL_act_648 : decode cL_act 648 = .ok (.ifCond .eq 8, 3) := by decide +kernel
theorem dL_act_651 : decode cL_act 651 = .ok (.bipush 30, 2) := by decide +kernel
theorem dL_act_653 : decode cL_act 653 = .ok (.goto 5, 3) := by decide +kernel
theorem dL_act_656 : decode cL_act 656 = .ok (.bipush 24, 2) := by decide +kernel
theorem dL_act_658 : decode cL_act 658 = .ok (.invokestatic 124, 3) := by decide +kernel
theorem dL_act_661 : decode cL_act 661 = .ok (.iconst 0, 1) := by decide +kernel
theorem dL_act_662 : decode cL_act 662 = .ok (.iconst 0, 1) := by decide +kernel
theorem dL_act_663 : decode cL_act 663 = .ok (.iconst 0, 1) := by decide +kernel
theorem dL_act_664 : decode cL_act 664 = .ok (.iconst 0, 1) := by decide +kernel
theorem dL_act_665 : decode cL_act 665 = .ok (.invokestatic 127, 3) := by decide +kernel
theorem dL_act_668 : decode cL_act 668 = .ok (.goto 91, 3) := by decide +kernel
theorem dL_act_671 : decode cL_act 671 = .ok (.iload_n 3, 1) := by decide +kernel
theorem dL_act_672 : decode cL_act 672 = .ok (.bipush 37, 2) := by decide +kernel
theorem dL_act_674 : decode cL_act 674 = .ok (.if_icmp .ne 51, 3) := by decide +kernel
theorem dL_act_677 : decode cL_act 677 = .ok (.aload_n 0, 1) := by decide +kernel
theorem dL_act_678 : decode cL_act 678 = .ok (.bipush 26, 2) := by decide +kernel
theorem dL_act_680 : decode cL_act 680 = .ok (.iload 4, 2) := by decide +kernel
theorem dL_act_682 : decode cL_act 682 = .ok (.bipush 8, 2) := by decide +kernel
theorem dL_act_684 : decode cL_act 684 = .ok (.invokestatic 124, 3) := by decide +kernel
theorem dL_act_687 : decode cL_act 687 = .ok (.iload_n 2, 1) := by decide +kernel
theorem dL_act_688 : decode cL_act 688 = .ok (.ifCond .eq 16, 3) := by decide +kernel
theorem dL_act_691 : decode cL_act 691 = .ok (.iload 4, 2) := by decide +kernel
theorem dL_act_693 : decode cL_act 693 = .ok (.iconst 3, 1) := by decide +kernel
theorem dL_act_694 : decode cL_act 694 = .ok (.ishr, 1) := by decide +kernel
theorem dL_act_695 : decode cL_act 695 = .ok (.sipush 1200, 3) := by decide +kernel
theorem dL_act_698 : decode cL_act 698 = .ok (.invokestatic 124, 3) := by decide +kernel
theorem dL_act_701 : decode cL_act 701 = .ok (.goto 15, 3) := by decide +kernel
theorem dL_act_704 : decode cL_act 704 = .ok (.bipush 10, 2) := by decide +kernel
theorem dL_act_706 : decode cL_act 706 = .ok (.iload 4, 2) := by decide +kernel
theorem dL_act_708 : decode cL_act 708 = .ok (.iconst 3, 1) := by decide +kernel
theorem dL_act_709 : decode cL_act 709 = .ok (.ishr, 1) := by decide +kernel
theorem dL_act_710 : decode cL_act 710 = .ok (.bipush 12, 2) := by decide +kernel
theorem dL_act_712 : decode cL_act 712 = .ok (.invokestatic 124, 3) := by decide +kernel
theorem dL_act_715 : decode cL_act 715 = .ok (.imul, 1) := by decide +kernel
theorem dL_act_716 : decode cL_act 716 = .ok (.iconst 0, 1) := by decide +kernel
theorem dL_act_717 : decode cL_act 717 = .ok (.iconst 0, 1) := by decide +kernel
theorem dL_act_718 : decode cL_act 718 = .ok (.iconst 0, 1) := by decide +kernel
theorem dL_act_719 : decode cL_act 719 = .ok (.invokestatic 127, 3) := by decide +kernel
theorem dL_act_722 : decode cL_act 722 = .ok (.goto 37, 3) := by decide +kernel
theorem dL_act_725 : decode cL_act 725 = .ok (.iload_n 3, 1) := by decide +kernel
theorem dL_act_726 : decode cL_act 726 = .ok (.bipush 38, 2) := by decide +kernel
theorem dL_act_728 : decode cL_act 728 = .ok (.if_icmp .ne 17, 3) := by decide +kernel
theorem dL_act_731 : decode cL_act 731 = .ok (.aload_n 0, 1) := by decide +kernel
theorem dL_act_732 : decode cL_act 732 = .ok (.bipush 27, 2) := by decide +kernel
theorem dL_act_734 : decode cL_act 734 = .ok (.iconst 0, 1) := by decide +kernel
theorem dL_act_735 : decode cL_act 735 = .ok (.iconst 0, 1) := by decide +kernel
theorem dL_act_736 : decode cL_act 736 = .ok (.iconst 0, 1) := by decide +kernel
theorem dL_act_737 : decode cL_act 737 = .ok (.iconst 0, 1) := by decide +kernel
theorem dL_act_738 : decode cL_act 738 = .ok (.iconst 0, 1) := by decide +kernel
theorem dL_act_739 : decode cL_act 739 = .ok (.invokestatic 127, 3) := by decide +kernel
theorem dL_act_742 : decode cL_act 742 = .ok (.goto 17, 3) := by decide +kernel
theorem dL_act_745 : decode cL_act 745 = .ok (.aload_n 0, 1) := by decide +kernel
theorem dL_act_746 : decode cL_act 746 = .ok (.bipush 28, 2) := by decide +kernel
theorem dL_act_748 : decode cL_act 748 = .ok (.iload 4, 2) := by decide +kernel
theorem dL_act_750 : decode cL_act 750 = .ok (.iconst 1, 1) := by decide +kernel
theorem dL_act_751 : decode cL_act 751 = .ok (.iand, 1) := by decide +kernel
theorem dL_act_752 : decode cL_act 752 = .ok (.iconst 0, 1) := by decide +kernel
theorem dL_act_753 : decode cL_act 753 = .ok (.iconst 0, 1) := by decide +kernel
theorem dL_act_754 : decode cL_act 754 = .ok (.iconst 0, 1) := by decide +kernel
theorem dL_act_755 : decode cL_act 755 = .ok (.iconst 0, 1) := by decide +kernel
theorem dL_act_756 : decode cL_act 756 = .ok (.invokestatic 127, 3) := by decide +kernel
theorem dL_act_759 : decode cL_act 759 = .ok (.ireturn, 1) := by decide +kernel
theorem dL_areAlike_0 : decode cL_areAlike 0 = .ok (.iconst 1, 1) := by decide +kernel
theorem dL_areAlike_1 : decode cL_areAlike 1 = .ok (.istore_n 3, 1) := by decide +kernel
theorem dL_areAlike_2 : decode cL_areAlike 2 = .ok (.iconst 0, 1) := by decide +kernel
theorem dL_areAlike_3 : decode cL_areAlike 3 = .ok (.istore 4, 2) := by decide +kernel
theorem dL_areAlike_5 : decode cL_areAlike 5 = .ok (.iload 4, 2) := by decide +kernel
theorem dL_areAlike_7 : decode cL_areAlike 7 = .ok (.bipush 20, 2) := by decide +kernel
theorem dL_areAlike_9 : decode cL_areAlike 9 = .ok (.if_icmp .ge 275, 3) := by decide +kernel
theorem dL_areAlike_12 : decode cL_areAlike 12 = .ok (.iload_n 3, 1) := by decide +kernel
theorem dL_areAlike_13 : decode cL_areAlike 13 = .ok (.ifCond .eq 271, 3) := by decide +kernel
theorem dL_areAlike_16 : decode cL_areAlike 16 = .ok (.iload 4, 2) := by decide +kernel
theorem dL_areAlike_18 : decode cL_areAlike 18 = .ok (.bipush 10, 2) := by decide +kernel
theorem dL_areAlike_20 : decode cL_areAlike 20 = .ok (.idiv, 1) := by decide +kernel
theorem dL_areAlike_21 : decode cL_areAlike 21 = .ok (.istore 5, 2) := by decide +kernel
theorem dL_areAlike_23 : decode cL_areAlike 23 = .ok (.aload_n 0, 1) := by decide +kernel
theorem dL_areAlike_24 : decode cL_areAlike 24 = .ok (.bipush 13, 2) := by decide +kernel
theorem dL_areAlike_26 : decode cL_areAlike 26 = .ok (.iload 5, 2) := by decide +kernel
theorem dL_areAlike_28 : decode cL_areAlike 28 = .ok (.iload 4, 2) := by decide +kernel
theorem dL_areAlike_30 : decode cL_areAlike 30 = .ok (.bipush 10, 2) := by decide +kernel
theorem dL_areAlike_32 : decode cL_areAlike 32 = .ok (.irem, 1) := by decide +kernel
theorem dL_areAlike_33 : decode cL_areAlike 33 = .ok (.iconst 0, 1) := by decide +kernel
theorem dL_areAlike_34 : decode cL_areAlike 34 = .ok (.iconst 0, 1) := by decide +kernel
theorem dL_areAlike_35 : decode cL_areAlike 35 = .ok (.iconst 0, 1) := by decide +kernel
theorem dL_areAlike_36 : decode cL_areAlike 36 = .ok (.invokestatic 127, 3) := by decide +kernel
theorem dL_areAlike_39 : decode cL_areAlike 39 = .ok (.aload_n 1, 1) := by decide +kernel
theorem dL_areAlike_40 : decode cL_areAlike 40 = .ok (.bipush 13, 2) := by decide +kernel
theorem dL_areAlike_42 : decode cL_areAlike 42 = .ok (.iload 5, 2) := by decide +kernel
theorem dL_areAlike_44 : decode cL_areAlike 44 = .ok (.iload 4, 2) := by decide +kernel
theorem dL_areAlike_46 : decode cL_areAlike 46 = .ok (.bipush 10, 2) := by decide +kernel
theorem dL_areAlike_48 : decode cL_areAlike 48 = .ok (.irem, 1) := by decide +kernel
theorem dL_areAlike_49 : decode cL_areAlike 49 = .ok (.iconst 0, 1) := by decide +kernel
theorem dL_areAlike_50 : decode cL_areAlike 50 = .ok (.iconst 0, 1) := by decide +kernel
theorem dL_areAlike_51 : decode cL_areAlike 51 = .ok (.iconst 0, 1) := by decide +kernel
theorem dL_areAlike_52 : decode cL_areAlike 52 = .ok (.invokestatic 127, 3) := by decide +kernel
theorem dL_areAlike_55 : decode cL_areAlike 55 = .ok (.if_icmp .ne 110, 3) := by decide +kernel
theorem dL_areAlike_58 : decode cL_areAlike 58 = .ok (.aload_n 0, 1) := by decide +kernel
theorem dL_areAlike_59 : decode cL_areAlike 59 = .ok (.bipush 22, 2) := by decide +kernel
theorem dL_areAlike_61 : decode cL_areAlike 61 = .ok (.iload 5, 2) := by decide +kernel
theorem dL_areAlike_63 : decode cL_areAlike 63 = .ok (.iload 4, 2) := by decide +kernel
theorem dL_areAlike_65 : decode cL_areAlike 65 = .ok (.bipush 10, 2) := by decide +kernel
theorem dL_areAlike_67 : decode cL_areAlike 67 = .ok (.irem, 1) := by decide +kernel
theorem dL_areAlike_68 : decode cL_areAlike 68 = .ok (.iconst 0, 1) := by decide +kernel
theorem dL_areAlike_69 : decode cL_areAlike 69 = .ok (.iconst 0, 1) := by decide +kernel
theorem dL_areAlike_70 : decode cL_areAlike 70 = .ok (.iconst 0, 1) := by decide +kernel
theorem dL_areAlike_71 : decode cL_areAlike 71 = .ok (.invokestatic 127, 3) := by decide +kernel
theorem dL_areAlike_74 : decode cL_areAlike 74 = .ok (.aload_n 1, 1) := by decide +kernel
theorem dL_areAlike_75 : decode cL_areAlike 75 = .ok (.bipush 22, 2) := by decide +kernel
theorem dL_areAlike_77 : decode cL_areAlike 77 = .ok (.iload 5, 2) := by decide +kernel
theorem dL_areAlike_79 : decode cL_areAlike 79 = .ok (.iload 4, 2) := by decide +kernel
theorem dL_areAlike_81 : decode cL_areAlike 81 = .ok (.bipush 10, 2) := by decide +kernel
theorem dL_areAlike_83 : decode cL_areAlike 83 = .ok (.irem, 1) := by decide +kernel
theorem dL_areAlike_84 : decode cL_areAlike 84 = .ok (.iconst 0, 1) := by decide +kernel
theorem dL_areAlike_85 : decode cL_areAlike 85 = .ok (.iconst 0, 1) := by decide +kernel
theorem dL_areAlike_86 : decode cL_areAlike 86 = .ok (.iconst 0, 1) := by decide +kernel
theorem dL_areAlike_87 : decode cL_areAlike 87 = .ok (.invokestatic 127, 3) := by decide +kernel
theorem dL_areAlike_90 : decode cL_areAlike 90 = .ok (.if_icmp .ne 75, 3) := by decide +kernel
theorem dL_areAlike_93 : decode cL_areAlike 93 = .ok (.aload_n 0, 1) := by decide +kernel
theorem dL_areAlike_94 : decode cL_areAlike 94 = .ok (.bipush 14, 2) := by decide +kernel
theorem dL_areAlike_96 : decode cL_areAlike 96 = .ok (.iload 5, 2) := by decide +kernel
theorem dL_areAlike_98 : decode cL_areAlike 98 = .ok (.iload 4, 2) := by decide +kernel
theorem dL_areAlike_100 : decode cL_areAlike 100 = .ok (.bipush 10, 2) := by decide +kernel
theorem dL_areAlike_102 : decode cL_areAlike 102 = .ok (.irem, 1) := by decide +kernel
theorem dL_areAlike_103 : decode cL_areAlike 103 = .ok (.iconst 0, 1) := by decide +kernel
theorem dL_areAlike_104 : decode cL_areAlike 104 = .ok (.iconst 0, 1) := by decide +kernel
theorem dL_areAlike_105 : decode cL_areAlike 105 = .ok (.iconst 0, 1) := by decide +kernel
theorem dL_areAlike_106 : decode cL_areAlike 106 = .ok (.invokestatic 127, 3) := by decide +kernel
theorem dL_areAlike_109 : decode cL_areAlike 109 = .ok (.aload_n 1, 1) := by decide +kernel
theorem dL_areAlike_110 : decode cL_areAlike 110 = .ok (.bipush 14, 2) := by decide +kernel
theorem dL_areAlike_112 : decode cL_areAlike 112 = .ok (.iload 5, 2) := by decide +kernel
theorem dL_areAlike_114 : decode cL_areAlike 114 = .ok (.iload 4, 2) := by decide +kernel
theorem dL_areAlike_116 : decode cL_areAlike 116 = .ok (.bipush 10, 2) := by decide +kernel
theorem dL_areAlike_118 : decode cL_areAlike 118 = .ok (.irem, 1) := by decide +kernel
theorem dL_areAlike_119 : decode cL_areAlike 119 = .ok (.iconst 0, 1) := by decide +kernel
theorem dL_areAlike_120 : decode cL_areAlike 120 = .ok (.iconst 0, 1) := by decide +kernel
theorem dL_areAlike_121 : decode cL_areAlike 121 = .ok (.iconst 0, 1) := by decide +kernel
theorem dL_areAlike_122 : decode cL_areAlike 122 = .ok (.invokestatic 127, 3) := by decide +kernel
theorem dL_areAlike_125 : decode cL_areAlike 125 = .ok (.if_icmp .ne 40, 3) := by decide +kernel
theorem dL_areAlike_128 : decode cL_areAlike 128 = .ok (.aload_n 0, 1) := by decide +kernel
theorem dL_areAlike_129 : decode cL_areAlike 129 = .ok (.bipush 17, 2) := by decide +kernel
theorem dL_areAlike_131 : decode cL_areAlike 131 = .ok (.iload 4, 2) := by decide +kernel
theorem dL_areAlike_133 : decode cL_areAlike 133 = .ok (.bipush 8, 2) := by decide +kernel
theorem dL_areAlike_135 : decode cL_areAlike 135 = .ok (.irem, 1) := by decide +kernel
theorem dL_areAlike_136 : decode cL_areAlike 136 = .ok (.iconst 0, 1) := by decide +kernel
theorem dL_areAlike_137 : decode cL_areAlike 137 = .ok (.iconst 0, 1) := by decide +kernel
theorem dL_areAlike_138 : decode cL_areAlike 138 = .ok (.iconst 0, 1) := by decide +kernel
theorem dL_areAlike_139 : decode cL_areAlike 139 = .ok (.iconst 0, 1) := by decide +kernel
theorem dL_areAlike_140 : decode cL_areAlike 140 = .ok (.invokestatic 127, 3) := by decide +kernel
theorem dL_areAlike_143 : decode cL_areAlike 143 = .ok (.aload_n 1, 1) := by decide +kernel
theorem dL_areAlike_144 : decode cL_areAlike 144 = .ok (.bipush 17, 2) := by decide +kernel
theorem dL_areAlike_146 : decode cL_areAlike 146 = .ok (.iload 4, 2) := by decide +kernel
theorem dL_areAlike_148 : decode cL_areAlike 148 = .ok (.bipush 8, 2) := by decide +kernel
theorem dL_areAlike_150 : decode cL_areAlike 150 = .ok (.irem, 1) := by decide +kernel
theorem dL_areAlike_151 : decode cL_areAlike 151 = .ok (.iconst 0, 1) := by decide +kernel
theorem dL_areAlike_152 : decode cL_areAlike 152 = .ok (.iconst 0, 1) := by decide +kernel
theorem dL_areAlike_153 : decode cL_areAlike 153 = .ok (.iconst 0, 1) := by decide +kernel
theorem dL_areAlike_154 : decode cL_areAlike 154 = .ok (.iconst 0, 1) := by decide +kernel
theorem dL_areAlike_155 : decode cL_areAlike 155 = .ok (.invokestatic 127, 3) := by decide +kernel
theorem dL_areAlike_158 : decode cL_areAlike 158 = .ok (.if_icmp .ne 7, 3) := by decide +kernel
theorem dL_areAlike_161 : decode cL_areAlike 161 = .ok (.iconst 1, 1) := by decide +kernel
theorem dL_areAlike_162 : decode cL_areAlike 162 = .ok (.goto 4, 3) := by decide +kernel
theorem dL_areAlike_165 : decode cL_areAlike 165 = .ok (.iconst 0, 1) := by decide +kernel
theorem dL_areAlike_166 : decode cL_areAlike 166 = .ok (.istore_n 3, 1) := by decide +kernel
theorem dL_areAlike_167 : decode cL_areAlike 167 = .ok (.iload_n 3, 1) := by decide +kernel
theorem dL_areAlike_168 : decode cL_areAlike 168 = .ok (.ifCond .eq 108, 3) := by decide +kernel
theorem dL_areAlike_171 : decode cL_areAlike 171 = .ok (.aload_n 0, 1) := by decide +kernel
theorem dL_areAlike_172 : decode cL_areAlike 172 = .ok (.bipush 19, 2) := by decide +kernel
theorem dL_areAlike_174 : decode cL_areAlike 174 = .ok (.iload_n 2, 1) := by decide +kernel
theorem dL_areAlike_175 : decode cL_areAlike 175 = .ok (.bipush 20, 2) := by decide +kernel
theorem dL_areAlike_177 : decode cL_areAlike 177 = .ok (.invokestatic 124, 3) := by decide +kernel
theorem dL_areAlike_180 : decode cL_areAlike 180 = .ok (.iload 5, 2) := by decide +kernel
theorem dL_areAlike_182 : decode cL_areAlike 182 = .ok (.iconst 0, 1) := by decide +kernel
theorem dL_areAlike_183 : decode cL_areAlike 183 = .ok (.iconst 0, 1) := by decide +kernel
theorem dL_areAlike_184 : decode cL_areAlike 184 = .ok (.iconst 0, 1) := by decide +kernel
theorem dL_areAlike_185 : decode cL_areAlike 185 = .ok (.invokestatic 127, 3) := by decide +kernel
theorem dL_areAlike_188 : decode cL_areAlike 188 = .ok (.aload_n 1, 1) := by decide +kernel
theorem dL_areAlike_189 : decode cL_areAlike 189 = .ok (.bipush 19, 2) := by decide +kernel
theorem dL_areAlike_191 : decode cL_areAlike 191 = .ok (.iload_n 2, 1) := by decide +kernel
theorem dL_areAlike_192 : decode cL_areAlike 192 = .ok (.bipush 20, 2) := by decide +kernel
theorem dL_areAlike_194 : decode cL_areAlike 194 = .ok (.invokestatic 124, 3) := by decide +kernel
theorem dL_areAlike_197 : decode cL_areAlike 197 = .ok (.iload 5, 2) := by decide +kernel
theorem dL_areAlike_199 : decode cL_areAlike 199 = .ok (.iconst 0, 1) := by decide +kernel
theorem dL_areAlike_200 : decode cL_areAlike 200 = .ok (.iconst 0, 1) := by decide +kernel
theorem dL_areAlike_201 : decode cL_areAlike 201 = .ok (.iconst 0, 1) := by decide +kernel
theorem dL_areAlike_202 : decode cL_areAlike 202 = .ok (.invokestatic 127, 3) := by decide +kernel
theorem dL_areAlike_205 : decode cL_areAlike 205 = .ok (.if_icmp .ne 71, 3) := by decide +kernel
theorem dL_areAlike_208 : decode cL_areAlike 208 = .ok (.aload_n 0, 1) := by decide +kernel
theorem dL_areAlike_209 : decode cL_areAlike 209 = .ok (.bipush 18, 2) := by decide +kernel
theorem dL_areAlike_211 : decode cL_areAlike 211 = .ok (.iload 5, 2) := by decide +kernel
theorem dL_areAlike_213 : decode cL_areAlike 213 = .ok (.iconst 0, 1) := by decide +kernel
theorem dL_areAlike_214 : decode cL_areAlike 214 = .ok (.iconst 0, 1) := by decide +kernel
theorem dL_areAlike_215 : decode cL_areAlike 215 = .ok (.iconst 0, 1) := by decide +kernel
theorem dL_areAlike_216 : decode cL_areAlike 216 = .ok (.iconst 0, 1) := by decide +kernel
theorem dL_areAlike_217 : decode cL_areAlike 217 = .ok (.invokestatic 127, 3) := by decide +kernel
theorem dL_areAlike_220 : decode cL_areAlike 220 = .ok (.aload_n 1, 1) := by decide +kernel
theorem dL_areAlike_221 : decode cL_areAlike 221 = .ok (.bipush 18, 2) := by decide +kernel
theorem dL_areAlike_223 : decode cL_areAlike 223 = .ok (.iload 5, 2) := by decide +kernel
theorem dL_areAlike_225 : decode cL_areAlike 225 = .ok (.iconst 0, 1) := by decide +kernel
theorem dL_areAlike_226 : decode cL_areAlike 226 = .ok (.iconst 0, 1) := by decide +kernel
theorem dL_areAlike_227 : decode cL_areAlike 227 = .ok (.iconst 0, 1) := by decide +kernel
theorem dL_areAlike_228 : decode cL_areAlike 228 = .ok (.iconst 0, 1) := by decide +kernel
theorem dL_areAlike_229 : decode cL_areAlike 229 = .ok (.invokestatic 127, 3) := by decide +kernel
theorem dL_areAlike_232 : decode cL_areAlike 232 = .ok (.if_icmp .ne 44, 3) := by decide +kernel
theorem dL_areAlike_235 : decode cL_areAlike 235 = .ok (.aload_n 0, 1) := by decide +kernel
theorem dL_areAlike_236 : decode cL_areAlike 236 = .ok (.bipush 21, 2) := by decide +kernel
theorem dL_areAlike_238 : decode cL_areAlike 238 = .ok (.iload_n 2, 1) := by decide +kernel
theorem dL_areAlike_239 : decode cL_areAlike 239 = .ok (.bipush 20, 2) := by decide +kernel
theorem dL_areAlike_241 : decode cL_areAlike 241 = .ok (.invokestatic 124, 3) := by decide +kernel
theorem dL_areAlike_244 : decode cL_areAlike 244 = .ok (.iload 5, 2) := by decide +kernel
theorem dL_areAlike_246 : decode cL_areAlike 246 = .ok (.iconst 0, 1) := by decide +kernel
theorem dL_areAlike_247 : decode cL_areAlike 247 = .ok (.iconst 0, 1) := by decide +kernel
theorem dL_areAlike_248 : decode cL_areAlike 248 = .ok (.iconst 0, 1) := by decide +kernel
theorem dL_areAlike_249 : decode cL_areAlike 249 = .ok (.invokestatic 127, 3) := by decide +kernel
theorem dL_areAlike_252 : decode cL_areAlike 252 = .ok (.aload_n 1, 1) := by decide +kernel
theorem dL_areAlike_253 : decode cL_areAlike 253 = .ok (.bipush 21, 2) := by decide +kernel
theorem dL_areAlike_255 : decode cL_areAlike 255 = .ok (.iload_n 2, 1) := by decide +kernel
theorem dL_areAlike_256 : decode cL_areAlike 256 = .ok (.bipush 20, 2) := by decide +kernel
theorem dL_areAlike_258 : decode cL_areAlike 258 = .ok (.invokestatic 124, 3) := by decide +kernel
theorem dL_areAlike_261 : decode cL_areAlike 261 = .ok (.iload 5, 2) := by decide +kernel
theorem dL_areAlike_263 : decode cL_areAlike 263 = .ok (.iconst 0, 1) := by decide +kernel
theorem dL_areAlike_264 : decode cL_areAlike 264 = .ok (.iconst 0, 1) := by decide +kernel
theorem dL_areAlike_265 : decode cL_areAlike 265 = .ok (.iconst 0, 1) := by decide +kernel
theorem dL_areAlike_266 : decode cL_areAlike 266 = .ok (.invokestatic 127, 3) := by decide +kernel
theorem dL_areAlike_269 : decode cL_areAlike 269 = .ok (.if_icmp .ne 7, 3) := by decide +kernel
theorem dL_areAlike_272 : decode cL_areAlike 272 = .ok (.iconst 1, 1) := by decide +kernel
theorem dL_areAlike_273 : decode cL_areAlike 273 = .ok (.goto 4, 3) := by decide +kernel
theorem dL_areAlike_276 : decode cL_areAlike 276 = .ok (.iconst 0, 1) := by decide +kernel
theorem dL_areAlike_277 : decode cL_areAlike 277 = .ok (.istore_n 3, 1) := by decide +kernel
theorem dL_areAlike_278 : decode cL_areAlike 278 = .ok (.iinc 4 1, 3) := by decide +kernel
theorem dL_areAlike_281 : decode cL_areAlike 281 = .ok (.goto (-276), 3) := by decide +kernel
theorem dL_areAlike_284 : decode cL_areAlike 284 = .ok (.iconst 0, 1) := by decide +kernel
theorem dL_areAlike_285 : decode cL_areAlike 285 = .ok (.istore 4, 2) := by decide +kernel
theorem dL_areAlike_287 : decode cL_areAlike 287 = .ok (.iload 4, 2) := by decide +kernel
theorem dL_areAlike_289 : decode cL_areAlike 289 = .ok (.bipush 56, 2) := by decide +kernel
theorem dL_areAlike_291 : decode cL_areAlike 291 = .ok (.if_icmp .ge 142, 3) := by decide +kernel
theorem dL_areAlike_294 : decode cL_areAlike 294 = .ok (.iload_n 3, 1) := by decide +kernel
theorem dL_areAlike_295 : decode cL_areAlike 295 = .ok (.ifCond .eq 138, 3) := by decide +kernel
theorem dL_areAlike_298 : decode cL_areAlike 298 = .ok (.aload_n 0, 1) := by decide +kernel
theorem dL_areAlike_299 : decode cL_areAlike 299 = .ok (.bipush 23, 2) := by decide +kernel
theorem dL_areAlike_301 : decode cL_areAlike 301 = .ok (.iload 4, 2) := by decide +kernel
theorem dL_areAlike_303 : decode cL_areAlike 303 = .ok (.bipush 7, 2) := by decide +kernel
theorem dL_areAlike_305 : decode cL_areAlike 305 = .ok (.idiv, 1) := by decide +kernel
theorem dL_areAlike_306 : decode cL_areAlike 306 = .ok (.iload 4, 2) := by decide +kernel
theorem dL_areAlike_308 : decode cL_areAlike 308 = .ok (.bipush 7, 2) := by decide +kernel
theorem dL_areAlike_310 : decode cL_areAlike 310 = .ok (.irem, 1) := by decide +kernel
theorem dL_areAlike_311 : decode cL_areAlike 311 = .ok (.iconst 0, 1) := by decide +kernel
theorem dL_areAlike_312 : decode cL_areAlike 312 = .ok (.iconst 0, 1) := by decide +kernel
theorem dL_areAlike_313 : decode cL_areAlike 313 = .ok (.iconst 0, 1) := by decide +kernel
theorem dL_areAlike_314 : decode cL_areAlike 314 = .ok (.invokestatic 127, 3) := by decide +kernel
theorem dL_areAlike_317 : decode cL_areAlike 317 = .ok (.aload_n 1, 1) := by decide +kernel
theorem dL_areAlike_318 : decode cL_areAlike 318 = .ok (.bipush 23, 2) := by decide +kernel
theorem dL_areAlike_320 : decode cL_areAlike 320 = .ok (.iload 4, 2) := by decide +kernel
theorem dL_areAlike_322 : decode cL_areAlike 322 = .ok (.bipush 7, 2) := by decide +kernel
theorem dL_areAlike_324 : decode cL_areAlike 324 = .ok (.idiv, 1) := by decide +kernel
theorem dL_areAlike_325 : decode cL_areAlike 325 = .ok (.iload 4, 2) := by decide +kernel
theorem dL_areAlike_327 : decode cL_areAlike 327 = .ok (.bipush 7, 2) := by decide +kernel
theorem dL_areAlike_329 : decode cL_areAlike 329 = .ok (.irem, 1) := by decide +kernel
theorem dL_areAlike_330 : decode cL_areAlike 330 = .ok (.iconst 0, 1) := by decide +kernel
theorem dL_areAlike_331 : decode cL_areAlike 331 = .ok (.iconst 0, 1) := by decide +kernel
theorem dL_areAlike_332 : decode cL_areAlike 332 = .ok (.iconst 0, 1) := by decide +kernel
theorem dL_areAlike_333 : decode cL_areAlike 333 = .ok (.invokestatic 127, 3) := by decide +kernel
theorem dL_areAlike_336 : decode cL_areAlike 336 = .ok (.if_icmp .ne 89, 3) := by decide +kernel
theorem dL_areAlike_339 : decode cL_areAlike 339 = .ok (.aload_n 0, 1) := by decide +kernel
theorem dL_areAlike_340 : decode cL_areAlike 340 = .ok (.bipush 29, 2) := by decide +kernel
theorem dL_areAlike_342 : decode cL_areAlike 342 = .ok (.iload 4, 2) := by decide +kernel
theorem dL_areAlike_344 : decode cL_areAlike 344 = .ok (.bipush 24, 2) := by decide +kernel
theorem dL_areAlike_346 : decode cL_areAlike 346 = .ok (.irem, 1) := by decide +kernel
theorem dL_areAlike_347 : decode cL_areAlike 347 = .ok (.iload 4, 2) := by decide +kernel
theorem dL_areAlike_349 : decode cL_areAlike 349 = .ok (.bipush 24, 2) := by decide +kernel
theorem dL_areAlike_351 : decode cL_areAlike 351 = .ok (.idiv, 1) := by decide +kernel
theorem dL_areAlike_352 : decode cL_areAlike 352 = .ok (.iconst 0, 1) := by decide +kernel
theorem dL_areAlike_353 : decode cL_areAlike 353 = .ok (.iconst 0, 1) := by decide +kernel
theorem dL_areAlike_354 : decode cL_areAlike 354 = .ok (.iconst 0, 1) := by decide +kernel
theorem dL_areAlike_355 : decode cL_areAlike 355 = .ok (.invokestatic 127, 3) := by decide +kernel
theorem dL_areAlike_358 : decode cL_areAlike 358 = .ok (.aload_n 1, 1) := by decide +kernel
theorem dL_areAlike_359 : decode cL_areAlike 359 = .ok (.bipush 29, 2) := by decide +kernel
theorem dL_areAlike_361 : decode cL_areAlike 361 = .ok (.iload 4, 2) := by decide +kernel
theorem dL_areAlike_363 : decode cL_areAlike 363 = .ok (.bipush 24, 2) := by decide +kernel
theorem dL_areAlike_365 : decode cL_areAlike 365 = .ok (.irem, 1) := by decide +kernel
theorem dL_areAlike_366 : decode cL_areAlike 366 = .ok (.iload 4, 2) := by decide +kernel
theorem dL_areAlike_368 : decode cL_areAlike 368 = .ok (.bipush 24, 2) := by decide +kernel
theorem dL_areAlike_370 : decode cL_areAlike 370 = .ok (.idiv, 1) := by decide +kernel
theorem dL_areAlike_371 : decode cL_areAlike 371 = .ok (.iconst 0, 1) := by decide +kernel
theorem dL_areAlike_372 : decode cL_areAlike 372 = .ok (.iconst 0, 1) := by decide +kernel
theorem dL_areAlike_373 : decode cL_areAlike 373 = .ok (.iconst 0, 1) := by decide +kernel
theorem dL_areAlike_374 : decode cL_areAlike 374 = .ok (.invokestatic 127, 3) := by decide +kernel
theorem dL_areAlike_377 : decode cL_areAlike 377 = .ok (.if_icmp .ne 48, 3) := by decide +kernel
theorem dL_areAlike_380 : decode cL_areAlike 380 = .ok (.aload_n 0, 1) := by decide +kernel
theorem dL_areAlike_381 : decode cL_areAlike 381 = .ok (.bipush 30, 2) := by decide +kernel
theorem dL_areAlike_383 : decode cL_areAlike 383 = .ok (.iload 4, 2) := by decide +kernel
theorem dL_areAlike_385 : decode cL_areAlike 385 = .ok (.bipush 8, 2) := by decide +kernel
theorem dL_areAlike_387 : decode cL_areAlike 387 = .ok (.irem, 1) := by decide +kernel
theorem dL_areAlike_388 : decode cL_areAlike 388 = .ok (.iload 4, 2) := by decide +kernel
theorem dL_areAlike_390 : decode cL_areAlike 390 = .ok (.bipush 24, 2) := by decide +kernel
theorem dL_areAlike_392 : decode cL_areAlike 392 = .ok (.idiv, 1) := by decide +kernel
theorem dL_areAlike_393 : decode cL_areAlike 393 = .ok (.iconst 0, 1) := by decide +kernel
theorem dL_areAlike_394 : decode cL_areAlike 394 = .ok (.iconst 0, 1) := by decide +kernel
theorem dL_areAlike_395 : decode cL_areAlike 395 = .ok (.iconst 0, 1) := by decide +kernel
theorem dL_areAlike_396 : decode cL_areAlike 396 = .ok (.invokestatic 127, 3) := by decide +kernel
theorem dL_areAlike_399 : decode cL_areAlike 399 = .ok (.aload_n 1, 1) := by decide +kernel
theorem dL_areAlike_400 : decode cL_areAlike 400 = .ok (.bipush 30, 2) := by decide +kernel
theorem dL_areAlike_402 : decode cL_areAlike 402 = .ok (.iload 4, 2) := by decide +kernel
theorem dL_areAlike_404 : decode cL_areAlike 404 = .ok (.bipush 8, 2) := by decide +kernel
theorem dL_areAlike_406 : decode cL_areAlike 406 = .ok (.irem, 1) := by decide +kernel
theorem dL_areAlike_407 : decode cL_areAlike 407 = .ok (.iload 4, 2) := by decide +kernel
theorem dL_areAlike_409 : decode cL_areAlike 409 = .ok (.bipush 24, 2) := by decide +kernel
theorem dL_areAlike_411 : decode cL_areAlike 411 = .ok (.idiv, 1) := by decide +kernel
theorem dL_areAlike_412 : decode cL_areAlike 412 = .ok (.iconst 0, 1) := by decide +kernel
theorem dL_areAlike_413 : decode cL_areAlike 413 = .ok (.iconst 0, 1) := by decide +kernel
theorem dL_areAlike_414 : decode cL_areAlike 414 = .ok (.iconst 0, 1) := by decide +kernel
theorem dL_areAlike_415 : decode cL_areAlike 415 = .ok (.invokestatic 127, 3) := by decide +kernel
theorem dL_areAlike_418 : decode cL_areAlike 418 = .ok (.if_icmp .ne 7, 3) := by decide +kernel
theorem dL_areAlike_421 : decode cL_areAlike 421 = .ok (.iconst 1, 1) := by decide +kernel
theorem dL_areAlike_422 : decode cL_areAlike 422 = .ok (.goto 4, 3) := by decide +kernel
theorem dL_areAlike_425 : decode cL_areAlike 425 = .ok (.iconst 0, 1) := by decide +kernel
theorem dL_areAlike_426 : decode cL_areAlike 426 = .ok (.istore_n 3, 1) := by decide +kernel
theorem dL_areAlike_427 : decode cL_areAlike 427 = .ok (.iinc 4 1, 3) := by decide +kernel
theorem dL_areAlike_430 : decode cL_areAlike 430 = .ok (.goto (-143), 3) := by decide +kernel
theorem dL_areAlike_433 : decode cL_areAlike 433 = .ok (.iload_n 3, 1) := by decide +kernel
theorem dL_areAlike_434 : decode cL_areAlike 434 = .ok (.ireturn, 1) := by decide +kernel
theorem dL_isInOrder_0 : decode cL_isInOrder 0 = .ok (.aload_n 0, 1) := by decide +kernel
theorem dL_isInOrder_1 : decode cL_isInOrder 1 = .ok (.bipush 17, 2) := by decide +kernel
theorem dL_isInOrder_3 : decode cL_isInOrder 3 = .ok (.iconst 0, 1) := by decide +kernel
theorem dL_isInOrder_4 : decode cL_isInOrder 4 = .ok (.iconst 0, 1) := by decide +kernel
theorem dL_isInOrder_5 : decode cL_isInOrder 5 = .ok (.iconst 0, 1) := by decide +kernel
theorem dL_isInOrder_6 : decode cL_isInOrder 6 = .ok (.iconst 0, 1) := by decide +kernel
theorem dL_isInOrder_7 : decode cL_isInOrder 7 = .ok (.iconst 0, 1) := by decide +kernel
theorem dL_isInOrder_8 : decode cL_isInOrder 8 = .ok (.invokestatic 127, 3) := by decide +kernel
theorem dL_isInOrder_11 : decode cL_isInOrder 11 = .ok (.ifCond .ge 5, 3) := by decide +kernel
theorem dL_isInOrder_14 : decode cL_isInOrder 14 = .ok (.iconst 1, 1) := by decide +kernel
theorem dL_isInOrder_15 : decode cL_isInOrder 15 = .ok (.ireturn, 1) := by decide +kernel
theorem dL_isInOrder_16 : decode cL_isInOrder 16 = .ok (.iconst 1, 1) := by decide +kernel
theorem dL_isInOrder_17 : decode cL_isInOrder 17 = .ok (.istore_n 1, 1) := by decide +kernel
theorem dL_isInOrder_18 : decode cL_isInOrder 18 = .ok (.aload_n 0, 1) := by decide +kernel
theorem dL_isInOrder_19 : decode cL_isInOrder 19 = .ok (.iconst 2, 1) := by decide +kernel
theorem dL_isInOrder_20 : decode cL_isInOrder 20 = .ok (.invokevirtual 30, 3) := by decide +kernel
theorem dL_isInOrder_23 : decode cL_isInOrder 23 = .ok (.aload_n 0, 1) := by decide +kernel
theorem dL_isInOrder_24 : decode cL_isInOrder 24 = .ok (.iconst 3, 1) := by decide +kernel
theorem dL_isInOrder_25 : decode cL_isInOrder 25 = .ok (.invokevirtual 30, 3) := by decide +kernel
theorem dL_isInOrder_28 : decode cL_isInOrder 28 = .ok (.isub, 1) := by decide +kernel
theorem dL_isInOrder_29 : decode cL_isInOrder 29 = .ok (.istore_n 2, 1) := by decide +kernel
theorem dL_isInOrder_30 : decode cL_isInOrder 30 = .ok (.iconst 0, 1) := by decide +kernel
theorem dL_isInOrder_31 : decode cL_isInOrder 31 = .ok (.istore_n 3, 1) := by decide +kernel
theorem dL_isInOrder_32 : decode cL_isInOrder 32 = .ok (.iload_n 3, 1) := by decide +kernel
theorem dL_isInOrder_33 : decode cL_isInOrder 33 = .ok (.iconst 2, 1) := by decide +kernel
theorem dL_isInOrder_34 : decode cL_isInOrder 34 = .ok (.if_icmp .ge 376, 3) := by decide +kernel
theorem dL_isInOrder_37 : decode cL_isInOrder 37 = .ok (.iload_n 1, 1) := by decide +kernel
theorem dL_isInOrder_38 : decode cL_isInOrder 38 = .ok (.ifCond .eq 372, 3) := by decide +kernel
theorem dL_isInOrder_41 : decode cL_isInOrder 41 = .ok (.iconst 0, 1) := by decide +kernel
theorem dL_isInOrder_42 : decode cL_isInOrder 42 = .ok (.istore 4, 2) := by decide +kernel
theorem dL_isInOrder_44 : decode cL_isInOrder 44 = .ok (.iconst 0, 1) := by decide +kernel
theorem dL_isInOrder_45 : decode cL_isInOrder 45 = .ok (.istore 5, 2) := by decide +kernel
theorem dL_isInOrder_47 : decode cL_isInOrder 47 = .ok (.iconst 0, 1) := by decide +kernel
theorem dL_isInOrder_48 : decode cL_isInOrder 48 = .ok (.istore 6, 2) := by decide +kernel
theorem dL_isInOrder_50 : decode cL_isInOrder 50 = .ok (.iconst 0, 1) := by decide +kernel
theorem dL_isInOrder_51 : decode cL_isInOrder 51 = .ok (.istore 7, 2) := by decide +kernel
theorem dL_isInOrder_53 : decode cL_isInOrder 53 = .ok (.iconst 0, 1) := by decide +kernel
theorem dL_isInOrder_54 : decode cL_isInOrder 54 = .ok (.istore 8, 2) := by decide +kernel
theorem dL_isInOrder_56 : decode cL_isInOrder 56 = .ok (.iload 8, 2) := by decide +kernel
theorem dL_isInOrder_58 : decode cL_isInOrder 58 = .ok (.bipush 10, 2) := by decide +kernel
theorem dL_isInOrder_60 : decode cL_isInOrder 60 = .ok (.if_icmp .ge 80, 3) := by decide +kernel
theorem dL_isInOrder_63 : decode cL_isInOrder 63 = .ok (.aload_n 0, 1) := by decide +kernel
theorem dL_isInOrder_64 : decode cL_isInOrder 64 = .ok (.iload_n 3, 1) := by decide +kernel
theorem dL_isInOrder_65 : decode cL_isInOrder 65 = .ok (.iload 8, 2) := by decide +kernel
theorem dL_isInOrder_67 : decode cL_isInOrder 67 = .ok (.invokevirtual 14, 3) := by decide +kernel
theorem dL_isInOrder_70 : decode cL_isInOrder 70 = .ok (.istore 9, 2) := by decide +kernel
theorem dL_isInOrder_72 : decode cL_isInOrder 72 = .ok (.iload 4, 2) := by decide +kernel
theorem dL_isInOrder_74 : decode cL_isInOrder 74 = .ok (.iload 9, 2) := by decide +kernel
theorem dL_isInOrder_76 : decode cL_isInOrder 76 = .ok (.ifCond .ne 10, 3) := by decide +kernel
theorem dL_isInOrder_79 : decode cL_isInOrder 79 = .ok (.iconst 1, 1) := by decide +kernel
theorem dL_isInOrder_80 : decode cL_isInOrder 80 = .ok (.iload 8, 2) := by decide +kernel
theorem dL_isInOrder_82 : decode cL_isInOrder 82 = .ok (.ishl, 1) := by decide +kernel
theorem dL_isInOrder_83 : decode cL_isInOrder 83 = .ok (.goto 4, 3) := by decide +kernel
theorem dL_isInOrder_86 : decode cL_isInOrder 86 = .ok (.iconst 0, 1) := by decide +kernel
theorem dL_isInOrder_87 : decode cL_isInOrder 87 = .ok (.ior, 1) := by decide +kernel
theorem dL_isInOrder_88 : decode cL_isInOrder 88 = .ok (.istore 4, 2) := by decide +kernel
theorem dL_isInOrder_90 : decode cL_isInOrder 90 = .ok (.iload 5, 2) := by decide +kernel
theorem dL_isInOrder_92 : decode cL_isInOrder 92 = .ok (.iload 9, 2) := by decide +kernel
theorem dL_isInOrder_94 : decode cL_isInOrder 94 = .ok (.iconst 2, 1) := by decide +kernel
theorem dL_isInOrder_95 : decode cL_isInOrder 95 = .ok (.if_icmp .ne 7, 3) := by decide +kernel
theorem dL_isInOrder_98 : decode cL_isInOrder 98 = .ok (.iconst 1, 1) := by decide +kernel
theorem dL_isInOrder_99 : decode cL_isInOrder 99 = .ok (.goto 4, 3) := by decide +kernel
theorem dL_isInOrder_102 : decode cL_isInOrder 102 = .ok (.iconst 0, 1) := by decide +kernel
theorem dL_isInOrder_103 : decode cL_isInOrder 103 = .ok (.iadd, 1) := by decide +kernel
theorem dL_isInOrder_104 : decode cL_isInOrder 104 = .ok (.istore 5, 2) := by decide +kernel
theorem dL_isInOrder_106 : decode cL_isInOrder 106 = .ok (.iload 6, 2) := by decide +kernel
theorem dL_isInOrder_108 : decode cL_isInOrder 108 = .ok (.iload 9, 2) := by decide +kernel
theorem dL_isInOrder_110 : decode cL_isInOrder 110 = .ok (.iconst 2, 1) := by decide +kernel
theorem dL_isInOrder_111 : decode cL_isInOrder 111 = .ok (.if_icmp .le 7, 3) := by decide +kernel
theorem dL_isInOrder_114 : decode cL_isInOrder 114 = .ok (.iconst 1, 1) := by decide +kernel
theorem dL_isInOrder_115 : decode cL_isInOrder 115 = .ok (.goto 4, 3) := by decide +kernel
theorem dL_isInOrder_118 : decode cL_isInOrder 118 = .ok (.iconst 0, 1) := by decide +kernel
theorem dL_isInOrder_119 : decode cL_isInOrder 119 = .ok (.iadd, 1) := by decide +kernel
theorem dL_isInOrder_120 : decode cL_isInOrder 120 = .ok (.istore 6, 2) := by decide +kernel
theorem dL_isInOrder_122 : decode cL_isInOrder 122 = .ok (.iload 7, 2) := by decide +kernel
theorem dL_isInOrder_124 : decode cL_isInOrder 124 = .ok (.aload_n 0, 1) := by decide +kernel
theorem dL_isInOrder_125 : decode cL_isInOrder 125 = .ok (.iload_n 3, 1) := by decide +kernel
theorem dL_isInOrder_126 : decode cL_isInOrder 126 = .ok (.iload 8, 2) := by decide +kernel
theorem dL_isInOrder_128 : decode cL_isInOrder 128 = .ok (.invokevirtual 46, 3) := by decide +kernel
theorem dL_isInOrder_131 : decode cL_isInOrder 131 = .ok (.iadd, 1) := by decide +kernel
theorem dL_isInOrder_132 : decode cL_isInOrder 132 = .ok (.istore 7, 2) := by decide +kernel
theorem dL_isInOrder_134 : decode cL_isInOrder 134 = .ok (.iinc 8 1, 3) := by decide +kernel
theorem dL_isInOrder_137 : decode cL_isInOrder 137 = .ok (.goto (-81), 3) := by decide +kernel
theorem dL_isInOrder_140 : decode cL_isInOrder 140 = .ok (.iconst 0, 1) := by decide +kernel
theorem dL_isInOrder_141 : decode cL_isInOrder 141 = .ok (.istore 8, 2) := by decide +kernel
theorem dL_isInOrder_143 : decode cL_isInOrder 143 = .ok (.iconst 0, 1) := by decide +kernel
theorem dL_isInOrder_144 : decode cL_isInOrder 144 = .ok (.istore 9, 2) := by decide +kernel
theorem dL_isInOrder_146 : decode cL_isInOrder 146 = .ok (.iconst 0, 1) := by decide +kernel
theorem dL_isInOrder_147 : decode cL_isInOrder 147 = .ok (.istore 10, 2) := by decide +kernel
theorem dL_isInOrder_149 : decode cL_isInOrder 149 = .ok (.iload 10, 2) := by decide +kernel
theorem dL_isInOrder_151 : decode cL_isInOrder 151 = .ok (.iload 5, 2) := by decide +kernel
theorem dL_isInOrder_153 : decode cL_isInOrder 153 = .ok (.if_icmp .ge 81, 3) := by decide +kernel
theorem dL_isInOrder_156 : decode cL_isInOrder 156 = .ok (.iload_n 1, 1) := by decide +kernel
theorem dL_isInOrder_157 : decode cL_isInOrder 157 = .ok (.ifCond .eq 77, 3) := by decide +kernel
theorem dL_isInOrder_160 : decode cL_isInOrder 160 = .ok (.aload_n 0, 1) := by decide +kernel
theorem dL_isInOrder_161 : decode cL_isInOrder 161 = .ok (.iload_n 3, 1) := by decide +kernel
theorem dL_isInOrder_162 : decode cL_isInOrder 162 = .ok (.iload 10, 2) := by decide +kernel
theorem dL_isInOrder_164 : decode cL_isInOrder 164 = .ok (.invokevirtual 20, 3) := by decide +kernel
theorem dL_isInOrder_167 : decode cL_isInOrder 167 = .ok (.istore 11, 2) := by decide +kernel
theorem dL_isInOrder_169 : decode cL_isInOrder 169 = .ok (.iload 11, 2) := by decide +kernel
theorem dL_isInOrder_171 : decode cL_isInOrder 171 = .ok (.ifCond .lt 18, 3) := by decide +kernel
theorem dL_isInOrder_174 : decode cL_isInOrder 174 = .ok (.aload_n 0, 1) := by decide +kernel
theorem dL_isInOrder_175 : decode cL_isInOrder 175 = .ok (.iload_n 3, 1) := by decide +kernel
theorem dL_isInOrder_176 : decode cL_isInOrder 176 = .ok (.iload 11, 2) := by decide +kernel
theorem dL_isInOrder_178 : decode cL_isInOrder 178 = .ok (.invokevirtual 14, 3) := by decide +kernel
theorem dL_isInOrder_181 : decode cL_isInOrder 181 = .ok (.iconst 2, 1) := by decide +kernel
theorem dL_isInOrder_182 : decode cL_isInOrder 182 = .ok (.if_icmp .ne 7, 3) := by decide +kernel
theorem dL_isInOrder_185 : decode cL_isInOrder 185 = .ok (.iconst 1, 1) := by decide +kernel
theorem dL_isInOrder_186 : decode cL_isInOrder 186 = .ok (.goto 4, 3) := by decide +kernel
theorem dL_isInOrder_189 : decode cL_isInOrder 189 = .ok (.iconst 0, 1) := by decide +kernel
theorem dL_isInOrder_190 : decode cL_isInOrder 190 = .ok (.istore_n 1, 1) := by decide +kernel
theorem dL_isInOrder_191 : decode cL_isInOrder 191 = .ok (.iload 9, 2) := by decide +kernel
theorem dL_isInOrder_193 : decode cL_isInOrder 193 = .ok (.iload_n 1, 1) := by decide +kernel
theorem dL_isInOrder_194 : decode cL_isInOrder 194 = .ok (.ifCond .eq 13, 3) := by decide +kernel
theorem dL_isInOrder_197 : decode cL_isInOrder 197 = .ok (.iload 8, 2) := by decide +kernel
theorem dL_isInOrder_199 : decode cL_isInOrder 199 = .ok (.iconst 1, 1) := by decide +kernel
theorem dL_isInOrder_200 : decode cL_isInOrder 200 = .ok (.iload 11, 2) := by decide +kernel
theorem dL_isInOrder_202 : decode cL_isInOrder 202 = .ok (.ishl, 1) := by decide +kernel
theorem dL_isInOrder_203 : decode cL_isInOrder 203 = .ok (.iand, 1) := by decide +kernel
theorem dL_isInOrder_204 : decode cL_isInOrder 204 = .ok (.goto 4, 3) := by decide +kernel
theorem dL_isInOrder_207 : decode cL_isInOrder 207 = .ok (.iconst 0, 1) := by decide +kernel
theorem dL_isInOrder_208 : decode cL_isInOrder 208 = .ok (.ior, 1) := by decide +kernel
theorem dL_isInOrder_209 : decode cL_isInOrder 209 = .ok (.istore 9, 2) := by decide +kernel
theorem dL_isInOrder_211 : decode cL_isInOrder 211 = .ok (.iload 8, 2) := by decide +kernel
theorem dL_isInOrder_213 : decode cL_isInOrder 213 = .ok (.iload_n 1, 1) := by decide +kernel
theorem dL_isInOrder_214 : decode cL_isInOrder 214 = .ok (.ifCond .eq 10, 3) := by decide +kernel
theorem dL_isInOrder_217 : decode cL_isInOrder 217 = .ok (.iconst 1, 1) := by decide +kernel
theorem dL_isInOrder_218 : decode cL_isInOrder 218 = .ok (.iload 11, 2) := by decide +kernel
theorem dL_isInOrder_220 : decode cL_isInOrder 220 = .ok (.ishl, 1) := by decide +kernel
theorem dL_isInOrder_221 : decode cL_isInOrder 221 = .ok (.goto 4, 3) := by decide +kernel
theorem dL_isInOrder_224 : decode cL_isInOrder 224 = .ok (.iconst 0, 1) := by decide +kernel
theorem dL_isInOrder_225 : decode cL_isInOrder 225 = .ok (.ior, 1) := by decide +kernel
theorem dL_isInOrder_226 : decode cL_isInOrder 226 = .ok (.istore 8, 2) := by decide +kernel
theorem dL_isInOrder_228 : decode cL_isInOrder 228 = .ok (.iinc 10 1, 3) := by decide +kernel
theorem dL_isInOrder_231 : decode cL_isInOrder 231 = .ok (.goto (-82), 3) := by decide +kernel
theorem dL_isInOrder_234 : decode cL_isInOrder 234 = .ok (.iload_n 1, 1) := by decide +kernel
theorem dL_isInOrder_235 : decode cL_isInOrder 235 = .ok (.ifCond .eq 58, 3) := by decide +kernel
theorem dL_isInOrder_238 : decode cL_isInOrder 238 = .ok (.iload 9, 2) := by decide +kernel
theorem dL_isInOrder_240 : decode cL_isInOrder 240 = .ok (.ifCond .ne 53, 3) := by decide +kernel
theorem dL_isInOrder_243 : decode cL_isInOrder 243 = .ok (.aload_n 0, 1) := by decide +kernel
theorem dL_isInOrder_244 : decode cL_isInOrder 244 = .ok (.iload_n 3, 1) := by decide +kernel
theorem dL_isInOrder_245 : decode cL_isInOrder 245 = .ok (.iload 5, 2) := by decide +kernel
theorem dL_isInOrder_247 : decode cL_isInOrder 247 = .ok (.invokevirtual 20, 3) := by decide +kernel
theorem dL_isInOrder_250 : decode cL_isInOrder 250 = .ok (.iconst (-1), 1) := by decide +kernel
theorem dL_isInOrder_251 : decode cL_isInOrder 251 = .ok (.if_icmp .ne 42, 3) := by decide +kernel
theorem dL_isInOrder_254 : decode cL_isInOrder 254 = .ok (.aload_n 0, 1) := by decide +kernel
theorem dL_isInOrder_255 : decode cL_isInOrder 255 = .ok (.iload_n 3, 1) := by decide +kernel
theorem dL_isInOrder_256 : decode cL_isInOrder 256 = .ok (.invokevirtual 23, 3) := by decide +kernel
theorem dL_isInOrder_259 : decode cL_isInOrder 259 = .ok (.aload_n 0, 1) := by decide +kernel
theorem dL_isInOrder_260 : decode cL_isInOrder 260 = .ok (.iload_n 3, 1) := by decide +kernel
theorem dL_isInOrder_261 : decode cL_isInOrder 261 = .ok (.iconst 0, 1) := by decide +kernel
theorem dL_isInOrder_262 : decode cL_isInOrder 262 = .ok (.invokevirtual 20, 3) := by decide +kernel
theorem dL_isInOrder_265 : decode cL_isInOrder 265 = .ok (.if_icmp .ne 28, 3) := by decide +kernel
theorem dL_isInOrder_268 : decode cL_isInOrder 268 = .ok (.iload 6, 2) := by decide +kernel
theorem dL_isInOrder_270 : decode cL_isInOrder 270 = .ok (.iconst 3, 1) := by decide +kernel
theorem dL_isInOrder_271 : decode cL_isInOrder 271 = .ok (.if_icmp .gt 22, 3) := by decide +kernel
theorem dL_isInOrder_274 : decode cL_isInOrder 274 = .ok (.iload 7, 2) := by decide +kernel
theorem dL_isInOrder_276 : decode cL_isInOrder 276 = .ok (.aload_n 0, 1) := by decide +kernel
theorem dL_isInOrder_277 : decode cL_isInOrder 277 = .ok (.iload_n 3, 1) := by decide +kernel
theorem dL_isInOrder_278 : decode cL_isInOrder 278 = .ok (.invokevirtual 27, 3) := by decide +kernel
theorem dL_isInOrder_281 : decode cL_isInOrder 281 = .ok (.if_icmp .gt 12, 3) := by decide +kernel
theorem dL_isInOrder_284 : decode cL_isInOrder 284 = .ok (.iload 4, 2) := by decide +kernel
theorem dL_isInOrder_286 : decode cL_isInOrder 286 = .ok (.ifCond .le 7, 3) := by decide +kernel
theorem dL_isInOrder_289 : decode cL_isInOrder 289 = .ok (.iconst 1, 1) := by decide +kernel
theorem dL_isInOrder_290 : decode cL_isInOrder 290 = .ok (.goto 4, 3) := by decide +kernel
theorem dL_isInOrder_293 : decode cL_isInOrder 293 = .ok (.iconst 0, 1) := by decide +kernel
theorem dL_isInOrder_294 : decode cL_isInOrder 294 = .ok (.istore_n 1, 1) := by decide +kernel
theorem dL_isInOrder_295 : decode cL_isInOrder 295 = .ok (.iload_n 1, 1) := by decide +kernel
theorem dL_isInOrder_296 : decode cL_isInOrder 296 = .ok (.ifCond .eq 40, 3) := by decide +kernel
theorem dL_isInOrder_299 : decode cL_isInOrder 299 = .ok (.iload_n 2, 1) := by decide +kernel
theorem dL_isInOrder_300 : decode cL_isInOrder 300 = .ok (.ifCond .eq 32, 3) := by decide +kernel
theorem dL_isInOrder_303 : decode cL_isInOrder 303 = .ok (.aload_n 0, 1) := by decide +kernel
theorem dL_isInOrder_304 : decode cL_isInOrder 304 = .ok (.iload_n 2, 1) := by decide +kernel
theorem dL_isInOrder_305 : decode cL_isInOrder 305 = .ok (.iconst 1, 1) := by decide +kernel
theorem dL_isInOrder_306 : decode cL_isInOrder 306 = .ok (.isub, 1) := by decide +kernel
theorem dL_isInOrder_307 : decode cL_isInOrder 307 = .ok (.iload_n 3, 1) := by decide +kernel
theorem dL_isInOrder_308 : decode cL_isInOrder 308 = .ok (.invokevirtual 37, 3) := by decide +kernel
theorem dL_isInOrder_311 : decode cL_isInOrder 311 = .ok (.iload 4, 2) := by decide +kernel
theorem dL_isInOrder_313 : decode cL_isInOrder 313 = .ok (.if_icmp .ne 23, 3) := by decide +kernel
theorem dL_isInOrder_316 : decode cL_isInOrder 316 = .ok (.aload_n 0, 1) := by decide +kernel
theorem dL_isInOrder_317 : decode cL_isInOrder 317 = .ok (.iload_n 2, 1) := by decide +kernel
theorem dL_isInOrder_318 : decode cL_isInOrder 318 = .ok (.iconst 1, 1) := by decide +kernel
theorem dL_isInOrder_319 : decode cL_isInOrder 319 = .ok (.isub, 1) := by decide +kernel
theorem dL_isInOrder_320 : decode cL_isInOrder 320 = .ok (.iload_n 3, 1) := by decide +kernel
theorem dL_isInOrder_321 : decode cL_isInOrder 321 = .ok (.invokevirtual 43, 3) := by decide +kernel
theorem dL_isInOrder_324 : decode cL_isInOrder 324 = .ok (.aload_n 0, 1) := by decide +kernel
theorem dL_isInOrder_325 : decode cL_isInOrder 325 = .ok (.iload_n 3, 1) := by decide +kernel
theorem dL_isInOrder_326 : decode cL_isInOrder 326 = .ok (.invokevirtual 27, 3) := by decide +kernel
theorem dL_isInOrder_329 : decode cL_isInOrder 329 = .ok (.if_icmp .ne 7, 3) := by decide +kernel
theorem dL_isInOrder_332 : decode cL_isInOrder 332 = .ok (.iconst 1, 1) := by decide +kernel
theorem dL_isInOrder_333 : decode cL_isInOrder 333 = .ok (.goto 4, 3) := by decide +kernel
theorem dL_isInOrder_336 : decode cL_isInOrder 336 = .ok (.iconst 0, 1) := by decide +kernel
theorem dL_isInOrder_337 : decode cL_isInOrder 337 = .ok (.istore_n 1, 1) := by decide +kernel
theorem dL_isInOrder_338 : decode cL_isInOrder 338 = .ok (.iconst 0, 1) := by decide +kernel
theorem dL_isInOrder_339 : decode cL_isInOrder 339 = .ok (.istore 10, 2) := by decide +kernel
theorem dL_isInOrder_341 : decode cL_isInOrder 341 = .ok (.iload 10, 2) := by decide +kernel
theorem dL_isInOrder_343 : decode cL_isInOrder 343 = .ok (.iload_n 2, 1) := by decide +kernel
theorem dL_isInOrder_344 : decode cL_isInOrder 344 = .ok (.if_icmp .ge 60, 3) := by decide +kernel
theorem dL_isInOrder_347 : decode cL_isInOrder 347 = .ok (.iload_n 1, 1) := by decide +kernel
theorem dL_isInOrder_348 : decode cL_isInOrder 348 = .ok (.ifCond .eq 56, 3) := by decide +kernel
theorem dL_isInOrder_351 : decode cL_isInOrder 351 = .ok (.aload_n 0, 1) := by decide +kernel
theorem dL_isInOrder_352 : decode cL_isInOrder 352 = .ok (.iload 10, 2) := by decide +kernel
theorem dL_isInOrder_354 : decode cL_isInOrder 354 = .ok (.iload_n 3, 1) := by decide +kernel
theorem dL_isInOrder_355 : decode cL_isInOrder 355 = .ok (.invokevirtual 37, 3) := by decide +kernel
theorem dL_isInOrder_358 : decode cL_isInOrder 358 = .ok (.aload_n 0, 1) := by decide +kernel
theorem dL_isInOrder_359 : decode cL_isInOrder 359 = .ok (.iload 10, 2) := by decide +kernel
theorem dL_isInOrder_361 : decode cL_isInOrder 361 = .ok (.iload_n 3, 1) := by decide +kernel
theorem dL_isInOrder_362 : decode cL_isInOrder 362 = .ok (.invokevirtual 40, 3) := by decide +kernel
theorem dL_isInOrder_365 : decode cL_isInOrder 365 = .ok (.if_icmp .ne 31, 3) := by decide +kernel
theorem dL_isInOrder_368 : decode cL_isInOrder 368 = .ok (.iload 10, 2) := by decide +kernel
theorem dL_isInOrder_370 : decode cL_isInOrder 370 = .ok (.ifCond .eq 22, 3) := by decide +kernel
theorem dL_isInOrder_373 : decode cL_isInOrder 373 = .ok (.aload_n 0, 1) := by decide +kernel
theorem dL_isInOrder_374 : decode cL_isInOrder 374 = .ok (.iload 10, 2) := by decide +kernel
theorem dL_isInOrder_376 : decode cL_isInOrder 376 = .ok (.iload_n 3, 1) := by decide +kernel
theorem dL_isInOrder_377 : decode cL_isInOrder 377 = .ok (.invokevirtual 43, 3) := by decide +kernel
theorem dL_isInOrder_380 : decode cL_isInOrder 380 = .ok (.aload_n 0, 1) := by decide +kernel
theorem dL_isInOrder_381 : decode cL_isInOrder 381 = .ok (.iload 10, 2) := by decide +kernel
theorem dL_isInOrder_383 : decode cL_isInOrder 383 = .ok (.iconst 1, 1) := by decide +kernel
theorem dL_isInOrder_384 : decode cL_isInOrder 384 = .ok (.isub, 1) := by decide +kernel
theorem dL_isInOrder_385 : decode cL_isInOrder 385 = .ok (.iload_n 3, 1) := by decide +kernel
theorem dL_isInOrder_386 : decode cL_isInOrder 386 = .ok (.invokevirtual 43, 3) := by decide +kernel
theorem dL_isInOrder_389 : decode cL_isInOrder 389 = .ok (.if_icmp .lt 7, 3) := by decide +kernel
theorem dL_isInOrder_392 : decode cL_isInOrder 392 = .ok (.iconst 1, 1) := by decide +kernel
theorem dL_isInOrder_393 : decode cL_isInOrder 393 = .ok (.goto 4, 3) := by decide +kernel
theorem dL_isInOrder_396 : decode cL_isInOrder 396 = .ok (.iconst 0, 1) := by decide +kernel
theorem dL_isInOrder_397 : decode cL_isInOrder 397 = .ok (.istore_n 1, 1) := by decide +kernel
theorem dL_isInOrder_398 : decode cL_isInOrder 398 = .ok (.iinc 10 1, 3) := by decide +kernel
theorem dL_isInOrder_401 : decode cL_isInOrder 401 = .ok (.goto (-60), 3) := by decide +kernel
theorem dL_isInOrder_404 : decode cL_isInOrder 404 = .ok (.iinc 3 1, 3) := by decide +kernel
theorem dL_isInOrder_407 : decode cL_isInOrder 407 = .ok (.goto (-375), 3) := by decide +kernel
theorem dL_isInOrder_410 : decode cL_isInOrder 410 = .ok (.iload_n 1, 1) := by decide +kernel
theorem dL_isInOrder_411 : decode cL_isInOrder 411 = .ok (.ifCond .eq 24, 3) := by decide +kernel
theorem dL_isInOrder_414 : decode cL_isInOrder 414 = .ok (.aload_n 0, 1) := by decide +kernel
theorem dL_isInOrder_415 : decode cL_isInOrder 415 = .ok (.iconst 1, 1) := by decide +kernel
theorem dL_isInOrder_416 : decode cL_isInOrder 416 = .ok (.invokevirtual 30, 3) := by decide +kernel
theorem dL_isInOrder_419 : decode cL_isInOrder 419 = .ok (.ifCond .lt 16, 3) := by decide +kernel
theorem dL_isInOrder_422 : decode cL_isInOrder 422 = .ok (.aload_n 0, 1) := by decide +kernel
theorem dL_isInOrder_423 : decode cL_isInOrder 423 = .ok (.iconst 1, 1) := by decide +kernel
theorem dL_isInOrder_424 : decode cL_isInOrder 424 = .ok (.invokevirtual 30, 3) := by decide +kernel
theorem dL_isInOrder_427 : decode cL_isInOrder 427 = .ok (.iconst 2, 1) := by decide +kernel
theorem dL_isInOrder_428 : decode cL_isInOrder 428 = .ok (.if_icmp .ge 7, 3) := by decide +kernel
theorem dL_isInOrder_431 : decode cL_isInOrder 431 = .ok (.iconst 1, 1) := by decide +kernel
theorem dL_isInOrder_432 : decode cL_isInOrder 432 = .ok (.goto 4, 3) := by decide +kernel
theorem dL_isInOrder_435 : decode cL_isInOrder 435 = .ok (.iconst 0, 1) := by decide +kernel
theorem dL_isInOrder_436 : decode cL_isInOrder 436 = .ok (.ireturn, 1) := by decide +kernel
theorem dL_isFair_0 : decode cL_isFair 0 = .ok (.iconst 1, 1) := by decide +kernel
theorem dL_isFair_1 : decode cL_isFair 1 = .ok (.istore_n 1, 1) := by decide +kernel
theorem dL_isFair_2 : decode cL_isFair 2 = .ok (.bipush 8, 2) := by decide +kernel
theorem dL_isFair_4 : decode cL_isFair 4 = .ok (.newarray .int, 2) := by decide +kernel
theorem dL_isFair_6 : decode cL_isFair 6 = .ok (.astore_n 2, 1) := by decide +kernel
theorem dL_isFair_7 : decode cL_isFair 7 = .ok (.bipush 8, 2) := by decide +kernel
theorem dL_isFair_9 : decode cL_isFair 9 = .ok (.newarray .int, 2) := by decide +kernel
theorem dL_isFair_11 : decode cL_isFair 11 = .ok (.astore_n 3, 1) := by decide +kernel
theorem dL_isFair_12 : decode cL_isFair 12 = .ok (.iconst 0, 1) := by decide +kernel
theorem dL_isFair_13 : decode cL_isFair 13 = .ok (.istore 4, 2) := by decide +kernel
theorem dL_isFair_15 : decode cL_isFair 15 = .ok (.iload 4, 2) := by decide +kernel
theorem dL_isFair_17 : decode cL_isFair 17 = .ok (.bipush 24, 2) := by decide +kernel
theorem dL_isFair_19 : decode cL_isFair 19 = .ok (.if_icmp .ge 95, 3) := by decide +kernel
theorem dL_isFair_22 : decode cL_isFair 22 = .ok (.aload_n 0, 1) := by decide +kernel
theorem dL_isFair_23 : decode cL_isFair 23 = .ok (.iload 4, 2) := by decide +kernel
theorem dL_isFair_25 : decode cL_isFair 25 = .ok (.iconst 0, 1) := by decide +kernel
theorem dL_isFair_26 : decode cL_isFair 26 = .ok (.invokevirtual 69, 3) := by decide +kernel
theorem dL_isFair_29 : decode cL_isFair 29 = .ok (.istore 5, 2) := by decide +kernel
theorem dL_isFair_31 : decode cL_isFair 31 = .ok (.iload_n 1, 1) := by decide +kernel
theorem dL_isFair_32 : decode cL_isFair 32 = .ok (.ifCond .eq 35, 3) := by decide +kernel
theorem dL_isFair_35 : decode cL_isFair 35 = .ok (.iload 5, 2) := by decide +kernel
theorem dL_isFair_37 : decode cL_isFair 37 = .ok (.ifCond .ge 7, 3) := by decide +kernel
theorem dL_isFair_40 : decode cL_isFair 40 = .ok (.iconst 1, 1) := by decide +kernel
theorem dL_isFair_41 : decode cL_isFair 41 = .ok (.goto 4, 3) := by decide +kernel
theorem dL_isFair_44 : decode cL_isFair 44 = .ok (.iconst 0, 1) := by decide +kernel
theorem dL_isFair_45 : decode cL_isFair 45 = .ok (.aload_n 0, 1) := by decide +kernel
theorem dL_isFair_46 : decode cL_isFair 46 = .ok (.iload 4, 2) := by decide +kernel
theorem dL_isFair_48 : decode cL_isFair 48 = .ok (.iconst 1, 1) := by decide +kernel
theorem dL_isFair_49 : decode cL_isFair 49 = .ok (.invokevirtual 69, 3) := by decide +kernel
theorem dL_isFair_52 : decode cL_isFair 52 = .ok (.ifCond .ge 7, 3) := by decide +kernel
theorem dL_isFair_55 : decode cL_isFair 55 = .ok (.iconst 1, 1) := by decide +kernel
theorem dL_isFair_56 : decode cL_isFair 56 = .ok (.goto 4, 3) := by decide +kernel
theorem dL_isFair_59 : decode cL_isFair 59 = .ok (.iconst 0, 1) := by decide +kernel
theorem dL_isFair_60 : decode cL_isFair 60 = .ok (.if_icmp .ne 7, 3) := by decide +kernel
theorem dL_isFair_63 : decode cL_isFair 63 = .ok (.iconst 1, 1) := by decide +kernel
theorem dL_isFair_64 : decode cL_isFair 64 = .ok (.goto 4, 3) := by decide +kernel
theorem dL_isFair_67 : decode cL_isFair 67 = .ok (.iconst 0, 1) := by decide +kernel
theorem dL_isFair_68 : decode cL_isFair 68 = .ok (.istore_n 1, 1) := by decide +kernel
theorem dL_isFair_69 : decode cL_isFair 69 = .ok (.iload 5, 2) := by decide +kernel
theorem dL_isFair_71 : decode cL_isFair 71 = .ok (.ifCond .lt 37, 3) := by decide +kernel
theorem dL_isFair_74 : decode cL_isFair 74 = .ok (.aload_n 2, 1) := by decide +kernel
theorem dL_isFair_75 : decode cL_isFair 75 = .ok (.iload 5, 2) := by decide +kernel
theorem dL_isFair_77 : decode cL_isFair 77 = .ok (.dup2, 1) := by decide +kernel
theorem dL_isFair_78 : decode cL_isFair 78 = .ok (.iaload, 1) := by decide +kernel
theorem dL_isFair_79 : decode cL_isFair 79 = .ok (.aload_n 0, 1) := by decide +kernel
theorem dL_isFair_80 : decode cL_isFair 80 = .ok (.iload 4, 2) := by decide +kernel
theorem dL_isFair_82 : decode cL_isFair 82 = .ok (.iconst 1, 1) := by decide +kernel
theorem dL_isFair_83 : decode cL_isFair 83 = .ok (.invokevirtual 69, 3) := by decide +kernel
theorem dL_isFair_86 : decode cL_isFair 86 = .ok (.iadd, 1) := by decide +kernel
theorem dL_isFair_87 : decode cL_isFair 87 = .ok (.iastore, 1) := by decide +kernel
theorem dL_isFair_88 : decode cL_isFair 88 = .ok (.aload_n 3, 1) := by decide +kernel
theorem dL_isFair_89 : decode cL_isFair 89 = .ok (.iload 5, 2) := by decide +kernel
theorem dL_isFair_91 : decode cL_isFair 91 = .ok (.dup2, 1) := by decide +kernel
theorem dL_isFair_92 : decode cL_isFair 92 = .ok (.iaload, 1) := by decide +kernel
theorem dL_isFair_93 : decode cL_isFair 93 = .ok (.iload 4, 2) := by decide +kernel
theorem dL_isFair_95 : decode cL_isFair 95 = .ok (.iconst 4, 1) := by decide +kernel
theorem dL_isFair_96 : decode cL_isFair 96 = .ok (.irem, 1) := by decide +kernel
theorem dL_isFair_97 : decode cL_isFair 97 = .ok (.ifCond .ne 8, 3) := by decide +kernel
theorem dL_isFair_100 : decode cL_isFair 100 = .ok (.bipush 101, 2) := by decide +kernel
theorem dL_isFair_102 : decode cL_isFair 102 = .ok (.goto 4, 3) := by decide +kernel
theorem dL_isFair_105 : decode cL_isFair 105 = .ok (.iconst 1, 1) := by decide +kernel
theorem dL_isFair_106 : decode cL_isFair 106 = .ok (.iadd, 1) := by decide +kernel
theorem dL_isFair_107 : decode cL_isFair 107 = .ok (.iastore, 1) := by decide +kernel
theorem dL_isFair_108 : decode cL_isFair 108 = .ok (.iinc 4 1, 3) := by decide +kernel
theorem dL_isFair_111 : decode cL_isFair 111 = .ok (.goto (-96), 3) := by decide +kernel
theorem dL_isFair_114 : decode cL_isFair 114 = .ok (.iconst 0, 1) := by decide +kernel
theorem dL_isFair_115 : decode cL_isFair 115 = .ok (.istore 4, 2) := by decide +kernel
theorem dL_isFair_117 : decode cL_isFair 117 = .ok (.iconst 0, 1) := by decide +kernel
theorem dL_isFair_118 : decode cL_isFair 118 = .ok (.istore 5, 2) := by decide +kernel
theorem dL_isFair_120 : decode cL_isFair 120 = .ok (.iconst 0, 1) := by decide +kernel
theorem dL_isFair_121 : decode cL_isFair 121 = .ok (.istore 6, 2) := by decide +kernel
theorem dL_isFair_123 : decode cL_isFair 123 = .ok (.iconst 0, 1) := by decide +kernel
theorem dL_isFair_124 : decode cL_isFair 124 = .ok (.istore 7, 2) := by decide +kernel
theorem dL_isFair_126 : decode cL_isFair 126 = .ok (.iload 7, 2) := by decide +kernel
theorem dL_isFair_128 : decode cL_isFair 128 = .ok (.bipush 8, 2) := by decide +kernel
theorem dL_isFair_130 : decode cL_isFair 130 = .ok (.if_icmp .ge 226, 3) := by decide +kernel
theorem dL_isFair_133 : decode cL_isFair 133 = .ok (.iload_n 1, 1) := by decide +kernel
theorem dL_isFair_134 : decode cL_isFair 134 = .ok (.ifCond .eq 92, 3) := by decide +kernel
theorem dL_isFair_137 : decode cL_isFair 137 = .ok (.aload_n 0, 1) := by decide +kernel
theorem dL_isFair_138 : decode cL_isFair 138 = .ok (.iload 7, 2) := by decide +kernel
theorem dL_isFair_140 : decode cL_isFair 140 = .ok (.iconst 0, 1) := by decide +kernel
theorem dL_isFair_141 : decode cL_isFair 141 = .ok (.invokevirtual 72, 3) := by decide +kernel
theorem dL_isFair_144 : decode cL_isFair 144 = .ok (.sipush 1000, 3) := by decide +kernel
theorem dL_isFair_147 : decode cL_isFair 147 = .ok (.aload_n 2, 1) := by decide +kernel
theorem dL_isFair_148 : decode cL_isFair 148 = .ok (.iload 7, 2) := by decide +kernel
theorem dL_isFair_150 : decode cL_isFair 150 = .ok (.iaload, 1) := by decide +kernel
theorem dL_isFair_151 : decode cL_isFair 151 = .ok (.isub, 1) := by decide +kernel
theorem dL_isFair_152 : decode cL_isFair 152 = .ok (.if_icmp .ne 74, 3) := by decide +kernel
theorem dL_isFair_155 : decode cL_isFair 155 = .ok (.aload_n 0, 1) := by decide +kernel
theorem dL_isFair_156 : decode cL_isFair 156 = .ok (.iload 7, 2) := by decide +kernel
theorem dL_isFair_158 : decode cL_isFair 158 = .ok (.iconst 0, 1) := by decide +kernel
theorem dL_isFair_159 : decode cL_isFair 159 = .ok (.invokevirtual 72, 3) := by decide +kernel
theorem dL_isFair_162 : decode cL_isFair 162 = .ok (.ifCond .lt 64, 3) := by decide +kernel
theorem dL_isFair_165 : decode cL_isFair 165 = .ok (.aload_n 0, 1) := by decide +kernel
theorem dL_isFair_166 : decode cL_isFair 166 = .ok (.iload 7, 2) := by decide +kernel
theorem dL_isFair_168 : decode cL_isFair 168 = .ok (.iconst 1, 1) := by decide +kernel
theorem dL_isFair_169 : decode cL_isFair 169 = .ok (.invokevirtual 72, 3) := by decide +kernel
theorem dL_isFair_172 : decode cL_isFair 172 = .ok (.aload_n 3, 1) := by decide +kernel
theorem dL_isFair_173 : decode cL_isFair 173 = .ok (.iload 7, 2) := by decide +kernel
theorem dL_isFair_175 : decode cL_isFair 175 = .ok (.iaload, 1) := by decide +kernel
theorem dL_isFair_176 : decode cL_isFair 176 = .ok (.bipush 100, 2) := by decide +kernel
theorem dL_isFair_178 : decode cL_isFair 178 = .ok (.irem, 1) := by decide +kernel
theorem dL_isFair_179 : decode cL_isFair 179 = .ok (.if_icmp .ne 47, 3) := by decide +kernel
theorem dL_isFair_182 : decode cL_isFair 182 = .ok (.aload_n 0, 1) := by decide +kernel
theorem dL_isFair_183 : decode cL_isFair 183 = .ok (.iload 7, 2) := by decide +kernel
theorem dL_isFair_185 : decode cL_isFair 185 = .ok (.iconst 2, 1) := by decide +kernel
theorem dL_isFair_186 : decode cL_isFair 186 = .ok (.invokevirtual 72, 3) := by decide +kernel
theorem dL_isFair_189 : decode cL_isFair 189 = .ok (.aload_n 3, 1) := by decide +kernel
theorem dL_isFair_190 : decode cL_isFair 190 = .ok (.iload 7, 2) := by decide +kernel
theorem dL_isFair_192 : decode cL_isFair 192 = .ok (.iaload, 1) := by decide +kernel
theorem dL_isFair_193 : decode cL_isFair 193 = .ok (.bipush 100, 2) := by decide +kernel
theorem dL_isFair_195 : decode cL_isFair 195 = .ok (.idiv, 1) := by decide +kernel
theorem dL_isFair_196 : decode cL_isFair 196 = .ok (.if_icmp .ne 30, 3) := by decide +kernel
theorem dL_isFair_199 : decode cL_isFair 199 = .ok (.aload_n 3, 1) := by decide +kernel
theorem dL_isFair_200 : decode cL_isFair 200 = .ok (.iload 7, 2) := by decide +kernel
theorem dL_isFair_202 : decode cL_isFair 202 = .ok (.iaload, 1) := by decide +kernel
theorem dL_isFair_203 : decode cL_isFair 203 = .ok (.bipush 100, 2) := by decide +kernel
theorem dL_isFair_205 : decode cL_isFair 205 = .ok (.irem, 1) := by decide +kernel
theorem dL_isFair_206 : decode cL_isFair 206 = .ok (.bipush 6, 2) := by decide +kernel
theorem dL_isFair_208 : decode cL_isFair 208 = .ok (.if_icmp .gt 18, 3) := by decide +kernel
theorem dL_isFair_211 : decode cL_isFair 211 = .ok (.aload_n 3, 1) := by decide +kernel
theorem dL_isFair_212 : decode cL_isFair 212 = .ok (.iload 7, 2) := by decide +kernel
theorem dL_isFair_214 : decode cL_isFair 214 = .ok (.iaload, 1) := by decide +kernel
theorem dL_isFair_215 : decode cL_isFair 215 = .ok (.bipush 100, 2) := by decide +kernel
theorem dL_isFair_217 : decode cL_isFair 217 = .ok (.idiv, 1) := by decide +kernel
theorem dL_isFair_218 : decode cL_isFair 218 = .ok (.iconst 2, 1) := by decide +kernel
theorem dL_isFair_219 : decode cL_isFair 219 = .ok (.if_icmp .gt 7, 3) := by decide +kernel
theorem dL_isFair_222 : decode cL_isFair 222 = .ok (.iconst 1, 1) := by decide +kernel
theorem dL_isFair_223 : decode cL_isFair 223 = .ok (.goto 4, 3) := by decide +kernel
theorem dL_isFair_226 : decode cL_isFair 226 = .ok (.iconst 0, 1) := by decide +kernel
theorem dL_isFair_227 : decode cL_isFair 227 = .ok (.istore_n 1, 1) := by decide +kernel
theorem dL_isFair_228 : decode cL_isFair 228 = .ok (.iload 4, 2) := by decide +kernel
theorem dL_isFair_230 : decode cL_isFair 230 = .ok (.aload_n 0, 1) := by decide +kernel
theorem dL_isFair_231 : decode cL_isFair 231 = .ok (.iload 7, 2) := by decide +kernel
theorem dL_isFair_233 : decode cL_isFair 233 = .ok (.iconst 4, 1) := by decide +kernel
theorem dL_isFair_234 : decode cL_isFair 234 = .ok (.invokevirtual 49, 3) := by decide +kernel
theorem dL_isFair_237 : decode cL_isFair 237 = .ok (.iadd, 1) := by decide +kernel
theorem dL_isFair_238 : decode cL_isFair 238 = .ok (.istore 4, 2) := by decide +kernel
theorem dL_isFair_240 : decode cL_isFair 240 = .ok (.iload 5, 2) := by decide +kernel
theorem dL_isFair_242 : decode cL_isFair 242 = .ok (.aload_n 0, 1) := by decide +kernel
theorem dL_isFair_243 : decode cL_isFair 243 = .ok (.iload 7, 2) := by decide +kernel
theorem dL_isFair_245 : decode cL_isFair 245 = .ok (.iconst 5, 1) := by decide +kernel
theorem dL_isFair_246 : decode cL_isFair 246 = .ok (.invokevirtual 49, 3) := by decide +kernel
theorem dL_isFair_249 : decode cL_isFair 249 = .ok (.iadd, 1) := by decide +kernel
theorem dL_isFair_250 : decode cL_isFair 250 = .ok (.istore 5, 2) := by decide +kernel
theorem dL_isFair_252 : decode cL_isFair 252 = .ok (.iload 6, 2) := by decide +kernel
theorem dL_isFair_254 : decode cL_isFair 254 = .ok (.iconst 1, 1) := by decide +kernel
theorem dL_isFair_255 : decode cL_isFair 255 = .ok (.aload_n 0, 1) := by decide +kernel
theorem dL_isFair_256 : decode cL_isFair 256 = .ok (.iload 7, 2) := by decide +kernel
theorem dL_isFair_258 : decode cL_isFair 258 = .ok (.bipush 6, 2) := by decide +kernel
theorem dL_isFair_260 : decode cL_isFair 260 = .ok (.invokevirtual 49, 3) := by decide +kernel
theorem dL_isFair_263 : decode cL_isFair 263 = .ok (.ishl, 1) := by decide +kernel
theorem dL_isFair_264 : decode cL_isFair 264 = .ok (.ior, 1) := by decide +kernel
theorem dL_isFair_265 : decode cL_isFair 265 = .ok (.istore 6, 2) := by decide +kernel
theorem dL_isFair_267 : decode cL_isFair 267 = .ok (.iload_n 1, 1) := by decide +kernel
theorem dL_isFair_268 : decode cL_isFair 268 = .ok (.ifCond .eq 80, 3) := by decide +kernel
theorem dL_isFair_271 : decode cL_isFair 271 = .ok (.aload_n 0, 1) := by decide +kernel
theorem dL_isFair_272 : decode cL_isFair 272 = .ok (.iload 7, 2) := by decide +kernel
theorem dL_isFair_274 : decode cL_isFair 274 = .ok (.iconst 1, 1) := by decide +kernel
theorem dL_isFair_275 : decode cL_isFair 275 = .ok (.invokevirtual 49, 3) := by decide +kernel
theorem dL_isFair_278 : decode cL_isFair 278 = .ok (.aload_n 0, 1) := by decide +kernel
theorem dL_isFair_279 : decode cL_isFair 279 = .ok (.iload 7, 2) := by decide +kernel
theorem dL_isFair_281 : decode cL_isFair 281 = .ok (.iconst 2, 1) := by decide +kernel
theorem dL_isFair_282 : decode cL_isFair 282 = .ok (.invokevirtual 49, 3) := by decide +kernel
theorem dL_isFair_285 : decode cL_isFair 285 = .ok (.iadd, 1) := by decide +kernel
theorem dL_isFair_286 : decode cL_isFair 286 = .ok (.aload_n 0, 1) := by decide +kernel
theorem dL_isFair_287 : decode cL_isFair 287 = .ok (.iload 7, 2) := by decide +kernel
theorem dL_isFair_289 : decode cL_isFair 289 = .ok (.iconst 0, 1) := by decide +kernel
theorem dL_isFair_290 : decode cL_isFair 290 = .ok (.invokevirtual 49, 3) := by decide +kernel
theorem dL_isFair_293 : decode cL_isFair 293 = .ok (.if_icmp .gt 55, 3) := by decide +kernel
theorem dL_isFair_296 : decode cL_isFair 296 = .ok (.aload_n 0, 1) := by decide +kernel
theorem dL_isFair_297 : decode cL_isFair 297 = .ok (.iload 7, 2) := by decide +kernel
theorem dL_isFair_299 : decode cL_isFair 299 = .ok (.iconst 3, 1) := by decide +kernel
theorem dL_isFair_300 : decode cL_isFair 300 = .ok (.invokevirtual 49, 3) := by decide +kernel
theorem dL_isFair_303 : decode cL_isFair 303 = .ok (.iconst 5, 1) := by decide +kernel
theorem dL_isFair_304 : decode cL_isFair 304 = .ok (.aload_n 0, 1) := by decide +kernel
theorem dL_isFair_305 : decode cL_isFair 305 = .ok (.iload 7, 2) := by decide +kernel
theorem dL_isFair_307 : decode cL_isFair 307 = .ok (.iconst 0, 1) := by decide +kernel
theorem dL_isFair_308 : decode cL_isFair 308 = .ok (.invokevirtual 49, 3) := by decide +kernel
theorem dL_isFair_311 : decode cL_isFair 311 = .ok (.imul, 1) := by decide +kernel
theorem dL_isFair_312 : decode cL_isFair 312 = .ok (.if_icmp .gt 36, 3) := by decide +kernel
theorem dL_isFair_315 : decode cL_isFair 315 = .ok (.aload_n 0, 1) := by decide +kernel
theorem dL_isFair_316 : decode cL_isFair 316 = .ok (.iload 7, 2) := by decide +kernel
theorem dL_isFair_318 : decode cL_isFair 318 = .ok (.iconst 3, 1) := by decide +kernel
theorem dL_isFair_319 : decode cL_isFair 319 = .ok (.invokevirtual 49, 3) := by decide +kernel
theorem dL_isFair_322 : decode cL_isFair 322 = .ok (.iconst 5, 1) := by decide +kernel
theorem dL_isFair_323 : decode cL_isFair 323 = .ok (.aload_n 0, 1) := by decide +kernel
theorem dL_isFair_324 : decode cL_isFair 324 = .ok (.iload 7, 2) := by decide +kernel
theorem dL_isFair_326 : decode cL_isFair 326 = .ok (.iconst 1, 1) := by decide +kernel
theorem dL_isFair_327 : decode cL_isFair 327 = .ok (.invokevirtual 49, 3) := by decide +kernel
theorem dL_isFair_330 : decode cL_isFair 330 = .ok (.imul, 1) := by decide +kernel
theorem dL_isFair_331 : decode cL_isFair 331 = .ok (.iconst 3, 1) := by decide +kernel
theorem dL_isFair_332 : decode cL_isFair 332 = .ok (.aload_n 0, 1) := by decide +kernel
theorem dL_isFair_333 : decode cL_isFair 333 = .ok (.iload 7, 2) := by decide +kernel
theorem dL_isFair_335 : decode cL_isFair 335 = .ok (.iconst 2, 1) := by decide +kernel
theorem dL_isFair_336 : decode cL_isFair 336 = .ok (.invokevirtual 49, 3) := by decide +kernel
theorem dL_isFair_339 : decode cL_isFair 339 = .ok (.imul, 1) := by decide +kernel
theorem dL_isFair_340 : decode cL_isFair 340 = .ok (.iadd, 1) := by decide +kernel
theorem dL_isFair_341 : decode cL_isFair 341 = .ok (.if_icmp .lt 7, 3) := by decide +kernel
theorem dL_isFair_344 : decode cL_isFair 344 = .ok (.iconst 1, 1) := by decide +kernel
theorem dL_isFair_345 : decode cL_isFair 345 = .ok (.goto 4, 3) := by decide +kernel
theorem dL_isFair_348 : decode cL_isFair 348 = .ok (.iconst 0, 1) := by decide +kernel
theorem dL_isFair_349 : decode cL_isFair 349 = .ok (.istore_n 1, 1) := by decide +kernel
theorem dL_isFair_350 : decode cL_isFair 350 = .ok (.iinc 7 1, 3) := by decide +kernel
theorem dL_isFair_353 : decode cL_isFair 353 = .ok (.goto (-227), 3) := by decide +kernel
theorem dL_isFair_356 : decode cL_isFair 356 = .ok (.iload_n 1, 1) := by decide +kernel
theorem dL_isFair_357 : decode cL_isFair 357 = .ok (.ifCond .eq 22, 3) := by decide +kernel
theorem dL_isFair_360 : decode cL_isFair 360 = .ok (.iload 4, 2) := by decide +kernel
theorem dL_isFair_362 : decode cL_isFair 362 = .ok (.iload 5, 2) := by decide +kernel
theorem dL_isFair_364 : decode cL_isFair 364 = .ok (.if_icmp .ne 15, 3) := by decide +kernel
theorem dL_isFair_367 : decode cL_isFair 367 = .ok (.iload 6, 2) := by decide +kernel
theorem dL_isFair_369 : decode cL_isFair 369 = .ok (.sipush 255, 3) := by decide +kernel
theorem dL_isFair_372 : decode cL_isFair 372 = .ok (.if_icmp .ne 7, 3) := by decide +kernel
theorem dL_isFair_375 : decode cL_isFair 375 = .ok (.iconst 1, 1) := by decide +kernel
theorem dL_isFair_376 : decode cL_isFair 376 = .ok (.goto 4, 3) := by decide +kernel
theorem dL_isFair_379 : decode cL_isFair 379 = .ok (.iconst 0, 1) := by decide +kernel
theorem dL_isFair_380 : decode cL_isFair 380 = .ok (.ireturn, 1) := by decide +kernel
theorem dL_isForetold_0 : decode cL_isForetold 0 = .ok (.iload_n 2, 1) := by decide +kernel
theorem dL_isForetold_1 : decode cL_isForetold 1 = .ok (.bipush 20, 2) := by decide +kernel
theorem dL_isForetold_3 : decode cL_isForetold 3 = .ok (.invokestatic 124, 3) := by decide +kernel
theorem dL_isForetold_6 : decode cL_isForetold 6 = .ok (.istore_n 3, 1) := by decide +kernel
theorem dL_isForetold_7 : decode cL_isForetold 7 = .ok (.iload_n 2, 1) := by decide +kernel
theorem dL_isForetold_8 : decode cL_isForetold 8 = .ok (.iconst 3, 1) := by decide +kernel
theorem dL_isForetold_9 : decode cL_isForetold 9 = .ok (.ishr, 1) := by decide +kernel
theorem dL_isForetold_10 : decode cL_isForetold 10 = .ok (.iconst 3, 1) := by decide +kernel
theorem dL_isForetold_11 : decode cL_isForetold 11 = .ok (.invokestatic 124, 3) := by decide +kernel
theorem dL_isForetold_14 : decode cL_isForetold 14 = .ok (.istore 4, 2) := by decide +kernel
theorem dL_isForetold_16 : decode cL_isForetold 16 = .ok (.iload_n 2, 1) := by decide +kernel
theorem dL_isForetold_17 : decode cL_isForetold 17 = .ok (.iconst 5, 1) := by decide +kernel
theorem dL_isForetold_18 : decode cL_isForetold 18 = .ok (.ishr, 1) := by decide +kernel
theorem dL_isForetold_19 : decode cL_isForetold 19 = .ok (.bipush 6, 2) := by decide +kernel
theorem dL_isForetold_21 : decode cL_isForetold 21 = .ok (.invokestatic 124, 3) := by decide +kernel
theorem dL_isForetold_24 : decode cL_isForetold 24 = .ok (.istore 5, 2) := by decide +kernel
theorem dL_isForetold_26 : decode cL_isForetold 26 = .ok (.iload 5, 2) := by decide +kernel
theorem dL_isForetold_28 : decode cL_isForetold 28 = .ok (.ifCond .ne 15, 3) := by decide +kernel
theorem dL_isForetold_31 : decode cL_isForetold 31 = .ok (.iload_n 2, 1) := by decide +kernel
theorem dL_isForetold_32 : decode cL_isForetold 32 = .ok (.bipush 8, 2) := by decide +kernel
theorem dL_isForetold_34 : decode cL_isForetold 34 = .ok (.ishr, 1) := by decide +kernel
theorem dL_isForetold_35 : decode cL_isForetold 35 = .ok (.bipush 8, 2) := by decide +kernel
theorem dL_isForetold_37 : decode cL_isForetold 37 = .ok (.invokestatic 124, 3) := by decide +kernel
theorem dL_isForetold_40 : decode cL_isForetold 40 = .ok (.goto 4, 3) := by decide +kernel
theorem dL_isForetold_43 : decode cL_isForetold 43 = .ok (.iconst (-1), 1) := by decide +kernel
theorem dL_isForetold_44 : decode cL_isForetold 44 = .ok (.istore 6, 2) := by decide +kernel
theorem dL_isForetold_46 : decode cL_isForetold 46 = .ok (.iload_n 2, 1) := by decide +kernel
theorem dL_isForetold_47 : decode cL_isForetold 47 = .ok (.iconst 2, 1) := by decide +kernel
theorem dL_isForetold_48 : decode cL_isForetold 48 = .ok (.ishr, 1) := by decide +kernel
theorem dL_isForetold_49 : decode cL_isForetold 49 = .ok (.iconst 1, 1) := by decide +kernel
theorem dL_isForetold_50 : decode cL_isForetold 50 = .ok (.iand, 1) := by decide +kernel
theorem dL_isForetold_51 : decode cL_isForetold 51 = .ok (.istore 7, 2) := by decide +kernel
theorem dL_isForetold_53 : decode cL_isForetold 53 = .ok (.aload_n 0, 1) := by decide +kernel
theorem dL_isForetold_54 : decode cL_isForetold 54 = .ok (.bipush 6, 2) := by decide +kernel
theorem dL_isForetold_56 : decode cL_isForetold 56 = .ok (.iload_n 3, 1) := by decide +kernel
theorem dL_isForetold_57 : decode cL_isForetold 57 = .ok (.iload 4, 2) := by decide +kernel
theorem dL_isForetold_59 : decode cL_isForetold 59 = .ok (.iload 5, 2) := by decide +kernel
theorem dL_isForetold_61 : decode cL_isForetold 61 = .ok (.iload 6, 2) := by decide +kernel
theorem dL_isForetold_63 : decode cL_isForetold 63 = .ok (.iconst 0, 1) := by decide +kernel
theorem dL_isForetold_64 : decode cL_isForetold 64 = .ok (.invokestatic 127, 3) := by decide +kernel
theorem dL_isForetold_67 : decode cL_isForetold 67 = .ok (.istore 8, 2) := by decide +kernel
theorem dL_isForetold_69 : decode cL_isForetold 69 = .ok (.aload_n 0, 1) := by decide +kernel
theorem dL_isForetold_70 : decode cL_isForetold 70 = .ok (.bipush 18, 2) := by decide +kernel
theorem dL_isForetold_72 : decode cL_isForetold 72 = .ok (.iload 7, 2) := by decide +kernel
theorem dL_isForetold_74 : decode cL_isForetold 74 = .ok (.iconst 0, 1) := by decide +kernel
theorem dL_isForetold_75 : decode cL_isForetold 75 = .ok (.iconst 0, 1) := by decide +kernel
theorem dL_isForetold_76 : decode cL_isForetold 76 = .ok (.iconst 0, 1) := by decide +kernel
theorem dL_isForetold_77 : decode cL_isForetold 77 = .ok (.iconst 0, 1) := by decide +kernel
theorem dL_isForetold_78 : decode cL_isForetold 78 = .ok (.invokestatic 127, 3) := by decide +kernel
theorem dL_isForetold_81 : decode cL_isForetold 81 = .ok (.istore 9, 2) := by decide +kernel
theorem dL_isForetold_83 : decode cL_isForetold 83 = .ok (.aload_n 0, 1) := by decide +kernel
theorem dL_isForetold_84 : decode cL_isForetold 84 = .ok (.bipush 16, 2) := by decide +kernel
theorem dL_isForetold_86 : decode cL_isForetold 86 = .ok (.iload 7, 2) := by decide +kernel
theorem dL_isForetold_88 : decode cL_isForetold 88 = .ok (.iconst 0, 1) := by decide +kernel
theorem dL_isForetold_89 : decode cL_isForetold 89 = .ok (.iconst 0, 1) := by decide +kernel
theorem dL_isForetold_90 : decode cL_isForetold 90 = .ok (.iconst 0, 1) := by decide +kernel
theorem dL_isForetold_91 : decode cL_isForetold 91 = .ok (.iconst 0, 1) := by decide +kernel
theorem dL_isForetold_92 : decode cL_isForetold 92 = .ok (.invokestatic 127, 3) := by decide +kernel
theorem dL_isForetold_95 : decode cL_isForetold 95 = .ok (.aload_n 0, 1) := by decide +kernel
theorem dL_isForetold_96 : decode cL_isForetold 96 = .ok (.bipush 16, 2) := by decide +kernel
theorem dL_isForetold_98 : decode cL_isForetold 98 = .ok (.iconst 1, 1) := by decide +kernel
theorem dL_isForetold_99 : decode cL_isForetold 99 = .ok (.iload 7, 2) := by decide +kernel
theorem dL_isForetold_101 : decode cL_isForetold 101 = .ok (.isub, 1) := by decide +kernel
theorem dL_isForetold_102 : decode cL_isForetold 102 = .ok (.iconst 0, 1) := by decide +kernel
theorem dL_isForetold_103 : decode cL_isForetold 103 = .ok (.iconst 0, 1) := by decide +kernel
theorem dL_isForetold_104 : decode cL_isForetold 104 = .ok (.iconst 0, 1) := by decide +kernel
theorem dL_isForetold_105 : decode cL_isForetold 105 = .ok (.iconst 0, 1) := by decide +kernel
theorem dL_isForetold_106 : decode cL_isForetold 106 = .ok (.invokestatic 127, 3) := by decide +kernel
theorem dL_isForetold_109 : decode cL_isForetold 109 = .ok (.isub, 1) := by decide +kernel
theorem dL_isForetold_110 : decode cL_isForetold 110 = .ok (.istore 10, 2) := by decide +kernel
theorem dL_isForetold_112 : decode cL_isForetold 112 = .ok (.aload_n 0, 1) := by decide +kernel
theorem dL_isForetold_113 : decode cL_isForetold 113 = .ok (.iconst 5, 1) := by decide +kernel
theorem dL_isForetold_114 : decode cL_isForetold 114 = .ok (.iload 7, 2) := by decide +kernel
theorem dL_isForetold_116 : decode cL_isForetold 116 = .ok (.iload_n 3, 1) := by decide +kernel
theorem dL_isForetold_117 : decode cL_isForetold 117 = .ok (.iload 4, 2) := by decide +kernel
theorem dL_isForetold_119 : decode cL_isForetold 119 = .ok (.iload 5, 2) := by decide +kernel
theorem dL_isForetold_121 : decode cL_isForetold 121 = .ok (.iload 6, 2) := by decide +kernel
theorem dL_isForetold_123 : decode cL_isForetold 123 = .ok (.invokestatic 127, 3) := by decide +kernel
theorem dL_isForetold_126 : decode cL_isForetold 126 = .ok (.istore 11, 2) := by decide +kernel
theorem dL_isForetold_128 : decode cL_isForetold 128 = .ok (.iload 8, 2) := by decide +kernel
theorem dL_isForetold_130 : decode cL_isForetold 130 = .ok (.iconst (-1), 1) := by decide +kernel
theorem dL_isForetold_131 : decode cL_isForetold 131 = .ok (.if_icmp .ne 27, 3) := by decide +kernel
theorem dL_isForetold_134 : decode cL_isForetold 134 = .ok (.iload 9, 2) := by decide +kernel
theorem dL_isForetold_136 : decode cL_isForetold 136 = .ok (.iconst 1, 1) := by decide +kernel
theorem dL_isForetold_137 : decode cL_isForetold 137 = .ok (.if_icmp .ne 21, 3) := by decide +kernel
theorem dL_isForetold_140 : decode cL_isForetold 140 = .ok (.aload_n 0, 1) := by decide +kernel
theorem dL_isForetold_141 : decode cL_isForetold 141 = .ok (.bipush 17, 2) := by decide +kernel
theorem dL_isForetold_143 : decode cL_isForetold 143 = .ok (.iconst 3, 1) := by decide +kernel
theorem dL_isForetold_144 : decode cL_isForetold 144 = .ok (.iconst 0, 1) := by decide +kernel
theorem dL_isForetold_145 : decode cL_isForetold 145 = .ok (.iconst 0, 1) := by decide +kernel
theorem dL_isForetold_146 : decode cL_isForetold 146 = .ok (.iconst 0, 1) := by decide +kernel
theorem dL_isForetold_147 : decode cL_isForetold 147 = .ok (.iconst 0, 1) := by decide +kernel
theorem dL_isForetold_148 : decode cL_isForetold 148 = .ok (.invokestatic 127, 3) := by decide +kernel
theorem dL_isForetold_151 : decode cL_isForetold 151 = .ok (.ifCond .ne 7, 3) := by decide +kernel
theorem dL_isForetold_154 : decode cL_isForetold 154 = .ok (.iconst 1, 1) := by decide +kernel
theorem dL_isForetold_155 : decode cL_isForetold 155 = .ok (.goto 4, 3) := by decide +kernel
theorem dL_isForetold_158 : decode cL_isForetold 158 = .ok (.iconst 0, 1) := by decide +kernel
theorem dL_isForetold_159 : decode cL_isForetold 159 = .ok (.istore 12, 2) := by decide +kernel
theorem dL_isForetold_161 : decode cL_isForetold 161 = .ok (.iload 12, 2) := by decide +kernel
theorem dL_isForetold_163 : decode cL_isForetold 163 = .ok (.iload 11, 2) := by decide +kernel
theorem dL_isForetold_165 : decode cL_isForetold 165 = .ok (.ldc 77, 2) := by decide +kernel
theorem dL_isForetold_167 : decode cL_isForetold 167 = .ok (.if_icmp .eq 7, 3) := by decide +kernel
theorem dL_isForetold_170 : decode cL_isForetold 170 = .ok (.iconst 1, 1) := by decide +kernel
theorem dL_isForetold_171 : decode cL_isForetold 171 = .ok (.goto 4, 3) := by decide +kernel
theorem dL_isForetold_174 : decode cL_isForetold 174 = .ok (.iconst 0, 1) := by decide +kernel
theorem dL_isForetold_175 : decode cL_isForetold 175 = .ok (.if_icmp .ne 74, 3) := by decide +kernel
theorem dL_isForetold_178 : decode cL_isForetold 178 = .ok (.iload 11, 2) := by decide +kernel
theorem dL_isForetold_180 : decode cL_isForetold 180 = .ok (.ldc 77, 2) := by decide +kernel
theorem dL_isForetold_182 : decode cL_isForetold 182 = .ok (.if_icmp .eq 63, 3) := by decide +kernel
theorem dL_isForetold_185 : decode cL_isForetold 185 = .ok (.aload_n 0, 1) := by decide +kernel
theorem dL_isForetold_186 : decode cL_isForetold 186 = .ok (.bipush 16, 2) := by decide +kernel
theorem dL_isForetold_188 : decode cL_isForetold 188 = .ok (.iload 7, 2) := by decide +kernel
theorem dL_isForetold_190 : decode cL_isForetold 190 = .ok (.iconst 0, 1) := by decide +kernel
theorem dL_isForetold_191 : decode cL_isForetold 191 = .ok (.iconst 0, 1) := by decide +kernel
theorem dL_isForetold_192 : decode cL_isForetold 192 = .ok (.iconst 0, 1) := by decide +kernel
theorem dL_isForetold_193 : decode cL_isForetold 193 = .ok (.iconst 0, 1) := by decide +kernel
theorem dL_isForetold_194 : decode cL_isForetold 194 = .ok (.invokestatic 127, 3) := by decide +kernel
theorem dL_isForetold_197 : decode cL_isForetold 197 = .ok (.aload_n 0, 1) := by decide +kernel
theorem dL_isForetold_198 : decode cL_isForetold 198 = .ok (.bipush 16, 2) := by decide +kernel
theorem dL_isForetold_200 : decode cL_isForetold 200 = .ok (.iconst 1, 1) := by decide +kernel
theorem dL_isForetold_201 : decode cL_isForetold 201 = .ok (.iload 7, 2) := by decide +kernel
theorem dL_isForetold_203 : decode cL_isForetold 203 = .ok (.isub, 1) := by decide +kernel
theorem dL_isForetold_204 : decode cL_isForetold 204 = .ok (.iconst 0, 1) := by decide +kernel
theorem dL_isForetold_205 : decode cL_isForetold 205 = .ok (.iconst 0, 1) := by decide +kernel
theorem dL_isForetold_206 : decode cL_isForetold 206 = .ok (.iconst 0, 1) := by decide +kernel
theorem dL_isForetold_207 : decode cL_isForetold 207 = .ok (.iconst 0, 1) := by decide +kernel
theorem dL_isForetold_208 : decode cL_isForetold 208 = .ok (.invokestatic 127, 3) := by decide +kernel
theorem dL_isForetold_211 : decode cL_isForetold 211 = .ok (.isub, 1) := by decide +kernel
theorem dL_isForetold_212 : decode cL_isForetold 212 = .ok (.iload 10, 2) := by decide +kernel
theorem dL_isForetold_214 : decode cL_isForetold 214 = .ok (.iload 11, 2) := by decide +kernel
theorem dL_isForetold_216 : decode cL_isForetold 216 = .ok (.iadd, 1) := by decide +kernel
theorem dL_isForetold_217 : decode cL_isForetold 217 = .ok (.if_icmp .ne 32, 3) := by decide +kernel
theorem dL_isForetold_220 : decode cL_isForetold 220 = .ok (.aload_n 0, 1) := by decide +kernel
theorem dL_isForetold_221 : decode cL_isForetold 221 = .ok (.bipush 18, 2) := by decide +kernel
theorem dL_isForetold_223 : decode cL_isForetold 223 = .ok (.iload 7, 2) := by decide +kernel
theorem dL_isForetold_225 : decode cL_isForetold 225 = .ok (.iconst 0, 1) := by decide +kernel
theorem dL_isForetold_226 : decode cL_isForetold 226 = .ok (.iconst 0, 1) := by decide +kernel
theorem dL_isForetold_227 : decode cL_isForetold 227 = .ok (.iconst 0, 1) := by decide +kernel
theorem dL_isForetold_228 : decode cL_isForetold 228 = .ok (.iconst 0, 1) := by decide +kernel
theorem dL_isForetold_229 : decode cL_isForetold 229 = .ok (.invokestatic 127, 3) := by decide +kernel
theorem dL_isForetold_232 : decode cL_isForetold 232 = .ok (.iload 11, 2) := by decide +kernel
theorem dL_isForetold_234 : decode cL_isForetold 234 = .ok (.ifCond .le 7, 3) := by decide +kernel
theorem dL_isForetold_237 : decode cL_isForetold 237 = .ok (.iconst 1, 1) := by decide +kernel
theorem dL_isForetold_238 : decode cL_isForetold 238 = .ok (.goto 4, 3) := by decide +kernel
theorem dL_isForetold_241 : decode cL_isForetold 241 = .ok (.iconst 0, 1) := by decide +kernel
theorem dL_isForetold_242 : decode cL_isForetold 242 = .ok (.if_icmp .ne 7, 3) := by decide +kernel
theorem dL_isForetold_245 : decode cL_isForetold 245 = .ok (.iconst 1, 1) := by decide +kernel
theorem dL_isForetold_246 : decode cL_isForetold 246 = .ok (.goto 4, 3) := by decide +kernel
theorem dL_isForetold_249 : decode cL_isForetold 249 = .ok (.iconst 0, 1) := by decide +kernel
theorem dL_isForetold_250 : decode cL_isForetold 250 = .ok (.istore 13, 2) := by decide +kernel
theorem dL_isForetold_252 : decode cL_isForetold 252 = .ok (.iload 13, 2) := by decide +kernel
theorem dL_isForetold_254 : decode cL_isForetold 254 = .ok (.ifCond .eq 26, 3) := by decide +kernel
theorem dL_isForetold_257 : decode cL_isForetold 257 = .ok (.aload_n 1, 1) := by decide +kernel
theorem dL_isForetold_258 : decode cL_isForetold 258 = .ok (.iconst 5, 1) := by decide +kernel
theorem dL_isForetold_259 : decode cL_isForetold 259 = .ok (.iload 7, 2) := by decide +kernel
theorem dL_isForetold_261 : decode cL_isForetold 261 = .ok (.iload_n 3, 1) := by decide +kernel
theorem dL_isForetold_262 : decode cL_isForetold 262 = .ok (.iload 4, 2) := by decide +kernel
theorem dL_isForetold_264 : decode cL_isForetold 264 = .ok (.iload 5, 2) := by decide +kernel
theorem dL_isForetold_266 : decode cL_isForetold 266 = .ok (.iload 6, 2) := by decide +kernel
theorem dL_isForetold_268 : decode cL_isForetold 268 = .ok (.invokestatic 127, 3) := by decide +kernel
theorem dL_isForetold_271 : decode cL_isForetold 271 = .ok (.iload 11, 2) := by decide +kernel
theorem dL_isForetold_273 : decode cL_isForetold 273 = .ok (.if_icmp .ne 7, 3) := by decide +kernel
theorem dL_isForetold_276 : decode cL_isForetold 276 = .ok (.iconst 1, 1) := by decide +kernel
theorem dL_isForetold_277 : decode cL_isForetold 277 = .ok (.goto 4, 3) := by decide +kernel
theorem dL_isForetold_280 : decode cL_isForetold 280 = .ok (.iconst 0, 1) := by decide +kernel
theorem dL_isForetold_281 : decode cL_isForetold 281 = .ok (.ireturn, 1) := by decide +kernel
theorem dL_law_0 : decode cL_law 0 = .ok (.new 15, 3) := by decide +kernel
theorem dL_law_3 : decode cL_law 3 = .ok (.dup, 1) := by decide +kernel
theorem dL_law_4 : decode cL_law 4 = .ok (.invokespecial 130, 3) := by decide +kernel
theorem dL_law_7 : decode cL_law 7 = .ok (.astore_n 1, 1) := by decide +kernel
theorem dL_law_8 : decode cL_law 8 = .ok (.new 15, 3) := by decide +kernel
theorem dL_law_11 : decode cL_law 11 = .ok (.dup, 1) := by decide +kernel
theorem dL_law_12 : decode cL_law 12 = .ok (.invokespecial 130, 3) := by decide +kernel
theorem dL_law_15 : decode cL_law 15 = .ok (.astore_n 2, 1) := by decide +kernel
theorem dL_law_16 : decode cL_law 16 = .ok (.iconst 1, 1) := by decide +kernel
theorem dL_law_17 : decode cL_law 17 = .ok (.istore_n 3, 1) := by decide +kernel
theorem dL_law_18 : decode cL_law 18 = .ok (.iconst 0, 1) := by decide +kernel
theorem dL_law_19 : decode cL_law 19 = .ok (.istore 4, 2) := by decide +kernel
theorem dL_law_21 : decode cL_law 21 = .ok (.iload 4, 2) := by decide +kernel
theorem dL_law_23 : decode cL_law 23 = .ok (.sipush 360, 3) := by decide +kernel
theorem dL_law_26 : decode cL_law 26 = .ok (.if_icmp .ge 157, 3) := by decide +kernel
theorem dL_law_29 : decode cL_law 29 = .ok (.iload_n 3, 1) := by decide +kernel
theorem dL_law_30 : decode cL_law 30 = .ok (.ifCond .eq 153, 3) := by decide +kernel
theorem dL_law_33 : decode cL_law 33 = .ok (.aload_n 0, 1) := by decide +kernel
theorem dL_law_34 : decode cL_law 34 = .ok (.iload 4, 2) := by decide +kernel
theorem dL_law_36 : decode cL_law 36 = .ok (.bipush 61, 2) := by decide +kernel
theorem dL_law_38 : decode cL_law 38 = .ok (.irem, 1) := by decide +kernel
theorem dL_law_39 : decode cL_law 39 = .ok (.invokestatic 131, 3) := by decide +kernel
theorem dL_law_42 : decode cL_law 42 = .ok (.sipush 1997, 3) := by decide +kernel
theorem dL_law_45 : decode cL_law 45 = .ok (.iload 4, 2) := by decide +kernel
theorem dL_law_47 : decode cL_law 47 = .ok (.bipush 61, 2) := by decide +kernel
theorem dL_law_49 : decode cL_law 49 = .ok (.idiv, 1) := by decide +kernel
theorem dL_law_50 : decode cL_law 50 = .ok (.imul, 1) := by decide +kernel
theorem dL_law_51 : decode cL_law 51 = .ok (.iadd, 1) := by decide +kernel
theorem dL_law_52 : decode cL_law 52 = .ok (.istore 5, 2) := by decide +kernel
theorem dL_law_54 : decode cL_law 54 = .ok (.aload_n 1, 1) := by decide +kernel
theorem dL_law_55 : decode cL_law 55 = .ok (.iload 5, 2) := by decide +kernel
theorem dL_law_57 : decode cL_law 57 = .ok (.invokestatic 135, 3) := by decide +kernel
theorem dL_law_60 : decode cL_law 60 = .ok (.istore 6, 2) := by decide +kernel
theorem dL_law_62 : decode cL_law 62 = .ok (.iload 6, 2) := by decide +kernel
theorem dL_law_64 : decode cL_law 64 = .ok (.ldc 77, 2) := by decide +kernel
theorem dL_law_66 : decode cL_law 66 = .ok (.if_icmp .eq 14, 3) := by decide +kernel
theorem dL_law_69 : decode cL_law 69 = .ok (.aload_n 2, 1) := by decide +kernel
theorem dL_law_70 : decode cL_law 70 = .ok (.iload 5, 2) := by decide +kernel
theorem dL_law_72 : decode cL_law 72 = .ok (.invokestatic 135, 3) := by decide +kernel
theorem dL_law_75 : decode cL_law 75 = .ok (.iload 6, 2) := by decide +kernel
theorem dL_law_77 : decode cL_law 77 = .ok (.if_icmp .ne 7, 3) := by decide +kernel
theorem dL_law_80 : decode cL_law 80 = .ok (.iconst 1, 1) := by decide +kernel
theorem dL_law_81 : decode cL_law 81 = .ok (.goto 4, 3) := by decide +kernel
theorem dL_law_84 : decode cL_law 84 = .ok (.iconst 0, 1) := by decide +kernel
theorem dL_law_85 : decode cL_law 85 = .ok (.istore_n 3, 1) := by decide +kernel
theorem dL_law_86 : decode cL_law 86 = .ok (.iload_n 3, 1) := by decide +kernel
theorem dL_law_87 : decode cL_law 87 = .ok (.ifCond .eq 88, 3) := by decide +kernel
theorem dL_law_90 : decode cL_law 90 = .ok (.iload 4, 2) := by decide +kernel
theorem dL_law_92 : decode cL_law 92 = .ok (.bipush 20, 2) := by decide +kernel
theorem dL_law_94 : decode cL_law 94 = .ok (.irem, 1) := by decide +kernel
theorem dL_law_95 : decode cL_law 95 = .ok (.bipush 19, 2) := by decide +kernel
theorem dL_law_97 : decode cL_law 97 = .ok (.if_icmp .ne 19, 3) := by decide +kernel
theorem dL_law_100 : decode cL_law 100 = .ok (.aload_n 1, 1) := by decide +kernel
theorem dL_law_101 : decode cL_law 101 = .ok (.aload_n 2, 1) := by decide +kernel
theorem dL_law_102 : decode cL_law 102 = .ok (.iload 5, 2) := by decide +kernel
theorem dL_law_104 : decode cL_law 104 = .ok (.iconst 3, 1) := by decide +kernel
theorem dL_law_105 : decode cL_law 105 = .ok (.ishr, 1) := by decide +kernel
theorem dL_law_106 : decode cL_law 106 = .ok (.sipush 1023, 3) := by decide +kernel
theorem dL_law_109 : decode cL_law 109 = .ok (.iand, 1) := by decide +kernel
theorem dL_law_110 : decode cL_law 110 = .ok (.invokestatic 139, 3) := by decide +kernel
theorem dL_law_113 : decode cL_law 113 = .ok (.ifCond .eq 62, 3) := by decide +kernel
theorem dL_law_116 : decode cL_law 116 = .ok (.iload 4, 2) := by decide +kernel
theorem dL_law_118 : decode cL_law 118 = .ok (.bipush 7, 2) := by decide +kernel
theorem dL_law_120 : decode cL_law 120 = .ok (.irem, 1) := by decide +kernel
theorem dL_law_121 : decode cL_law 121 = .ok (.iconst 3, 1) := by decide +kernel
theorem dL_law_122 : decode cL_law 122 = .ok (.if_icmp .ne 10, 3) := by decide +kernel
theorem dL_law_125 : decode cL_law 125 = .ok (.aload_n 1, 1) := by decide +kernel
theorem dL_law_126 : decode cL_law 126 = .ok (.invokestatic 143, 3) := by decide +kernel
theorem dL_law_129 : decode cL_law 129 = .ok (.ifCond .eq 46, 3) := by decide +kernel
theorem dL_law_132 : decode cL_law 132 = .ok (.iload 4, 2) := by decide +kernel
theorem dL_law_134 : decode cL_law 134 = .ok (.bipush 30, 2) := by decide +kernel
theorem dL_law_136 : decode cL_law 136 = .ok (.irem, 1) := by decide +kernel
theorem dL_law_137 : decode cL_law 137 = .ok (.bipush 17, 2) := by decide +kernel
theorem dL_law_139 : decode cL_law 139 = .ok (.if_icmp .ne 10, 3) := by decide +kernel
theorem dL_law_142 : decode cL_law 142 = .ok (.aload_n 1, 1) := by decide +kernel
theorem dL_law_143 : decode cL_law 143 = .ok (.invokestatic 147, 3) := by decide +kernel
theorem dL_law_146 : decode cL_law 146 = .ok (.ifCond .eq 29, 3) := by decide +kernel
theorem dL_law_149 : decode cL_law 149 = .ok (.iload 4, 2) := by decide +kernel
theorem dL_law_151 : decode cL_law 151 = .ok (.bipush 15, 2) := by decide +kernel
theorem dL_law_153 : decode cL_law 153 = .ok (.irem, 1) := by decide +kernel
theorem dL_law_154 : decode cL_law 154 = .ok (.bipush 8, 2) := by decide +kernel
theorem dL_law_156 : decode cL_law 156 = .ok (.if_icmp .ne 15, 3) := by decide +kernel
theorem dL_law_159 : decode cL_law 159 = .ok (.aload_n 1, 1) := by decide +kernel
theorem dL_law_160 : decode cL_law 160 = .ok (.aload_n 2, 1) := by decide +kernel
theorem dL_law_161 : decode cL_law 161 = .ok (.iload 5, 2) := by decide +kernel
theorem dL_law_163 : decode cL_law 163 = .ok (.iconst 5, 1) := by decide +kernel
theorem dL_law_164 : decode cL_law 164 = .ok (.ishr, 1) := by decide +kernel
theorem dL_law_165 : decode cL_law 165 = .ok (.invokestatic 150, 3) := by decide +kernel
theorem dL_law_168 : decode cL_law 168 = .ok (.ifCond .eq 7, 3) := by decide +kernel
theorem dL_law_171 : decode cL_law 171 = .ok (.iconst 1, 1) := by decide +kernel
theorem dL_law_172 : decode cL_law 172 = .ok (.goto 4, 3) := by decide +kernel
theorem dL_law_175 : decode cL_law 175 = .ok (.iconst 0, 1) := by decide +kernel
theorem dL_law_176 : decode cL_law 176 = .ok (.istore_n 3, 1) := by decide +kernel
theorem dL_law_177 : decode cL_law 177 = .ok (.iinc 4 1, 3) := by decide +kernel
theorem dL_law_180 : decode cL_law 180 = .ok (.goto (-159), 3) := by decide +kernel
theorem dL_law_183 : decode cL_law 183 = .ok (.iload_n 3, 1) := by decide +kernel
theorem dL_law_184 : decode cL_law 184 = .ok (.ifCond .eq 31, 3) := by decide +kernel
theorem dL_law_187 : decode cL_law 187 = .ok (.aload_n 1, 1) := by decide +kernel
theorem dL_law_188 : decode cL_law 188 = .ok (.aload_n 2, 1) := by decide +kernel
theorem dL_law_189 : decode cL_law 189 = .ok (.bipush 7, 2) := by decide +kernel
theorem dL_law_191 : decode cL_law 191 = .ok (.invokestatic 139, 3) := by decide +kernel
theorem dL_law_194 : decode cL_law 194 = .ok (.ifCond .eq 21, 3) := by decide +kernel
theorem dL_law_197 : decode cL_law 197 = .ok (.aload_n 2, 1) := by decide +kernel
theorem dL_law_198 : decode cL_law 198 = .ok (.invokestatic 143, 3) := by decide +kernel
theorem dL_law_201 : decode cL_law 201 = .ok (.ifCond .eq 14, 3) := by decide +kernel
theorem dL_law_204 : decode cL_law 204 = .ok (.aload_n 2, 1) := by decide +kernel
theorem dL_law_205 : decode cL_law 205 = .ok (.invokestatic 147, 3) := by decide +kernel
theorem dL_law_208 : decode cL_law 208 = .ok (.ifCond .eq 7, 3) := by decide +kernel
theorem dL_law_211 : decode cL_law 211 = .ok (.iconst 1, 1) := by decide +kernel
theorem dL_law_212 : decode cL_law 212 = .ok (.goto 4, 3) := by decide +kernel
theorem dL_law_215 : decode cL_law 215 = .ok (.iconst 0, 1) := by decide +kernel
theorem dL_law_216 : decode cL_law 216 = .ok (.ireturn, 1) := by decide +kernel
