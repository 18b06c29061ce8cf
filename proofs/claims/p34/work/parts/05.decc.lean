theorem dX4_playCard_36 : decode cX4_playCard 36 = .ok (.iconst 2, 1) := by decide +kernel
theorem dX4_playCard_37 : decode cX4_playCard 37 = .ok (.if_icmp .ne 22, 3) := by decide +kernel
theorem dX4_playCard_40 : decode cX4_playCard 40 = .ok (.aload_n 0, 1) := by decide +kernel
theorem dX4_playCard_41 : decode cX4_playCard 41 = .ok (.iconst 1, 1) := by decide +kernel
theorem dX4_playCard_42 : decode cX4_playCard 42 = .ok (.aload_n 1, 1) := by decide +kernel
theorem dX4_playCard_43 : decode cX4_playCard 43 = .ok (.getfield 58, 3) := by decide +kernel
theorem dX4_playCard_46 : decode cX4_playCard 46 = .ok (.isub, 1) := by decide +kernel
theorem dX4_playCard_47 : decode cX4_playCard 47 = .ok (.invokevirtual 35, 3) := by decide +kernel
theorem dX4_playCard_50 : decode cX4_playCard 50 = .ok (.dup, 1) := by decide +kernel
theorem dX4_playCard_51 : decode cX4_playCard 51 = .ok (.getfield 114, 3) := by decide +kernel
theorem dX4_playCard_54 : decode cX4_playCard 54 = .ok (.iconst 1, 1) := by decide +kernel
theorem dX4_playCard_55 : decode cX4_playCard 55 = .ok (.iadd, 1) := by decide +kernel
theorem dX4_playCard_56 : decode cX4_playCard 56 = .ok (.putfield 114, 3) := by decide +kernel
theorem dX4_playCard_59 : decode cX4_playCard 59 = .ok (.aload_n 0, 1) := by decide +kernel
theorem dX4_playCard_60 : decode cX4_playCard 60 = .ok (.aload_n 1, 1) := by decide +kernel
theorem dX4_playCard_61 : decode cX4_playCard 61 = .ok (.getfield 58, 3) := by decide +kernel
theorem dX4_playCard_64 : decode cX4_playCard 64 = .ok (.invokevirtual 117, 3) := by decide +kernel
theorem dX4_playCard_67 : decode cX4_playCard 67 = .ok (.return_, 1) := by decide +kernel
theorem dX4_playRaid_0 : decode cX4_playRaid 0 = .ok (.aload_n 0, 1) := by decide +kernel
theorem dX4_playRaid_1 : decode cX4_playRaid 1 = .ok (.aload_n 0, 1) := by decide +kernel
theorem dX4_playRaid_2 : decode cX4_playRaid 2 = .ok (.invokevirtual 31, 3) := by decide +kernel
theorem dX4_playRaid_5 : decode cX4_playRaid 5 = .ok (.invokevirtual 35, 3) := by decide +kernel
theorem dX4_playRaid_8 : decode cX4_playRaid 8 = .ok (.astore_n 2, 1) := by decide +kernel
theorem dX4_playRaid_9 : decode cX4_playRaid 9 = .ok (.aload_n 0, 1) := by decide +kernel
theorem dX4_playRaid_10 : decode cX4_playRaid 10 = .ok (.iconst 1, 1) := by decide +kernel
theorem dX4_playRaid_11 : decode cX4_playRaid 11 = .ok (.aload_n 0, 1) := by decide +kernel
theorem dX4_playRaid_12 : decode cX4_playRaid 12 = .ok (.invokevirtual 31, 3) := by decide +kernel
theorem dX4_playRaid_15 : decode cX4_playRaid 15 = .ok (.isub, 1) := by decide +kernel
theorem dX4_playRaid_16 : decode cX4_playRaid 16 = .ok (.invokevirtual 35, 3) := by decide +kernel
theorem dX4_playRaid_19 : decode cX4_playRaid 19 = .ok (.astore_n 3, 1) := by decide +kernel
theorem dX4_playRaid_20 : decode cX4_playRaid 20 = .ok (.aload_n 1, 1) := by decide +kernel
theorem dX4_playRaid_21 : decode cX4_playRaid 21 = .ok (.invokevirtual 121, 3) := by decide +kernel
theorem dX4_playRaid_24 : decode cX4_playRaid 24 = .ok (.istore 4, 2) := by decide +kernel
theorem dX4_playRaid_26 : decode cX4_playRaid 26 = .ok (.aload_n 1, 1) := by decide +kernel
theorem dX4_playRaid_27 : decode cX4_playRaid 27 = .ok (.iconst 1, 1) := by decide +kernel
theorem dX4_playRaid_28 : decode cX4_playRaid 28 = .ok (.invokevirtual 124, 3) := by decide +kernel
theorem dX4_playRaid_31 : decode cX4_playRaid 31 = .ok (.ifCond .eq 16, 3) := by decide +kernel
theorem dX4_playRaid_34 : decode cX4_playRaid 34 = .ok (.aload_n 3, 1) := by decide +kernel
theorem dX4_playRaid_35 : decode cX4_playRaid 35 = .ok (.invokevirtual 127, 3) := by decide +kernel
theorem dX4_playRaid_38 : decode cX4_playRaid 38 = .ok (.bipush 6, 2) := by decide +kernel
theorem dX4_playRaid_40 : decode cX4_playRaid 40 = .ok (.if_icmp .lt 7, 3) := by decide +kernel
theorem dX4_playRaid_43 : decode cX4_playRaid 43 = .ok (.iconst 1, 1) := by decide +kernel
theorem dX4_playRaid_44 : decode cX4_playRaid 44 = .ok (.goto 4, 3) := by decide +kernel
theorem dX4_playRaid_47 : decode cX4_playRaid 47 = .ok (.iconst 0, 1) := by decide +kernel
theorem dX4_playRaid_48 : decode cX4_playRaid 48 = .ok (.istore 5, 2) := by decide +kernel
theorem dX4_playRaid_50 : decode cX4_playRaid 50 = .ok (.iload 4, 2) := by decide +kernel
theorem dX4_playRaid_52 : decode cX4_playRaid 52 = .ok (.ifCond .ne 23, 3) := by decide +kernel
theorem dX4_playRaid_55 : decode cX4_playRaid 55 = .ok (.aload_n 1, 1) := by decide +kernel
theorem dX4_playRaid_56 : decode cX4_playRaid 56 = .ok (.iconst 1, 1) := by decide +kernel
theorem dX4_playRaid_57 : decode cX4_playRaid 57 = .ok (.invokevirtual 124, 3) := by decide +kernel
theorem dX4_playRaid_60 : decode cX4_playRaid 60 = .ok (.ifCond .ne 15, 3) := by decide +kernel
theorem dX4_playRaid_63 : decode cX4_playRaid 63 = .ok (.aload_n 1, 1) := by decide +kernel
theorem dX4_playRaid_64 : decode cX4_playRaid 64 = .ok (.iconst 2, 1) := by decide +kernel
theorem dX4_playRaid_65 : decode cX4_playRaid 65 = .ok (.invokevirtual 124, 3) := by decide +kernel
theorem dX4_playRaid_68 : decode cX4_playRaid 68 = .ok (.ifCond .ne 7, 3) := by decide +kernel
theorem dX4_playRaid_71 : decode cX4_playRaid 71 = .ok (.iconst 1, 1) := by decide +kernel
theorem dX4_playRaid_72 : decode cX4_playRaid 72 = .ok (.goto 4, 3) := by decide +kernel
theorem dX4_playRaid_75 : decode cX4_playRaid 75 = .ok (.iconst 0, 1) := by decide +kernel
theorem dX4_playRaid_76 : decode cX4_playRaid 76 = .ok (.istore 6, 2) := by decide +kernel
theorem dX4_playRaid_78 : decode cX4_playRaid 78 = .ok (.iconst 0, 1) := by decide +kernel
theorem dX4_playRaid_79 : decode cX4_playRaid 79 = .ok (.istore 7, 2) := by decide +kernel
theorem dX4_playRaid_81 : decode cX4_playRaid 81 = .ok (.aload_n 1, 1) := by decide +kernel
theorem dX4_playRaid_82 : decode cX4_playRaid 82 = .ok (.invokevirtual 130, 3) := by decide +kernel
theorem dX4_playRaid_85 : decode cX4_playRaid 85 = .ok (.iconst 3, 1) := by decide +kernel
theorem dX4_playRaid_86 : decode cX4_playRaid 86 = .ok (.if_icmp .eq 50, 3) := by decide +kernel
theorem dX4_playRaid_89 : decode cX4_playRaid 89 = .ok (.aload_n 1, 1) := by decide +kernel
theorem dX4_playRaid_90 : decode cX4_playRaid 90 = .ok (.invokevirtual 130, 3) := by decide +kernel
theorem dX4_playRaid_93 : decode cX4_playRaid 93 = .ok (.iconst 4, 1) := by decide +kernel
theorem dX4_playRaid_94 : decode cX4_playRaid 94 = .ok (.if_icmp .ne 15, 3) := by decide +kernel
theorem dX4_playRaid_97 : decode cX4_playRaid 97 = .ok (.aload_n 3, 1) := by decide +kernel
theorem dX4_playRaid_98 : decode cX4_playRaid 98 = .ok (.invokevirtual 127, 3) := by decide +kernel
theorem dX4_playRaid_101 : decode cX4_playRaid 101 = .ok (.iconst 3, 1) := by decide +kernel
theorem dX4_playRaid_102 : decode cX4_playRaid 102 = .ok (.if_icmp .gt 7, 3) := by decide +kernel
theorem dX4_playRaid_105 : decode cX4_playRaid 105 = .ok (.iconst 2, 1) := by decide +kernel
theorem dX4_playRaid_106 : decode cX4_playRaid 106 = .ok (.goto 4, 3) := by decide +kernel
theorem dX4_playRaid_109 : decode cX4_playRaid 109 = .ok (.iconst 1, 1) := by decide +kernel
theorem dX4_playRaid_110 : decode cX4_playRaid 110 = .ok (.istore 8, 2) := by decide +kernel
theorem dX4_playRaid_112 : decode cX4_playRaid 112 = .ok (.aload_n 2, 1) := by decide +kernel
theorem dX4_playRaid_113 : decode cX4_playRaid 113 = .ok (.aload_n 1, 1) := by decide +kernel
theorem dX4_playRaid_114 : decode cX4_playRaid 114 = .ok (.getfield 61, 3) := by decide +kernel
theorem dX4_playRaid_117 : decode cX4_playRaid 117 = .ok (.iload 5, 2) := by decide +kernel
theorem dX4_playRaid_119 : decode cX4_playRaid 119 = .ok (.invokevirtual 133, 3) := by decide +kernel
theorem dX4_playRaid_122 : decode cX4_playRaid 122 = .ok (.aload_n 2, 1) := by decide +kernel
theorem dX4_playRaid_123 : decode cX4_playRaid 123 = .ok (.aload_n 3, 1) := by decide +kernel
theorem dX4_playRaid_124 : decode cX4_playRaid 124 = .ok (.aload_n 1, 1) := by decide +kernel
theorem dX4_playRaid_125 : decode cX4_playRaid 125 = .ok (.getfield 61, 3) := by decide +kernel
theorem dX4_playRaid_128 : decode cX4_playRaid 128 = .ok (.iload 8, 2) := by decide +kernel
theorem dX4_playRaid_130 : decode cX4_playRaid 130 = .ok (.invokestatic 136, 3) := by decide +kernel
theorem dX4_playRaid_133 : decode cX4_playRaid 133 = .ok (.goto 66, 3) := by decide +kernel
theorem dX4_playRaid_136 : decode cX4_playRaid 136 = .ok (.iload 4, 2) := by decide +kernel
theorem dX4_playRaid_138 : decode cX4_playRaid 138 = .ok (.iload 5, 2) := by decide +kernel
theorem dX4_playRaid_140 : decode cX4_playRaid 140 = .ok (.iadd, 1) := by decide +kernel
theorem dX4_playRaid_141 : decode cX4_playRaid 141 = .ok (.ifCond .le 30, 3) := by decide +kernel
theorem dX4_playRaid_144 : decode cX4_playRaid 144 = .ok (.aload_n 2, 1) := by decide +kernel
theorem dX4_playRaid_145 : decode cX4_playRaid 145 = .ok (.aload_n 1, 1) := by decide +kernel
theorem dX4_playRaid_146 : decode cX4_playRaid 146 = .ok (.getfield 61, 3) := by decide +kernel
theorem dX4_playRaid_149 : decode cX4_playRaid 149 = .ok (.iload 4, 2) := by decide +kernel
theorem dX4_playRaid_151 : decode cX4_playRaid 151 = .ok (.iload 5, 2) := by decide +kernel
theorem dX4_playRaid_153 : decode cX4_playRaid 153 = .ok (.iadd, 1) := by decide +kernel
theorem dX4_playRaid_154 : decode cX4_playRaid 154 = .ok (.invokevirtual 133, 3) := by decide +kernel
theorem dX4_playRaid_157 : decode cX4_playRaid 157 = .ok (.aload_n 1, 1) := by decide +kernel
theorem dX4_playRaid_158 : decode cX4_playRaid 158 = .ok (.aload_n 3, 1) := by decide +kernel
theorem dX4_playRaid_159 : decode cX4_playRaid 159 = .ok (.invokestatic 140, 3) := by decide +kernel
theorem dX4_playRaid_162 : decode cX4_playRaid 162 = .ok (.aload_n 2, 1) := by decide +kernel
theorem dX4_playRaid_163 : decode cX4_playRaid 163 = .ok (.iload 4, 2) := by decide +kernel
theorem dX4_playRaid_165 : decode cX4_playRaid 165 = .ok (.invokevirtual 144, 3) := by decide +kernel
theorem dX4_playRaid_168 : decode cX4_playRaid 168 = .ok (.goto 31, 3) := by decide +kernel
theorem dX4_playRaid_171 : decode cX4_playRaid 171 = .ok (.iload 6, 2) := by decide +kernel
theorem dX4_playRaid_173 : decode cX4_playRaid 173 = .ok (.ifCond .ne 10, 3) := by decide +kernel
theorem dX4_playRaid_176 : decode cX4_playRaid 176 = .ok (.aload_n 0, 1) := by decide +kernel
theorem dX4_playRaid_177 : decode cX4_playRaid 177 = .ok (.invokevirtual 147, 3) := by decide +kernel
theorem dX4_playRaid_180 : decode cX4_playRaid 180 = .ok (.ifCond .eq 16, 3) := by decide +kernel
theorem dX4_playRaid_183 : decode cX4_playRaid 183 = .ok (.aload_n 2, 1) := by decide +kernel
theorem dX4_playRaid_184 : decode cX4_playRaid 184 = .ok (.aload_n 3, 1) := by decide +kernel
theorem dX4_playRaid_185 : decode cX4_playRaid 185 = .ok (.aload_n 1, 1) := by decide +kernel
theorem dX4_playRaid_186 : decode cX4_playRaid 186 = .ok (.getfield 61, 3) := by decide +kernel
theorem dX4_playRaid_189 : decode cX4_playRaid 189 = .ok (.iconst 1, 1) := by decide +kernel
theorem dX4_playRaid_190 : decode cX4_playRaid 190 = .ok (.invokestatic 136, 3) := by decide +kernel
theorem dX4_playRaid_193 : decode cX4_playRaid 193 = .ok (.goto 6, 3) := by decide +kernel
theorem dX4_playRaid_196 : decode cX4_playRaid 196 = .ok (.iconst 1, 1) := by decide +kernel
theorem dX4_playRaid_197 : decode cX4_playRaid 197 = .ok (.istore 7, 2) := by decide +kernel
theorem dX4_playRaid_199 : decode cX4_playRaid 199 = .ok (.aload_n 2, 1) := by decide +kernel
theorem dX4_playRaid_200 : decode cX4_playRaid 200 = .ok (.iload 7, 2) := by decide +kernel
theorem dX4_playRaid_202 : decode cX4_playRaid 202 = .ok (.ifCond .eq 12, 3) := by decide +kernel
theorem dX4_playRaid_205 : decode cX4_playRaid 205 = .ok (.aload_n 2, 1) := by decide +kernel
theorem dX4_playRaid_206 : decode cX4_playRaid 206 = .ok (.getfield 39, 3) := by decide +kernel
theorem dX4_playRaid_209 : decode cX4_playRaid 209 = .ok (.iconst 1, 1) := by decide +kernel
theorem dX4_playRaid_210 : decode cX4_playRaid 210 = .ok (.iadd, 1) := by decide +kernel
theorem dX4_playRaid_211 : decode cX4_playRaid 211 = .ok (.goto 4, 3) := by decide +kernel
theorem dX4_playRaid_214 : decode cX4_playRaid 214 = .ok (.iconst 0, 1) := by decide +kernel
theorem dX4_playRaid_215 : decode cX4_playRaid 215 = .ok (.putfield 39, 3) := by decide +kernel
theorem dX4_playRaid_218 : decode cX4_playRaid 218 = .ok (.aload_n 0, 1) := by decide +kernel
theorem dX4_playRaid_219 : decode cX4_playRaid 219 = .ok (.iconst 0, 1) := by decide +kernel
theorem dX4_playRaid_220 : decode cX4_playRaid 220 = .ok (.invokevirtual 117, 3) := by decide +kernel
theorem dX4_playRaid_223 : decode cX4_playRaid 223 = .ok (.aload_n 0, 1) := by decide +kernel
theorem dX4_playRaid_224 : decode cX4_playRaid 224 = .ok (.iconst 1, 1) := by decide +kernel
theorem dX4_playRaid_225 : decode cX4_playRaid 225 = .ok (.invokevirtual 117, 3) := by decide +kernel
theorem dX4_playRaid_228 : decode cX4_playRaid 228 = .ok (.aload_n 0, 1) := by decide +kernel
theorem dX4_playRaid_229 : decode cX4_playRaid 229 = .ok (.aload_n 1, 1) := by decide +kernel
theorem dX4_playRaid_230 : decode cX4_playRaid 230 = .ok (.invokevirtual 151, 3) := by decide +kernel
theorem dX4_playRaid_233 : decode cX4_playRaid 233 = .ok (.invokevirtual 154, 3) := by decide +kernel
theorem dX4_playRaid_236 : decode cX4_playRaid 236 = .ok (.return_, 1) := by decide +kernel
theorem dX4_loseRaider_0 : decode cX4_loseRaider 0 = .ok (.aload_n 0, 1) := by decide +kernel
theorem dX4_loseRaider_1 : decode cX4_loseRaider 1 = .ok (.iload_n 2, 1) := by decide +kernel
theorem dX4_loseRaider_2 : decode cX4_loseRaider 2 = .ok (.invokevirtual 157, 3) := by decide +kernel
theorem dX4_loseRaider_5 : decode cX4_loseRaider 5 = .ok (.aload_n 1, 1) := by decide +kernel
theorem dX4_loseRaider_6 : decode cX4_loseRaider 6 = .ok (.dup, 1) := by decide +kernel
theorem dX4_loseRaider_7 : decode cX4_loseRaider 7 = .ok (.getfield 114, 3) := by decide +kernel
theorem dX4_loseRaider_10 : decode cX4_loseRaider 10 = .ok (.iload_n 3, 1) := by decide +kernel
theorem dX4_loseRaider_11 : decode cX4_loseRaider 11 = .ok (.iadd, 1) := by decide +kernel
theorem dX4_loseRaider_12 : decode cX4_loseRaider 12 = .ok (.putfield 114, 3) := by decide +kernel
theorem dX4_loseRaider_15 : decode cX4_loseRaider 15 = .ok (.aload_n 1, 1) := by decide +kernel
theorem dX4_loseRaider_16 : decode cX4_loseRaider 16 = .ok (.iconst 1, 1) := by decide +kernel
theorem dX4_loseRaider_17 : decode cX4_loseRaider 17 = .ok (.invokevirtual 144, 3) := by decide +kernel
theorem dX4_loseRaider_20 : decode cX4_loseRaider 20 = .ok (.return_, 1) := by decide +kernel
theorem dX4_sendTouchedOut_0 : decode cX4_sendTouchedOut 0 = .ok (.iconst 0, 1) := by decide +kernel
theorem dX4_sendTouchedOut_1 : decode cX4_sendTouchedOut 1 = .ok (.istore_n 2, 1) := by decide +kernel
theorem dX4_sendTouchedOut_2 : decode cX4_sendTouchedOut 2 = .ok (.iload_n 2, 1) := by decide +kernel
theorem dX4_sendTouchedOut_3 : decode cX4_sendTouchedOut 3 = .ok (.aload_n 0, 1) := by decide +kernel
theorem dX4_sendTouchedOut_4 : decode cX4_sendTouchedOut 4 = .ok (.getfield 78, 3) := by decide +kernel
theorem dX4_sendTouchedOut_7 : decode cX4_sendTouchedOut 7 = .ok (.if_icmp .ge 32, 3) := by decide +kernel
theorem dX4_sendTouchedOut_10 : decode cX4_sendTouchedOut 10 = .ok (.iload_n 2, 1) := by decide +kernel
theorem dX4_sendTouchedOut_11 : decode cX4_sendTouchedOut 11 = .ok (.bipush 10, 2) := by decide +kernel
theorem dX4_sendTouchedOut_13 : decode cX4_sendTouchedOut 13 = .ok (.if_icmp .ge 26, 3) := by decide +kernel
theorem dX4_sendTouchedOut_16 : decode cX4_sendTouchedOut 16 = .ok (.aload_n 0, 1) := by decide +kernel
theorem dX4_sendTouchedOut_17 : decode cX4_sendTouchedOut 17 = .ok (.iload_n 2, 1) := by decide +kernel
theorem dX4_sendTouchedOut_18 : decode cX4_sendTouchedOut 18 = .ok (.invokevirtual 81, 3) := by decide +kernel
theorem dX4_sendTouchedOut_21 : decode cX4_sendTouchedOut 21 = .ok (.ifCond .ne 12, 3) := by decide +kernel
theorem dX4_sendTouchedOut_24 : decode cX4_sendTouchedOut 24 = .ok (.aload_n 1, 1) := by decide +kernel
theorem dX4_sendTouchedOut_25 : decode cX4_sendTouchedOut 25 = .ok (.aload_n 0, 1) := by decide +kernel
theorem dX4_sendTouchedOut_26 : decode cX4_sendTouchedOut 26 = .ok (.iload_n 2, 1) := by decide +kernel
theorem dX4_sendTouchedOut_27 : decode cX4_sendTouchedOut 27 = .ok (.invokevirtual 85, 3) := by decide +kernel
theorem dX4_sendTouchedOut_30 : decode cX4_sendTouchedOut 30 = .ok (.invokevirtual 157, 3) := by decide +kernel
theorem dX4_sendTouchedOut_33 : decode cX4_sendTouchedOut 33 = .ok (.iinc 2 1, 3) := by decide +kernel
theorem dX4_sendTouchedOut_36 : decode cX4_sendTouchedOut 36 = .ok (.goto (-34), 3) := by decide +kernel
theorem dX4_sendTouchedOut_39 : decode cX4_sendTouchedOut 39 = .ok (.return_, 1) := by decide +kernel
theorem dX4_passTime_0 : decode cX4_passTime 0 = .ok (.aload_n 0, 1) := by decide +kernel
theorem dX4_passTime_1 : decode cX4_passTime 1 = .ok (.dup, 1) := by decide +kernel
theorem dX4_passTime_2 : decode cX4_passTime 2 = .ok (.getfield 24, 3) := by decide +kernel
theorem dX4_passTime_5 : decode cX4_passTime 5 = .ok (.iload_n 1, 1) := by decide +kernel
theorem dX4_passTime_6 : decode cX4_passTime 6 = .ok (.iadd, 1) := by decide +kernel
theorem dX4_passTime_7 : decode cX4_passTime 7 = .ok (.putfield 24, 3) := by decide +kernel
theorem dX4_passTime_10 : decode cX4_passTime 10 = .ok (.aload_n 0, 1) := by decide +kernel
theorem dX4_passTime_11 : decode cX4_passTime 11 = .ok (.dup, 1) := by decide +kernel
theorem dX4_passTime_12 : decode cX4_passTime 12 = .ok (.getfield 28, 3) := by decide +kernel
theorem dX4_passTime_15 : decode cX4_passTime 15 = .ok (.iconst 1, 1) := by decide +kernel
theorem dX4_passTime_16 : decode cX4_passTime 16 = .ok (.iadd, 1) := by decide +kernel
theorem dX4_passTime_17 : decode cX4_passTime 17 = .ok (.putfield 28, 3) := by decide +kernel
theorem dX4_passTime_20 : decode cX4_passTime 20 = .ok (.aload_n 0, 1) := by decide +kernel
theorem dX4_passTime_21 : decode cX4_passTime 21 = .ok (.getfield 12, 3) := by decide +kernel
theorem dX4_passTime_24 : decode cX4_passTime 24 = .ok (.aload_n 0, 1) := by decide +kernel
theorem dX4_passTime_25 : decode cX4_passTime 25 = .ok (.getfield 24, 3) := by decide +kernel
theorem dX4_passTime_28 : decode cX4_passTime 28 = .ok (.invokevirtual 160, 3) := by decide +kernel
theorem dX4_passTime_31 : decode cX4_passTime 31 = .ok (.aload_n 0, 1) := by decide +kernel
theorem dX4_passTime_32 : decode cX4_passTime 32 = .ok (.getfield 18, 3) := by decide +kernel
theorem dX4_passTime_35 : decode cX4_passTime 35 = .ok (.aload_n 0, 1) := by decide +kernel
theorem dX4_passTime_36 : decode cX4_passTime 36 = .ok (.getfield 24, 3) := by decide +kernel
theorem dX4_passTime_39 : decode cX4_passTime 39 = .ok (.invokevirtual 160, 3) := by decide +kernel
theorem dX4_passTime_42 : decode cX4_passTime 42 = .ok (.return_, 1) := by decide +kernel
theorem dX4_endAllOut_0 : decode cX4_endAllOut 0 = .ok (.aload_n 0, 1) := by decide +kernel
theorem dX4_endAllOut_1 : decode cX4_endAllOut 1 = .ok (.iload_n 1, 1) := by decide +kernel
theorem dX4_endAllOut_2 : decode cX4_endAllOut 2 = .ok (.invokevirtual 35, 3) := by decide +kernel
theorem dX4_endAllOut_5 : decode cX4_endAllOut 5 = .ok (.astore_n 2, 1) := by decide +kernel
theorem dX4_endAllOut_6 : decode cX4_endAllOut 6 = .ok (.aload_n 2, 1) := by decide +kernel
theorem dX4_endAllOut_7 : decode cX4_endAllOut 7 = .ok (.iconst 0, 1) := by decide +kernel
theorem dX4_endAllOut_8 : decode cX4_endAllOut 8 = .ok (.invokevirtual 163, 3) := by decide +kernel
theorem dX4_endAllOut_11 : decode cX4_endAllOut 11 = .ok (.ifCond .ne 25, 3) := by decide +kernel
theorem dX4_endAllOut_14 : decode cX4_endAllOut 14 = .ok (.aload_n 0, 1) := by decide +kernel
theorem dX4_endAllOut_15 : decode cX4_endAllOut 15 = .ok (.iconst 1, 1) := by decide +kernel
theorem dX4_endAllOut_16 : decode cX4_endAllOut 16 = .ok (.iload_n 1, 1) := by decide +kernel
theorem dX4_endAllOut_17 : decode cX4_endAllOut 17 = .ok (.isub, 1) := by decide +kernel
theorem dX4_endAllOut_18 : decode cX4_endAllOut 18 = .ok (.invokevirtual 35, 3) := by decide +kernel
theorem dX4_endAllOut_21 : decode cX4_endAllOut 21 = .ok (.dup, 1) := by decide +kernel
theorem dX4_endAllOut_22 : decode cX4_endAllOut 22 = .ok (.getfield 114, 3) := by decide +kernel
theorem dX4_endAllOut_25 : decode cX4_endAllOut 25 = .ok (.iconst 2, 1) := by decide +kernel
theorem dX4_endAllOut_26 : decode cX4_endAllOut 26 = .ok (.iadd, 1) := by decide +kernel
theorem dX4_endAllOut_27 : decode cX4_endAllOut 27 = .ok (.putfield 114, 3) := by decide +kernel
theorem dX4_endAllOut_30 : decode cX4_endAllOut 30 = .ok (.aload_n 2, 1) := by decide +kernel
theorem dX4_endAllOut_31 : decode cX4_endAllOut 31 = .ok (.bipush 10, 2) := by decide +kernel
theorem dX4_endAllOut_33 : decode cX4_endAllOut 33 = .ok (.invokevirtual 144, 3) := by decide +kernel
theorem dX4_endAllOut_36 : decode cX4_endAllOut 36 = .ok (.return_, 1) := by decide +kernel
theorem dX5_init_0 : decode cX5_init 0 = .ok (.aload_n 0, 1) := by decide +kernel
theorem dX5_init_1 : decode cX5_init 1 = .ok (.invokespecial 3, 3) := by decide +kernel
theorem dX5_init_4 : decode cX5_init 4 = .ok (.aload_n 0, 1) := by decide +kernel
theorem dX5_init_5 : decode cX5_init 5 = .ok (.bipush 60, 2) := by decide +kernel
theorem dX5_init_7 : decode cX5_init 7 = .ok (.newarray .int, 2) := by decide +kernel
theorem dX5_init_9 : decode cX5_init 9 = .ok (.putfield 9, 3) := by decide +kernel
theorem dX5_init_12 : decode cX5_init 12 = .ok (.return_, 1) := by decide +kernel
theorem dX5_hasRoom_0 : decode cX5_hasRoom 0 = .ok (.aload_n 0, 1) := by decide +kernel
theorem dX5_hasRoom_1 : decode cX5_hasRoom 1 = .ok (.getfield 15, 3) := by decide +kernel
theorem dX5_hasRoom_4 : decode cX5_hasRoom 4 = .ok (.bipush 60, 2) := by decide +kernel
theorem dX5_hasRoom_6 : decode cX5_hasRoom 6 = .ok (.if_icmp .ge 7, 3) := by decide +kernel
theorem dX5_hasRoom_9 : decode cX5_hasRoom 9 = .ok (.iconst 1, 1) := by decide +kernel
theorem dX5_hasRoom_10 : decode cX5_hasRoom 10 = .ok (.goto 4, 3) := by decide +kernel
theorem dX5_hasRoom_13 : decode cX5_hasRoom 13 = .ok (.iconst 0, 1) := by decide +kernel
theorem dX5_hasRoom_14 : decode cX5_hasRoom 14 = .ok (.ireturn, 1) := by decide +kernel
theorem dX5_put_0 : decode cX5_put 0 = .ok (.aload_n 0, 1) := by decide +kernel
theorem dX5_put_1 : decode cX5_put 1 = .ok (.getfield 15, 3) := by decide +kernel
theorem dX5_put_4 : decode cX5_put 4 = .ok (.ifCond .lt 32, 3) := by decide +kernel
theorem dX5_put_7 : decode cX5_put 7 = .ok (.aload_n 0, 1) := by decide +kernel
theorem dX5_put_8 : decode cX5_put 8 = .ok (.getfield 15, 3) := by decide +kernel
theorem dX5_put_11 : decode cX5_put 11 = .ok (.bipush 60, 2) := by decide +kernel
theorem dX5_put_13 : decode cX5_put 13 = .ok (.if_icmp .ge 23, 3) := by decide +kernel
theorem dX5_put_16 : decode cX5_put 16 = .ok (.aload_n 0, 1) := by decide +kernel
theorem dX5_put_17 : decode cX5_put 17 = .ok (.getfield 9, 3) := by decide +kernel
theorem dX5_put_20 : decode cX5_put 20 = .ok (.aload_n 0, 1) := by decide +kernel
theorem dX5_put_21 : decode cX5_put 21 = .ok (.getfield 15, 3) := by decide +kernel
theorem dX5_put_24 : decode cX5_put 24 = .ok (.iload_n 1, 1) := by decide +kernel
theorem dX5_put_25 : decode cX5_put 25 = .ok (.iastore, 1) := by decide +kernel
theorem dX5_put_26 : decode cX5_put 26 = .ok (.aload_n 0, 1) := by decide +kernel
theorem dX5_put_27 : decode cX5_put 27 = .ok (.dup, 1) := by decide +kernel
theorem dX5_put_28 : decode cX5_put 28 = .ok (.getfield 15, 3) := by decide +kernel
theorem dX5_put_31 : decode cX5_put 31 = .ok (.iconst 1, 1) := by decide +kernel
theorem dX5_put_32 : decode cX5_put 32 = .ok (.iadd, 1) := by decide +kernel
theorem dX5_put_33 : decode cX5_put 33 = .ok (.putfield 15, 3) := by decide +kernel
theorem dX5_put_36 : decode cX5_put 36 = .ok (.aload_n 0, 1) := by decide +kernel
theorem dX5_put_37 : decode cX5_put 37 = .ok (.getfield 15, 3) := by decide +kernel
theorem dX5_put_40 : decode cX5_put 40 = .ok (.ireturn, 1) := by decide +kernel
theorem dX5_wipe_0 : decode cX5_wipe 0 = .ok (.aload_n 0, 1) := by decide +kernel
theorem dX5_wipe_1 : decode cX5_wipe 1 = .ok (.getfield 15, 3) := by decide +kernel
theorem dX5_wipe_4 : decode cX5_wipe 4 = .ok (.istore_n 1, 1) := by decide +kernel
theorem dX5_wipe_5 : decode cX5_wipe 5 = .ok (.aload_n 0, 1) := by decide +kernel
theorem dX5_wipe_6 : decode cX5_wipe 6 = .ok (.iconst 0, 1) := by decide +kernel
theorem dX5_wipe_7 : decode cX5_wipe 7 = .ok (.putfield 15, 3) := by decide +kernel
theorem dX5_wipe_10 : decode cX5_wipe 10 = .ok (.iload_n 1, 1) := by decide +kernel
theorem dX5_wipe_11 : decode cX5_wipe 11 = .ok (.ireturn, 1) := by decide +kernel
theorem dX5_rewind_0 : decode cX5_rewind 0 = .ok (.aload_n 0, 1) := by decide +kernel
theorem dX5_rewind_1 : decode cX5_rewind 1 = .ok (.iconst 0, 1) := by decide +kernel
theorem dX5_rewind_2 : decode cX5_rewind 2 = .ok (.putfield 19, 3) := by decide +kernel
theorem dX5_rewind_5 : decode cX5_rewind 5 = .ok (.return_, 1) := by decide +kernel
theorem dX5_findFault_0 : decode cX5_findFault 0 = .ok (.aload_n 0, 1) := by decide +kernel
theorem dX5_findFault_1 : decode cX5_findFault 1 = .ok (.invokevirtual 22, 3) := by decide +kernel
theorem dX5_findFault_4 : decode cX5_findFault 4 = .ok (.iconst 0, 1) := by decide +kernel
theorem dX5_findFault_5 : decode cX5_findFault 5 = .ok (.istore_n 1, 1) := by decide +kernel
theorem dX5_findFault_6 : decode cX5_findFault 6 = .ok (.iload_n 1, 1) := by decide +kernel
theorem dX5_findFault_7 : decode cX5_findFault 7 = .ok (.bipush 60, 2) := by decide +kernel
theorem dX5_findFault_9 : decode cX5_findFault 9 = .ok (.if_icmp .ge 32, 3) := by decide +kernel
theorem dX5_findFault_12 : decode cX5_findFault 12 = .ok (.aload_n 0, 1) := by decide +kernel
theorem dX5_findFault_13 : decode cX5_findFault 13 = .ok (.getfield 19, 3) := by decide +kernel
theorem dX5_findFault_16 : decode cX5_findFault 16 = .ok (.aload_n 0, 1) := by decide +kernel
theorem dX5_findFault_17 : decode cX5_findFault 17 = .ok (.getfield 15, 3) := by decide +kernel
theorem dX5_findFault_20 : decode cX5_findFault 20 = .ok (.if_icmp .ge 21, 3) := by decide +kernel
theorem dX5_findFault_23 : decode cX5_findFault 23 = .ok (.aload_n 0, 1) := by decide +kernel
theorem dX5_findFault_24 : decode cX5_findFault 24 = .ok (.invokevirtual 25, 3) := by decide +kernel
theorem dX5_findFault_27 : decode cX5_findFault 27 = .ok (.ifCond .ne 8, 3) := by decide +kernel
theorem dX5_findFault_30 : decode cX5_findFault 30 = .ok (.aload_n 0, 1) := by decide +kernel
theorem dX5_findFault_31 : decode cX5_findFault 31 = .ok (.getfield 19, 3) := by decide +kernel
theorem dX5_findFault_34 : decode cX5_findFault 34 = .ok (.ireturn, 1) := by decide +kernel
theorem dX5_findFault_35 : decode cX5_findFault 35 = .ok (.iinc 1 1, 3) := by decide +kernel
theorem dX5_findFault_38 : decode cX5_findFault 38 = .ok (.goto (-32), 3) := by decide +kernel
theorem dX5_findFault_41 : decode cX5_findFault 41 = .ok (.iconst (-1), 1) := by decide +kernel
theorem dX5_findFault_42 : decode cX5_findFault 42 = .ok (.ireturn, 1) := by decide +kernel
theorem dX5_readOrder_0 : decode cX5_readOrder 0 = .ok (.aload_n 0, 1) := by decide +kernel
theorem dX5_readOrder_1 : decode cX5_readOrder 1 = .ok (.iconst (-1), 1) := by decide +kernel
theorem dX5_readOrder_2 : decode cX5_readOrder 2 = .ok (.putfield 29, 3) := by decide +kernel
theorem dX5_readOrder_5 : decode cX5_readOrder 5 = .ok (.aload_n 0, 1) := by decide +kernel
theorem dX5_readOrder_6 : decode cX5_readOrder 6 = .ok (.invokevirtual 32, 3) := by decide +kernel
theorem dX5_readOrder_9 : decode cX5_readOrder 9 = .ok (.ifCond .ne 5, 3) := by decide +kernel
theorem dX5_readOrder_12 : decode cX5_readOrder 12 = .ok (.iconst 0, 1) := by decide +kernel
theorem dX5_readOrder_13 : decode cX5_readOrder 13 = .ok (.ireturn, 1) := by decide +kernel
theorem dX5_readOrder_14 : decode cX5_readOrder 14 = .ok (.aload_n 0, 1) := by decide +kernel
theorem dX5_readOrder_15 : decode cX5_readOrder 15 = .ok (.getfield 35, 3) := by decide +kernel
theorem dX5_readOrder_18 : decode cX5_readOrder 18 = .ok (.bipush 7, 2) := by decide +kernel
theorem dX5_readOrder_20 : decode cX5_readOrder 20 = .ok (.if_icmp .eq 10, 3) := by decide +kernel
theorem dX5_readOrder_23 : decode cX5_readOrder 23 = .ok (.aload_n 0, 1) := by decide +kernel
theorem dX5_readOrder_24 : decode cX5_readOrder 24 = .ok (.getfield 35, 3) := by decide +kernel
theorem dX5_readOrder_27 : decode cX5_readOrder 27 = .ok (.ifCond .ne 12, 3) := by decide +kernel
theorem dX5_readOrder_30 : decode cX5_readOrder 30 = .ok (.aload_n 0, 1) := by decide +kernel
theorem dX5_readOrder_31 : decode cX5_readOrder 31 = .ok (.invokevirtual 38, 3) := by decide +kernel
theorem dX5_readOrder_34 : decode cX5_readOrder 34 = .ok (.ifCond .ne 5, 3) := by decide +kernel
theorem dX5_readOrder_37 : decode cX5_readOrder 37 = .ok (.iconst 0, 1) := by decide +kernel
theorem dX5_readOrder_38 : decode cX5_readOrder 38 = .ok (.ireturn, 1) := by decide +kernel
theorem dX5_readOrder_39 : decode cX5_readOrder 39 = .ok (.aload_n 0, 1) := by decide +kernel
theorem dX5_readOrder_40 : decode cX5_readOrder 40 = .ok (.getfield 35, 3) := by decide +kernel
theorem dX5_readOrder_43 : decode cX5_readOrder 43 = .ok (.bipush 7, 2) := by decide +kernel
theorem dX5_readOrder_45 : decode cX5_readOrder 45 = .ok (.if_icmp .eq 21, 3) := by decide +kernel
theorem dX5_readOrder_48 : decode cX5_readOrder 48 = .ok (.aload_n 0, 1) := by decide +kernel
theorem dX5_readOrder_49 : decode cX5_readOrder 49 = .ok (.bipush 64, 2) := by decide +kernel
theorem dX5_readOrder_51 : decode cX5_readOrder 51 = .ok (.invokevirtual 41, 3) := by decide +kernel
theorem dX5_readOrder_54 : decode cX5_readOrder 54 = .ok (.ifCond .eq 10, 3) := by decide +kernel
theorem dX5_readOrder_57 : decode cX5_readOrder 57 = .ok (.aload_n 0, 1) := by decide +kernel
theorem dX5_readOrder_58 : decode cX5_readOrder 58 = .ok (.invokevirtual 45, 3) := by decide +kernel
theorem dX5_readOrder_61 : decode cX5_readOrder 61 = .ok (.ifCond .ne 5, 3) := by decide +kernel
theorem dX5_readOrder_64 : decode cX5_readOrder 64 = .ok (.iconst 0, 1) := by decide +kernel
theorem dX5_readOrder_65 : decode cX5_readOrder 65 = .ok (.ireturn, 1) := by decide +kernel
theorem dX5_readOrder_66 : decode cX5_readOrder 66 = .ok (.aload_n 0, 1) := by decide +kernel
theorem dX5_readOrder_67 : decode cX5_readOrder 67 = .ok (.bipush 59, 2) := by decide +kernel
theorem dX5_readOrder_69 : decode cX5_readOrder 69 = .ok (.invokevirtual 41, 3) := by decide +kernel
theorem dX5_readOrder_72 : decode cX5_readOrder 72 = .ok (.ireturn, 1) := by decide +kernel
theorem dX5_readWord_0 : decode cX5_readWord 0 = .ok (.sipush 255, 3) := by decide +kernel
theorem dX5_readWord_3 : decode cX5_readWord 3 = .ok (.istore_n 1, 1) := by decide +kernel
theorem dX5_readWord_4 : decode cX5_readWord 4 = .ok (.iconst 0, 1) := by decide +kernel
theorem dX5_readWord_5 : decode cX5_readWord 5 = .ok (.istore_n 2, 1) := by decide +kernel
theorem dX5_readWord_6 : decode cX5_readWord 6 = .ok (.iload_n 2, 1) := by decide +kernel
theorem dX5_readWord_7 : decode cX5_readWord 7 = .ok (.bipush 60, 2) := by decide +kernel
theorem dX5_readWord_9 : decode cX5_readWord 9 = .ok (.if_icmp .ge 73, 3) := by decide +kernel
theorem dX5_readWord_12 : decode cX5_readWord 12 = .ok (.aload_n 0, 1) := by decide +kernel
theorem dX5_readWord_13 : decode cX5_readWord 13 = .ok (.iload_n 1, 1) := by decide +kernel
theorem dX5_readWord_14 : decode cX5_readWord 14 = .ok (.iload_n 2, 1) := by decide +kernel
theorem dX5_readWord_15 : decode cX5_readWord 15 = .ok (.invokevirtual 48, 3) := by decide +kernel
theorem dX5_readWord_18 : decode cX5_readWord 18 = .ok (.istore_n 1, 1) := by decide +kernel
theorem dX5_readWord_19 : decode cX5_readWord 19 = .ok (.iload_n 1, 1) := by decide +kernel
theorem dX5_readWord_20 : decode cX5_readWord 20 = .ok (.ifCond .ne 5, 3) := by decide +kernel
theorem dX5_readWord_23 : decode cX5_readWord 23 = .ok (.iconst 0, 1) := by decide +kernel
theorem dX5_readWord_24 : decode cX5_readWord 24 = .ok (.ireturn, 1) := by decide +kernel
theorem dX5_readWord_25 : decode cX5_readWord 25 = .ok (.aload_n 0, 1) := by decide +kernel
theorem dX5_readWord_26 : decode cX5_readWord 26 = .ok (.dup, 1) := by decide +kernel
theorem dX5_readWord_27 : decode cX5_readWord 27 = .ok (.getfield 19, 3) := by decide +kernel
theorem dX5_readWord_30 : decode cX5_readWord 30 = .ok (.iconst 1, 1) := by decide +kernel
theorem dX5_readWord_31 : decode cX5_readWord 31 = .ok (.iadd, 1) := by decide +kernel
theorem dX5_readWord_32 : decode cX5_readWord 32 = .ok (.putfield 19, 3) := by decide +kernel
theorem dX5_readWord_35 : decode cX5_readWord 35 = .ok (.iconst 0, 1) := by decide +kernel
theorem dX5_readWord_36 : decode cX5_readWord 36 = .ok (.istore_n 3, 1) := by decide +kernel
theorem dX5_readWord_37 : decode cX5_readWord 37 = .ok (.iload_n 3, 1) := by decide +kernel
theorem dX5_readWord_38 : decode cX5_readWord 38 = .ok (.bipush 8, 2) := by decide +kernel
theorem dX5_readWord_40 : decode cX5_readWord 40 = .ok (.if_icmp .ge 36, 3) := by decide +kernel
theorem dX5_readWord_43 : decode cX5_readWord 43 = .ok (.iload_n 1, 1) := by decide +kernel
theorem dX5_readWord_44 : decode cX5_readWord 44 = .ok (.iconst 1, 1) := by decide +kernel
theorem dX5_readWord_45 : decode cX5_readWord 45 = .ok (.iload_n 3, 1) := by decide +kernel
theorem dX5_readWord_46 : decode cX5_readWord 46 = .ok (.ishl, 1) := by decide +kernel
theorem dX5_readWord_47 : decode cX5_readWord 47 = .ok (.if_icmp .ne 23, 3) := by decide +kernel
theorem dX5_readWord_50 : decode cX5_readWord 50 = .ok (.iload_n 3, 1) := by decide +kernel
theorem dX5_readWord_51 : decode cX5_readWord 51 = .ok (.invokestatic 52, 3) := by decide +kernel
theorem dX5_readWord_54 : decode cX5_readWord 54 = .ok (.invokevirtual 56, 3) := by decide +kernel
theorem dX5_readWord_57 : decode cX5_readWord 57 = .ok (.iload_n 2, 1) := by decide +kernel
theorem dX5_readWord_58 : decode cX5_readWord 58 = .ok (.iconst 1, 1) := by decide +kernel
theorem dX5_readWord_59 : decode cX5_readWord 59 = .ok (.iadd, 1) := by decide +kernel
theorem dX5_readWord_60 : decode cX5_readWord 60 = .ok (.if_icmp .ne 10, 3) := by decide +kernel
theorem dX5_readWord_63 : decode cX5_readWord 63 = .ok (.aload_n 0, 1) := by decide +kernel
theorem dX5_readWord_64 : decode cX5_readWord 64 = .ok (.iload_n 3, 1) := by decide +kernel
theorem dX5_readWord_65 : decode cX5_readWord 65 = .ok (.putfield 35, 3) := by decide +kernel
theorem dX5_readWord_68 : decode cX5_readWord 68 = .ok (.iconst 1, 1) := by decide +kernel
theorem dX5_readWord_69 : decode cX5_readWord 69 = .ok (.ireturn, 1) := by decide +kernel
theorem dX5_readWord_70 : decode cX5_readWord 70 = .ok (.iinc 3 1, 3) := by decide +kernel
theorem dX5_readWord_73 : decode cX5_readWord 73 = .ok (.goto (-36), 3) := by decide +kernel
theorem dX5_readWord_76 : decode cX5_readWord 76 = .ok (.iinc 2 1, 3) := by decide +kernel
theorem dX5_readWord_79 : decode cX5_readWord 79 = .ok (.goto (-73), 3) := by decide +kernel
theorem dX5_readWord_82 : decode cX5_readWord 82 = .ok (.iconst 0, 1) := by decide +kernel
theorem dX5_readWord_83 : decode cX5_readWord 83 = .ok (.ireturn, 1) := by decide +kernel
theorem dX5_keepFitting_0 : decode cX5_keepFitting 0 = .ok (.iconst 0, 1) := by decide +kernel
theorem dX5_keepFitting_1 : decode cX5_keepFitting 1 = .ok (.istore_n 3, 1) := by decide +kernel
theorem dX5_keepFitting_2 : decode cX5_keepFitting 2 = .ok (.aload_n 0, 1) := by decide +kernel
theorem dX5_keepFitting_3 : decode cX5_keepFitting 3 = .ok (.invokevirtual 62, 3) := by decide +kernel
theorem dX5_keepFitting_6 : decode cX5_keepFitting 6 = .ok (.istore 4, 2) := by decide +kernel
theorem dX5_keepFitting_8 : decode cX5_keepFitting 8 = .ok (.iconst 0, 1) := by decide +kernel
theorem dX5_keepFitting_9 : decode cX5_keepFitting 9 = .ok (.istore 5, 2) := by decide +kernel
theorem dX5_keepFitting_11 : decode cX5_keepFitting 11 = .ok (.iload 5, 2) := by decide +kernel
theorem dX5_keepFitting_13 : decode cX5_keepFitting 13 = .ok (.bipush 8, 2) := by decide +kernel
theorem dX5_keepFitting_15 : decode cX5_keepFitting 15 = .ok (.if_icmp .ge 53, 3) := by decide +kernel
theorem dX5_keepFitting_18 : decode cX5_keepFitting 18 = .ok (.iload 5, 2) := by decide +kernel
theorem dX5_keepFitting_20 : decode cX5_keepFitting 20 = .ok (.invokestatic 52, 3) := by decide +kernel
theorem dX5_keepFitting_23 : decode cX5_keepFitting 23 = .ok (.astore 6, 2) := by decide +kernel
theorem dX5_keepFitting_25 : decode cX5_keepFitting 25 = .ok (.iload_n 1, 1) := by decide +kernel
theorem dX5_keepFitting_26 : decode cX5_keepFitting 26 = .ok (.iload 5, 2) := by decide +kernel
theorem dX5_keepFitting_28 : decode cX5_keepFitting 28 = .ok (.ishr, 1) := by decide +kernel
theorem dX5_keepFitting_29 : decode cX5_keepFitting 29 = .ok (.iconst 1, 1) := by decide +kernel
theorem dX5_keepFitting_30 : decode cX5_keepFitting 30 = .ok (.iand, 1) := by decide +kernel
theorem dX5_keepFitting_31 : decode cX5_keepFitting 31 = .ok (.iconst 1, 1) := by decide +kernel
theorem dX5_keepFitting_32 : decode cX5_keepFitting 32 = .ok (.if_icmp .ne 30, 3) := by decide +kernel
theorem dX5_keepFitting_35 : decode cX5_keepFitting 35 = .ok (.iload_n 2, 1) := by decide +kernel
theorem dX5_keepFitting_36 : decode cX5_keepFitting 36 = .ok (.aload 6, 2) := by decide +kernel
theorem dX5_keepFitting_38 : decode cX5_keepFitting 38 = .ok (.invokevirtual 56, 3) := by decide +kernel
theorem dX5_keepFitting_41 : decode cX5_keepFitting 41 = .ok (.if_icmp .ge 21, 3) := by decide +kernel
theorem dX5_keepFitting_44 : decode cX5_keepFitting 44 = .ok (.aload 6, 2) := by decide +kernel
theorem dX5_keepFitting_46 : decode cX5_keepFitting 46 = .ok (.iload_n 2, 1) := by decide +kernel
theorem dX5_keepFitting_47 : decode cX5_keepFitting 47 = .ok (.invokevirtual 65, 3) := by decide +kernel
theorem dX5_keepFitting_50 : decode cX5_keepFitting 50 = .ok (.iload 4, 2) := by decide +kernel
theorem dX5_keepFitting_52 : decode cX5_keepFitting 52 = .ok (.if_icmp .ne 10, 3) := by decide +kernel
theorem dX5_keepFitting_55 : decode cX5_keepFitting 55 = .ok (.iload_n 3, 1) := by decide +kernel
theorem dX5_keepFitting_56 : decode cX5_keepFitting 56 = .ok (.iconst 1, 1) := by decide +kernel
theorem dX5_keepFitting_57 : decode cX5_keepFitting 57 = .ok (.iload 5, 2) := by decide +kernel
theorem dX5_keepFitting_59 : decode cX5_keepFitting 59 = .ok (.ishl, 1) := by decide +kernel
theorem dX5_keepFitting_60 : decode cX5_keepFitting 60 = .ok (.ior, 1) := by decide +kernel
theorem dX5_keepFitting_61 : decode cX5_keepFitting 61 = .ok (.istore_n 3, 1) := by decide +kernel
theorem dX5_keepFitting_62 : decode cX5_keepFitting 62 = .ok (.iinc 5 1, 3) := by decide +kernel
theorem dX5_keepFitting_65 : decode cX5_keepFitting 65 = .ok (.goto (-54), 3) := by decide +kernel
theorem dX5_keepFitting_68 : decode cX5_keepFitting 68 = .ok (.iload_n 3, 1) := by decide +kernel
theorem dX5_keepFitting_69 : decode cX5_keepFitting 69 = .ok (.ireturn, 1) := by decide +kernel
theorem dX5_textOf_0 : decode cX5_textOf 0 = .ok (.iload_n 0, 1) := by decide +kernel
theorem dX5_textOf_1 : decode cX5_textOf 1 = .ok (.tableswitch 64 0 6 #[43, 46, 49, 52, 55, 58, 61], 43) := by decide +kernel
theorem dX5_textOf_44 : decode cX5_textOf 44 = .ok (.ldc 69, 2) := by decide +kernel
theorem dX5_textOf_46 : decode cX5_textOf 46 = .ok (.areturn, 1) := by decide +kernel
theorem dX5_textOf_47 : decode cX5_textOf 47 = .ok (.ldc 71, 2) := by decide +kernel
theorem dX5_textOf_49 : decode cX5_textOf 49 = .ok (.areturn, 1) := by decide +kernel
theorem dX5_textOf_50 : decode cX5_textOf 50 = .ok (.ldc 73, 2) := by decide +kernel
theorem dX5_textOf_52 : decode cX5_textOf 52 = .ok (.areturn, 1) := by decide +kernel
theorem dX5_textOf_53 : decode cX5_textOf 53 = .ok (.ldc 75, 2) := by decide +kernel
theorem dX5_textOf_55 : decode cX5_textOf 55 = .ok (.areturn, 1) := by decide +kernel
theorem dX5_textOf_56 : decode cX5_textOf 56 = .ok (.ldc 77, 2) := by decide +kernel
theorem dX5_textOf_58 : decode cX5_textOf 58 = .ok (.areturn, 1) := by decide +kernel
theorem dX5_textOf_59 : decode cX5_textOf 59 = .ok (.ldc 79, 2) := by decide +kernel
theorem dX5_textOf_61 : decode cX5_textOf 61 = .ok (.areturn, 1) := by decide +kernel
theorem dX5_textOf_62 : decode cX5_textOf 62 = .ok (.ldc 81, 2) := by decide +kernel
theorem dX5_textOf_64 : decode cX5_textOf 64 = .ok (.areturn, 1) := by decide +kernel
theorem dX5_textOf_65 : decode cX5_textOf 65 = .ok (.ldc 83, 2) := by decide +kernel
theorem dX5_textOf_67 : decode cX5_textOf 67 = .ok (.areturn, 1) := by decide +kernel
theorem dX5_nextSign_0 : decode cX5_nextSign 0 = .ok (.aload_n 0, 1) := by decide +kernel
theorem dX5_nextSign_1 : decode cX5_nextSign 1 = .ok (.getfield 19, 3) := by decide +kernel
theorem dX5_nextSign_4 : decode cX5_nextSign 4 = .ok (.ifCond .lt 35, 3) := by decide +kernel
theorem dX5_nextSign_7 : decode cX5_nextSign 7 = .ok (.aload_n 0, 1) := by decide +kernel
theorem dX5_nextSign_8 : decode cX5_nextSign 8 = .ok (.getfield 19, 3) := by decide +kernel
theorem dX5_nextSign_11 : decode cX5_nextSign 11 = .ok (.aload_n 0, 1) := by decide +kernel
theorem dX5_nextSign_12 : decode cX5_nextSign 12 = .ok (.getfield 15, 3) := by decide +kernel
theorem dX5_nextSign_15 : decode cX5_nextSign 15 = .ok (.if_icmp .ge 24, 3) := by decide +kernel
theorem dX5_nextSign_18 : decode cX5_nextSign 18 = .ok (.aload_n 0, 1) := by decide +kernel
theorem dX5_nextSign_19 : decode cX5_nextSign 19 = .ok (.getfield 19, 3) := by decide +kernel
theorem dX5_nextSign_22 : decode cX5_nextSign 22 = .ok (.bipush 60, 2) := by decide +kernel
theorem dX5_nextSign_24 : decode cX5_nextSign 24 = .ok (.if_icmp .ge 15, 3) := by decide +kernel
theorem dX5_nextSign_27 : decode cX5_nextSign 27 = .ok (.aload_n 0, 1) := by decide +kernel
theorem dX5_nextSign_28 : decode cX5_nextSign 28 = .ok (.getfield 9, 3) := by decide +kernel
theorem dX5_nextSign_31 : decode cX5_nextSign 31 = .ok (.aload_n 0, 1) := by decide +kernel
theorem dX5_nextSign_32 : decode cX5_nextSign 32 = .ok (.getfield 19, 3) := by decide +kernel
theorem dX5_nextSign_35 : decode cX5_nextSign 35 = .ok (.iaload, 1) := by decide +kernel
theorem dX5_nextSign_36 : decode cX5_nextSign 36 = .ok (.goto 4, 3) := by decide +kernel
theorem dX5_nextSign_39 : decode cX5_nextSign 39 = .ok (.iconst (-1), 1) := by decide +kernel
theorem dX5_nextSign_40 : decode cX5_nextSign 40 = .ok (.ireturn, 1) := by decide +kernel
theorem dX5_isAtDigit_0 : decode cX5_isAtDigit 0 = .ok (.aload_n 0, 1) := by decide +kernel
theorem dX5_isAtDigit_1 : decode cX5_isAtDigit 1 = .ok (.invokevirtual 62, 3) := by decide +kernel
theorem dX5_isAtDigit_4 : decode cX5_isAtDigit 4 = .ok (.bipush 48, 2) := by decide +kernel
theorem dX5_isAtDigit_6 : decode cX5_isAtDigit 6 = .ok (.bipush 57, 2) := by decide +kernel
theorem dX5_isAtDigit_8 : decode cX5_isAtDigit 8 = .ok (.invokestatic 85, 3) := by decide +kernel
theorem dX5_isAtDigit_11 : decode cX5_isAtDigit 11 = .ok (.ireturn, 1) := by decide +kernel
theorem dX5_readSign_0 : decode cX5_readSign 0 = .ok (.aload_n 0, 1) := by decide +kernel
theorem dX5_readSign_1 : decode cX5_readSign 1 = .ok (.invokevirtual 62, 3) := by decide +kernel
theorem dX5_readSign_4 : decode cX5_readSign 4 = .ok (.iload_n 1, 1) := by decide +kernel
theorem dX5_readSign_5 : decode cX5_readSign 5 = .ok (.if_icmp .eq 5, 3) := by decide +kernel
theorem dX5_readSign_8 : decode cX5_readSign 8 = .ok (.iconst 0, 1) := by decide +kernel
theorem dX5_readSign_9 : decode cX5_readSign 9 = .ok (.ireturn, 1) := by decide +kernel
theorem dX5_readSign_10 : decode cX5_readSign 10 = .ok (.aload_n 0, 1) := by decide +kernel
theorem dX5_readSign_11 : decode cX5_readSign 11 = .ok (.dup, 1) := by decide +kernel
theorem dX5_readSign_12 : decode cX5_readSign 12 = .ok (.getfield 19, 3) := by decide +kernel
theorem dX5_readSign_15 : decode cX5_readSign 15 = .ok (.iconst 1, 1) := by decide +kernel
theorem dX5_readSign_16 : decode cX5_readSign 16 = .ok (.iadd, 1) := by decide +kernel
theorem dX5_readSign_17 : decode cX5_readSign 17 = .ok (.putfield 19, 3) := by decide +kernel
theorem dX5_readSign_20 : decode cX5_readSign 20 = .ok (.iconst 1, 1) := by decide +kernel
theorem dX5_readSign_21 : decode cX5_readSign 21 = .ok (.ireturn, 1) := by decide +kernel
theorem dX5_readPlayer_0 : decode cX5_readPlayer 0 = .ok (.aload_n 0, 1) := by decide +kernel
theorem dX5_readPlayer_1 : decode cX5_readPlayer 1 = .ok (.invokevirtual 89, 3) := by decide +kernel
theorem dX5_readPlayer_4 : decode cX5_readPlayer 4 = .ok (.ifCond .ne 5, 3) := by decide +kernel
theorem dX5_readPlayer_7 : decode cX5_readPlayer 7 = .ok (.iconst 0, 1) := by decide +kernel
theorem dX5_readPlayer_8 : decode cX5_readPlayer 8 = .ok (.ireturn, 1) := by decide +kernel
theorem dX5_readPlayer_9 : decode cX5_readPlayer 9 = .ok (.aload_n 0, 1) := by decide +kernel
theorem dX5_readPlayer_10 : decode cX5_readPlayer 10 = .ok (.aload_n 0, 1) := by decide +kernel
theorem dX5_readPlayer_11 : decode cX5_readPlayer 11 = .ok (.invokevirtual 62, 3) := by decide +kernel
theorem dX5_readPlayer_14 : decode cX5_readPlayer 14 = .ok (.bipush 48, 2) := by decide +kernel
theorem dX5_readPlayer_16 : decode cX5_readPlayer 16 = .ok (.isub, 1) := by decide +kernel
theorem dX5_readPlayer_17 : decode cX5_readPlayer 17 = .ok (.putfield 29, 3) := by decide +kernel
theorem dX5_readPlayer_20 : decode cX5_readPlayer 20 = .ok (.aload_n 0, 1) := by decide +kernel
theorem dX5_readPlayer_21 : decode cX5_readPlayer 21 = .ok (.dup, 1) := by decide +kernel
theorem dX5_readPlayer_22 : decode cX5_readPlayer 22 = .ok (.getfield 19, 3) := by decide +kernel
theorem dX5_readPlayer_25 : decode cX5_readPlayer 25 = .ok (.iconst 1, 1) := by decide +kernel
theorem dX5_readPlayer_26 : decode cX5_readPlayer 26 = .ok (.iadd, 1) := by decide +kernel
theorem dX5_readPlayer_27 : decode cX5_readPlayer 27 = .ok (.putfield 19, 3) := by decide +kernel
theorem dX5_readPlayer_30 : decode cX5_readPlayer 30 = .ok (.iconst 1, 1) := by decide +kernel
theorem dX5_readPlayer_31 : decode cX5_readPlayer 31 = .ok (.ireturn, 1) := by decide +kernel
theorem dX5_readNumber_0 : decode cX5_readNumber 0 = .ok (.aload_n 0, 1) := by decide +kernel
theorem dX5_readNumber_1 : decode cX5_readNumber 1 = .ok (.invokevirtual 89, 3) := by decide +kernel
theorem dX5_readNumber_4 : decode cX5_readNumber 4 = .ok (.ifCond .ne 5, 3) := by decide +kernel
theorem dX5_readNumber_7 : decode cX5_readNumber 7 = .ok (.iconst 0, 1) := by decide +kernel
theorem dX5_readNumber_8 : decode cX5_readNumber 8 = .ok (.ireturn, 1) := by decide +kernel
theorem dX5_readNumber_9 : decode cX5_readNumber 9 = .ok (.aload_n 0, 1) := by decide +kernel
theorem dX5_readNumber_10 : decode cX5_readNumber 10 = .ok (.iconst 0, 1) := by decide +kernel
theorem dX5_readNumber_11 : decode cX5_readNumber 11 = .ok (.putfield 92, 3) := by decide +kernel
theorem dX5_readNumber_14 : decode cX5_readNumber 14 = .ok (.iconst 0, 1) := by decide +kernel
theorem dX5_readNumber_15 : decode cX5_readNumber 15 = .ok (.istore_n 1, 1) := by decide +kernel
theorem dX5_readNumber_16 : decode cX5_readNumber 16 = .ok (.iload_n 1, 1) := by decide +kernel
theorem dX5_readNumber_17 : decode cX5_readNumber 17 = .ok (.iconst 3, 1) := by decide +kernel
theorem dX5_readNumber_18 : decode cX5_readNumber 18 = .ok (.if_icmp .ge 45, 3) := by decide +kernel
theorem dX5_readNumber_21 : decode cX5_readNumber 21 = .ok (.aload_n 0, 1) := by decide +kernel
theorem dX5_readNumber_22 : decode cX5_readNumber 22 = .ok (.invokevirtual 89, 3) := by decide +kernel
theorem dX5_readNumber_25 : decode cX5_readNumber 25 = .ok (.ifCond .eq 38, 3) := by decide +kernel
theorem dX5_readNumber_28 : decode cX5_readNumber 28 = .ok (.aload_n 0, 1) := by decide +kernel
theorem dX5_readNumber_29 : decode cX5_readNumber 29 = .ok (.bipush 10, 2) := by decide +kernel
theorem dX5_readNumber_31 : decode cX5_readNumber 31 = .ok (.aload_n 0, 1) := by decide +kernel
theorem dX5_readNumber_32 : decode cX5_readNumber 32 = .ok (.getfield 92, 3) := by decide +kernel
theorem dX5_readNumber_35 : decode cX5_readNumber 35 = .ok (.imul, 1) := by decide +kernel
theorem dX5_readNumber_36 : decode cX5_readNumber 36 = .ok (.aload_n 0, 1) := by decide +kernel
theorem dX5_readNumber_37 : decode cX5_readNumber 37 = .ok (.invokevirtual 62, 3) := by decide +kernel
theorem dX5_readNumber_40 : decode cX5_readNumber 40 = .ok (.iadd, 1) := by decide +kernel
theorem dX5_readNumber_41 : decode cX5_readNumber 41 = .ok (.bipush 48, 2) := by decide +kernel
theorem dX5_readNumber_43 : decode cX5_readNumber 43 = .ok (.isub, 1) := by decide +kernel
theorem dX5_readNumber_44 : decode cX5_readNumber 44 = .ok (.putfield 92, 3) := by decide +kernel
theorem dX5_readNumber_47 : decode cX5_readNumber 47 = .ok (.aload_n 0, 1) := by decide +kernel
theorem dX5_readNumber_48 : decode cX5_readNumber 48 = .ok (.dup, 1) := by decide +kernel
theorem dX5_readNumber_49 : decode cX5_readNumber 49 = .ok (.getfield 19, 3) := by decide +kernel
theorem dX5_readNumber_52 : decode cX5_readNumber 52 = .ok (.iconst 1, 1) := by decide +kernel
theorem dX5_readNumber_53 : decode cX5_readNumber 53 = .ok (.iadd, 1) := by decide +kernel
theorem dX5_readNumber_54 : decode cX5_readNumber 54 = .ok (.putfield 19, 3) := by decide +kernel
theorem dX5_readNumber_57 : decode cX5_readNumber 57 = .ok (.iinc 1 1, 3) := by decide +kernel
theorem dX5_readNumber_60 : decode cX5_readNumber 60 = .ok (.goto (-44), 3) := by decide +kernel
theorem dX5_readNumber_63 : decode cX5_readNumber 63 = .ok (.iconst 1, 1) := by decide +kernel
theorem dX5_readNumber_64 : decode cX5_readNumber 64 = .ok (.ireturn, 1) := by decide +kernel
theorem dX6_init_0 : decode cX6_init 0 = .ok (.aload_n 0, 1) := by decide +kernel
theorem dX6_init_1 : decode cX6_init 1 = .ok (.invokespecial 3, 3) := by decide +kernel
theorem dX6_init_4 : decode cX6_init 4 = .ok (.aload_n 0, 1) := by decide +kernel
theorem dX6_init_5 : decode cX6_init 5 = .ok (.bipush 10, 2) := by decide +kernel
theorem dX6_init_7 : decode cX6_init 7 = .ok (.newarray .int, 2) := by decide +kernel
theorem dX6_init_9 : decode cX6_init 9 = .ok (.putfield 9, 3) := by decide +kernel
theorem dX6_init_12 : decode cX6_init 12 = .ok (.aload_n 0, 1) := by decide +kernel
theorem dX6_init_13 : decode cX6_init 13 = .ok (.bipush 10, 2) := by decide +kernel
theorem dX6_init_15 : decode cX6_init 15 = .ok (.newarray .int, 2) := by decide +kernel
theorem dX6_init_17 : decode cX6_init 17 = .ok (.putfield 15, 3) := by decide +kernel
theorem dX6_init_20 : decode cX6_init 20 = .ok (.aload_n 0, 1) := by decide +kernel
theorem dX6_init_21 : decode cX6_init 21 = .ok (.bipush 10, 2) := by decide +kernel
theorem dX6_init_23 : decode cX6_init 23 = .ok (.newarray .int, 2) := by decide +kernel
theorem dX6_init_25 : decode cX6_init 25 = .ok (.putfield 18, 3) := by decide +kernel
theorem dX6_init_28 : decode cX6_init 28 = .ok (.aload_n 0, 1) := by decide +kernel
theorem dX6_init_29 : decode cX6_init 29 = .ok (.bipush 10, 2) := by decide +kernel
theorem dX6_init_31 : decode cX6_init 31 = .ok (.newarray .int, 2) := by decide +kernel
theorem dX6_init_33 : decode cX6_init 33 = .ok (.putfield 21, 3) := by decide +kernel
theorem dX6_init_36 : decode cX6_init 36 = .ok (.aload_n 0, 1) := by decide +kernel
theorem dX6_init_37 : decode cX6_init 37 = .ok (.bipush 10, 2) := by decide +kernel
theorem dX6_init_39 : decode cX6_init 39 = .ok (.newarray .int, 2) := by decide +kernel
theorem dX6_init_41 : decode cX6_init 41 = .ok (.putfield 24, 3) := by decide +kernel
theorem dX6_init_44 : decode cX6_init 44 = .ok (.return_, 1) := by decide +kernel
theorem dX6_reset_0 : decode cX6_reset 0 = .ok (.iconst 0, 1) := by decide +kernel
theorem dX6_reset_1 : decode cX6_reset 1 = .ok (.istore_n 1, 1) := by decide +kernel
theorem dX6_reset_2 : decode cX6_reset 2 = .ok (.iload_n 1, 1) := by decide +kernel
theorem dX6_reset_3 : decode cX6_reset 3 = .ok (.bipush 10, 2) := by decide +kernel
theorem dX6_reset_5 : decode cX6_reset 5 = .ok (.if_icmp .ge 47, 3) := by decide +kernel
theorem dX6_reset_8 : decode cX6_reset 8 = .ok (.aload_n 0, 1) := by decide +kernel
theorem dX6_reset_9 : decode cX6_reset 9 = .ok (.getfield 9, 3) := by decide +kernel
theorem dX6_reset_12 : decode cX6_reset 12 = .ok (.iload_n 1, 1) := by decide +kernel
theorem dX6_reset_13 : decode cX6_reset 13 = .ok (.iload_n 1, 1) := by decide +kernel
theorem dX6_reset_14 : decode cX6_reset 14 = .ok (.bipush 7, 2) := by decide +kernel
theorem dX6_reset_16 : decode cX6_reset 16 = .ok (.if_icmp .ge 7, 3) := by decide +kernel
theorem dX6_reset_19 : decode cX6_reset 19 = .ok (.iconst 0, 1) := by decide +kernel
theorem dX6_reset_20 : decode cX6_reset 20 = .ok (.goto 4, 3) := by decide +kernel
theorem dX6_reset_23 : decode cX6_reset 23 = .ok (.iconst 1, 1) := by decide +kernel
theorem dX6_reset_24 : decode cX6_reset 24 = .ok (.iastore, 1) := by decide +kernel
theorem dX6_reset_25 : decode cX6_reset 25 = .ok (.aload_n 0, 1) := by decide +kernel
theorem dX6_reset_26 : decode cX6_reset 26 = .ok (.getfield 15, 3) := by decide +kernel
theorem dX6_reset_29 : decode cX6_reset 29 = .ok (.iload_n 1, 1) := by decide +kernel
theorem dX6_reset_30 : decode cX6_reset 30 = .ok (.iconst 0, 1) := by decide +kernel
theorem dX6_reset_31 : decode cX6_reset 31 = .ok (.iastore, 1) := by decide +kernel
theorem dX6_reset_32 : decode cX6_reset 32 = .ok (.aload_n 0, 1) := by decide +kernel
theorem dX6_reset_33 : decode cX6_reset 33 = .ok (.getfield 18, 3) := by decide +kernel
theorem dX6_reset_36 : decode cX6_reset 36 = .ok (.iload_n 1, 1) := by decide +kernel
theorem dX6_reset_37 : decode cX6_reset 37 = .ok (.iconst 0, 1) := by decide +kernel
theorem dX6_reset_38 : decode cX6_reset 38 = .ok (.iastore, 1) := by decide +kernel
theorem dX6_reset_39 : decode cX6_reset 39 = .ok (.aload_n 0, 1) := by decide +kernel
theorem dX6_reset_40 : decode cX6_reset 40 = .ok (.getfield 21, 3) := by decide +kernel
theorem dX6_reset_43 : decode cX6_reset 43 = .ok (.iload_n 1, 1) := by decide +kernel
theorem dX6_reset_44 : decode cX6_reset 44 = .ok (.iconst 0, 1) := by decide +kernel
theorem dX6_reset_45 : decode cX6_reset 45 = .ok (.iastore, 1) := by decide +kernel
theorem dX6_reset_46 : decode cX6_reset 46 = .ok (.iinc 1 1, 3) := by decide +kernel
theorem dX6_reset_49 : decode cX6_reset 49 = .ok (.goto (-47), 3) := by decide +kernel
theorem dX6_reset_52 : decode cX6_reset 52 = .ok (.aload_n 0, 1) := by decide +kernel
theorem dX6_reset_53 : decode cX6_reset 53 = .ok (.iconst 0, 1) := by decide +kernel
theorem dX6_reset_54 : decode cX6_reset 54 = .ok (.putfield 27, 3) := by decide +kernel
theorem dX6_reset_57 : decode cX6_reset 57 = .ok (.aload_n 0, 1) := by decide +kernel
theorem dX6_reset_58 : decode cX6_reset 58 = .ok (.iconst 0, 1) := by decide +kernel
theorem dX6_reset_59 : decode cX6_reset 59 = .ok (.putfield 31, 3) := by decide +kernel
theorem dX6_reset_62 : decode cX6_reset 62 = .ok (.aload_n 0, 1) := by decide +kernel
theorem dX6_reset_63 : decode cX6_reset 63 = .ok (.iconst 0, 1) := by decide +kernel
theorem dX6_reset_64 : decode cX6_reset 64 = .ok (.putfield 34, 3) := by decide +kernel
theorem dX6_reset_67 : decode cX6_reset 67 = .ok (.aload_n 0, 1) := by decide +kernel
theorem dX6_reset_68 : decode cX6_reset 68 = .ok (.iconst 0, 1) := by decide +kernel
theorem dX6_reset_69 : decode cX6_reset 69 = .ok (.putfield 37, 3) := by decide +kernel
theorem dX6_reset_72 : decode cX6_reset 72 = .ok (.return_, 1) := by decide +kernel
theorem dX6_stateOf_0 : decode cX6_stateOf 0 = .ok (.iload_n 1, 1) := by decide +kernel
theorem dX6_stateOf_1 : decode cX6_stateOf 1 = .ok (.invokestatic 40, 3) := by decide +kernel
theorem dX6_stateOf_4 : decode cX6_stateOf 4 = .ok (.ifCond .eq 12, 3) := by decide +kernel
theorem dX6_stateOf_7 : decode cX6_stateOf 7 = .ok (.aload_n 0, 1) := by decide +kernel
theorem dX6_stateOf_8 : decode cX6_stateOf 8 = .ok (.getfield 9, 3) := by decide +kernel
theorem dX6_stateOf_11 : decode cX6_stateOf 11 = .ok (.iload_n 1, 1) := by decide +kernel
theorem dX6_stateOf_12 : decode cX6_stateOf 12 = .ok (.iaload, 1) := by decide +kernel
theorem dX6_stateOf_13 : decode cX6_stateOf 13 = .ok (.goto 4, 3) := by decide +kernel
theorem dX6_stateOf_16 : decode cX6_stateOf 16 = .ok (.iconst (-1), 1) := by decide +kernel
theorem dX6_stateOf_17 : decode cX6_stateOf 17 = .ok (.ireturn, 1) := by decide +kernel
theorem dX6_isOn_0 : decode cX6_isOn 0 = .ok (.iload_n 1, 1) := by decide +kernel
theorem dX6_isOn_1 : decode cX6_isOn 1 = .ok (.invokestatic 40, 3) := by decide +kernel
theorem dX6_isOn_4 : decode cX6_isOn 4 = .ok (.ifCond .eq 16, 3) := by decide +kernel
theorem dX6_isOn_7 : decode cX6_isOn 7 = .ok (.aload_n 0, 1) := by decide +kernel
theorem dX6_isOn_8 : decode cX6_isOn 8 = .ok (.getfield 9, 3) := by decide +kernel
theorem dX6_isOn_11 : decode cX6_isOn 11 = .ok (.iload_n 1, 1) := by decide +kernel
theorem dX6_isOn_12 : decode cX6_isOn 12 = .ok (.iaload, 1) := by decide +kernel
theorem dX6_isOn_13 : decode cX6_isOn 13 = .ok (.ifCond .ne 7, 3) := by decide +kernel
theorem dX6_isOn_16 : decode cX6_isOn 16 = .ok (.iconst 1, 1) := by decide +kernel
theorem dX6_isOn_17 : decode cX6_isOn 17 = .ok (.goto 4, 3) := by decide +kernel
theorem dX6_isOn_20 : decode cX6_isOn 20 = .ok (.iconst 0, 1) := by decide +kernel
theorem dX6_isOn_21 : decode cX6_isOn 21 = .ok (.ireturn, 1) := by decide +kernel
theorem dX6_count_0 : decode cX6_count 0 = .ok (.iconst 0, 1) := by decide +kernel
theorem dX6_count_1 : decode cX6_count 1 = .ok (.istore_n 2, 1) := by decide +kernel
theorem dX6_count_2 : decode cX6_count 2 = .ok (.iconst 0, 1) := by decide +kernel
theorem dX6_count_3 : decode cX6_count 3 = .ok (.istore_n 3, 1) := by decide +kernel
theorem dX6_count_4 : decode cX6_count 4 = .ok (.iload_n 3, 1) := by decide +kernel
theorem dX6_count_5 : decode cX6_count 5 = .ok (.bipush 10, 2) := by decide +kernel
theorem dX6_count_7 : decode cX6_count 7 = .ok (.if_icmp .ge 22, 3) := by decide +kernel
theorem dX6_count_10 : decode cX6_count 10 = .ok (.aload_n 0, 1) := by decide +kernel
theorem dX6_count_11 : decode cX6_count 11 = .ok (.getfield 9, 3) := by decide +kernel
theorem dX6_count_14 : decode cX6_count 14 = .ok (.iload_n 3, 1) := by decide +kernel
theorem dX6_count_15 : decode cX6_count 15 = .ok (.iaload, 1) := by decide +kernel
theorem dX6_count_16 : decode cX6_count 16 = .ok (.iload_n 1, 1) := by decide +kernel
theorem dX6_count_17 : decode cX6_count 17 = .ok (.if_icmp .ne 6, 3) := by decide +kernel
theorem dX6_count_20 : decode cX6_count 20 = .ok (.iinc 2 1, 3) := by decide +kernel
theorem dX6_count_23 : decode cX6_count 23 = .ok (.iinc 3 1, 3) := by decide +kernel
theorem dX6_count_26 : decode cX6_count 26 = .ok (.goto (-22), 3) := by decide +kernel
theorem dX6_count_29 : decode cX6_count 29 = .ok (.iload_n 2, 1) := by decide +kernel
theorem dX6_count_30 : decode cX6_count 30 = .ok (.ireturn, 1) := by decide +kernel
theorem dX6_countStanding_0 : decode cX6_countStanding 0 = .ok (.aload_n 0, 1) := by decide +kernel
theorem dX6_countStanding_1 : decode cX6_countStanding 1 = .ok (.iconst 0, 1) := by decide +kernel
theorem dX6_countStanding_2 : decode cX6_countStanding 2 = .ok (.invokevirtual 44, 3) := by decide +kernel
theorem dX6_countStanding_5 : decode cX6_countStanding 5 = .ok (.aload_n 0, 1) := by decide +kernel
theorem dX6_countStanding_6 : decode cX6_countStanding 6 = .ok (.iconst 3, 1) := by decide +kernel
theorem dX6_countStanding_7 : decode cX6_countStanding 7 = .ok (.invokevirtual 44, 3) := by decide +kernel
theorem dX6_countStanding_10 : decode cX6_countStanding 10 = .ok (.iadd, 1) := by decide +kernel
theorem dX6_countStanding_11 : decode cX6_countStanding 11 = .ok (.ireturn, 1) := by decide +kernel
theorem dX6_onBits_0 : decode cX6_onBits 0 = .ok (.iconst 0, 1) := by decide +kernel
theorem dX6_onBits_1 : decode cX6_onBits 1 = .ok (.istore_n 1, 1) := by decide +kernel
theorem dX6_onBits_2 : decode cX6_onBits 2 = .ok (.iconst 0, 1) := by decide +kernel
theorem dX6_onBits_3 : decode cX6_onBits 3 = .ok (.istore_n 2, 1) := by decide +kernel
theorem dX6_onBits_4 : decode cX6_onBits 4 = .ok (.iload_n 2, 1) := by decide +kernel
theorem dX6_onBits_5 : decode cX6_onBits 5 = .ok (.bipush 10, 2) := by decide +kernel
theorem dX6_onBits_7 : decode cX6_onBits 7 = .ok (.if_icmp .ge 24, 3) := by decide +kernel
theorem dX6_onBits_10 : decode cX6_onBits 10 = .ok (.aload_n 0, 1) := by decide +kernel
theorem dX6_onBits_11 : decode cX6_onBits 11 = .ok (.getfield 9, 3) := by decide +kernel
theorem dX6_onBits_14 : decode cX6_onBits 14 = .ok (.iload_n 2, 1) := by decide +kernel
theorem dX6_onBits_15 : decode cX6_onBits 15 = .ok (.iaload, 1) := by decide +kernel
theorem dX6_onBits_16 : decode cX6_onBits 16 = .ok (.ifCond .ne 9, 3) := by decide +kernel
theorem dX6_onBits_19 : decode cX6_onBits 19 = .ok (.iload_n 1, 1) := by decide +kernel
theorem dX6_onBits_20 : decode cX6_onBits 20 = .ok (.iconst 1, 1) := by decide +kernel
theorem dX6_onBits_21 : decode cX6_onBits 21 = .ok (.iload_n 2, 1) := by decide +kernel
theorem dX6_onBits_22 : decode cX6_onBits 22 = .ok (.ishl, 1) := by decide +kernel
theorem dX6_onBits_23 : decode cX6_onBits 23 = .ok (.ior, 1) := by decide +kernel
theorem dX6_onBits_24 : decode cX6_onBits 24 = .ok (.istore_n 1, 1) := by decide +kernel
theorem dX6_onBits_25 : decode cX6_onBits 25 = .ok (.iinc 2 1, 3) := by decide +kernel
theorem dX6_onBits_28 : decode cX6_onBits 28 = .ok (.goto (-24), 3) := by decide +kernel
theorem dX6_onBits_31 : decode cX6_onBits 31 = .ok (.iload_n 1, 1) := by decide +kernel
theorem dX6_onBits_32 : decode cX6_onBits 32 = .ok (.ireturn, 1) := by decide +kernel
theorem dX6_outAt_0 : decode cX6_outAt 0 = .ok (.iload_n 1, 1) := by decide +kernel
theorem dX6_outAt_1 : decode cX6_outAt 1 = .ok (.ifCond .lt 26, 3) := by decide +kernel
theorem dX6_outAt_4 : decode cX6_outAt 4 = .ok (.iload_n 1, 1) := by decide +kernel
theorem dX6_outAt_5 : decode cX6_outAt 5 = .ok (.aload_n 0, 1) := by decide +kernel
theorem dX6_outAt_6 : decode cX6_outAt 6 = .ok (.getfield 27, 3) := by decide +kernel
theorem dX6_outAt_9 : decode cX6_outAt 9 = .ok (.if_icmp .ge 18, 3) := by decide +kernel
theorem dX6_outAt_12 : decode cX6_outAt 12 = .ok (.iload_n 1, 1) := by decide +kernel
theorem dX6_outAt_13 : decode cX6_outAt 13 = .ok (.bipush 10, 2) := by decide +kernel
theorem dX6_outAt_15 : decode cX6_outAt 15 = .ok (.if_icmp .ge 12, 3) := by decide +kernel
theorem dX6_outAt_18 : decode cX6_outAt 18 = .ok (.aload_n 0, 1) := by decide +kernel
theorem dX6_outAt_19 : decode cX6_outAt 19 = .ok (.getfield 24, 3) := by decide +kernel
theorem dX6_outAt_22 : decode cX6_outAt 22 = .ok (.iload_n 1, 1) := by decide +kernel
theorem dX6_outAt_23 : decode cX6_outAt 23 = .ok (.iaload, 1) := by decide +kernel
theorem dX6_outAt_24 : decode cX6_outAt 24 = .ok (.goto 4, 3) := by decide +kernel
theorem dX6_outAt_27 : decode cX6_outAt 27 = .ok (.iconst (-1), 1) := by decide +kernel
theorem dX6_outAt_28 : decode cX6_outAt 28 = .ok (.ireturn, 1) := by decide +kernel
theorem dX6_madeBy_0 : decode cX6_madeBy 0 = .ok (.iload_n 1, 1) := by decide +kernel
theorem dX6_madeBy_1 : decode cX6_madeBy 1 = .ok (.invokestatic 40, 3) := by decide +kernel
theorem dX6_madeBy_4 : decode cX6_madeBy 4 = .ok (.ifCond .eq 12, 3) := by decide +kernel
theorem dX6_madeBy_7 : decode cX6_madeBy 7 = .ok (.aload_n 0, 1) := by decide +kernel
theorem dX6_madeBy_8 : decode cX6_madeBy 8 = .ok (.getfield 21, 3) := by decide +kernel
theorem dX6_madeBy_11 : decode cX6_madeBy 11 = .ok (.iload_n 1, 1) := by decide +kernel
theorem dX6_madeBy_12 : decode cX6_madeBy 12 = .ok (.iaload, 1) := by decide +kernel
theorem dX6_madeBy_13 : decode cX6_madeBy 13 = .ok (.goto 4, 3) := by decide +kernel
theorem dX6_madeBy_16 : decode cX6_madeBy 16 = .ok (.iconst 0, 1) := by decide +kernel
theorem dX6_madeBy_17 : decode cX6_madeBy 17 = .ok (.ireturn, 1) := by decide +kernel
theorem dX6_scoreBy_0 : decode cX6_scoreBy 0 = .ok (.aload_n 0, 1) := by decide +kernel
theorem dX6_scoreBy_1 : decode cX6_scoreBy 1 = .ok (.dup, 1) := by decide +kernel
theorem dX6_scoreBy_2 : decode cX6_scoreBy 2 = .ok (.getfield 34, 3) := by decide +kernel
theorem dX6_scoreBy_5 : decode cX6_scoreBy 5 = .ok (.iload_n 2, 1) := by decide +kernel
theorem dX6_scoreBy_6 : decode cX6_scoreBy 6 = .ok (.iadd, 1) := by decide +kernel
theorem dX6_scoreBy_7 : decode cX6_scoreBy 7 = .ok (.putfield 34, 3) := by decide +kernel
theorem dX6_scoreBy_10 : decode cX6_scoreBy 10 = .ok (.iload_n 1, 1) := by decide +kernel
theorem dX6_scoreBy_11 : decode cX6_scoreBy 11 = .ok (.invokestatic 40, 3) := by decide +kernel
theorem dX6_scoreBy_14 : decode cX6_scoreBy 14 = .ok (.ifCond .eq 13, 3) := by decide +kernel
theorem dX6_scoreBy_17 : decode cX6_scoreBy 17 = .ok (.aload_n 0, 1) := by decide +kernel
theorem dX6_scoreBy_18 : decode cX6_scoreBy 18 = .ok (.getfield 21, 3) := by decide +kernel
theorem dX6_scoreBy_21 : decode cX6_scoreBy 21 = .ok (.iload_n 1, 1) := by decide +kernel
theorem dX6_scoreBy_22 : decode cX6_scoreBy 22 = .ok (.dup2, 1) := by decide +kernel
theorem dX6_scoreBy_23 : decode cX6_scoreBy 23 = .ok (.iaload, 1) := by decide +kernel
theorem dX6_scoreBy_24 : decode cX6_scoreBy 24 = .ok (.iload_n 2, 1) := by decide +kernel
theorem dX6_scoreBy_25 : decode cX6_scoreBy 25 = .ok (.iadd, 1) := by decide +kernel
theorem dX6_scoreBy_26 : decode cX6_scoreBy 26 = .ok (.iastore, 1) := by decide +kernel
theorem dX6_scoreBy_27 : decode cX6_scoreBy 27 = .ok (.return_, 1) := by decide +kernel
theorem dX6_sendOut_0 : decode cX6_sendOut 0 = .ok (.iload_n 1, 1) := by decide +kernel
theorem dX6_sendOut_1 : decode cX6_sendOut 1 = .ok (.invokestatic 40, 3) := by decide +kernel
theorem dX6_sendOut_4 : decode cX6_sendOut 4 = .ok (.ifCond .eq 46, 3) := by decide +kernel
theorem dX6_sendOut_7 : decode cX6_sendOut 7 = .ok (.aload_n 0, 1) := by decide +kernel
theorem dX6_sendOut_8 : decode cX6_sendOut 8 = .ok (.getfield 27, 3) := by decide +kernel
theorem dX6_sendOut_11 : decode cX6_sendOut 11 = .ok (.ifCond .lt 39, 3) := by decide +kernel
theorem dX6_sendOut_14 : decode cX6_sendOut 14 = .ok (.aload_n 0, 1) := by decide +kernel
theorem dX6_sendOut_15 : decode cX6_sendOut 15 = .ok (.getfield 27, 3) := by decide +kernel
theorem dX6_sendOut_18 : decode cX6_sendOut 18 = .ok (.bipush 10, 2) := by decide +kernel
theorem dX6_sendOut_20 : decode cX6_sendOut 20 = .ok (.if_icmp .ge 30, 3) := by decide +kernel
theorem dX6_sendOut_23 : decode cX6_sendOut 23 = .ok (.aload_n 0, 1) := by decide +kernel
theorem dX6_sendOut_24 : decode cX6_sendOut 24 = .ok (.getfield 9, 3) := by decide +kernel
theorem dX6_sendOut_27 : decode cX6_sendOut 27 = .ok (.iload_n 1, 1) := by decide +kernel
theorem dX6_sendOut_28 : decode cX6_sendOut 28 = .ok (.iconst 2, 1) := by decide +kernel
theorem dX6_sendOut_29 : decode cX6_sendOut 29 = .ok (.iastore, 1) := by decide +kernel
theorem dX6_sendOut_30 : decode cX6_sendOut 30 = .ok (.aload_n 0, 1) := by decide +kernel
theorem dX6_sendOut_31 : decode cX6_sendOut 31 = .ok (.getfield 24, 3) := by decide +kernel
theorem dX6_sendOut_34 : decode cX6_sendOut 34 = .ok (.aload_n 0, 1) := by decide +kernel
theorem dX6_sendOut_35 : decode cX6_sendOut 35 = .ok (.getfield 27, 3) := by decide +kernel
theorem dX6_sendOut_38 : decode cX6_sendOut 38 = .ok (.iload_n 1, 1) := by decide +kernel
theorem dX6_sendOut_39 : decode cX6_sendOut 39 = .ok (.iastore, 1) := by decide +kernel
theorem dX6_sendOut_40 : decode cX6_sendOut 40 = .ok (.aload_n 0, 1) := by decide +kernel
theorem dX6_sendOut_41 : decode cX6_sendOut 41 = .ok (.dup, 1) := by decide +kernel
theorem dX6_sendOut_42 : decode cX6_sendOut 42 = .ok (.getfield 27, 3) := by decide +kernel
theorem dX6_sendOut_45 : decode cX6_sendOut 45 = .ok (.iconst 1, 1) := by decide +kernel
theorem dX6_sendOut_46 : decode cX6_sendOut 46 = .ok (.iadd, 1) := by decide +kernel
theorem dX6_sendOut_47 : decode cX6_sendOut 47 = .ok (.putfield 27, 3) := by decide +kernel
theorem dX6_sendOut_50 : decode cX6_sendOut 50 = .ok (.return_, 1) := by decide +kernel
theorem dX6_comeBack_0 : decode cX6_comeBack 0 = .ok (.iconst 0, 1) := by decide +kernel
theorem dX6_comeBack_1 : decode cX6_comeBack 1 = .ok (.istore_n 2, 1) := by decide +kernel
theorem dX6_comeBack_2 : decode cX6_comeBack 2 = .ok (.iload_n 2, 1) := by decide +kernel
theorem dX6_comeBack_3 : decode cX6_comeBack 3 = .ok (.iload_n 1, 1) := by decide +kernel
theorem dX6_comeBack_4 : decode cX6_comeBack 4 = .ok (.if_icmp .ge 90, 3) := by decide +kernel
theorem dX6_comeBack_7 : decode cX6_comeBack 7 = .ok (.aload_n 0, 1) := by decide +kernel
theorem dX6_comeBack_8 : decode cX6_comeBack 8 = .ok (.getfield 27, 3) := by decide +kernel
theorem dX6_comeBack_11 : decode cX6_comeBack 11 = .ok (.ifCond .le 83, 3) := by decide +kernel
theorem dX6_comeBack_14 : decode cX6_comeBack 14 = .ok (.aload_n 0, 1) := by decide +kernel
theorem dX6_comeBack_15 : decode cX6_comeBack 15 = .ok (.getfield 24, 3) := by decide +kernel
theorem dX6_comeBack_18 : decode cX6_comeBack 18 = .ok (.iconst 0, 1) := by decide +kernel
theorem dX6_comeBack_19 : decode cX6_comeBack 19 = .ok (.iaload, 1) := by decide +kernel
theorem dX6_comeBack_20 : decode cX6_comeBack 20 = .ok (.istore_n 3, 1) := by decide +kernel
theorem dX6_comeBack_21 : decode cX6_comeBack 21 = .ok (.iload_n 3, 1) := by decide +kernel
theorem dX6_comeBack_22 : decode cX6_comeBack 22 = .ok (.invokestatic 40, 3) := by decide +kernel
theorem dX6_comeBack_25 : decode cX6_comeBack 25 = .ok (.ifCond .eq 10, 3) := by decide +kernel
theorem dX6_comeBack_28 : decode cX6_comeBack 28 = .ok (.aload_n 0, 1) := by decide +kernel
theorem dX6_comeBack_29 : decode cX6_comeBack 29 = .ok (.getfield 9, 3) := by decide +kernel
theorem dX6_comeBack_32 : decode cX6_comeBack 32 = .ok (.iload_n 3, 1) := by decide +kernel
theorem dX6_comeBack_33 : decode cX6_comeBack 33 = .ok (.iconst 0, 1) := by decide +kernel
theorem dX6_comeBack_34 : decode cX6_comeBack 34 = .ok (.iastore, 1) := by decide +kernel
theorem dX6_comeBack_35 : decode cX6_comeBack 35 = .ok (.aload_n 0, 1) := by decide +kernel
theorem dX6_comeBack_36 : decode cX6_comeBack 36 = .ok (.dup, 1) := by decide +kernel
theorem dX6_comeBack_37 : decode cX6_comeBack 37 = .ok (.getfield 27, 3) := by decide +kernel
theorem dX6_comeBack_40 : decode cX6_comeBack 40 = .ok (.iconst 1, 1) := by decide +kernel
theorem dX6_comeBack_41 : decode cX6_comeBack 41 = .ok (.isub, 1) := by decide +kernel
theorem dX6_comeBack_42 : decode cX6_comeBack 42 = .ok (.putfield 27, 3) := by decide +kernel
theorem dX6_comeBack_45 : decode cX6_comeBack 45 = .ok (.iconst 0, 1) := by decide +kernel
theorem dX6_comeBack_46 : decode cX6_comeBack 46 = .ok (.istore 4, 2) := by decide +kernel
theorem dX6_comeBack_48 : decode cX6_comeBack 48 = .ok (.iload 4, 2) := by decide +kernel
theorem dX6_comeBack_50 : decode cX6_comeBack 50 = .ok (.aload_n 0, 1) := by decide +kernel
theorem dX6_comeBack_51 : decode cX6_comeBack 51 = .ok (.getfield 27, 3) := by decide +kernel
theorem dX6_comeBack_54 : decode cX6_comeBack 54 = .ok (.if_icmp .ge 34, 3) := by decide +kernel
theorem dX6_comeBack_57 : decode cX6_comeBack 57 = .ok (.iload 4, 2) := by decide +kernel
theorem dX6_comeBack_59 : decode cX6_comeBack 59 = .ok (.iconst 1, 1) := by decide +kernel
theorem dX6_comeBack_60 : decode cX6_comeBack 60 = .ok (.iadd, 1) := by decide +kernel
theorem dX6_comeBack_61 : decode cX6_comeBack 61 = .ok (.bipush 10, 2) := by decide +kernel
theorem dX6_comeBack_63 : decode cX6_comeBack 63 = .ok (.if_icmp .ge 25, 3) := by decide +kernel
theorem dX6_comeBack_66 : decode cX6_comeBack 66 = .ok (.aload_n 0, 1) := by decide +kernel
theorem dX6_comeBack_67 : decode cX6_comeBack 67 = .ok (.getfield 24, 3) := by decide +kernel
theorem dX6_comeBack_70 : decode cX6_comeBack 70 = .ok (.iload 4, 2) := by decide +kernel
theorem dX6_comeBack_72 : decode cX6_comeBack 72 = .ok (.aload_n 0, 1) := by decide +kernel
theorem dX6_comeBack_73 : decode cX6_comeBack 73 = .ok (.getfield 24, 3) := by decide +kernel
theorem dX6_comeBack_76 : decode cX6_comeBack 76 = .ok (.iload 4, 2) := by decide +kernel
theorem dX6_comeBack_78 : decode cX6_comeBack 78 = .ok (.iconst 1, 1) := by decide +kernel
theorem dX6_comeBack_79 : decode cX6_comeBack 79 = .ok (.iadd, 1) := by decide +kernel
theorem dX6_comeBack_80 : decode cX6_comeBack 80 = .ok (.iaload, 1) := by decide +kernel
theorem dX6_comeBack_81 : decode cX6_comeBack 81 = .ok (.iastore, 1) := by decide +kernel
theorem dX6_comeBack_82 : decode cX6_comeBack 82 = .ok (.iinc 4 1, 3) := by decide +kernel
theorem dX6_comeBack_85 : decode cX6_comeBack 85 = .ok (.goto (-37), 3) := by decide +kernel
theorem dX6_comeBack_88 : decode cX6_comeBack 88 = .ok (.iinc 2 1, 3) := by decide +kernel
theorem dX6_comeBack_91 : decode cX6_comeBack 91 = .ok (.goto (-89), 3) := by decide +kernel
theorem dX6_comeBack_94 : decode cX6_comeBack 94 = .ok (.return_, 1) := by decide +kernel
theorem dX6_endSuspensions_0 : decode cX6_endSuspensions 0 = .ok (.iconst 0, 1) := by decide +kernel
theorem dX6_endSuspensions_1 : decode cX6_endSuspensions 1 = .ok (.istore_n 2, 1) := by decide +kernel
theorem dX6_endSuspensions_2 : decode cX6_endSuspensions 2 = .ok (.iload_n 2, 1) := by decide +kernel
theorem dX6_endSuspensions_3 : decode cX6_endSuspensions 3 = .ok (.bipush 10, 2) := by decide +kernel
theorem dX6_endSuspensions_5 : decode cX6_endSuspensions 5 = .ok (.if_icmp .ge 36, 3) := by decide +kernel
theorem dX6_endSuspensions_8 : decode cX6_endSuspensions 8 = .ok (.aload_n 0, 1) := by decide +kernel
theorem dX6_endSuspensions_9 : decode cX6_endSuspensions 9 = .ok (.getfield 9, 3) := by decide +kernel
theorem dX6_endSuspensions_12 : decode cX6_endSuspensions 12 = .ok (.iload_n 2, 1) := by decide +kernel
theorem dX6_endSuspensions_13 : decode cX6_endSuspensions 13 = .ok (.iaload, 1) := by decide +kernel
theorem dX6_endSuspensions_14 : decode cX6_endSuspensions 14 = .ok (.iconst 3, 1) := by decide +kernel
theorem dX6_endSuspensions_15 : decode cX6_endSuspensions 15 = .ok (.if_icmp .ne 20, 3) := by decide +kernel
theorem dX6_endSuspensions_18 : decode cX6_endSuspensions 18 = .ok (.aload_n 0, 1) := by decide +kernel
theorem dX6_endSuspensions_19 : decode cX6_endSuspensions 19 = .ok (.getfield 15, 3) := by decide +kernel
theorem dX6_endSuspensions_22 : decode cX6_endSuspensions 22 = .ok (.iload_n 2, 1) := by decide +kernel
theorem dX6_endSuspensions_23 : decode cX6_endSuspensions 23 = .ok (.iaload, 1) := by decide +kernel
theorem dX6_endSuspensions_24 : decode cX6_endSuspensions 24 = .ok (.iload_n 1, 1) := by decide +kernel
theorem dX6_endSuspensions_25 : decode cX6_endSuspensions 25 = .ok (.if_icmp .gt 10, 3) := by decide +kernel
theorem dX6_endSuspensions_28 : decode cX6_endSuspensions 28 = .ok (.aload_n 0, 1) := by decide +kernel
theorem dX6_endSuspensions_29 : decode cX6_endSuspensions 29 = .ok (.getfield 9, 3) := by decide +kernel
theorem dX6_endSuspensions_32 : decode cX6_endSuspensions 32 = .ok (.iload_n 2, 1) := by decide +kernel
theorem dX6_endSuspensions_33 : decode cX6_endSuspensions 33 = .ok (.iconst 0, 1) := by decide +kernel
theorem dX6_endSuspensions_34 : decode cX6_endSuspensions 34 = .ok (.iastore, 1) := by decide +kernel
theorem dX6_endSuspensions_35 : decode cX6_endSuspensions 35 = .ok (.iinc 2 1, 3) := by decide +kernel
theorem dX6_endSuspensions_38 : decode cX6_endSuspensions 38 = .ok (.goto (-36), 3) := by decide +kernel
theorem dX6_endSuspensions_41 : decode cX6_endSuspensions 41 = .ok (.return_, 1) := by decide +kernel
theorem dX6_colourFor_0 : decode cX6_colourFor 0 = .ok (.iload_n 1, 1) := by decide +kernel
theorem dX6_colourFor_1 : decode cX6_colourFor 1 = .ok (.invokestatic 40, 3) := by decide +kernel
theorem dX6_colourFor_4 : decode cX6_colourFor 4 = .ok (.ifCond .eq 12, 3) := by decide +kernel
theorem dX6_colourFor_7 : decode cX6_colourFor 7 = .ok (.aload_n 0, 1) := by decide +kernel
theorem dX6_colourFor_8 : decode cX6_colourFor 8 = .ok (.getfield 18, 3) := by decide +kernel
theorem dX6_colourFor_11 : decode cX6_colourFor 11 = .ok (.iload_n 1, 1) := by decide +kernel
theorem dX6_colourFor_12 : decode cX6_colourFor 12 = .ok (.iaload, 1) := by decide +kernel
theorem dX6_colourFor_13 : decode cX6_colourFor 13 = .ok (.goto 4, 3) := by decide +kernel
theorem dX6_colourFor_16 : decode cX6_colourFor 16 = .ok (.iconst 0, 1) := by decide +kernel
theorem dX6_colourFor_17 : decode cX6_colourFor 17 = .ok (.istore_n 3, 1) := by decide +kernel
theorem dX6_colourFor_18 : decode cX6_colourFor 18 = .ok (.iload_n 2, 1) := by decide +kernel
theorem dX6_colourFor_19 : decode cX6_colourFor 19 = .ok (.istore 4, 2) := by decide +kernel
theorem dX6_colourFor_21 : decode cX6_colourFor 21 = .ok (.iload 4, 2) := by decide +kernel
theorem dX6_colourFor_23 : decode cX6_colourFor 23 = .ok (.iconst 2, 1) := by decide +kernel
theorem dX6_colourFor_24 : decode cX6_colourFor 24 = .ok (.if_icmp .ge 19, 3) := by decide +kernel
theorem dX6_colourFor_27 : decode cX6_colourFor 27 = .ok (.iload_n 3, 1) := by decide +kernel
theorem dX6_colourFor_28 : decode cX6_colourFor 28 = .ok (.iload 4, 2) := by decide +kernel
theorem dX6_colourFor_30 : decode cX6_colourFor 30 = .ok (.ishr, 1) := by decide +kernel
theorem dX6_colourFor_31 : decode cX6_colourFor 31 = .ok (.iconst 1, 1) := by decide +kernel
theorem dX6_colourFor_32 : decode cX6_colourFor 32 = .ok (.iand, 1) := by decide +kernel
theorem dX6_colourFor_33 : decode cX6_colourFor 33 = .ok (.iconst 1, 1) := by decide +kernel
theorem dX6_colourFor_34 : decode cX6_colourFor 34 = .ok (.if_icmp .ne 9, 3) := by decide +kernel
theorem dX6_colourFor_37 : decode cX6_colourFor 37 = .ok (.iinc 4 1, 3) := by decide +kernel
theorem dX6_colourFor_40 : decode cX6_colourFor 40 = .ok (.goto (-19), 3) := by decide +kernel
theorem dX6_colourFor_43 : decode cX6_colourFor 43 = .ok (.iload 4, 2) := by decide +kernel
theorem dX6_colourFor_45 : decode cX6_colourFor 45 = .ok (.ireturn, 1) := by decide +kernel
theorem dX6_mayGet_0 : decode cX6_mayGet 0 = .ok (.aload_n 0, 1) := by decide +kernel
theorem dX6_mayGet_1 : decode cX6_mayGet 1 = .ok (.iload_n 1, 1) := by decide +kernel
theorem dX6_mayGet_2 : decode cX6_mayGet 2 = .ok (.invokevirtual 48, 3) := by decide +kernel
theorem dX6_mayGet_5 : decode cX6_mayGet 5 = .ok (.ifCond .eq 31, 3) := by decide +kernel
theorem dX6_mayGet_8 : decode cX6_mayGet 8 = .ok (.aload_n 0, 1) := by decide +kernel
theorem dX6_mayGet_9 : decode cX6_mayGet 9 = .ok (.iload_n 1, 1) := by decide +kernel
theorem dX6_mayGet_10 : decode cX6_mayGet 10 = .ok (.iload_n 2, 1) := by decide +kernel
theorem dX6_mayGet_11 : decode cX6_mayGet 11 = .ok (.invokevirtual 51, 3) := by decide +kernel
theorem dX6_mayGet_14 : decode cX6_mayGet 14 = .ok (.ifCond .eq 18, 3) := by decide +kernel
theorem dX6_mayGet_17 : decode cX6_mayGet 17 = .ok (.aload_n 0, 1) := by decide +kernel
theorem dX6_mayGet_18 : decode cX6_mayGet 18 = .ok (.iconst 3, 1) := by decide +kernel
theorem dX6_mayGet_19 : decode cX6_mayGet 19 = .ok (.invokevirtual 44, 3) := by decide +kernel
theorem dX6_mayGet_22 : decode cX6_mayGet 22 = .ok (.aload_n 0, 1) := by decide +kernel
theorem dX6_mayGet_23 : decode cX6_mayGet 23 = .ok (.iconst 4, 1) := by decide +kernel
theorem dX6_mayGet_24 : decode cX6_mayGet 24 = .ok (.invokevirtual 44, 3) := by decide +kernel
theorem dX6_mayGet_27 : decode cX6_mayGet 27 = .ok (.iadd, 1) := by decide +kernel
theorem dX6_mayGet_28 : decode cX6_mayGet 28 = .ok (.iconst 3, 1) := by decide +kernel
theorem dX6_mayGet_29 : decode cX6_mayGet 29 = .ok (.if_icmp .ge 7, 3) := by decide +kernel
theorem dX6_mayGet_32 : decode cX6_mayGet 32 = .ok (.iconst 1, 1) := by decide +kernel
theorem dX6_mayGet_33 : decode cX6_mayGet 33 = .ok (.goto 4, 3) := by decide +kernel
theorem dX6_mayGet_36 : decode cX6_mayGet 36 = .ok (.iconst 0, 1) := by decide +kernel
theorem dX6_mayGet_37 : decode cX6_mayGet 37 = .ok (.ireturn, 1) := by decide +kernel
theorem dX6_takeCard_0 : decode cX6_takeCard 0 = .ok (.iload_n 1, 1) := by decide +kernel
theorem dX6_takeCard_1 : decode cX6_takeCard 1 = .ok (.invokestatic 40, 3) := by decide +kernel
theorem dX6_takeCard_4 : decode cX6_takeCard 4 = .ok (.ifCond .ne 4, 3) := by decide +kernel
theorem dX6_takeCard_7 : decode cX6_takeCard 7 = .ok (.return_, 1) := by decide +kernel
theorem dX6_takeCard_8 : decode cX6_takeCard 8 = .ok (.aload_n 0, 1) := by decide +kernel
theorem dX6_takeCard_9 : decode cX6_takeCard 9 = .ok (.getfield 18, 3) := by decide +kernel
theorem dX6_takeCard_12 : decode cX6_takeCard 12 = .ok (.iload_n 1, 1) := by decide +kernel
theorem dX6_takeCard_13 : decode cX6_takeCard 13 = .ok (.dup2, 1) := by decide +kernel
theorem dX6_takeCard_14 : decode cX6_takeCard 14 = .ok (.iaload, 1) := by decide +kernel
theorem dX6_takeCard_15 : decode cX6_takeCard 15 = .ok (.iconst 1, 1) := by decide +kernel
theorem dX6_takeCard_16 : decode cX6_takeCard 16 = .ok (.iload_n 2, 1) := by decide +kernel
theorem dX6_takeCard_17 : decode cX6_takeCard 17 = .ok (.ishl, 1) := by decide +kernel
theorem dX6_takeCard_18 : decode cX6_takeCard 18 = .ok (.ior, 1) := by decide +kernel
theorem dX6_takeCard_19 : decode cX6_takeCard 19 = .ok (.iastore, 1) := by decide +kernel
theorem dX6_takeCard_20 : decode cX6_takeCard 20 = .ok (.iload_n 2, 1) := by decide +kernel
theorem dX6_takeCard_21 : decode cX6_takeCard 21 = .ok (.iconst 1, 1) := by decide +kernel
theorem dX6_takeCard_22 : decode cX6_takeCard 22 = .ok (.if_icmp .ne 24, 3) := by decide +kernel
theorem dX6_takeCard_25 : decode cX6_takeCard 25 = .ok (.aload_n 0, 1) := by decide +kernel
theorem dX6_takeCard_26 : decode cX6_takeCard 26 = .ok (.getfield 9, 3) := by decide +kernel
theorem dX6_takeCard_29 : decode cX6_takeCard 29 = .ok (.iload_n 1, 1) := by decide +kernel
theorem dX6_takeCard_30 : decode cX6_takeCard 30 = .ok (.iconst 3, 1) := by decide +kernel
theorem dX6_takeCard_31 : decode cX6_takeCard 31 = .ok (.iastore, 1) := by decide +kernel
theorem dX6_takeCard_32 : decode cX6_takeCard 32 = .ok (.aload_n 0, 1) := by decide +kernel
theorem dX6_takeCard_33 : decode cX6_takeCard 33 = .ok (.getfield 15, 3) := by decide +kernel
theorem dX6_takeCard_36 : decode cX6_takeCard 36 = .ok (.iload_n 1, 1) := by decide +kernel
theorem dX6_takeCard_37 : decode cX6_takeCard 37 = .ok (.iload_n 3, 1) := by decide +kernel
theorem dX6_takeCard_38 : decode cX6_takeCard 38 = .ok (.sipush 1200, 3) := by decide +kernel
theorem dX6_takeCard_41 : decode cX6_takeCard 41 = .ok (.iadd, 1) := by decide +kernel
theorem dX6_takeCard_42 : decode cX6_takeCard 42 = .ok (.iastore, 1) := by decide +kernel
theorem dX6_takeCard_43 : decode cX6_takeCard 43 = .ok (.goto 15, 3) := by decide +kernel
theorem dX6_takeCard_46 : decode cX6_takeCard 46 = .ok (.iload_n 2, 1) := by decide +kernel
theorem dX6_takeCard_47 : decode cX6_takeCard 47 = .ok (.iconst 2, 1) := by decide +kernel
theorem dX6_takeCard_48 : decode cX6_takeCard 48 = .ok (.if_icmp .ne 10, 3) := by decide +kernel
theorem dX6_takeCard_51 : decode cX6_takeCard 51 = .ok (.aload_n 0, 1) := by decide +kernel
theorem dX6_takeCard_52 : decode cX6_takeCard 52 = .ok (.getfield 9, 3) := by decide +kernel
theorem dX6_takeCard_55 : decode cX6_takeCard 55 = .ok (.iload_n 1, 1) := by decide +kernel
theorem dX6_takeCard_56 : decode cX6_takeCard 56 = .ok (.iconst 4, 1) := by decide +kernel
theorem dX6_takeCard_57 : decode cX6_takeCard 57 = .ok (.iastore, 1) := by decide +kernel
theorem dX6_takeCard_58 : decode cX6_takeCard 58 = .ok (.return_, 1) := by decide +kernel
theorem dX6_mayChange_0 : decode cX6_mayChange 0 = .ok (.aload_n 0, 1) := by decide +kernel
theorem dX6_mayChange_1 : decode cX6_mayChange 1 = .ok (.iload_n 1, 1) := by decide +kernel
theorem dX6_mayChange_2 : decode cX6_mayChange 2 = .ok (.invokevirtual 48, 3) := by decide +kernel
theorem dX6_mayChange_5 : decode cX6_mayChange 5 = .ok (.ifCond .eq 24, 3) := by decide +kernel
theorem dX6_mayChange_8 : decode cX6_mayChange 8 = .ok (.aload_n 0, 1) := by decide +kernel
theorem dX6_mayChange_9 : decode cX6_mayChange 9 = .ok (.iload_n 2, 1) := by decide +kernel
theorem dX6_mayChange_10 : decode cX6_mayChange 10 = .ok (.invokevirtual 55, 3) := by decide +kernel
theorem dX6_mayChange_13 : decode cX6_mayChange 13 = .ok (.iconst 1, 1) := by decide +kernel
theorem dX6_mayChange_14 : decode cX6_mayChange 14 = .ok (.if_icmp .ne 15, 3) := by decide +kernel
theorem dX6_mayChange_17 : decode cX6_mayChange 17 = .ok (.aload_n 0, 1) := by decide +kernel
theorem dX6_mayChange_18 : decode cX6_mayChange 18 = .ok (.getfield 31, 3) := by decide +kernel
theorem dX6_mayChange_21 : decode cX6_mayChange 21 = .ok (.iconst 5, 1) := by decide +kernel
theorem dX6_mayChange_22 : decode cX6_mayChange 22 = .ok (.if_icmp .ge 7, 3) := by decide +kernel
theorem dX6_mayChange_25 : decode cX6_mayChange 25 = .ok (.iconst 1, 1) := by decide +kernel
theorem dX6_mayChange_26 : decode cX6_mayChange 26 = .ok (.goto 4, 3) := by decide +kernel
theorem dX6_mayChange_29 : decode cX6_mayChange 29 = .ok (.iconst 0, 1) := by decide +kernel
theorem dX6_mayChange_30 : decode cX6_mayChange 30 = .ok (.ireturn, 1) := by decide +kernel
theorem dX6_swapPlayers_0 : decode cX6_swapPlayers 0 = .ok (.iload_n 1, 1) := by decide +kernel
theorem dX6_swapPlayers_1 : decode cX6_swapPlayers 1 = .ok (.invokestatic 40, 3) := by decide +kernel
theorem dX6_swapPlayers_4 : decode cX6_swapPlayers 4 = .ok (.ifCond .eq 34, 3) := by decide +kernel
theorem dX6_swapPlayers_7 : decode cX6_swapPlayers 7 = .ok (.iload_n 2, 1) := by decide +kernel
theorem dX6_swapPlayers_8 : decode cX6_swapPlayers 8 = .ok (.invokestatic 40, 3) := by decide +kernel
theorem dX6_swapPlayers_11 : decode cX6_swapPlayers 11 = .ok (.ifCond .eq 27, 3) := by decide +kernel
theorem dX6_swapPlayers_14 : decode cX6_swapPlayers 14 = .ok (.aload_n 0, 1) := by decide +kernel
theorem dX6_swapPlayers_15 : decode cX6_swapPlayers 15 = .ok (.getfield 9, 3) := by decide +kernel
theorem dX6_swapPlayers_18 : decode cX6_swapPlayers 18 = .ok (.iload_n 1, 1) := by decide +kernel
theorem dX6_swapPlayers_19 : decode cX6_swapPlayers 19 = .ok (.iconst 1, 1) := by decide +kernel
theorem dX6_swapPlayers_20 : decode cX6_swapPlayers 20 = .ok (.iastore, 1) := by decide +kernel
theorem dX6_swapPlayers_21 : decode cX6_swapPlayers 21 = .ok (.aload_n 0, 1) := by decide +kernel
theorem dX6_swapPlayers_22 : decode cX6_swapPlayers 22 = .ok (.getfield 9, 3) := by decide +kernel
theorem dX6_swapPlayers_25 : decode cX6_swapPlayers 25 = .ok (.iload_n 2, 1) := by decide +kernel
theorem dX6_swapPlayers_26 : decode cX6_swapPlayers 26 = .ok (.iconst 0, 1) := by decide +kernel
theorem dX6_swapPlayers_27 : decode cX6_swapPlayers 27 = .ok (.iastore, 1) := by decide +kernel
theorem dX6_swapPlayers_28 : decode cX6_swapPlayers 28 = .ok (.aload_n 0, 1) := by decide +kernel
theorem dX6_swapPlayers_29 : decode cX6_swapPlayers 29 = .ok (.dup, 1) := by decide +kernel
theorem dX6_swapPlayers_30 : decode cX6_swapPlayers 30 = .ok (.getfield 31, 3) := by decide +kernel
theorem dX6_swapPlayers_33 : decode cX6_swapPlayers 33 = .ok (.iconst 1, 1) := by decide +kernel
theorem dX6_swapPlayers_34 : decode cX6_swapPlayers 34 = .ok (.iadd, 1) := by decide +kernel
theorem dX6_swapPlayers_35 : decode cX6_swapPlayers 35 = .ok (.putfield 31, 3) := by decide +kernel
theorem dX6_swapPlayers_38 : decode cX6_swapPlayers 38 = .ok (.return_, 1) := by decide +kernel
theorem dX7_init_0 : decode cX7_init 0 = .ok (.aload_n 0, 1) := by decide +kernel
theorem dX7_init_1 : decode cX7_init 1 = .ok (.invokespecial 3, 3) := by decide +kernel
theorem dX7_init_4 : decode cX7_init 4 = .ok (.aload_n 0, 1) := by decide +kernel
theorem dX7_init_5 : decode cX7_init 5 = .ok (.new 9, 3) := by decide +kernel
theorem dX7_init_8 : decode cX7_init 8 = .ok (.dup, 1) := by decide +kernel
theorem dX7_init_9 : decode cX7_init 9 = .ok (.invokespecial 11, 3) := by decide +kernel
theorem dX7_init_12 : decode cX7_init 12 = .ok (.putfield 12, 3) := by decide +kernel
theorem dX7_init_15 : decode cX7_init 15 = .ok (.aload_n 0, 1) := by decide +kernel
theorem dX7_init_16 : decode cX7_init 16 = .ok (.new 16, 3) := by decide +kernel
theorem dX7_init_19 : decode cX7_init 19 = .ok (.dup, 1) := by decide +kernel
theorem dX7_init_20 : decode cX7_init 20 = .ok (.invokespecial 18, 3) := by decide +kernel
theorem dX7_init_23 : decode cX7_init 23 = .ok (.putfield 19, 3) := by decide +kernel
theorem dX7_init_26 : decode cX7_init 26 = .ok (.aload_n 0, 1) := by decide +kernel
theorem dX7_init_27 : decode cX7_init 27 = .ok (.new 23, 3) := by decide +kernel
theorem dX7_init_30 : decode cX7_init 30 = .ok (.dup, 1) := by decide +kernel
theorem dX7_init_31 : decode cX7_init 31 = .ok (.invokespecial 25, 3) := by decide +kernel
theorem dX7_init_34 : decode cX7_init 34 = .ok (.putfield 26, 3) := by decide +kernel
theorem dX7_init_37 : decode cX7_init 37 = .ok (.aload_n 0, 1) := by decide +kernel
theorem dX7_init_38 : decode cX7_init 38 = .ok (.new 30, 3) := by decide +kernel
theorem dX7_init_41 : decode cX7_init 41 = .ok (.dup, 1) := by decide +kernel
theorem dX7_init_42 : decode cX7_init 42 = .ok (.invokespecial 32, 3) := by decide +kernel
theorem dX7_init_45 : decode cX7_init 45 = .ok (.putfield 33, 3) := by decide +kernel
theorem dX7_init_48 : decode cX7_init 48 = .ok (.return_, 1) := by decide +kernel
theorem dX7_begin_0 : decode cX7_begin 0 = .ok (.iload_n 1, 1) := by decide +kernel
theorem dX7_begin_1 : decode cX7_begin 1 = .ok (.bipush 8, 2) := by decide +kernel
theorem dX7_begin_3 : decode cX7_begin 3 = .ok (.invokestatic 37, 3) := by decide +kernel
theorem dX7_begin_6 : decode cX7_begin 6 = .ok (.iload_n 2, 1) := by decide +kernel
theorem dX7_begin_7 : decode cX7_begin 7 = .ok (.bipush 8, 2) := by decide +kernel
theorem dX7_begin_9 : decode cX7_begin 9 = .ok (.invokestatic 37, 3) := by decide +kernel
theorem dX7_begin_12 : decode cX7_begin 12 = .ok (.iload_n 1, 1) := by decide +kernel
theorem dX7_begin_13 : decode cX7_begin 13 = .ok (.iload_n 2, 1) := by decide +kernel
theorem dX7_begin_14 : decode cX7_begin 14 = .ok (.if_icmp .eq 20, 3) := by decide +kernel
theorem dX7_begin_17 : decode cX7_begin 17 = .ok (.iload_n 3, 1) := by decide +kernel
theorem dX7_begin_18 : decode cX7_begin 18 = .ok (.sipush 300, 3) := by decide +kernel
theorem dX7_begin_21 : decode cX7_begin 21 = .ok (.sipush 24000, 3) := by decide +kernel
theorem dX7_begin_24 : decode cX7_begin 24 = .ok (.invokestatic 41, 3) := by decide +kernel
theorem dX7_begin_27 : decode cX7_begin 27 = .ok (.ifCond .eq 7, 3) := by decide +kernel
theorem dX7_begin_30 : decode cX7_begin 30 = .ok (.iconst 1, 1) := by decide +kernel
theorem dX7_begin_31 : decode cX7_begin 31 = .ok (.goto 4, 3) := by decide +kernel
theorem dX7_begin_34 : decode cX7_begin 34 = .ok (.iconst 0, 1) := by decide +kernel
theorem dX7_begin_35 : decode cX7_begin 35 = .ok (.invokestatic 45, 3) := by decide +kernel
theorem dX7_begin_38 : decode cX7_begin 38 = .ok (.aload_n 0, 1) := by decide +kernel
theorem dX7_begin_39 : decode cX7_begin 39 = .ok (.getfield 12, 3) := by decide +kernel
theorem dX7_begin_42 : decode cX7_begin 42 = .ok (.invokevirtual 49, 3) := by decide +kernel
theorem dX7_begin_45 : decode cX7_begin 45 = .ok (.ifCond .ne 7, 3) := by decide +kernel
theorem dX7_begin_48 : decode cX7_begin 48 = .ok (.iconst 1, 1) := by decide +kernel
theorem dX7_begin_49 : decode cX7_begin 49 = .ok (.goto 4, 3) := by decide +kernel
theorem dX7_begin_52 : decode cX7_begin 52 = .ok (.iconst 0, 1) := by decide +kernel
theorem dX7_begin_53 : decode cX7_begin 53 = .ok (.invokestatic 53, 3) := by decide +kernel
theorem dX7_begin_56 : decode cX7_begin 56 = .ok (.aload_n 0, 1) := by decide +kernel
theorem dX7_begin_57 : decode cX7_begin 57 = .ok (.getfield 12, 3) := by decide +kernel
theorem dX7_begin_60 : decode cX7_begin 60 = .ok (.iload_n 1, 1) := by decide +kernel
theorem dX7_begin_61 : decode cX7_begin 61 = .ok (.iload_n 2, 1) := by decide +kernel
theorem dX7_begin_62 : decode cX7_begin 62 = .ok (.iload_n 3, 1) := by decide +kernel
theorem dX7_begin_63 : decode cX7_begin 63 = .ok (.invokevirtual 56, 3) := by decide +kernel
theorem dX7_begin_66 : decode cX7_begin 66 = .ok (.ireturn, 1) := by decide +kernel
theorem dX7_raid_0 : decode cX7_raid 0 = .ok (.iload_n 1, 1) := by decide +kernel
theorem dX7_raid_1 : decode cX7_raid 1 = .ok (.bipush 10, 2) := by decide +kernel
theorem dX7_raid_3 : decode cX7_raid 3 = .ok (.invokestatic 37, 3) := by decide +kernel
theorem dX7_raid_6 : decode cX7_raid 6 = .ok (.aload_n 0, 1) := by decide +kernel
theorem dX7_raid_7 : decode cX7_raid 7 = .ok (.getfield 12, 3) := by decide +kernel
theorem dX7_raid_10 : decode cX7_raid 10 = .ok (.iload_n 1, 1) := by decide +kernel
theorem dX7_raid_11 : decode cX7_raid 11 = .ok (.invokevirtual 60, 3) := by decide +kernel
theorem dX7_raid_14 : decode cX7_raid 14 = .ok (.invokestatic 53, 3) := by decide +kernel
theorem dX7_raid_17 : decode cX7_raid 17 = .ok (.aload_n 0, 1) := by decide +kernel
theorem dX7_raid_18 : decode cX7_raid 18 = .ok (.getfield 12, 3) := by decide +kernel
theorem dX7_raid_21 : decode cX7_raid 21 = .ok (.iload_n 1, 1) := by decide +kernel
theorem dX7_raid_22 : decode cX7_raid 22 = .ok (.invokevirtual 64, 3) := by decide +kernel
theorem dX7_raid_25 : decode cX7_raid 25 = .ok (.ireturn, 1) := by decide +kernel
theorem dX7_step_0 : decode cX7_step 0 = .ok (.iload_n 1, 1) := by decide +kernel
theorem dX7_step_1 : decode cX7_step 1 = .ok (.iload_n 2, 1) := by decide +kernel
theorem dX7_step_2 : decode cX7_step 2 = .ok (.bipush 6, 2) := by decide +kernel
theorem dX7_step_4 : decode cX7_step 4 = .ok (.invokestatic 68, 3) := by decide +kernel
theorem dX7_step_7 : decode cX7_step 7 = .ok (.ifCond .eq 18, 3) := by decide +kernel
theorem dX7_step_10 : decode cX7_step 10 = .ok (.iload_n 3, 1) := by decide +kernel
theorem dX7_step_11 : decode cX7_step 11 = .ok (.iconst 1, 1) := by decide +kernel
theorem dX7_step_12 : decode cX7_step 12 = .ok (.sipush 300, 3) := by decide +kernel
theorem dX7_step_15 : decode cX7_step 15 = .ok (.invokestatic 41, 3) := by decide +kernel
theorem dX7_step_18 : decode cX7_step 18 = .ok (.ifCond .eq 7, 3) := by decide +kernel
theorem dX7_step_21 : decode cX7_step 21 = .ok (.iconst 1, 1) := by decide +kernel
theorem dX7_step_22 : decode cX7_step 22 = .ok (.goto 4, 3) := by decide +kernel
theorem dX7_step_25 : decode cX7_step 25 = .ok (.iconst 0, 1) := by decide +kernel
theorem dX7_step_26 : decode cX7_step 26 = .ok (.invokestatic 45, 3) := by decide +kernel
theorem dX7_step_29 : decode cX7_step 29 = .ok (.aload_n 0, 1) := by decide +kernel
theorem dX7_step_30 : decode cX7_step 30 = .ok (.getfield 12, 3) := by decide +kernel
theorem dX7_step_33 : decode cX7_step 33 = .ok (.iload_n 1, 1) := by decide +kernel
theorem dX7_step_34 : decode cX7_step 34 = .ok (.iload_n 2, 1) := by decide +kernel
theorem dX7_step_35 : decode cX7_step 35 = .ok (.iload_n 3, 1) := by decide +kernel
theorem dX7_step_36 : decode cX7_step 36 = .ok (.invokevirtual 71, 3) := by decide +kernel
theorem dX7_step_39 : decode cX7_step 39 = .ok (.invokestatic 53, 3) := by decide +kernel
theorem dX7_step_42 : decode cX7_step 42 = .ok (.aload_n 0, 1) := by decide +kernel
theorem dX7_step_43 : decode cX7_step 43 = .ok (.getfield 12, 3) := by decide +kernel
theorem dX7_step_46 : decode cX7_step 46 = .ok (.iload_n 1, 1) := by decide +kernel
theorem dX7_step_47 : decode cX7_step 47 = .ok (.iload_n 2, 1) := by decide +kernel
theorem dX7_step_48 : decode cX7_step 48 = .ok (.iload_n 3, 1) := by decide +kernel
theorem dX7_step_49 : decode cX7_step 49 = .ok (.invokevirtual 74, 3) := by decide +kernel
theorem dX7_step_52 : decode cX7_step 52 = .ok (.ireturn, 1) := by decide +kernel
theorem dX7_card_0 : decode cX7_card 0 = .ok (.iload_n 1, 1) := by decide +kernel
theorem dX7_card_1 : decode cX7_card 1 = .ok (.iconst 2, 1) := by decide +kernel
theorem dX7_card_2 : decode cX7_card 2 = .ok (.invokestatic 37, 3) := by decide +kernel
theorem dX7_card_5 : decode cX7_card 5 = .ok (.iload_n 2, 1) := by decide +kernel
theorem dX7_card_6 : decode cX7_card 6 = .ok (.bipush 10, 2) := by decide +kernel
theorem dX7_card_8 : decode cX7_card 8 = .ok (.invokestatic 37, 3) := by decide +kernel
theorem dX7_card_11 : decode cX7_card 11 = .ok (.iload_n 3, 1) := by decide +kernel
theorem dX7_card_12 : decode cX7_card 12 = .ok (.iconst 0, 1) := by decide +kernel
theorem dX7_card_13 : decode cX7_card 13 = .ok (.iconst 2, 1) := by decide +kernel
theorem dX7_card_14 : decode cX7_card 14 = .ok (.invokestatic 41, 3) := by decide +kernel
theorem dX7_card_17 : decode cX7_card 17 = .ok (.invokestatic 45, 3) := by decide +kernel
theorem dX7_card_20 : decode cX7_card 20 = .ok (.aload_n 0, 1) := by decide +kernel
theorem dX7_card_21 : decode cX7_card 21 = .ok (.getfield 12, 3) := by decide +kernel
theorem dX7_card_24 : decode cX7_card 24 = .ok (.iload_n 1, 1) := by decide +kernel
theorem dX7_card_25 : decode cX7_card 25 = .ok (.iload_n 2, 1) := by decide +kernel
theorem dX7_card_26 : decode cX7_card 26 = .ok (.iload_n 3, 1) := by decide +kernel
theorem dX7_card_27 : decode cX7_card 27 = .ok (.invokevirtual 77, 3) := by decide +kernel
theorem dX7_card_30 : decode cX7_card 30 = .ok (.invokestatic 53, 3) := by decide +kernel
theorem dX7_card_33 : decode cX7_card 33 = .ok (.aload_n 0, 1) := by decide +kernel
theorem dX7_card_34 : decode cX7_card 34 = .ok (.getfield 12, 3) := by decide +kernel
theorem dX7_card_37 : decode cX7_card 37 = .ok (.iload_n 1, 1) := by decide +kernel
theorem dX7_card_38 : decode cX7_card 38 = .ok (.iload_n 2, 1) := by decide +kernel
theorem dX7_card_39 : decode cX7_card 39 = .ok (.iload_n 3, 1) := by decide +kernel
theorem dX7_card_40 : decode cX7_card 40 = .ok (.invokevirtual 80, 3) := by decide +kernel
theorem dX7_card_43 : decode cX7_card 43 = .ok (.ireturn, 1) := by decide +kernel
theorem dX7_change_0 : decode cX7_change 0 = .ok (.iload_n 1, 1) := by decide +kernel
theorem dX7_change_1 : decode cX7_change 1 = .ok (.iconst 2, 1) := by decide +kernel
theorem dX7_change_2 : decode cX7_change 2 = .ok (.invokestatic 37, 3) := by decide +kernel
theorem dX7_change_5 : decode cX7_change 5 = .ok (.iload_n 2, 1) := by decide +kernel
theorem dX7_change_6 : decode cX7_change 6 = .ok (.bipush 10, 2) := by decide +kernel
theorem dX7_change_8 : decode cX7_change 8 = .ok (.invokestatic 37, 3) := by decide +kernel
theorem dX7_change_11 : decode cX7_change 11 = .ok (.iload_n 3, 1) := by decide +kernel
theorem dX7_change_12 : decode cX7_change 12 = .ok (.bipush 10, 2) := by decide +kernel
theorem dX7_change_14 : decode cX7_change 14 = .ok (.invokestatic 37, 3) := by decide +kernel
theorem dX7_change_17 : decode cX7_change 17 = .ok (.aload_n 0, 1) := by decide +kernel
theorem dX7_change_18 : decode cX7_change 18 = .ok (.getfield 12, 3) := by decide +kernel
theorem dX7_change_21 : decode cX7_change 21 = .ok (.iload_n 1, 1) := by decide +kernel
theorem dX7_change_22 : decode cX7_change 22 = .ok (.iload_n 2, 1) := by decide +kernel
theorem dX7_change_23 : decode cX7_change 23 = .ok (.iload_n 3, 1) := by decide +kernel
theorem dX7_change_24 : decode cX7_change 24 = .ok (.invokevirtual 83, 3) := by decide +kernel
theorem dX7_change_27 : decode cX7_change 27 = .ok (.invokestatic 53, 3) := by decide +kernel
theorem dX7_change_30 : decode cX7_change 30 = .ok (.aload_n 0, 1) := by decide +kernel
theorem dX7_change_31 : decode cX7_change 31 = .ok (.getfield 12, 3) := by decide +kernel
theorem dX7_change_34 : decode cX7_change 34 = .ok (.iload_n 1, 1) := by decide +kernel
theorem dX7_change_35 : decode cX7_change 35 = .ok (.iload_n 2, 1) := by decide +kernel
theorem dX7_change_36 : decode cX7_change 36 = .ok (.iload_n 3, 1) := by decide +kernel
theorem dX7_change_37 : decode cX7_change 37 = .ok (.invokevirtual 86, 3) := by decide +kernel
theorem dX7_change_40 : decode cX7_change 40 = .ok (.ireturn, 1) := by decide +kernel
theorem dX7_review_0 : decode cX7_review 0 = .ok (.iload_n 1, 1) := by decide +kernel
theorem dX7_review_1 : decode cX7_review 1 = .ok (.iconst 2, 1) := by decide +kernel
theorem dX7_review_2 : decode cX7_review 2 = .ok (.invokestatic 37, 3) := by decide +kernel
theorem dX7_review_5 : decode cX7_review 5 = .ok (.iload_n 3, 1) := by decide +kernel
theorem dX7_review_6 : decode cX7_review 6 = .ok (.aload_n 0, 1) := by decide +kernel
theorem dX7_review_7 : decode cX7_review 7 = .ok (.getfield 12, 3) := by decide +kernel
theorem dX7_review_10 : decode cX7_review 10 = .ok (.iload_n 2, 1) := by decide +kernel
theorem dX7_review_11 : decode cX7_review 11 = .ok (.invokevirtual 89, 3) := by decide +kernel
theorem dX7_review_14 : decode cX7_review 14 = .ok (.invokestatic 37, 3) := by decide +kernel
theorem dX7_review_17 : decode cX7_review 17 = .ok (.iload 4, 2) := by decide +kernel
theorem dX7_review_19 : decode cX7_review 19 = .ok (.iload 5, 2) := by decide +kernel
theorem dX7_review_21 : decode cX7_review 21 = .ok (.iconst 5, 1) := by decide +kernel
theorem dX7_review_22 : decode cX7_review 22 = .ok (.invokestatic 68, 3) := by decide +kernel
theorem dX7_review_25 : decode cX7_review 25 = .ok (.invokestatic 45, 3) := by decide +kernel
theorem dX7_review_28 : decode cX7_review 28 = .ok (.aload_n 0, 1) := by decide +kernel
theorem dX7_review_29 : decode cX7_review 29 = .ok (.getfield 12, 3) := by decide +kernel
theorem dX7_review_32 : decode cX7_review 32 = .ok (.invokevirtual 92, 3) := by decide +kernel
theorem dX7_review_35 : decode cX7_review 35 = .ok (.ifCond .eq 18, 3) := by decide +kernel
theorem dX7_review_38 : decode cX7_review 38 = .ok (.aload_n 0, 1) := by decide +kernel
theorem dX7_review_39 : decode cX7_review 39 = .ok (.getfield 12, 3) := by decide +kernel
theorem dX7_review_42 : decode cX7_review 42 = .ok (.iload_n 1, 1) := by decide +kernel
theorem dX7_review_43 : decode cX7_review 43 = .ok (.invokevirtual 95, 3) := by decide +kernel
theorem dX7_review_46 : decode cX7_review 46 = .ok (.ifCond .eq 7, 3) := by decide +kernel
theorem dX7_review_49 : decode cX7_review 49 = .ok (.iconst 1, 1) := by decide +kernel
theorem dX7_review_50 : decode cX7_review 50 = .ok (.goto 4, 3) := by decide +kernel
theorem dX7_review_53 : decode cX7_review 53 = .ok (.iconst 0, 1) := by decide +kernel
theorem dX7_review_54 : decode cX7_review 54 = .ok (.invokestatic 53, 3) := by decide +kernel
theorem dX7_review_57 : decode cX7_review 57 = .ok (.aload_n 0, 1) := by decide +kernel
theorem dX7_review_58 : decode cX7_review 58 = .ok (.getfield 12, 3) := by decide +kernel
theorem dX7_review_61 : decode cX7_review 61 = .ok (.iload_n 2, 1) := by decide +kernel
theorem dX7_review_62 : decode cX7_review 62 = .ok (.iload_n 3, 1) := by decide +kernel
theorem dX7_review_63 : decode cX7_review 63 = .ok (.iload 4, 2) := by decide +kernel
theorem dX7_review_65 : decode cX7_review 65 = .ok (.iload 5, 2) := by decide +kernel
theorem dX7_review_67 : decode cX7_review 67 = .ok (.invokevirtual 98, 3) := by decide +kernel
theorem dX7_review_70 : decode cX7_review 70 = .ok (.iconst (-1), 1) := by decide +kernel
theorem dX7_review_71 : decode cX7_review 71 = .ok (.if_icmp .ne 7, 3) := by decide +kernel
theorem dX7_review_74 : decode cX7_review 74 = .ok (.iconst 1, 1) := by decide +kernel
theorem dX7_review_75 : decode cX7_review 75 = .ok (.goto 4, 3) := by decide +kernel
theorem dX7_review_78 : decode cX7_review 78 = .ok (.iconst 0, 1) := by decide +kernel
theorem dX7_review_79 : decode cX7_review 79 = .ok (.invokestatic 53, 3) := by decide +kernel
theorem dX7_review_82 : decode cX7_review 82 = .ok (.aload_n 0, 1) := by decide +kernel
theorem dX7_review_83 : decode cX7_review 83 = .ok (.getfield 12, 3) := by decide +kernel
theorem dX7_review_86 : decode cX7_review 86 = .ok (.iload_n 1, 1) := by decide +kernel
theorem dX7_review_87 : decode cX7_review 87 = .ok (.iload_n 2, 1) := by decide +kernel
theorem dX7_review_88 : decode cX7_review 88 = .ok (.iload_n 3, 1) := by decide +kernel
theorem dX7_review_89 : decode cX7_review 89 = .ok (.iload 4, 2) := by decide +kernel
theorem dX7_review_91 : decode cX7_review 91 = .ok (.iload 5, 2) := by decide +kernel
theorem dX7_review_93 : decode cX7_review 93 = .ok (.invokevirtual 102, 3) := by decide +kernel
theorem dX7_review_96 : decode cX7_review 96 = .ok (.ireturn, 1) := by decide +kernel
theorem dX7_wouldFall_0 : decode cX7_wouldFall 0 = .ok (.iload_n 2, 1) := by decide +kernel
theorem dX7_wouldFall_1 : decode cX7_wouldFall 1 = .ok (.aload_n 0, 1) := by decide +kernel
theorem dX7_wouldFall_2 : decode cX7_wouldFall 2 = .ok (.getfield 12, 3) := by decide +kernel
theorem dX7_wouldFall_5 : decode cX7_wouldFall 5 = .ok (.iload_n 1, 1) := by decide +kernel
theorem dX7_wouldFall_6 : decode cX7_wouldFall 6 = .ok (.invokevirtual 89, 3) := by decide +kernel
theorem dX7_wouldFall_9 : decode cX7_wouldFall 9 = .ok (.invokestatic 37, 3) := by decide +kernel
theorem dX7_wouldFall_12 : decode cX7_wouldFall 12 = .ok (.iload_n 3, 1) := by decide +kernel
theorem dX7_wouldFall_13 : decode cX7_wouldFall 13 = .ok (.iload 4, 2) := by decide +kernel
theorem dX7_wouldFall_15 : decode cX7_wouldFall 15 = .ok (.iconst 5, 1) := by decide +kernel
theorem dX7_wouldFall_16 : decode cX7_wouldFall 16 = .ok (.invokestatic 68, 3) := by decide +kernel
theorem dX7_wouldFall_19 : decode cX7_wouldFall 19 = .ok (.invokestatic 45, 3) := by decide +kernel
theorem dX7_wouldFall_22 : decode cX7_wouldFall 22 = .ok (.aload_n 0, 1) := by decide +kernel
theorem dX7_wouldFall_23 : decode cX7_wouldFall 23 = .ok (.getfield 12, 3) := by decide +kernel
theorem dX7_wouldFall_26 : decode cX7_wouldFall 26 = .ok (.iload_n 1, 1) := by decide +kernel
theorem dX7_wouldFall_27 : decode cX7_wouldFall 27 = .ok (.iload_n 2, 1) := by decide +kernel
theorem dX7_wouldFall_28 : decode cX7_wouldFall 28 = .ok (.iload_n 3, 1) := by decide +kernel
theorem dX7_wouldFall_29 : decode cX7_wouldFall 29 = .ok (.iload 4, 2) := by decide +kernel
theorem dX7_wouldFall_31 : decode cX7_wouldFall 31 = .ok (.invokevirtual 98, 3) := by decide +kernel
theorem dX7_wouldFall_34 : decode cX7_wouldFall 34 = .ok (.ireturn, 1) := by decide +kernel
theorem dX7_takeBack_0 : decode cX7_takeBack 0 = .ok (.iload_n 1, 1) := by decide +kernel
theorem dX7_takeBack_1 : decode cX7_takeBack 1 = .ok (.aload_n 0, 1) := by decide +kernel
theorem dX7_takeBack_2 : decode cX7_takeBack 2 = .ok (.getfield 12, 3) := by decide +kernel
theorem dX7_takeBack_5 : decode cX7_takeBack 5 = .ok (.invokevirtual 106, 3) := by decide +kernel
theorem dX7_takeBack_8 : decode cX7_takeBack 8 = .ok (.invokestatic 37, 3) := by decide +kernel
theorem dX7_takeBack_11 : decode cX7_takeBack 11 = .ok (.aload_n 0, 1) := by decide +kernel
theorem dX7_takeBack_12 : decode cX7_takeBack 12 = .ok (.getfield 12, 3) := by decide +kernel
theorem dX7_takeBack_15 : decode cX7_takeBack 15 = .ok (.iload_n 1, 1) := by decide +kernel
theorem dX7_takeBack_16 : decode cX7_takeBack 16 = .ok (.invokevirtual 110, 3) := by decide +kernel
theorem dX7_takeBack_19 : decode cX7_takeBack 19 = .ok (.ireturn, 1) := by decide +kernel
theorem dX7_enter_0 : decode cX7_enter 0 = .ok (.aload_n 0, 1) := by decide +kernel
theorem dX7_enter_1 : decode cX7_enter 1 = .ok (.getfield 12, 3) := by decide +kernel
theorem dX7_enter_4 : decode cX7_enter 4 = .ok (.invokevirtual 113, 3) := by decide +kernel
theorem dX7_enter_7 : decode cX7_enter 7 = .ok (.invokestatic 53, 3) := by decide +kernel
theorem dX7_enter_10 : decode cX7_enter 10 = .ok (.aload_n 0, 1) := by decide +kernel
theorem dX7_enter_11 : decode cX7_enter 11 = .ok (.getfield 26, 3) := by decide +kernel
theorem dX7_enter_14 : decode cX7_enter 14 = .ok (.aload_n 0, 1) := by decide +kernel
theorem dX7_enter_15 : decode cX7_enter 15 = .ok (.getfield 12, 3) := by decide +kernel
theorem dX7_enter_18 : decode cX7_enter 18 = .ok (.iconst 0, 1) := by decide +kernel
theorem dX7_enter_19 : decode cX7_enter 19 = .ok (.invokevirtual 116, 3) := by decide +kernel
theorem dX7_enter_22 : decode cX7_enter 22 = .ok (.aload_n 0, 1) := by decide +kernel
theorem dX7_enter_23 : decode cX7_enter 23 = .ok (.getfield 12, 3) := by decide +kernel
theorem dX7_enter_26 : decode cX7_enter 26 = .ok (.iconst 0, 1) := by decide +kernel
theorem dX7_enter_27 : decode cX7_enter 27 = .ok (.invokevirtual 119, 3) := by decide +kernel
theorem dX7_enter_30 : decode cX7_enter 30 = .ok (.aload_n 0, 1) := by decide +kernel
theorem dX7_enter_31 : decode cX7_enter 31 = .ok (.getfield 12, 3) := by decide +kernel
theorem dX7_enter_34 : decode cX7_enter 34 = .ok (.iconst 1, 1) := by decide +kernel
theorem dX7_enter_35 : decode cX7_enter 35 = .ok (.invokevirtual 116, 3) := by decide +kernel
theorem dX7_enter_38 : decode cX7_enter 38 = .ok (.aload_n 0, 1) := by decide +kernel
theorem dX7_enter_39 : decode cX7_enter 39 = .ok (.getfield 12, 3) := by decide +kernel
theorem dX7_enter_42 : decode cX7_enter 42 = .ok (.iconst 1, 1) := by decide +kernel
theorem dX7_enter_43 : decode cX7_enter 43 = .ok (.invokevirtual 119, 3) := by decide +kernel
theorem dX7_enter_46 : decode cX7_enter 46 = .ok (.invokevirtual 122, 3) := by decide +kernel
theorem dX7_enter_49 : decode cX7_enter 49 = .ok (.istore_n 1, 1) := by decide +kernel
theorem dX7_enter_50 : decode cX7_enter 50 = .ok (.aload_n 0, 1) := by decide +kernel
theorem dX7_enter_51 : decode cX7_enter 51 = .ok (.getfield 12, 3) := by decide +kernel
theorem dX7_enter_54 : decode cX7_enter 54 = .ok (.invokevirtual 125, 3) := by decide +kernel
theorem dX7_enter_57 : decode cX7_enter 57 = .ok (.iload_n 1, 1) := by decide +kernel
theorem dX7_enter_58 : decode cX7_enter 58 = .ok (.ireturn, 1) := by decide +kernel
theorem dX7_type_0 : decode cX7_type 0 = .ok (.iload_n 1, 1) := by decide +kernel
theorem dX7_type_1 : decode cX7_type 1 = .ok (.bipush 32, 2) := by decide +kernel
theorem dX7_type_3 : decode cX7_type 3 = .ok (.bipush 126, 2) := by decide +kernel
theorem dX7_type_5 : decode cX7_type 5 = .ok (.invokestatic 41, 3) := by decide +kernel
theorem dX7_type_8 : decode cX7_type 8 = .ok (.invokestatic 45, 3) := by decide +kernel
theorem dX7_type_11 : decode cX7_type 11 = .ok (.aload_n 0, 1) := by decide +kernel
theorem dX7_type_12 : decode cX7_type 12 = .ok (.getfield 19, 3) := by decide +kernel
theorem dX7_type_15 : decode cX7_type 15 = .ok (.invokevirtual 128, 3) := by decide +kernel
theorem dX7_type_18 : decode cX7_type 18 = .ok (.invokestatic 53, 3) := by decide +kernel
theorem dX7_type_21 : decode cX7_type 21 = .ok (.aload_n 0, 1) := by decide +kernel
theorem dX7_type_22 : decode cX7_type 22 = .ok (.getfield 19, 3) := by decide +kernel
theorem dX7_type_25 : decode cX7_type 25 = .ok (.iload_n 1, 1) := by decide +kernel
theorem dX7_type_26 : decode cX7_type 26 = .ok (.invokevirtual 131, 3) := by decide +kernel
theorem dX7_type_29 : decode cX7_type 29 = .ok (.ireturn, 1) := by decide +kernel
theorem dX7_clear_0 : decode cX7_clear 0 = .ok (.aload_n 0, 1) := by decide +kernel
theorem dX7_clear_1 : decode cX7_clear 1 = .ok (.getfield 19, 3) := by decide +kernel
theorem dX7_clear_4 : decode cX7_clear 4 = .ok (.invokevirtual 134, 3) := by decide +kernel
theorem dX7_clear_7 : decode cX7_clear 7 = .ok (.ireturn, 1) := by decide +kernel
theorem dX7_fault_0 : decode cX7_fault 0 = .ok (.aload_n 0, 1) := by decide +kernel
theorem dX7_fault_1 : decode cX7_fault 1 = .ok (.getfield 19, 3) := by decide +kernel
theorem dX7_fault_4 : decode cX7_fault 4 = .ok (.invokevirtual 137, 3) := by decide +kernel
theorem dX7_fault_7 : decode cX7_fault 7 = .ok (.ireturn, 1) := by decide +kernel
theorem dX7_run_0 : decode cX7_run 0 = .ok (.aload_n 0, 1) := by decide +kernel
theorem dX7_run_1 : decode cX7_run 1 = .ok (.getfield 19, 3) := by decide +kernel
theorem dX7_run_4 : decode cX7_run 4 = .ok (.invokevirtual 137, 3) := by decide +kernel
theorem dX7_run_7 : decode cX7_run 7 = .ok (.iconst (-1), 1) := by decide +kernel
theorem dX7_run_8 : decode cX7_run 8 = .ok (.if_icmp .ne 7, 3) := by decide +kernel
theorem dX7_run_11 : decode cX7_run 11 = .ok (.iconst 1, 1) := by decide +kernel
theorem dX7_run_12 : decode cX7_run 12 = .ok (.goto 4, 3) := by decide +kernel
theorem dX7_run_15 : decode cX7_run 15 = .ok (.iconst 0, 1) := by decide +kernel
theorem dX7_run_16 : decode cX7_run 16 = .ok (.invokestatic 53, 3) := by decide +kernel
theorem dX7_run_19 : decode cX7_run 19 = .ok (.aload_n 0, 1) := by decide +kernel
theorem dX7_run_20 : decode cX7_run 20 = .ok (.getfield 19, 3) := by decide +kernel
theorem dX7_run_23 : decode cX7_run 23 = .ok (.invokevirtual 140, 3) := by decide +kernel
theorem dX7_run_26 : decode cX7_run 26 = .ok (.iconst 0, 1) := by decide +kernel
theorem dX7_run_27 : decode cX7_run 27 = .ok (.istore_n 1, 1) := by decide +kernel
theorem dX7_run_28 : decode cX7_run 28 = .ok (.iload_n 1, 1) := by decide +kernel
theorem dX7_run_29 : decode cX7_run 29 = .ok (.bipush 60, 2) := by decide +kernel
theorem dX7_run_31 : decode cX7_run 31 = .ok (.if_icmp .ge 26, 3) := by decide +kernel
theorem dX7_run_34 : decode cX7_run 34 = .ok (.aload_n 0, 1) := by decide +kernel
theorem dX7_run_35 : decode cX7_run 35 = .ok (.getfield 19, 3) := by decide +kernel
theorem dX7_run_38 : decode cX7_run 38 = .ok (.invokevirtual 143, 3) := by decide +kernel
theorem dX7_run_41 : decode cX7_run 41 = .ok (.ifCond .eq 16, 3) := by decide +kernel
theorem dX7_run_44 : decode cX7_run 44 = .ok (.aload_n 0, 1) := by decide +kernel
theorem dX7_run_45 : decode cX7_run 45 = .ok (.invokevirtual 146, 3) := by decide +kernel
theorem dX7_run_48 : decode cX7_run 48 = .ok (.ifCond .eq 9, 3) := by decide +kernel
theorem dX7_run_51 : decode cX7_run 51 = .ok (.iinc 1 1, 3) := by decide +kernel
theorem dX7_run_54 : decode cX7_run 54 = .ok (.goto (-26), 3) := by decide +kernel
theorem dX7_run_57 : decode cX7_run 57 = .ok (.iload_n 1, 1) := by decide +kernel
theorem dX7_run_58 : decode cX7_run 58 = .ok (.ireturn, 1) := by decide +kernel
theorem dX7_player_0 : decode cX7_player 0 = .ok (.iload_n 1, 1) := by decide +kernel
theorem dX7_player_1 : decode cX7_player 1 = .ok (.iconst 2, 1) := by decide +kernel
theorem dX7_player_2 : decode cX7_player 2 = .ok (.invokestatic 37, 3) := by decide +kernel
theorem dX7_player_5 : decode cX7_player 5 = .ok (.iload_n 2, 1) := by decide +kernel
theorem dX7_player_6 : decode cX7_player 6 = .ok (.bipush 10, 2) := by decide +kernel
theorem dX7_player_8 : decode cX7_player 8 = .ok (.invokestatic 37, 3) := by decide +kernel
theorem dX7_player_11 : decode cX7_player 11 = .ok (.aload_n 0, 1) := by decide +kernel
theorem dX7_player_12 : decode cX7_player 12 = .ok (.getfield 12, 3) := by decide +kernel
theorem dX7_player_15 : decode cX7_player 15 = .ok (.invokevirtual 49, 3) := by decide +kernel
theorem dX7_player_18 : decode cX7_player 18 = .ok (.invokestatic 53, 3) := by decide +kernel
theorem dX7_player_21 : decode cX7_player 21 = .ok (.aload_n 0, 1) := by decide +kernel
theorem dX7_player_22 : decode cX7_player 22 = .ok (.getfield 12, 3) := by decide +kernel
theorem dX7_player_25 : decode cX7_player 25 = .ok (.iload_n 1, 1) := by decide +kernel
theorem dX7_player_26 : decode cX7_player 26 = .ok (.invokevirtual 149, 3) := by decide +kernel
theorem dX7_player_29 : decode cX7_player 29 = .ok (.iload_n 2, 1) := by decide +kernel
theorem dX7_player_30 : decode cX7_player 30 = .ok (.invokevirtual 153, 3) := by decide +kernel
theorem dX7_player_33 : decode cX7_player 33 = .ok (.ireturn, 1) := by decide +kernel
theorem dX7_out_0 : decode cX7_out 0 = .ok (.iload_n 1, 1) := by decide +kernel
theorem dX7_out_1 : decode cX7_out 1 = .ok (.iconst 2, 1) := by decide +kernel
theorem dX7_out_2 : decode cX7_out 2 = .ok (.invokestatic 37, 3) := by decide +kernel
theorem dX7_out_5 : decode cX7_out 5 = .ok (.iload_n 2, 1) := by decide +kernel
theorem dX7_out_6 : decode cX7_out 6 = .ok (.iconst 0, 1) := by decide +kernel
theorem dX7_out_7 : decode cX7_out 7 = .ok (.invokestatic 158, 3) := by decide +kernel
theorem dX7_out_10 : decode cX7_out 10 = .ok (.iconst 1, 1) := by decide +kernel
theorem dX7_out_11 : decode cX7_out 11 = .ok (.invokestatic 37, 3) := by decide +kernel
theorem dX7_out_14 : decode cX7_out 14 = .ok (.aload_n 0, 1) := by decide +kernel
theorem dX7_out_15 : decode cX7_out 15 = .ok (.getfield 12, 3) := by decide +kernel
theorem dX7_out_18 : decode cX7_out 18 = .ok (.invokevirtual 49, 3) := by decide +kernel
theorem dX7_out_21 : decode cX7_out 21 = .ok (.invokestatic 53, 3) := by decide +kernel
theorem dX7_out_24 : decode cX7_out 24 = .ok (.aload_n 0, 1) := by decide +kernel
theorem dX7_out_25 : decode cX7_out 25 = .ok (.getfield 12, 3) := by decide +kernel
theorem dX7_out_28 : decode cX7_out 28 = .ok (.iload_n 1, 1) := by decide +kernel
theorem dX7_out_29 : decode cX7_out 29 = .ok (.invokevirtual 149, 3) := by decide +kernel
theorem dX7_out_32 : decode cX7_out 32 = .ok (.iload_n 2, 1) := by decide +kernel
theorem dX7_out_33 : decode cX7_out 33 = .ok (.invokevirtual 164, 3) := by decide +kernel
theorem dX7_out_36 : decode cX7_out 36 = .ok (.ireturn, 1) := by decide +kernel
theorem dX7_next_0 : decode cX7_next 0 = .ok (.iload_n 1, 1) := by decide +kernel
theorem dX7_next_1 : decode cX7_next 1 = .ok (.iconst 2, 1) := by decide +kernel
theorem dX7_next_2 : decode cX7_next 2 = .ok (.invokestatic 37, 3) := by decide +kernel
theorem dX7_next_5 : decode cX7_next 5 = .ok (.aload_n 0, 1) := by decide +kernel
theorem dX7_next_6 : decode cX7_next 6 = .ok (.getfield 12, 3) := by decide +kernel
theorem dX7_next_9 : decode cX7_next 9 = .ok (.invokevirtual 49, 3) := by decide +kernel
theorem dX7_next_12 : decode cX7_next 12 = .ok (.invokestatic 53, 3) := by decide +kernel
theorem dX7_next_15 : decode cX7_next 15 = .ok (.aload_n 0, 1) := by decide +kernel
theorem dX7_next_16 : decode cX7_next 16 = .ok (.getfield 12, 3) := by decide +kernel
theorem dX7_next_19 : decode cX7_next 19 = .ok (.iload_n 1, 1) := by decide +kernel
theorem dX7_next_20 : decode cX7_next 20 = .ok (.invokevirtual 149, 3) := by decide +kernel
theorem dX7_next_23 : decode cX7_next 23 = .ok (.iconst 0, 1) := by decide +kernel
theorem dX7_next_24 : decode cX7_next 24 = .ok (.invokevirtual 164, 3) := by decide +kernel
theorem dX7_next_27 : decode cX7_next 27 = .ok (.ireturn, 1) := by decide +kernel
theorem dX7_points_0 : decode cX7_points 0 = .ok (.iload_n 1, 1) := by decide +kernel
theorem dX7_points_1 : decode cX7_points 1 = .ok (.iconst 2, 1) := by decide +kernel
theorem dX7_points_2 : decode cX7_points 2 = .ok (.invokestatic 37, 3) := by decide +kernel
theorem dX7_points_5 : decode cX7_points 5 = .ok (.aload_n 0, 1) := by decide +kernel
theorem dX7_points_6 : decode cX7_points 6 = .ok (.getfield 12, 3) := by decide +kernel
theorem dX7_points_9 : decode cX7_points 9 = .ok (.invokevirtual 49, 3) := by decide +kernel
theorem dX7_points_12 : decode cX7_points 12 = .ok (.invokestatic 53, 3) := by decide +kernel
theorem dX7_points_15 : decode cX7_points 15 = .ok (.aload_n 0, 1) := by decide +kernel
theorem dX7_points_16 : decode cX7_points 16 = .ok (.getfield 12, 3) := by decide +kernel
theorem dX7_points_19 : decode cX7_points 19 = .ok (.iload_n 1, 1) := by decide +kernel
theorem dX7_points_20 : decode cX7_points 20 = .ok (.invokevirtual 119, 3) := by decide +kernel
theorem dX7_points_23 : decode cX7_points 23 = .ok (.ireturn, 1) := by decide +kernel
theorem dX7_match_0 : decode cX7_match 0 = .ok (.iload_n 1, 1) := by decide +kernel
theorem dX7_match_1 : decode cX7_match 1 = .ok (.iconst 0, 1) := by decide +kernel
theorem dX7_match_2 : decode cX7_match 2 = .ok (.bipush 7, 2) := by decide +kernel
theorem dX7_match_4 : decode cX7_match 4 = .ok (.invokestatic 41, 3) := by decide +kernel
theorem dX7_match_7 : decode cX7_match 7 = .ok (.invokestatic 45, 3) := by decide +kernel
theorem dX7_match_10 : decode cX7_match 10 = .ok (.aload_n 0, 1) := by decide +kernel
theorem dX7_match_11 : decode cX7_match 11 = .ok (.getfield 12, 3) := by decide +kernel
theorem dX7_match_14 : decode cX7_match 14 = .ok (.invokevirtual 49, 3) := by decide +kernel
theorem dX7_match_17 : decode cX7_match 17 = .ok (.invokestatic 53, 3) := by decide +kernel
theorem dX7_match_20 : decode cX7_match 20 = .ok (.aload_n 0, 1) := by decide +kernel
theorem dX7_match_21 : decode cX7_match 21 = .ok (.getfield 12, 3) := by decide +kernel
theorem dX7_match_24 : decode cX7_match 24 = .ok (.iload_n 1, 1) := by decide +kernel
theorem dX7_match_25 : decode cX7_match 25 = .ok (.invokevirtual 167, 3) := by decide +kernel
theorem dX7_match_28 : decode cX7_match 28 = .ok (.ireturn, 1) := by decide +kernel
theorem dX7_hasReview_0 : decode cX7_hasReview 0 = .ok (.iload_n 1, 1) := by decide +kernel
theorem dX7_hasReview_1 : decode cX7_hasReview 1 = .ok (.iconst 2, 1) := by decide +kernel
theorem dX7_hasReview_2 : decode cX7_hasReview 2 = .ok (.invokestatic 37, 3) := by decide +kernel
theorem dX7_hasReview_5 : decode cX7_hasReview 5 = .ok (.aload_n 0, 1) := by decide +kernel
theorem dX7_hasReview_6 : decode cX7_hasReview 6 = .ok (.getfield 12, 3) := by decide +kernel
theorem dX7_hasReview_9 : decode cX7_hasReview 9 = .ok (.invokevirtual 49, 3) := by decide +kernel
theorem dX7_hasReview_12 : decode cX7_hasReview 12 = .ok (.invokestatic 53, 3) := by decide +kernel
theorem dX7_hasReview_15 : decode cX7_hasReview 15 = .ok (.aload_n 0, 1) := by decide +kernel
theorem dX7_hasReview_16 : decode cX7_hasReview 16 = .ok (.getfield 12, 3) := by decide +kernel
theorem dX7_hasReview_19 : decode cX7_hasReview 19 = .ok (.iload_n 1, 1) := by decide +kernel
theorem dX7_hasReview_20 : decode cX7_hasReview 20 = .ok (.invokevirtual 95, 3) := by decide +kernel
theorem dX7_hasReview_23 : decode cX7_hasReview 23 = .ok (.ireturn, 1) := by decide +kernel
theorem dX7_matAfter_0 : decode cX7_matAfter 0 = .ok (.iload_n 1, 1) := by decide +kernel
theorem dX7_matAfter_1 : decode cX7_matAfter 1 = .ok (.aload_n 0, 1) := by decide +kernel
theorem dX7_matAfter_2 : decode cX7_matAfter 2 = .ok (.getfield 12, 3) := by decide +kernel
theorem dX7_matAfter_5 : decode cX7_matAfter 5 = .ok (.invokevirtual 170, 3) := by decide +kernel
theorem dX7_matAfter_8 : decode cX7_matAfter 8 = .ok (.invokestatic 37, 3) := by decide +kernel
theorem dX7_matAfter_11 : decode cX7_matAfter 11 = .ok (.iload_n 2, 1) := by decide +kernel
theorem dX7_matAfter_12 : decode cX7_matAfter 12 = .ok (.iconst 2, 1) := by decide +kernel
theorem dX7_matAfter_13 : decode cX7_matAfter 13 = .ok (.invokestatic 37, 3) := by decide +kernel
theorem dX7_matAfter_16 : decode cX7_matAfter 16 = .ok (.aload_n 0, 1) := by decide +kernel
theorem dX7_matAfter_17 : decode cX7_matAfter 17 = .ok (.getfield 12, 3) := by decide +kernel
theorem dX7_matAfter_20 : decode cX7_matAfter 20 = .ok (.iload_n 1, 1) := by decide +kernel
theorem dX7_matAfter_21 : decode cX7_matAfter 21 = .ok (.iload_n 2, 1) := by decide +kernel
theorem dX7_matAfter_22 : decode cX7_matAfter 22 = .ok (.invokevirtual 173, 3) := by decide +kernel
theorem dX7_matAfter_25 : decode cX7_matAfter 25 = .ok (.ireturn, 1) := by decide +kernel
theorem dX7_matAnew_0 : decode cX7_matAnew 0 = .ok (.iload_n 1, 1) := by decide +kernel
theorem dX7_matAnew_1 : decode cX7_matAnew 1 = .ok (.aload_n 0, 1) := by decide +kernel
theorem dX7_matAnew_2 : decode cX7_matAnew 2 = .ok (.getfield 12, 3) := by decide +kernel
theorem dX7_matAnew_5 : decode cX7_matAnew 5 = .ok (.invokevirtual 170, 3) := by decide +kernel
theorem dX7_matAnew_8 : decode cX7_matAnew 8 = .ok (.invokestatic 37, 3) := by decide +kernel
theorem dX7_matAnew_11 : decode cX7_matAnew 11 = .ok (.iload_n 2, 1) := by decide +kernel
theorem dX7_matAnew_12 : decode cX7_matAnew 12 = .ok (.iconst 2, 1) := by decide +kernel
theorem dX7_matAnew_13 : decode cX7_matAnew 13 = .ok (.invokestatic 37, 3) := by decide +kernel
theorem dX7_matAnew_16 : decode cX7_matAnew 16 = .ok (.aload_n 0, 1) := by decide +kernel
theorem dX7_matAnew_17 : decode cX7_matAnew 17 = .ok (.getfield 12, 3) := by decide +kernel
theorem dX7_matAnew_20 : decode cX7_matAnew 20 = .ok (.iload_n 1, 1) := by decide +kernel
theorem dX7_matAnew_21 : decode cX7_matAnew 21 = .ok (.iload_n 2, 1) := by decide +kernel
theorem dX7_matAnew_22 : decode cX7_matAnew 22 = .ok (.invokevirtual 176, 3) := by decide +kernel
theorem dX7_matAnew_25 : decode cX7_matAnew 25 = .ok (.ireturn, 1) := by decide +kernel
theorem dX7_pointsAfter_0 : decode cX7_pointsAfter 0 = .ok (.iload_n 1, 1) := by decide +kernel
theorem dX7_pointsAfter_1 : decode cX7_pointsAfter 1 = .ok (.aload_n 0, 1) := by decide +kernel
theorem dX7_pointsAfter_2 : decode cX7_pointsAfter 2 = .ok (.getfield 12, 3) := by decide +kernel
theorem dX7_pointsAfter_5 : decode cX7_pointsAfter 5 = .ok (.invokevirtual 170, 3) := by decide +kernel
theorem dX7_pointsAfter_8 : decode cX7_pointsAfter 8 = .ok (.invokestatic 37, 3) := by decide +kernel
theorem dX7_pointsAfter_11 : decode cX7_pointsAfter 11 = .ok (.iload_n 2, 1) := by decide +kernel
theorem dX7_pointsAfter_12 : decode cX7_pointsAfter 12 = .ok (.iconst 2, 1) := by decide +kernel
theorem dX7_pointsAfter_13 : decode cX7_pointsAfter 13 = .ok (.invokestatic 37, 3) := by decide +kernel
theorem dX7_pointsAfter_16 : decode cX7_pointsAfter 16 = .ok (.aload_n 0, 1) := by decide +kernel
theorem dX7_pointsAfter_17 : decode cX7_pointsAfter 17 = .ok (.getfield 12, 3) := by decide +kernel
theorem dX7_pointsAfter_20 : decode cX7_pointsAfter 20 = .ok (.iload_n 1, 1) := by decide +kernel
theorem dX7_pointsAfter_21 : decode cX7_pointsAfter 21 = .ok (.iload_n 2, 1) := by decide +kernel
theorem dX7_pointsAfter_22 : decode cX7_pointsAfter 22 = .ok (.invokevirtual 179, 3) := by decide +kernel
theorem dX7_pointsAfter_25 : decode cX7_pointsAfter 25 = .ok (.ireturn, 1) := by decide +kernel
theorem dX7_raidPoints_0 : decode cX7_raidPoints 0 = .ok (.iload_n 1, 1) := by decide +kernel
theorem dX7_raidPoints_1 : decode cX7_raidPoints 1 = .ok (.iconst 2, 1) := by decide +kernel
theorem dX7_raidPoints_2 : decode cX7_raidPoints 2 = .ok (.invokestatic 37, 3) := by decide +kernel
theorem dX7_raidPoints_5 : decode cX7_raidPoints 5 = .ok (.iload_n 2, 1) := by decide +kernel
theorem dX7_raidPoints_6 : decode cX7_raidPoints 6 = .ok (.bipush 10, 2) := by decide +kernel
theorem dX7_raidPoints_8 : decode cX7_raidPoints 8 = .ok (.invokestatic 37, 3) := by decide +kernel
theorem dX7_raidPoints_11 : decode cX7_raidPoints 11 = .ok (.aload_n 0, 1) := by decide +kernel
theorem dX7_raidPoints_12 : decode cX7_raidPoints 12 = .ok (.getfield 12, 3) := by decide +kernel
theorem dX7_raidPoints_15 : decode cX7_raidPoints 15 = .ok (.invokevirtual 49, 3) := by decide +kernel
theorem dX7_raidPoints_18 : decode cX7_raidPoints 18 = .ok (.invokestatic 53, 3) := by decide +kernel
theorem dX7_raidPoints_21 : decode cX7_raidPoints 21 = .ok (.aload_n 0, 1) := by decide +kernel
theorem dX7_raidPoints_22 : decode cX7_raidPoints 22 = .ok (.getfield 12, 3) := by decide +kernel
theorem dX7_raidPoints_25 : decode cX7_raidPoints 25 = .ok (.iload_n 1, 1) := by decide +kernel
theorem dX7_raidPoints_26 : decode cX7_raidPoints 26 = .ok (.invokevirtual 149, 3) := by decide +kernel
theorem dX7_raidPoints_29 : decode cX7_raidPoints 29 = .ok (.iload_n 2, 1) := by decide +kernel
theorem dX7_raidPoints_30 : decode cX7_raidPoints 30 = .ok (.invokevirtual 182, 3) := by decide +kernel
theorem dX7_raidPoints_33 : decode cX7_raidPoints 33 = .ok (.ireturn, 1) := by decide +kernel
theorem dX7_club_0 : decode cX7_club 0 = .ok (.iload_n 1, 1) := by decide +kernel
theorem dX7_club_1 : decode cX7_club 1 = .ok (.bipush 8, 2) := by decide +kernel
theorem dX7_club_3 : decode cX7_club 3 = .ok (.invokestatic 37, 3) := by decide +kernel
theorem dX7_club_6 : decode cX7_club 6 = .ok (.iload_n 2, 1) := by decide +kernel
theorem dX7_club_7 : decode cX7_club 7 = .ok (.iconst 0, 1) := by decide +kernel
theorem dX7_club_8 : decode cX7_club 8 = .ok (.bipush 6, 2) := by decide +kernel
theorem dX7_club_10 : decode cX7_club 10 = .ok (.invokestatic 41, 3) := by decide +kernel
theorem dX7_club_13 : decode cX7_club 13 = .ok (.invokestatic 45, 3) := by decide +kernel
theorem dX7_club_16 : decode cX7_club 16 = .ok (.aload_n 0, 1) := by decide +kernel
theorem dX7_club_17 : decode cX7_club 17 = .ok (.getfield 26, 3) := by decide +kernel
theorem dX7_club_20 : decode cX7_club 20 = .ok (.iload_n 1, 1) := by decide +kernel
theorem dX7_club_21 : decode cX7_club 21 = .ok (.iload_n 2, 1) := by decide +kernel
theorem dX7_club_22 : decode cX7_club 22 = .ok (.invokevirtual 185, 3) := by decide +kernel
theorem dX7_club_25 : decode cX7_club 25 = .ok (.ireturn, 1) := by decide +kernel
theorem dX7_right_0 : decode cX7_right 0 = .ok (.iload_n 1, 1) := by decide +kernel
theorem dX7_right_1 : decode cX7_right 1 = .ok (.bipush 8, 2) := by decide +kernel
theorem dX7_right_3 : decode cX7_right 3 = .ok (.invokestatic 37, 3) := by decide +kernel
theorem dX7_right_6 : decode cX7_right 6 = .ok (.iload_n 2, 1) := by decide +kernel
theorem dX7_right_7 : decode cX7_right 7 = .ok (.bipush 24, 2) := by decide +kernel
theorem dX7_right_9 : decode cX7_right 9 = .ok (.invokestatic 37, 3) := by decide +kernel
theorem dX7_right_12 : decode cX7_right 12 = .ok (.aload_n 0, 1) := by decide +kernel
theorem dX7_right_13 : decode cX7_right 13 = .ok (.getfield 33, 3) := by decide +kernel
theorem dX7_right_16 : decode cX7_right 16 = .ok (.iload_n 2, 1) := by decide +kernel
theorem dX7_right_17 : decode cX7_right 17 = .ok (.invokevirtual 187, 3) := by decide +kernel
theorem dX7_right_20 : decode cX7_right 20 = .ok (.ifCond .ne 18, 3) := by decide +kernel
theorem dX7_right_23 : decode cX7_right 23 = .ok (.aload_n 0, 1) := by decide +kernel
theorem dX7_right_24 : decode cX7_right 24 = .ok (.getfield 33, 3) := by decide +kernel
theorem dX7_right_27 : decode cX7_right 27 = .ok (.iload_n 2, 1) := by decide +kernel
theorem dX7_right_28 : decode cX7_right 28 = .ok (.invokevirtual 190, 3) := by decide +kernel
theorem dX7_right_31 : decode cX7_right 31 = .ok (.ifCond .ne 7, 3) := by decide +kernel
theorem dX7_right_34 : decode cX7_right 34 = .ok (.iconst 1, 1) := by decide +kernel
theorem dX7_right_35 : decode cX7_right 35 = .ok (.goto 4, 3) := by decide +kernel
theorem dX7_right_38 : decode cX7_right 38 = .ok (.iconst 0, 1) := by decide +kernel
theorem dX7_right_39 : decode cX7_right 39 = .ok (.invokestatic 53, 3) := by decide +kernel
theorem dX7_right_42 : decode cX7_right 42 = .ok (.aload_n 0, 1) := by decide +kernel
theorem dX7_right_43 : decode cX7_right 43 = .ok (.getfield 33, 3) := by decide +kernel
theorem dX7_right_46 : decode cX7_right 46 = .ok (.iload_n 1, 1) := by decide +kernel
theorem dX7_right_47 : decode cX7_right 47 = .ok (.iload_n 2, 1) := by decide +kernel
theorem dX7_right_48 : decode cX7_right 48 = .ok (.invokevirtual 193, 3) := by decide +kernel
theorem dX7_right_51 : decode cX7_right 51 = .ok (.ireturn, 1) := by decide +kernel
theorem dX7_call_0 : decode cX7_call 0 = .ok (.iload_n 1, 1) := by decide +kernel
theorem dX7_call_1 : decode cX7_call 1 = .ok (.bipush 24, 2) := by decide +kernel
theorem dX7_call_3 : decode cX7_call 3 = .ok (.invokestatic 37, 3) := by decide +kernel
theorem dX7_call_6 : decode cX7_call 6 = .ok (.aload_n 0, 1) := by decide +kernel
theorem dX7_call_7 : decode cX7_call 7 = .ok (.getfield 33, 3) := by decide +kernel
theorem dX7_call_10 : decode cX7_call 10 = .ok (.invokevirtual 196, 3) := by decide +kernel
theorem dX7_call_13 : decode cX7_call 13 = .ok (.ifCond .ne 18, 3) := by decide +kernel
theorem dX7_call_16 : decode cX7_call 16 = .ok (.aload_n 0, 1) := by decide +kernel
theorem dX7_call_17 : decode cX7_call 17 = .ok (.getfield 33, 3) := by decide +kernel
theorem dX7_call_20 : decode cX7_call 20 = .ok (.iload_n 1, 1) := by decide +kernel
theorem dX7_call_21 : decode cX7_call 21 = .ok (.invokevirtual 190, 3) := by decide +kernel
theorem dX7_call_24 : decode cX7_call 24 = .ok (.ifCond .ne 7, 3) := by decide +kernel
theorem dX7_call_27 : decode cX7_call 27 = .ok (.iconst 1, 1) := by decide +kernel
theorem dX7_call_28 : decode cX7_call 28 = .ok (.goto 4, 3) := by decide +kernel
theorem dX7_call_31 : decode cX7_call 31 = .ok (.iconst 0, 1) := by decide +kernel
theorem dX7_call_32 : decode cX7_call 32 = .ok (.invokestatic 53, 3) := by decide +kernel
theorem dX7_call_35 : decode cX7_call 35 = .ok (.aload_n 0, 1) := by decide +kernel
theorem dX7_call_36 : decode cX7_call 36 = .ok (.getfield 33, 3) := by decide +kernel
theorem dX7_call_39 : decode cX7_call 39 = .ok (.iload_n 1, 1) := by decide +kernel
theorem dX7_call_40 : decode cX7_call 40 = .ok (.invokevirtual 199, 3) := by decide +kernel
theorem dX7_call_43 : decode cX7_call 43 = .ok (.ireturn, 1) := by decide +kernel
theorem dX7_bid_0 : decode cX7_bid 0 = .ok (.iload_n 1, 1) := by decide +kernel
theorem dX7_bid_1 : decode cX7_bid 1 = .ok (.bipush 8, 2) := by decide +kernel
theorem dX7_bid_3 : decode cX7_bid 3 = .ok (.invokestatic 37, 3) := by decide +kernel
theorem dX7_bid_6 : decode cX7_bid 6 = .ok (.iload_n 2, 1) := by decide +kernel
theorem dX7_bid_7 : decode cX7_bid 7 = .ok (.iconst 1, 1) := by decide +kernel
theorem dX7_bid_8 : decode cX7_bid 8 = .ok (.sipush 1000, 3) := by decide +kernel
theorem dX7_bid_11 : decode cX7_bid 11 = .ok (.invokestatic 41, 3) := by decide +kernel
theorem dX7_bid_14 : decode cX7_bid 14 = .ok (.invokestatic 45, 3) := by decide +kernel
theorem dX7_bid_17 : decode cX7_bid 17 = .ok (.aload_n 0, 1) := by decide +kernel
theorem dX7_bid_18 : decode cX7_bid 18 = .ok (.getfield 33, 3) := by decide +kernel
theorem dX7_bid_21 : decode cX7_bid 21 = .ok (.invokevirtual 202, 3) := by decide +kernel
theorem dX7_bid_24 : decode cX7_bid 24 = .ok (.ifCond .eq 30, 3) := by decide +kernel
theorem dX7_bid_27 : decode cX7_bid 27 = .ok (.iload_n 2, 1) := by decide +kernel
theorem dX7_bid_28 : decode cX7_bid 28 = .ok (.aload_n 0, 1) := by decide +kernel
theorem dX7_bid_29 : decode cX7_bid 29 = .ok (.getfield 33, 3) := by decide +kernel
theorem dX7_bid_32 : decode cX7_bid 32 = .ok (.invokevirtual 205, 3) := by decide +kernel
theorem dX7_bid_35 : decode cX7_bid 35 = .ok (.if_icmp .lt 19, 3) := by decide +kernel
theorem dX7_bid_38 : decode cX7_bid 38 = .ok (.aload_n 0, 1) := by decide +kernel
theorem dX7_bid_39 : decode cX7_bid 39 = .ok (.getfield 33, 3) := by decide +kernel
theorem dX7_bid_42 : decode cX7_bid 42 = .ok (.iload_n 1, 1) := by decide +kernel
theorem dX7_bid_43 : decode cX7_bid 43 = .ok (.iload_n 2, 1) := by decide +kernel
theorem dX7_bid_44 : decode cX7_bid 44 = .ok (.invokevirtual 208, 3) := by decide +kernel
theorem dX7_bid_47 : decode cX7_bid 47 = .ok (.ifCond .eq 7, 3) := by decide +kernel
theorem dX7_bid_50 : decode cX7_bid 50 = .ok (.iconst 1, 1) := by decide +kernel
theorem dX7_bid_51 : decode cX7_bid 51 = .ok (.goto 4, 3) := by decide +kernel
theorem dX7_bid_54 : decode cX7_bid 54 = .ok (.iconst 0, 1) := by decide +kernel
theorem dX7_bid_55 : decode cX7_bid 55 = .ok (.invokestatic 53, 3) := by decide +kernel
theorem dX7_bid_58 : decode cX7_bid 58 = .ok (.aload_n 0, 1) := by decide +kernel
theorem dX7_bid_59 : decode cX7_bid 59 = .ok (.getfield 33, 3) := by decide +kernel
theorem dX7_bid_62 : decode cX7_bid 62 = .ok (.iload_n 1, 1) := by decide +kernel
theorem dX7_bid_63 : decode cX7_bid 63 = .ok (.iload_n 2, 1) := by decide +kernel
theorem dX7_bid_64 : decode cX7_bid 64 = .ok (.invokevirtual 212, 3) := by decide +kernel
theorem dX7_bid_67 : decode cX7_bid 67 = .ok (.ireturn, 1) := by decide +kernel
theorem dX7_hammer_0 : decode cX7_hammer 0 = .ok (.aload_n 0, 1) := by decide +kernel
theorem dX7_hammer_1 : decode cX7_hammer 1 = .ok (.getfield 33, 3) := by decide +kernel
theorem dX7_hammer_4 : decode cX7_hammer 4 = .ok (.invokevirtual 202, 3) := by decide +kernel
theorem dX7_hammer_7 : decode cX7_hammer 7 = .ok (.invokestatic 53, 3) := by decide +kernel
theorem dX7_hammer_10 : decode cX7_hammer 10 = .ok (.aload_n 0, 1) := by decide +kernel
theorem dX7_hammer_11 : decode cX7_hammer 11 = .ok (.getfield 33, 3) := by decide +kernel
theorem dX7_hammer_14 : decode cX7_hammer 14 = .ok (.invokevirtual 215, 3) := by decide +kernel
theorem dX7_hammer_17 : decode cX7_hammer 17 = .ok (.ireturn, 1) := by decide +kernel
theorem dX7_answer_0 : decode cX7_answer 0 = .ok (.aload_n 0, 1) := by decide +kernel
theorem dX7_answer_1 : decode cX7_answer 1 = .ok (.getfield 33, 3) := by decide +kernel
theorem dX7_answer_4 : decode cX7_answer 4 = .ok (.invokevirtual 218, 3) := by decide +kernel
theorem dX7_answer_7 : decode cX7_answer 7 = .ok (.invokestatic 53, 3) := by decide +kernel
theorem dX7_answer_10 : decode cX7_answer 10 = .ok (.aload_n 0, 1) := by decide +kernel
theorem dX7_answer_11 : decode cX7_answer 11 = .ok (.getfield 33, 3) := by decide +kernel
theorem dX7_answer_14 : decode cX7_answer 14 = .ok (.iload_n 1, 1) := by decide +kernel
theorem dX7_answer_15 : decode cX7_answer 15 = .ok (.invokevirtual 221, 3) := by decide +kernel
theorem dX7_answer_18 : decode cX7_answer 18 = .ok (.ireturn, 1) := by decide +kernel
theorem dX7_lot_0 : decode cX7_lot 0 = .ok (.iload_n 1, 1) := by decide +kernel
theorem dX7_lot_1 : decode cX7_lot 1 = .ok (.bipush 24, 2) := by decide +kernel
theorem dX7_lot_3 : decode cX7_lot 3 = .ok (.invokestatic 37, 3) := by decide +kernel
theorem dX7_lot_6 : decode cX7_lot 6 = .ok (.iload_n 2, 1) := by decide +kernel
theorem dX7_lot_7 : decode cX7_lot 7 = .ok (.iconst 0, 1) := by decide +kernel
theorem dX7_lot_8 : decode cX7_lot 8 = .ok (.iconst 3, 1) := by decide +kernel
theorem dX7_lot_9 : decode cX7_lot 9 = .ok (.invokestatic 41, 3) := by decide +kernel
theorem dX7_lot_12 : decode cX7_lot 12 = .ok (.invokestatic 45, 3) := by decide +kernel
theorem dX7_lot_15 : decode cX7_lot 15 = .ok (.aload_n 0, 1) := by decide +kernel
theorem dX7_lot_16 : decode cX7_lot 16 = .ok (.getfield 33, 3) := by decide +kernel
theorem dX7_lot_19 : decode cX7_lot 19 = .ok (.iload_n 1, 1) := by decide +kernel
theorem dX7_lot_20 : decode cX7_lot 20 = .ok (.iload_n 2, 1) := by decide +kernel
theorem dX7_lot_21 : decode cX7_lot 21 = .ok (.invokevirtual 225, 3) := by decide +kernel
theorem dX7_lot_24 : decode cX7_lot 24 = .ok (.ireturn, 1) := by decide +kernel
theorem dX7_squad_0 : decode cX7_squad 0 = .ok (.iload_n 1, 1) := by decide +kernel
theorem dX7_squad_1 : decode cX7_squad 1 = .ok (.bipush 8, 2) := by decide +kernel
theorem dX7_squad_3 : decode cX7_squad 3 = .ok (.invokestatic 37, 3) := by decide +kernel
theorem dX7_squad_6 : decode cX7_squad 6 = .ok (.iload_n 2, 1) := by decide +kernel
theorem dX7_squad_7 : decode cX7_squad 7 = .ok (.iconst 0, 1) := by decide +kernel
theorem dX7_squad_8 : decode cX7_squad 8 = .ok (.iconst 2, 1) := by decide +kernel
theorem dX7_squad_9 : decode cX7_squad 9 = .ok (.invokestatic 41, 3) := by decide +kernel
theorem dX7_squad_12 : decode cX7_squad 12 = .ok (.invokestatic 45, 3) := by decide +kernel
theorem dX7_squad_15 : decode cX7_squad 15 = .ok (.aload_n 0, 1) := by decide +kernel
theorem dX7_squad_16 : decode cX7_squad 16 = .ok (.getfield 33, 3) := by decide +kernel
theorem dX7_squad_19 : decode cX7_squad 19 = .ok (.iload_n 1, 1) := by decide +kernel
theorem dX7_squad_20 : decode cX7_squad 20 = .ok (.iload_n 2, 1) := by decide +kernel
theorem dX7_squad_21 : decode cX7_squad 21 = .ok (.invokevirtual 228, 3) := by decide +kernel
theorem dX7_squad_24 : decode cX7_squad 24 = .ok (.ireturn, 1) := by decide +kernel
theorem dX7_needIndex_0 : decode cX7_needIndex 0 = .ok (.iload_n 0, 1) := by decide +kernel
theorem dX7_needIndex_1 : decode cX7_needIndex 1 = .ok (.ifCond .lt 8, 3) := by decide +kernel
theorem dX7_needIndex_4 : decode cX7_needIndex 4 = .ok (.iload_n 0, 1) := by decide +kernel
theorem dX7_needIndex_5 : decode cX7_needIndex 5 = .ok (.iload_n 1, 1) := by decide +kernel
theorem dX7_needIndex_6 : decode cX7_needIndex 6 = .ok (.if_icmp .lt 13, 3) := by decide +kernel
theorem dX7_needIndex_9 : decode cX7_needIndex 9 = .ok (.new 231, 3) := by decide +kernel
theorem dX7_needIndex_12 : decode cX7_needIndex 12 = .ok (.dup, 1) := by decide +kernel
theorem dX7_needIndex_13 : decode cX7_needIndex 13 = .ok (.ldc 233, 2) := by decide +kernel
theorem dX7_needIndex_15 : decode cX7_needIndex 15 = .ok (.invokespecial 235, 3) := by decide +kernel
theorem dX7_needIndex_18 : decode cX7_needIndex 18 = .ok (.athrow, 1) := by decide +kernel
theorem dX7_needIndex_19 : decode cX7_needIndex 19 = .ok (.return_, 1) := by decide +kernel
theorem dX7_needArgument_0 : decode cX7_needArgument 0 = .ok (.iload_n 0, 1) := by decide +kernel
theorem dX7_needArgument_1 : decode cX7_needArgument 1 = .ok (.ifCond .ne 13, 3) := by decide +kernel
theorem dX7_needArgument_4 : decode cX7_needArgument 4 = .ok (.new 238, 3) := by decide +kernel
theorem dX7_needArgument_7 : decode cX7_needArgument 7 = .ok (.dup, 1) := by decide +kernel
theorem dX7_needArgument_8 : decode cX7_needArgument 8 = .ok (.ldc 240, 2) := by decide +kernel
theorem dX7_needArgument_10 : decode cX7_needArgument 10 = .ok (.invokespecial 242, 3) := by decide +kernel
theorem dX7_needArgument_13 : decode cX7_needArgument 13 = .ok (.athrow, 1) := by decide +kernel
theorem dX7_needArgument_14 : decode cX7_needArgument 14 = .ok (.return_, 1) := by decide +kernel
theorem dX7_needState_0 : decode cX7_needState 0 = .ok (.iload_n 0, 1) := by decide +kernel
theorem dX7_needState_1 : decode cX7_needState 1 = .ok (.ifCond .ne 13, 3) := by decide +kernel
theorem dX7_needState_4 : decode cX7_needState 4 = .ok (.new 243, 3) := by decide +kernel
theorem dX7_needState_7 : decode cX7_needState 7 = .ok (.dup, 1) := by decide +kernel
theorem dX7_needState_8 : decode cX7_needState 8 = .ok (.ldc 245, 2) := by decide +kernel
theorem dX7_needState_10 : decode cX7_needState 10 = .ok (.invokespecial 247, 3) := by decide +kernel
theorem dX7_needState_13 : decode cX7_needState 13 = .ok (.athrow, 1) := by decide +kernel
theorem dX7_needState_14 : decode cX7_needState 14 = .ok (.return_, 1) := by decide +kernel
theorem dX7_isWithin_0 : decode cX7_isWithin 0 = .ok (.iload_n 0, 1) := by decide +kernel
theorem dX7_isWithin_1 : decode cX7_isWithin 1 = .ok (.iload_n 1, 1) := by decide +kernel
theorem dX7_isWithin_2 : decode cX7_isWithin 2 = .ok (.if_icmp .lt 12, 3) := by decide +kernel
theorem dX7_isWithin_5 : decode cX7_isWithin 5 = .ok (.iload_n 0, 1) := by decide +kernel
theorem dX7_isWithin_6 : decode cX7_isWithin 6 = .ok (.iload_n 2, 1) := by decide +kernel
theorem dX7_isWithin_7 : decode cX7_isWithin 7 = .ok (.if_icmp .gt 7, 3) := by decide +kernel
theorem dX7_isWithin_10 : decode cX7_isWithin 10 = .ok (.iconst 1, 1) := by decide +kernel
theorem dX7_isWithin_11 : decode cX7_isWithin 11 = .ok (.goto 4, 3) := by decide +kernel
theorem dX7_isWithin_14 : decode cX7_isWithin 14 = .ok (.iconst 0, 1) := by decide +kernel
theorem dX7_isWithin_15 : decode cX7_isWithin 15 = .ok (.ireturn, 1) := by decide +kernel
theorem dX7_isPlayer_0 : decode cX7_isPlayer 0 = .ok (.iload_n 0, 1) := by decide +kernel
theorem dX7_isPlayer_1 : decode cX7_isPlayer 1 = .ok (.ifCond .lt 13, 3) := by decide +kernel
theorem dX7_isPlayer_4 : decode cX7_isPlayer 4 = .ok (.iload_n 0, 1) := by decide +kernel
theorem dX7_isPlayer_5 : decode cX7_isPlayer 5 = .ok (.bipush 10, 2) := by decide +kernel
theorem dX7_isPlayer_7 : decode cX7_isPlayer 7 = .ok (.if_icmp .ge 7, 3) := by decide +kernel
theorem dX7_isPlayer_10 : decode cX7_isPlayer 10 = .ok (.iconst 1, 1) := by decide +kernel
theorem dX7_isPlayer_11 : decode cX7_isPlayer 11 = .ok (.goto 4, 3) := by decide +kernel
theorem dX7_isPlayer_14 : decode cX7_isPlayer 14 = .ok (.iconst 0, 1) := by decide +kernel
theorem dX7_isPlayer_15 : decode cX7_isPlayer 15 = .ok (.ireturn, 1) := by decide +kernel
theorem dX7_isSide_0 : decode cX7_isSide 0 = .ok (.iload_n 0, 1) := by decide +kernel
theorem dX7_isSide_1 : decode cX7_isSide 1 = .ok (.ifCond .eq 8, 3) := by decide +kernel
theorem dX7_isSide_4 : decode cX7_isSide 4 = .ok (.iload_n 0, 1) := by decide +kernel
theorem dX7_isSide_5 : decode cX7_isSide 5 = .ok (.iconst 1, 1) := by decide +kernel
theorem dX7_isSide_6 : decode cX7_isSide 6 = .ok (.if_icmp .ne 7, 3) := by decide +kernel
theorem dX7_isSide_9 : decode cX7_isSide 9 = .ok (.iconst 1, 1) := by decide +kernel
theorem dX7_isSide_10 : decode cX7_isSide 10 = .ok (.goto 4, 3) := by decide +kernel
theorem dX7_isSide_13 : decode cX7_isSide 13 = .ok (.iconst 0, 1) := by decide +kernel
theorem dX7_isSide_14 : decode cX7_isSide 14 = .ok (.ireturn, 1) := by decide +kernel
theorem dX7_isClub_0 : decode cX7_isClub 0 = .ok (.iload_n 0, 1) := by decide +kernel
theorem dX7_isClub_1 : decode cX7_isClub 1 = .ok (.iconst 0, 1) := by decide +kernel
theorem dX7_isClub_2 : decode cX7_isClub 2 = .ok (.bipush 7, 2) := by decide +kernel
theorem dX7_isClub_4 : decode cX7_isClub 4 = .ok (.invokestatic 41, 3) := by decide +kernel
theorem dX7_isClub_7 : decode cX7_isClub 7 = .ok (.ireturn, 1) := by decide +kernel
theorem dX7_isLot_0 : decode cX7_isLot 0 = .ok (.iload_n 0, 1) := by decide +kernel
theorem dX7_isLot_1 : decode cX7_isLot 1 = .ok (.iconst 0, 1) := by decide +kernel
theorem dX7_isLot_2 : decode cX7_isLot 2 = .ok (.bipush 23, 2) := by decide +kernel
theorem dX7_isLot_4 : decode cX7_isLot 4 = .ok (.invokestatic 41, 3) := by decide +kernel
theorem dX7_isLot_7 : decode cX7_isLot 7 = .ok (.ireturn, 1) := by decide +kernel
theorem dX7_isStep_0 : decode cX7_isStep 0 = .ok (.iload_n 0, 1) := by decide +kernel
theorem dX7_isStep_1 : decode cX7_isStep 1 = .ok (.iconst 0, 1) := by decide +kernel
theorem dX7_isStep_2 : decode cX7_isStep 2 = .ok (.iload_n 2, 1) := by decide +kernel
theorem dX7_isStep_3 : decode cX7_isStep 3 = .ok (.invokestatic 41, 3) := by decide +kernel
theorem dX7_isStep_6 : decode cX7_isStep 6 = .ok (.ifCond .eq 26, 3) := by decide +kernel
theorem dX7_isStep_9 : decode cX7_isStep 9 = .ok (.iload_n 0, 1) := by decide +kernel
theorem dX7_isStep_10 : decode cX7_isStep 10 = .ok (.ifCond .ne 13, 3) := by decide +kernel
theorem dX7_isStep_13 : decode cX7_isStep 13 = .ok (.iload_n 1, 1) := by decide +kernel
theorem dX7_isStep_14 : decode cX7_isStep 14 = .ok (.invokestatic 248, 3) := by decide +kernel
theorem dX7_isStep_17 : decode cX7_isStep 17 = .ok (.ifCond .eq 15, 3) := by decide +kernel
theorem dX7_isStep_20 : decode cX7_isStep 20 = .ok (.goto 8, 3) := by decide +kernel
theorem dX7_isStep_23 : decode cX7_isStep 23 = .ok (.iload_n 1, 1) := by decide +kernel
theorem dX7_isStep_24 : decode cX7_isStep 24 = .ok (.iconst (-1), 1) := by decide +kernel
theorem dX7_isStep_25 : decode cX7_isStep 25 = .ok (.if_icmp .ne 7, 3) := by decide +kernel
theorem dX7_isStep_28 : decode cX7_isStep 28 = .ok (.iconst 1, 1) := by decide +kernel
theorem dX7_isStep_29 : decode cX7_isStep 29 = .ok (.goto 4, 3) := by decide +kernel
theorem dX7_isStep_32 : decode cX7_isStep 32 = .ok (.iconst 0, 1) := by decide +kernel
theorem dX7_isStep_33 : decode cX7_isStep 33 = .ok (.ireturn, 1) := by decide +kernel
theorem dX7_isEnd_0 : decode cX7_isEnd 0 = .ok (.iload_n 0, 1) := by decide +kernel
theorem dX7_isEnd_1 : decode cX7_isEnd 1 = .ok (.iconst 3, 1) := by decide +kernel
theorem dX7_isEnd_2 : decode cX7_isEnd 2 = .ok (.if_icmp .lt 7, 3) := by decide +kernel
theorem dX7_isEnd_5 : decode cX7_isEnd 5 = .ok (.iconst 1, 1) := by decide +kernel
theorem dX7_isEnd_6 : decode cX7_isEnd 6 = .ok (.goto 4, 3) := by decide +kernel
theorem dX7_isEnd_9 : decode cX7_isEnd 9 = .ok (.iconst 0, 1) := by decide +kernel
theorem dX7_isEnd_10 : decode cX7_isEnd 10 = .ok (.ireturn, 1) := by decide +kernel
theorem dX7_isDone_0 : decode cX7_isDone 0 = .ok (.aload_n 0, 1) := by decide +kernel
theorem dX7_isDone_1 : decode cX7_isDone 1 = .ok (.getfield 19, 3) := by decide +kernel
theorem dX7_isDone_4 : decode cX7_isDone 4 = .ok (.getfield 251, 3) := by decide +kernel
theorem dX7_isDone_7 : decode cX7_isDone 7 = .ok (.bipush 7, 2) := by decide +kernel
theorem dX7_isDone_9 : decode cX7_isDone 9 = .ok (.if_icmp .ne 39, 3) := by decide +kernel
theorem dX7_isDone_12 : decode cX7_isDone 12 = .ok (.aload_n 0, 1) := by decide +kernel
theorem dX7_isDone_13 : decode cX7_isDone 13 = .ok (.getfield 12, 3) := by decide +kernel
theorem dX7_isDone_16 : decode cX7_isDone 16 = .ok (.aload_n 0, 1) := by decide +kernel
theorem dX7_isDone_17 : decode cX7_isDone 17 = .ok (.getfield 19, 3) := by decide +kernel
theorem dX7_isDone_20 : decode cX7_isDone 20 = .ok (.getfield 255, 3) := by decide +kernel
theorem dX7_isDone_23 : decode cX7_isDone 23 = .ok (.invokevirtual 60, 3) := by decide +kernel
theorem dX7_isDone_26 : decode cX7_isDone 26 = .ok (.ifCond .ne 5, 3) := by decide +kernel
theorem dX7_isDone_29 : decode cX7_isDone 29 = .ok (.iconst 0, 1) := by decide +kernel
theorem dX7_isDone_30 : decode cX7_isDone 30 = .ok (.ireturn, 1) := by decide +kernel
theorem dX7_isDone_31 : decode cX7_isDone 31 = .ok (.aload_n 0, 1) := by decide +kernel
theorem dX7_isDone_32 : decode cX7_isDone 32 = .ok (.getfield 12, 3) := by decide +kernel
theorem dX7_isDone_35 : decode cX7_isDone 35 = .ok (.aload_n 0, 1) := by decide +kernel
theorem dX7_isDone_36 : decode cX7_isDone 36 = .ok (.getfield 19, 3) := by decide +kernel
theorem dX7_isDone_39 : decode cX7_isDone 39 = .ok (.getfield 255, 3) := by decide +kernel
theorem dX7_isDone_42 : decode cX7_isDone 42 = .ok (.invokevirtual 64, 3) := by decide +kernel
theorem dX7_isDone_45 : decode cX7_isDone 45 = .ok (.pop, 1) := by decide +kernel
theorem dX7_isDone_46 : decode cX7_isDone 46 = .ok (.iconst 1, 1) := by decide +kernel
theorem dX7_isDone_47 : decode cX7_isDone 47 = .ok (.ireturn, 1) := by decide +kernel
theorem dX7_isDone_48 : decode cX7_isDone 48 = .ok (.aload_n 0, 1) := by decide +kernel
theorem dX7_isDone_49 : decode cX7_isDone 49 = .ok (.getfield 19, 3) := by decide +kernel
theorem dX7_isDone_52 : decode cX7_isDone 52 = .ok (.getfield 258, 3) := by decide +kernel
theorem dX7_isDone_55 : decode cX7_isDone 55 = .ok (.iconst 1, 1) := by decide +kernel
theorem dX7_isDone_56 : decode cX7_isDone 56 = .ok (.sipush 300, 3) := by decide +kernel
theorem dX7_isDone_59 : decode cX7_isDone 59 = .ok (.invokestatic 41, 3) := by decide +kernel
theorem dX7_isDone_62 : decode cX7_isDone 62 = .ok (.ifCond .eq 34, 3) := by decide +kernel
theorem dX7_isDone_65 : decode cX7_isDone 65 = .ok (.aload_n 0, 1) := by decide +kernel
theorem dX7_isDone_66 : decode cX7_isDone 66 = .ok (.getfield 12, 3) := by decide +kernel
theorem dX7_isDone_69 : decode cX7_isDone 69 = .ok (.aload_n 0, 1) := by decide +kernel
theorem dX7_isDone_70 : decode cX7_isDone 70 = .ok (.getfield 19, 3) := by decide +kernel
theorem dX7_isDone_73 : decode cX7_isDone 73 = .ok (.getfield 251, 3) := by decide +kernel
theorem dX7_isDone_76 : decode cX7_isDone 76 = .ok (.aload_n 0, 1) := by decide +kernel
theorem dX7_isDone_77 : decode cX7_isDone 77 = .ok (.getfield 19, 3) := by decide +kernel
theorem dX7_isDone_80 : decode cX7_isDone 80 = .ok (.getfield 255, 3) := by decide +kernel
theorem dX7_isDone_83 : decode cX7_isDone 83 = .ok (.aload_n 0, 1) := by decide +kernel
theorem dX7_isDone_84 : decode cX7_isDone 84 = .ok (.getfield 19, 3) := by decide +kernel
theorem dX7_isDone_87 : decode cX7_isDone 87 = .ok (.getfield 258, 3) := by decide +kernel
theorem dX7_isDone_90 : decode cX7_isDone 90 = .ok (.invokevirtual 71, 3) := by decide +kernel
theorem dX7_isDone_93 : decode cX7_isDone 93 = .ok (.ifCond .ne 5, 3) := by decide +kernel
theorem dX7_isDone_96 : decode cX7_isDone 96 = .ok (.iconst 0, 1) := by decide +kernel
theorem dX7_isDone_97 : decode cX7_isDone 97 = .ok (.ireturn, 1) := by decide +kernel
theorem dX7_isDone_98 : decode cX7_isDone 98 = .ok (.aload_n 0, 1) := by decide +kernel
theorem dX7_isDone_99 : decode cX7_isDone 99 = .ok (.getfield 12, 3) := by decide +kernel
theorem dX7_isDone_102 : decode cX7_isDone 102 = .ok (.aload_n 0, 1) := by decide +kernel
theorem dX7_isDone_103 : decode cX7_isDone 103 = .ok (.getfield 19, 3) := by decide +kernel
theorem dX7_isDone_106 : decode cX7_isDone 106 = .ok (.getfield 251, 3) := by decide +kernel
theorem dX7_isDone_109 : decode cX7_isDone 109 = .ok (.aload_n 0, 1) := by decide +kernel
theorem dX7_isDone_110 : decode cX7_isDone 110 = .ok (.getfield 19, 3) := by decide +kernel
theorem dX7_isDone_113 : decode cX7_isDone 113 = .ok (.getfield 255, 3) := by decide +kernel
theorem dX7_isDone_116 : decode cX7_isDone 116 = .ok (.aload_n 0, 1) := by decide +kernel
theorem dX7_isDone_117 : decode cX7_isDone 117 = .ok (.getfield 19, 3) := by decide +kernel
theorem dX7_isDone_120 : decode cX7_isDone 120 = .ok (.getfield 258, 3) := by decide +kernel
theorem dX7_isDone_123 : decode cX7_isDone 123 = .ok (.invokevirtual 74, 3) := by decide +kernel
theorem dX7_isDone_126 : decode cX7_isDone 126 = .ok (.pop, 1) := by decide +kernel
theorem dX7_isDone_127 : decode cX7_isDone 127 = .ok (.iconst 1, 1) := by decide +kernel
theorem dX7_isDone_128 : decode cX7_isDone 128 = .ok (.ireturn, 1) := by decide +kernel
theorem dJ9_min_7cf53_0 : decode cJ9_min_7cf53 0 = .ok (.iload_n 0, 1) := by decide +kernel
theorem dJ9_min_7cf53_1 : decode cJ9_min_7cf53 1 = .ok (.iload_n 1, 1) := by decide +kernel
theorem dJ9_min_7cf53_2 : decode cJ9_min_7cf53 2 = .ok (.if_icmp .gt 7, 3) := by decide +kernel
theorem dJ9_min_7cf53_5 : decode cJ9_min_7cf53 5 = .ok (.iload_n 0, 1) := by decide +kernel
theorem dJ9_min_7cf53_6 : decode cJ9_min_7cf53 6 = .ok (.goto 4, 3) := by decide +kernel
theorem dJ9_min_7cf53_9 : decode cJ9_min_7cf53 9 = .ok (.iload_n 1, 1) := by decide +kernel
theorem dJ9_min_7cf53_10 : decode cJ9_min_7cf53 10 = .ok (.ireturn, 1) := by decide +kernel
theorem dJ0_length_8abf5_0 : decode cJ0_length_8abf5 0 = .ok (.aload_n 0, 1) := by decide +kernel
theorem dJ0_length_8abf5_1 : decode cJ0_length_8abf5 1 = .ok (.getfield 9, 3) := by decide +kernel
theorem dJ0_length_8abf5_4 : decode cJ0_length_8abf5 4 = .ok (.arraylength, 1) := by decide +kernel
theorem dJ0_length_8abf5_5 : decode cJ0_length_8abf5 5 = .ok (.aload_n 0, 1) := by decide +kernel
theorem dJ0_length_8abf5_6 : decode cJ0_length_8abf5 6 = .ok (.invokevirtual 335, 3) := by decide +kernel
theorem dJ0_length_8abf5_9 : decode cJ0_length_8abf5 9 = .ok (.ishr, 1) := by decide +kernel
theorem dJ0_length_8abf5_10 : decode cJ0_length_8abf5 10 = .ok (.ireturn, 1) := by decide +kernel
theorem dJ0_charAt_5068e_0 : decode cJ0_charAt_5068e 0 = .ok (.aload_n 0, 1) := by decide +kernel
theorem dJ0_charAt_5068e_1 : decode cJ0_charAt_5068e 1 = .ok (.invokevirtual 492, 3) := by decide +kernel
theorem dJ0_charAt_5068e_4 : decode cJ0_charAt_5068e 4 = .ok (.ifCond .eq 12, 3) := by decide +kernel
theorem dJ0_charAt_5068e_7 : decode cJ0_charAt_5068e 7 = .ok (.aload_n 0, 1) := by decide +kernel
theorem dJ0_charAt_5068e_8 : decode cJ0_charAt_5068e 8 = .ok (.getfield 9, 3) := by decide +kernel
theorem dJ0_charAt_5068e_11 : decode cJ0_charAt_5068e 11 = .ok (.iload_n 1, 1) := by decide +kernel
theorem dJ0_charAt_5068e_12 : decode cJ0_charAt_5068e 12 = .ok (.invokestatic 495, 3) := by decide +kernel
theorem dJ0_charAt_5068e_15 : decode cJ0_charAt_5068e 15 = .ok (.ireturn, 1) := by decide +kernel
theorem dJ0_charAt_5068e_16 : decode cJ0_charAt_5068e 16 = .ok (.aload_n 0, 1) := by decide +kernel
theorem dJ0_charAt_5068e_17 : decode cJ0_charAt_5068e 17 = .ok (.getfield 9, 3) := by decide +kernel
theorem dJ0_charAt_5068e_20 : decode cJ0_charAt_5068e 20 = .ok (.iload_n 1, 1) := by decide +kernel
theorem dJ0_charAt_5068e_21 : decode cJ0_charAt_5068e 21 = .ok (.invokestatic 498, 3) := by decide +kernel
theorem dJ0_charAt_5068e_24 : decode cJ0_charAt_5068e 24 = .ok (.ireturn, 1) := by decide +kernel
theorem dJ0_coder_7d493_0 : decode cJ0_coder_7d493 0 = .ok (.getstatic 38, 3) := by decide +kernel
theorem dJ0_coder_7d493_3 : decode cJ0_coder_7d493 3 = .ok (.ifCond .eq 10, 3) := by decide +kernel
theorem dJ0_coder_7d493_6 : decode cJ0_coder_7d493 6 = .ok (.aload_n 0, 1) := by decide +kernel
theorem dJ0_coder_7d493_7 : decode cJ0_coder_7d493 7 = .ok (.getfield 15, 3) := by decide +kernel
theorem dJ0_coder_7d493_10 : decode cJ0_coder_7d493 10 = .ok (.goto 4, 3) := by decide +kernel
theorem dJ0_coder_7d493_13 : decode cJ0_coder_7d493 13 = .ok (.iconst 1, 1) := by decide +kernel
theorem dJ0_coder_7d493_14 : decode cJ0_coder_7d493 14 = .ok (.ireturn, 1) := by decide +kernel
theorem dJ0_isLatin1_aae02_0 : decode cJ0_isLatin1_aae02 0 = .ok (.getstatic 38, 3) := by decide +kernel
theorem dJ0_isLatin1_aae02_3 : decode cJ0_isLatin1_aae02 3 = .ok (.ifCond .eq 14, 3) := by decide +kernel
theorem dJ0_isLatin1_aae02_6 : decode cJ0_isLatin1_aae02 6 = .ok (.aload_n 0, 1) := by decide +kernel
theorem dJ0_isLatin1_aae02_7 : decode cJ0_isLatin1_aae02 7 = .ok (.getfield 15, 3) := by decide +kernel
theorem dJ0_isLatin1_aae02_10 : decode cJ0_isLatin1_aae02 10 = .ok (.ifCond .ne 7, 3) := by decide +kernel
theorem dJ0_isLatin1_aae02_13 : decode cJ0_isLatin1_aae02 13 = .ok (.iconst 1, 1) := by decide +kernel
theorem dJ0_isLatin1_aae02_14 : decode cJ0_isLatin1_aae02 14 = .ok (.goto 4, 3) := by decide +kernel
theorem dJ0_isLatin1_aae02_17 : decode cJ0_isLatin1_aae02 17 = .ok (.iconst 0, 1) := by decide +kernel
theorem dJ0_isLatin1_aae02_18 : decode cJ0_isLatin1_aae02 18 = .ok (.ireturn, 1) := by decide +kernel
theorem dJ0_checkIndex_df160_0 : decode cJ0_checkIndex_df160 0 = .ok (.iload_n 0, 1) := by decide +kernel
theorem dJ0_checkIndex_df160_1 : decode cJ0_checkIndex_df160 1 = .ok (.iload_n 1, 1) := by decide +kernel
theorem dJ0_checkIndex_df160_2 : decode cJ0_checkIndex_df160 2 = .ok (.getstatic 1053, 3) := by decide +kernel
theorem dJ0_checkIndex_df160_5 : decode cJ0_checkIndex_df160 5 = .ok (.invokestatic 1059, 3) := by decide +kernel
theorem dJ0_checkIndex_df160_8 : decode cJ0_checkIndex_df160 8 = .ok (.pop, 1) := by decide +kernel
theorem dJ0_checkIndex_df160_9 : decode cJ0_checkIndex_df160 9 = .ok (.return_, 1) := by decide +kernel
theorem dJ1_charAt_3b067_0 : decode cJ1_charAt_3b067 0 = .ok (.iload_n 1, 1) := by decide +kernel
theorem dJ1_charAt_3b067_1 : decode cJ1_charAt_3b067 1 = .ok (.aload_n 0, 1) := by decide +kernel
theorem dJ1_charAt_3b067_2 : decode cJ1_charAt_3b067 2 = .ok (.arraylength, 1) := by decide +kernel
theorem dJ1_charAt_3b067_3 : decode cJ1_charAt_3b067 3 = .ok (.invokestatic 9, 3) := by decide +kernel
theorem dJ1_charAt_3b067_6 : decode cJ1_charAt_3b067 6 = .ok (.aload_n 0, 1) := by decide +kernel
theorem dJ1_charAt_3b067_7 : decode cJ1_charAt_3b067 7 = .ok (.iload_n 1, 1) := by decide +kernel
theorem dJ1_charAt_3b067_8 : decode cJ1_charAt_3b067 8 = .ok (.baload, 1) := by decide +kernel
theorem dJ1_charAt_3b067_9 : decode cJ1_charAt_3b067 9 = .ok (.sipush 255, 3) := by decide +kernel
theorem dJ1_charAt_3b067_12 : decode cJ1_charAt_3b067 12 = .ok (.iand, 1) := by decide +kernel
theorem dJ1_charAt_3b067_13 : decode cJ1_charAt_3b067 13 = .ok (.i2c, 1) := by decide +kernel
theorem dJ1_charAt_3b067_14 : decode cJ1_charAt_3b067 14 = .ok (.ireturn, 1) := by decide +kernel
theorem dJ2_getChar_3b067_0 : decode cJ2_getChar_3b067 0 = .ok (.getstatic 44, 3) := by decide +kernel
theorem dJ2_getChar_3b067_3 : decode cJ2_getChar_3b067 3 = .ok (.ifCond .ne 25, 3) := by decide +kernel
theorem dJ2_getChar_3b067_6 : decode cJ2_getChar_3b067 6 = .ok (.iload_n 1, 1) := by decide +kernel
theorem dJ2_getChar_3b067_7 : decode cJ2_getChar_3b067 7 = .ok (.ifCond .lt 11, 3) := by decide +kernel
theorem dJ2_getChar_3b067_10 : decode cJ2_getChar_3b067 10 = .ok (.iload_n 1, 1) := by decide +kernel
theorem dJ2_getChar_3b067_11 : decode cJ2_getChar_3b067 11 = .ok (.aload_n 0, 1) := by decide +kernel
theorem dJ2_getChar_3b067_12 : decode cJ2_getChar_3b067 12 = .ok (.invokestatic 48, 3) := by decide +kernel
theorem dJ2_getChar_3b067_15 : decode cJ2_getChar_3b067 15 = .ok (.if_icmp .lt 13, 3) := by decide +kernel
theorem dJ2_getChar_3b067_18 : decode cJ2_getChar_3b067 18 = .ok (.new 52, 3) := by decide +kernel
theorem dJ2_getChar_3b067_21 : decode cJ2_getChar_3b067 21 = .ok (.dup, 1) := by decide +kernel
theorem dJ2_getChar_3b067_22 : decode cJ2_getChar_3b067 22 = .ok (.ldc 54, 2) := by decide +kernel
theorem dJ2_getChar_3b067_24 : decode cJ2_getChar_3b067 24 = .ok (.invokespecial 56, 3) := by decide +kernel
theorem dJ2_getChar_3b067_27 : decode cJ2_getChar_3b067 27 = .ok (.athrow, 1) := by decide +kernel
theorem dJ2_getChar_3b067_28 : decode cJ2_getChar_3b067 28 = .ok (.iload_n 1, 1) := by decide +kernel
theorem dJ2_getChar_3b067_29 : decode cJ2_getChar_3b067 29 = .ok (.iconst 1, 1) := by decide +kernel
theorem dJ2_getChar_3b067_30 : decode cJ2_getChar_3b067 30 = .ok (.ishl, 1) := by decide +kernel
theorem dJ2_getChar_3b067_31 : decode cJ2_getChar_3b067 31 = .ok (.istore_n 1, 1) := by decide +kernel
theorem dJ2_getChar_3b067_32 : decode cJ2_getChar_3b067 32 = .ok (.aload_n 0, 1) := by decide +kernel
theorem dJ2_getChar_3b067_33 : decode cJ2_getChar_3b067 33 = .ok (.iload_n 1, 1) := by decide +kernel
theorem dJ2_getChar_3b067_34 : decode cJ2_getChar_3b067 34 = .ok (.iinc 1 1, 3) := by decide +kernel
theorem dJ2_getChar_3b067_37 : decode cJ2_getChar_3b067 37 = .ok (.baload, 1) := by decide +kernel
theorem dJ2_getChar_3b067_38 : decode cJ2_getChar_3b067 38 = .ok (.sipush 255, 3) := by decide +kernel
theorem dJ2_getChar_3b067_41 : decode cJ2_getChar_3b067 41 = .ok (.iand, 1) := by decide +kernel
theorem dJ2_getChar_3b067_42 : decode cJ2_getChar_3b067 42 = .ok (.getstatic 59, 3) := by decide +kernel
theorem dJ2_getChar_3b067_45 : decode cJ2_getChar_3b067 45 = .ok (.ishl, 1) := by decide +kernel
theorem dJ2_getChar_3b067_46 : decode cJ2_getChar_3b067 46 = .ok (.aload_n 0, 1) := by decide +kernel
theorem dJ2_getChar_3b067_47 : decode cJ2_getChar_3b067 47 = .ok (.iload_n 1, 1) := by decide +kernel
theorem dJ2_getChar_3b067_48 : decode cJ2_getChar_3b067 48 = .ok (.baload, 1) := by decide +kernel
theorem dJ2_getChar_3b067_49 : decode cJ2_getChar_3b067 49 = .ok (.sipush 255, 3) := by decide +kernel
theorem dJ2_getChar_3b067_52 : decode cJ2_getChar_3b067 52 = .ok (.iand, 1) := by decide +kernel
theorem dJ2_getChar_3b067_53 : decode cJ2_getChar_3b067 53 = .ok (.getstatic 63, 3) := by decide +kernel
theorem dJ2_getChar_3b067_56 : decode cJ2_getChar_3b067 56 = .ok (.ishl, 1) := by decide +kernel
theorem dJ2_getChar_3b067_57 : decode cJ2_getChar_3b067 57 = .ok (.ior, 1) := by decide +kernel
theorem dJ2_getChar_3b067_58 : decode cJ2_getChar_3b067 58 = .ok (.i2c, 1) := by decide +kernel
theorem dJ2_getChar_3b067_59 : decode cJ2_getChar_3b067 59 = .ok (.ireturn, 1) := by decide +kernel
theorem dJ2_length_9d52b_0 : decode cJ2_length_9d52b 0 = .ok (.aload_n 0, 1) := by decide +kernel
theorem dJ2_length_9d52b_1 : decode cJ2_length_9d52b 1 = .ok (.arraylength, 1) := by decide +kernel
theorem dJ2_length_9d52b_2 : decode cJ2_length_9d52b 2 = .ok (.iconst 1, 1) := by decide +kernel
theorem dJ2_length_9d52b_3 : decode cJ2_length_9d52b 3 = .ok (.ishr, 1) := by decide +kernel
theorem dJ2_length_9d52b_4 : decode cJ2_length_9d52b 4 = .ok (.ireturn, 1) := by decide +kernel
theorem dJ2_charAt_3b067_0 : decode cJ2_charAt_3b067 0 = .ok (.iload_n 1, 1) := by decide +kernel
theorem dJ2_charAt_3b067_1 : decode cJ2_charAt_3b067 1 = .ok (.aload_n 0, 1) := by decide +kernel
theorem dJ2_charAt_3b067_2 : decode cJ2_charAt_3b067 2 = .ok (.invokestatic 67, 3) := by decide +kernel
theorem dJ2_charAt_3b067_5 : decode cJ2_charAt_3b067 5 = .ok (.aload_n 0, 1) := by decide +kernel
theorem dJ2_charAt_3b067_6 : decode cJ2_charAt_3b067 6 = .ok (.iload_n 1, 1) := by decide +kernel
theorem dJ2_charAt_3b067_7 : decode cJ2_charAt_3b067 7 = .ok (.invokestatic 71, 3) := by decide +kernel
theorem dJ2_charAt_3b067_10 : decode cJ2_charAt_3b067 10 = .ok (.ireturn, 1) := by decide +kernel
theorem dJ2_checkIndex_2214a_0 : decode cJ2_checkIndex_2214a 0 = .ok (.iload_n 0, 1) := by decide +kernel
theorem dJ2_checkIndex_2214a_1 : decode cJ2_checkIndex_2214a 1 = .ok (.aload_n 1, 1) := by decide +kernel
theorem dJ2_checkIndex_2214a_2 : decode cJ2_checkIndex_2214a 2 = .ok (.invokestatic 48, 3) := by decide +kernel
theorem dJ2_checkIndex_2214a_5 : decode cJ2_checkIndex_2214a 5 = .ok (.invokestatic 414, 3) := by decide +kernel
theorem dJ2_checkIndex_2214a_8 : decode cJ2_checkIndex_2214a 8 = .ok (.return_, 1) := by decide +kernel
theorem dJ3_checkIndex_8e157_0 : decode cJ3_checkIndex_8e157 0 = .ok (.iload_n 0, 1) := by decide +kernel
theorem dJ3_checkIndex_8e157_1 : decode cJ3_checkIndex_8e157 1 = .ok (.ifCond .lt 8, 3) := by decide +kernel
theorem dJ3_checkIndex_8e157_4 : decode cJ3_checkIndex_8e157 4 = .ok (.iload_n 0, 1) := by decide +kernel
theorem dJ3_checkIndex_8e157_5 : decode cJ3_checkIndex_8e157 5 = .ok (.iload_n 1, 1) := by decide +kernel
theorem dJ3_checkIndex_8e157_6 : decode cJ3_checkIndex_8e157 6 = .ok (.if_icmp .lt 10, 3) := by decide +kernel
theorem dJ3_checkIndex_8e157_9 : decode cJ3_checkIndex_8e157 9 = .ok (.aload_n 2, 1) := by decide +kernel
theorem dJ3_checkIndex_8e157_10 : decode cJ3_checkIndex_8e157 10 = .ok (.iload_n 0, 1) := by decide +kernel
theorem dJ3_checkIndex_8e157_11 : decode cJ3_checkIndex_8e157 11 = .ok (.iload_n 1, 1) := by decide +kernel
theorem dJ3_checkIndex_8e157_12 : decode cJ3_checkIndex_8e157 12 = .ok (.invokestatic 95, 3) := by decide +kernel
theorem dJ3_checkIndex_8e157_15 : decode cJ3_checkIndex_8e157 15 = .ok (.athrow, 1) := by decide +kernel
theorem dJ3_checkIndex_8e157_16 : decode cJ3_checkIndex_8e157 16 = .ok (.iload_n 0, 1) := by decide +kernel
theorem dJ3_checkIndex_8e157_17 : decode cJ3_checkIndex_8e157 17 = .ok (.ireturn, 1) := by decide +kernel
