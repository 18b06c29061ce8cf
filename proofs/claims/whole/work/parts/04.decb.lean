theorem dX8_review_20 : decode cX8_review 20 = .ok (.iconst 0, 1) := by decide +kernel
theorem dX8_review_21 : decode cX8_review 21 = .ok (.istore 6, 2) := by decide +kernel
theorem dX8_review_23 : decode cX8_review 23 = .ok (.iload 4, 2) := by decide +kernel
theorem dX8_review_25 : decode cX8_review 25 = .ok (.iconst 0, 1) := by decide +kernel
theorem dX8_review_26 : decode cX8_review 26 = .ok (.iconst 5, 1) := by decide +kernel
theorem dX8_review_27 : decode cX8_review 27 = .ok (.invokestatic 81, 3) := by decide +kernel
theorem dX8_review_30 : decode cX8_review 30 = .ok (.ifCond .eq 17, 3) := by decide +kernel
theorem dX8_review_33 : decode cX8_review 33 = .ok (.iload 4, 2) := by decide +kernel
theorem dX8_review_35 : decode cX8_review 35 = .ok (.iload 5, 2) := by decide +kernel
theorem dX8_review_37 : decode cX8_review 37 = .ok (.invokestatic 186, 3) := by decide +kernel
theorem dX8_review_40 : decode cX8_review 40 = .ok (.ifCond .eq 7, 3) := by decide +kernel
theorem dX8_review_43 : decode cX8_review 43 = .ok (.iconst 1, 1) := by decide +kernel
theorem dX8_review_44 : decode cX8_review 44 = .ok (.goto 4, 3) := by decide +kernel
theorem dX8_review_47 : decode cX8_review 47 = .ok (.iconst 0, 1) := by decide +kernel
theorem dX8_review_48 : decode cX8_review 48 = .ok (.istore 7, 2) := by decide +kernel
theorem dX8_review_50 : decode cX8_review 50 = .ok (.aload_n 0, 1) := by decide +kernel
theorem dX8_review_51 : decode cX8_review 51 = .ok (.iload 6, 2) := by decide +kernel
theorem dX8_review_53 : decode cX8_review 53 = .ok (.ifCond .ne 7, 3) := by decide +kernel
theorem dX8_review_56 : decode cX8_review 56 = .ok (.iconst 1, 1) := by decide +kernel
theorem dX8_review_57 : decode cX8_review 57 = .ok (.goto 47, 3) := by decide +kernel
theorem dX8_review_60 : decode cX8_review 60 = .ok (.iload 7, 2) := by decide +kernel
theorem dX8_review_62 : decode cX8_review 62 = .ok (.ifCond .ne 7, 3) := by decide +kernel
theorem dX8_review_65 : decode cX8_review 65 = .ok (.iconst 2, 1) := by decide +kernel
theorem dX8_review_66 : decode cX8_review 66 = .ok (.goto 38, 3) := by decide +kernel
theorem dX8_review_69 : decode cX8_review 69 = .ok (.aload_n 0, 1) := by decide +kernel
theorem dX8_review_70 : decode cX8_review 70 = .ok (.getfield 147, 3) := by decide +kernel
theorem dX8_review_73 : decode cX8_review 73 = .ok (.ifCond .ne 26, 3) := by decide +kernel
theorem dX8_review_76 : decode cX8_review 76 = .ok (.aload_n 0, 1) := by decide +kernel
theorem dX8_review_77 : decode cX8_review 77 = .ok (.getfield 13, 3) := by decide +kernel
theorem dX8_review_80 : decode cX8_review 80 = .ok (.iload_n 1, 1) := by decide +kernel
theorem dX8_review_81 : decode cX8_review 81 = .ok (.baload, 1) := by decide +kernel
theorem dX8_review_82 : decode cX8_review 82 = .ok (.ifCond .ne 17, 3) := by decide +kernel
theorem dX8_review_85 : decode cX8_review 85 = .ok (.aload_n 0, 1) := by decide +kernel
theorem dX8_review_86 : decode cX8_review 86 = .ok (.iload_n 2, 1) := by decide +kernel
theorem dX8_review_87 : decode cX8_review 87 = .ok (.iload_n 3, 1) := by decide +kernel
theorem dX8_review_88 : decode cX8_review 88 = .ok (.iload 4, 2) := by decide +kernel
theorem dX8_review_90 : decode cX8_review 90 = .ok (.iload 5, 2) := by decide +kernel
theorem dX8_review_92 : decode cX8_review 92 = .ok (.invokevirtual 207, 3) := by decide +kernel
theorem dX8_review_95 : decode cX8_review 95 = .ok (.iconst (-1), 1) := by decide +kernel
theorem dX8_review_96 : decode cX8_review 96 = .ok (.if_icmp .eq 7, 3) := by decide +kernel
theorem dX8_review_99 : decode cX8_review 99 = .ok (.iconst 3, 1) := by decide +kernel
theorem dX8_review_100 : decode cX8_review 100 = .ok (.goto 4, 3) := by decide +kernel
theorem dX8_review_103 : decode cX8_review 103 = .ok (.iconst 0, 1) := by decide +kernel
theorem dX8_review_104 : decode cX8_review 104 = .ok (.invokevirtual 169, 3) := by decide +kernel
theorem dX8_review_107 : decode cX8_review 107 = .ok (.ifCond .ne 5, 3) := by decide +kernel
theorem dX8_review_110 : decode cX8_review 110 = .ok (.iconst 0, 1) := by decide +kernel
theorem dX8_review_111 : decode cX8_review 111 = .ok (.ireturn, 1) := by decide +kernel
theorem dX8_review_112 : decode cX8_review 112 = .ok (.aload_n 0, 1) := by decide +kernel
theorem dX8_review_113 : decode cX8_review 113 = .ok (.getfield 41, 3) := by decide +kernel
theorem dX8_review_116 : decode cX8_review 116 = .ok (.bipush 104, 2) := by decide +kernel
theorem dX8_review_118 : decode cX8_review 118 = .ok (.iload_n 1, 1) := by decide +kernel
theorem dX8_review_119 : decode cX8_review 119 = .ok (.iadd, 1) := by decide +kernel
theorem dX8_review_120 : decode cX8_review 120 = .ok (.iaload, 1) := by decide +kernel
theorem dX8_review_121 : decode cX8_review 121 = .ok (.aload_n 0, 1) := by decide +kernel
theorem dX8_review_122 : decode cX8_review 122 = .ok (.getfield 41, 3) := by decide +kernel
theorem dX8_review_125 : decode cX8_review 125 = .ok (.bipush 105, 2) := by decide +kernel
theorem dX8_review_127 : decode cX8_review 127 = .ok (.iload_n 1, 1) := by decide +kernel
theorem dX8_review_128 : decode cX8_review 128 = .ok (.isub, 1) := by decide +kernel
theorem dX8_review_129 : decode cX8_review 129 = .ok (.iaload, 1) := by decide +kernel
theorem dX8_review_130 : decode cX8_review 130 = .ok (.isub, 1) := by decide +kernel
theorem dX8_review_131 : decode cX8_review 131 = .ok (.istore 8, 2) := by decide +kernel
theorem dX8_review_133 : decode cX8_review 133 = .ok (.aload_n 0, 1) := by decide +kernel
theorem dX8_review_134 : decode cX8_review 134 = .ok (.bipush 14, 2) := by decide +kernel
theorem dX8_review_136 : decode cX8_review 136 = .ok (.iload_n 2, 1) := by decide +kernel
theorem dX8_review_137 : decode cX8_review 137 = .ok (.imul, 1) := by decide +kernel
theorem dX8_review_138 : decode cX8_review 138 = .ok (.iload_n 3, 1) := by decide +kernel
theorem dX8_review_139 : decode cX8_review 139 = .ok (.iadd, 1) := by decide +kernel
theorem dX8_review_140 : decode cX8_review 140 = .ok (.iload 4, 2) := by decide +kernel
theorem dX8_review_142 : decode cX8_review 142 = .ok (.iload 5, 2) := by decide +kernel
theorem dX8_review_144 : decode cX8_review 144 = .ok (.invokevirtual 198, 3) := by decide +kernel
theorem dX8_review_147 : decode cX8_review 147 = .ok (.aload_n 0, 1) := by decide +kernel
theorem dX8_review_148 : decode cX8_review 148 = .ok (.invokevirtual 201, 3) := by decide +kernel
theorem dX8_review_151 : decode cX8_review 151 = .ok (.istore 9, 2) := by decide +kernel
theorem dX8_review_153 : decode cX8_review 153 = .ok (.aload_n 0, 1) := by decide +kernel
theorem dX8_review_154 : decode cX8_review 154 = .ok (.getfield 41, 3) := by decide +kernel
theorem dX8_review_157 : decode cX8_review 157 = .ok (.bipush 104, 2) := by decide +kernel
theorem dX8_review_159 : decode cX8_review 159 = .ok (.iload_n 1, 1) := by decide +kernel
theorem dX8_review_160 : decode cX8_review 160 = .ok (.iadd, 1) := by decide +kernel
theorem dX8_review_161 : decode cX8_review 161 = .ok (.iaload, 1) := by decide +kernel
theorem dX8_review_162 : decode cX8_review 162 = .ok (.aload_n 0, 1) := by decide +kernel
theorem dX8_review_163 : decode cX8_review 163 = .ok (.getfield 41, 3) := by decide +kernel
theorem dX8_review_166 : decode cX8_review 166 = .ok (.bipush 105, 2) := by decide +kernel
theorem dX8_review_168 : decode cX8_review 168 = .ok (.iload_n 1, 1) := by decide +kernel
theorem dX8_review_169 : decode cX8_review 169 = .ok (.isub, 1) := by decide +kernel
theorem dX8_review_170 : decode cX8_review 170 = .ok (.iaload, 1) := by decide +kernel
theorem dX8_review_171 : decode cX8_review 171 = .ok (.isub, 1) := by decide +kernel
theorem dX8_review_172 : decode cX8_review 172 = .ok (.iload 8, 2) := by decide +kernel
theorem dX8_review_174 : decode cX8_review 174 = .ok (.isub, 1) := by decide +kernel
theorem dX8_review_175 : decode cX8_review 175 = .ok (.istore 10, 2) := by decide +kernel
theorem dX8_review_177 : decode cX8_review 177 = .ok (.aload_n 0, 1) := by decide +kernel
theorem dX8_review_178 : decode cX8_review 178 = .ok (.getfield 13, 3) := by decide +kernel
theorem dX8_review_181 : decode cX8_review 181 = .ok (.iload_n 1, 1) := by decide +kernel
theorem dX8_review_182 : decode cX8_review 182 = .ok (.iload 10, 2) := by decide +kernel
theorem dX8_review_184 : decode cX8_review 184 = .ok (.ifCond .gt 7, 3) := by decide +kernel
theorem dX8_review_187 : decode cX8_review 187 = .ok (.iconst 1, 1) := by decide +kernel
theorem dX8_review_188 : decode cX8_review 188 = .ok (.goto 4, 3) := by decide +kernel
theorem dX8_review_191 : decode cX8_review 191 = .ok (.iconst 0, 1) := by decide +kernel
theorem dX8_review_192 : decode cX8_review 192 = .ok (.bastore, 1) := by decide +kernel
theorem dX8_review_193 : decode cX8_review 193 = .ok (.iload 10, 2) := by decide +kernel
theorem dX8_review_195 : decode cX8_review 195 = .ok (.ireturn, 1) := by decide +kernel
theorem dX8_wouldFall_0 : decode cX8_wouldFall 0 = .ok (.iload_n 3, 1) := by decide +kernel
theorem dX8_wouldFall_1 : decode cX8_wouldFall 1 = .ok (.iconst 0, 1) := by decide +kernel
theorem dX8_wouldFall_2 : decode cX8_wouldFall 2 = .ok (.iconst 5, 1) := by decide +kernel
theorem dX8_wouldFall_3 : decode cX8_wouldFall 3 = .ok (.invokestatic 81, 3) := by decide +kernel
theorem dX8_wouldFall_6 : decode cX8_wouldFall 6 = .ok (.ifCond .eq 16, 3) := by decide +kernel
theorem dX8_wouldFall_9 : decode cX8_wouldFall 9 = .ok (.iload_n 3, 1) := by decide +kernel
theorem dX8_wouldFall_10 : decode cX8_wouldFall 10 = .ok (.iload 4, 2) := by decide +kernel
theorem dX8_wouldFall_12 : decode cX8_wouldFall 12 = .ok (.invokestatic 186, 3) := by decide +kernel
theorem dX8_wouldFall_15 : decode cX8_wouldFall 15 = .ok (.ifCond .eq 7, 3) := by decide +kernel
theorem dX8_wouldFall_18 : decode cX8_wouldFall 18 = .ok (.iconst 1, 1) := by decide +kernel
theorem dX8_wouldFall_19 : decode cX8_wouldFall 19 = .ok (.goto 4, 3) := by decide +kernel
theorem dX8_wouldFall_22 : decode cX8_wouldFall 22 = .ok (.iconst 0, 1) := by decide +kernel
theorem dX8_wouldFall_23 : decode cX8_wouldFall 23 = .ok (.istore 5, 2) := by decide +kernel
theorem dX8_wouldFall_25 : decode cX8_wouldFall 25 = .ok (.aload_n 0, 1) := by decide +kernel
theorem dX8_wouldFall_26 : decode cX8_wouldFall 26 = .ok (.aload_n 0, 1) := by decide +kernel
theorem dX8_wouldFall_27 : decode cX8_wouldFall 27 = .ok (.iload_n 1, 1) := by decide +kernel
theorem dX8_wouldFall_28 : decode cX8_wouldFall 28 = .ok (.iload_n 2, 1) := by decide +kernel
theorem dX8_wouldFall_29 : decode cX8_wouldFall 29 = .ok (.invokevirtual 204, 3) := by decide +kernel
theorem dX8_wouldFall_32 : decode cX8_wouldFall 32 = .ok (.ifCond .ne 7, 3) := by decide +kernel
theorem dX8_wouldFall_35 : decode cX8_wouldFall 35 = .ok (.iconst 1, 1) := by decide +kernel
theorem dX8_wouldFall_36 : decode cX8_wouldFall 36 = .ok (.goto 13, 3) := by decide +kernel
theorem dX8_wouldFall_39 : decode cX8_wouldFall 39 = .ok (.iload 5, 2) := by decide +kernel
theorem dX8_wouldFall_41 : decode cX8_wouldFall 41 = .ok (.ifCond .eq 7, 3) := by decide +kernel
theorem dX8_wouldFall_44 : decode cX8_wouldFall 44 = .ok (.iconst 0, 1) := by decide +kernel
theorem dX8_wouldFall_45 : decode cX8_wouldFall 45 = .ok (.goto 4, 3) := by decide +kernel
theorem dX8_wouldFall_48 : decode cX8_wouldFall 48 = .ok (.iconst 2, 1) := by decide +kernel
theorem dX8_wouldFall_49 : decode cX8_wouldFall 49 = .ok (.invokevirtual 169, 3) := by decide +kernel
theorem dX8_wouldFall_52 : decode cX8_wouldFall 52 = .ok (.ifCond .ne 5, 3) := by decide +kernel
theorem dX8_wouldFall_55 : decode cX8_wouldFall 55 = .ok (.iconst 0, 1) := by decide +kernel
theorem dX8_wouldFall_56 : decode cX8_wouldFall 56 = .ok (.ireturn, 1) := by decide +kernel
theorem dX8_wouldFall_57 : decode cX8_wouldFall 57 = .ok (.aload_n 0, 1) := by decide +kernel
theorem dX8_wouldFall_58 : decode cX8_wouldFall 58 = .ok (.iload_n 1, 1) := by decide +kernel
theorem dX8_wouldFall_59 : decode cX8_wouldFall 59 = .ok (.iload_n 2, 1) := by decide +kernel
theorem dX8_wouldFall_60 : decode cX8_wouldFall 60 = .ok (.iload_n 3, 1) := by decide +kernel
theorem dX8_wouldFall_61 : decode cX8_wouldFall 61 = .ok (.iload 4, 2) := by decide +kernel
theorem dX8_wouldFall_63 : decode cX8_wouldFall 63 = .ok (.invokevirtual 207, 3) := by decide +kernel
theorem dX8_wouldFall_66 : decode cX8_wouldFall 66 = .ok (.ireturn, 1) := by decide +kernel
theorem dX8_takeBack_0 : decode cX8_takeBack 0 = .ok (.aload_n 0, 1) := by decide +kernel
theorem dX8_takeBack_1 : decode cX8_takeBack 1 = .ok (.getfield 166, 3) := by decide +kernel
theorem dX8_takeBack_4 : decode cX8_takeBack 4 = .ok (.ifCond .eq 21, 3) := by decide +kernel
theorem dX8_takeBack_7 : decode cX8_takeBack 7 = .ok (.iload_n 1, 1) := by decide +kernel
theorem dX8_takeBack_8 : decode cX8_takeBack 8 = .ok (.iconst 0, 1) := by decide +kernel
theorem dX8_takeBack_9 : decode cX8_takeBack 9 = .ok (.aload_n 0, 1) := by decide +kernel
theorem dX8_takeBack_10 : decode cX8_takeBack 10 = .ok (.getfield 151, 3) := by decide +kernel
theorem dX8_takeBack_13 : decode cX8_takeBack 13 = .ok (.iconst 1, 1) := by decide +kernel
theorem dX8_takeBack_14 : decode cX8_takeBack 14 = .ok (.isub, 1) := by decide +kernel
theorem dX8_takeBack_15 : decode cX8_takeBack 15 = .ok (.invokestatic 81, 3) := by decide +kernel
theorem dX8_takeBack_18 : decode cX8_takeBack 18 = .ok (.ifCond .eq 7, 3) := by decide +kernel
theorem dX8_takeBack_21 : decode cX8_takeBack 21 = .ok (.iconst 1, 1) := by decide +kernel
theorem dX8_takeBack_22 : decode cX8_takeBack 22 = .ok (.goto 4, 3) := by decide +kernel
theorem dX8_takeBack_25 : decode cX8_takeBack 25 = .ok (.iconst 0, 1) := by decide +kernel
theorem dX8_takeBack_26 : decode cX8_takeBack 26 = .ok (.istore_n 2, 1) := by decide +kernel
theorem dX8_takeBack_27 : decode cX8_takeBack 27 = .ok (.aload_n 0, 1) := by decide +kernel
theorem dX8_takeBack_28 : decode cX8_takeBack 28 = .ok (.iload_n 2, 1) := by decide +kernel
theorem dX8_takeBack_29 : decode cX8_takeBack 29 = .ok (.ifCond .eq 7, 3) := by decide +kernel
theorem dX8_takeBack_32 : decode cX8_takeBack 32 = .ok (.iconst 0, 1) := by decide +kernel
theorem dX8_takeBack_33 : decode cX8_takeBack 33 = .ok (.goto 4, 3) := by decide +kernel
theorem dX8_takeBack_36 : decode cX8_takeBack 36 = .ok (.iconst 1, 1) := by decide +kernel
theorem dX8_takeBack_37 : decode cX8_takeBack 37 = .ok (.invokevirtual 169, 3) := by decide +kernel
theorem dX8_takeBack_40 : decode cX8_takeBack 40 = .ok (.ifCond .ne 5, 3) := by decide +kernel
theorem dX8_takeBack_43 : decode cX8_takeBack 43 = .ok (.iconst 0, 1) := by decide +kernel
theorem dX8_takeBack_44 : decode cX8_takeBack 44 = .ok (.ireturn, 1) := by decide +kernel
theorem dX8_takeBack_45 : decode cX8_takeBack 45 = .ok (.aload_n 0, 1) := by decide +kernel
theorem dX8_takeBack_46 : decode cX8_takeBack 46 = .ok (.getfield 151, 3) := by decide +kernel
theorem dX8_takeBack_49 : decode cX8_takeBack 49 = .ok (.iload_n 1, 1) := by decide +kernel
theorem dX8_takeBack_50 : decode cX8_takeBack 50 = .ok (.isub, 1) := by decide +kernel
theorem dX8_takeBack_51 : decode cX8_takeBack 51 = .ok (.istore_n 3, 1) := by decide +kernel
theorem dX8_takeBack_52 : decode cX8_takeBack 52 = .ok (.aload_n 0, 1) := by decide +kernel
theorem dX8_takeBack_53 : decode cX8_takeBack 53 = .ok (.iconst 0, 1) := by decide +kernel
theorem dX8_takeBack_54 : decode cX8_takeBack 54 = .ok (.putfield 147, 3) := by decide +kernel
theorem dX8_takeBack_57 : decode cX8_takeBack 57 = .ok (.aload_n 0, 1) := by decide +kernel
theorem dX8_takeBack_58 : decode cX8_takeBack 58 = .ok (.iload_n 1, 1) := by decide +kernel
theorem dX8_takeBack_59 : decode cX8_takeBack 59 = .ok (.putfield 151, 3) := by decide +kernel
theorem dX8_takeBack_62 : decode cX8_takeBack 62 = .ok (.aload_n 0, 1) := by decide +kernel
theorem dX8_takeBack_63 : decode cX8_takeBack 63 = .ok (.invokevirtual 201, 3) := by decide +kernel
theorem dX8_takeBack_66 : decode cX8_takeBack 66 = .ok (.istore 4, 2) := by decide +kernel
theorem dX8_takeBack_68 : decode cX8_takeBack 68 = .ok (.iload_n 3, 1) := by decide +kernel
theorem dX8_takeBack_69 : decode cX8_takeBack 69 = .ok (.ireturn, 1) := by decide +kernel
theorem dX8_enter_0 : decode cX8_enter 0 = .ok (.aload_n 0, 1) := by decide +kernel
theorem dX8_enter_1 : decode cX8_enter 1 = .ok (.aload_n 0, 1) := by decide +kernel
theorem dX8_enter_2 : decode cX8_enter 2 = .ok (.getfield 166, 3) := by decide +kernel
theorem dX8_enter_5 : decode cX8_enter 5 = .ok (.ifCond .eq 28, 3) := by decide +kernel
theorem dX8_enter_8 : decode cX8_enter 8 = .ok (.aload_n 0, 1) := by decide +kernel
theorem dX8_enter_9 : decode cX8_enter 9 = .ok (.getfield 147, 3) := by decide +kernel
theorem dX8_enter_12 : decode cX8_enter 12 = .ok (.ifCond .ne 21, 3) := by decide +kernel
theorem dX8_enter_15 : decode cX8_enter 15 = .ok (.aload_n 0, 1) := by decide +kernel
theorem dX8_enter_16 : decode cX8_enter 16 = .ok (.getfield 41, 3) := by decide +kernel
theorem dX8_enter_19 : decode cX8_enter 19 = .ok (.bipush 108, 2) := by decide +kernel
theorem dX8_enter_21 : decode cX8_enter 21 = .ok (.iaload, 1) := by decide +kernel
theorem dX8_enter_22 : decode cX8_enter 22 = .ok (.aload_n 0, 1) := by decide +kernel
theorem dX8_enter_23 : decode cX8_enter 23 = .ok (.getfield 118, 3) := by decide +kernel
theorem dX8_enter_26 : decode cX8_enter 26 = .ok (.if_icmp .lt 7, 3) := by decide +kernel
theorem dX8_enter_29 : decode cX8_enter 29 = .ok (.iconst 0, 1) := by decide +kernel
theorem dX8_enter_30 : decode cX8_enter 30 = .ok (.goto 4, 3) := by decide +kernel
theorem dX8_enter_33 : decode cX8_enter 33 = .ok (.iconst 1, 1) := by decide +kernel
theorem dX8_enter_34 : decode cX8_enter 34 = .ok (.invokevirtual 169, 3) := by decide +kernel
theorem dX8_enter_37 : decode cX8_enter 37 = .ok (.ifCond .ne 5, 3) := by decide +kernel
theorem dX8_enter_40 : decode cX8_enter 40 = .ok (.iconst 0, 1) := by decide +kernel
theorem dX8_enter_41 : decode cX8_enter 41 = .ok (.ireturn, 1) := by decide +kernel
theorem dX8_enter_42 : decode cX8_enter 42 = .ok (.aload_n 0, 1) := by decide +kernel
theorem dX8_enter_43 : decode cX8_enter 43 = .ok (.getfield 41, 3) := by decide +kernel
theorem dX8_enter_46 : decode cX8_enter 46 = .ok (.bipush 104, 2) := by decide +kernel
theorem dX8_enter_48 : decode cX8_enter 48 = .ok (.iaload, 1) := by decide +kernel
theorem dX8_enter_49 : decode cX8_enter 49 = .ok (.aload_n 0, 1) := by decide +kernel
theorem dX8_enter_50 : decode cX8_enter 50 = .ok (.getfield 41, 3) := by decide +kernel
theorem dX8_enter_53 : decode cX8_enter 53 = .ok (.bipush 105, 2) := by decide +kernel
theorem dX8_enter_55 : decode cX8_enter 55 = .ok (.iaload, 1) := by decide +kernel
theorem dX8_enter_56 : decode cX8_enter 56 = .ok (.isub, 1) := by decide +kernel
theorem dX8_enter_57 : decode cX8_enter 57 = .ok (.istore_n 1, 1) := by decide +kernel
theorem dX8_enter_58 : decode cX8_enter 58 = .ok (.iconst 0, 1) := by decide +kernel
theorem dX8_enter_59 : decode cX8_enter 59 = .ok (.istore_n 2, 1) := by decide +kernel
theorem dX8_enter_60 : decode cX8_enter 60 = .ok (.iload_n 2, 1) := by decide +kernel
theorem dX8_enter_61 : decode cX8_enter 61 = .ok (.iconst 2, 1) := by decide +kernel
theorem dX8_enter_62 : decode cX8_enter 62 = .ok (.if_icmp .ge 164, 3) := by decide +kernel
theorem dX8_enter_65 : decode cX8_enter 65 = .ok (.bipush 6, 2) := by decide +kernel
theorem dX8_enter_67 : decode cX8_enter 67 = .ok (.aload_n 0, 1) := by decide +kernel
theorem dX8_enter_68 : decode cX8_enter 68 = .ok (.getfield 7, 3) := by decide +kernel
theorem dX8_enter_71 : decode cX8_enter 71 = .ok (.iload_n 2, 1) := by decide +kernel
theorem dX8_enter_72 : decode cX8_enter 72 = .ok (.iaload, 1) := by decide +kernel
theorem dX8_enter_73 : decode cX8_enter 73 = .ok (.imul, 1) := by decide +kernel
theorem dX8_enter_74 : decode cX8_enter 74 = .ok (.istore_n 3, 1) := by decide +kernel
theorem dX8_enter_75 : decode cX8_enter 75 = .ok (.iload_n 2, 1) := by decide +kernel
theorem dX8_enter_76 : decode cX8_enter 76 = .ok (.ifCond .ne 7, 3) := by decide +kernel
theorem dX8_enter_79 : decode cX8_enter 79 = .ok (.iload_n 1, 1) := by decide +kernel
theorem dX8_enter_80 : decode cX8_enter 80 = .ok (.goto 5, 3) := by decide +kernel
theorem dX8_enter_83 : decode cX8_enter 83 = .ok (.iload_n 1, 1) := by decide +kernel
theorem dX8_enter_84 : decode cX8_enter 84 = .ok (.ineg, 1) := by decide +kernel
theorem dX8_enter_85 : decode cX8_enter 85 = .ok (.istore 4, 2) := by decide +kernel
theorem dX8_enter_87 : decode cX8_enter 87 = .ok (.aload_n 0, 1) := by decide +kernel
theorem dX8_enter_88 : decode cX8_enter 88 = .ok (.getfield 53, 3) := by decide +kernel
theorem dX8_enter_91 : decode cX8_enter 91 = .ok (.iload_n 3, 1) := by decide +kernel
theorem dX8_enter_92 : decode cX8_enter 92 = .ok (.dup2, 1) := by decide +kernel
theorem dX8_enter_93 : decode cX8_enter 93 = .ok (.iaload, 1) := by decide +kernel
theorem dX8_enter_94 : decode cX8_enter 94 = .ok (.iconst 1, 1) := by decide +kernel
theorem dX8_enter_95 : decode cX8_enter 95 = .ok (.iadd, 1) := by decide +kernel
theorem dX8_enter_96 : decode cX8_enter 96 = .ok (.iastore, 1) := by decide +kernel
theorem dX8_enter_97 : decode cX8_enter 97 = .ok (.aload_n 0, 1) := by decide +kernel
theorem dX8_enter_98 : decode cX8_enter 98 = .ok (.getfield 53, 3) := by decide +kernel
theorem dX8_enter_101 : decode cX8_enter 101 = .ok (.iload_n 3, 1) := by decide +kernel
theorem dX8_enter_102 : decode cX8_enter 102 = .ok (.iconst 1, 1) := by decide +kernel
theorem dX8_enter_103 : decode cX8_enter 103 = .ok (.iadd, 1) := by decide +kernel
theorem dX8_enter_104 : decode cX8_enter 104 = .ok (.dup2, 1) := by decide +kernel
theorem dX8_enter_105 : decode cX8_enter 105 = .ok (.iaload, 1) := by decide +kernel
theorem dX8_enter_106 : decode cX8_enter 106 = .ok (.iload 4, 2) := by decide +kernel
theorem dX8_enter_108 : decode cX8_enter 108 = .ok (.ifCond .le 7, 3) := by decide +kernel
theorem dX8_enter_111 : decode cX8_enter 111 = .ok (.iconst 1, 1) := by decide +kernel
theorem dX8_enter_112 : decode cX8_enter 112 = .ok (.goto 4, 3) := by decide +kernel
theorem dX8_enter_115 : decode cX8_enter 115 = .ok (.iconst 0, 1) := by decide +kernel
theorem dX8_enter_116 : decode cX8_enter 116 = .ok (.iadd, 1) := by decide +kernel
theorem dX8_enter_117 : decode cX8_enter 117 = .ok (.iastore, 1) := by decide +kernel
theorem dX8_enter_118 : decode cX8_enter 118 = .ok (.aload_n 0, 1) := by decide +kernel
theorem dX8_enter_119 : decode cX8_enter 119 = .ok (.getfield 53, 3) := by decide +kernel
theorem dX8_enter_122 : decode cX8_enter 122 = .ok (.iload_n 3, 1) := by decide +kernel
theorem dX8_enter_123 : decode cX8_enter 123 = .ok (.iconst 2, 1) := by decide +kernel
theorem dX8_enter_124 : decode cX8_enter 124 = .ok (.iadd, 1) := by decide +kernel
theorem dX8_enter_125 : decode cX8_enter 125 = .ok (.dup2, 1) := by decide +kernel
theorem dX8_enter_126 : decode cX8_enter 126 = .ok (.iaload, 1) := by decide +kernel
theorem dX8_enter_127 : decode cX8_enter 127 = .ok (.iload 4, 2) := by decide +kernel
theorem dX8_enter_129 : decode cX8_enter 129 = .ok (.ifCond .ne 7, 3) := by decide +kernel
theorem dX8_enter_132 : decode cX8_enter 132 = .ok (.iconst 1, 1) := by decide +kernel
theorem dX8_enter_133 : decode cX8_enter 133 = .ok (.goto 4, 3) := by decide +kernel
theorem dX8_enter_136 : decode cX8_enter 136 = .ok (.iconst 0, 1) := by decide +kernel
theorem dX8_enter_137 : decode cX8_enter 137 = .ok (.iadd, 1) := by decide +kernel
theorem dX8_enter_138 : decode cX8_enter 138 = .ok (.iastore, 1) := by decide +kernel
theorem dX8_enter_139 : decode cX8_enter 139 = .ok (.aload_n 0, 1) := by decide +kernel
theorem dX8_enter_140 : decode cX8_enter 140 = .ok (.getfield 53, 3) := by decide +kernel
theorem dX8_enter_143 : decode cX8_enter 143 = .ok (.iload_n 3, 1) := by decide +kernel
theorem dX8_enter_144 : decode cX8_enter 144 = .ok (.iconst 3, 1) := by decide +kernel
theorem dX8_enter_145 : decode cX8_enter 145 = .ok (.iadd, 1) := by decide +kernel
theorem dX8_enter_146 : decode cX8_enter 146 = .ok (.dup2, 1) := by decide +kernel
theorem dX8_enter_147 : decode cX8_enter 147 = .ok (.iaload, 1) := by decide +kernel
theorem dX8_enter_148 : decode cX8_enter 148 = .ok (.iload 4, 2) := by decide +kernel
theorem dX8_enter_150 : decode cX8_enter 150 = .ok (.ifCond .le 7, 3) := by decide +kernel
theorem dX8_enter_153 : decode cX8_enter 153 = .ok (.iconst 5, 1) := by decide +kernel
theorem dX8_enter_154 : decode cX8_enter 154 = .ok (.goto 24, 3) := by decide +kernel
theorem dX8_enter_157 : decode cX8_enter 157 = .ok (.iload 4, 2) := by decide +kernel
theorem dX8_enter_159 : decode cX8_enter 159 = .ok (.ifCond .ne 7, 3) := by decide +kernel
theorem dX8_enter_162 : decode cX8_enter 162 = .ok (.iconst 3, 1) := by decide +kernel
theorem dX8_enter_163 : decode cX8_enter 163 = .ok (.goto 15, 3) := by decide +kernel
theorem dX8_enter_166 : decode cX8_enter 166 = .ok (.iload 4, 2) := by decide +kernel
theorem dX8_enter_168 : decode cX8_enter 168 = .ok (.bipush (-7), 2) := by decide +kernel
theorem dX8_enter_170 : decode cX8_enter 170 = .ok (.if_icmp .lt 7, 3) := by decide +kernel
theorem dX8_enter_173 : decode cX8_enter 173 = .ok (.iconst 1, 1) := by decide +kernel
theorem dX8_enter_174 : decode cX8_enter 174 = .ok (.goto 4, 3) := by decide +kernel
theorem dX8_enter_177 : decode cX8_enter 177 = .ok (.iconst 0, 1) := by decide +kernel
theorem dX8_enter_178 : decode cX8_enter 178 = .ok (.iadd, 1) := by decide +kernel
theorem dX8_enter_179 : decode cX8_enter 179 = .ok (.iastore, 1) := by decide +kernel
theorem dX8_enter_180 : decode cX8_enter 180 = .ok (.aload_n 0, 1) := by decide +kernel
theorem dX8_enter_181 : decode cX8_enter 181 = .ok (.getfield 53, 3) := by decide +kernel
theorem dX8_enter_184 : decode cX8_enter 184 = .ok (.iload_n 3, 1) := by decide +kernel
theorem dX8_enter_185 : decode cX8_enter 185 = .ok (.iconst 4, 1) := by decide +kernel
theorem dX8_enter_186 : decode cX8_enter 186 = .ok (.iadd, 1) := by decide +kernel
theorem dX8_enter_187 : decode cX8_enter 187 = .ok (.dup2, 1) := by decide +kernel
theorem dX8_enter_188 : decode cX8_enter 188 = .ok (.iaload, 1) := by decide +kernel
theorem dX8_enter_189 : decode cX8_enter 189 = .ok (.aload_n 0, 1) := by decide +kernel
theorem dX8_enter_190 : decode cX8_enter 190 = .ok (.getfield 41, 3) := by decide +kernel
theorem dX8_enter_193 : decode cX8_enter 193 = .ok (.bipush 104, 2) := by decide +kernel
theorem dX8_enter_195 : decode cX8_enter 195 = .ok (.iload_n 2, 1) := by decide +kernel
theorem dX8_enter_196 : decode cX8_enter 196 = .ok (.iadd, 1) := by decide +kernel
theorem dX8_enter_197 : decode cX8_enter 197 = .ok (.iaload, 1) := by decide +kernel
theorem dX8_enter_198 : decode cX8_enter 198 = .ok (.iadd, 1) := by decide +kernel
theorem dX8_enter_199 : decode cX8_enter 199 = .ok (.iastore, 1) := by decide +kernel
theorem dX8_enter_200 : decode cX8_enter 200 = .ok (.aload_n 0, 1) := by decide +kernel
theorem dX8_enter_201 : decode cX8_enter 201 = .ok (.getfield 53, 3) := by decide +kernel
theorem dX8_enter_204 : decode cX8_enter 204 = .ok (.iload_n 3, 1) := by decide +kernel
theorem dX8_enter_205 : decode cX8_enter 205 = .ok (.iconst 5, 1) := by decide +kernel
theorem dX8_enter_206 : decode cX8_enter 206 = .ok (.iadd, 1) := by decide +kernel
theorem dX8_enter_207 : decode cX8_enter 207 = .ok (.dup2, 1) := by decide +kernel
theorem dX8_enter_208 : decode cX8_enter 208 = .ok (.iaload, 1) := by decide +kernel
theorem dX8_enter_209 : decode cX8_enter 209 = .ok (.aload_n 0, 1) := by decide +kernel
theorem dX8_enter_210 : decode cX8_enter 210 = .ok (.getfield 41, 3) := by decide +kernel
theorem dX8_enter_213 : decode cX8_enter 213 = .ok (.bipush 105, 2) := by decide +kernel
theorem dX8_enter_215 : decode cX8_enter 215 = .ok (.iload_n 2, 1) := by decide +kernel
theorem dX8_enter_216 : decode cX8_enter 216 = .ok (.isub, 1) := by decide +kernel
theorem dX8_enter_217 : decode cX8_enter 217 = .ok (.iaload, 1) := by decide +kernel
theorem dX8_enter_218 : decode cX8_enter 218 = .ok (.iadd, 1) := by decide +kernel
theorem dX8_enter_219 : decode cX8_enter 219 = .ok (.iastore, 1) := by decide +kernel
theorem dX8_enter_220 : decode cX8_enter 220 = .ok (.iinc 2 1, 3) := by decide +kernel
theorem dX8_enter_223 : decode cX8_enter 223 = .ok (.goto (-163), 3) := by decide +kernel
theorem dX8_enter_226 : decode cX8_enter 226 = .ok (.aload_n 0, 1) := by decide +kernel
theorem dX8_enter_227 : decode cX8_enter 227 = .ok (.iconst 0, 1) := by decide +kernel
theorem dX8_enter_228 : decode cX8_enter 228 = .ok (.putfield 166, 3) := by decide +kernel
theorem dX8_enter_231 : decode cX8_enter 231 = .ok (.iload_n 1, 1) := by decide +kernel
theorem dX8_enter_232 : decode cX8_enter 232 = .ok (.ifCond .le 12, 3) := by decide +kernel
theorem dX8_enter_235 : decode cX8_enter 235 = .ok (.aload_n 0, 1) := by decide +kernel
theorem dX8_enter_236 : decode cX8_enter 236 = .ok (.getfield 7, 3) := by decide +kernel
theorem dX8_enter_239 : decode cX8_enter 239 = .ok (.iconst 0, 1) := by decide +kernel
theorem dX8_enter_240 : decode cX8_enter 240 = .ok (.iaload, 1) := by decide +kernel
theorem dX8_enter_241 : decode cX8_enter 241 = .ok (.goto 17, 3) := by decide +kernel
theorem dX8_enter_244 : decode cX8_enter 244 = .ok (.iload_n 1, 1) := by decide +kernel
theorem dX8_enter_245 : decode cX8_enter 245 = .ok (.ifCond .ge 12, 3) := by decide +kernel
theorem dX8_enter_248 : decode cX8_enter 248 = .ok (.aload_n 0, 1) := by decide +kernel
theorem dX8_enter_249 : decode cX8_enter 249 = .ok (.getfield 7, 3) := by decide +kernel
theorem dX8_enter_252 : decode cX8_enter 252 = .ok (.iconst 1, 1) := by decide +kernel
theorem dX8_enter_253 : decode cX8_enter 253 = .ok (.iaload, 1) := by decide +kernel
theorem dX8_enter_254 : decode cX8_enter 254 = .ok (.goto 4, 3) := by decide +kernel
theorem dX8_enter_257 : decode cX8_enter 257 = .ok (.iconst (-1), 1) := by decide +kernel
theorem dX8_enter_258 : decode cX8_enter 258 = .ok (.ireturn, 1) := by decide +kernel
theorem dX8_type_0 : decode cX8_type 0 = .ok (.aload_n 0, 1) := by decide +kernel
theorem dX8_type_1 : decode cX8_type 1 = .ok (.iload_n 1, 1) := by decide +kernel
theorem dX8_type_2 : decode cX8_type 2 = .ok (.bipush 32, 2) := by decide +kernel
theorem dX8_type_4 : decode cX8_type 4 = .ok (.bipush 126, 2) := by decide +kernel
theorem dX8_type_6 : decode cX8_type 6 = .ok (.invokestatic 81, 3) := by decide +kernel
theorem dX8_type_9 : decode cX8_type 9 = .ok (.ifCond .ne 7, 3) := by decide +kernel
theorem dX8_type_12 : decode cX8_type 12 = .ok (.iconst 1, 1) := by decide +kernel
theorem dX8_type_13 : decode cX8_type 13 = .ok (.goto 17, 3) := by decide +kernel
theorem dX8_type_16 : decode cX8_type 16 = .ok (.aload_n 0, 1) := by decide +kernel
theorem dX8_type_17 : decode cX8_type 17 = .ok (.getfield 210, 3) := by decide +kernel
theorem dX8_type_20 : decode cX8_type 20 = .ok (.bipush 60, 2) := by decide +kernel
theorem dX8_type_22 : decode cX8_type 22 = .ok (.if_icmp .ne 7, 3) := by decide +kernel
theorem dX8_type_25 : decode cX8_type 25 = .ok (.iconst 2, 1) := by decide +kernel
theorem dX8_type_26 : decode cX8_type 26 = .ok (.goto 4, 3) := by decide +kernel
theorem dX8_type_29 : decode cX8_type 29 = .ok (.iconst 0, 1) := by decide +kernel
theorem dX8_type_30 : decode cX8_type 30 = .ok (.invokevirtual 169, 3) := by decide +kernel
theorem dX8_type_33 : decode cX8_type 33 = .ok (.ifCond .ne 5, 3) := by decide +kernel
theorem dX8_type_36 : decode cX8_type 36 = .ok (.iconst 0, 1) := by decide +kernel
theorem dX8_type_37 : decode cX8_type 37 = .ok (.ireturn, 1) := by decide +kernel
theorem dX8_type_38 : decode cX8_type 38 = .ok (.aload_n 0, 1) := by decide +kernel
theorem dX8_type_39 : decode cX8_type 39 = .ok (.getfield 50, 3) := by decide +kernel
theorem dX8_type_42 : decode cX8_type 42 = .ok (.aload_n 0, 1) := by decide +kernel
theorem dX8_type_43 : decode cX8_type 43 = .ok (.getfield 210, 3) := by decide +kernel
theorem dX8_type_46 : decode cX8_type 46 = .ok (.iload_n 1, 1) := by decide +kernel
theorem dX8_type_47 : decode cX8_type 47 = .ok (.iastore, 1) := by decide +kernel
theorem dX8_type_48 : decode cX8_type 48 = .ok (.aload_n 0, 1) := by decide +kernel
theorem dX8_type_49 : decode cX8_type 49 = .ok (.dup, 1) := by decide +kernel
theorem dX8_type_50 : decode cX8_type 50 = .ok (.getfield 210, 3) := by decide +kernel
theorem dX8_type_53 : decode cX8_type 53 = .ok (.iconst 1, 1) := by decide +kernel
theorem dX8_type_54 : decode cX8_type 54 = .ok (.iadd, 1) := by decide +kernel
theorem dX8_type_55 : decode cX8_type 55 = .ok (.putfield 210, 3) := by decide +kernel
theorem dX8_type_58 : decode cX8_type 58 = .ok (.aload_n 0, 1) := by decide +kernel
theorem dX8_type_59 : decode cX8_type 59 = .ok (.getfield 210, 3) := by decide +kernel
theorem dX8_type_62 : decode cX8_type 62 = .ok (.ireturn, 1) := by decide +kernel
theorem dX8_clear_0 : decode cX8_clear 0 = .ok (.aload_n 0, 1) := by decide +kernel
theorem dX8_clear_1 : decode cX8_clear 1 = .ok (.iconst 0, 1) := by decide +kernel
theorem dX8_clear_2 : decode cX8_clear 2 = .ok (.putfield 78, 3) := by decide +kernel
theorem dX8_clear_5 : decode cX8_clear 5 = .ok (.aload_n 0, 1) := by decide +kernel
theorem dX8_clear_6 : decode cX8_clear 6 = .ok (.getfield 210, 3) := by decide +kernel
theorem dX8_clear_9 : decode cX8_clear 9 = .ok (.istore_n 1, 1) := by decide +kernel
theorem dX8_clear_10 : decode cX8_clear 10 = .ok (.aload_n 0, 1) := by decide +kernel
theorem dX8_clear_11 : decode cX8_clear 11 = .ok (.iconst 0, 1) := by decide +kernel
theorem dX8_clear_12 : decode cX8_clear 12 = .ok (.putfield 210, 3) := by decide +kernel
theorem dX8_clear_15 : decode cX8_clear 15 = .ok (.iload_n 1, 1) := by decide +kernel
theorem dX8_clear_16 : decode cX8_clear 16 = .ok (.ireturn, 1) := by decide +kernel
theorem dX8_isNext_0 : decode cX8_isNext 0 = .ok (.aload_n 0, 1) := by decide +kernel
theorem dX8_isNext_1 : decode cX8_isNext 1 = .ok (.getfield 213, 3) := by decide +kernel
theorem dX8_isNext_4 : decode cX8_isNext 4 = .ok (.ifCond .ne 35, 3) := by decide +kernel
theorem dX8_isNext_7 : decode cX8_isNext 7 = .ok (.aload_n 0, 1) := by decide +kernel
theorem dX8_isNext_8 : decode cX8_isNext 8 = .ok (.getfield 216, 3) := by decide +kernel
theorem dX8_isNext_11 : decode cX8_isNext 11 = .ok (.aload_n 0, 1) := by decide +kernel
theorem dX8_isNext_12 : decode cX8_isNext 12 = .ok (.getfield 210, 3) := by decide +kernel
theorem dX8_isNext_15 : decode cX8_isNext 15 = .ok (.if_icmp .ge 24, 3) := by decide +kernel
theorem dX8_isNext_18 : decode cX8_isNext 18 = .ok (.aload_n 0, 1) := by decide +kernel
theorem dX8_isNext_19 : decode cX8_isNext 19 = .ok (.getfield 50, 3) := by decide +kernel
theorem dX8_isNext_22 : decode cX8_isNext 22 = .ok (.aload_n 0, 1) := by decide +kernel
theorem dX8_isNext_23 : decode cX8_isNext 23 = .ok (.getfield 216, 3) := by decide +kernel
theorem dX8_isNext_26 : decode cX8_isNext 26 = .ok (.iaload, 1) := by decide +kernel
theorem dX8_isNext_27 : decode cX8_isNext 27 = .ok (.iload_n 1, 1) := by decide +kernel
theorem dX8_isNext_28 : decode cX8_isNext 28 = .ok (.iload_n 2, 1) := by decide +kernel
theorem dX8_isNext_29 : decode cX8_isNext 29 = .ok (.invokestatic 81, 3) := by decide +kernel
theorem dX8_isNext_32 : decode cX8_isNext 32 = .ok (.ifCond .eq 7, 3) := by decide +kernel
theorem dX8_isNext_35 : decode cX8_isNext 35 = .ok (.iconst 1, 1) := by decide +kernel
theorem dX8_isNext_36 : decode cX8_isNext 36 = .ok (.goto 4, 3) := by decide +kernel
theorem dX8_isNext_39 : decode cX8_isNext 39 = .ok (.iconst 0, 1) := by decide +kernel
theorem dX8_isNext_40 : decode cX8_isNext 40 = .ok (.ireturn, 1) := by decide +kernel
theorem dX8_takes_0 : decode cX8_takes 0 = .ok (.aload_n 0, 1) := by decide +kernel
theorem dX8_takes_1 : decode cX8_takes 1 = .ok (.iload_n 1, 1) := by decide +kernel
theorem dX8_takes_2 : decode cX8_takes 2 = .ok (.iload_n 2, 1) := by decide +kernel
theorem dX8_takes_3 : decode cX8_takes 3 = .ok (.invokevirtual 219, 3) := by decide +kernel
theorem dX8_takes_6 : decode cX8_takes 6 = .ok (.istore_n 3, 1) := by decide +kernel
theorem dX8_takes_7 : decode cX8_takes 7 = .ok (.iload_n 3, 1) := by decide +kernel
theorem dX8_takes_8 : decode cX8_takes 8 = .ok (.ifCond .eq 17, 3) := by decide +kernel
theorem dX8_takes_11 : decode cX8_takes 11 = .ok (.aload_n 0, 1) := by decide +kernel
theorem dX8_takes_12 : decode cX8_takes 12 = .ok (.getfield 50, 3) := by decide +kernel
theorem dX8_takes_15 : decode cX8_takes 15 = .ok (.aload_n 0, 1) := by decide +kernel
theorem dX8_takes_16 : decode cX8_takes 16 = .ok (.getfield 216, 3) := by decide +kernel
theorem dX8_takes_19 : decode cX8_takes 19 = .ok (.iaload, 1) := by decide +kernel
theorem dX8_takes_20 : decode cX8_takes 20 = .ok (.iload_n 1, 1) := by decide +kernel
theorem dX8_takes_21 : decode cX8_takes 21 = .ok (.isub, 1) := by decide +kernel
theorem dX8_takes_22 : decode cX8_takes 22 = .ok (.goto 4, 3) := by decide +kernel
theorem dX8_takes_25 : decode cX8_takes 25 = .ok (.iconst 0, 1) := by decide +kernel
theorem dX8_takes_26 : decode cX8_takes 26 = .ok (.istore 4, 2) := by decide +kernel
theorem dX8_takes_28 : decode cX8_takes 28 = .ok (.aload_n 0, 1) := by decide +kernel
theorem dX8_takes_29 : decode cX8_takes 29 = .ok (.dup, 1) := by decide +kernel
theorem dX8_takes_30 : decode cX8_takes 30 = .ok (.getfield 216, 3) := by decide +kernel
theorem dX8_takes_33 : decode cX8_takes 33 = .ok (.iload_n 3, 1) := by decide +kernel
theorem dX8_takes_34 : decode cX8_takes 34 = .ok (.ifCond .eq 7, 3) := by decide +kernel
theorem dX8_takes_37 : decode cX8_takes 37 = .ok (.iconst 1, 1) := by decide +kernel
theorem dX8_takes_38 : decode cX8_takes 38 = .ok (.goto 4, 3) := by decide +kernel
theorem dX8_takes_41 : decode cX8_takes 41 = .ok (.iconst 0, 1) := by decide +kernel
theorem dX8_takes_42 : decode cX8_takes 42 = .ok (.iadd, 1) := by decide +kernel
theorem dX8_takes_43 : decode cX8_takes 43 = .ok (.putfield 216, 3) := by decide +kernel
theorem dX8_takes_46 : decode cX8_takes 46 = .ok (.aload_n 0, 1) := by decide +kernel
theorem dX8_takes_47 : decode cX8_takes 47 = .ok (.aload_n 0, 1) := by decide +kernel
theorem dX8_takes_48 : decode cX8_takes 48 = .ok (.getfield 213, 3) := by decide +kernel
theorem dX8_takes_51 : decode cX8_takes 51 = .ok (.ifCond .ne 7, 3) := by decide +kernel
theorem dX8_takes_54 : decode cX8_takes 54 = .ok (.iload_n 3, 1) := by decide +kernel
theorem dX8_takes_55 : decode cX8_takes 55 = .ok (.ifCond .ne 7, 3) := by decide +kernel
theorem dX8_takes_58 : decode cX8_takes 58 = .ok (.iconst 1, 1) := by decide +kernel
theorem dX8_takes_59 : decode cX8_takes 59 = .ok (.goto 4, 3) := by decide +kernel
theorem dX8_takes_62 : decode cX8_takes 62 = .ok (.iconst 0, 1) := by decide +kernel
theorem dX8_takes_63 : decode cX8_takes 63 = .ok (.putfield 213, 3) := by decide +kernel
theorem dX8_takes_66 : decode cX8_takes 66 = .ok (.iload 4, 2) := by decide +kernel
theorem dX8_takes_68 : decode cX8_takes 68 = .ok (.ireturn, 1) := by decide +kernel
theorem dX8_takesAll_0 : decode cX8_takesAll 0 = .ok (.aload_n 0, 1) := by decide +kernel
theorem dX8_takesAll_1 : decode cX8_takesAll 1 = .ok (.iload_n 1, 1) := by decide +kernel
theorem dX8_takesAll_2 : decode cX8_takesAll 2 = .ok (.iload_n 1, 1) := by decide +kernel
theorem dX8_takesAll_3 : decode cX8_takesAll 3 = .ok (.invokevirtual 222, 3) := by decide +kernel
theorem dX8_takesAll_6 : decode cX8_takesAll 6 = .ok (.istore 5, 2) := by decide +kernel
theorem dX8_takesAll_8 : decode cX8_takesAll 8 = .ok (.iload_n 2, 1) := by decide +kernel
theorem dX8_takesAll_9 : decode cX8_takesAll 9 = .ok (.ifCond .ne 7, 3) := by decide +kernel
theorem dX8_takesAll_12 : decode cX8_takesAll 12 = .ok (.iconst 0, 1) := by decide +kernel
theorem dX8_takesAll_13 : decode cX8_takesAll 13 = .ok (.goto 9, 3) := by decide +kernel
theorem dX8_takesAll_16 : decode cX8_takesAll 16 = .ok (.aload_n 0, 1) := by decide +kernel
theorem dX8_takesAll_17 : decode cX8_takesAll 17 = .ok (.iload_n 2, 1) := by decide +kernel
theorem dX8_takesAll_18 : decode cX8_takesAll 18 = .ok (.iload_n 2, 1) := by decide +kernel
theorem dX8_takesAll_19 : decode cX8_takesAll 19 = .ok (.invokevirtual 222, 3) := by decide +kernel
theorem dX8_takesAll_22 : decode cX8_takesAll 22 = .ok (.istore 5, 2) := by decide +kernel
theorem dX8_takesAll_24 : decode cX8_takesAll 24 = .ok (.iload_n 3, 1) := by decide +kernel
theorem dX8_takesAll_25 : decode cX8_takesAll 25 = .ok (.ifCond .ne 7, 3) := by decide +kernel
theorem dX8_takesAll_28 : decode cX8_takesAll 28 = .ok (.iconst 0, 1) := by decide +kernel
theorem dX8_takesAll_29 : decode cX8_takesAll 29 = .ok (.goto 9, 3) := by decide +kernel
theorem dX8_takesAll_32 : decode cX8_takesAll 32 = .ok (.aload_n 0, 1) := by decide +kernel
theorem dX8_takesAll_33 : decode cX8_takesAll 33 = .ok (.iload_n 3, 1) := by decide +kernel
theorem dX8_takesAll_34 : decode cX8_takesAll 34 = .ok (.iload_n 3, 1) := by decide +kernel
theorem dX8_takesAll_35 : decode cX8_takesAll 35 = .ok (.invokevirtual 222, 3) := by decide +kernel
theorem dX8_takesAll_38 : decode cX8_takesAll 38 = .ok (.istore 5, 2) := by decide +kernel
theorem dX8_takesAll_40 : decode cX8_takesAll 40 = .ok (.iload 4, 2) := by decide +kernel
theorem dX8_takesAll_42 : decode cX8_takesAll 42 = .ok (.ifCond .ne 7, 3) := by decide +kernel
theorem dX8_takesAll_45 : decode cX8_takesAll 45 = .ok (.iconst 0, 1) := by decide +kernel
theorem dX8_takesAll_46 : decode cX8_takesAll 46 = .ok (.goto 11, 3) := by decide +kernel
theorem dX8_takesAll_49 : decode cX8_takesAll 49 = .ok (.aload_n 0, 1) := by decide +kernel
theorem dX8_takesAll_50 : decode cX8_takesAll 50 = .ok (.iload 4, 2) := by decide +kernel
theorem dX8_takesAll_52 : decode cX8_takesAll 52 = .ok (.iload 4, 2) := by decide +kernel
theorem dX8_takesAll_54 : decode cX8_takesAll 54 = .ok (.invokevirtual 222, 3) := by decide +kernel
theorem dX8_takesAll_57 : decode cX8_takesAll 57 = .ok (.istore 5, 2) := by decide +kernel
theorem dX8_takesAll_59 : decode cX8_takesAll 59 = .ok (.return_, 1) := by decide +kernel
theorem dX8_readWord_0 : decode cX8_readWord 0 = .ok (.aload_n 0, 1) := by decide +kernel
theorem dX8_readWord_1 : decode cX8_readWord 1 = .ok (.getfield 216, 3) := by decide +kernel
theorem dX8_readWord_4 : decode cX8_readWord 4 = .ok (.aload_n 0, 1) := by decide +kernel
theorem dX8_readWord_5 : decode cX8_readWord 5 = .ok (.getfield 210, 3) := by decide +kernel
theorem dX8_readWord_8 : decode cX8_readWord 8 = .ok (.if_icmp .ge 15, 3) := by decide +kernel
theorem dX8_readWord_11 : decode cX8_readWord 11 = .ok (.aload_n 0, 1) := by decide +kernel
theorem dX8_readWord_12 : decode cX8_readWord 12 = .ok (.getfield 50, 3) := by decide +kernel
theorem dX8_readWord_15 : decode cX8_readWord 15 = .ok (.aload_n 0, 1) := by decide +kernel
theorem dX8_readWord_16 : decode cX8_readWord 16 = .ok (.getfield 216, 3) := by decide +kernel
theorem dX8_readWord_19 : decode cX8_readWord 19 = .ok (.iaload, 1) := by decide +kernel
theorem dX8_readWord_20 : decode cX8_readWord 20 = .ok (.goto 4, 3) := by decide +kernel
theorem dX8_readWord_23 : decode cX8_readWord 23 = .ok (.iconst 0, 1) := by decide +kernel
theorem dX8_readWord_24 : decode cX8_readWord 24 = .ok (.istore_n 1, 1) := by decide +kernel
theorem dX8_readWord_25 : decode cX8_readWord 25 = .ok (.aload_n 0, 1) := by decide +kernel
theorem dX8_readWord_26 : decode cX8_readWord 26 = .ok (.dup, 1) := by decide +kernel
theorem dX8_readWord_27 : decode cX8_readWord 27 = .ok (.getfield 216, 3) := by decide +kernel
theorem dX8_readWord_30 : decode cX8_readWord 30 = .ok (.iconst 1, 1) := by decide +kernel
theorem dX8_readWord_31 : decode cX8_readWord 31 = .ok (.iadd, 1) := by decide +kernel
theorem dX8_readWord_32 : decode cX8_readWord 32 = .ok (.putfield 216, 3) := by decide +kernel
theorem dX8_readWord_35 : decode cX8_readWord 35 = .ok (.aload_n 0, 1) := by decide +kernel
theorem dX8_readWord_36 : decode cX8_readWord 36 = .ok (.getfield 216, 3) := by decide +kernel
theorem dX8_readWord_39 : decode cX8_readWord 39 = .ok (.aload_n 0, 1) := by decide +kernel
theorem dX8_readWord_40 : decode cX8_readWord 40 = .ok (.getfield 210, 3) := by decide +kernel
theorem dX8_readWord_43 : decode cX8_readWord 43 = .ok (.if_icmp .ge 15, 3) := by decide +kernel
theorem dX8_readWord_46 : decode cX8_readWord 46 = .ok (.aload_n 0, 1) := by decide +kernel
theorem dX8_readWord_47 : decode cX8_readWord 47 = .ok (.getfield 50, 3) := by decide +kernel
theorem dX8_readWord_50 : decode cX8_readWord 50 = .ok (.aload_n 0, 1) := by decide +kernel
theorem dX8_readWord_51 : decode cX8_readWord 51 = .ok (.getfield 216, 3) := by decide +kernel
theorem dX8_readWord_54 : decode cX8_readWord 54 = .ok (.iaload, 1) := by decide +kernel
theorem dX8_readWord_55 : decode cX8_readWord 55 = .ok (.goto 4, 3) := by decide +kernel
theorem dX8_readWord_58 : decode cX8_readWord 58 = .ok (.iconst 0, 1) := by decide +kernel
theorem dX8_readWord_59 : decode cX8_readWord 59 = .ok (.istore_n 2, 1) := by decide +kernel
theorem dX8_readWord_60 : decode cX8_readWord 60 = .ok (.aload_n 0, 1) := by decide +kernel
theorem dX8_readWord_61 : decode cX8_readWord 61 = .ok (.iconst (-1), 1) := by decide +kernel
theorem dX8_readWord_62 : decode cX8_readWord 62 = .ok (.putfield 225, 3) := by decide +kernel
theorem dX8_readWord_65 : decode cX8_readWord 65 = .ok (.iload_n 1, 1) := by decide +kernel
theorem dX8_readWord_66 : decode cX8_readWord 66 = .ok (.bipush 114, 2) := by decide +kernel
theorem dX8_readWord_68 : decode cX8_readWord 68 = .ok (.if_icmp .ne 17, 3) := by decide +kernel
theorem dX8_readWord_71 : decode cX8_readWord 71 = .ok (.aload_n 0, 1) := by decide +kernel
theorem dX8_readWord_72 : decode cX8_readWord 72 = .ok (.bipush 97, 2) := by decide +kernel
theorem dX8_readWord_74 : decode cX8_readWord 74 = .ok (.bipush 105, 2) := by decide +kernel
theorem dX8_readWord_76 : decode cX8_readWord 76 = .ok (.bipush 100, 2) := by decide +kernel
theorem dX8_readWord_78 : decode cX8_readWord 78 = .ok (.iconst 0, 1) := by decide +kernel
theorem dX8_readWord_79 : decode cX8_readWord 79 = .ok (.invokevirtual 228, 3) := by decide +kernel
theorem dX8_readWord_82 : decode cX8_readWord 82 = .ok (.goto 245, 3) := by decide +kernel
theorem dX8_readWord_85 : decode cX8_readWord 85 = .ok (.iload_n 1, 1) := by decide +kernel
theorem dX8_readWord_86 : decode cX8_readWord 86 = .ok (.bipush 102, 2) := by decide +kernel
theorem dX8_readWord_88 : decode cX8_readWord 88 = .ok (.if_icmp .ne 22, 3) := by decide +kernel
theorem dX8_readWord_91 : decode cX8_readWord 91 = .ok (.aload_n 0, 1) := by decide +kernel
theorem dX8_readWord_92 : decode cX8_readWord 92 = .ok (.iconst 4, 1) := by decide +kernel
theorem dX8_readWord_93 : decode cX8_readWord 93 = .ok (.putfield 225, 3) := by decide +kernel
theorem dX8_readWord_96 : decode cX8_readWord 96 = .ok (.aload_n 0, 1) := by decide +kernel
theorem dX8_readWord_97 : decode cX8_readWord 97 = .ok (.bipush 97, 2) := by decide +kernel
theorem dX8_readWord_99 : decode cX8_readWord 99 = .ok (.bipush 108, 2) := by decide +kernel
theorem dX8_readWord_101 : decode cX8_readWord 101 = .ok (.bipush 108, 2) := by decide +kernel
theorem dX8_readWord_103 : decode cX8_readWord 103 = .ok (.iconst 0, 1) := by decide +kernel
theorem dX8_readWord_104 : decode cX8_readWord 104 = .ok (.invokevirtual 228, 3) := by decide +kernel
theorem dX8_readWord_107 : decode cX8_readWord 107 = .ok (.goto 220, 3) := by decide +kernel
theorem dX8_readWord_110 : decode cX8_readWord 110 = .ok (.iload_n 1, 1) := by decide +kernel
theorem dX8_readWord_111 : decode cX8_readWord 111 = .ok (.bipush 108, 2) := by decide +kernel
theorem dX8_readWord_113 : decode cX8_readWord 113 = .ok (.if_icmp .ne 22, 3) := by decide +kernel
theorem dX8_readWord_116 : decode cX8_readWord 116 = .ok (.aload_n 0, 1) := by decide +kernel
theorem dX8_readWord_117 : decode cX8_readWord 117 = .ok (.iconst 5, 1) := by decide +kernel
theorem dX8_readWord_118 : decode cX8_readWord 118 = .ok (.putfield 225, 3) := by decide +kernel
theorem dX8_readWord_121 : decode cX8_readWord 121 = .ok (.aload_n 0, 1) := by decide +kernel
theorem dX8_readWord_122 : decode cX8_readWord 122 = .ok (.bipush 105, 2) := by decide +kernel
theorem dX8_readWord_124 : decode cX8_readWord 124 = .ok (.bipush 110, 2) := by decide +kernel
theorem dX8_readWord_126 : decode cX8_readWord 126 = .ok (.bipush 101, 2) := by decide +kernel
theorem dX8_readWord_128 : decode cX8_readWord 128 = .ok (.iconst 0, 1) := by decide +kernel
theorem dX8_readWord_129 : decode cX8_readWord 129 = .ok (.invokevirtual 228, 3) := by decide +kernel
theorem dX8_readWord_132 : decode cX8_readWord 132 = .ok (.goto 195, 3) := by decide +kernel
theorem dX8_readWord_135 : decode cX8_readWord 135 = .ok (.iload_n 1, 1) := by decide +kernel
theorem dX8_readWord_136 : decode cX8_readWord 136 = .ok (.bipush 116, 2) := by decide +kernel
theorem dX8_readWord_138 : decode cX8_readWord 138 = .ok (.if_icmp .ne 29, 3) := by decide +kernel
theorem dX8_readWord_141 : decode cX8_readWord 141 = .ok (.iload_n 2, 1) := by decide +kernel
theorem dX8_readWord_142 : decode cX8_readWord 142 = .ok (.bipush 105, 2) := by decide +kernel
theorem dX8_readWord_144 : decode cX8_readWord 144 = .ok (.if_icmp .ne 23, 3) := by decide +kernel
theorem dX8_readWord_147 : decode cX8_readWord 147 = .ok (.aload_n 0, 1) := by decide +kernel
theorem dX8_readWord_148 : decode cX8_readWord 148 = .ok (.bipush 6, 2) := by decide +kernel
theorem dX8_readWord_150 : decode cX8_readWord 150 = .ok (.putfield 225, 3) := by decide +kernel
theorem dX8_readWord_153 : decode cX8_readWord 153 = .ok (.aload_n 0, 1) := by decide +kernel
theorem dX8_readWord_154 : decode cX8_readWord 154 = .ok (.bipush 105, 2) := by decide +kernel
theorem dX8_readWord_156 : decode cX8_readWord 156 = .ok (.bipush 109, 2) := by decide +kernel
theorem dX8_readWord_158 : decode cX8_readWord 158 = .ok (.bipush 101, 2) := by decide +kernel
theorem dX8_readWord_160 : decode cX8_readWord 160 = .ok (.iconst 0, 1) := by decide +kernel
theorem dX8_readWord_161 : decode cX8_readWord 161 = .ok (.invokevirtual 228, 3) := by decide +kernel
theorem dX8_readWord_164 : decode cX8_readWord 164 = .ok (.goto 163, 3) := by decide +kernel
theorem dX8_readWord_167 : decode cX8_readWord 167 = .ok (.iload_n 1, 1) := by decide +kernel
theorem dX8_readWord_168 : decode cX8_readWord 168 = .ok (.bipush 116, 2) := by decide +kernel
theorem dX8_readWord_170 : decode cX8_readWord 170 = .ok (.if_icmp .ne 23, 3) := by decide +kernel
theorem dX8_readWord_173 : decode cX8_readWord 173 = .ok (.aload_n 0, 1) := by decide +kernel
theorem dX8_readWord_174 : decode cX8_readWord 174 = .ok (.iconst 0, 1) := by decide +kernel
theorem dX8_readWord_175 : decode cX8_readWord 175 = .ok (.putfield 225, 3) := by decide +kernel
theorem dX8_readWord_178 : decode cX8_readWord 178 = .ok (.aload_n 0, 1) := by decide +kernel
theorem dX8_readWord_179 : decode cX8_readWord 179 = .ok (.bipush 111, 2) := by decide +kernel
theorem dX8_readWord_181 : decode cX8_readWord 181 = .ok (.bipush 117, 2) := by decide +kernel
theorem dX8_readWord_183 : decode cX8_readWord 183 = .ok (.bipush 99, 2) := by decide +kernel
theorem dX8_readWord_185 : decode cX8_readWord 185 = .ok (.bipush 104, 2) := by decide +kernel
theorem dX8_readWord_187 : decode cX8_readWord 187 = .ok (.invokevirtual 228, 3) := by decide +kernel
theorem dX8_readWord_190 : decode cX8_readWord 190 = .ok (.goto 137, 3) := by decide +kernel
theorem dX8_readWord_193 : decode cX8_readWord 193 = .ok (.iload_n 1, 1) := by decide +kernel
theorem dX8_readWord_194 : decode cX8_readWord 194 = .ok (.bipush 98, 2) := by decide +kernel
theorem dX8_readWord_196 : decode cX8_readWord 196 = .ok (.if_icmp .ne 29, 3) := by decide +kernel
theorem dX8_readWord_199 : decode cX8_readWord 199 = .ok (.iload_n 2, 1) := by decide +kernel
theorem dX8_readWord_200 : decode cX8_readWord 200 = .ok (.bipush 111, 2) := by decide +kernel
theorem dX8_readWord_202 : decode cX8_readWord 202 = .ok (.if_icmp .ne 23, 3) := by decide +kernel
theorem dX8_readWord_205 : decode cX8_readWord 205 = .ok (.aload_n 0, 1) := by decide +kernel
theorem dX8_readWord_206 : decode cX8_readWord 206 = .ok (.iconst 1, 1) := by decide +kernel
theorem dX8_readWord_207 : decode cX8_readWord 207 = .ok (.putfield 225, 3) := by decide +kernel
theorem dX8_readWord_210 : decode cX8_readWord 210 = .ok (.aload_n 0, 1) := by decide +kernel
theorem dX8_readWord_211 : decode cX8_readWord 211 = .ok (.bipush 111, 2) := by decide +kernel
theorem dX8_readWord_213 : decode cX8_readWord 213 = .ok (.bipush 110, 2) := by decide +kernel
theorem dX8_readWord_215 : decode cX8_readWord 215 = .ok (.bipush 117, 2) := by decide +kernel
theorem dX8_readWord_217 : decode cX8_readWord 217 = .ok (.bipush 115, 2) := by decide +kernel
theorem dX8_readWord_219 : decode cX8_readWord 219 = .ok (.invokevirtual 228, 3) := by decide +kernel
theorem dX8_readWord_222 : decode cX8_readWord 222 = .ok (.goto 105, 3) := by decide +kernel
theorem dX8_readWord_225 : decode cX8_readWord 225 = .ok (.iload_n 1, 1) := by decide +kernel
theorem dX8_readWord_226 : decode cX8_readWord 226 = .ok (.bipush 98, 2) := by decide +kernel
theorem dX8_readWord_228 : decode cX8_readWord 228 = .ok (.if_icmp .ne 84, 3) := by decide +kernel
theorem dX8_readWord_231 : decode cX8_readWord 231 = .ok (.aload_n 0, 1) := by decide +kernel
theorem dX8_readWord_232 : decode cX8_readWord 232 = .ok (.bipush 97, 2) := by decide +kernel
theorem dX8_readWord_234 : decode cX8_readWord 234 = .ok (.bipush 97, 2) := by decide +kernel
theorem dX8_readWord_236 : decode cX8_readWord 236 = .ok (.invokevirtual 222, 3) := by decide +kernel
theorem dX8_readWord_239 : decode cX8_readWord 239 = .ok (.istore_n 3, 1) := by decide +kernel
theorem dX8_readWord_240 : decode cX8_readWord 240 = .ok (.aload_n 0, 1) := by decide +kernel
theorem dX8_readWord_241 : decode cX8_readWord 241 = .ok (.aload_n 0, 1) := by decide +kernel
theorem dX8_readWord_242 : decode cX8_readWord 242 = .ok (.bipush 117, 2) := by decide +kernel
theorem dX8_readWord_244 : decode cX8_readWord 244 = .ok (.bipush 117, 2) := by decide +kernel
theorem dX8_readWord_246 : decode cX8_readWord 246 = .ok (.invokevirtual 219, 3) := by decide +kernel
theorem dX8_readWord_249 : decode cX8_readWord 249 = .ok (.ifCond .eq 7, 3) := by decide +kernel
theorem dX8_readWord_252 : decode cX8_readWord 252 = .ok (.iconst 2, 1) := by decide +kernel
theorem dX8_readWord_253 : decode cX8_readWord 253 = .ok (.goto 4, 3) := by decide +kernel
theorem dX8_readWord_256 : decode cX8_readWord 256 = .ok (.iconst 3, 1) := by decide +kernel
theorem dX8_readWord_257 : decode cX8_readWord 257 = .ok (.putfield 225, 3) := by decide +kernel
theorem dX8_readWord_260 : decode cX8_readWord 260 = .ok (.aload_n 0, 1) := by decide +kernel
theorem dX8_readWord_261 : decode cX8_readWord 261 = .ok (.aload_n 0, 1) := by decide +kernel
theorem dX8_readWord_262 : decode cX8_readWord 262 = .ok (.getfield 225, 3) := by decide +kernel
theorem dX8_readWord_265 : decode cX8_readWord 265 = .ok (.iconst 2, 1) := by decide +kernel
theorem dX8_readWord_266 : decode cX8_readWord 266 = .ok (.if_icmp .ne 8, 3) := by decide +kernel
theorem dX8_readWord_269 : decode cX8_readWord 269 = .ok (.bipush 117, 2) := by decide +kernel
theorem dX8_readWord_271 : decode cX8_readWord 271 = .ok (.goto 5, 3) := by decide +kernel
theorem dX8_readWord_274 : decode cX8_readWord 274 = .ok (.bipush 99, 2) := by decide +kernel
theorem dX8_readWord_276 : decode cX8_readWord 276 = .ok (.aload_n 0, 1) := by decide +kernel
theorem dX8_readWord_277 : decode cX8_readWord 277 = .ok (.getfield 225, 3) := by decide +kernel
theorem dX8_readWord_280 : decode cX8_readWord 280 = .ok (.iconst 2, 1) := by decide +kernel
theorem dX8_readWord_281 : decode cX8_readWord 281 = .ok (.if_icmp .ne 8, 3) := by decide +kernel
theorem dX8_readWord_284 : decode cX8_readWord 284 = .ok (.bipush 108, 2) := by decide +kernel
theorem dX8_readWord_286 : decode cX8_readWord 286 = .ok (.goto 5, 3) := by decide +kernel
theorem dX8_readWord_289 : decode cX8_readWord 289 = .ok (.bipush 107, 2) := by decide +kernel
theorem dX8_readWord_291 : decode cX8_readWord 291 = .ok (.aload_n 0, 1) := by decide +kernel
theorem dX8_readWord_292 : decode cX8_readWord 292 = .ok (.getfield 225, 3) := by decide +kernel
theorem dX8_readWord_295 : decode cX8_readWord 295 = .ok (.iconst 2, 1) := by decide +kernel
theorem dX8_readWord_296 : decode cX8_readWord 296 = .ok (.if_icmp .ne 8, 3) := by decide +kernel
theorem dX8_readWord_299 : decode cX8_readWord 299 = .ok (.bipush 107, 2) := by decide +kernel
theorem dX8_readWord_301 : decode cX8_readWord 301 = .ok (.goto 4, 3) := by decide +kernel
theorem dX8_readWord_304 : decode cX8_readWord 304 = .ok (.iconst 0, 1) := by decide +kernel
theorem dX8_readWord_305 : decode cX8_readWord 305 = .ok (.iconst 0, 1) := by decide +kernel
theorem dX8_readWord_306 : decode cX8_readWord 306 = .ok (.invokevirtual 228, 3) := by decide +kernel
theorem dX8_readWord_309 : decode cX8_readWord 309 = .ok (.goto 18, 3) := by decide +kernel
theorem dX8_readWord_312 : decode cX8_readWord 312 = .ok (.aload_n 0, 1) := by decide +kernel
theorem dX8_readWord_313 : decode cX8_readWord 313 = .ok (.iconst 1, 1) := by decide +kernel
theorem dX8_readWord_314 : decode cX8_readWord 314 = .ok (.putfield 213, 3) := by decide +kernel
theorem dX8_readWord_317 : decode cX8_readWord 317 = .ok (.aload_n 0, 1) := by decide +kernel
theorem dX8_readWord_318 : decode cX8_readWord 318 = .ok (.dup, 1) := by decide +kernel
theorem dX8_readWord_319 : decode cX8_readWord 319 = .ok (.getfield 216, 3) := by decide +kernel
theorem dX8_readWord_322 : decode cX8_readWord 322 = .ok (.iconst 1, 1) := by decide +kernel
theorem dX8_readWord_323 : decode cX8_readWord 323 = .ok (.isub, 1) := by decide +kernel
theorem dX8_readWord_324 : decode cX8_readWord 324 = .ok (.putfield 216, 3) := by decide +kernel
theorem dX8_readWord_327 : decode cX8_readWord 327 = .ok (.return_, 1) := by decide +kernel
theorem dX8_readOrder_0 : decode cX8_readOrder 0 = .ok (.aload_n 0, 1) := by decide +kernel
theorem dX8_readOrder_1 : decode cX8_readOrder 1 = .ok (.invokevirtual 232, 3) := by decide +kernel
theorem dX8_readOrder_4 : decode cX8_readOrder 4 = .ok (.aload_n 0, 1) := by decide +kernel
theorem dX8_readOrder_5 : decode cX8_readOrder 5 = .ok (.aload_n 0, 1) := by decide +kernel
theorem dX8_readOrder_6 : decode cX8_readOrder 6 = .ok (.getfield 225, 3) := by decide +kernel
theorem dX8_readOrder_9 : decode cX8_readOrder 9 = .ok (.iconst (-1), 1) := by decide +kernel
theorem dX8_readOrder_10 : decode cX8_readOrder 10 = .ok (.if_icmp .eq 10, 3) := by decide +kernel
theorem dX8_readOrder_13 : decode cX8_readOrder 13 = .ok (.aload_n 0, 1) := by decide +kernel
theorem dX8_readOrder_14 : decode cX8_readOrder 14 = .ok (.getfield 225, 3) := by decide +kernel
theorem dX8_readOrder_17 : decode cX8_readOrder 17 = .ok (.ifCond .ne 14, 3) := by decide +kernel
theorem dX8_readOrder_20 : decode cX8_readOrder 20 = .ok (.aload_n 0, 1) := by decide +kernel
theorem dX8_readOrder_21 : decode cX8_readOrder 21 = .ok (.bipush 48, 2) := by decide +kernel
theorem dX8_readOrder_23 : decode cX8_readOrder 23 = .ok (.bipush 57, 2) := by decide +kernel
theorem dX8_readOrder_25 : decode cX8_readOrder 25 = .ok (.invokevirtual 222, 3) := by decide +kernel
theorem dX8_readOrder_28 : decode cX8_readOrder 28 = .ok (.goto 4, 3) := by decide +kernel
theorem dX8_readOrder_31 : decode cX8_readOrder 31 = .ok (.iconst (-1), 1) := by decide +kernel
theorem dX8_readOrder_32 : decode cX8_readOrder 32 = .ok (.putfield 235, 3) := by decide +kernel
theorem dX8_readOrder_35 : decode cX8_readOrder 35 = .ok (.aload_n 0, 1) := by decide +kernel
theorem dX8_readOrder_36 : decode cX8_readOrder 36 = .ok (.iconst 0, 1) := by decide +kernel
theorem dX8_readOrder_37 : decode cX8_readOrder 37 = .ok (.putfield 238, 3) := by decide +kernel
theorem dX8_readOrder_40 : decode cX8_readOrder 40 = .ok (.aload_n 0, 1) := by decide +kernel
theorem dX8_readOrder_41 : decode cX8_readOrder 41 = .ok (.getfield 225, 3) := by decide +kernel
theorem dX8_readOrder_44 : decode cX8_readOrder 44 = .ok (.iconst (-1), 1) := by decide +kernel
theorem dX8_readOrder_45 : decode cX8_readOrder 45 = .ok (.if_icmp .eq 129, 3) := by decide +kernel
theorem dX8_readOrder_48 : decode cX8_readOrder 48 = .ok (.aload_n 0, 1) := by decide +kernel
theorem dX8_readOrder_49 : decode cX8_readOrder 49 = .ok (.bipush 64, 2) := by decide +kernel
theorem dX8_readOrder_51 : decode cX8_readOrder 51 = .ok (.bipush 64, 2) := by decide +kernel
theorem dX8_readOrder_53 : decode cX8_readOrder 53 = .ok (.invokevirtual 222, 3) := by decide +kernel
theorem dX8_readOrder_56 : decode cX8_readOrder 56 = .ok (.istore_n 1, 1) := by decide +kernel
theorem dX8_readOrder_57 : decode cX8_readOrder 57 = .ok (.aload_n 0, 1) := by decide +kernel
theorem dX8_readOrder_58 : decode cX8_readOrder 58 = .ok (.aload_n 0, 1) := by decide +kernel
theorem dX8_readOrder_59 : decode cX8_readOrder 59 = .ok (.bipush 48, 2) := by decide +kernel
theorem dX8_readOrder_61 : decode cX8_readOrder 61 = .ok (.bipush 57, 2) := by decide +kernel
theorem dX8_readOrder_63 : decode cX8_readOrder 63 = .ok (.invokevirtual 222, 3) := by decide +kernel
theorem dX8_readOrder_66 : decode cX8_readOrder 66 = .ok (.putfield 238, 3) := by decide +kernel
theorem dX8_readOrder_69 : decode cX8_readOrder 69 = .ok (.aload_n 0, 1) := by decide +kernel
theorem dX8_readOrder_70 : decode cX8_readOrder 70 = .ok (.aload_n 0, 1) := by decide +kernel
theorem dX8_readOrder_71 : decode cX8_readOrder 71 = .ok (.bipush 48, 2) := by decide +kernel
theorem dX8_readOrder_73 : decode cX8_readOrder 73 = .ok (.bipush 57, 2) := by decide +kernel
theorem dX8_readOrder_75 : decode cX8_readOrder 75 = .ok (.invokevirtual 219, 3) := by decide +kernel
theorem dX8_readOrder_78 : decode cX8_readOrder 78 = .ok (.ifCond .eq 22, 3) := by decide +kernel
theorem dX8_readOrder_81 : decode cX8_readOrder 81 = .ok (.bipush 10, 2) := by decide +kernel
theorem dX8_readOrder_83 : decode cX8_readOrder 83 = .ok (.aload_n 0, 1) := by decide +kernel
theorem dX8_readOrder_84 : decode cX8_readOrder 84 = .ok (.getfield 238, 3) := by decide +kernel
theorem dX8_readOrder_87 : decode cX8_readOrder 87 = .ok (.imul, 1) := by decide +kernel
theorem dX8_readOrder_88 : decode cX8_readOrder 88 = .ok (.aload_n 0, 1) := by decide +kernel
theorem dX8_readOrder_89 : decode cX8_readOrder 89 = .ok (.bipush 48, 2) := by decide +kernel
theorem dX8_readOrder_91 : decode cX8_readOrder 91 = .ok (.bipush 57, 2) := by decide +kernel
theorem dX8_readOrder_93 : decode cX8_readOrder 93 = .ok (.invokevirtual 222, 3) := by decide +kernel
theorem dX8_readOrder_96 : decode cX8_readOrder 96 = .ok (.iadd, 1) := by decide +kernel
theorem dX8_readOrder_97 : decode cX8_readOrder 97 = .ok (.goto 7, 3) := by decide +kernel
theorem dX8_readOrder_100 : decode cX8_readOrder 100 = .ok (.aload_n 0, 1) := by decide +kernel
theorem dX8_readOrder_101 : decode cX8_readOrder 101 = .ok (.getfield 238, 3) := by decide +kernel
theorem dX8_readOrder_104 : decode cX8_readOrder 104 = .ok (.putfield 238, 3) := by decide +kernel
theorem dX8_readOrder_107 : decode cX8_readOrder 107 = .ok (.aload_n 0, 1) := by decide +kernel
theorem dX8_readOrder_108 : decode cX8_readOrder 108 = .ok (.aload_n 0, 1) := by decide +kernel
theorem dX8_readOrder_109 : decode cX8_readOrder 109 = .ok (.bipush 48, 2) := by decide +kernel
theorem dX8_readOrder_111 : decode cX8_readOrder 111 = .ok (.bipush 57, 2) := by decide +kernel
theorem dX8_readOrder_113 : decode cX8_readOrder 113 = .ok (.invokevirtual 219, 3) := by decide +kernel
theorem dX8_readOrder_116 : decode cX8_readOrder 116 = .ok (.ifCond .eq 51, 3) := by decide +kernel
theorem dX8_readOrder_119 : decode cX8_readOrder 119 = .ok (.aload_n 0, 1) := by decide +kernel
theorem dX8_readOrder_120 : decode cX8_readOrder 120 = .ok (.getfield 216, 3) := by decide +kernel
theorem dX8_readOrder_123 : decode cX8_readOrder 123 = .ok (.iconst 1, 1) := by decide +kernel
theorem dX8_readOrder_124 : decode cX8_readOrder 124 = .ok (.if_icmp .le 43, 3) := by decide +kernel
theorem dX8_readOrder_127 : decode cX8_readOrder 127 = .ok (.aload_n 0, 1) := by decide +kernel
theorem dX8_readOrder_128 : decode cX8_readOrder 128 = .ok (.getfield 50, 3) := by decide +kernel
theorem dX8_readOrder_131 : decode cX8_readOrder 131 = .ok (.aload_n 0, 1) := by decide +kernel
theorem dX8_readOrder_132 : decode cX8_readOrder 132 = .ok (.getfield 216, 3) := by decide +kernel
theorem dX8_readOrder_135 : decode cX8_readOrder 135 = .ok (.iconst 2, 1) := by decide +kernel
theorem dX8_readOrder_136 : decode cX8_readOrder 136 = .ok (.isub, 1) := by decide +kernel
theorem dX8_readOrder_137 : decode cX8_readOrder 137 = .ok (.iaload, 1) := by decide +kernel
theorem dX8_readOrder_138 : decode cX8_readOrder 138 = .ok (.bipush 48, 2) := by decide +kernel
theorem dX8_readOrder_140 : decode cX8_readOrder 140 = .ok (.bipush 57, 2) := by decide +kernel
theorem dX8_readOrder_142 : decode cX8_readOrder 142 = .ok (.invokestatic 81, 3) := by decide +kernel
theorem dX8_readOrder_145 : decode cX8_readOrder 145 = .ok (.ifCond .eq 22, 3) := by decide +kernel
theorem dX8_readOrder_148 : decode cX8_readOrder 148 = .ok (.bipush 10, 2) := by decide +kernel
theorem dX8_readOrder_150 : decode cX8_readOrder 150 = .ok (.aload_n 0, 1) := by decide +kernel
theorem dX8_readOrder_151 : decode cX8_readOrder 151 = .ok (.getfield 238, 3) := by decide +kernel
theorem dX8_readOrder_154 : decode cX8_readOrder 154 = .ok (.imul, 1) := by decide +kernel
theorem dX8_readOrder_155 : decode cX8_readOrder 155 = .ok (.aload_n 0, 1) := by decide +kernel
theorem dX8_readOrder_156 : decode cX8_readOrder 156 = .ok (.bipush 48, 2) := by decide +kernel
theorem dX8_readOrder_158 : decode cX8_readOrder 158 = .ok (.bipush 57, 2) := by decide +kernel
theorem dX8_readOrder_160 : decode cX8_readOrder 160 = .ok (.invokevirtual 222, 3) := by decide +kernel
theorem dX8_readOrder_163 : decode cX8_readOrder 163 = .ok (.iadd, 1) := by decide +kernel
theorem dX8_readOrder_164 : decode cX8_readOrder 164 = .ok (.goto 7, 3) := by decide +kernel
theorem dX8_readOrder_167 : decode cX8_readOrder 167 = .ok (.aload_n 0, 1) := by decide +kernel
theorem dX8_readOrder_168 : decode cX8_readOrder 168 = .ok (.getfield 238, 3) := by decide +kernel
theorem dX8_readOrder_171 : decode cX8_readOrder 171 = .ok (.putfield 238, 3) := by decide +kernel
theorem dX8_readOrder_174 : decode cX8_readOrder 174 = .ok (.aload_n 0, 1) := by decide +kernel
theorem dX8_readOrder_175 : decode cX8_readOrder 175 = .ok (.bipush 59, 2) := by decide +kernel
theorem dX8_readOrder_177 : decode cX8_readOrder 177 = .ok (.bipush 59, 2) := by decide +kernel
theorem dX8_readOrder_179 : decode cX8_readOrder 179 = .ok (.invokevirtual 222, 3) := by decide +kernel
theorem dX8_readOrder_182 : decode cX8_readOrder 182 = .ok (.istore_n 1, 1) := by decide +kernel
theorem dX8_readOrder_183 : decode cX8_readOrder 183 = .ok (.return_, 1) := by decide +kernel
theorem dX8_faultOf_0 : decode cX8_faultOf 0 = .ok (.aload_n 0, 1) := by decide +kernel
theorem dX8_faultOf_1 : decode cX8_faultOf 1 = .ok (.iconst 0, 1) := by decide +kernel
theorem dX8_faultOf_2 : decode cX8_faultOf 2 = .ok (.putfield 216, 3) := by decide +kernel
theorem dX8_faultOf_5 : decode cX8_faultOf 5 = .ok (.aload_n 0, 1) := by decide +kernel
theorem dX8_faultOf_6 : decode cX8_faultOf 6 = .ok (.iconst 0, 1) := by decide +kernel
theorem dX8_faultOf_7 : decode cX8_faultOf 7 = .ok (.putfield 213, 3) := by decide +kernel
theorem dX8_faultOf_10 : decode cX8_faultOf 10 = .ok (.aload_n 0, 1) := by decide +kernel
theorem dX8_faultOf_11 : decode cX8_faultOf 11 = .ok (.getfield 213, 3) := by decide +kernel
theorem dX8_faultOf_14 : decode cX8_faultOf 14 = .ok (.ifCond .ne 21, 3) := by decide +kernel
theorem dX8_faultOf_17 : decode cX8_faultOf 17 = .ok (.aload_n 0, 1) := by decide +kernel
theorem dX8_faultOf_18 : decode cX8_faultOf 18 = .ok (.getfield 216, 3) := by decide +kernel
theorem dX8_faultOf_21 : decode cX8_faultOf 21 = .ok (.aload_n 0, 1) := by decide +kernel
theorem dX8_faultOf_22 : decode cX8_faultOf 22 = .ok (.getfield 210, 3) := by decide +kernel
theorem dX8_faultOf_25 : decode cX8_faultOf 25 = .ok (.if_icmp .ge 10, 3) := by decide +kernel
theorem dX8_faultOf_28 : decode cX8_faultOf 28 = .ok (.aload_n 0, 1) := by decide +kernel
theorem dX8_faultOf_29 : decode cX8_faultOf 29 = .ok (.invokevirtual 241, 3) := by decide +kernel
theorem dX8_faultOf_32 : decode cX8_faultOf 32 = .ok (.goto (-22), 3) := by decide +kernel
theorem dX8_faultOf_35 : decode cX8_faultOf 35 = .ok (.aload_n 0, 1) := by decide +kernel
theorem dX8_faultOf_36 : decode cX8_faultOf 36 = .ok (.getfield 213, 3) := by decide +kernel
theorem dX8_faultOf_39 : decode cX8_faultOf 39 = .ok (.ifCond .eq 10, 3) := by decide +kernel
theorem dX8_faultOf_42 : decode cX8_faultOf 42 = .ok (.aload_n 0, 1) := by decide +kernel
theorem dX8_faultOf_43 : decode cX8_faultOf 43 = .ok (.getfield 216, 3) := by decide +kernel
theorem dX8_faultOf_46 : decode cX8_faultOf 46 = .ok (.goto 4, 3) := by decide +kernel
theorem dX8_faultOf_49 : decode cX8_faultOf 49 = .ok (.iconst (-1), 1) := by decide +kernel
theorem dX8_faultOf_50 : decode cX8_faultOf 50 = .ok (.ireturn, 1) := by decide +kernel
theorem dX8_fault_0 : decode cX8_fault 0 = .ok (.aload_n 0, 1) := by decide +kernel
theorem dX8_fault_1 : decode cX8_fault 1 = .ok (.iconst 0, 1) := by decide +kernel
theorem dX8_fault_2 : decode cX8_fault 2 = .ok (.putfield 78, 3) := by decide +kernel
theorem dX8_fault_5 : decode cX8_fault 5 = .ok (.aload_n 0, 1) := by decide +kernel
theorem dX8_fault_6 : decode cX8_fault 6 = .ok (.invokevirtual 244, 3) := by decide +kernel
theorem dX8_fault_9 : decode cX8_fault 9 = .ok (.ireturn, 1) := by decide +kernel
theorem dX8_run_0 : decode cX8_run 0 = .ok (.aload_n 0, 1) := by decide +kernel
theorem dX8_run_1 : decode cX8_run 1 = .ok (.aload_n 0, 1) := by decide +kernel
theorem dX8_run_2 : decode cX8_run 2 = .ok (.invokevirtual 244, 3) := by decide +kernel
theorem dX8_run_5 : decode cX8_run 5 = .ok (.iconst (-1), 1) := by decide +kernel
theorem dX8_run_6 : decode cX8_run 6 = .ok (.if_icmp .ne 7, 3) := by decide +kernel
theorem dX8_run_9 : decode cX8_run 9 = .ok (.iconst 0, 1) := by decide +kernel
theorem dX8_run_10 : decode cX8_run 10 = .ok (.goto 4, 3) := by decide +kernel
theorem dX8_run_13 : decode cX8_run 13 = .ok (.iconst 1, 1) := by decide +kernel
theorem dX8_run_14 : decode cX8_run 14 = .ok (.invokevirtual 169, 3) := by decide +kernel
theorem dX8_run_17 : decode cX8_run 17 = .ok (.ifCond .ne 5, 3) := by decide +kernel
theorem dX8_run_20 : decode cX8_run 20 = .ok (.iconst 0, 1) := by decide +kernel
theorem dX8_run_21 : decode cX8_run 21 = .ok (.ireturn, 1) := by decide +kernel
theorem dX8_run_22 : decode cX8_run 22 = .ok (.aload_n 0, 1) := by decide +kernel
theorem dX8_run_23 : decode cX8_run 23 = .ok (.iconst 0, 1) := by decide +kernel
theorem dX8_run_24 : decode cX8_run 24 = .ok (.putfield 216, 3) := by decide +kernel
theorem dX8_run_27 : decode cX8_run 27 = .ok (.aload_n 0, 1) := by decide +kernel
theorem dX8_run_28 : decode cX8_run 28 = .ok (.iconst 0, 1) := by decide +kernel
theorem dX8_run_29 : decode cX8_run 29 = .ok (.putfield 213, 3) := by decide +kernel
theorem dX8_run_32 : decode cX8_run 32 = .ok (.iconst 0, 1) := by decide +kernel
theorem dX8_run_33 : decode cX8_run 33 = .ok (.istore_n 1, 1) := by decide +kernel
theorem dX8_run_34 : decode cX8_run 34 = .ok (.iconst 1, 1) := by decide +kernel
theorem dX8_run_35 : decode cX8_run 35 = .ok (.istore_n 2, 1) := by decide +kernel
theorem dX8_run_36 : decode cX8_run 36 = .ok (.iload_n 2, 1) := by decide +kernel
theorem dX8_run_37 : decode cX8_run 37 = .ok (.ifCond .eq 82, 3) := by decide +kernel
theorem dX8_run_40 : decode cX8_run 40 = .ok (.aload_n 0, 1) := by decide +kernel
theorem dX8_run_41 : decode cX8_run 41 = .ok (.getfield 216, 3) := by decide +kernel
theorem dX8_run_44 : decode cX8_run 44 = .ok (.aload_n 0, 1) := by decide +kernel
theorem dX8_run_45 : decode cX8_run 45 = .ok (.getfield 210, 3) := by decide +kernel
theorem dX8_run_48 : decode cX8_run 48 = .ok (.if_icmp .ge 71, 3) := by decide +kernel
theorem dX8_run_51 : decode cX8_run 51 = .ok (.aload_n 0, 1) := by decide +kernel
theorem dX8_run_52 : decode cX8_run 52 = .ok (.invokevirtual 241, 3) := by decide +kernel
theorem dX8_run_55 : decode cX8_run 55 = .ok (.aload_n 0, 1) := by decide +kernel
theorem dX8_run_56 : decode cX8_run 56 = .ok (.getfield 225, 3) := by decide +kernel
theorem dX8_run_59 : decode cX8_run 59 = .ok (.iconst (-1), 1) := by decide +kernel
theorem dX8_run_60 : decode cX8_run 60 = .ok (.if_icmp .ne 14, 3) := by decide +kernel
theorem dX8_run_63 : decode cX8_run 63 = .ok (.aload_n 0, 1) := by decide +kernel
theorem dX8_run_64 : decode cX8_run 64 = .ok (.aload_n 0, 1) := by decide +kernel
theorem dX8_run_65 : decode cX8_run 65 = .ok (.getfield 235, 3) := by decide +kernel
theorem dX8_run_68 : decode cX8_run 68 = .ok (.invokevirtual 247, 3) := by decide +kernel
theorem dX8_run_71 : decode cX8_run 71 = .ok (.goto 19, 3) := by decide +kernel
theorem dX8_run_74 : decode cX8_run 74 = .ok (.aload_n 0, 1) := by decide +kernel
theorem dX8_run_75 : decode cX8_run 75 = .ok (.aload_n 0, 1) := by decide +kernel
theorem dX8_run_76 : decode cX8_run 76 = .ok (.getfield 225, 3) := by decide +kernel
theorem dX8_run_79 : decode cX8_run 79 = .ok (.aload_n 0, 1) := by decide +kernel
theorem dX8_run_80 : decode cX8_run 80 = .ok (.getfield 235, 3) := by decide +kernel
theorem dX8_run_83 : decode cX8_run 83 = .ok (.aload_n 0, 1) := by decide +kernel
theorem dX8_run_84 : decode cX8_run 84 = .ok (.getfield 238, 3) := by decide +kernel
theorem dX8_run_87 : decode cX8_run 87 = .ok (.invokevirtual 251, 3) := by decide +kernel
theorem dX8_run_90 : decode cX8_run 90 = .ok (.istore_n 3, 1) := by decide +kernel
theorem dX8_run_91 : decode cX8_run 91 = .ok (.aload_n 0, 1) := by decide +kernel
theorem dX8_run_92 : decode cX8_run 92 = .ok (.getfield 78, 3) := by decide +kernel
theorem dX8_run_95 : decode cX8_run 95 = .ok (.ifCond .ne 7, 3) := by decide +kernel
theorem dX8_run_98 : decode cX8_run 98 = .ok (.iconst 1, 1) := by decide +kernel
theorem dX8_run_99 : decode cX8_run 99 = .ok (.goto 4, 3) := by decide +kernel
theorem dX8_run_102 : decode cX8_run 102 = .ok (.iconst 0, 1) := by decide +kernel
theorem dX8_run_103 : decode cX8_run 103 = .ok (.istore_n 2, 1) := by decide +kernel
theorem dX8_run_104 : decode cX8_run 104 = .ok (.iload_n 1, 1) := by decide +kernel
theorem dX8_run_105 : decode cX8_run 105 = .ok (.iload_n 2, 1) := by decide +kernel
theorem dX8_run_106 : decode cX8_run 106 = .ok (.ifCond .eq 7, 3) := by decide +kernel
theorem dX8_run_109 : decode cX8_run 109 = .ok (.iconst 1, 1) := by decide +kernel
theorem dX8_run_110 : decode cX8_run 110 = .ok (.goto 4, 3) := by decide +kernel
theorem dX8_run_113 : decode cX8_run 113 = .ok (.iconst 0, 1) := by decide +kernel
theorem dX8_run_114 : decode cX8_run 114 = .ok (.iadd, 1) := by decide +kernel
theorem dX8_run_115 : decode cX8_run 115 = .ok (.istore_n 1, 1) := by decide +kernel
theorem dX8_run_116 : decode cX8_run 116 = .ok (.goto (-80), 3) := by decide +kernel
theorem dX8_run_119 : decode cX8_run 119 = .ok (.aload_n 0, 1) := by decide +kernel
theorem dX8_run_120 : decode cX8_run 120 = .ok (.iconst 0, 1) := by decide +kernel
theorem dX8_run_121 : decode cX8_run 121 = .ok (.putfield 78, 3) := by decide +kernel
theorem dX8_run_124 : decode cX8_run 124 = .ok (.iload_n 1, 1) := by decide +kernel
theorem dX8_run_125 : decode cX8_run 125 = .ok (.ireturn, 1) := by decide +kernel
theorem dX8_errorOfMatch_0 : decode cX8_errorOfMatch 0 = .ok (.iload_n 1, 1) := by decide +kernel
theorem dX8_errorOfMatch_1 : decode cX8_errorOfMatch 1 = .ok (.ifCond .ne 7, 3) := by decide +kernel
theorem dX8_errorOfMatch_4 : decode cX8_errorOfMatch 4 = .ok (.iconst 1, 1) := by decide +kernel
theorem dX8_errorOfMatch_5 : decode cX8_errorOfMatch 5 = .ok (.goto 15, 3) := by decide +kernel
theorem dX8_errorOfMatch_8 : decode cX8_errorOfMatch 8 = .ok (.aload_n 0, 1) := by decide +kernel
theorem dX8_errorOfMatch_9 : decode cX8_errorOfMatch 9 = .ok (.getfield 166, 3) := by decide +kernel
theorem dX8_errorOfMatch_12 : decode cX8_errorOfMatch 12 = .ok (.ifCond .eq 7, 3) := by decide +kernel
theorem dX8_errorOfMatch_15 : decode cX8_errorOfMatch 15 = .ok (.iconst 0, 1) := by decide +kernel
theorem dX8_errorOfMatch_16 : decode cX8_errorOfMatch 16 = .ok (.goto 4, 3) := by decide +kernel
theorem dX8_errorOfMatch_19 : decode cX8_errorOfMatch 19 = .ok (.iconst 2, 1) := by decide +kernel
theorem dX8_errorOfMatch_20 : decode cX8_errorOfMatch 20 = .ok (.ireturn, 1) := by decide +kernel
theorem dX8_player_0 : decode cX8_player 0 = .ok (.aload_n 0, 1) := by decide +kernel
theorem dX8_player_1 : decode cX8_player 1 = .ok (.aload_n 0, 1) := by decide +kernel
theorem dX8_player_2 : decode cX8_player 2 = .ok (.iload_n 1, 1) := by decide +kernel
theorem dX8_player_3 : decode cX8_player 3 = .ok (.invokestatic 192, 3) := by decide +kernel
theorem dX8_player_6 : decode cX8_player 6 = .ok (.ifCond .eq 14, 3) := by decide +kernel
theorem dX8_player_9 : decode cX8_player 9 = .ok (.iload_n 2, 1) := by decide +kernel
theorem dX8_player_10 : decode cX8_player 10 = .ok (.invokestatic 175, 3) := by decide +kernel
theorem dX8_player_13 : decode cX8_player 13 = .ok (.ifCond .eq 7, 3) := by decide +kernel
theorem dX8_player_16 : decode cX8_player 16 = .ok (.iconst 1, 1) := by decide +kernel
theorem dX8_player_17 : decode cX8_player 17 = .ok (.goto 4, 3) := by decide +kernel
theorem dX8_player_20 : decode cX8_player 20 = .ok (.iconst 0, 1) := by decide +kernel
theorem dX8_player_21 : decode cX8_player 21 = .ok (.invokevirtual 254, 3) := by decide +kernel
theorem dX8_player_24 : decode cX8_player 24 = .ok (.invokevirtual 169, 3) := by decide +kernel
theorem dX8_player_27 : decode cX8_player 27 = .ok (.ifCond .eq 17, 3) := by decide +kernel
theorem dX8_player_30 : decode cX8_player 30 = .ok (.aload_n 0, 1) := by decide +kernel
theorem dX8_player_31 : decode cX8_player 31 = .ok (.getfield 41, 3) := by decide +kernel
theorem dX8_player_34 : decode cX8_player 34 = .ok (.bipush 10, 2) := by decide +kernel
theorem dX8_player_36 : decode cX8_player 36 = .ok (.iload_n 1, 1) := by decide +kernel
theorem dX8_player_37 : decode cX8_player 37 = .ok (.imul, 1) := by decide +kernel
theorem dX8_player_38 : decode cX8_player 38 = .ok (.iload_n 2, 1) := by decide +kernel
theorem dX8_player_39 : decode cX8_player 39 = .ok (.iadd, 1) := by decide +kernel
theorem dX8_player_40 : decode cX8_player 40 = .ok (.iaload, 1) := by decide +kernel
theorem dX8_player_41 : decode cX8_player 41 = .ok (.goto 4, 3) := by decide +kernel
theorem dX8_player_44 : decode cX8_player 44 = .ok (.iconst 0, 1) := by decide +kernel
theorem dX8_player_45 : decode cX8_player 45 = .ok (.ireturn, 1) := by decide +kernel
theorem dX8_outAt_0 : decode cX8_outAt 0 = .ok (.iload_n 2, 1) := by decide +kernel
theorem dX8_outAt_1 : decode cX8_outAt 1 = .ok (.aload_n 0, 1) := by decide +kernel
theorem dX8_outAt_2 : decode cX8_outAt 2 = .ok (.getfield 41, 3) := by decide +kernel
theorem dX8_outAt_5 : decode cX8_outAt 5 = .ok (.bipush 100, 2) := by decide +kernel
theorem dX8_outAt_7 : decode cX8_outAt 7 = .ok (.iload_n 1, 1) := by decide +kernel
theorem dX8_outAt_8 : decode cX8_outAt 8 = .ok (.iadd, 1) := by decide +kernel
theorem dX8_outAt_9 : decode cX8_outAt 9 = .ok (.iaload, 1) := by decide +kernel
theorem dX8_outAt_10 : decode cX8_outAt 10 = .ok (.if_icmp .ge 20, 3) := by decide +kernel
theorem dX8_outAt_13 : decode cX8_outAt 13 = .ok (.aload_n 0, 1) := by decide +kernel
theorem dX8_outAt_14 : decode cX8_outAt 14 = .ok (.getfield 41, 3) := by decide +kernel
theorem dX8_outAt_17 : decode cX8_outAt 17 = .ok (.bipush 80, 2) := by decide +kernel
theorem dX8_outAt_19 : decode cX8_outAt 19 = .ok (.bipush 10, 2) := by decide +kernel
theorem dX8_outAt_21 : decode cX8_outAt 21 = .ok (.iload_n 1, 1) := by decide +kernel
theorem dX8_outAt_22 : decode cX8_outAt 22 = .ok (.imul, 1) := by decide +kernel
theorem dX8_outAt_23 : decode cX8_outAt 23 = .ok (.iadd, 1) := by decide +kernel
theorem dX8_outAt_24 : decode cX8_outAt 24 = .ok (.iload_n 2, 1) := by decide +kernel
theorem dX8_outAt_25 : decode cX8_outAt 25 = .ok (.iadd, 1) := by decide +kernel
theorem dX8_outAt_26 : decode cX8_outAt 26 = .ok (.iaload, 1) := by decide +kernel
theorem dX8_outAt_27 : decode cX8_outAt 27 = .ok (.goto 4, 3) := by decide +kernel
theorem dX8_outAt_30 : decode cX8_outAt 30 = .ok (.iconst (-1), 1) := by decide +kernel
theorem dX8_outAt_31 : decode cX8_outAt 31 = .ok (.ireturn, 1) := by decide +kernel
theorem dX8_out_0 : decode cX8_out 0 = .ok (.aload_n 0, 1) := by decide +kernel
theorem dX8_out_1 : decode cX8_out 1 = .ok (.aload_n 0, 1) := by decide +kernel
theorem dX8_out_2 : decode cX8_out 2 = .ok (.iload_n 1, 1) := by decide +kernel
theorem dX8_out_3 : decode cX8_out 3 = .ok (.invokestatic 192, 3) := by decide +kernel
theorem dX8_out_6 : decode cX8_out 6 = .ok (.ifCond .eq 11, 3) := by decide +kernel
theorem dX8_out_9 : decode cX8_out 9 = .ok (.iload_n 2, 1) := by decide +kernel
theorem dX8_out_10 : decode cX8_out 10 = .ok (.ifCond .lt 7, 3) := by decide +kernel
theorem dX8_out_13 : decode cX8_out 13 = .ok (.iconst 1, 1) := by decide +kernel
theorem dX8_out_14 : decode cX8_out 14 = .ok (.goto 4, 3) := by decide +kernel
theorem dX8_out_17 : decode cX8_out 17 = .ok (.iconst 0, 1) := by decide +kernel
theorem dX8_out_18 : decode cX8_out 18 = .ok (.invokevirtual 254, 3) := by decide +kernel
theorem dX8_out_21 : decode cX8_out 21 = .ok (.invokevirtual 169, 3) := by decide +kernel
theorem dX8_out_24 : decode cX8_out 24 = .ok (.ifCond .eq 12, 3) := by decide +kernel
theorem dX8_out_27 : decode cX8_out 27 = .ok (.aload_n 0, 1) := by decide +kernel
theorem dX8_out_28 : decode cX8_out 28 = .ok (.iload_n 1, 1) := by decide +kernel
theorem dX8_out_29 : decode cX8_out 29 = .ok (.iload_n 2, 1) := by decide +kernel
theorem dX8_out_30 : decode cX8_out 30 = .ok (.invokevirtual 258, 3) := by decide +kernel
theorem dX8_out_33 : decode cX8_out 33 = .ok (.goto 4, 3) := by decide +kernel
theorem dX8_out_36 : decode cX8_out 36 = .ok (.iconst 0, 1) := by decide +kernel
theorem dX8_out_37 : decode cX8_out 37 = .ok (.ireturn, 1) := by decide +kernel
theorem dX8_next_0 : decode cX8_next 0 = .ok (.aload_n 0, 1) := by decide +kernel
theorem dX8_next_1 : decode cX8_next 1 = .ok (.aload_n 0, 1) := by decide +kernel
theorem dX8_next_2 : decode cX8_next 2 = .ok (.iload_n 1, 1) := by decide +kernel
theorem dX8_next_3 : decode cX8_next 3 = .ok (.invokestatic 192, 3) := by decide +kernel
theorem dX8_next_6 : decode cX8_next 6 = .ok (.invokevirtual 254, 3) := by decide +kernel
theorem dX8_next_9 : decode cX8_next 9 = .ok (.invokevirtual 169, 3) := by decide +kernel
theorem dX8_next_12 : decode cX8_next 12 = .ok (.ifCond .eq 12, 3) := by decide +kernel
theorem dX8_next_15 : decode cX8_next 15 = .ok (.aload_n 0, 1) := by decide +kernel
theorem dX8_next_16 : decode cX8_next 16 = .ok (.iload_n 1, 1) := by decide +kernel
theorem dX8_next_17 : decode cX8_next 17 = .ok (.iconst 0, 1) := by decide +kernel
theorem dX8_next_18 : decode cX8_next 18 = .ok (.invokevirtual 258, 3) := by decide +kernel
theorem dX8_next_21 : decode cX8_next 21 = .ok (.goto 4, 3) := by decide +kernel
theorem dX8_next_24 : decode cX8_next 24 = .ok (.iconst 0, 1) := by decide +kernel
theorem dX8_next_25 : decode cX8_next 25 = .ok (.ireturn, 1) := by decide +kernel
theorem dX8_points_0 : decode cX8_points 0 = .ok (.aload_n 0, 1) := by decide +kernel
theorem dX8_points_1 : decode cX8_points 1 = .ok (.aload_n 0, 1) := by decide +kernel
theorem dX8_points_2 : decode cX8_points 2 = .ok (.iload_n 1, 1) := by decide +kernel
theorem dX8_points_3 : decode cX8_points 3 = .ok (.invokestatic 192, 3) := by decide +kernel
theorem dX8_points_6 : decode cX8_points 6 = .ok (.invokevirtual 254, 3) := by decide +kernel
theorem dX8_points_9 : decode cX8_points 9 = .ok (.invokevirtual 169, 3) := by decide +kernel
theorem dX8_points_12 : decode cX8_points 12 = .ok (.ifCond .eq 15, 3) := by decide +kernel
theorem dX8_points_15 : decode cX8_points 15 = .ok (.aload_n 0, 1) := by decide +kernel
theorem dX8_points_16 : decode cX8_points 16 = .ok (.getfield 41, 3) := by decide +kernel
theorem dX8_points_19 : decode cX8_points 19 = .ok (.bipush 104, 2) := by decide +kernel
theorem dX8_points_21 : decode cX8_points 21 = .ok (.iload_n 1, 1) := by decide +kernel
theorem dX8_points_22 : decode cX8_points 22 = .ok (.iadd, 1) := by decide +kernel
theorem dX8_points_23 : decode cX8_points 23 = .ok (.iaload, 1) := by decide +kernel
theorem dX8_points_24 : decode cX8_points 24 = .ok (.goto 4, 3) := by decide +kernel
theorem dX8_points_27 : decode cX8_points 27 = .ok (.iconst 0, 1) := by decide +kernel
theorem dX8_points_28 : decode cX8_points 28 = .ok (.ireturn, 1) := by decide +kernel
theorem dX8_match_0 : decode cX8_match 0 = .ok (.aload_n 0, 1) := by decide +kernel
theorem dX8_match_1 : decode cX8_match 1 = .ok (.aload_n 0, 1) := by decide +kernel
theorem dX8_match_2 : decode cX8_match 2 = .ok (.iload_n 1, 1) := by decide +kernel
theorem dX8_match_3 : decode cX8_match 3 = .ok (.iconst 0, 1) := by decide +kernel
theorem dX8_match_4 : decode cX8_match 4 = .ok (.bipush 7, 2) := by decide +kernel
theorem dX8_match_6 : decode cX8_match 6 = .ok (.invokestatic 81, 3) := by decide +kernel
theorem dX8_match_9 : decode cX8_match 9 = .ok (.invokevirtual 254, 3) := by decide +kernel
theorem dX8_match_12 : decode cX8_match 12 = .ok (.invokevirtual 169, 3) := by decide +kernel
theorem dX8_match_15 : decode cX8_match 15 = .ok (.ifCond .ne 5, 3) := by decide +kernel
theorem dX8_match_18 : decode cX8_match 18 = .ok (.iconst 0, 1) := by decide +kernel
theorem dX8_match_19 : decode cX8_match 19 = .ok (.ireturn, 1) := by decide +kernel
theorem dX8_match_20 : decode cX8_match 20 = .ok (.iload_n 1, 1) := by decide +kernel
theorem dX8_match_21 : decode cX8_match 21 = .ok (.tableswitch 119 0 5 #[39, 47, 52, 57, 70, 92], 39) := by decide +kernel
theorem dX8_match_60 : decode cX8_match 60 = .ok (.aload_n 0, 1) := by decide +kernel
theorem dX8_match_61 : decode cX8_match 61 = .ok (.getfield 41, 3) := by decide +kernel
theorem dX8_match_64 : decode cX8_match 64 = .ok (.bipush 108, 2) := by decide +kernel
theorem dX8_match_66 : decode cX8_match 66 = .ok (.iaload, 1) := by decide +kernel
theorem dX8_match_67 : decode cX8_match 67 = .ok (.ireturn, 1) := by decide +kernel
theorem dX8_match_68 : decode cX8_match 68 = .ok (.aload_n 0, 1) := by decide +kernel
theorem dX8_match_69 : decode cX8_match 69 = .ok (.invokevirtual 108, 3) := by decide +kernel
theorem dX8_match_72 : decode cX8_match 72 = .ok (.ireturn, 1) := by decide +kernel
theorem dX8_match_73 : decode cX8_match 73 = .ok (.aload_n 0, 1) := by decide +kernel
theorem dX8_match_74 : decode cX8_match 74 = .ok (.getfield 151, 3) := by decide +kernel
theorem dX8_match_77 : decode cX8_match 77 = .ok (.ireturn, 1) := by decide +kernel
theorem dX8_match_78 : decode cX8_match 78 = .ok (.aload_n 0, 1) := by decide +kernel
theorem dX8_match_79 : decode cX8_match 79 = .ok (.getfield 147, 3) := by decide +kernel
theorem dX8_match_82 : decode cX8_match 82 = .ok (.ifCond .eq 7, 3) := by decide +kernel
theorem dX8_match_85 : decode cX8_match 85 = .ok (.iconst 1, 1) := by decide +kernel
theorem dX8_match_86 : decode cX8_match 86 = .ok (.goto 4, 3) := by decide +kernel
theorem dX8_match_89 : decode cX8_match 89 = .ok (.iconst 0, 1) := by decide +kernel
theorem dX8_match_90 : decode cX8_match 90 = .ok (.ireturn, 1) := by decide +kernel
theorem dX8_match_91 : decode cX8_match 91 = .ok (.aload_n 0, 1) := by decide +kernel
theorem dX8_match_92 : decode cX8_match 92 = .ok (.getfield 41, 3) := by decide +kernel
theorem dX8_match_95 : decode cX8_match 95 = .ok (.bipush 106, 2) := by decide +kernel
theorem dX8_match_97 : decode cX8_match 97 = .ok (.aload_n 0, 1) := by decide +kernel
theorem dX8_match_98 : decode cX8_match 98 = .ok (.invokevirtual 108, 3) := by decide +kernel
theorem dX8_match_101 : decode cX8_match 101 = .ok (.iadd, 1) := by decide +kernel
theorem dX8_match_102 : decode cX8_match 102 = .ok (.iaload, 1) := by decide +kernel
theorem dX8_match_103 : decode cX8_match 103 = .ok (.iconst 2, 1) := by decide +kernel
theorem dX8_match_104 : decode cX8_match 104 = .ok (.if_icmp .ne 7, 3) := by decide +kernel
theorem dX8_match_107 : decode cX8_match 107 = .ok (.iconst 1, 1) := by decide +kernel
theorem dX8_match_108 : decode cX8_match 108 = .ok (.goto 4, 3) := by decide +kernel
theorem dX8_match_111 : decode cX8_match 111 = .ok (.iconst 0, 1) := by decide +kernel
theorem dX8_match_112 : decode cX8_match 112 = .ok (.ireturn, 1) := by decide +kernel
theorem dX8_match_113 : decode cX8_match 113 = .ok (.aload_n 0, 1) := by decide +kernel
theorem dX8_match_114 : decode cX8_match 114 = .ok (.getfield 147, 3) := by decide +kernel
theorem dX8_match_117 : decode cX8_match 117 = .ok (.ifCond .ne 21, 3) := by decide +kernel
theorem dX8_match_120 : decode cX8_match 120 = .ok (.aload_n 0, 1) := by decide +kernel
theorem dX8_match_121 : decode cX8_match 121 = .ok (.getfield 41, 3) := by decide +kernel
theorem dX8_match_124 : decode cX8_match 124 = .ok (.bipush 108, 2) := by decide +kernel
theorem dX8_match_126 : decode cX8_match 126 = .ok (.iaload, 1) := by decide +kernel
theorem dX8_match_127 : decode cX8_match 127 = .ok (.aload_n 0, 1) := by decide +kernel
theorem dX8_match_128 : decode cX8_match 128 = .ok (.getfield 118, 3) := by decide +kernel
theorem dX8_match_131 : decode cX8_match 131 = .ok (.if_icmp .lt 7, 3) := by decide +kernel
theorem dX8_match_134 : decode cX8_match 134 = .ok (.iconst 1, 1) := by decide +kernel
theorem dX8_match_135 : decode cX8_match 135 = .ok (.goto 4, 3) := by decide +kernel
theorem dX8_match_138 : decode cX8_match 138 = .ok (.iconst 0, 1) := by decide +kernel
theorem dX8_match_139 : decode cX8_match 139 = .ok (.ireturn, 1) := by decide +kernel
theorem dX8_match_140 : decode cX8_match 140 = .ok (.aload_n 0, 1) := by decide +kernel
theorem dX8_match_141 : decode cX8_match 141 = .ok (.getfield 7, 3) := by decide +kernel
theorem dX8_match_144 : decode cX8_match 144 = .ok (.iload_n 1, 1) := by decide +kernel
theorem dX8_match_145 : decode cX8_match 145 = .ok (.bipush 6, 2) := by decide +kernel
theorem dX8_match_147 : decode cX8_match 147 = .ok (.isub, 1) := by decide +kernel
theorem dX8_match_148 : decode cX8_match 148 = .ok (.iaload, 1) := by decide +kernel
theorem dX8_match_149 : decode cX8_match 149 = .ok (.ireturn, 1) := by decide +kernel
theorem dX8_hasReview_0 : decode cX8_hasReview 0 = .ok (.aload_n 0, 1) := by decide +kernel
theorem dX8_hasReview_1 : decode cX8_hasReview 1 = .ok (.aload_n 0, 1) := by decide +kernel
theorem dX8_hasReview_2 : decode cX8_hasReview 2 = .ok (.iload_n 1, 1) := by decide +kernel
theorem dX8_hasReview_3 : decode cX8_hasReview 3 = .ok (.invokestatic 192, 3) := by decide +kernel
theorem dX8_hasReview_6 : decode cX8_hasReview 6 = .ok (.invokevirtual 254, 3) := by decide +kernel
theorem dX8_hasReview_9 : decode cX8_hasReview 9 = .ok (.invokevirtual 169, 3) := by decide +kernel
theorem dX8_hasReview_12 : decode cX8_hasReview 12 = .ok (.ifCond .eq 16, 3) := by decide +kernel
theorem dX8_hasReview_15 : decode cX8_hasReview 15 = .ok (.aload_n 0, 1) := by decide +kernel
theorem dX8_hasReview_16 : decode cX8_hasReview 16 = .ok (.getfield 13, 3) := by decide +kernel
theorem dX8_hasReview_19 : decode cX8_hasReview 19 = .ok (.iload_n 1, 1) := by decide +kernel
theorem dX8_hasReview_20 : decode cX8_hasReview 20 = .ok (.baload, 1) := by decide +kernel
theorem dX8_hasReview_21 : decode cX8_hasReview 21 = .ok (.ifCond .ne 7, 3) := by decide +kernel
theorem dX8_hasReview_24 : decode cX8_hasReview 24 = .ok (.iconst 1, 1) := by decide +kernel
theorem dX8_hasReview_25 : decode cX8_hasReview 25 = .ok (.goto 4, 3) := by decide +kernel
theorem dX8_hasReview_28 : decode cX8_hasReview 28 = .ok (.iconst 0, 1) := by decide +kernel
theorem dX8_hasReview_29 : decode cX8_hasReview 29 = .ok (.ireturn, 1) := by decide +kernel
theorem dX8_hasEnded_0 : decode cX8_hasEnded 0 = .ok (.aload_n 0, 1) := by decide +kernel
theorem dX8_hasEnded_1 : decode cX8_hasEnded 1 = .ok (.getfield 166, 3) := by decide +kernel
theorem dX8_hasEnded_4 : decode cX8_hasEnded 4 = .ok (.ifCond .eq 28, 3) := by decide +kernel
theorem dX8_hasEnded_7 : decode cX8_hasEnded 7 = .ok (.iload_n 1, 1) := by decide +kernel
theorem dX8_hasEnded_8 : decode cX8_hasEnded 8 = .ok (.iconst 0, 1) := by decide +kernel
theorem dX8_hasEnded_9 : decode cX8_hasEnded 9 = .ok (.aload_n 0, 1) := by decide +kernel
theorem dX8_hasEnded_10 : decode cX8_hasEnded 10 = .ok (.invokevirtual 157, 3) := by decide +kernel
theorem dX8_hasEnded_13 : decode cX8_hasEnded 13 = .ok (.iconst 1, 1) := by decide +kernel
theorem dX8_hasEnded_14 : decode cX8_hasEnded 14 = .ok (.isub, 1) := by decide +kernel
theorem dX8_hasEnded_15 : decode cX8_hasEnded 15 = .ok (.invokestatic 81, 3) := by decide +kernel
theorem dX8_hasEnded_18 : decode cX8_hasEnded 18 = .ok (.ifCond .eq 14, 3) := by decide +kernel
theorem dX8_hasEnded_21 : decode cX8_hasEnded 21 = .ok (.iload_n 2, 1) := by decide +kernel
theorem dX8_hasEnded_22 : decode cX8_hasEnded 22 = .ok (.invokestatic 192, 3) := by decide +kernel
theorem dX8_hasEnded_25 : decode cX8_hasEnded 25 = .ok (.ifCond .eq 7, 3) := by decide +kernel
theorem dX8_hasEnded_28 : decode cX8_hasEnded 28 = .ok (.iconst 1, 1) := by decide +kernel
theorem dX8_hasEnded_29 : decode cX8_hasEnded 29 = .ok (.goto 4, 3) := by decide +kernel
theorem dX8_hasEnded_32 : decode cX8_hasEnded 32 = .ok (.iconst 0, 1) := by decide +kernel
theorem dX8_hasEnded_33 : decode cX8_hasEnded 33 = .ok (.ireturn, 1) := by decide +kernel
theorem dX8_matAfter_0 : decode cX8_matAfter 0 = .ok (.aload_n 0, 1) := by decide +kernel
theorem dX8_matAfter_1 : decode cX8_matAfter 1 = .ok (.aload_n 0, 1) := by decide +kernel
theorem dX8_matAfter_2 : decode cX8_matAfter 2 = .ok (.iload_n 1, 1) := by decide +kernel
theorem dX8_matAfter_3 : decode cX8_matAfter 3 = .ok (.iload_n 2, 1) := by decide +kernel
theorem dX8_matAfter_4 : decode cX8_matAfter 4 = .ok (.invokevirtual 261, 3) := by decide +kernel
theorem dX8_matAfter_7 : decode cX8_matAfter 7 = .ok (.ifCond .eq 7, 3) := by decide +kernel
theorem dX8_matAfter_10 : decode cX8_matAfter 10 = .ok (.iconst 0, 1) := by decide +kernel
theorem dX8_matAfter_11 : decode cX8_matAfter 11 = .ok (.goto 4, 3) := by decide +kernel
theorem dX8_matAfter_14 : decode cX8_matAfter 14 = .ok (.iconst 1, 1) := by decide +kernel
theorem dX8_matAfter_15 : decode cX8_matAfter 15 = .ok (.invokevirtual 169, 3) := by decide +kernel
theorem dX8_matAfter_18 : decode cX8_matAfter 18 = .ok (.ifCond .eq 16, 3) := by decide +kernel
theorem dX8_matAfter_21 : decode cX8_matAfter 21 = .ok (.aload_n 0, 1) := by decide +kernel
theorem dX8_matAfter_22 : decode cX8_matAfter 22 = .ok (.getfield 44, 3) := by decide +kernel
theorem dX8_matAfter_25 : decode cX8_matAfter 25 = .ok (.iconst 2, 1) := by decide +kernel
theorem dX8_matAfter_26 : decode cX8_matAfter 26 = .ok (.iload_n 1, 1) := by decide +kernel
theorem dX8_matAfter_27 : decode cX8_matAfter 27 = .ok (.imul, 1) := by decide +kernel
theorem dX8_matAfter_28 : decode cX8_matAfter 28 = .ok (.iload_n 2, 1) := by decide +kernel
theorem dX8_matAfter_29 : decode cX8_matAfter 29 = .ok (.iadd, 1) := by decide +kernel
theorem dX8_matAfter_30 : decode cX8_matAfter 30 = .ok (.iaload, 1) := by decide +kernel
theorem dX8_matAfter_31 : decode cX8_matAfter 31 = .ok (.goto 4, 3) := by decide +kernel
theorem dX8_matAfter_34 : decode cX8_matAfter 34 = .ok (.iconst 0, 1) := by decide +kernel
theorem dX8_matAfter_35 : decode cX8_matAfter 35 = .ok (.ireturn, 1) := by decide +kernel
theorem dX8_matAnew_0 : decode cX8_matAnew 0 = .ok (.aload_n 0, 1) := by decide +kernel
theorem dX8_matAnew_1 : decode cX8_matAnew 1 = .ok (.iload_n 1, 1) := by decide +kernel
theorem dX8_matAnew_2 : decode cX8_matAnew 2 = .ok (.iload_n 2, 1) := by decide +kernel
theorem dX8_matAnew_3 : decode cX8_matAnew 3 = .ok (.invokevirtual 264, 3) := by decide +kernel
theorem dX8_matAnew_6 : decode cX8_matAnew 6 = .ok (.ireturn, 1) := by decide +kernel
theorem dX8_pointsAfter_0 : decode cX8_pointsAfter 0 = .ok (.aload_n 0, 1) := by decide +kernel
theorem dX8_pointsAfter_1 : decode cX8_pointsAfter 1 = .ok (.aload_n 0, 1) := by decide +kernel
theorem dX8_pointsAfter_2 : decode cX8_pointsAfter 2 = .ok (.iload_n 1, 1) := by decide +kernel
theorem dX8_pointsAfter_3 : decode cX8_pointsAfter 3 = .ok (.iload_n 2, 1) := by decide +kernel
theorem dX8_pointsAfter_4 : decode cX8_pointsAfter 4 = .ok (.invokevirtual 261, 3) := by decide +kernel
theorem dX8_pointsAfter_7 : decode cX8_pointsAfter 7 = .ok (.ifCond .eq 7, 3) := by decide +kernel
theorem dX8_pointsAfter_10 : decode cX8_pointsAfter 10 = .ok (.iconst 0, 1) := by decide +kernel
theorem dX8_pointsAfter_11 : decode cX8_pointsAfter 11 = .ok (.goto 4, 3) := by decide +kernel
theorem dX8_pointsAfter_14 : decode cX8_pointsAfter 14 = .ok (.iconst 1, 1) := by decide +kernel
theorem dX8_pointsAfter_15 : decode cX8_pointsAfter 15 = .ok (.invokevirtual 169, 3) := by decide +kernel
theorem dX8_pointsAfter_18 : decode cX8_pointsAfter 18 = .ok (.ifCond .eq 16, 3) := by decide +kernel
theorem dX8_pointsAfter_21 : decode cX8_pointsAfter 21 = .ok (.aload_n 0, 1) := by decide +kernel
theorem dX8_pointsAfter_22 : decode cX8_pointsAfter 22 = .ok (.getfield 47, 3) := by decide +kernel
theorem dX8_pointsAfter_25 : decode cX8_pointsAfter 25 = .ok (.iconst 2, 1) := by decide +kernel
theorem dX8_pointsAfter_26 : decode cX8_pointsAfter 26 = .ok (.iload_n 1, 1) := by decide +kernel
theorem dX8_pointsAfter_27 : decode cX8_pointsAfter 27 = .ok (.imul, 1) := by decide +kernel
theorem dX8_pointsAfter_28 : decode cX8_pointsAfter 28 = .ok (.iload_n 2, 1) := by decide +kernel
theorem dX8_pointsAfter_29 : decode cX8_pointsAfter 29 = .ok (.iadd, 1) := by decide +kernel
theorem dX8_pointsAfter_30 : decode cX8_pointsAfter 30 = .ok (.iaload, 1) := by decide +kernel
theorem dX8_pointsAfter_31 : decode cX8_pointsAfter 31 = .ok (.goto 4, 3) := by decide +kernel
theorem dX8_pointsAfter_34 : decode cX8_pointsAfter 34 = .ok (.iconst 0, 1) := by decide +kernel
theorem dX8_pointsAfter_35 : decode cX8_pointsAfter 35 = .ok (.ireturn, 1) := by decide +kernel
theorem dX8_raidPoints_0 : decode cX8_raidPoints 0 = .ok (.aload_n 0, 1) := by decide +kernel
theorem dX8_raidPoints_1 : decode cX8_raidPoints 1 = .ok (.aload_n 0, 1) := by decide +kernel
theorem dX8_raidPoints_2 : decode cX8_raidPoints 2 = .ok (.iload_n 1, 1) := by decide +kernel
theorem dX8_raidPoints_3 : decode cX8_raidPoints 3 = .ok (.invokestatic 192, 3) := by decide +kernel
theorem dX8_raidPoints_6 : decode cX8_raidPoints 6 = .ok (.ifCond .eq 14, 3) := by decide +kernel
theorem dX8_raidPoints_9 : decode cX8_raidPoints 9 = .ok (.iload_n 2, 1) := by decide +kernel
theorem dX8_raidPoints_10 : decode cX8_raidPoints 10 = .ok (.invokestatic 175, 3) := by decide +kernel
theorem dX8_raidPoints_13 : decode cX8_raidPoints 13 = .ok (.ifCond .eq 7, 3) := by decide +kernel
theorem dX8_raidPoints_16 : decode cX8_raidPoints 16 = .ok (.iconst 1, 1) := by decide +kernel
theorem dX8_raidPoints_17 : decode cX8_raidPoints 17 = .ok (.goto 4, 3) := by decide +kernel
theorem dX8_raidPoints_20 : decode cX8_raidPoints 20 = .ok (.iconst 0, 1) := by decide +kernel
theorem dX8_raidPoints_21 : decode cX8_raidPoints 21 = .ok (.invokevirtual 254, 3) := by decide +kernel
theorem dX8_raidPoints_24 : decode cX8_raidPoints 24 = .ok (.invokevirtual 169, 3) := by decide +kernel
theorem dX8_raidPoints_27 : decode cX8_raidPoints 27 = .ok (.ifCond .eq 20, 3) := by decide +kernel
theorem dX8_raidPoints_30 : decode cX8_raidPoints 30 = .ok (.aload_n 0, 1) := by decide +kernel
theorem dX8_raidPoints_31 : decode cX8_raidPoints 31 = .ok (.getfield 41, 3) := by decide +kernel
theorem dX8_raidPoints_34 : decode cX8_raidPoints 34 = .ok (.bipush 60, 2) := by decide +kernel
theorem dX8_raidPoints_36 : decode cX8_raidPoints 36 = .ok (.bipush 10, 2) := by decide +kernel
theorem dX8_raidPoints_38 : decode cX8_raidPoints 38 = .ok (.iload_n 1, 1) := by decide +kernel
theorem dX8_raidPoints_39 : decode cX8_raidPoints 39 = .ok (.imul, 1) := by decide +kernel
theorem dX8_raidPoints_40 : decode cX8_raidPoints 40 = .ok (.iadd, 1) := by decide +kernel
theorem dX8_raidPoints_41 : decode cX8_raidPoints 41 = .ok (.iload_n 2, 1) := by decide +kernel
theorem dX8_raidPoints_42 : decode cX8_raidPoints 42 = .ok (.iadd, 1) := by decide +kernel
theorem dX8_raidPoints_43 : decode cX8_raidPoints 43 = .ok (.iaload, 1) := by decide +kernel
theorem dX8_raidPoints_44 : decode cX8_raidPoints 44 = .ok (.goto 4, 3) := by decide +kernel
theorem dX8_raidPoints_47 : decode cX8_raidPoints 47 = .ok (.iconst 0, 1) := by decide +kernel
theorem dX8_raidPoints_48 : decode cX8_raidPoints 48 = .ok (.ireturn, 1) := by decide +kernel
theorem dX8_isAhead_0 : decode cX8_isAhead 0 = .ok (.aload_n 0, 1) := by decide +kernel
theorem dX8_isAhead_1 : decode cX8_isAhead 1 = .ok (.getfield 53, 3) := by decide +kernel
theorem dX8_isAhead_4 : decode cX8_isAhead 4 = .ok (.bipush 6, 2) := by decide +kernel
theorem dX8_isAhead_6 : decode cX8_isAhead 6 = .ok (.iload_n 1, 1) := by decide +kernel
theorem dX8_isAhead_7 : decode cX8_isAhead 7 = .ok (.imul, 1) := by decide +kernel
theorem dX8_isAhead_8 : decode cX8_isAhead 8 = .ok (.iconst 3, 1) := by decide +kernel
theorem dX8_isAhead_9 : decode cX8_isAhead 9 = .ok (.iadd, 1) := by decide +kernel
theorem dX8_isAhead_10 : decode cX8_isAhead 10 = .ok (.iaload, 1) := by decide +kernel
theorem dX8_isAhead_11 : decode cX8_isAhead 11 = .ok (.aload_n 0, 1) := by decide +kernel
theorem dX8_isAhead_12 : decode cX8_isAhead 12 = .ok (.getfield 53, 3) := by decide +kernel
theorem dX8_isAhead_15 : decode cX8_isAhead 15 = .ok (.bipush 6, 2) := by decide +kernel
theorem dX8_isAhead_17 : decode cX8_isAhead 17 = .ok (.iload_n 2, 1) := by decide +kernel
theorem dX8_isAhead_18 : decode cX8_isAhead 18 = .ok (.imul, 1) := by decide +kernel
theorem dX8_isAhead_19 : decode cX8_isAhead 19 = .ok (.iconst 3, 1) := by decide +kernel
theorem dX8_isAhead_20 : decode cX8_isAhead 20 = .ok (.iadd, 1) := by decide +kernel
theorem dX8_isAhead_21 : decode cX8_isAhead 21 = .ok (.iaload, 1) := by decide +kernel
theorem dX8_isAhead_22 : decode cX8_isAhead 22 = .ok (.isub, 1) := by decide +kernel
theorem dX8_isAhead_23 : decode cX8_isAhead 23 = .ok (.istore_n 3, 1) := by decide +kernel
theorem dX8_isAhead_24 : decode cX8_isAhead 24 = .ok (.iload_n 3, 1) := by decide +kernel
theorem dX8_isAhead_25 : decode cX8_isAhead 25 = .ok (.ifCond .ne 197, 3) := by decide +kernel
theorem dX8_isAhead_28 : decode cX8_isAhead 28 = .ok (.aload_n 0, 1) := by decide +kernel
theorem dX8_isAhead_29 : decode cX8_isAhead 29 = .ok (.getfield 53, 3) := by decide +kernel
theorem dX8_isAhead_32 : decode cX8_isAhead 32 = .ok (.bipush 6, 2) := by decide +kernel
theorem dX8_isAhead_34 : decode cX8_isAhead 34 = .ok (.iload_n 1, 1) := by decide +kernel
theorem dX8_isAhead_35 : decode cX8_isAhead 35 = .ok (.imul, 1) := by decide +kernel
theorem dX8_isAhead_36 : decode cX8_isAhead 36 = .ok (.iconst 4, 1) := by decide +kernel
theorem dX8_isAhead_37 : decode cX8_isAhead 37 = .ok (.iadd, 1) := by decide +kernel
theorem dX8_isAhead_38 : decode cX8_isAhead 38 = .ok (.iaload, 1) := by decide +kernel
theorem dX8_isAhead_39 : decode cX8_isAhead 39 = .ok (.istore 4, 2) := by decide +kernel
theorem dX8_isAhead_41 : decode cX8_isAhead 41 = .ok (.aload_n 0, 1) := by decide +kernel
theorem dX8_isAhead_42 : decode cX8_isAhead 42 = .ok (.getfield 53, 3) := by decide +kernel
theorem dX8_isAhead_45 : decode cX8_isAhead 45 = .ok (.bipush 6, 2) := by decide +kernel
theorem dX8_isAhead_47 : decode cX8_isAhead 47 = .ok (.iload_n 1, 1) := by decide +kernel
theorem dX8_isAhead_48 : decode cX8_isAhead 48 = .ok (.imul, 1) := by decide +kernel
theorem dX8_isAhead_49 : decode cX8_isAhead 49 = .ok (.iconst 5, 1) := by decide +kernel
theorem dX8_isAhead_50 : decode cX8_isAhead 50 = .ok (.iadd, 1) := by decide +kernel
theorem dX8_isAhead_51 : decode cX8_isAhead 51 = .ok (.iaload, 1) := by decide +kernel
theorem dX8_isAhead_52 : decode cX8_isAhead 52 = .ok (.istore 5, 2) := by decide +kernel
theorem dX8_isAhead_54 : decode cX8_isAhead 54 = .ok (.aload_n 0, 1) := by decide +kernel
theorem dX8_isAhead_55 : decode cX8_isAhead 55 = .ok (.getfield 53, 3) := by decide +kernel
theorem dX8_isAhead_58 : decode cX8_isAhead 58 = .ok (.bipush 6, 2) := by decide +kernel
theorem dX8_isAhead_60 : decode cX8_isAhead 60 = .ok (.iload_n 2, 1) := by decide +kernel
theorem dX8_isAhead_61 : decode cX8_isAhead 61 = .ok (.imul, 1) := by decide +kernel
theorem dX8_isAhead_62 : decode cX8_isAhead 62 = .ok (.iconst 4, 1) := by decide +kernel
theorem dX8_isAhead_63 : decode cX8_isAhead 63 = .ok (.iadd, 1) := by decide +kernel
theorem dX8_isAhead_64 : decode cX8_isAhead 64 = .ok (.iaload, 1) := by decide +kernel
theorem dX8_isAhead_65 : decode cX8_isAhead 65 = .ok (.istore 6, 2) := by decide +kernel
theorem dX8_isAhead_67 : decode cX8_isAhead 67 = .ok (.aload_n 0, 1) := by decide +kernel
theorem dX8_isAhead_68 : decode cX8_isAhead 68 = .ok (.getfield 53, 3) := by decide +kernel
theorem dX8_isAhead_71 : decode cX8_isAhead 71 = .ok (.bipush 6, 2) := by decide +kernel
theorem dX8_isAhead_73 : decode cX8_isAhead 73 = .ok (.iload_n 2, 1) := by decide +kernel
theorem dX8_isAhead_74 : decode cX8_isAhead 74 = .ok (.imul, 1) := by decide +kernel
theorem dX8_isAhead_75 : decode cX8_isAhead 75 = .ok (.iconst 5, 1) := by decide +kernel
theorem dX8_isAhead_76 : decode cX8_isAhead 76 = .ok (.iadd, 1) := by decide +kernel
theorem dX8_isAhead_77 : decode cX8_isAhead 77 = .ok (.iaload, 1) := by decide +kernel
theorem dX8_isAhead_78 : decode cX8_isAhead 78 = .ok (.istore 7, 2) := by decide +kernel
theorem dX8_isAhead_80 : decode cX8_isAhead 80 = .ok (.iload 4, 2) := by decide +kernel
theorem dX8_isAhead_82 : decode cX8_isAhead 82 = .ok (.iload 5, 2) := by decide +kernel
theorem dX8_isAhead_84 : decode cX8_isAhead 84 = .ok (.iadd, 1) := by decide +kernel
theorem dX8_isAhead_85 : decode cX8_isAhead 85 = .ok (.ifCond .ne 7, 3) := by decide +kernel
theorem dX8_isAhead_88 : decode cX8_isAhead 88 = .ok (.iconst 1, 1) := by decide +kernel
theorem dX8_isAhead_89 : decode cX8_isAhead 89 = .ok (.goto 14, 3) := by decide +kernel
theorem dX8_isAhead_92 : decode cX8_isAhead 92 = .ok (.iload 5, 2) := by decide +kernel
theorem dX8_isAhead_94 : decode cX8_isAhead 94 = .ok (.ifCond .ne 7, 3) := by decide +kernel
theorem dX8_isAhead_97 : decode cX8_isAhead 97 = .ok (.iconst 1, 1) := by decide +kernel
theorem dX8_isAhead_98 : decode cX8_isAhead 98 = .ok (.goto 5, 3) := by decide +kernel
theorem dX8_isAhead_101 : decode cX8_isAhead 101 = .ok (.iload 4, 2) := by decide +kernel
theorem dX8_isAhead_103 : decode cX8_isAhead 103 = .ok (.istore 4, 2) := by decide +kernel
theorem dX8_isAhead_105 : decode cX8_isAhead 105 = .ok (.aload_n 0, 1) := by decide +kernel
theorem dX8_isAhead_106 : decode cX8_isAhead 106 = .ok (.getfield 53, 3) := by decide +kernel
theorem dX8_isAhead_109 : decode cX8_isAhead 109 = .ok (.bipush 6, 2) := by decide +kernel
theorem dX8_isAhead_111 : decode cX8_isAhead 111 = .ok (.iload_n 1, 1) := by decide +kernel
theorem dX8_isAhead_112 : decode cX8_isAhead 112 = .ok (.imul, 1) := by decide +kernel
theorem dX8_isAhead_113 : decode cX8_isAhead 113 = .ok (.iconst 4, 1) := by decide +kernel
theorem dX8_isAhead_114 : decode cX8_isAhead 114 = .ok (.iadd, 1) := by decide +kernel
theorem dX8_isAhead_115 : decode cX8_isAhead 115 = .ok (.iaload, 1) := by decide +kernel
theorem dX8_isAhead_116 : decode cX8_isAhead 116 = .ok (.iload 5, 2) := by decide +kernel
theorem dX8_isAhead_118 : decode cX8_isAhead 118 = .ok (.iadd, 1) := by decide +kernel
theorem dX8_isAhead_119 : decode cX8_isAhead 119 = .ok (.ifCond .ne 7, 3) := by decide +kernel
theorem dX8_isAhead_122 : decode cX8_isAhead 122 = .ok (.iconst 1, 1) := by decide +kernel
theorem dX8_isAhead_123 : decode cX8_isAhead 123 = .ok (.goto 5, 3) := by decide +kernel
theorem dX8_isAhead_126 : decode cX8_isAhead 126 = .ok (.iload 5, 2) := by decide +kernel
theorem dX8_isAhead_128 : decode cX8_isAhead 128 = .ok (.istore 5, 2) := by decide +kernel
theorem dX8_isAhead_130 : decode cX8_isAhead 130 = .ok (.iload 6, 2) := by decide +kernel
theorem dX8_isAhead_132 : decode cX8_isAhead 132 = .ok (.iload 7, 2) := by decide +kernel
theorem dX8_isAhead_134 : decode cX8_isAhead 134 = .ok (.iadd, 1) := by decide +kernel
theorem dX8_isAhead_135 : decode cX8_isAhead 135 = .ok (.ifCond .ne 7, 3) := by decide +kernel
theorem dX8_isAhead_138 : decode cX8_isAhead 138 = .ok (.iconst 1, 1) := by decide +kernel
theorem dX8_isAhead_139 : decode cX8_isAhead 139 = .ok (.goto 14, 3) := by decide +kernel
theorem dX8_isAhead_142 : decode cX8_isAhead 142 = .ok (.iload 7, 2) := by decide +kernel
theorem dX8_isAhead_144 : decode cX8_isAhead 144 = .ok (.ifCond .ne 7, 3) := by decide +kernel
theorem dX8_isAhead_147 : decode cX8_isAhead 147 = .ok (.iconst 1, 1) := by decide +kernel
theorem dX8_isAhead_148 : decode cX8_isAhead 148 = .ok (.goto 5, 3) := by decide +kernel
theorem dX8_isAhead_151 : decode cX8_isAhead 151 = .ok (.iload 6, 2) := by decide +kernel
theorem dX8_isAhead_153 : decode cX8_isAhead 153 = .ok (.istore 6, 2) := by decide +kernel
theorem dX8_isAhead_155 : decode cX8_isAhead 155 = .ok (.aload_n 0, 1) := by decide +kernel
theorem dX8_isAhead_156 : decode cX8_isAhead 156 = .ok (.getfield 53, 3) := by decide +kernel
theorem dX8_isAhead_159 : decode cX8_isAhead 159 = .ok (.bipush 6, 2) := by decide +kernel
theorem dX8_isAhead_161 : decode cX8_isAhead 161 = .ok (.iload_n 2, 1) := by decide +kernel
theorem dX8_isAhead_162 : decode cX8_isAhead 162 = .ok (.imul, 1) := by decide +kernel
theorem dX8_isAhead_163 : decode cX8_isAhead 163 = .ok (.iconst 4, 1) := by decide +kernel
theorem dX8_isAhead_164 : decode cX8_isAhead 164 = .ok (.iadd, 1) := by decide +kernel
theorem dX8_isAhead_165 : decode cX8_isAhead 165 = .ok (.iaload, 1) := by decide +kernel
theorem dX8_isAhead_166 : decode cX8_isAhead 166 = .ok (.iload 7, 2) := by decide +kernel
theorem dX8_isAhead_168 : decode cX8_isAhead 168 = .ok (.iadd, 1) := by decide +kernel
theorem dX8_isAhead_169 : decode cX8_isAhead 169 = .ok (.ifCond .ne 7, 3) := by decide +kernel
theorem dX8_isAhead_172 : decode cX8_isAhead 172 = .ok (.iconst 1, 1) := by decide +kernel
theorem dX8_isAhead_173 : decode cX8_isAhead 173 = .ok (.goto 5, 3) := by decide +kernel
theorem dX8_isAhead_176 : decode cX8_isAhead 176 = .ok (.iload 7, 2) := by decide +kernel
theorem dX8_isAhead_178 : decode cX8_isAhead 178 = .ok (.istore 7, 2) := by decide +kernel
theorem dX8_isAhead_180 : decode cX8_isAhead 180 = .ok (.iload 4, 2) := by decide +kernel
theorem dX8_isAhead_182 : decode cX8_isAhead 182 = .ok (.i2l, 1) := by decide +kernel
theorem dX8_isAhead_183 : decode cX8_isAhead 183 = .ok (.iload 7, 2) := by decide +kernel
theorem dX8_isAhead_185 : decode cX8_isAhead 185 = .ok (.i2l, 1) := by decide +kernel
theorem dX8_isAhead_186 : decode cX8_isAhead 186 = .ok (.lmul, 1) := by decide +kernel
theorem dX8_isAhead_187 : decode cX8_isAhead 187 = .ok (.iload 6, 2) := by decide +kernel
theorem dX8_isAhead_189 : decode cX8_isAhead 189 = .ok (.i2l, 1) := by decide +kernel
theorem dX8_isAhead_190 : decode cX8_isAhead 190 = .ok (.iload 5, 2) := by decide +kernel
theorem dX8_isAhead_192 : decode cX8_isAhead 192 = .ok (.i2l, 1) := by decide +kernel
theorem dX8_isAhead_193 : decode cX8_isAhead 193 = .ok (.lmul, 1) := by decide +kernel
theorem dX8_isAhead_194 : decode cX8_isAhead 194 = .ok (.lsub, 1) := by decide +kernel
theorem dX8_isAhead_195 : decode cX8_isAhead 195 = .ok (.lstore 8, 2) := by decide +kernel
theorem dX8_isAhead_197 : decode cX8_isAhead 197 = .ok (.lload 8, 2) := by decide +kernel
theorem dX8_isAhead_199 : decode cX8_isAhead 199 = .ok (.lconst 0, 1) := by decide +kernel
theorem dX8_isAhead_200 : decode cX8_isAhead 200 = .ok (.lcmp, 1) := by decide +kernel
theorem dX8_isAhead_201 : decode cX8_isAhead 201 = .ok (.ifCond .gt 15, 3) := by decide +kernel
theorem dX8_isAhead_204 : decode cX8_isAhead 204 = .ok (.lload 8, 2) := by decide +kernel
theorem dX8_isAhead_206 : decode cX8_isAhead 206 = .ok (.lconst 0, 1) := by decide +kernel
theorem dX8_isAhead_207 : decode cX8_isAhead 207 = .ok (.lcmp, 1) := by decide +kernel
theorem dX8_isAhead_208 : decode cX8_isAhead 208 = .ok (.ifCond .ne 12, 3) := by decide +kernel
theorem dX8_isAhead_211 : decode cX8_isAhead 211 = .ok (.iload_n 1, 1) := by decide +kernel
theorem dX8_isAhead_212 : decode cX8_isAhead 212 = .ok (.iload_n 2, 1) := by decide +kernel
theorem dX8_isAhead_213 : decode cX8_isAhead 213 = .ok (.if_icmp .ge 7, 3) := by decide +kernel
theorem dX8_isAhead_216 : decode cX8_isAhead 216 = .ok (.iconst 1, 1) := by decide +kernel
theorem dX8_isAhead_217 : decode cX8_isAhead 217 = .ok (.goto 4, 3) := by decide +kernel
theorem dX8_isAhead_220 : decode cX8_isAhead 220 = .ok (.iconst 0, 1) := by decide +kernel
theorem dX8_isAhead_221 : decode cX8_isAhead 221 = .ok (.ireturn, 1) := by decide +kernel
theorem dX8_isAhead_222 : decode cX8_isAhead 222 = .ok (.iload_n 3, 1) := by decide +kernel
theorem dX8_isAhead_223 : decode cX8_isAhead 223 = .ok (.ifCond .le 7, 3) := by decide +kernel
theorem dX8_isAhead_226 : decode cX8_isAhead 226 = .ok (.iconst 1, 1) := by decide +kernel
theorem dX8_isAhead_227 : decode cX8_isAhead 227 = .ok (.goto 4, 3) := by decide +kernel
theorem dX8_isAhead_230 : decode cX8_isAhead 230 = .ok (.iconst 0, 1) := by decide +kernel
theorem dX8_isAhead_231 : decode cX8_isAhead 231 = .ok (.ireturn, 1) := by decide +kernel
theorem dX8_rankOf_0 : decode cX8_rankOf 0 = .ok (.iconst 0, 1) := by decide +kernel
theorem dX8_rankOf_1 : decode cX8_rankOf 1 = .ok (.istore_n 2, 1) := by decide +kernel
theorem dX8_rankOf_2 : decode cX8_rankOf 2 = .ok (.iconst 0, 1) := by decide +kernel
theorem dX8_rankOf_3 : decode cX8_rankOf 3 = .ok (.istore_n 3, 1) := by decide +kernel
theorem dX8_rankOf_4 : decode cX8_rankOf 4 = .ok (.iload_n 3, 1) := by decide +kernel
theorem dX8_rankOf_5 : decode cX8_rankOf 5 = .ok (.bipush 8, 2) := by decide +kernel
theorem dX8_rankOf_7 : decode cX8_rankOf 7 = .ok (.if_icmp .ge 31, 3) := by decide +kernel
theorem dX8_rankOf_10 : decode cX8_rankOf 10 = .ok (.iload_n 2, 1) := by decide +kernel
theorem dX8_rankOf_11 : decode cX8_rankOf 11 = .ok (.iload_n 3, 1) := by decide +kernel
theorem dX8_rankOf_12 : decode cX8_rankOf 12 = .ok (.iload_n 1, 1) := by decide +kernel
theorem dX8_rankOf_13 : decode cX8_rankOf 13 = .ok (.if_icmp .eq 16, 3) := by decide +kernel
theorem dX8_rankOf_16 : decode cX8_rankOf 16 = .ok (.aload_n 0, 1) := by decide +kernel
theorem dX8_rankOf_17 : decode cX8_rankOf 17 = .ok (.iload_n 3, 1) := by decide +kernel
theorem dX8_rankOf_18 : decode cX8_rankOf 18 = .ok (.iload_n 1, 1) := by decide +kernel
theorem dX8_rankOf_19 : decode cX8_rankOf 19 = .ok (.invokevirtual 267, 3) := by decide +kernel
theorem dX8_rankOf_22 : decode cX8_rankOf 22 = .ok (.ifCond .eq 7, 3) := by decide +kernel
theorem dX8_rankOf_25 : decode cX8_rankOf 25 = .ok (.iconst 1, 1) := by decide +kernel
theorem dX8_rankOf_26 : decode cX8_rankOf 26 = .ok (.goto 4, 3) := by decide +kernel
theorem dX8_rankOf_29 : decode cX8_rankOf 29 = .ok (.iconst 0, 1) := by decide +kernel
theorem dX8_rankOf_30 : decode cX8_rankOf 30 = .ok (.iadd, 1) := by decide +kernel
theorem dX8_rankOf_31 : decode cX8_rankOf 31 = .ok (.istore_n 2, 1) := by decide +kernel
theorem dX8_rankOf_32 : decode cX8_rankOf 32 = .ok (.iinc 3 1, 3) := by decide +kernel
theorem dX8_rankOf_35 : decode cX8_rankOf 35 = .ok (.goto (-31), 3) := by decide +kernel
theorem dX8_rankOf_38 : decode cX8_rankOf 38 = .ok (.iload_n 2, 1) := by decide +kernel
theorem dX8_rankOf_39 : decode cX8_rankOf 39 = .ok (.ireturn, 1) := by decide +kernel
theorem dX8_club_0 : decode cX8_club 0 = .ok (.aload_n 0, 1) := by decide +kernel
theorem dX8_club_1 : decode cX8_club 1 = .ok (.iload_n 1, 1) := by decide +kernel
theorem dX8_club_2 : decode cX8_club 2 = .ok (.invokestatic 163, 3) := by decide +kernel
theorem dX8_club_5 : decode cX8_club 5 = .ok (.ifCond .ne 7, 3) := by decide +kernel
theorem dX8_club_8 : decode cX8_club 8 = .ok (.iconst 1, 1) := by decide +kernel
theorem dX8_club_9 : decode cX8_club 9 = .ok (.goto 18, 3) := by decide +kernel
theorem dX8_club_12 : decode cX8_club 12 = .ok (.iload_n 2, 1) := by decide +kernel
theorem dX8_club_13 : decode cX8_club 13 = .ok (.iconst 0, 1) := by decide +kernel
theorem dX8_club_14 : decode cX8_club 14 = .ok (.bipush 6, 2) := by decide +kernel
theorem dX8_club_16 : decode cX8_club 16 = .ok (.invokestatic 81, 3) := by decide +kernel
theorem dX8_club_19 : decode cX8_club 19 = .ok (.ifCond .eq 7, 3) := by decide +kernel
theorem dX8_club_22 : decode cX8_club 22 = .ok (.iconst 0, 1) := by decide +kernel
theorem dX8_club_23 : decode cX8_club 23 = .ok (.goto 4, 3) := by decide +kernel
theorem dX8_club_26 : decode cX8_club 26 = .ok (.iconst 2, 1) := by decide +kernel
theorem dX8_club_27 : decode cX8_club 27 = .ok (.invokevirtual 169, 3) := by decide +kernel
theorem dX8_club_30 : decode cX8_club 30 = .ok (.ifCond .ne 5, 3) := by decide +kernel
theorem dX8_club_33 : decode cX8_club 33 = .ok (.iconst 0, 1) := by decide +kernel
theorem dX8_club_34 : decode cX8_club 34 = .ok (.ireturn, 1) := by decide +kernel
theorem dX8_club_35 : decode cX8_club 35 = .ok (.iload_n 2, 1) := by decide +kernel
theorem dX8_club_36 : decode cX8_club 36 = .ok (.bipush 6, 2) := by decide +kernel
theorem dX8_club_38 : decode cX8_club 38 = .ok (.if_icmp .ge 17, 3) := by decide +kernel
theorem dX8_club_41 : decode cX8_club 41 = .ok (.aload_n 0, 1) := by decide +kernel
theorem dX8_club_42 : decode cX8_club 42 = .ok (.getfield 53, 3) := by decide +kernel
theorem dX8_club_45 : decode cX8_club 45 = .ok (.bipush 6, 2) := by decide +kernel
theorem dX8_club_47 : decode cX8_club 47 = .ok (.iload_n 1, 1) := by decide +kernel
theorem dX8_club_48 : decode cX8_club 48 = .ok (.imul, 1) := by decide +kernel
theorem dX8_club_49 : decode cX8_club 49 = .ok (.iload_n 2, 1) := by decide +kernel
theorem dX8_club_50 : decode cX8_club 50 = .ok (.iadd, 1) := by decide +kernel
theorem dX8_club_51 : decode cX8_club 51 = .ok (.iaload, 1) := by decide +kernel
theorem dX8_club_52 : decode cX8_club 52 = .ok (.goto 8, 3) := by decide +kernel
theorem dX8_club_55 : decode cX8_club 55 = .ok (.aload_n 0, 1) := by decide +kernel
theorem dX8_club_56 : decode cX8_club 56 = .ok (.iload_n 1, 1) := by decide +kernel
theorem dX8_club_57 : decode cX8_club 57 = .ok (.invokevirtual 270, 3) := by decide +kernel
theorem dX8_club_60 : decode cX8_club 60 = .ok (.ireturn, 1) := by decide +kernel
theorem dX8_baseOf_0 : decode cX8_baseOf 0 = .ok (.iload_n 0, 1) := by decide +kernel
theorem dX8_baseOf_1 : decode cX8_baseOf 1 = .ok (.iconst 3, 1) := by decide +kernel
theorem dX8_baseOf_2 : decode cX8_baseOf 2 = .ok (.irem, 1) := by decide +kernel
theorem dX8_baseOf_3 : decode cX8_baseOf 3 = .ok (.ifCond .ne 8, 3) := by decide +kernel
theorem dX8_baseOf_6 : decode cX8_baseOf 6 = .ok (.bipush 50, 2) := by decide +kernel
theorem dX8_baseOf_8 : decode cX8_baseOf 8 = .ok (.goto 17, 3) := by decide +kernel
theorem dX8_baseOf_11 : decode cX8_baseOf 11 = .ok (.iload_n 0, 1) := by decide +kernel
theorem dX8_baseOf_12 : decode cX8_baseOf 12 = .ok (.iconst 3, 1) := by decide +kernel
theorem dX8_baseOf_13 : decode cX8_baseOf 13 = .ok (.irem, 1) := by decide +kernel
theorem dX8_baseOf_14 : decode cX8_baseOf 14 = .ok (.iconst 1, 1) := by decide +kernel
theorem dX8_baseOf_15 : decode cX8_baseOf 15 = .ok (.if_icmp .ne 8, 3) := by decide +kernel
theorem dX8_baseOf_18 : decode cX8_baseOf 18 = .ok (.bipush 30, 2) := by decide +kernel
theorem dX8_baseOf_20 : decode cX8_baseOf 20 = .ok (.goto 5, 3) := by decide +kernel
theorem dX8_baseOf_23 : decode cX8_baseOf 23 = .ok (.bipush 10, 2) := by decide +kernel
theorem dX8_baseOf_25 : decode cX8_baseOf 25 = .ok (.ireturn, 1) := by decide +kernel
theorem dX8_isForeign_0 : decode cX8_isForeign 0 = .ok (.iload_n 0, 1) := by decide +kernel
theorem dX8_isForeign_1 : decode cX8_isForeign 1 = .ok (.iconst 4, 1) := by decide +kernel
theorem dX8_isForeign_2 : decode cX8_isForeign 2 = .ok (.irem, 1) := by decide +kernel
theorem dX8_isForeign_3 : decode cX8_isForeign 3 = .ok (.ifCond .ne 7, 3) := by decide +kernel
theorem dX8_isForeign_6 : decode cX8_isForeign 6 = .ok (.iconst 1, 1) := by decide +kernel
theorem dX8_isForeign_7 : decode cX8_isForeign 7 = .ok (.goto 4, 3) := by decide +kernel
theorem dX8_isForeign_10 : decode cX8_isForeign 10 = .ok (.iconst 0, 1) := by decide +kernel
theorem dX8_isForeign_11 : decode cX8_isForeign 11 = .ok (.ireturn, 1) := by decide +kernel
theorem dX8_canBid_0 : decode cX8_canBid 0 = .ok (.aload_n 0, 1) := by decide +kernel
theorem dX8_canBid_1 : decode cX8_canBid 1 = .ok (.getfield 56, 3) := by decide +kernel
theorem dX8_canBid_4 : decode cX8_canBid 4 = .ok (.iload_n 1, 1) := by decide +kernel
theorem dX8_canBid_5 : decode cX8_canBid 5 = .ok (.iaload, 1) := by decide +kernel
theorem dX8_canBid_6 : decode cX8_canBid 6 = .ok (.iload_n 3, 1) := by decide +kernel
theorem dX8_canBid_7 : decode cX8_canBid 7 = .ok (.if_icmp .lt 35, 3) := by decide +kernel
theorem dX8_canBid_10 : decode cX8_canBid 10 = .ok (.aload_n 0, 1) := by decide +kernel
theorem dX8_canBid_11 : decode cX8_canBid 11 = .ok (.getfield 59, 3) := by decide +kernel
theorem dX8_canBid_14 : decode cX8_canBid 14 = .ok (.iload_n 1, 1) := by decide +kernel
theorem dX8_canBid_15 : decode cX8_canBid 15 = .ok (.iaload, 1) := by decide +kernel
theorem dX8_canBid_16 : decode cX8_canBid 16 = .ok (.bipush 6, 2) := by decide +kernel
theorem dX8_canBid_18 : decode cX8_canBid 18 = .ok (.if_icmp .ge 24, 3) := by decide +kernel
theorem dX8_canBid_21 : decode cX8_canBid 21 = .ok (.iload_n 2, 1) := by decide +kernel
theorem dX8_canBid_22 : decode cX8_canBid 22 = .ok (.invokestatic 273, 3) := by decide +kernel
theorem dX8_canBid_25 : decode cX8_canBid 25 = .ok (.ifCond .eq 13, 3) := by decide +kernel
theorem dX8_canBid_28 : decode cX8_canBid 28 = .ok (.aload_n 0, 1) := by decide +kernel
theorem dX8_canBid_29 : decode cX8_canBid 29 = .ok (.getfield 62, 3) := by decide +kernel
theorem dX8_canBid_32 : decode cX8_canBid 32 = .ok (.iload_n 1, 1) := by decide +kernel
theorem dX8_canBid_33 : decode cX8_canBid 33 = .ok (.iaload, 1) := by decide +kernel
theorem dX8_canBid_34 : decode cX8_canBid 34 = .ok (.iconst 2, 1) := by decide +kernel
theorem dX8_canBid_35 : decode cX8_canBid 35 = .ok (.if_icmp .ge 7, 3) := by decide +kernel
theorem dX8_canBid_38 : decode cX8_canBid 38 = .ok (.iconst 1, 1) := by decide +kernel
theorem dX8_canBid_39 : decode cX8_canBid 39 = .ok (.goto 4, 3) := by decide +kernel
theorem dX8_canBid_42 : decode cX8_canBid 42 = .ok (.iconst 0, 1) := by decide +kernel
theorem dX8_canBid_43 : decode cX8_canBid 43 = .ok (.ireturn, 1) := by decide +kernel
theorem dX8_right_0 : decode cX8_right 0 = .ok (.iload_n 1, 1) := by decide +kernel
theorem dX8_right_1 : decode cX8_right 1 = .ok (.invokestatic 163, 3) := by decide +kernel
theorem dX8_right_4 : decode cX8_right 4 = .ok (.ifCond .eq 14, 3) := by decide +kernel
theorem dX8_right_7 : decode cX8_right 7 = .ok (.iload_n 2, 1) := by decide +kernel
theorem dX8_right_8 : decode cX8_right 8 = .ok (.invokestatic 276, 3) := by decide +kernel
theorem dX8_right_11 : decode cX8_right 11 = .ok (.ifCond .eq 7, 3) := by decide +kernel
theorem dX8_right_14 : decode cX8_right 14 = .ok (.iconst 1, 1) := by decide +kernel
theorem dX8_right_15 : decode cX8_right 15 = .ok (.goto 4, 3) := by decide +kernel
theorem dX8_right_18 : decode cX8_right 18 = .ok (.iconst 0, 1) := by decide +kernel
theorem dX8_right_19 : decode cX8_right 19 = .ok (.istore_n 3, 1) := by decide +kernel
theorem dX8_right_20 : decode cX8_right 20 = .ok (.aload_n 0, 1) := by decide +kernel
theorem dX8_right_21 : decode cX8_right 21 = .ok (.iload_n 3, 1) := by decide +kernel
theorem dX8_right_22 : decode cX8_right 22 = .ok (.ifCond .ne 7, 3) := by decide +kernel
theorem dX8_right_25 : decode cX8_right 25 = .ok (.iconst 1, 1) := by decide +kernel
theorem dX8_right_26 : decode cX8_right 26 = .ok (.goto 26, 3) := by decide +kernel
theorem dX8_right_29 : decode cX8_right 29 = .ok (.aload_n 0, 1) := by decide +kernel
theorem dX8_right_30 : decode cX8_right 30 = .ok (.getfield 74, 3) := by decide +kernel
theorem dX8_right_33 : decode cX8_right 33 = .ok (.iload_n 2, 1) := by decide +kernel
theorem dX8_right_34 : decode cX8_right 34 = .ok (.if_icmp .eq 13, 3) := by decide +kernel
theorem dX8_right_37 : decode cX8_right 37 = .ok (.aload_n 0, 1) := by decide +kernel
theorem dX8_right_38 : decode cX8_right 38 = .ok (.getfield 65, 3) := by decide +kernel
theorem dX8_right_41 : decode cX8_right 41 = .ok (.iload_n 2, 1) := by decide +kernel
theorem dX8_right_42 : decode cX8_right 42 = .ok (.iaload, 1) := by decide +kernel
theorem dX8_right_43 : decode cX8_right 43 = .ok (.iconst (-1), 1) := by decide +kernel
theorem dX8_right_44 : decode cX8_right 44 = .ok (.if_icmp .eq 7, 3) := by decide +kernel
theorem dX8_right_47 : decode cX8_right 47 = .ok (.iconst 2, 1) := by decide +kernel
theorem dX8_right_48 : decode cX8_right 48 = .ok (.goto 4, 3) := by decide +kernel
theorem dX8_right_51 : decode cX8_right 51 = .ok (.iconst 0, 1) := by decide +kernel
theorem dX8_right_52 : decode cX8_right 52 = .ok (.invokevirtual 169, 3) := by decide +kernel
theorem dX8_right_55 : decode cX8_right 55 = .ok (.ifCond .ne 5, 3) := by decide +kernel
theorem dX8_right_58 : decode cX8_right 58 = .ok (.iconst 0, 1) := by decide +kernel
theorem dX8_right_59 : decode cX8_right 59 = .ok (.ireturn, 1) := by decide +kernel
theorem dX8_right_60 : decode cX8_right 60 = .ok (.aload_n 0, 1) := by decide +kernel
theorem dX8_right_61 : decode cX8_right 61 = .ok (.getfield 71, 3) := by decide +kernel
theorem dX8_right_64 : decode cX8_right 64 = .ok (.iload_n 2, 1) := by decide +kernel
theorem dX8_right_65 : decode cX8_right 65 = .ok (.iaload, 1) := by decide +kernel
theorem dX8_right_66 : decode cX8_right 66 = .ok (.istore 4, 2) := by decide +kernel
theorem dX8_right_68 : decode cX8_right 68 = .ok (.aload_n 0, 1) := by decide +kernel
theorem dX8_right_69 : decode cX8_right 69 = .ok (.getfield 71, 3) := by decide +kernel
theorem dX8_right_72 : decode cX8_right 72 = .ok (.iload_n 2, 1) := by decide +kernel
theorem dX8_right_73 : decode cX8_right 73 = .ok (.iload_n 1, 1) := by decide +kernel
theorem dX8_right_74 : decode cX8_right 74 = .ok (.iastore, 1) := by decide +kernel
theorem dX8_right_75 : decode cX8_right 75 = .ok (.iload 4, 2) := by decide +kernel
theorem dX8_right_77 : decode cX8_right 77 = .ok (.ireturn, 1) := by decide +kernel
theorem dX8_call_0 : decode cX8_call 0 = .ok (.iload_n 1, 1) := by decide +kernel
theorem dX8_call_1 : decode cX8_call 1 = .ok (.invokestatic 276, 3) := by decide +kernel
theorem dX8_call_4 : decode cX8_call 4 = .ok (.istore_n 2, 1) := by decide +kernel
theorem dX8_call_5 : decode cX8_call 5 = .ok (.aload_n 0, 1) := by decide +kernel
theorem dX8_call_6 : decode cX8_call 6 = .ok (.iload_n 2, 1) := by decide +kernel
theorem dX8_call_7 : decode cX8_call 7 = .ok (.ifCond .ne 7, 3) := by decide +kernel
theorem dX8_call_10 : decode cX8_call 10 = .ok (.iconst 1, 1) := by decide +kernel
theorem dX8_call_11 : decode cX8_call 11 = .ok (.goto 26, 3) := by decide +kernel
theorem dX8_call_14 : decode cX8_call 14 = .ok (.aload_n 0, 1) := by decide +kernel
theorem dX8_call_15 : decode cX8_call 15 = .ok (.getfield 74, 3) := by decide +kernel
theorem dX8_call_18 : decode cX8_call 18 = .ok (.iconst (-1), 1) := by decide +kernel
theorem dX8_call_19 : decode cX8_call 19 = .ok (.if_icmp .ne 13, 3) := by decide +kernel
theorem dX8_call_22 : decode cX8_call 22 = .ok (.aload_n 0, 1) := by decide +kernel
theorem dX8_call_23 : decode cX8_call 23 = .ok (.getfield 65, 3) := by decide +kernel
theorem dX8_call_26 : decode cX8_call 26 = .ok (.iload_n 1, 1) := by decide +kernel
theorem dX8_call_27 : decode cX8_call 27 = .ok (.iaload, 1) := by decide +kernel
theorem dX8_call_28 : decode cX8_call 28 = .ok (.iconst (-1), 1) := by decide +kernel
theorem dX8_call_29 : decode cX8_call 29 = .ok (.if_icmp .eq 7, 3) := by decide +kernel
theorem dX8_call_32 : decode cX8_call 32 = .ok (.iconst 2, 1) := by decide +kernel
theorem dX8_call_33 : decode cX8_call 33 = .ok (.goto 4, 3) := by decide +kernel
theorem dX8_call_36 : decode cX8_call 36 = .ok (.iconst 0, 1) := by decide +kernel
theorem dX8_call_37 : decode cX8_call 37 = .ok (.invokevirtual 169, 3) := by decide +kernel
theorem dX8_call_40 : decode cX8_call 40 = .ok (.ifCond .ne 5, 3) := by decide +kernel
theorem dX8_call_43 : decode cX8_call 43 = .ok (.iconst 0, 1) := by decide +kernel
theorem dX8_call_44 : decode cX8_call 44 = .ok (.ireturn, 1) := by decide +kernel
theorem dX8_call_45 : decode cX8_call 45 = .ok (.aload_n 0, 1) := by decide +kernel
theorem dX8_call_46 : decode cX8_call 46 = .ok (.iload_n 1, 1) := by decide +kernel
theorem dX8_call_47 : decode cX8_call 47 = .ok (.putfield 74, 3) := by decide +kernel
theorem dX8_call_50 : decode cX8_call 50 = .ok (.aload_n 0, 1) := by decide +kernel
theorem dX8_call_51 : decode cX8_call 51 = .ok (.iconst 0, 1) := by decide +kernel
theorem dX8_call_52 : decode cX8_call 52 = .ok (.putfield 279, 3) := by decide +kernel
theorem dX8_call_55 : decode cX8_call 55 = .ok (.aload_n 0, 1) := by decide +kernel
theorem dX8_call_56 : decode cX8_call 56 = .ok (.iconst 0, 1) := by decide +kernel
theorem dX8_call_57 : decode cX8_call 57 = .ok (.putfield 282, 3) := by decide +kernel
theorem dX8_call_60 : decode cX8_call 60 = .ok (.aload_n 0, 1) := by decide +kernel
theorem dX8_call_61 : decode cX8_call 61 = .ok (.iconst (-1), 1) := by decide +kernel
theorem dX8_call_62 : decode cX8_call 62 = .ok (.putfield 285, 3) := by decide +kernel
theorem dX8_call_65 : decode cX8_call 65 = .ok (.aload_n 0, 1) := by decide +kernel
theorem dX8_call_66 : decode cX8_call 66 = .ok (.iconst 0, 1) := by decide +kernel
theorem dX8_call_67 : decode cX8_call 67 = .ok (.putfield 288, 3) := by decide +kernel
theorem dX8_call_70 : decode cX8_call 70 = .ok (.iload_n 1, 1) := by decide +kernel
theorem dX8_call_71 : decode cX8_call 71 = .ok (.invokestatic 291, 3) := by decide +kernel
theorem dX8_call_74 : decode cX8_call 74 = .ok (.ireturn, 1) := by decide +kernel
theorem dX8_bid_0 : decode cX8_bid 0 = .ok (.aload_n 0, 1) := by decide +kernel
theorem dX8_bid_1 : decode cX8_bid 1 = .ok (.iload_n 1, 1) := by decide +kernel
theorem dX8_bid_2 : decode cX8_bid 2 = .ok (.invokestatic 163, 3) := by decide +kernel
theorem dX8_bid_5 : decode cX8_bid 5 = .ok (.ifCond .ne 7, 3) := by decide +kernel
theorem dX8_bid_8 : decode cX8_bid 8 = .ok (.iconst 1, 1) := by decide +kernel
theorem dX8_bid_9 : decode cX8_bid 9 = .ok (.goto 19, 3) := by decide +kernel
theorem dX8_bid_12 : decode cX8_bid 12 = .ok (.iload_n 2, 1) := by decide +kernel
theorem dX8_bid_13 : decode cX8_bid 13 = .ok (.iconst 1, 1) := by decide +kernel
theorem dX8_bid_14 : decode cX8_bid 14 = .ok (.sipush 1000, 3) := by decide +kernel
theorem dX8_bid_17 : decode cX8_bid 17 = .ok (.invokestatic 81, 3) := by decide +kernel
theorem dX8_bid_20 : decode cX8_bid 20 = .ok (.ifCond .ne 7, 3) := by decide +kernel
theorem dX8_bid_23 : decode cX8_bid 23 = .ok (.iconst 2, 1) := by decide +kernel
theorem dX8_bid_24 : decode cX8_bid 24 = .ok (.goto 4, 3) := by decide +kernel
theorem dX8_bid_27 : decode cX8_bid 27 = .ok (.iconst 0, 1) := by decide +kernel
theorem dX8_bid_28 : decode cX8_bid 28 = .ok (.invokevirtual 169, 3) := by decide +kernel
theorem dX8_bid_31 : decode cX8_bid 31 = .ok (.ifCond .ne 5, 3) := by decide +kernel
theorem dX8_bid_34 : decode cX8_bid 34 = .ok (.iconst 0, 1) := by decide +kernel
theorem dX8_bid_35 : decode cX8_bid 35 = .ok (.ireturn, 1) := by decide +kernel
theorem dX8_bid_36 : decode cX8_bid 36 = .ok (.aload_n 0, 1) := by decide +kernel
theorem dX8_bid_37 : decode cX8_bid 37 = .ok (.getfield 74, 3) := by decide +kernel
theorem dX8_bid_40 : decode cX8_bid 40 = .ok (.iconst (-1), 1) := by decide +kernel
theorem dX8_bid_41 : decode cX8_bid 41 = .ok (.if_icmp .eq 51, 3) := by decide +kernel
theorem dX8_bid_44 : decode cX8_bid 44 = .ok (.aload_n 0, 1) := by decide +kernel
theorem dX8_bid_45 : decode cX8_bid 45 = .ok (.getfield 288, 3) := by decide +kernel
theorem dX8_bid_48 : decode cX8_bid 48 = .ok (.ifCond .ne 44, 3) := by decide +kernel
theorem dX8_bid_51 : decode cX8_bid 51 = .ok (.iload_n 2, 1) := by decide +kernel
theorem dX8_bid_52 : decode cX8_bid 52 = .ok (.aload_n 0, 1) := by decide +kernel
theorem dX8_bid_53 : decode cX8_bid 53 = .ok (.getfield 74, 3) := by decide +kernel
theorem dX8_bid_56 : decode cX8_bid 56 = .ok (.invokestatic 291, 3) := by decide +kernel
theorem dX8_bid_59 : decode cX8_bid 59 = .ok (.if_icmp .lt 33, 3) := by decide +kernel
theorem dX8_bid_62 : decode cX8_bid 62 = .ok (.aload_n 0, 1) := by decide +kernel
theorem dX8_bid_63 : decode cX8_bid 63 = .ok (.getfield 279, 3) := by decide +kernel
theorem dX8_bid_66 : decode cX8_bid 66 = .ok (.ifCond .le 13, 3) := by decide +kernel
theorem dX8_bid_69 : decode cX8_bid 69 = .ok (.iload_n 2, 1) := by decide +kernel
theorem dX8_bid_70 : decode cX8_bid 70 = .ok (.aload_n 0, 1) := by decide +kernel
theorem dX8_bid_71 : decode cX8_bid 71 = .ok (.getfield 282, 3) := by decide +kernel
theorem dX8_bid_74 : decode cX8_bid 74 = .ok (.iconst 5, 1) := by decide +kernel
theorem dX8_bid_75 : decode cX8_bid 75 = .ok (.iadd, 1) := by decide +kernel
theorem dX8_bid_76 : decode cX8_bid 76 = .ok (.if_icmp .lt 16, 3) := by decide +kernel
theorem dX8_bid_79 : decode cX8_bid 79 = .ok (.aload_n 0, 1) := by decide +kernel
theorem dX8_bid_80 : decode cX8_bid 80 = .ok (.iload_n 1, 1) := by decide +kernel
theorem dX8_bid_81 : decode cX8_bid 81 = .ok (.aload_n 0, 1) := by decide +kernel
theorem dX8_bid_82 : decode cX8_bid 82 = .ok (.getfield 74, 3) := by decide +kernel
theorem dX8_bid_85 : decode cX8_bid 85 = .ok (.iload_n 2, 1) := by decide +kernel
theorem dX8_bid_86 : decode cX8_bid 86 = .ok (.invokevirtual 294, 3) := by decide +kernel
theorem dX8_bid_89 : decode cX8_bid 89 = .ok (.ifCond .ne 7, 3) := by decide +kernel
theorem dX8_bid_92 : decode cX8_bid 92 = .ok (.iconst 1, 1) := by decide +kernel
theorem dX8_bid_93 : decode cX8_bid 93 = .ok (.goto 4, 3) := by decide +kernel
theorem dX8_bid_96 : decode cX8_bid 96 = .ok (.iconst 0, 1) := by decide +kernel
theorem dX8_bid_97 : decode cX8_bid 97 = .ok (.istore_n 3, 1) := by decide +kernel
theorem dX8_bid_98 : decode cX8_bid 98 = .ok (.aload_n 0, 1) := by decide +kernel
theorem dX8_bid_99 : decode cX8_bid 99 = .ok (.iload_n 3, 1) := by decide +kernel
theorem dX8_bid_100 : decode cX8_bid 100 = .ok (.ifCond .eq 7, 3) := by decide +kernel
theorem dX8_bid_103 : decode cX8_bid 103 = .ok (.iconst 3, 1) := by decide +kernel
theorem dX8_bid_104 : decode cX8_bid 104 = .ok (.goto 4, 3) := by decide +kernel
theorem dX8_bid_107 : decode cX8_bid 107 = .ok (.iconst 0, 1) := by decide +kernel
theorem dX8_bid_108 : decode cX8_bid 108 = .ok (.invokevirtual 169, 3) := by decide +kernel
theorem dX8_bid_111 : decode cX8_bid 111 = .ok (.ifCond .ne 5, 3) := by decide +kernel
theorem dX8_bid_114 : decode cX8_bid 114 = .ok (.iconst 0, 1) := by decide +kernel
theorem dX8_bid_115 : decode cX8_bid 115 = .ok (.ireturn, 1) := by decide +kernel
theorem dX8_bid_116 : decode cX8_bid 116 = .ok (.aload_n 0, 1) := by decide +kernel
theorem dX8_bid_117 : decode cX8_bid 117 = .ok (.iload_n 2, 1) := by decide +kernel
theorem dX8_bid_118 : decode cX8_bid 118 = .ok (.putfield 282, 3) := by decide +kernel
theorem dX8_bid_121 : decode cX8_bid 121 = .ok (.aload_n 0, 1) := by decide +kernel
theorem dX8_bid_122 : decode cX8_bid 122 = .ok (.iload_n 1, 1) := by decide +kernel
theorem dX8_bid_123 : decode cX8_bid 123 = .ok (.putfield 285, 3) := by decide +kernel
theorem dX8_bid_126 : decode cX8_bid 126 = .ok (.aload_n 0, 1) := by decide +kernel
theorem dX8_bid_127 : decode cX8_bid 127 = .ok (.dup, 1) := by decide +kernel
theorem dX8_bid_128 : decode cX8_bid 128 = .ok (.getfield 279, 3) := by decide +kernel
theorem dX8_bid_131 : decode cX8_bid 131 = .ok (.iconst 1, 1) := by decide +kernel
theorem dX8_bid_132 : decode cX8_bid 132 = .ok (.iadd, 1) := by decide +kernel
theorem dX8_bid_133 : decode cX8_bid 133 = .ok (.putfield 279, 3) := by decide +kernel
theorem dX8_bid_136 : decode cX8_bid 136 = .ok (.aload_n 0, 1) := by decide +kernel
theorem dX8_bid_137 : decode cX8_bid 137 = .ok (.getfield 279, 3) := by decide +kernel
theorem dX8_bid_140 : decode cX8_bid 140 = .ok (.ireturn, 1) := by decide +kernel
theorem dX8_sells_0 : decode cX8_sells 0 = .ok (.aload_n 0, 1) := by decide +kernel
theorem dX8_sells_1 : decode cX8_sells 1 = .ok (.getfield 65, 3) := by decide +kernel
theorem dX8_sells_4 : decode cX8_sells 4 = .ok (.aload_n 0, 1) := by decide +kernel
theorem dX8_sells_5 : decode cX8_sells 5 = .ok (.getfield 74, 3) := by decide +kernel
theorem dX8_sells_8 : decode cX8_sells 8 = .ok (.iload_n 1, 1) := by decide +kernel
theorem dX8_sells_9 : decode cX8_sells 9 = .ok (.iastore, 1) := by decide +kernel
theorem dX8_sells_10 : decode cX8_sells 10 = .ok (.aload_n 0, 1) := by decide +kernel
theorem dX8_sells_11 : decode cX8_sells 11 = .ok (.getfield 68, 3) := by decide +kernel
theorem dX8_sells_14 : decode cX8_sells 14 = .ok (.aload_n 0, 1) := by decide +kernel
theorem dX8_sells_15 : decode cX8_sells 15 = .ok (.getfield 74, 3) := by decide +kernel
theorem dX8_sells_18 : decode cX8_sells 18 = .ok (.aload_n 0, 1) := by decide +kernel
theorem dX8_sells_19 : decode cX8_sells 19 = .ok (.getfield 282, 3) := by decide +kernel
theorem dX8_sells_22 : decode cX8_sells 22 = .ok (.iastore, 1) := by decide +kernel
theorem dX8_sells_23 : decode cX8_sells 23 = .ok (.aload_n 0, 1) := by decide +kernel
theorem dX8_sells_24 : decode cX8_sells 24 = .ok (.getfield 56, 3) := by decide +kernel
theorem dX8_sells_27 : decode cX8_sells 27 = .ok (.iload_n 1, 1) := by decide +kernel
theorem dX8_sells_28 : decode cX8_sells 28 = .ok (.dup2, 1) := by decide +kernel
theorem dX8_sells_29 : decode cX8_sells 29 = .ok (.iaload, 1) := by decide +kernel
theorem dX8_sells_30 : decode cX8_sells 30 = .ok (.aload_n 0, 1) := by decide +kernel
theorem dX8_sells_31 : decode cX8_sells 31 = .ok (.getfield 282, 3) := by decide +kernel
theorem dX8_sells_34 : decode cX8_sells 34 = .ok (.isub, 1) := by decide +kernel
theorem dX8_sells_35 : decode cX8_sells 35 = .ok (.iastore, 1) := by decide +kernel
theorem dX8_sells_36 : decode cX8_sells 36 = .ok (.aload_n 0, 1) := by decide +kernel
theorem dX8_sells_37 : decode cX8_sells 37 = .ok (.getfield 59, 3) := by decide +kernel
theorem dX8_sells_40 : decode cX8_sells 40 = .ok (.iload_n 1, 1) := by decide +kernel
theorem dX8_sells_41 : decode cX8_sells 41 = .ok (.dup2, 1) := by decide +kernel
theorem dX8_sells_42 : decode cX8_sells 42 = .ok (.iaload, 1) := by decide +kernel
theorem dX8_sells_43 : decode cX8_sells 43 = .ok (.iconst 1, 1) := by decide +kernel
theorem dX8_sells_44 : decode cX8_sells 44 = .ok (.iadd, 1) := by decide +kernel
theorem dX8_sells_45 : decode cX8_sells 45 = .ok (.iastore, 1) := by decide +kernel
theorem dX8_sells_46 : decode cX8_sells 46 = .ok (.aload_n 0, 1) := by decide +kernel
theorem dX8_sells_47 : decode cX8_sells 47 = .ok (.getfield 62, 3) := by decide +kernel
theorem dX8_sells_50 : decode cX8_sells 50 = .ok (.iload_n 1, 1) := by decide +kernel
theorem dX8_sells_51 : decode cX8_sells 51 = .ok (.dup2, 1) := by decide +kernel
theorem dX8_sells_52 : decode cX8_sells 52 = .ok (.iaload, 1) := by decide +kernel
theorem dX8_sells_53 : decode cX8_sells 53 = .ok (.aload_n 0, 1) := by decide +kernel
theorem dX8_sells_54 : decode cX8_sells 54 = .ok (.getfield 74, 3) := by decide +kernel
theorem dX8_sells_57 : decode cX8_sells 57 = .ok (.invokestatic 273, 3) := by decide +kernel
theorem dX8_sells_60 : decode cX8_sells 60 = .ok (.ifCond .eq 7, 3) := by decide +kernel
theorem dX8_sells_63 : decode cX8_sells 63 = .ok (.iconst 1, 1) := by decide +kernel
theorem dX8_sells_64 : decode cX8_sells 64 = .ok (.goto 4, 3) := by decide +kernel
theorem dX8_sells_67 : decode cX8_sells 67 = .ok (.iconst 0, 1) := by decide +kernel
theorem dX8_sells_68 : decode cX8_sells 68 = .ok (.iadd, 1) := by decide +kernel
theorem dX8_sells_69 : decode cX8_sells 69 = .ok (.iastore, 1) := by decide +kernel
theorem dX8_sells_70 : decode cX8_sells 70 = .ok (.aload_n 0, 1) := by decide +kernel
theorem dX8_sells_71 : decode cX8_sells 71 = .ok (.iconst (-1), 1) := by decide +kernel
theorem dX8_sells_72 : decode cX8_sells 72 = .ok (.putfield 74, 3) := by decide +kernel
theorem dX8_sells_75 : decode cX8_sells 75 = .ok (.aload_n 0, 1) := by decide +kernel
theorem dX8_sells_76 : decode cX8_sells 76 = .ok (.iconst 0, 1) := by decide +kernel
theorem dX8_sells_77 : decode cX8_sells 77 = .ok (.putfield 288, 3) := by decide +kernel
theorem dX8_sells_80 : decode cX8_sells 80 = .ok (.iload_n 1, 1) := by decide +kernel
theorem dX8_sells_81 : decode cX8_sells 81 = .ok (.ireturn, 1) := by decide +kernel
theorem dX8_hammer_0 : decode cX8_hammer 0 = .ok (.aload_n 0, 1) := by decide +kernel
theorem dX8_hammer_1 : decode cX8_hammer 1 = .ok (.aload_n 0, 1) := by decide +kernel
theorem dX8_hammer_2 : decode cX8_hammer 2 = .ok (.getfield 74, 3) := by decide +kernel
theorem dX8_hammer_5 : decode cX8_hammer 5 = .ok (.iconst (-1), 1) := by decide +kernel
theorem dX8_hammer_6 : decode cX8_hammer 6 = .ok (.if_icmp .eq 10, 3) := by decide +kernel
theorem dX8_hammer_9 : decode cX8_hammer 9 = .ok (.aload_n 0, 1) := by decide +kernel
theorem dX8_hammer_10 : decode cX8_hammer 10 = .ok (.getfield 288, 3) := by decide +kernel
theorem dX8_hammer_13 : decode cX8_hammer 13 = .ok (.ifCond .eq 7, 3) := by decide +kernel
theorem dX8_hammer_16 : decode cX8_hammer 16 = .ok (.iconst 1, 1) := by decide +kernel
theorem dX8_hammer_17 : decode cX8_hammer 17 = .ok (.goto 4, 3) := by decide +kernel
theorem dX8_hammer_20 : decode cX8_hammer 20 = .ok (.iconst 0, 1) := by decide +kernel
theorem dX8_hammer_21 : decode cX8_hammer 21 = .ok (.invokevirtual 169, 3) := by decide +kernel
theorem dX8_hammer_24 : decode cX8_hammer 24 = .ok (.ifCond .ne 5, 3) := by decide +kernel
theorem dX8_hammer_27 : decode cX8_hammer 27 = .ok (.iconst 0, 1) := by decide +kernel
theorem dX8_hammer_28 : decode cX8_hammer 28 = .ok (.ireturn, 1) := by decide +kernel
theorem dX8_hammer_29 : decode cX8_hammer 29 = .ok (.aload_n 0, 1) := by decide +kernel
theorem dX8_hammer_30 : decode cX8_hammer 30 = .ok (.getfield 279, 3) := by decide +kernel
theorem dX8_hammer_33 : decode cX8_hammer 33 = .ok (.ifCond .ne 10, 3) := by decide +kernel
theorem dX8_hammer_36 : decode cX8_hammer 36 = .ok (.aload_n 0, 1) := by decide +kernel
theorem dX8_hammer_37 : decode cX8_hammer 37 = .ok (.iconst (-1), 1) := by decide +kernel
theorem dX8_hammer_38 : decode cX8_hammer 38 = .ok (.putfield 74, 3) := by decide +kernel
theorem dX8_hammer_41 : decode cX8_hammer 41 = .ok (.iconst (-1), 1) := by decide +kernel
theorem dX8_hammer_42 : decode cX8_hammer 42 = .ok (.ireturn, 1) := by decide +kernel
theorem dX8_hammer_43 : decode cX8_hammer 43 = .ok (.aload_n 0, 1) := by decide +kernel
theorem dX8_hammer_44 : decode cX8_hammer 44 = .ok (.getfield 71, 3) := by decide +kernel
theorem dX8_hammer_47 : decode cX8_hammer 47 = .ok (.aload_n 0, 1) := by decide +kernel
theorem dX8_hammer_48 : decode cX8_hammer 48 = .ok (.getfield 74, 3) := by decide +kernel
theorem dX8_hammer_51 : decode cX8_hammer 51 = .ok (.iaload, 1) := by decide +kernel
theorem dX8_hammer_52 : decode cX8_hammer 52 = .ok (.istore_n 1, 1) := by decide +kernel
theorem dX8_hammer_53 : decode cX8_hammer 53 = .ok (.iload_n 1, 1) := by decide +kernel
theorem dX8_hammer_54 : decode cX8_hammer 54 = .ok (.iconst (-1), 1) := by decide +kernel
theorem dX8_hammer_55 : decode cX8_hammer 55 = .ok (.if_icmp .eq 34, 3) := by decide +kernel
theorem dX8_hammer_58 : decode cX8_hammer 58 = .ok (.iload_n 1, 1) := by decide +kernel
theorem dX8_hammer_59 : decode cX8_hammer 59 = .ok (.aload_n 0, 1) := by decide +kernel
theorem dX8_hammer_60 : decode cX8_hammer 60 = .ok (.getfield 285, 3) := by decide +kernel
theorem dX8_hammer_63 : decode cX8_hammer 63 = .ok (.if_icmp .eq 26, 3) := by decide +kernel
theorem dX8_hammer_66 : decode cX8_hammer 66 = .ok (.aload_n 0, 1) := by decide +kernel
theorem dX8_hammer_67 : decode cX8_hammer 67 = .ok (.iload_n 1, 1) := by decide +kernel
theorem dX8_hammer_68 : decode cX8_hammer 68 = .ok (.aload_n 0, 1) := by decide +kernel
theorem dX8_hammer_69 : decode cX8_hammer 69 = .ok (.getfield 74, 3) := by decide +kernel
theorem dX8_hammer_72 : decode cX8_hammer 72 = .ok (.aload_n 0, 1) := by decide +kernel
theorem dX8_hammer_73 : decode cX8_hammer 73 = .ok (.getfield 282, 3) := by decide +kernel
theorem dX8_hammer_76 : decode cX8_hammer 76 = .ok (.invokevirtual 294, 3) := by decide +kernel
theorem dX8_hammer_79 : decode cX8_hammer 79 = .ok (.ifCond .eq 10, 3) := by decide +kernel
theorem dX8_hammer_82 : decode cX8_hammer 82 = .ok (.aload_n 0, 1) := by decide +kernel
theorem dX8_hammer_83 : decode cX8_hammer 83 = .ok (.iconst 1, 1) := by decide +kernel
theorem dX8_hammer_84 : decode cX8_hammer 84 = .ok (.putfield 288, 3) := by decide +kernel
theorem dX8_hammer_87 : decode cX8_hammer 87 = .ok (.iconst (-1), 1) := by decide +kernel
theorem dX8_hammer_88 : decode cX8_hammer 88 = .ok (.ireturn, 1) := by decide +kernel
theorem dX8_hammer_89 : decode cX8_hammer 89 = .ok (.aload_n 0, 1) := by decide +kernel
theorem dX8_hammer_90 : decode cX8_hammer 90 = .ok (.aload_n 0, 1) := by decide +kernel
theorem dX8_hammer_91 : decode cX8_hammer 91 = .ok (.getfield 285, 3) := by decide +kernel
theorem dX8_hammer_94 : decode cX8_hammer 94 = .ok (.invokevirtual 297, 3) := by decide +kernel
theorem dX8_hammer_97 : decode cX8_hammer 97 = .ok (.ireturn, 1) := by decide +kernel
theorem dX8_answer_0 : decode cX8_answer 0 = .ok (.aload_n 0, 1) := by decide +kernel
theorem dX8_answer_1 : decode cX8_answer 1 = .ok (.aload_n 0, 1) := by decide +kernel
theorem dX8_answer_2 : decode cX8_answer 2 = .ok (.getfield 74, 3) := by decide +kernel
theorem dX8_answer_5 : decode cX8_answer 5 = .ok (.iconst (-1), 1) := by decide +kernel
theorem dX8_answer_6 : decode cX8_answer 6 = .ok (.if_icmp .eq 14, 3) := by decide +kernel
theorem dX8_answer_9 : decode cX8_answer 9 = .ok (.aload_n 0, 1) := by decide +kernel
theorem dX8_answer_10 : decode cX8_answer 10 = .ok (.getfield 288, 3) := by decide +kernel
theorem dX8_answer_13 : decode cX8_answer 13 = .ok (.ifCond .eq 7, 3) := by decide +kernel
theorem dX8_answer_16 : decode cX8_answer 16 = .ok (.iconst 0, 1) := by decide +kernel
theorem dX8_answer_17 : decode cX8_answer 17 = .ok (.goto 4, 3) := by decide +kernel
theorem dX8_answer_20 : decode cX8_answer 20 = .ok (.iconst 1, 1) := by decide +kernel
theorem dX8_answer_21 : decode cX8_answer 21 = .ok (.invokevirtual 169, 3) := by decide +kernel
theorem dX8_answer_24 : decode cX8_answer 24 = .ok (.ifCond .ne 5, 3) := by decide +kernel
theorem dX8_answer_27 : decode cX8_answer 27 = .ok (.iconst 0, 1) := by decide +kernel
theorem dX8_answer_28 : decode cX8_answer 28 = .ok (.ireturn, 1) := by decide +kernel
theorem dX8_answer_29 : decode cX8_answer 29 = .ok (.aload_n 0, 1) := by decide +kernel
theorem dX8_answer_30 : decode cX8_answer 30 = .ok (.getfield 71, 3) := by decide +kernel
theorem dX8_answer_33 : decode cX8_answer 33 = .ok (.aload_n 0, 1) := by decide +kernel
theorem dX8_answer_34 : decode cX8_answer 34 = .ok (.getfield 74, 3) := by decide +kernel
theorem dX8_answer_37 : decode cX8_answer 37 = .ok (.iaload, 1) := by decide +kernel
theorem dX8_answer_38 : decode cX8_answer 38 = .ok (.istore_n 2, 1) := by decide +kernel
theorem dX8_answer_39 : decode cX8_answer 39 = .ok (.aload_n 0, 1) := by decide +kernel
theorem dX8_answer_40 : decode cX8_answer 40 = .ok (.getfield 71, 3) := by decide +kernel
theorem dX8_answer_43 : decode cX8_answer 43 = .ok (.aload_n 0, 1) := by decide +kernel
theorem dX8_answer_44 : decode cX8_answer 44 = .ok (.getfield 74, 3) := by decide +kernel
theorem dX8_answer_47 : decode cX8_answer 47 = .ok (.iconst (-1), 1) := by decide +kernel
theorem dX8_answer_48 : decode cX8_answer 48 = .ok (.iastore, 1) := by decide +kernel
theorem dX8_answer_49 : decode cX8_answer 49 = .ok (.aload_n 0, 1) := by decide +kernel
theorem dX8_answer_50 : decode cX8_answer 50 = .ok (.iload_n 1, 1) := by decide +kernel
theorem dX8_answer_51 : decode cX8_answer 51 = .ok (.ifCond .eq 7, 3) := by decide +kernel
theorem dX8_answer_54 : decode cX8_answer 54 = .ok (.iload_n 2, 1) := by decide +kernel
theorem dX8_answer_55 : decode cX8_answer 55 = .ok (.goto 7, 3) := by decide +kernel
theorem dX8_answer_58 : decode cX8_answer 58 = .ok (.aload_n 0, 1) := by decide +kernel
theorem dX8_answer_59 : decode cX8_answer 59 = .ok (.getfield 285, 3) := by decide +kernel
theorem dX8_answer_62 : decode cX8_answer 62 = .ok (.invokevirtual 297, 3) := by decide +kernel
theorem dX8_answer_65 : decode cX8_answer 65 = .ok (.ireturn, 1) := by decide +kernel
theorem dX8_lot_0 : decode cX8_lot 0 = .ok (.aload_n 0, 1) := by decide +kernel
theorem dX8_lot_1 : decode cX8_lot 1 = .ok (.iload_n 1, 1) := by decide +kernel
theorem dX8_lot_2 : decode cX8_lot 2 = .ok (.invokestatic 276, 3) := by decide +kernel
theorem dX8_lot_5 : decode cX8_lot 5 = .ok (.ifCond .ne 7, 3) := by decide +kernel
theorem dX8_lot_8 : decode cX8_lot 8 = .ok (.iconst 1, 1) := by decide +kernel
theorem dX8_lot_9 : decode cX8_lot 9 = .ok (.goto 17, 3) := by decide +kernel
theorem dX8_lot_12 : decode cX8_lot 12 = .ok (.iload_n 2, 1) := by decide +kernel
theorem dX8_lot_13 : decode cX8_lot 13 = .ok (.iconst 0, 1) := by decide +kernel
theorem dX8_lot_14 : decode cX8_lot 14 = .ok (.iconst 3, 1) := by decide +kernel
theorem dX8_lot_15 : decode cX8_lot 15 = .ok (.invokestatic 81, 3) := by decide +kernel
theorem dX8_lot_18 : decode cX8_lot 18 = .ok (.ifCond .eq 7, 3) := by decide +kernel
theorem dX8_lot_21 : decode cX8_lot 21 = .ok (.iconst 0, 1) := by decide +kernel
theorem dX8_lot_22 : decode cX8_lot 22 = .ok (.goto 4, 3) := by decide +kernel
theorem dX8_lot_25 : decode cX8_lot 25 = .ok (.iconst 2, 1) := by decide +kernel
theorem dX8_lot_26 : decode cX8_lot 26 = .ok (.invokevirtual 169, 3) := by decide +kernel
theorem dX8_lot_29 : decode cX8_lot 29 = .ok (.ifCond .ne 5, 3) := by decide +kernel
theorem dX8_lot_32 : decode cX8_lot 32 = .ok (.iconst 0, 1) := by decide +kernel
theorem dX8_lot_33 : decode cX8_lot 33 = .ok (.ireturn, 1) := by decide +kernel
theorem dX8_lot_34 : decode cX8_lot 34 = .ok (.iload_n 2, 1) := by decide +kernel
theorem dX8_lot_35 : decode cX8_lot 35 = .ok (.ifCond .ne 12, 3) := by decide +kernel
theorem dX8_lot_38 : decode cX8_lot 38 = .ok (.aload_n 0, 1) := by decide +kernel
theorem dX8_lot_39 : decode cX8_lot 39 = .ok (.getfield 65, 3) := by decide +kernel
theorem dX8_lot_42 : decode cX8_lot 42 = .ok (.iload_n 1, 1) := by decide +kernel
theorem dX8_lot_43 : decode cX8_lot 43 = .ok (.iaload, 1) := by decide +kernel
theorem dX8_lot_44 : decode cX8_lot 44 = .ok (.goto 54, 3) := by decide +kernel
theorem dX8_lot_47 : decode cX8_lot 47 = .ok (.iload_n 2, 1) := by decide +kernel
theorem dX8_lot_48 : decode cX8_lot 48 = .ok (.iconst 1, 1) := by decide +kernel
theorem dX8_lot_49 : decode cX8_lot 49 = .ok (.if_icmp .ne 12, 3) := by decide +kernel
theorem dX8_lot_52 : decode cX8_lot 52 = .ok (.aload_n 0, 1) := by decide +kernel
theorem dX8_lot_53 : decode cX8_lot 53 = .ok (.getfield 68, 3) := by decide +kernel
theorem dX8_lot_56 : decode cX8_lot 56 = .ok (.iload_n 1, 1) := by decide +kernel
theorem dX8_lot_57 : decode cX8_lot 57 = .ok (.iaload, 1) := by decide +kernel
theorem dX8_lot_58 : decode cX8_lot 58 = .ok (.goto 40, 3) := by decide +kernel
theorem dX8_lot_61 : decode cX8_lot 61 = .ok (.iload_n 2, 1) := by decide +kernel
theorem dX8_lot_62 : decode cX8_lot 62 = .ok (.iconst 2, 1) := by decide +kernel
theorem dX8_lot_63 : decode cX8_lot 63 = .ok (.if_icmp .ne 12, 3) := by decide +kernel
theorem dX8_lot_66 : decode cX8_lot 66 = .ok (.aload_n 0, 1) := by decide +kernel
theorem dX8_lot_67 : decode cX8_lot 67 = .ok (.getfield 71, 3) := by decide +kernel
theorem dX8_lot_70 : decode cX8_lot 70 = .ok (.iload_n 1, 1) := by decide +kernel
theorem dX8_lot_71 : decode cX8_lot 71 = .ok (.iaload, 1) := by decide +kernel
theorem dX8_lot_72 : decode cX8_lot 72 = .ok (.goto 26, 3) := by decide +kernel
theorem dX8_lot_75 : decode cX8_lot 75 = .ok (.aload_n 0, 1) := by decide +kernel
theorem dX8_lot_76 : decode cX8_lot 76 = .ok (.getfield 74, 3) := by decide +kernel
theorem dX8_lot_79 : decode cX8_lot 79 = .ok (.iload_n 1, 1) := by decide +kernel
theorem dX8_lot_80 : decode cX8_lot 80 = .ok (.if_icmp .ne 17, 3) := by decide +kernel
theorem dX8_lot_83 : decode cX8_lot 83 = .ok (.aload_n 0, 1) := by decide +kernel
theorem dX8_lot_84 : decode cX8_lot 84 = .ok (.getfield 279, 3) := by decide +kernel
theorem dX8_lot_87 : decode cX8_lot 87 = .ok (.ifCond .le 10, 3) := by decide +kernel
theorem dX8_lot_90 : decode cX8_lot 90 = .ok (.aload_n 0, 1) := by decide +kernel
theorem dX8_lot_91 : decode cX8_lot 91 = .ok (.getfield 282, 3) := by decide +kernel
theorem dX8_lot_94 : decode cX8_lot 94 = .ok (.goto 4, 3) := by decide +kernel
theorem dX8_lot_97 : decode cX8_lot 97 = .ok (.iconst (-1), 1) := by decide +kernel
theorem dX8_lot_98 : decode cX8_lot 98 = .ok (.ireturn, 1) := by decide +kernel
theorem dX8_squad_0 : decode cX8_squad 0 = .ok (.aload_n 0, 1) := by decide +kernel
theorem dX8_squad_1 : decode cX8_squad 1 = .ok (.iload_n 1, 1) := by decide +kernel
theorem dX8_squad_2 : decode cX8_squad 2 = .ok (.invokestatic 163, 3) := by decide +kernel
theorem dX8_squad_5 : decode cX8_squad 5 = .ok (.ifCond .ne 7, 3) := by decide +kernel
theorem dX8_squad_8 : decode cX8_squad 8 = .ok (.iconst 1, 1) := by decide +kernel
theorem dX8_squad_9 : decode cX8_squad 9 = .ok (.goto 17, 3) := by decide +kernel
theorem dX8_squad_12 : decode cX8_squad 12 = .ok (.iload_n 2, 1) := by decide +kernel
theorem dX8_squad_13 : decode cX8_squad 13 = .ok (.iconst 0, 1) := by decide +kernel
theorem dX8_squad_14 : decode cX8_squad 14 = .ok (.iconst 2, 1) := by decide +kernel
theorem dX8_squad_15 : decode cX8_squad 15 = .ok (.invokestatic 81, 3) := by decide +kernel
theorem dX8_squad_18 : decode cX8_squad 18 = .ok (.ifCond .eq 7, 3) := by decide +kernel
theorem dX8_squad_21 : decode cX8_squad 21 = .ok (.iconst 0, 1) := by decide +kernel
theorem dX8_squad_22 : decode cX8_squad 22 = .ok (.goto 4, 3) := by decide +kernel
theorem dX8_squad_25 : decode cX8_squad 25 = .ok (.iconst 2, 1) := by decide +kernel
theorem dX8_squad_26 : decode cX8_squad 26 = .ok (.invokevirtual 169, 3) := by decide +kernel
theorem dX8_squad_29 : decode cX8_squad 29 = .ok (.ifCond .ne 5, 3) := by decide +kernel
theorem dX8_squad_32 : decode cX8_squad 32 = .ok (.iconst 0, 1) := by decide +kernel
theorem dX8_squad_33 : decode cX8_squad 33 = .ok (.ireturn, 1) := by decide +kernel
theorem dX8_squad_34 : decode cX8_squad 34 = .ok (.iload_n 2, 1) := by decide +kernel
theorem dX8_squad_35 : decode cX8_squad 35 = .ok (.ifCond .ne 12, 3) := by decide +kernel
theorem dX8_squad_38 : decode cX8_squad 38 = .ok (.aload_n 0, 1) := by decide +kernel
theorem dX8_squad_39 : decode cX8_squad 39 = .ok (.getfield 56, 3) := by decide +kernel
theorem dX8_squad_42 : decode cX8_squad 42 = .ok (.iload_n 1, 1) := by decide +kernel
theorem dX8_squad_43 : decode cX8_squad 43 = .ok (.iaload, 1) := by decide +kernel
theorem dX8_squad_44 : decode cX8_squad 44 = .ok (.goto 23, 3) := by decide +kernel
theorem dX8_squad_47 : decode cX8_squad 47 = .ok (.iload_n 2, 1) := by decide +kernel
theorem dX8_squad_48 : decode cX8_squad 48 = .ok (.iconst 1, 1) := by decide +kernel
theorem dX8_squad_49 : decode cX8_squad 49 = .ok (.if_icmp .ne 12, 3) := by decide +kernel
theorem dX8_squad_52 : decode cX8_squad 52 = .ok (.aload_n 0, 1) := by decide +kernel
theorem dX8_squad_53 : decode cX8_squad 53 = .ok (.getfield 59, 3) := by decide +kernel
theorem dX8_squad_56 : decode cX8_squad 56 = .ok (.iload_n 1, 1) := by decide +kernel
theorem dX8_squad_57 : decode cX8_squad 57 = .ok (.iaload, 1) := by decide +kernel
theorem dX8_squad_58 : decode cX8_squad 58 = .ok (.goto 9, 3) := by decide +kernel
theorem dX8_squad_61 : decode cX8_squad 61 = .ok (.aload_n 0, 1) := by decide +kernel
theorem dX8_squad_62 : decode cX8_squad 62 = .ok (.getfield 62, 3) := by decide +kernel
theorem dX8_squad_65 : decode cX8_squad 65 = .ok (.iload_n 1, 1) := by decide +kernel
theorem dX8_squad_66 : decode cX8_squad 66 = .ok (.iaload, 1) := by decide +kernel
theorem dX8_squad_67 : decode cX8_squad 67 = .ok (.ireturn, 1) := by decide +kernel
