theorem d_M_followFact_121 : decode c_M_followFact 121 = .ok (.iload_n 2, 1) := by decide +kernel
theorem d_M_followFact_122 : decode c_M_followFact 122 = .ok (.iload_n 3, 1) := by decide +kernel
theorem d_M_followFact_123 : decode c_M_followFact 123 = .ok (.iload 10, 2) := by decide +kernel
theorem d_M_followFact_125 : decode c_M_followFact 125 = .ok (.iload 7, 2) := by decide +kernel
theorem d_M_followFact_127 : decode c_M_followFact 127 = .ok (.iadd, 1) := by decide +kernel
theorem d_M_followFact_128 : decode c_M_followFact 128 = .ok (.invokevirtual 153, 3) := by decide +kernel
theorem d_M_followFact_131 : decode c_M_followFact 131 = .ok (.iconst 0, 1) := by decide +kernel
theorem d_M_followFact_132 : decode c_M_followFact 132 = .ok (.istore 12, 2) := by decide +kernel
theorem d_M_followFact_134 : decode c_M_followFact 134 = .ok (.iload 12, 2) := by decide +kernel
theorem d_M_followFact_136 : decode c_M_followFact 136 = .ok (.bipush 6, 2) := by decide +kernel
theorem d_M_followFact_138 : decode c_M_followFact 138 = .ok (.if_icmp .ge 118, 3) := by decide +kernel
theorem d_M_followFact_141 : decode c_M_followFact 141 = .ok (.iconst 4, 1) := by decide +kernel
theorem d_M_followFact_142 : decode c_M_followFact 142 = .ok (.iconst 2, 1) := by decide +kernel
theorem d_M_followFact_143 : decode c_M_followFact 143 = .ok (.iload 12, 2) := by decide +kernel
theorem d_M_followFact_145 : decode c_M_followFact 145 = .ok (.imul, 1) := by decide +kernel
theorem d_M_followFact_146 : decode c_M_followFact 146 = .ok (.iadd, 1) := by decide +kernel
theorem d_M_followFact_147 : decode c_M_followFact 147 = .ok (.aload_n 0, 1) := by decide +kernel
theorem d_M_followFact_148 : decode c_M_followFact 148 = .ok (.getfield 22, 3) := by decide +kernel
theorem d_M_followFact_151 : decode c_M_followFact 151 = .ok (.iload 5, 2) := by decide +kernel
theorem d_M_followFact_153 : decode c_M_followFact 153 = .ok (.iaload, 1) := by decide +kernel
theorem d_M_followFact_154 : decode c_M_followFact 154 = .ok (.iconst 1, 1) := by decide +kernel
theorem d_M_followFact_155 : decode c_M_followFact 155 = .ok (.iand, 1) := by decide +kernel
theorem d_M_followFact_156 : decode c_M_followFact 156 = .ok (.iadd, 1) := by decide +kernel
theorem d_M_followFact_157 : decode c_M_followFact 157 = .ok (.istore 13, 2) := by decide +kernel
theorem d_M_followFact_159 : decode c_M_followFact 159 = .ok (.iload 6, 2) := by decide +kernel
theorem d_M_followFact_161 : decode c_M_followFact 161 = .ok (.bipush 6, 2) := by decide +kernel
theorem d_M_followFact_163 : decode c_M_followFact 163 = .ok (.if_icmp .ne 42, 3) := by decide +kernel
theorem d_M_followFact_166 : decode c_M_followFact 166 = .ok (.iload 9, 2) := by decide +kernel
theorem d_M_followFact_168 : decode c_M_followFact 168 = .ok (.iload 8, 2) := by decide +kernel
theorem d_M_followFact_170 : decode c_M_followFact 170 = .ok (.if_icmp .ne 35, 3) := by decide +kernel
theorem d_M_followFact_173 : decode c_M_followFact 173 = .ok (.aload_n 0, 1) := by decide +kernel
theorem d_M_followFact_174 : decode c_M_followFact 174 = .ok (.getfield 31, 3) := by decide +kernel
theorem d_M_followFact_177 : decode c_M_followFact 177 = .ok (.iconst 4, 1) := by decide +kernel
theorem d_M_followFact_178 : decode c_M_followFact 178 = .ok (.iload_n 1, 1) := by decide +kernel
theorem d_M_followFact_179 : decode c_M_followFact 179 = .ok (.imul, 1) := by decide +kernel
theorem d_M_followFact_180 : decode c_M_followFact 180 = .ok (.iload 7, 2) := by decide +kernel
theorem d_M_followFact_182 : decode c_M_followFact 182 = .ok (.iadd, 1) := by decide +kernel
theorem d_M_followFact_183 : decode c_M_followFact 183 = .ok (.iaload, 1) := by decide +kernel
theorem d_M_followFact_184 : decode c_M_followFact 184 = .ok (.iload 12, 2) := by decide +kernel
theorem d_M_followFact_186 : decode c_M_followFact 186 = .ok (.ishr, 1) := by decide +kernel
theorem d_M_followFact_187 : decode c_M_followFact 187 = .ok (.iconst 1, 1) := by decide +kernel
theorem d_M_followFact_188 : decode c_M_followFact 188 = .ok (.iand, 1) := by decide +kernel
theorem d_M_followFact_189 : decode c_M_followFact 189 = .ok (.iconst 1, 1) := by decide +kernel
theorem d_M_followFact_190 : decode c_M_followFact 190 = .ok (.if_icmp .ne 15, 3) := by decide +kernel
theorem d_M_followFact_193 : decode c_M_followFact 193 = .ok (.aload_n 0, 1) := by decide +kernel
theorem d_M_followFact_194 : decode c_M_followFact 194 = .ok (.iload_n 1, 1) := by decide +kernel
theorem d_M_followFact_195 : decode c_M_followFact 195 = .ok (.iload_n 2, 1) := by decide +kernel
theorem d_M_followFact_196 : decode c_M_followFact 196 = .ok (.iload_n 3, 1) := by decide +kernel
theorem d_M_followFact_197 : decode c_M_followFact 197 = .ok (.iload 10, 2) := by decide +kernel
theorem d_M_followFact_199 : decode c_M_followFact 199 = .ok (.iload 13, 2) := by decide +kernel
theorem d_M_followFact_201 : decode c_M_followFact 201 = .ok (.iadd, 1) := by decide +kernel
theorem d_M_followFact_202 : decode c_M_followFact 202 = .ok (.invokevirtual 153, 3) := by decide +kernel
theorem d_M_followFact_205 : decode c_M_followFact 205 = .ok (.iload 6, 2) := by decide +kernel
theorem d_M_followFact_207 : decode c_M_followFact 207 = .ok (.iconst 5, 1) := by decide +kernel
theorem d_M_followFact_208 : decode c_M_followFact 208 = .ok (.if_icmp .ne 42, 3) := by decide +kernel
theorem d_M_followFact_211 : decode c_M_followFact 211 = .ok (.iload 9, 2) := by decide +kernel
theorem d_M_followFact_213 : decode c_M_followFact 213 = .ok (.iload 13, 2) := by decide +kernel
theorem d_M_followFact_215 : decode c_M_followFact 215 = .ok (.if_icmp .ne 35, 3) := by decide +kernel
theorem d_M_followFact_218 : decode c_M_followFact 218 = .ok (.aload_n 0, 1) := by decide +kernel
theorem d_M_followFact_219 : decode c_M_followFact 219 = .ok (.getfield 31, 3) := by decide +kernel
theorem d_M_followFact_222 : decode c_M_followFact 222 = .ok (.iconst 4, 1) := by decide +kernel
theorem d_M_followFact_223 : decode c_M_followFact 223 = .ok (.iload_n 1, 1) := by decide +kernel
theorem d_M_followFact_224 : decode c_M_followFact 224 = .ok (.imul, 1) := by decide +kernel
theorem d_M_followFact_225 : decode c_M_followFact 225 = .ok (.iload 8, 2) := by decide +kernel
theorem d_M_followFact_227 : decode c_M_followFact 227 = .ok (.iadd, 1) := by decide +kernel
theorem d_M_followFact_228 : decode c_M_followFact 228 = .ok (.iaload, 1) := by decide +kernel
theorem d_M_followFact_229 : decode c_M_followFact 229 = .ok (.iload 12, 2) := by decide +kernel
theorem d_M_followFact_231 : decode c_M_followFact 231 = .ok (.ishr, 1) := by decide +kernel
theorem d_M_followFact_232 : decode c_M_followFact 232 = .ok (.iconst 1, 1) := by decide +kernel
theorem d_M_followFact_233 : decode c_M_followFact 233 = .ok (.iand, 1) := by decide +kernel
theorem d_M_followFact_234 : decode c_M_followFact 234 = .ok (.iconst 1, 1) := by decide +kernel
theorem d_M_followFact_235 : decode c_M_followFact 235 = .ok (.if_icmp .ne 15, 3) := by decide +kernel
theorem d_M_followFact_238 : decode c_M_followFact 238 = .ok (.aload_n 0, 1) := by decide +kernel
theorem d_M_followFact_239 : decode c_M_followFact 239 = .ok (.iload_n 1, 1) := by decide +kernel
theorem d_M_followFact_240 : decode c_M_followFact 240 = .ok (.iload_n 2, 1) := by decide +kernel
theorem d_M_followFact_241 : decode c_M_followFact 241 = .ok (.iload_n 3, 1) := by decide +kernel
theorem d_M_followFact_242 : decode c_M_followFact 242 = .ok (.iload 10, 2) := by decide +kernel
theorem d_M_followFact_244 : decode c_M_followFact 244 = .ok (.iload 7, 2) := by decide +kernel
theorem d_M_followFact_246 : decode c_M_followFact 246 = .ok (.iadd, 1) := by decide +kernel
theorem d_M_followFact_247 : decode c_M_followFact 247 = .ok (.invokevirtual 153, 3) := by decide +kernel
theorem d_M_followFact_250 : decode c_M_followFact 250 = .ok (.iinc 12 1, 3) := by decide +kernel
theorem d_M_followFact_253 : decode c_M_followFact 253 = .ok (.goto (-119), 3) := by decide +kernel
theorem d_M_followFact_256 : decode c_M_followFact 256 = .ok (.return_, 1) := by decide +kernel
theorem d_M_follow_0 : decode c_M_follow 0 = .ok (.bipush 12, 2) := by decide +kernel
theorem d_M_follow_2 : decode c_M_follow 2 = .ok (.iload_n 1, 1) := by decide +kernel
theorem d_M_follow_3 : decode c_M_follow 3 = .ok (.imul, 1) := by decide +kernel
theorem d_M_follow_4 : decode c_M_follow 4 = .ok (.iload_n 2, 1) := by decide +kernel
theorem d_M_follow_5 : decode c_M_follow 5 = .ok (.iadd, 1) := by decide +kernel
theorem d_M_follow_6 : decode c_M_follow 6 = .ok (.istore 5, 2) := by decide +kernel
theorem d_M_follow_8 : decode c_M_follow 8 = .ok (.aload_n 0, 1) := by decide +kernel
theorem d_M_follow_9 : decode c_M_follow 9 = .ok (.getfield 13, 3) := by decide +kernel
theorem d_M_follow_12 : decode c_M_follow 12 = .ok (.iload 5, 2) := by decide +kernel
theorem d_M_follow_14 : decode c_M_follow 14 = .ok (.iaload, 1) := by decide +kernel
theorem d_M_follow_15 : decode c_M_follow 15 = .ok (.istore 6, 2) := by decide +kernel
theorem d_M_follow_17 : decode c_M_follow 17 = .ok (.iload 6, 2) := by decide +kernel
theorem d_M_follow_19 : decode c_M_follow 19 = .ok (.bipush 7, 2) := by decide +kernel
theorem d_M_follow_21 : decode c_M_follow 21 = .ok (.if_icmp .ne 15, 3) := by decide +kernel
theorem d_M_follow_24 : decode c_M_follow 24 = .ok (.aload_n 0, 1) := by decide +kernel
theorem d_M_follow_25 : decode c_M_follow 25 = .ok (.iload_n 1, 1) := by decide +kernel
theorem d_M_follow_26 : decode c_M_follow 26 = .ok (.iload_n 2, 1) := by decide +kernel
theorem d_M_follow_27 : decode c_M_follow 27 = .ok (.iload_n 3, 1) := by decide +kernel
theorem d_M_follow_28 : decode c_M_follow 28 = .ok (.iload 4, 2) := by decide +kernel
theorem d_M_follow_30 : decode c_M_follow 30 = .ok (.invokevirtual 149, 3) := by decide +kernel
theorem d_M_follow_33 : decode c_M_follow 33 = .ok (.goto 80, 3) := by decide +kernel
theorem d_M_follow_36 : decode c_M_follow 36 = .ok (.iload 6, 2) := by decide +kernel
theorem d_M_follow_38 : decode c_M_follow 38 = .ok (.bipush 10, 2) := by decide +kernel
theorem d_M_follow_40 : decode c_M_follow 40 = .ok (.if_icmp .eq 57, 3) := by decide +kernel
theorem d_M_follow_43 : decode c_M_follow 43 = .ok (.iload 4, 2) := by decide +kernel
theorem d_M_follow_45 : decode c_M_follow 45 = .ok (.bipush 64, 2) := by decide +kernel
theorem d_M_follow_47 : decode c_M_follow 47 = .ok (.if_icmp .ne 50, 3) := by decide +kernel
theorem d_M_follow_50 : decode c_M_follow 50 = .ok (.aload_n 0, 1) := by decide +kernel
theorem d_M_follow_51 : decode c_M_follow 51 = .ok (.iload_n 1, 1) := by decide +kernel
theorem d_M_follow_52 : decode c_M_follow 52 = .ok (.iload_n 2, 1) := by decide +kernel
theorem d_M_follow_53 : decode c_M_follow 53 = .ok (.iload_n 3, 1) := by decide +kernel
theorem d_M_follow_54 : decode c_M_follow 54 = .ok (.bipush 64, 2) := by decide +kernel
theorem d_M_follow_56 : decode c_M_follow 56 = .ok (.invokevirtual 153, 3) := by decide +kernel
theorem d_M_follow_59 : decode c_M_follow 59 = .ok (.iload 6, 2) := by decide +kernel
theorem d_M_follow_61 : decode c_M_follow 61 = .ok (.iconst 1, 1) := by decide +kernel
theorem d_M_follow_62 : decode c_M_follow 62 = .ok (.if_icmp .ne 51, 3) := by decide +kernel
theorem d_M_follow_65 : decode c_M_follow 65 = .ok (.aload_n 0, 1) := by decide +kernel
theorem d_M_follow_66 : decode c_M_follow 66 = .ok (.iconst 1, 1) := by decide +kernel
theorem d_M_follow_67 : decode c_M_follow 67 = .ok (.iload_n 1, 1) := by decide +kernel
theorem d_M_follow_68 : decode c_M_follow 68 = .ok (.iload_n 2, 1) := by decide +kernel
theorem d_M_follow_69 : decode c_M_follow 69 = .ok (.invokevirtual 96, 3) := by decide +kernel
theorem d_M_follow_72 : decode c_M_follow 72 = .ok (.istore 7, 2) := by decide +kernel
theorem d_M_follow_74 : decode c_M_follow 74 = .ok (.aload_n 0, 1) := by decide +kernel
theorem d_M_follow_75 : decode c_M_follow 75 = .ok (.iload_n 1, 1) := by decide +kernel
theorem d_M_follow_76 : decode c_M_follow 76 = .ok (.iload_n 2, 1) := by decide +kernel
theorem d_M_follow_77 : decode c_M_follow 77 = .ok (.iload_n 3, 1) := by decide +kernel
theorem d_M_follow_78 : decode c_M_follow 78 = .ok (.bipush 16, 2) := by decide +kernel
theorem d_M_follow_80 : decode c_M_follow 80 = .ok (.iload 7, 2) := by decide +kernel
theorem d_M_follow_82 : decode c_M_follow 82 = .ok (.imul, 1) := by decide +kernel
theorem d_M_follow_83 : decode c_M_follow 83 = .ok (.aload_n 0, 1) := by decide +kernel
theorem d_M_follow_84 : decode c_M_follow 84 = .ok (.getfield 16, 3) := by decide +kernel
theorem d_M_follow_87 : decode c_M_follow 87 = .ok (.iload 5, 2) := by decide +kernel
theorem d_M_follow_89 : decode c_M_follow 89 = .ok (.iaload, 1) := by decide +kernel
theorem d_M_follow_90 : decode c_M_follow 90 = .ok (.iadd, 1) := by decide +kernel
theorem d_M_follow_91 : decode c_M_follow 91 = .ok (.invokevirtual 153, 3) := by decide +kernel
theorem d_M_follow_94 : decode c_M_follow 94 = .ok (.goto 19, 3) := by decide +kernel
theorem d_M_follow_97 : decode c_M_follow 97 = .ok (.iload 6, 2) := by decide +kernel
theorem d_M_follow_99 : decode c_M_follow 99 = .ok (.bipush 10, 2) := by decide +kernel
theorem d_M_follow_101 : decode c_M_follow 101 = .ok (.if_icmp .eq 12, 3) := by decide +kernel
theorem d_M_follow_104 : decode c_M_follow 104 = .ok (.aload_n 0, 1) := by decide +kernel
theorem d_M_follow_105 : decode c_M_follow 105 = .ok (.iload_n 1, 1) := by decide +kernel
theorem d_M_follow_106 : decode c_M_follow 106 = .ok (.iload_n 2, 1) := by decide +kernel
theorem d_M_follow_107 : decode c_M_follow 107 = .ok (.iload_n 3, 1) := by decide +kernel
theorem d_M_follow_108 : decode c_M_follow 108 = .ok (.iload 4, 2) := by decide +kernel
theorem d_M_follow_110 : decode c_M_follow 110 = .ok (.invokevirtual 156, 3) := by decide +kernel
theorem d_M_follow_113 : decode c_M_follow 113 = .ok (.return_, 1) := by decide +kernel
theorem d_M_isEntry_0 : decode c_M_isEntry 0 = .ok (.iload_n 2, 1) := by decide +kernel
theorem d_M_isEntry_1 : decode c_M_isEntry 1 = .ok (.bipush 64, 2) := by decide +kernel
theorem d_M_isEntry_3 : decode c_M_isEntry 3 = .ok (.if_icmp .ne 12, 3) := by decide +kernel
theorem d_M_isEntry_6 : decode c_M_isEntry 6 = .ok (.aload_n 0, 1) := by decide +kernel
theorem d_M_isEntry_7 : decode c_M_isEntry 7 = .ok (.getfield 54, 3) := by decide +kernel
theorem d_M_isEntry_10 : decode c_M_isEntry 10 = .ok (.iload_n 1, 1) := by decide +kernel
theorem d_M_isEntry_11 : decode c_M_isEntry 11 = .ok (.baload, 1) := by decide +kernel
theorem d_M_isEntry_12 : decode c_M_isEntry 12 = .ok (.goto 23, 3) := by decide +kernel
theorem d_M_isEntry_15 : decode c_M_isEntry 15 = .ok (.aload_n 0, 1) := by decide +kernel
theorem d_M_isEntry_16 : decode c_M_isEntry 16 = .ok (.getfield 51, 3) := by decide +kernel
theorem d_M_isEntry_19 : decode c_M_isEntry 19 = .ok (.iload_n 1, 1) := by decide +kernel
theorem d_M_isEntry_20 : decode c_M_isEntry 20 = .ok (.laload, 1) := by decide +kernel
theorem d_M_isEntry_21 : decode c_M_isEntry 21 = .ok (.iload_n 2, 1) := by decide +kernel
theorem d_M_isEntry_22 : decode c_M_isEntry 22 = .ok (.lshr, 1) := by decide +kernel
theorem d_M_isEntry_23 : decode c_M_isEntry 23 = .ok (.lconst 1, 1) := by decide +kernel
theorem d_M_isEntry_24 : decode c_M_isEntry 24 = .ok (.land, 1) := by decide +kernel
theorem d_M_isEntry_25 : decode c_M_isEntry 25 = .ok (.lconst 1, 1) := by decide +kernel
theorem d_M_isEntry_26 : decode c_M_isEntry 26 = .ok (.lcmp, 1) := by decide +kernel
theorem d_M_isEntry_27 : decode c_M_isEntry 27 = .ok (.ifCond .ne 7, 3) := by decide +kernel
theorem d_M_isEntry_30 : decode c_M_isEntry 30 = .ok (.iconst 1, 1) := by decide +kernel
theorem d_M_isEntry_31 : decode c_M_isEntry 31 = .ok (.goto 4, 3) := by decide +kernel
theorem d_M_isEntry_34 : decode c_M_isEntry 34 = .ok (.iconst 0, 1) := by decide +kernel
theorem d_M_isEntry_35 : decode c_M_isEntry 35 = .ok (.ireturn, 1) := by decide +kernel
theorem d_M_allFrom_0 : decode c_M_allFrom 0 = .ok (.iload_n 2, 1) := by decide +kernel
theorem d_M_allFrom_1 : decode c_M_allFrom 1 = .ok (.bipush 64, 2) := by decide +kernel
theorem d_M_allFrom_3 : decode c_M_allFrom 3 = .ok (.if_icmp .ne 12, 3) := by decide +kernel
theorem d_M_allFrom_6 : decode c_M_allFrom 6 = .ok (.aload_n 0, 1) := by decide +kernel
theorem d_M_allFrom_7 : decode c_M_allFrom 7 = .ok (.iload_n 1, 1) := by decide +kernel
theorem d_M_allFrom_8 : decode c_M_allFrom 8 = .ok (.iconst 0, 1) := by decide +kernel
theorem d_M_allFrom_9 : decode c_M_allFrom 9 = .ok (.invokevirtual 133, 3) := by decide +kernel
theorem d_M_allFrom_12 : decode c_M_allFrom 12 = .ok (.goto 13, 3) := by decide +kernel
theorem d_M_allFrom_15 : decode c_M_allFrom 15 = .ok (.aload_n 0, 1) := by decide +kernel
theorem d_M_allFrom_16 : decode c_M_allFrom 16 = .ok (.iload_n 1, 1) := by decide +kernel
theorem d_M_allFrom_17 : decode c_M_allFrom 17 = .ok (.iconst 0, 1) := by decide +kernel
theorem d_M_allFrom_18 : decode c_M_allFrom 18 = .ok (.iload_n 2, 1) := by decide +kernel
theorem d_M_allFrom_19 : decode c_M_allFrom 19 = .ok (.lconst 1, 1) := by decide +kernel
theorem d_M_allFrom_20 : decode c_M_allFrom 20 = .ok (.iload_n 2, 1) := by decide +kernel
theorem d_M_allFrom_21 : decode c_M_allFrom 21 = .ok (.lshl, 1) := by decide +kernel
theorem d_M_allFrom_22 : decode c_M_allFrom 22 = .ok (.invokevirtual 136, 3) := by decide +kernel
theorem d_M_allFrom_25 : decode c_M_allFrom 25 = .ok (.iconst 0, 1) := by decide +kernel
theorem d_M_allFrom_26 : decode c_M_allFrom 26 = .ok (.istore_n 3, 1) := by decide +kernel
theorem d_M_allFrom_27 : decode c_M_allFrom 27 = .ok (.iload_n 3, 1) := by decide +kernel
theorem d_M_allFrom_28 : decode c_M_allFrom 28 = .ok (.aload_n 0, 1) := by decide +kernel
theorem d_M_allFrom_29 : decode c_M_allFrom 29 = .ok (.getfield 7, 3) := by decide +kernel
theorem d_M_allFrom_32 : decode c_M_allFrom 32 = .ok (.iload_n 1, 1) := by decide +kernel
theorem d_M_allFrom_33 : decode c_M_allFrom 33 = .ok (.iaload, 1) := by decide +kernel
theorem d_M_allFrom_34 : decode c_M_allFrom 34 = .ok (.if_icmp .ge 89, 3) := by decide +kernel
theorem d_M_allFrom_37 : decode c_M_allFrom 37 = .ok (.iload_n 2, 1) := by decide +kernel
theorem d_M_allFrom_38 : decode c_M_allFrom 38 = .ok (.bipush 64, 2) := by decide +kernel
theorem d_M_allFrom_40 : decode c_M_allFrom 40 = .ok (.if_icmp .ne 26, 3) := by decide +kernel
theorem d_M_allFrom_43 : decode c_M_allFrom 43 = .ok (.aload_n 0, 1) := by decide +kernel
theorem d_M_allFrom_44 : decode c_M_allFrom 44 = .ok (.getfield 48, 3) := by decide +kernel
theorem d_M_allFrom_47 : decode c_M_allFrom 47 = .ok (.bipush 13, 2) := by decide +kernel
theorem d_M_allFrom_49 : decode c_M_allFrom 49 = .ok (.iload_n 1, 1) := by decide +kernel
theorem d_M_allFrom_50 : decode c_M_allFrom 50 = .ok (.imul, 1) := by decide +kernel
theorem d_M_allFrom_51 : decode c_M_allFrom 51 = .ok (.iload_n 3, 1) := by decide +kernel
theorem d_M_allFrom_52 : decode c_M_allFrom 52 = .ok (.iadd, 1) := by decide +kernel
theorem d_M_allFrom_53 : decode c_M_allFrom 53 = .ok (.baload, 1) := by decide +kernel
theorem d_M_allFrom_54 : decode c_M_allFrom 54 = .ok (.ifCond .eq 12, 3) := by decide +kernel
theorem d_M_allFrom_57 : decode c_M_allFrom 57 = .ok (.aload_n 0, 1) := by decide +kernel
theorem d_M_allFrom_58 : decode c_M_allFrom 58 = .ok (.iload_n 1, 1) := by decide +kernel
theorem d_M_allFrom_59 : decode c_M_allFrom 59 = .ok (.iload_n 3, 1) := by decide +kernel
theorem d_M_allFrom_60 : decode c_M_allFrom 60 = .ok (.iload_n 2, 1) := by decide +kernel
theorem d_M_allFrom_61 : decode c_M_allFrom 61 = .ok (.bipush 64, 2) := by decide +kernel
theorem d_M_allFrom_63 : decode c_M_allFrom 63 = .ok (.invokevirtual 159, 3) := by decide +kernel
theorem d_M_allFrom_66 : decode c_M_allFrom 66 = .ok (.aload_n 0, 1) := by decide +kernel
theorem d_M_allFrom_67 : decode c_M_allFrom 67 = .ok (.getfield 44, 3) := by decide +kernel
theorem d_M_allFrom_70 : decode c_M_allFrom 70 = .ok (.aload_n 0, 1) := by decide +kernel
theorem d_M_allFrom_71 : decode c_M_allFrom 71 = .ok (.iload_n 1, 1) := by decide +kernel
theorem d_M_allFrom_72 : decode c_M_allFrom 72 = .ok (.iload_n 3, 1) := by decide +kernel
theorem d_M_allFrom_73 : decode c_M_allFrom 73 = .ok (.iload_n 2, 1) := by decide +kernel
theorem d_M_allFrom_74 : decode c_M_allFrom 74 = .ok (.invokevirtual 130, 3) := by decide +kernel
theorem d_M_allFrom_77 : decode c_M_allFrom 77 = .ok (.laload, 1) := by decide +kernel
theorem d_M_allFrom_78 : decode c_M_allFrom 78 = .ok (.lstore 4, 2) := by decide +kernel
theorem d_M_allFrom_80 : decode c_M_allFrom 80 = .ok (.iconst 0, 1) := by decide +kernel
theorem d_M_allFrom_81 : decode c_M_allFrom 81 = .ok (.istore 6, 2) := by decide +kernel
theorem d_M_allFrom_83 : decode c_M_allFrom 83 = .ok (.iload 6, 2) := by decide +kernel
theorem d_M_allFrom_85 : decode c_M_allFrom 85 = .ok (.bipush 64, 2) := by decide +kernel
theorem d_M_allFrom_87 : decode c_M_allFrom 87 = .ok (.if_icmp .ge 30, 3) := by decide +kernel
theorem d_M_allFrom_90 : decode c_M_allFrom 90 = .ok (.lload 4, 2) := by decide +kernel
theorem d_M_allFrom_92 : decode c_M_allFrom 92 = .ok (.iload 6, 2) := by decide +kernel
theorem d_M_allFrom_94 : decode c_M_allFrom 94 = .ok (.lshr, 1) := by decide +kernel
theorem d_M_allFrom_95 : decode c_M_allFrom 95 = .ok (.lconst 1, 1) := by decide +kernel
theorem d_M_allFrom_96 : decode c_M_allFrom 96 = .ok (.land, 1) := by decide +kernel
theorem d_M_allFrom_97 : decode c_M_allFrom 97 = .ok (.lconst 1, 1) := by decide +kernel
theorem d_M_allFrom_98 : decode c_M_allFrom 98 = .ok (.lcmp, 1) := by decide +kernel
theorem d_M_allFrom_99 : decode c_M_allFrom 99 = .ok (.ifCond .ne 12, 3) := by decide +kernel
theorem d_M_allFrom_102 : decode c_M_allFrom 102 = .ok (.aload_n 0, 1) := by decide +kernel
theorem d_M_allFrom_103 : decode c_M_allFrom 103 = .ok (.iload_n 1, 1) := by decide +kernel
theorem d_M_allFrom_104 : decode c_M_allFrom 104 = .ok (.iload_n 3, 1) := by decide +kernel
theorem d_M_allFrom_105 : decode c_M_allFrom 105 = .ok (.iload_n 2, 1) := by decide +kernel
theorem d_M_allFrom_106 : decode c_M_allFrom 106 = .ok (.iload 6, 2) := by decide +kernel
theorem d_M_allFrom_108 : decode c_M_allFrom 108 = .ok (.invokevirtual 159, 3) := by decide +kernel
theorem d_M_allFrom_111 : decode c_M_allFrom 111 = .ok (.iinc 6 1, 3) := by decide +kernel
theorem d_M_allFrom_114 : decode c_M_allFrom 114 = .ok (.goto (-31), 3) := by decide +kernel
theorem d_M_allFrom_117 : decode c_M_allFrom 117 = .ok (.iinc 3 1, 3) := by decide +kernel
theorem d_M_allFrom_120 : decode c_M_allFrom 120 = .ok (.goto (-93), 3) := by decide +kernel
theorem d_M_allFrom_123 : decode c_M_allFrom 123 = .ok (.return_, 1) := by decide +kernel
theorem d_M_workFacts_0 : decode c_M_workFacts 0 = .ok (.iconst 0, 1) := by decide +kernel
theorem d_M_workFacts_1 : decode c_M_workFacts 1 = .ok (.istore_n 1, 1) := by decide +kernel
theorem d_M_workFacts_2 : decode c_M_workFacts 2 = .ok (.iload_n 1, 1) := by decide +kernel
theorem d_M_workFacts_3 : decode c_M_workFacts 3 = .ok (.sipush 5070, 3) := by decide +kernel
theorem d_M_workFacts_6 : decode c_M_workFacts 6 = .ok (.if_icmp .ge 16, 3) := by decide +kernel
theorem d_M_workFacts_9 : decode c_M_workFacts 9 = .ok (.aload_n 0, 1) := by decide +kernel
theorem d_M_workFacts_10 : decode c_M_workFacts 10 = .ok (.getfield 44, 3) := by decide +kernel
theorem d_M_workFacts_13 : decode c_M_workFacts 13 = .ok (.iload_n 1, 1) := by decide +kernel
theorem d_M_workFacts_14 : decode c_M_workFacts 14 = .ok (.lconst 0, 1) := by decide +kernel
theorem d_M_workFacts_15 : decode c_M_workFacts 15 = .ok (.lastore, 1) := by decide +kernel
theorem d_M_workFacts_16 : decode c_M_workFacts 16 = .ok (.iinc 1 1, 3) := by decide +kernel
theorem d_M_workFacts_19 : decode c_M_workFacts 19 = .ok (.goto (-17), 3) := by decide +kernel
theorem d_M_workFacts_22 : decode c_M_workFacts 22 = .ok (.iconst 0, 1) := by decide +kernel
theorem d_M_workFacts_23 : decode c_M_workFacts 23 = .ok (.istore_n 1, 1) := by decide +kernel
theorem d_M_workFacts_24 : decode c_M_workFacts 24 = .ok (.iload_n 1, 1) := by decide +kernel
theorem d_M_workFacts_25 : decode c_M_workFacts 25 = .ok (.bipush 78, 2) := by decide +kernel
theorem d_M_workFacts_27 : decode c_M_workFacts 27 = .ok (.if_icmp .ge 16, 3) := by decide +kernel
theorem d_M_workFacts_30 : decode c_M_workFacts 30 = .ok (.aload_n 0, 1) := by decide +kernel
theorem d_M_workFacts_31 : decode c_M_workFacts 31 = .ok (.getfield 48, 3) := by decide +kernel
theorem d_M_workFacts_34 : decode c_M_workFacts 34 = .ok (.iload_n 1, 1) := by decide +kernel
theorem d_M_workFacts_35 : decode c_M_workFacts 35 = .ok (.iconst 0, 1) := by decide +kernel
theorem d_M_workFacts_36 : decode c_M_workFacts 36 = .ok (.bastore, 1) := by decide +kernel
theorem d_M_workFacts_37 : decode c_M_workFacts 37 = .ok (.iinc 1 1, 3) := by decide +kernel
theorem d_M_workFacts_40 : decode c_M_workFacts 40 = .ok (.goto (-16), 3) := by decide +kernel
theorem d_M_workFacts_43 : decode c_M_workFacts 43 = .ok (.iconst 0, 1) := by decide +kernel
theorem d_M_workFacts_44 : decode c_M_workFacts 44 = .ok (.istore_n 1, 1) := by decide +kernel
theorem d_M_workFacts_45 : decode c_M_workFacts 45 = .ok (.iload_n 1, 1) := by decide +kernel
theorem d_M_workFacts_46 : decode c_M_workFacts 46 = .ok (.bipush 6, 2) := by decide +kernel
theorem d_M_workFacts_48 : decode c_M_workFacts 48 = .ok (.if_icmp .ge 31, 3) := by decide +kernel
theorem d_M_workFacts_51 : decode c_M_workFacts 51 = .ok (.aload_n 0, 1) := by decide +kernel
theorem d_M_workFacts_52 : decode c_M_workFacts 52 = .ok (.getfield 51, 3) := by decide +kernel
theorem d_M_workFacts_55 : decode c_M_workFacts 55 = .ok (.iload_n 1, 1) := by decide +kernel
theorem d_M_workFacts_56 : decode c_M_workFacts 56 = .ok (.lconst 0, 1) := by decide +kernel
theorem d_M_workFacts_57 : decode c_M_workFacts 57 = .ok (.lastore, 1) := by decide +kernel
theorem d_M_workFacts_58 : decode c_M_workFacts 58 = .ok (.aload_n 0, 1) := by decide +kernel
theorem d_M_workFacts_59 : decode c_M_workFacts 59 = .ok (.getfield 54, 3) := by decide +kernel
theorem d_M_workFacts_62 : decode c_M_workFacts 62 = .ok (.iload_n 1, 1) := by decide +kernel
theorem d_M_workFacts_63 : decode c_M_workFacts 63 = .ok (.iload_n 1, 1) := by decide +kernel
theorem d_M_workFacts_64 : decode c_M_workFacts 64 = .ok (.ifCond .ne 7, 3) := by decide +kernel
theorem d_M_workFacts_67 : decode c_M_workFacts 67 = .ok (.iconst 1, 1) := by decide +kernel
theorem d_M_workFacts_68 : decode c_M_workFacts 68 = .ok (.goto 4, 3) := by decide +kernel
theorem d_M_workFacts_71 : decode c_M_workFacts 71 = .ok (.iconst 0, 1) := by decide +kernel
theorem d_M_workFacts_72 : decode c_M_workFacts 72 = .ok (.bastore, 1) := by decide +kernel
theorem d_M_workFacts_73 : decode c_M_workFacts 73 = .ok (.iinc 1 1, 3) := by decide +kernel
theorem d_M_workFacts_76 : decode c_M_workFacts 76 = .ok (.goto (-31), 3) := by decide +kernel
theorem d_M_workFacts_79 : decode c_M_workFacts 79 = .ok (.aload_n 0, 1) := by decide +kernel
theorem d_M_workFacts_80 : decode c_M_workFacts 80 = .ok (.iconst 1, 1) := by decide +kernel
theorem d_M_workFacts_81 : decode c_M_workFacts 81 = .ok (.putfield 111, 3) := by decide +kernel
theorem d_M_workFacts_84 : decode c_M_workFacts 84 = .ok (.iconst 0, 1) := by decide +kernel
theorem d_M_workFacts_85 : decode c_M_workFacts 85 = .ok (.istore_n 1, 1) := by decide +kernel
theorem d_M_workFacts_86 : decode c_M_workFacts 86 = .ok (.iload_n 1, 1) := by decide +kernel
theorem d_M_workFacts_87 : decode c_M_workFacts 87 = .ok (.ldc 162, 2) := by decide +kernel
theorem d_M_workFacts_89 : decode c_M_workFacts 89 = .ok (.if_icmp .ge 64, 3) := by decide +kernel
theorem d_M_workFacts_92 : decode c_M_workFacts 92 = .ok (.aload_n 0, 1) := by decide +kernel
theorem d_M_workFacts_93 : decode c_M_workFacts 93 = .ok (.getfield 111, 3) := by decide +kernel
theorem d_M_workFacts_96 : decode c_M_workFacts 96 = .ok (.ifCond .eq 57, 3) := by decide +kernel
theorem d_M_workFacts_99 : decode c_M_workFacts 99 = .ok (.aload_n 0, 1) := by decide +kernel
theorem d_M_workFacts_100 : decode c_M_workFacts 100 = .ok (.iconst 0, 1) := by decide +kernel
theorem d_M_workFacts_101 : decode c_M_workFacts 101 = .ok (.putfield 111, 3) := by decide +kernel
theorem d_M_workFacts_104 : decode c_M_workFacts 104 = .ok (.iconst 0, 1) := by decide +kernel
theorem d_M_workFacts_105 : decode c_M_workFacts 105 = .ok (.istore_n 2, 1) := by decide +kernel
theorem d_M_workFacts_106 : decode c_M_workFacts 106 = .ok (.iload_n 2, 1) := by decide +kernel
theorem d_M_workFacts_107 : decode c_M_workFacts 107 = .ok (.bipush 6, 2) := by decide +kernel
theorem d_M_workFacts_109 : decode c_M_workFacts 109 = .ok (.if_icmp .ge 38, 3) := by decide +kernel
theorem d_M_workFacts_112 : decode c_M_workFacts 112 = .ok (.iconst 0, 1) := by decide +kernel
theorem d_M_workFacts_113 : decode c_M_workFacts 113 = .ok (.istore_n 3, 1) := by decide +kernel
theorem d_M_workFacts_114 : decode c_M_workFacts 114 = .ok (.iload_n 3, 1) := by decide +kernel
theorem d_M_workFacts_115 : decode c_M_workFacts 115 = .ok (.bipush 64, 2) := by decide +kernel
theorem d_M_workFacts_117 : decode c_M_workFacts 117 = .ok (.if_icmp .gt 24, 3) := by decide +kernel
theorem d_M_workFacts_120 : decode c_M_workFacts 120 = .ok (.aload_n 0, 1) := by decide +kernel
theorem d_M_workFacts_121 : decode c_M_workFacts 121 = .ok (.iload_n 2, 1) := by decide +kernel
theorem d_M_workFacts_122 : decode c_M_workFacts 122 = .ok (.iload_n 3, 1) := by decide +kernel
theorem d_M_workFacts_123 : decode c_M_workFacts 123 = .ok (.invokevirtual 163, 3) := by decide +kernel
theorem d_M_workFacts_126 : decode c_M_workFacts 126 = .ok (.ifCond .eq 9, 3) := by decide +kernel
theorem d_M_workFacts_129 : decode c_M_workFacts 129 = .ok (.aload_n 0, 1) := by decide +kernel
theorem d_M_workFacts_130 : decode c_M_workFacts 130 = .ok (.iload_n 2, 1) := by decide +kernel
theorem d_M_workFacts_131 : decode c_M_workFacts 131 = .ok (.iload_n 3, 1) := by decide +kernel
theorem d_M_workFacts_132 : decode c_M_workFacts 132 = .ok (.invokevirtual 167, 3) := by decide +kernel
theorem d_M_workFacts_135 : decode c_M_workFacts 135 = .ok (.iinc 3 1, 3) := by decide +kernel
theorem d_M_workFacts_138 : decode c_M_workFacts 138 = .ok (.goto (-24), 3) := by decide +kernel
theorem d_M_workFacts_141 : decode c_M_workFacts 141 = .ok (.iinc 2 1, 3) := by decide +kernel
theorem d_M_workFacts_144 : decode c_M_workFacts 144 = .ok (.goto (-38), 3) := by decide +kernel
theorem d_M_workFacts_147 : decode c_M_workFacts 147 = .ok (.iinc 1 1, 3) := by decide +kernel
theorem d_M_workFacts_150 : decode c_M_workFacts 150 = .ok (.goto (-64), 3) := by decide +kernel
theorem d_M_workFacts_153 : decode c_M_workFacts 153 = .ok (.return_, 1) := by decide +kernel
theorem d_M_bits_0 : decode c_M_bits 0 = .ok (.iconst 0, 1) := by decide +kernel
theorem d_M_bits_1 : decode c_M_bits 1 = .ok (.istore_n 2, 1) := by decide +kernel
theorem d_M_bits_2 : decode c_M_bits 2 = .ok (.iconst 0, 1) := by decide +kernel
theorem d_M_bits_3 : decode c_M_bits 3 = .ok (.istore_n 3, 1) := by decide +kernel
theorem d_M_bits_4 : decode c_M_bits 4 = .ok (.iload_n 3, 1) := by decide +kernel
theorem d_M_bits_5 : decode c_M_bits 5 = .ok (.bipush 64, 2) := by decide +kernel
theorem d_M_bits_7 : decode c_M_bits 7 = .ok (.if_icmp .ge 18, 3) := by decide +kernel
theorem d_M_bits_10 : decode c_M_bits 10 = .ok (.iload_n 2, 1) := by decide +kernel
theorem d_M_bits_11 : decode c_M_bits 11 = .ok (.lload_n 0, 1) := by decide +kernel
theorem d_M_bits_12 : decode c_M_bits 12 = .ok (.iload_n 3, 1) := by decide +kernel
theorem d_M_bits_13 : decode c_M_bits 13 = .ok (.lshr, 1) := by decide +kernel
theorem d_M_bits_14 : decode c_M_bits 14 = .ok (.lconst 1, 1) := by decide +kernel
theorem d_M_bits_15 : decode c_M_bits 15 = .ok (.land, 1) := by decide +kernel
theorem d_M_bits_16 : decode c_M_bits 16 = .ok (.l2i, 1) := by decide +kernel
theorem d_M_bits_17 : decode c_M_bits 17 = .ok (.iadd, 1) := by decide +kernel
theorem d_M_bits_18 : decode c_M_bits 18 = .ok (.istore_n 2, 1) := by decide +kernel
theorem d_M_bits_19 : decode c_M_bits 19 = .ok (.iinc 3 1, 3) := by decide +kernel
theorem d_M_bits_22 : decode c_M_bits 22 = .ok (.goto (-18), 3) := by decide +kernel
theorem d_M_bits_25 : decode c_M_bits 25 = .ok (.iload_n 2, 1) := by decide +kernel
theorem d_M_bits_26 : decode c_M_bits 26 = .ok (.ireturn, 1) := by decide +kernel
theorem d_M_analyse_0 : decode c_M_analyse 0 = .ok (.aload_n 0, 1) := by decide +kernel
theorem d_M_analyse_1 : decode c_M_analyse 1 = .ok (.invokevirtual 170, 3) := by decide +kernel
theorem d_M_analyse_4 : decode c_M_analyse 4 = .ok (.aload_n 0, 1) := by decide +kernel
theorem d_M_analyse_5 : decode c_M_analyse 5 = .ok (.invokevirtual 173, 3) := by decide +kernel
theorem d_M_analyse_8 : decode c_M_analyse 8 = .ok (.aload_n 0, 1) := by decide +kernel
theorem d_M_analyse_9 : decode c_M_analyse 9 = .ok (.invokevirtual 176, 3) := by decide +kernel
theorem d_M_analyse_12 : decode c_M_analyse 12 = .ok (.iconst 0, 1) := by decide +kernel
theorem d_M_analyse_13 : decode c_M_analyse 13 = .ok (.istore_n 2, 1) := by decide +kernel
theorem d_M_analyse_14 : decode c_M_analyse 14 = .ok (.iconst 0, 1) := by decide +kernel
theorem d_M_analyse_15 : decode c_M_analyse 15 = .ok (.istore_n 3, 1) := by decide +kernel
theorem d_M_analyse_16 : decode c_M_analyse 16 = .ok (.iload_n 3, 1) := by decide +kernel
theorem d_M_analyse_17 : decode c_M_analyse 17 = .ok (.sipush 5070, 3) := by decide +kernel
theorem d_M_analyse_20 : decode c_M_analyse 20 = .ok (.if_icmp .ge 36, 3) := by decide +kernel
theorem d_M_analyse_23 : decode c_M_analyse 23 = .ok (.iload_n 2, 1) := by decide +kernel
theorem d_M_analyse_24 : decode c_M_analyse 24 = .ok (.aload_n 0, 1) := by decide +kernel
theorem d_M_analyse_25 : decode c_M_analyse 25 = .ok (.getfield 44, 3) := by decide +kernel
theorem d_M_analyse_28 : decode c_M_analyse 28 = .ok (.iload_n 3, 1) := by decide +kernel
theorem d_M_analyse_29 : decode c_M_analyse 29 = .ok (.laload, 1) := by decide +kernel
theorem d_M_analyse_30 : decode c_M_analyse 30 = .ok (.lconst 0, 1) := by decide +kernel
theorem d_M_analyse_31 : decode c_M_analyse 31 = .ok (.lcmp, 1) := by decide +kernel
theorem d_M_analyse_32 : decode c_M_analyse 32 = .ok (.ifCond .ne 7, 3) := by decide +kernel
theorem d_M_analyse_35 : decode c_M_analyse 35 = .ok (.iconst 0, 1) := by decide +kernel
theorem d_M_analyse_36 : decode c_M_analyse 36 = .ok (.goto 12, 3) := by decide +kernel
theorem d_M_analyse_39 : decode c_M_analyse 39 = .ok (.aload_n 0, 1) := by decide +kernel
theorem d_M_analyse_40 : decode c_M_analyse 40 = .ok (.getfield 44, 3) := by decide +kernel
theorem d_M_analyse_43 : decode c_M_analyse 43 = .ok (.iload_n 3, 1) := by decide +kernel
theorem d_M_analyse_44 : decode c_M_analyse 44 = .ok (.laload, 1) := by decide +kernel
theorem d_M_analyse_45 : decode c_M_analyse 45 = .ok (.invokestatic 179, 3) := by decide +kernel
theorem d_M_analyse_48 : decode c_M_analyse 48 = .ok (.iadd, 1) := by decide +kernel
theorem d_M_analyse_49 : decode c_M_analyse 49 = .ok (.istore_n 2, 1) := by decide +kernel
theorem d_M_analyse_50 : decode c_M_analyse 50 = .ok (.iinc 3 1, 3) := by decide +kernel
theorem d_M_analyse_53 : decode c_M_analyse 53 = .ok (.goto (-37), 3) := by decide +kernel
theorem d_M_analyse_56 : decode c_M_analyse 56 = .ok (.iconst 0, 1) := by decide +kernel
theorem d_M_analyse_57 : decode c_M_analyse 57 = .ok (.istore_n 3, 1) := by decide +kernel
theorem d_M_analyse_58 : decode c_M_analyse 58 = .ok (.iload_n 3, 1) := by decide +kernel
theorem d_M_analyse_59 : decode c_M_analyse 59 = .ok (.bipush 78, 2) := by decide +kernel
theorem d_M_analyse_61 : decode c_M_analyse 61 = .ok (.if_icmp .ge 26, 3) := by decide +kernel
theorem d_M_analyse_64 : decode c_M_analyse 64 = .ok (.iload_n 2, 1) := by decide +kernel
theorem d_M_analyse_65 : decode c_M_analyse 65 = .ok (.aload_n 0, 1) := by decide +kernel
theorem d_M_analyse_66 : decode c_M_analyse 66 = .ok (.getfield 48, 3) := by decide +kernel
theorem d_M_analyse_69 : decode c_M_analyse 69 = .ok (.iload_n 3, 1) := by decide +kernel
theorem d_M_analyse_70 : decode c_M_analyse 70 = .ok (.baload, 1) := by decide +kernel
theorem d_M_analyse_71 : decode c_M_analyse 71 = .ok (.ifCond .eq 7, 3) := by decide +kernel
theorem d_M_analyse_74 : decode c_M_analyse 74 = .ok (.iconst 1, 1) := by decide +kernel
theorem d_M_analyse_75 : decode c_M_analyse 75 = .ok (.goto 4, 3) := by decide +kernel
theorem d_M_analyse_78 : decode c_M_analyse 78 = .ok (.iconst 0, 1) := by decide +kernel
theorem d_M_analyse_79 : decode c_M_analyse 79 = .ok (.iadd, 1) := by decide +kernel
theorem d_M_analyse_80 : decode c_M_analyse 80 = .ok (.istore_n 2, 1) := by decide +kernel
theorem d_M_analyse_81 : decode c_M_analyse 81 = .ok (.iinc 3 1, 3) := by decide +kernel
theorem d_M_analyse_84 : decode c_M_analyse 84 = .ok (.goto (-26), 3) := by decide +kernel
theorem d_M_analyse_87 : decode c_M_analyse 87 = .ok (.aload_n 0, 1) := by decide +kernel
theorem d_M_analyse_88 : decode c_M_analyse 88 = .ok (.iload_n 2, 1) := by decide +kernel
theorem d_M_analyse_89 : decode c_M_analyse 89 = .ok (.iload_n 1, 1) := by decide +kernel
theorem d_M_analyse_90 : decode c_M_analyse 90 = .ok (.if_icmp .gt 7, 3) := by decide +kernel
theorem d_M_analyse_93 : decode c_M_analyse 93 = .ok (.iconst 1, 1) := by decide +kernel
theorem d_M_analyse_94 : decode c_M_analyse 94 = .ok (.goto 4, 3) := by decide +kernel
theorem d_M_analyse_97 : decode c_M_analyse 97 = .ok (.iconst 2, 1) := by decide +kernel
theorem d_M_analyse_98 : decode c_M_analyse 98 = .ok (.putfield 85, 3) := by decide +kernel
theorem d_M_analyse_101 : decode c_M_analyse 101 = .ok (.aload_n 0, 1) := by decide +kernel
theorem d_M_analyse_102 : decode c_M_analyse 102 = .ok (.getfield 85, 3) := by decide +kernel
theorem d_M_analyse_105 : decode c_M_analyse 105 = .ok (.iconst 1, 1) := by decide +kernel
theorem d_M_analyse_106 : decode c_M_analyse 106 = .ok (.if_icmp .ne 7, 3) := by decide +kernel
theorem d_M_analyse_109 : decode c_M_analyse 109 = .ok (.iload_n 2, 1) := by decide +kernel
theorem d_M_analyse_110 : decode c_M_analyse 110 = .ok (.goto 4, 3) := by decide +kernel
theorem d_M_analyse_113 : decode c_M_analyse 113 = .ok (.iconst (-1), 1) := by decide +kernel
theorem d_M_analyse_114 : decode c_M_analyse 114 = .ok (.ireturn, 1) := by decide +kernel
theorem d_M_verdict_0 : decode c_M_verdict 0 = .ok (.aload_n 0, 1) := by decide +kernel
theorem d_M_verdict_1 : decode c_M_verdict 1 = .ok (.getfield 85, 3) := by decide +kernel
theorem d_M_verdict_4 : decode c_M_verdict 4 = .ok (.ireturn, 1) := by decide +kernel
theorem d_M_may_0 : decode c_M_may 0 = .ok (.aload_n 0, 1) := by decide +kernel
theorem d_M_may_1 : decode c_M_may 1 = .ok (.getfield 85, 3) := by decide +kernel
theorem d_M_may_4 : decode c_M_may 4 = .ok (.iconst 1, 1) := by decide +kernel
theorem d_M_may_5 : decode c_M_may 5 = .ok (.if_icmp .ne 22, 3) := by decide +kernel
theorem d_M_may_8 : decode c_M_may 8 = .ok (.iload_n 1, 1) := by decide +kernel
theorem d_M_may_9 : decode c_M_may 9 = .ok (.iconst 0, 1) := by decide +kernel
theorem d_M_may_10 : decode c_M_may 10 = .ok (.iconst 5, 1) := by decide +kernel
theorem d_M_may_11 : decode c_M_may 11 = .ok (.invokestatic 81, 3) := by decide +kernel
theorem d_M_may_14 : decode c_M_may 14 = .ok (.ifCond .eq 13, 3) := by decide +kernel
theorem d_M_may_17 : decode c_M_may 17 = .ok (.iload_n 3, 1) := by decide +kernel
theorem d_M_may_18 : decode c_M_may 18 = .ok (.iconst 0, 1) := by decide +kernel
theorem d_M_may_19 : decode c_M_may 19 = .ok (.bipush 15, 2) := by decide +kernel
theorem d_M_may_21 : decode c_M_may 21 = .ok (.invokestatic 81, 3) := by decide +kernel
theorem d_M_may_24 : decode c_M_may 24 = .ok (.ifCond .ne 5, 3) := by decide +kernel
theorem d_M_may_27 : decode c_M_may 27 = .ok (.iconst 0, 1) := by decide +kernel
theorem d_M_may_28 : decode c_M_may 28 = .ok (.ireturn, 1) := by decide +kernel
theorem d_M_may_29 : decode c_M_may 29 = .ok (.aload_n 0, 1) := by decide +kernel
theorem d_M_may_30 : decode c_M_may 30 = .ok (.iconst 1, 1) := by decide +kernel
theorem d_M_may_31 : decode c_M_may 31 = .ok (.bipush 6, 2) := by decide +kernel
theorem d_M_may_33 : decode c_M_may 33 = .ok (.iconst 0, 1) := by decide +kernel
theorem d_M_may_34 : decode c_M_may 34 = .ok (.invokevirtual 96, 3) := by decide +kernel
theorem d_M_may_37 : decode c_M_may 37 = .ok (.istore 5, 2) := by decide +kernel
theorem d_M_may_39 : decode c_M_may 39 = .ok (.iload_n 2, 1) := by decide +kernel
theorem d_M_may_40 : decode c_M_may 40 = .ok (.iconst 0, 1) := by decide +kernel
theorem d_M_may_41 : decode c_M_may 41 = .ok (.aload_n 0, 1) := by decide +kernel
theorem d_M_may_42 : decode c_M_may 42 = .ok (.getfield 7, 3) := by decide +kernel
theorem d_M_may_45 : decode c_M_may 45 = .ok (.iload_n 1, 1) := by decide +kernel
theorem d_M_may_46 : decode c_M_may 46 = .ok (.iaload, 1) := by decide +kernel
theorem d_M_may_47 : decode c_M_may 47 = .ok (.invokestatic 81, 3) := by decide +kernel
theorem d_M_may_50 : decode c_M_may 50 = .ok (.ifCond .eq 16, 3) := by decide +kernel
theorem d_M_may_53 : decode c_M_may 53 = .ok (.iload 4, 2) := by decide +kernel
theorem d_M_may_55 : decode c_M_may 55 = .ok (.iconst 0, 1) := by decide +kernel
theorem d_M_may_56 : decode c_M_may 56 = .ok (.iload 5, 2) := by decide +kernel
theorem d_M_may_58 : decode c_M_may 58 = .ok (.iconst 1, 1) := by decide +kernel
theorem d_M_may_59 : decode c_M_may 59 = .ok (.isub, 1) := by decide +kernel
theorem d_M_may_60 : decode c_M_may 60 = .ok (.invokestatic 81, 3) := by decide +kernel
theorem d_M_may_63 : decode c_M_may 63 = .ok (.ifCond .ne 5, 3) := by decide +kernel
theorem d_M_may_66 : decode c_M_may 66 = .ok (.iconst 0, 1) := by decide +kernel
theorem d_M_may_67 : decode c_M_may 67 = .ok (.ireturn, 1) := by decide +kernel
theorem d_M_may_68 : decode c_M_may 68 = .ok (.iconst 0, 1) := by decide +kernel
theorem d_M_may_69 : decode c_M_may 69 = .ok (.istore 6, 2) := by decide +kernel
theorem d_M_may_71 : decode c_M_may 71 = .ok (.iconst 0, 1) := by decide +kernel
theorem d_M_may_72 : decode c_M_may 72 = .ok (.istore 7, 2) := by decide +kernel
theorem d_M_may_74 : decode c_M_may 74 = .ok (.iload 7, 2) := by decide +kernel
theorem d_M_may_76 : decode c_M_may 76 = .ok (.bipush 64, 2) := by decide +kernel
theorem d_M_may_78 : decode c_M_may 78 = .ok (.if_icmp .gt 53, 3) := by decide +kernel
theorem d_M_may_81 : decode c_M_may 81 = .ok (.aload_n 0, 1) := by decide +kernel
theorem d_M_may_82 : decode c_M_may 82 = .ok (.getfield 44, 3) := by decide +kernel
theorem d_M_may_85 : decode c_M_may 85 = .ok (.aload_n 0, 1) := by decide +kernel
theorem d_M_may_86 : decode c_M_may 86 = .ok (.iload_n 1, 1) := by decide +kernel
theorem d_M_may_87 : decode c_M_may 87 = .ok (.iload_n 2, 1) := by decide +kernel
theorem d_M_may_88 : decode c_M_may 88 = .ok (.iload 7, 2) := by decide +kernel
theorem d_M_may_90 : decode c_M_may 90 = .ok (.invokevirtual 130, 3) := by decide +kernel
theorem d_M_may_93 : decode c_M_may 93 = .ok (.laload, 1) := by decide +kernel
theorem d_M_may_94 : decode c_M_may 94 = .ok (.lstore 8, 2) := by decide +kernel
theorem d_M_may_96 : decode c_M_may 96 = .ok (.iload 6, 2) := by decide +kernel
theorem d_M_may_98 : decode c_M_may 98 = .ok (.ifCond .ne 20, 3) := by decide +kernel
theorem d_M_may_101 : decode c_M_may 101 = .ok (.lload 8, 2) := by decide +kernel
theorem d_M_may_103 : decode c_M_may 103 = .ok (.bipush 16, 2) := by decide +kernel
theorem d_M_may_105 : decode c_M_may 105 = .ok (.iload 4, 2) := by decide +kernel
theorem d_M_may_107 : decode c_M_may 107 = .ok (.imul, 1) := by decide +kernel
theorem d_M_may_108 : decode c_M_may 108 = .ok (.iload_n 3, 1) := by decide +kernel
theorem d_M_may_109 : decode c_M_may 109 = .ok (.iadd, 1) := by decide +kernel
theorem d_M_may_110 : decode c_M_may 110 = .ok (.lshr, 1) := by decide +kernel
theorem d_M_may_111 : decode c_M_may 111 = .ok (.lconst 1, 1) := by decide +kernel
theorem d_M_may_112 : decode c_M_may 112 = .ok (.land, 1) := by decide +kernel
theorem d_M_may_113 : decode c_M_may 113 = .ok (.lconst 1, 1) := by decide +kernel
theorem d_M_may_114 : decode c_M_may 114 = .ok (.lcmp, 1) := by decide +kernel
theorem d_M_may_115 : decode c_M_may 115 = .ok (.ifCond .ne 7, 3) := by decide +kernel
theorem d_M_may_118 : decode c_M_may 118 = .ok (.iconst 1, 1) := by decide +kernel
theorem d_M_may_119 : decode c_M_may 119 = .ok (.goto 4, 3) := by decide +kernel
theorem d_M_may_122 : decode c_M_may 122 = .ok (.iconst 0, 1) := by decide +kernel
theorem d_M_may_123 : decode c_M_may 123 = .ok (.istore 6, 2) := by decide +kernel
theorem d_M_may_125 : decode c_M_may 125 = .ok (.iinc 7 1, 3) := by decide +kernel
theorem d_M_may_128 : decode c_M_may 128 = .ok (.goto (-54), 3) := by decide +kernel
theorem d_M_may_131 : decode c_M_may 131 = .ok (.iload 6, 2) := by decide +kernel
theorem d_M_may_133 : decode c_M_may 133 = .ok (.ireturn, 1) := by decide +kernel
theorem d_M_finding_0 : decode c_M_finding 0 = .ok (.iconst 0, 1) := by decide +kernel
theorem d_M_finding_1 : decode c_M_finding 1 = .ok (.istore_n 3, 1) := by decide +kernel
theorem d_M_finding_2 : decode c_M_finding 2 = .ok (.iconst 0, 1) := by decide +kernel
theorem d_M_finding_3 : decode c_M_finding 3 = .ok (.istore 4, 2) := by decide +kernel
theorem d_M_finding_5 : decode c_M_finding 5 = .ok (.iconst 0, 1) := by decide +kernel
theorem d_M_finding_6 : decode c_M_finding 6 = .ok (.istore 5, 2) := by decide +kernel
theorem d_M_finding_8 : decode c_M_finding 8 = .ok (.iload 5, 2) := by decide +kernel
theorem d_M_finding_10 : decode c_M_finding 10 = .ok (.bipush 72, 2) := by decide +kernel
theorem d_M_finding_12 : decode c_M_finding 12 = .ok (.if_icmp .ge 93, 3) := by decide +kernel
theorem d_M_finding_15 : decode c_M_finding 15 = .ok (.iload 5, 2) := by decide +kernel
theorem d_M_finding_17 : decode c_M_finding 17 = .ok (.bipush 12, 2) := by decide +kernel
theorem d_M_finding_19 : decode c_M_finding 19 = .ok (.idiv, 1) := by decide +kernel
theorem d_M_finding_20 : decode c_M_finding 20 = .ok (.istore 6, 2) := by decide +kernel
theorem d_M_finding_22 : decode c_M_finding 22 = .ok (.iload 5, 2) := by decide +kernel
theorem d_M_finding_24 : decode c_M_finding 24 = .ok (.bipush 12, 2) := by decide +kernel
theorem d_M_finding_26 : decode c_M_finding 26 = .ok (.irem, 1) := by decide +kernel
theorem d_M_finding_27 : decode c_M_finding 27 = .ok (.aload_n 0, 1) := by decide +kernel
theorem d_M_finding_28 : decode c_M_finding 28 = .ok (.getfield 7, 3) := by decide +kernel
theorem d_M_finding_31 : decode c_M_finding 31 = .ok (.iload 6, 2) := by decide +kernel
theorem d_M_finding_33 : decode c_M_finding 33 = .ok (.iaload, 1) := by decide +kernel
theorem d_M_finding_34 : decode c_M_finding 34 = .ok (.if_icmp .ge 18, 3) := by decide +kernel
theorem d_M_finding_37 : decode c_M_finding 37 = .ok (.aload_n 0, 1) := by decide +kernel
theorem d_M_finding_38 : decode c_M_finding 38 = .ok (.getfield 13, 3) := by decide +kernel
theorem d_M_finding_41 : decode c_M_finding 41 = .ok (.iload 5, 2) := by decide +kernel
theorem d_M_finding_43 : decode c_M_finding 43 = .ok (.iaload, 1) := by decide +kernel
theorem d_M_finding_44 : decode c_M_finding 44 = .ok (.iconst 2, 1) := by decide +kernel
theorem d_M_finding_45 : decode c_M_finding 45 = .ok (.if_icmp .ne 7, 3) := by decide +kernel
theorem d_M_finding_48 : decode c_M_finding 48 = .ok (.iconst 1, 1) := by decide +kernel
theorem d_M_finding_49 : decode c_M_finding 49 = .ok (.goto 4, 3) := by decide +kernel
theorem d_M_finding_52 : decode c_M_finding 52 = .ok (.iconst 0, 1) := by decide +kernel
theorem d_M_finding_53 : decode c_M_finding 53 = .ok (.istore 7, 2) := by decide +kernel
theorem d_M_finding_55 : decode c_M_finding 55 = .ok (.iload 7, 2) := by decide +kernel
theorem d_M_finding_57 : decode c_M_finding 57 = .ok (.ifCond .eq 29, 3) := by decide +kernel
theorem d_M_finding_60 : decode c_M_finding 60 = .ok (.iload_n 3, 1) := by decide +kernel
theorem d_M_finding_61 : decode c_M_finding 61 = .ok (.iload_n 2, 1) := by decide +kernel
theorem d_M_finding_62 : decode c_M_finding 62 = .ok (.if_icmp .ne 24, 3) := by decide +kernel
theorem d_M_finding_65 : decode c_M_finding 65 = .ok (.aload_n 0, 1) := by decide +kernel
theorem d_M_finding_66 : decode c_M_finding 66 = .ok (.iload 6, 2) := by decide +kernel
theorem d_M_finding_68 : decode c_M_finding 68 = .ok (.iload 5, 2) := by decide +kernel
theorem d_M_finding_70 : decode c_M_finding 70 = .ok (.bipush 12, 2) := by decide +kernel
theorem d_M_finding_72 : decode c_M_finding 72 = .ok (.irem, 1) := by decide +kernel
theorem d_M_finding_73 : decode c_M_finding 73 = .ok (.aload_n 0, 1) := by decide +kernel
theorem d_M_finding_74 : decode c_M_finding 74 = .ok (.getfield 16, 3) := by decide +kernel
theorem d_M_finding_77 : decode c_M_finding 77 = .ok (.iload 5, 2) := by decide +kernel
theorem d_M_finding_79 : decode c_M_finding 79 = .ok (.iaload, 1) := by decide +kernel
theorem d_M_finding_80 : decode c_M_finding 80 = .ok (.iload_n 1, 1) := by decide +kernel
theorem d_M_finding_81 : decode c_M_finding 81 = .ok (.invokevirtual 183, 3) := by decide +kernel
theorem d_M_finding_84 : decode c_M_finding 84 = .ok (.istore 4, 2) := by decide +kernel
theorem d_M_finding_86 : decode c_M_finding 86 = .ok (.iload_n 3, 1) := by decide +kernel
theorem d_M_finding_87 : decode c_M_finding 87 = .ok (.iload 7, 2) := by decide +kernel
theorem d_M_finding_89 : decode c_M_finding 89 = .ok (.ifCond .eq 7, 3) := by decide +kernel
theorem d_M_finding_92 : decode c_M_finding 92 = .ok (.iconst 1, 1) := by decide +kernel
theorem d_M_finding_93 : decode c_M_finding 93 = .ok (.goto 4, 3) := by decide +kernel
theorem d_M_finding_96 : decode c_M_finding 96 = .ok (.iconst 0, 1) := by decide +kernel
theorem d_M_finding_97 : decode c_M_finding 97 = .ok (.iadd, 1) := by decide +kernel
theorem d_M_finding_98 : decode c_M_finding 98 = .ok (.istore_n 3, 1) := by decide +kernel
theorem d_M_finding_99 : decode c_M_finding 99 = .ok (.iinc 5 1, 3) := by decide +kernel
theorem d_M_finding_102 : decode c_M_finding 102 = .ok (.goto (-94), 3) := by decide +kernel
theorem d_M_finding_105 : decode c_M_finding 105 = .ok (.iload 4, 2) := by decide +kernel
theorem d_M_finding_107 : decode c_M_finding 107 = .ok (.ireturn, 1) := by decide +kernel
theorem d_M_entries_0 : decode c_M_entries 0 = .ok (.aload_n 0, 1) := by decide +kernel
theorem d_M_entries_1 : decode c_M_entries 1 = .ok (.getfield 85, 3) := by decide +kernel
theorem d_M_entries_4 : decode c_M_entries 4 = .ok (.iconst 1, 1) := by decide +kernel
theorem d_M_entries_5 : decode c_M_entries 5 = .ok (.if_icmp .ne 12, 3) := by decide +kernel
theorem d_M_entries_8 : decode c_M_entries 8 = .ok (.iload_n 1, 1) := by decide +kernel
theorem d_M_entries_9 : decode c_M_entries 9 = .ok (.iconst 0, 1) := by decide +kernel
theorem d_M_entries_10 : decode c_M_entries 10 = .ok (.iconst 5, 1) := by decide +kernel
theorem d_M_entries_11 : decode c_M_entries 11 = .ok (.invokestatic 81, 3) := by decide +kernel
theorem d_M_entries_14 : decode c_M_entries 14 = .ok (.ifCond .ne 5, 3) := by decide +kernel
theorem d_M_entries_17 : decode c_M_entries 17 = .ok (.iconst (-1), 1) := by decide +kernel
theorem d_M_entries_18 : decode c_M_entries 18 = .ok (.ireturn, 1) := by decide +kernel
theorem d_M_entries_19 : decode c_M_entries 19 = .ok (.aload_n 0, 1) := by decide +kernel
theorem d_M_entries_20 : decode c_M_entries 20 = .ok (.getfield 51, 3) := by decide +kernel
theorem d_M_entries_23 : decode c_M_entries 23 = .ok (.iload_n 1, 1) := by decide +kernel
theorem d_M_entries_24 : decode c_M_entries 24 = .ok (.laload, 1) := by decide +kernel
theorem d_M_entries_25 : decode c_M_entries 25 = .ok (.invokestatic 179, 3) := by decide +kernel
theorem d_M_entries_28 : decode c_M_entries 28 = .ok (.aload_n 0, 1) := by decide +kernel
theorem d_M_entries_29 : decode c_M_entries 29 = .ok (.getfield 54, 3) := by decide +kernel
theorem d_M_entries_32 : decode c_M_entries 32 = .ok (.iload_n 1, 1) := by decide +kernel
theorem d_M_entries_33 : decode c_M_entries 33 = .ok (.baload, 1) := by decide +kernel
theorem d_M_entries_34 : decode c_M_entries 34 = .ok (.ifCond .eq 7, 3) := by decide +kernel
theorem d_M_entries_37 : decode c_M_entries 37 = .ok (.iconst 1, 1) := by decide +kernel
theorem d_M_entries_38 : decode c_M_entries 38 = .ok (.goto 4, 3) := by decide +kernel
theorem d_M_entries_41 : decode c_M_entries 41 = .ok (.iconst 0, 1) := by decide +kernel
theorem d_M_entries_42 : decode c_M_entries 42 = .ok (.iadd, 1) := by decide +kernel
theorem d_M_entries_43 : decode c_M_entries 43 = .ok (.ireturn, 1) := by decide +kernel
theorem d_M_points_0 : decode c_M_points 0 = .ok (.aload_n 0, 1) := by decide +kernel
theorem d_M_points_1 : decode c_M_points 1 = .ok (.getfield 85, 3) := by decide +kernel
theorem d_M_points_4 : decode c_M_points 4 = .ok (.iconst 1, 1) := by decide +kernel
theorem d_M_points_5 : decode c_M_points 5 = .ok (.if_icmp .ne 34, 3) := by decide +kernel
theorem d_M_points_8 : decode c_M_points 8 = .ok (.iload_n 1, 1) := by decide +kernel
theorem d_M_points_9 : decode c_M_points 9 = .ok (.iconst 0, 1) := by decide +kernel
theorem d_M_points_10 : decode c_M_points 10 = .ok (.iconst 5, 1) := by decide +kernel
theorem d_M_points_11 : decode c_M_points 11 = .ok (.invokestatic 81, 3) := by decide +kernel
theorem d_M_points_14 : decode c_M_points 14 = .ok (.ifCond .eq 25, 3) := by decide +kernel
theorem d_M_points_17 : decode c_M_points 17 = .ok (.iload_n 2, 1) := by decide +kernel
theorem d_M_points_18 : decode c_M_points 18 = .ok (.iconst 0, 1) := by decide +kernel
theorem d_M_points_19 : decode c_M_points 19 = .ok (.iconst 3, 1) := by decide +kernel
theorem d_M_points_20 : decode c_M_points 20 = .ok (.invokestatic 81, 3) := by decide +kernel
theorem d_M_points_23 : decode c_M_points 23 = .ok (.ifCond .eq 16, 3) := by decide +kernel
theorem d_M_points_26 : decode c_M_points 26 = .ok (.aload_n 0, 1) := by decide +kernel
theorem d_M_points_27 : decode c_M_points 27 = .ok (.getfield 31, 3) := by decide +kernel
theorem d_M_points_30 : decode c_M_points 30 = .ok (.iconst 4, 1) := by decide +kernel
theorem d_M_points_31 : decode c_M_points 31 = .ok (.iload_n 1, 1) := by decide +kernel
theorem d_M_points_32 : decode c_M_points 32 = .ok (.imul, 1) := by decide +kernel
theorem d_M_points_33 : decode c_M_points 33 = .ok (.iload_n 2, 1) := by decide +kernel
theorem d_M_points_34 : decode c_M_points 34 = .ok (.iadd, 1) := by decide +kernel
theorem d_M_points_35 : decode c_M_points 35 = .ok (.iaload, 1) := by decide +kernel
theorem d_M_points_36 : decode c_M_points 36 = .ok (.goto 4, 3) := by decide +kernel
theorem d_M_points_39 : decode c_M_points 39 = .ok (.iconst (-1), 1) := by decide +kernel
theorem d_M_points_40 : decode c_M_points 40 = .ok (.ireturn, 1) := by decide +kernel
theorem d_M_cell_0 : decode c_M_cell 0 = .ok (.aload_n 0, 1) := by decide +kernel
theorem d_M_cell_1 : decode c_M_cell 1 = .ok (.getfield 85, 3) := by decide +kernel
theorem d_M_cell_4 : decode c_M_cell 4 = .ok (.iconst 1, 1) := by decide +kernel
theorem d_M_cell_5 : decode c_M_cell 5 = .ok (.if_icmp .ne 34, 3) := by decide +kernel
theorem d_M_cell_8 : decode c_M_cell 8 = .ok (.iload_n 1, 1) := by decide +kernel
theorem d_M_cell_9 : decode c_M_cell 9 = .ok (.iconst 0, 1) := by decide +kernel
theorem d_M_cell_10 : decode c_M_cell 10 = .ok (.iconst 5, 1) := by decide +kernel
theorem d_M_cell_11 : decode c_M_cell 11 = .ok (.invokestatic 81, 3) := by decide +kernel
theorem d_M_cell_14 : decode c_M_cell 14 = .ok (.ifCond .eq 25, 3) := by decide +kernel
theorem d_M_cell_17 : decode c_M_cell 17 = .ok (.iload_n 2, 1) := by decide +kernel
theorem d_M_cell_18 : decode c_M_cell 18 = .ok (.iconst 0, 1) := by decide +kernel
theorem d_M_cell_19 : decode c_M_cell 19 = .ok (.iconst 1, 1) := by decide +kernel
theorem d_M_cell_20 : decode c_M_cell 20 = .ok (.invokestatic 81, 3) := by decide +kernel
theorem d_M_cell_23 : decode c_M_cell 23 = .ok (.ifCond .eq 16, 3) := by decide +kernel
theorem d_M_cell_26 : decode c_M_cell 26 = .ok (.aload_n 0, 1) := by decide +kernel
theorem d_M_cell_27 : decode c_M_cell 27 = .ok (.getfield 34, 3) := by decide +kernel
theorem d_M_cell_30 : decode c_M_cell 30 = .ok (.iconst 2, 1) := by decide +kernel
theorem d_M_cell_31 : decode c_M_cell 31 = .ok (.iload_n 1, 1) := by decide +kernel
theorem d_M_cell_32 : decode c_M_cell 32 = .ok (.imul, 1) := by decide +kernel
theorem d_M_cell_33 : decode c_M_cell 33 = .ok (.iload_n 2, 1) := by decide +kernel
theorem d_M_cell_34 : decode c_M_cell 34 = .ok (.iadd, 1) := by decide +kernel
theorem d_M_cell_35 : decode c_M_cell 35 = .ok (.iaload, 1) := by decide +kernel
theorem d_M_cell_36 : decode c_M_cell 36 = .ok (.goto 4, 3) := by decide +kernel
theorem d_M_cell_39 : decode c_M_cell 39 = .ok (.iconst (-1), 1) := by decide +kernel
theorem d_M_cell_40 : decode c_M_cell 40 = .ok (.ireturn, 1) := by decide +kernel
theorem d_M_assign_0 : decode c_M_assign 0 = .ok (.aload_n 0, 1) := by decide +kernel
theorem d_M_assign_1 : decode c_M_assign 1 = .ok (.getfield 66, 3) := by decide +kernel
theorem d_M_assign_4 : decode c_M_assign 4 = .ok (.iconst 4, 1) := by decide +kernel
theorem d_M_assign_5 : decode c_M_assign 5 = .ok (.aload_n 0, 1) := by decide +kernel
theorem d_M_assign_6 : decode c_M_assign 6 = .ok (.getfield 186, 3) := by decide +kernel
theorem d_M_assign_9 : decode c_M_assign 9 = .ok (.iconst 1, 1) := by decide +kernel
theorem d_M_assign_10 : decode c_M_assign 10 = .ok (.isub, 1) := by decide +kernel
theorem d_M_assign_11 : decode c_M_assign 11 = .ok (.imul, 1) := by decide +kernel
theorem d_M_assign_12 : decode c_M_assign 12 = .ok (.iload_n 1, 1) := by decide +kernel
theorem d_M_assign_13 : decode c_M_assign 13 = .ok (.iadd, 1) := by decide +kernel
theorem d_M_assign_14 : decode c_M_assign 14 = .ok (.iload_n 2, 1) := by decide +kernel
theorem d_M_assign_15 : decode c_M_assign 15 = .ok (.iastore, 1) := by decide +kernel
theorem d_M_assign_16 : decode c_M_assign 16 = .ok (.aload_n 0, 1) := by decide +kernel
theorem d_M_assign_17 : decode c_M_assign 17 = .ok (.getfield 69, 3) := by decide +kernel
theorem d_M_assign_20 : decode c_M_assign 20 = .ok (.iconst 4, 1) := by decide +kernel
theorem d_M_assign_21 : decode c_M_assign 21 = .ok (.aload_n 0, 1) := by decide +kernel
theorem d_M_assign_22 : decode c_M_assign 22 = .ok (.getfield 186, 3) := by decide +kernel
theorem d_M_assign_25 : decode c_M_assign 25 = .ok (.iconst 1, 1) := by decide +kernel
theorem d_M_assign_26 : decode c_M_assign 26 = .ok (.isub, 1) := by decide +kernel
theorem d_M_assign_27 : decode c_M_assign 27 = .ok (.imul, 1) := by decide +kernel
theorem d_M_assign_28 : decode c_M_assign 28 = .ok (.iload_n 1, 1) := by decide +kernel
theorem d_M_assign_29 : decode c_M_assign 29 = .ok (.iadd, 1) := by decide +kernel
theorem d_M_assign_30 : decode c_M_assign 30 = .ok (.iload_n 3, 1) := by decide +kernel
theorem d_M_assign_31 : decode c_M_assign 31 = .ok (.iastore, 1) := by decide +kernel
theorem d_M_assign_32 : decode c_M_assign 32 = .ok (.return_, 1) := by decide +kernel
theorem d_M_enter_0 : decode c_M_enter 0 = .ok (.iload_n 2, 1) := by decide +kernel
theorem d_M_enter_1 : decode c_M_enter 1 = .ok (.ifCond .ge 7, 3) := by decide +kernel
theorem d_M_enter_4 : decode c_M_enter 4 = .ok (.iconst (-1), 1) := by decide +kernel
theorem d_M_enter_5 : decode c_M_enter 5 = .ok (.goto 9, 3) := by decide +kernel
theorem d_M_enter_8 : decode c_M_enter 8 = .ok (.aload_n 0, 1) := by decide +kernel
theorem d_M_enter_9 : decode c_M_enter 9 = .ok (.getfield 66, 3) := by decide +kernel
theorem d_M_enter_12 : decode c_M_enter 12 = .ok (.iload_n 2, 1) := by decide +kernel
theorem d_M_enter_13 : decode c_M_enter 13 = .ok (.iaload, 1) := by decide +kernel
theorem d_M_enter_14 : decode c_M_enter 14 = .ok (.istore 4, 2) := by decide +kernel
theorem d_M_enter_16 : decode c_M_enter 16 = .ok (.iload_n 2, 1) := by decide +kernel
theorem d_M_enter_17 : decode c_M_enter 17 = .ok (.ifCond .ge 7, 3) := by decide +kernel
theorem d_M_enter_20 : decode c_M_enter 20 = .ok (.iconst 0, 1) := by decide +kernel
theorem d_M_enter_21 : decode c_M_enter 21 = .ok (.goto 9, 3) := by decide +kernel
theorem d_M_enter_24 : decode c_M_enter 24 = .ok (.aload_n 0, 1) := by decide +kernel
theorem d_M_enter_25 : decode c_M_enter 25 = .ok (.getfield 69, 3) := by decide +kernel
theorem d_M_enter_28 : decode c_M_enter 28 = .ok (.iload_n 2, 1) := by decide +kernel
theorem d_M_enter_29 : decode c_M_enter 29 = .ok (.iaload, 1) := by decide +kernel
theorem d_M_enter_30 : decode c_M_enter 30 = .ok (.istore 5, 2) := by decide +kernel
theorem d_M_enter_32 : decode c_M_enter 32 = .ok (.iload_n 3, 1) := by decide +kernel
theorem d_M_enter_33 : decode c_M_enter 33 = .ok (.ifCond .ge 7, 3) := by decide +kernel
theorem d_M_enter_36 : decode c_M_enter 36 = .ok (.iconst (-1), 1) := by decide +kernel
theorem d_M_enter_37 : decode c_M_enter 37 = .ok (.goto 9, 3) := by decide +kernel
theorem d_M_enter_40 : decode c_M_enter 40 = .ok (.aload_n 0, 1) := by decide +kernel
theorem d_M_enter_41 : decode c_M_enter 41 = .ok (.getfield 66, 3) := by decide +kernel
theorem d_M_enter_44 : decode c_M_enter 44 = .ok (.iload_n 3, 1) := by decide +kernel
theorem d_M_enter_45 : decode c_M_enter 45 = .ok (.iaload, 1) := by decide +kernel
theorem d_M_enter_46 : decode c_M_enter 46 = .ok (.istore 6, 2) := by decide +kernel
theorem d_M_enter_48 : decode c_M_enter 48 = .ok (.iload_n 3, 1) := by decide +kernel
theorem d_M_enter_49 : decode c_M_enter 49 = .ok (.ifCond .ge 7, 3) := by decide +kernel
theorem d_M_enter_52 : decode c_M_enter 52 = .ok (.iconst 0, 1) := by decide +kernel
theorem d_M_enter_53 : decode c_M_enter 53 = .ok (.goto 9, 3) := by decide +kernel
theorem d_M_enter_56 : decode c_M_enter 56 = .ok (.aload_n 0, 1) := by decide +kernel
theorem d_M_enter_57 : decode c_M_enter 57 = .ok (.getfield 69, 3) := by decide +kernel
theorem d_M_enter_60 : decode c_M_enter 60 = .ok (.iload_n 3, 1) := by decide +kernel
theorem d_M_enter_61 : decode c_M_enter 61 = .ok (.iaload, 1) := by decide +kernel
theorem d_M_enter_62 : decode c_M_enter 62 = .ok (.istore 7, 2) := by decide +kernel
theorem d_M_enter_64 : decode c_M_enter 64 = .ok (.aload_n 0, 1) := by decide +kernel
theorem d_M_enter_65 : decode c_M_enter 65 = .ok (.getfield 60, 3) := by decide +kernel
theorem d_M_enter_68 : decode c_M_enter 68 = .ok (.aload_n 0, 1) := by decide +kernel
theorem d_M_enter_69 : decode c_M_enter 69 = .ok (.getfield 186, 3) := by decide +kernel
theorem d_M_enter_72 : decode c_M_enter 72 = .ok (.iload_n 1, 1) := by decide +kernel
