theorem d_M_pointsOf_195 : decode c_M_pointsOf 195 = .ok (.iaload, 1) := by decide +kernel
theorem d_M_pointsOf_196 : decode c_M_pointsOf 196 = .ok (.iload 7, 2) := by decide +kernel
theorem d_M_pointsOf_198 : decode c_M_pointsOf 198 = .ok (.ishr, 1) := by decide +kernel
theorem d_M_pointsOf_199 : decode c_M_pointsOf 199 = .ok (.iconst 1, 1) := by decide +kernel
theorem d_M_pointsOf_200 : decode c_M_pointsOf 200 = .ok (.iand, 1) := by decide +kernel
theorem d_M_pointsOf_201 : decode c_M_pointsOf 201 = .ok (.iconst 1, 1) := by decide +kernel
theorem d_M_pointsOf_202 : decode c_M_pointsOf 202 = .ok (.if_icmp .ne 61, 3) := by decide +kernel
theorem d_M_pointsOf_205 : decode c_M_pointsOf 205 = .ok (.aload_n 0, 1) := by decide +kernel
theorem d_M_pointsOf_206 : decode c_M_pointsOf 206 = .ok (.getfield 34, 3) := by decide +kernel
theorem d_M_pointsOf_209 : decode c_M_pointsOf 209 = .ok (.iload 8, 2) := by decide +kernel
theorem d_M_pointsOf_211 : decode c_M_pointsOf 211 = .ok (.iaload, 1) := by decide +kernel
theorem d_M_pointsOf_212 : decode c_M_pointsOf 212 = .ok (.istore 9, 2) := by decide +kernel
theorem d_M_pointsOf_214 : decode c_M_pointsOf 214 = .ok (.aload_n 0, 1) := by decide +kernel
theorem d_M_pointsOf_215 : decode c_M_pointsOf 215 = .ok (.getfield 34, 3) := by decide +kernel
theorem d_M_pointsOf_218 : decode c_M_pointsOf 218 = .ok (.iload 8, 2) := by decide +kernel
theorem d_M_pointsOf_220 : decode c_M_pointsOf 220 = .ok (.iload 9, 2) := by decide +kernel
theorem d_M_pointsOf_222 : decode c_M_pointsOf 222 = .ok (.aload_n 0, 1) := by decide +kernel
theorem d_M_pointsOf_223 : decode c_M_pointsOf 223 = .ok (.getfield 31, 3) := by decide +kernel
theorem d_M_pointsOf_226 : decode c_M_pointsOf 226 = .ok (.iconst 4, 1) := by decide +kernel
theorem d_M_pointsOf_227 : decode c_M_pointsOf 227 = .ok (.iload_n 1, 1) := by decide +kernel
theorem d_M_pointsOf_228 : decode c_M_pointsOf 228 = .ok (.imul, 1) := by decide +kernel
theorem d_M_pointsOf_229 : decode c_M_pointsOf 229 = .ok (.iload 6, 2) := by decide +kernel
theorem d_M_pointsOf_231 : decode c_M_pointsOf 231 = .ok (.iadd, 1) := by decide +kernel
theorem d_M_pointsOf_232 : decode c_M_pointsOf 232 = .ok (.iaload, 1) := by decide +kernel
theorem d_M_pointsOf_233 : decode c_M_pointsOf 233 = .ok (.ior, 1) := by decide +kernel
theorem d_M_pointsOf_234 : decode c_M_pointsOf 234 = .ok (.iastore, 1) := by decide +kernel
theorem d_M_pointsOf_235 : decode c_M_pointsOf 235 = .ok (.aload_n 0, 1) := by decide +kernel
theorem d_M_pointsOf_236 : decode c_M_pointsOf 236 = .ok (.aload_n 0, 1) := by decide +kernel
theorem d_M_pointsOf_237 : decode c_M_pointsOf 237 = .ok (.getfield 111, 3) := by decide +kernel
theorem d_M_pointsOf_240 : decode c_M_pointsOf 240 = .ok (.ifCond .ne 15, 3) := by decide +kernel
theorem d_M_pointsOf_243 : decode c_M_pointsOf 243 = .ok (.aload_n 0, 1) := by decide +kernel
theorem d_M_pointsOf_244 : decode c_M_pointsOf 244 = .ok (.getfield 34, 3) := by decide +kernel
theorem d_M_pointsOf_247 : decode c_M_pointsOf 247 = .ok (.iload 8, 2) := by decide +kernel
theorem d_M_pointsOf_249 : decode c_M_pointsOf 249 = .ok (.iaload, 1) := by decide +kernel
theorem d_M_pointsOf_250 : decode c_M_pointsOf 250 = .ok (.iload 9, 2) := by decide +kernel
theorem d_M_pointsOf_252 : decode c_M_pointsOf 252 = .ok (.if_icmp .eq 7, 3) := by decide +kernel
theorem d_M_pointsOf_255 : decode c_M_pointsOf 255 = .ok (.iconst 1, 1) := by decide +kernel
theorem d_M_pointsOf_256 : decode c_M_pointsOf 256 = .ok (.goto 4, 3) := by decide +kernel
theorem d_M_pointsOf_259 : decode c_M_pointsOf 259 = .ok (.iconst 0, 1) := by decide +kernel
theorem d_M_pointsOf_260 : decode c_M_pointsOf 260 = .ok (.putfield 111, 3) := by decide +kernel
theorem d_M_pointsOf_263 : decode c_M_pointsOf 263 = .ok (.iinc 7 1, 3) := by decide +kernel
theorem d_M_pointsOf_266 : decode c_M_pointsOf 266 = .ok (.goto (-148), 3) := by decide +kernel
theorem d_M_pointsOf_269 : decode c_M_pointsOf 269 = .ok (.return_, 1) := by decide +kernel
theorem d_M_workPoints_0 : decode c_M_workPoints 0 = .ok (.iconst 0, 1) := by decide +kernel
theorem d_M_workPoints_1 : decode c_M_workPoints 1 = .ok (.istore_n 1, 1) := by decide +kernel
theorem d_M_workPoints_2 : decode c_M_workPoints 2 = .ok (.iload_n 1, 1) := by decide +kernel
theorem d_M_workPoints_3 : decode c_M_workPoints 3 = .ok (.bipush 24, 2) := by decide +kernel
theorem d_M_workPoints_5 : decode c_M_workPoints 5 = .ok (.if_icmp .ge 43, 3) := by decide +kernel
theorem d_M_workPoints_8 : decode c_M_workPoints 8 = .ok (.aload_n 0, 1) := by decide +kernel
theorem d_M_workPoints_9 : decode c_M_workPoints 9 = .ok (.getfield 31, 3) := by decide +kernel
theorem d_M_workPoints_12 : decode c_M_workPoints 12 = .ok (.iload_n 1, 1) := by decide +kernel
theorem d_M_workPoints_13 : decode c_M_workPoints 13 = .ok (.iconst 0, 1) := by decide +kernel
theorem d_M_workPoints_14 : decode c_M_workPoints 14 = .ok (.iastore, 1) := by decide +kernel
theorem d_M_workPoints_15 : decode c_M_workPoints 15 = .ok (.aload_n 0, 1) := by decide +kernel
theorem d_M_workPoints_16 : decode c_M_workPoints 16 = .ok (.getfield 34, 3) := by decide +kernel
theorem d_M_workPoints_19 : decode c_M_workPoints 19 = .ok (.iload_n 1, 1) := by decide +kernel
theorem d_M_workPoints_20 : decode c_M_workPoints 20 = .ok (.iconst 2, 1) := by decide +kernel
theorem d_M_workPoints_21 : decode c_M_workPoints 21 = .ok (.idiv, 1) := by decide +kernel
theorem d_M_workPoints_22 : decode c_M_workPoints 22 = .ok (.iconst 0, 1) := by decide +kernel
theorem d_M_workPoints_23 : decode c_M_workPoints 23 = .ok (.iastore, 1) := by decide +kernel
theorem d_M_workPoints_24 : decode c_M_workPoints 24 = .ok (.aload_n 0, 1) := by decide +kernel
theorem d_M_workPoints_25 : decode c_M_workPoints 25 = .ok (.getfield 37, 3) := by decide +kernel
theorem d_M_workPoints_28 : decode c_M_workPoints 28 = .ok (.iload_n 1, 1) := by decide +kernel
theorem d_M_workPoints_29 : decode c_M_workPoints 29 = .ok (.iconst 4, 1) := by decide +kernel
theorem d_M_workPoints_30 : decode c_M_workPoints 30 = .ok (.idiv, 1) := by decide +kernel
theorem d_M_workPoints_31 : decode c_M_workPoints 31 = .ok (.iload_n 1, 1) := by decide +kernel
theorem d_M_workPoints_32 : decode c_M_workPoints 32 = .ok (.iconst 4, 1) := by decide +kernel
theorem d_M_workPoints_33 : decode c_M_workPoints 33 = .ok (.if_icmp .ge 7, 3) := by decide +kernel
theorem d_M_workPoints_36 : decode c_M_workPoints 36 = .ok (.iconst 1, 1) := by decide +kernel
theorem d_M_workPoints_37 : decode c_M_workPoints 37 = .ok (.goto 4, 3) := by decide +kernel
theorem d_M_workPoints_40 : decode c_M_workPoints 40 = .ok (.iconst 0, 1) := by decide +kernel
theorem d_M_workPoints_41 : decode c_M_workPoints 41 = .ok (.bastore, 1) := by decide +kernel
theorem d_M_workPoints_42 : decode c_M_workPoints 42 = .ok (.iinc 1 1, 3) := by decide +kernel
theorem d_M_workPoints_45 : decode c_M_workPoints 45 = .ok (.goto (-43), 3) := by decide +kernel
theorem d_M_workPoints_48 : decode c_M_workPoints 48 = .ok (.aload_n 0, 1) := by decide +kernel
theorem d_M_workPoints_49 : decode c_M_workPoints 49 = .ok (.iconst 1, 1) := by decide +kernel
theorem d_M_workPoints_50 : decode c_M_workPoints 50 = .ok (.putfield 111, 3) := by decide +kernel
theorem d_M_workPoints_53 : decode c_M_workPoints 53 = .ok (.iconst 0, 1) := by decide +kernel
theorem d_M_workPoints_54 : decode c_M_workPoints 54 = .ok (.istore_n 1, 1) := by decide +kernel
theorem d_M_workPoints_55 : decode c_M_workPoints 55 = .ok (.iload_n 1, 1) := by decide +kernel
theorem d_M_workPoints_56 : decode c_M_workPoints 56 = .ok (.ldc 126, 2) := by decide +kernel
theorem d_M_workPoints_58 : decode c_M_workPoints 58 = .ok (.if_icmp .ge 68, 3) := by decide +kernel
theorem d_M_workPoints_61 : decode c_M_workPoints 61 = .ok (.aload_n 0, 1) := by decide +kernel
theorem d_M_workPoints_62 : decode c_M_workPoints 62 = .ok (.getfield 111, 3) := by decide +kernel
theorem d_M_workPoints_65 : decode c_M_workPoints 65 = .ok (.ifCond .eq 61, 3) := by decide +kernel
theorem d_M_workPoints_68 : decode c_M_workPoints 68 = .ok (.aload_n 0, 1) := by decide +kernel
theorem d_M_workPoints_69 : decode c_M_workPoints 69 = .ok (.iconst 0, 1) := by decide +kernel
theorem d_M_workPoints_70 : decode c_M_workPoints 70 = .ok (.putfield 111, 3) := by decide +kernel
theorem d_M_workPoints_73 : decode c_M_workPoints 73 = .ok (.iconst 0, 1) := by decide +kernel
theorem d_M_workPoints_74 : decode c_M_workPoints 74 = .ok (.istore_n 2, 1) := by decide +kernel
theorem d_M_workPoints_75 : decode c_M_workPoints 75 = .ok (.iload_n 2, 1) := by decide +kernel
theorem d_M_workPoints_76 : decode c_M_workPoints 76 = .ok (.bipush 6, 2) := by decide +kernel
theorem d_M_workPoints_78 : decode c_M_workPoints 78 = .ok (.if_icmp .ge 42, 3) := by decide +kernel
theorem d_M_workPoints_81 : decode c_M_workPoints 81 = .ok (.iconst 0, 1) := by decide +kernel
theorem d_M_workPoints_82 : decode c_M_workPoints 82 = .ok (.istore_n 3, 1) := by decide +kernel
theorem d_M_workPoints_83 : decode c_M_workPoints 83 = .ok (.iload_n 3, 1) := by decide +kernel
theorem d_M_workPoints_84 : decode c_M_workPoints 84 = .ok (.aload_n 0, 1) := by decide +kernel
theorem d_M_workPoints_85 : decode c_M_workPoints 85 = .ok (.getfield 7, 3) := by decide +kernel
theorem d_M_workPoints_88 : decode c_M_workPoints 88 = .ok (.iload_n 2, 1) := by decide +kernel
theorem d_M_workPoints_89 : decode c_M_workPoints 89 = .ok (.iaload, 1) := by decide +kernel
theorem d_M_workPoints_90 : decode c_M_workPoints 90 = .ok (.if_icmp .ge 24, 3) := by decide +kernel
theorem d_M_workPoints_93 : decode c_M_workPoints 93 = .ok (.aload_n 0, 1) := by decide +kernel
theorem d_M_workPoints_94 : decode c_M_workPoints 94 = .ok (.getfield 37, 3) := by decide +kernel
theorem d_M_workPoints_97 : decode c_M_workPoints 97 = .ok (.iload_n 2, 1) := by decide +kernel
theorem d_M_workPoints_98 : decode c_M_workPoints 98 = .ok (.baload, 1) := by decide +kernel
theorem d_M_workPoints_99 : decode c_M_workPoints 99 = .ok (.ifCond .eq 15, 3) := by decide +kernel
theorem d_M_workPoints_102 : decode c_M_workPoints 102 = .ok (.aload_n 0, 1) := by decide +kernel
theorem d_M_workPoints_103 : decode c_M_workPoints 103 = .ok (.iload_n 2, 1) := by decide +kernel
theorem d_M_workPoints_104 : decode c_M_workPoints 104 = .ok (.iload_n 3, 1) := by decide +kernel
theorem d_M_workPoints_105 : decode c_M_workPoints 105 = .ok (.invokevirtual 127, 3) := by decide +kernel
theorem d_M_workPoints_108 : decode c_M_workPoints 108 = .ok (.iinc 3 1, 3) := by decide +kernel
theorem d_M_workPoints_111 : decode c_M_workPoints 111 = .ok (.goto (-28), 3) := by decide +kernel
theorem d_M_workPoints_114 : decode c_M_workPoints 114 = .ok (.iinc 2 1, 3) := by decide +kernel
theorem d_M_workPoints_117 : decode c_M_workPoints 117 = .ok (.goto (-42), 3) := by decide +kernel
theorem d_M_workPoints_120 : decode c_M_workPoints 120 = .ok (.iinc 1 1, 3) := by decide +kernel
theorem d_M_workPoints_123 : decode c_M_workPoints 123 = .ok (.goto (-68), 3) := by decide +kernel
theorem d_M_workPoints_126 : decode c_M_workPoints 126 = .ok (.return_, 1) := by decide +kernel
theorem d_M_workTargets_0 : decode c_M_workTargets 0 = .ok (.iconst 0, 1) := by decide +kernel
theorem d_M_workTargets_1 : decode c_M_workTargets 1 = .ok (.istore_n 1, 1) := by decide +kernel
theorem d_M_workTargets_2 : decode c_M_workTargets 2 = .ok (.iload_n 1, 1) := by decide +kernel
theorem d_M_workTargets_3 : decode c_M_workTargets 3 = .ok (.bipush 72, 2) := by decide +kernel
theorem d_M_workTargets_5 : decode c_M_workTargets 5 = .ok (.if_icmp .ge 98, 3) := by decide +kernel
theorem d_M_workTargets_8 : decode c_M_workTargets 8 = .ok (.aload_n 0, 1) := by decide +kernel
theorem d_M_workTargets_9 : decode c_M_workTargets 9 = .ok (.getfield 41, 3) := by decide +kernel
theorem d_M_workTargets_12 : decode c_M_workTargets 12 = .ok (.iload_n 1, 1) := by decide +kernel
theorem d_M_workTargets_13 : decode c_M_workTargets 13 = .ok (.iconst 0, 1) := by decide +kernel
theorem d_M_workTargets_14 : decode c_M_workTargets 14 = .ok (.iastore, 1) := by decide +kernel
theorem d_M_workTargets_15 : decode c_M_workTargets 15 = .ok (.iload_n 1, 1) := by decide +kernel
theorem d_M_workTargets_16 : decode c_M_workTargets 16 = .ok (.bipush 12, 2) := by decide +kernel
theorem d_M_workTargets_18 : decode c_M_workTargets 18 = .ok (.irem, 1) := by decide +kernel
theorem d_M_workTargets_19 : decode c_M_workTargets 19 = .ok (.aload_n 0, 1) := by decide +kernel
theorem d_M_workTargets_20 : decode c_M_workTargets 20 = .ok (.getfield 7, 3) := by decide +kernel
theorem d_M_workTargets_23 : decode c_M_workTargets 23 = .ok (.iload_n 1, 1) := by decide +kernel
theorem d_M_workTargets_24 : decode c_M_workTargets 24 = .ok (.bipush 12, 2) := by decide +kernel
theorem d_M_workTargets_26 : decode c_M_workTargets 26 = .ok (.idiv, 1) := by decide +kernel
theorem d_M_workTargets_27 : decode c_M_workTargets 27 = .ok (.iaload, 1) := by decide +kernel
theorem d_M_workTargets_28 : decode c_M_workTargets 28 = .ok (.if_icmp .ge 18, 3) := by decide +kernel
theorem d_M_workTargets_31 : decode c_M_workTargets 31 = .ok (.aload_n 0, 1) := by decide +kernel
theorem d_M_workTargets_32 : decode c_M_workTargets 32 = .ok (.getfield 13, 3) := by decide +kernel
theorem d_M_workTargets_35 : decode c_M_workTargets 35 = .ok (.iload_n 1, 1) := by decide +kernel
theorem d_M_workTargets_36 : decode c_M_workTargets 36 = .ok (.iaload, 1) := by decide +kernel
theorem d_M_workTargets_37 : decode c_M_workTargets 37 = .ok (.bipush 7, 2) := by decide +kernel
theorem d_M_workTargets_39 : decode c_M_workTargets 39 = .ok (.if_icmp .ne 7, 3) := by decide +kernel
theorem d_M_workTargets_42 : decode c_M_workTargets 42 = .ok (.iconst 1, 1) := by decide +kernel
theorem d_M_workTargets_43 : decode c_M_workTargets 43 = .ok (.goto 4, 3) := by decide +kernel
theorem d_M_workTargets_46 : decode c_M_workTargets 46 = .ok (.iconst 0, 1) := by decide +kernel
theorem d_M_workTargets_47 : decode c_M_workTargets 47 = .ok (.istore_n 2, 1) := by decide +kernel
theorem d_M_workTargets_48 : decode c_M_workTargets 48 = .ok (.iconst 0, 1) := by decide +kernel
theorem d_M_workTargets_49 : decode c_M_workTargets 49 = .ok (.istore_n 3, 1) := by decide +kernel
theorem d_M_workTargets_50 : decode c_M_workTargets 50 = .ok (.iload_n 3, 1) := by decide +kernel
theorem d_M_workTargets_51 : decode c_M_workTargets 51 = .ok (.bipush 36, 2) := by decide +kernel
theorem d_M_workTargets_53 : decode c_M_workTargets 53 = .ok (.if_icmp .ge 44, 3) := by decide +kernel
theorem d_M_workTargets_56 : decode c_M_workTargets 56 = .ok (.iload_n 2, 1) := by decide +kernel
theorem d_M_workTargets_57 : decode c_M_workTargets 57 = .ok (.ifCond .eq 40, 3) := by decide +kernel
theorem d_M_workTargets_60 : decode c_M_workTargets 60 = .ok (.aload_n 0, 1) := by decide +kernel
theorem d_M_workTargets_61 : decode c_M_workTargets 61 = .ok (.iload_n 1, 1) := by decide +kernel
theorem d_M_workTargets_62 : decode c_M_workTargets 62 = .ok (.iload_n 3, 1) := by decide +kernel
theorem d_M_workTargets_63 : decode c_M_workTargets 63 = .ok (.bipush 6, 2) := by decide +kernel
theorem d_M_workTargets_65 : decode c_M_workTargets 65 = .ok (.idiv, 1) := by decide +kernel
theorem d_M_workTargets_66 : decode c_M_workTargets 66 = .ok (.iload_n 3, 1) := by decide +kernel
theorem d_M_workTargets_67 : decode c_M_workTargets 67 = .ok (.bipush 6, 2) := by decide +kernel
theorem d_M_workTargets_69 : decode c_M_workTargets 69 = .ok (.irem, 1) := by decide +kernel
theorem d_M_workTargets_70 : decode c_M_workTargets 70 = .ok (.invokevirtual 115, 3) := by decide +kernel
theorem d_M_workTargets_73 : decode c_M_workTargets 73 = .ok (.ifCond .eq 18, 3) := by decide +kernel
theorem d_M_workTargets_76 : decode c_M_workTargets 76 = .ok (.aload_n 0, 1) := by decide +kernel
theorem d_M_workTargets_77 : decode c_M_workTargets 77 = .ok (.getfield 41, 3) := by decide +kernel
theorem d_M_workTargets_80 : decode c_M_workTargets 80 = .ok (.iload_n 1, 1) := by decide +kernel
theorem d_M_workTargets_81 : decode c_M_workTargets 81 = .ok (.dup2, 1) := by decide +kernel
theorem d_M_workTargets_82 : decode c_M_workTargets 82 = .ok (.iaload, 1) := by decide +kernel
theorem d_M_workTargets_83 : decode c_M_workTargets 83 = .ok (.iconst 1, 1) := by decide +kernel
theorem d_M_workTargets_84 : decode c_M_workTargets 84 = .ok (.iload_n 3, 1) := by decide +kernel
theorem d_M_workTargets_85 : decode c_M_workTargets 85 = .ok (.bipush 6, 2) := by decide +kernel
theorem d_M_workTargets_87 : decode c_M_workTargets 87 = .ok (.irem, 1) := by decide +kernel
theorem d_M_workTargets_88 : decode c_M_workTargets 88 = .ok (.ishl, 1) := by decide +kernel
theorem d_M_workTargets_89 : decode c_M_workTargets 89 = .ok (.ior, 1) := by decide +kernel
theorem d_M_workTargets_90 : decode c_M_workTargets 90 = .ok (.iastore, 1) := by decide +kernel
theorem d_M_workTargets_91 : decode c_M_workTargets 91 = .ok (.iinc 3 1, 3) := by decide +kernel
theorem d_M_workTargets_94 : decode c_M_workTargets 94 = .ok (.goto (-44), 3) := by decide +kernel
theorem d_M_workTargets_97 : decode c_M_workTargets 97 = .ok (.iinc 1 1, 3) := by decide +kernel
theorem d_M_workTargets_100 : decode c_M_workTargets 100 = .ok (.goto (-98), 3) := by decide +kernel
theorem d_M_workTargets_103 : decode c_M_workTargets 103 = .ok (.return_, 1) := by decide +kernel
theorem d_M_cellOf_0 : decode c_M_cellOf 0 = .ok (.bipush 13, 2) := by decide +kernel
theorem d_M_cellOf_2 : decode c_M_cellOf 2 = .ok (.iload_n 1, 1) := by decide +kernel
theorem d_M_cellOf_3 : decode c_M_cellOf 3 = .ok (.imul, 1) := by decide +kernel
theorem d_M_cellOf_4 : decode c_M_cellOf 4 = .ok (.iload_n 2, 1) := by decide +kernel
theorem d_M_cellOf_5 : decode c_M_cellOf 5 = .ok (.iadd, 1) := by decide +kernel
theorem d_M_cellOf_6 : decode c_M_cellOf 6 = .ok (.bipush 65, 2) := by decide +kernel
theorem d_M_cellOf_8 : decode c_M_cellOf 8 = .ok (.imul, 1) := by decide +kernel
theorem d_M_cellOf_9 : decode c_M_cellOf 9 = .ok (.iload_n 3, 1) := by decide +kernel
theorem d_M_cellOf_10 : decode c_M_cellOf 10 = .ok (.iadd, 1) := by decide +kernel
theorem d_M_cellOf_11 : decode c_M_cellOf 11 = .ok (.ireturn, 1) := by decide +kernel
theorem d_M_put_0 : decode c_M_put 0 = .ok (.iload_n 2, 1) := by decide +kernel
theorem d_M_put_1 : decode c_M_put 1 = .ok (.aload_n 0, 1) := by decide +kernel
theorem d_M_put_2 : decode c_M_put 2 = .ok (.getfield 7, 3) := by decide +kernel
theorem d_M_put_5 : decode c_M_put 5 = .ok (.iload_n 1, 1) := by decide +kernel
theorem d_M_put_6 : decode c_M_put 6 = .ok (.iaload, 1) := by decide +kernel
theorem d_M_put_7 : decode c_M_put 7 = .ok (.if_icmp .le 12, 3) := by decide +kernel
theorem d_M_put_10 : decode c_M_put 10 = .ok (.aload_n 0, 1) := by decide +kernel
theorem d_M_put_11 : decode c_M_put 11 = .ok (.getfield 7, 3) := by decide +kernel
theorem d_M_put_14 : decode c_M_put 14 = .ok (.iload_n 1, 1) := by decide +kernel
theorem d_M_put_15 : decode c_M_put 15 = .ok (.iaload, 1) := by decide +kernel
theorem d_M_put_16 : decode c_M_put 16 = .ok (.goto 4, 3) := by decide +kernel
theorem d_M_put_19 : decode c_M_put 19 = .ok (.iload_n 2, 1) := by decide +kernel
theorem d_M_put_20 : decode c_M_put 20 = .ok (.istore 6, 2) := by decide +kernel
theorem d_M_put_22 : decode c_M_put 22 = .ok (.aload_n 0, 1) := by decide +kernel
theorem d_M_put_23 : decode c_M_put 23 = .ok (.iload_n 1, 1) := by decide +kernel
theorem d_M_put_24 : decode c_M_put 24 = .ok (.iload 6, 2) := by decide +kernel
theorem d_M_put_26 : decode c_M_put 26 = .ok (.iload_n 3, 1) := by decide +kernel
theorem d_M_put_27 : decode c_M_put 27 = .ok (.invokevirtual 130, 3) := by decide +kernel
theorem d_M_put_30 : decode c_M_put 30 = .ok (.istore 7, 2) := by decide +kernel
theorem d_M_put_32 : decode c_M_put 32 = .ok (.aload_n 0, 1) := by decide +kernel
theorem d_M_put_33 : decode c_M_put 33 = .ok (.getfield 44, 3) := by decide +kernel
theorem d_M_put_36 : decode c_M_put 36 = .ok (.iload 7, 2) := by decide +kernel
theorem d_M_put_38 : decode c_M_put 38 = .ok (.laload, 1) := by decide +kernel
theorem d_M_put_39 : decode c_M_put 39 = .ok (.lstore 8, 2) := by decide +kernel
theorem d_M_put_41 : decode c_M_put 41 = .ok (.aload_n 0, 1) := by decide +kernel
theorem d_M_put_42 : decode c_M_put 42 = .ok (.getfield 44, 3) := by decide +kernel
theorem d_M_put_45 : decode c_M_put 45 = .ok (.iload 7, 2) := by decide +kernel
theorem d_M_put_47 : decode c_M_put 47 = .ok (.lload 8, 2) := by decide +kernel
theorem d_M_put_49 : decode c_M_put 49 = .ok (.lload 4, 2) := by decide +kernel
theorem d_M_put_51 : decode c_M_put 51 = .ok (.lor, 1) := by decide +kernel
theorem d_M_put_52 : decode c_M_put 52 = .ok (.lastore, 1) := by decide +kernel
theorem d_M_put_53 : decode c_M_put 53 = .ok (.aload_n 0, 1) := by decide +kernel
theorem d_M_put_54 : decode c_M_put 54 = .ok (.aload_n 0, 1) := by decide +kernel
theorem d_M_put_55 : decode c_M_put 55 = .ok (.getfield 111, 3) := by decide +kernel
theorem d_M_put_58 : decode c_M_put 58 = .ok (.ifCond .ne 16, 3) := by decide +kernel
theorem d_M_put_61 : decode c_M_put 61 = .ok (.aload_n 0, 1) := by decide +kernel
theorem d_M_put_62 : decode c_M_put 62 = .ok (.getfield 44, 3) := by decide +kernel
theorem d_M_put_65 : decode c_M_put 65 = .ok (.iload 7, 2) := by decide +kernel
theorem d_M_put_67 : decode c_M_put 67 = .ok (.laload, 1) := by decide +kernel
theorem d_M_put_68 : decode c_M_put 68 = .ok (.lload 8, 2) := by decide +kernel
theorem d_M_put_70 : decode c_M_put 70 = .ok (.lcmp, 1) := by decide +kernel
theorem d_M_put_71 : decode c_M_put 71 = .ok (.ifCond .eq 7, 3) := by decide +kernel
theorem d_M_put_74 : decode c_M_put 74 = .ok (.iconst 1, 1) := by decide +kernel
theorem d_M_put_75 : decode c_M_put 75 = .ok (.goto 4, 3) := by decide +kernel
theorem d_M_put_78 : decode c_M_put 78 = .ok (.iconst 0, 1) := by decide +kernel
theorem d_M_put_79 : decode c_M_put 79 = .ok (.putfield 111, 3) := by decide +kernel
theorem d_M_put_82 : decode c_M_put 82 = .ok (.return_, 1) := by decide +kernel
theorem d_M_putZero_0 : decode c_M_putZero 0 = .ok (.iload_n 2, 1) := by decide +kernel
theorem d_M_putZero_1 : decode c_M_putZero 1 = .ok (.aload_n 0, 1) := by decide +kernel
theorem d_M_putZero_2 : decode c_M_putZero 2 = .ok (.getfield 7, 3) := by decide +kernel
theorem d_M_putZero_5 : decode c_M_putZero 5 = .ok (.iload_n 1, 1) := by decide +kernel
theorem d_M_putZero_6 : decode c_M_putZero 6 = .ok (.iaload, 1) := by decide +kernel
theorem d_M_putZero_7 : decode c_M_putZero 7 = .ok (.if_icmp .le 12, 3) := by decide +kernel
theorem d_M_putZero_10 : decode c_M_putZero 10 = .ok (.aload_n 0, 1) := by decide +kernel
theorem d_M_putZero_11 : decode c_M_putZero 11 = .ok (.getfield 7, 3) := by decide +kernel
theorem d_M_putZero_14 : decode c_M_putZero 14 = .ok (.iload_n 1, 1) := by decide +kernel
theorem d_M_putZero_15 : decode c_M_putZero 15 = .ok (.iaload, 1) := by decide +kernel
theorem d_M_putZero_16 : decode c_M_putZero 16 = .ok (.goto 4, 3) := by decide +kernel
theorem d_M_putZero_19 : decode c_M_putZero 19 = .ok (.iload_n 2, 1) := by decide +kernel
theorem d_M_putZero_20 : decode c_M_putZero 20 = .ok (.istore_n 3, 1) := by decide +kernel
theorem d_M_putZero_21 : decode c_M_putZero 21 = .ok (.aload_n 0, 1) := by decide +kernel
theorem d_M_putZero_22 : decode c_M_putZero 22 = .ok (.aload_n 0, 1) := by decide +kernel
theorem d_M_putZero_23 : decode c_M_putZero 23 = .ok (.getfield 111, 3) := by decide +kernel
theorem d_M_putZero_26 : decode c_M_putZero 26 = .ok (.ifCond .ne 17, 3) := by decide +kernel
theorem d_M_putZero_29 : decode c_M_putZero 29 = .ok (.aload_n 0, 1) := by decide +kernel
theorem d_M_putZero_30 : decode c_M_putZero 30 = .ok (.getfield 48, 3) := by decide +kernel
theorem d_M_putZero_33 : decode c_M_putZero 33 = .ok (.bipush 13, 2) := by decide +kernel
theorem d_M_putZero_35 : decode c_M_putZero 35 = .ok (.iload_n 1, 1) := by decide +kernel
theorem d_M_putZero_36 : decode c_M_putZero 36 = .ok (.imul, 1) := by decide +kernel
theorem d_M_putZero_37 : decode c_M_putZero 37 = .ok (.iload_n 3, 1) := by decide +kernel
theorem d_M_putZero_38 : decode c_M_putZero 38 = .ok (.iadd, 1) := by decide +kernel
theorem d_M_putZero_39 : decode c_M_putZero 39 = .ok (.baload, 1) := by decide +kernel
theorem d_M_putZero_40 : decode c_M_putZero 40 = .ok (.ifCond .ne 7, 3) := by decide +kernel
theorem d_M_putZero_43 : decode c_M_putZero 43 = .ok (.iconst 1, 1) := by decide +kernel
theorem d_M_putZero_44 : decode c_M_putZero 44 = .ok (.goto 4, 3) := by decide +kernel
theorem d_M_putZero_47 : decode c_M_putZero 47 = .ok (.iconst 0, 1) := by decide +kernel
theorem d_M_putZero_48 : decode c_M_putZero 48 = .ok (.putfield 111, 3) := by decide +kernel
theorem d_M_putZero_51 : decode c_M_putZero 51 = .ok (.aload_n 0, 1) := by decide +kernel
theorem d_M_putZero_52 : decode c_M_putZero 52 = .ok (.getfield 48, 3) := by decide +kernel
theorem d_M_putZero_55 : decode c_M_putZero 55 = .ok (.bipush 13, 2) := by decide +kernel
theorem d_M_putZero_57 : decode c_M_putZero 57 = .ok (.iload_n 1, 1) := by decide +kernel
theorem d_M_putZero_58 : decode c_M_putZero 58 = .ok (.imul, 1) := by decide +kernel
theorem d_M_putZero_59 : decode c_M_putZero 59 = .ok (.iload_n 3, 1) := by decide +kernel
theorem d_M_putZero_60 : decode c_M_putZero 60 = .ok (.iadd, 1) := by decide +kernel
theorem d_M_putZero_61 : decode c_M_putZero 61 = .ok (.iconst 1, 1) := by decide +kernel
theorem d_M_putZero_62 : decode c_M_putZero 62 = .ok (.bastore, 1) := by decide +kernel
theorem d_M_putZero_63 : decode c_M_putZero 63 = .ok (.return_, 1) := by decide +kernel
theorem d_M_onwards_0 : decode c_M_onwards 0 = .ok (.aload_n 0, 1) := by decide +kernel
theorem d_M_onwards_1 : decode c_M_onwards 1 = .ok (.getfield 13, 3) := by decide +kernel
theorem d_M_onwards_4 : decode c_M_onwards 4 = .ok (.bipush 12, 2) := by decide +kernel
theorem d_M_onwards_6 : decode c_M_onwards 6 = .ok (.iload_n 1, 1) := by decide +kernel
theorem d_M_onwards_7 : decode c_M_onwards 7 = .ok (.imul, 1) := by decide +kernel
theorem d_M_onwards_8 : decode c_M_onwards 8 = .ok (.iload_n 2, 1) := by decide +kernel
theorem d_M_onwards_9 : decode c_M_onwards 9 = .ok (.iadd, 1) := by decide +kernel
theorem d_M_onwards_10 : decode c_M_onwards 10 = .ok (.iaload, 1) := by decide +kernel
theorem d_M_onwards_11 : decode c_M_onwards 11 = .ok (.istore 5, 2) := by decide +kernel
theorem d_M_onwards_13 : decode c_M_onwards 13 = .ok (.aload_n 0, 1) := by decide +kernel
theorem d_M_onwards_14 : decode c_M_onwards 14 = .ok (.getfield 16, 3) := by decide +kernel
theorem d_M_onwards_17 : decode c_M_onwards 17 = .ok (.bipush 12, 2) := by decide +kernel
theorem d_M_onwards_19 : decode c_M_onwards 19 = .ok (.iload_n 1, 1) := by decide +kernel
theorem d_M_onwards_20 : decode c_M_onwards 20 = .ok (.imul, 1) := by decide +kernel
theorem d_M_onwards_21 : decode c_M_onwards 21 = .ok (.iload_n 2, 1) := by decide +kernel
theorem d_M_onwards_22 : decode c_M_onwards 22 = .ok (.iadd, 1) := by decide +kernel
theorem d_M_onwards_23 : decode c_M_onwards 23 = .ok (.iaload, 1) := by decide +kernel
theorem d_M_onwards_24 : decode c_M_onwards 24 = .ok (.istore 6, 2) := by decide +kernel
theorem d_M_onwards_26 : decode c_M_onwards 26 = .ok (.iload 5, 2) := by decide +kernel
theorem d_M_onwards_28 : decode c_M_onwards 28 = .ok (.bipush 8, 2) := by decide +kernel
theorem d_M_onwards_30 : decode c_M_onwards 30 = .ok (.if_icmp .eq 10, 3) := by decide +kernel
theorem d_M_onwards_33 : decode c_M_onwards 33 = .ok (.iload 5, 2) := by decide +kernel
theorem d_M_onwards_35 : decode c_M_onwards 35 = .ok (.bipush 9, 2) := by decide +kernel
theorem d_M_onwards_37 : decode c_M_onwards 37 = .ok (.if_icmp .ne 32, 3) := by decide +kernel
theorem d_M_onwards_40 : decode c_M_onwards 40 = .ok (.iload 4, 2) := by decide +kernel
theorem d_M_onwards_42 : decode c_M_onwards 42 = .ok (.bipush 64, 2) := by decide +kernel
theorem d_M_onwards_44 : decode c_M_onwards 44 = .ok (.if_icmp .ne 13, 3) := by decide +kernel
theorem d_M_onwards_47 : decode c_M_onwards 47 = .ok (.aload_n 0, 1) := by decide +kernel
theorem d_M_onwards_48 : decode c_M_onwards 48 = .ok (.iload_n 1, 1) := by decide +kernel
theorem d_M_onwards_49 : decode c_M_onwards 49 = .ok (.iload 6, 2) := by decide +kernel
theorem d_M_onwards_51 : decode c_M_onwards 51 = .ok (.invokevirtual 133, 3) := by decide +kernel
theorem d_M_onwards_54 : decode c_M_onwards 54 = .ok (.goto 15, 3) := by decide +kernel
theorem d_M_onwards_57 : decode c_M_onwards 57 = .ok (.aload_n 0, 1) := by decide +kernel
theorem d_M_onwards_58 : decode c_M_onwards 58 = .ok (.iload_n 1, 1) := by decide +kernel
theorem d_M_onwards_59 : decode c_M_onwards 59 = .ok (.iload 6, 2) := by decide +kernel
theorem d_M_onwards_61 : decode c_M_onwards 61 = .ok (.iload_n 3, 1) := by decide +kernel
theorem d_M_onwards_62 : decode c_M_onwards 62 = .ok (.lconst 1, 1) := by decide +kernel
theorem d_M_onwards_63 : decode c_M_onwards 63 = .ok (.iload 4, 2) := by decide +kernel
theorem d_M_onwards_65 : decode c_M_onwards 65 = .ok (.lshl, 1) := by decide +kernel
theorem d_M_onwards_66 : decode c_M_onwards 66 = .ok (.invokevirtual 136, 3) := by decide +kernel
theorem d_M_onwards_69 : decode c_M_onwards 69 = .ok (.iload 5, 2) := by decide +kernel
theorem d_M_onwards_71 : decode c_M_onwards 71 = .ok (.bipush 9, 2) := by decide +kernel
theorem d_M_onwards_73 : decode c_M_onwards 73 = .ok (.if_icmp .eq 34, 3) := by decide +kernel
theorem d_M_onwards_76 : decode c_M_onwards 76 = .ok (.iload 4, 2) := by decide +kernel
theorem d_M_onwards_78 : decode c_M_onwards 78 = .ok (.bipush 64, 2) := by decide +kernel
theorem d_M_onwards_80 : decode c_M_onwards 80 = .ok (.if_icmp .ne 14, 3) := by decide +kernel
theorem d_M_onwards_83 : decode c_M_onwards 83 = .ok (.aload_n 0, 1) := by decide +kernel
theorem d_M_onwards_84 : decode c_M_onwards 84 = .ok (.iload_n 1, 1) := by decide +kernel
theorem d_M_onwards_85 : decode c_M_onwards 85 = .ok (.iload_n 2, 1) := by decide +kernel
theorem d_M_onwards_86 : decode c_M_onwards 86 = .ok (.iconst 1, 1) := by decide +kernel
theorem d_M_onwards_87 : decode c_M_onwards 87 = .ok (.iadd, 1) := by decide +kernel
theorem d_M_onwards_88 : decode c_M_onwards 88 = .ok (.invokevirtual 133, 3) := by decide +kernel
theorem d_M_onwards_91 : decode c_M_onwards 91 = .ok (.goto 16, 3) := by decide +kernel
theorem d_M_onwards_94 : decode c_M_onwards 94 = .ok (.aload_n 0, 1) := by decide +kernel
theorem d_M_onwards_95 : decode c_M_onwards 95 = .ok (.iload_n 1, 1) := by decide +kernel
theorem d_M_onwards_96 : decode c_M_onwards 96 = .ok (.iload_n 2, 1) := by decide +kernel
theorem d_M_onwards_97 : decode c_M_onwards 97 = .ok (.iconst 1, 1) := by decide +kernel
theorem d_M_onwards_98 : decode c_M_onwards 98 = .ok (.iadd, 1) := by decide +kernel
theorem d_M_onwards_99 : decode c_M_onwards 99 = .ok (.iload_n 3, 1) := by decide +kernel
theorem d_M_onwards_100 : decode c_M_onwards 100 = .ok (.lconst 1, 1) := by decide +kernel
theorem d_M_onwards_101 : decode c_M_onwards 101 = .ok (.iload 4, 2) := by decide +kernel
theorem d_M_onwards_103 : decode c_M_onwards 103 = .ok (.lshl, 1) := by decide +kernel
theorem d_M_onwards_104 : decode c_M_onwards 104 = .ok (.invokevirtual 136, 3) := by decide +kernel
theorem d_M_onwards_107 : decode c_M_onwards 107 = .ok (.return_, 1) := by decide +kernel
theorem d_M_back_0 : decode c_M_back 0 = .ok (.aload_n 0, 1) := by decide +kernel
theorem d_M_back_1 : decode c_M_back 1 = .ok (.getfield 16, 3) := by decide +kernel
theorem d_M_back_4 : decode c_M_back 4 = .ok (.bipush 12, 2) := by decide +kernel
theorem d_M_back_6 : decode c_M_back 6 = .ok (.iload_n 1, 1) := by decide +kernel
theorem d_M_back_7 : decode c_M_back 7 = .ok (.imul, 1) := by decide +kernel
theorem d_M_back_8 : decode c_M_back 8 = .ok (.iload_n 2, 1) := by decide +kernel
theorem d_M_back_9 : decode c_M_back 9 = .ok (.iadd, 1) := by decide +kernel
theorem d_M_back_10 : decode c_M_back 10 = .ok (.iaload, 1) := by decide +kernel
theorem d_M_back_11 : decode c_M_back 11 = .ok (.istore 6, 2) := by decide +kernel
theorem d_M_back_13 : decode c_M_back 13 = .ok (.iconst 0, 1) := by decide +kernel
theorem d_M_back_14 : decode c_M_back 14 = .ok (.istore 7, 2) := by decide +kernel
theorem d_M_back_16 : decode c_M_back 16 = .ok (.iload 7, 2) := by decide +kernel
theorem d_M_back_18 : decode c_M_back 18 = .ok (.aload_n 0, 1) := by decide +kernel
theorem d_M_back_19 : decode c_M_back 19 = .ok (.getfield 7, 3) := by decide +kernel
theorem d_M_back_22 : decode c_M_back 22 = .ok (.iload 4, 2) := by decide +kernel
theorem d_M_back_24 : decode c_M_back 24 = .ok (.iaload, 1) := by decide +kernel
theorem d_M_back_25 : decode c_M_back 25 = .ok (.if_icmp .gt 172, 3) := by decide +kernel
theorem d_M_back_28 : decode c_M_back 28 = .ok (.aload_n 0, 1) := by decide +kernel
theorem d_M_back_29 : decode c_M_back 29 = .ok (.getfield 44, 3) := by decide +kernel
theorem d_M_back_32 : decode c_M_back 32 = .ok (.aload_n 0, 1) := by decide +kernel
theorem d_M_back_33 : decode c_M_back 33 = .ok (.iload 4, 2) := by decide +kernel
theorem d_M_back_35 : decode c_M_back 35 = .ok (.iload 7, 2) := by decide +kernel
theorem d_M_back_37 : decode c_M_back 37 = .ok (.iload 5, 2) := by decide +kernel
theorem d_M_back_39 : decode c_M_back 39 = .ok (.invokevirtual 130, 3) := by decide +kernel
theorem d_M_back_42 : decode c_M_back 42 = .ok (.laload, 1) := by decide +kernel
theorem d_M_back_43 : decode c_M_back 43 = .ok (.lstore 8, 2) := by decide +kernel
theorem d_M_back_45 : decode c_M_back 45 = .ok (.iload 7, 2) := by decide +kernel
theorem d_M_back_47 : decode c_M_back 47 = .ok (.aload_n 0, 1) := by decide +kernel
theorem d_M_back_48 : decode c_M_back 48 = .ok (.getfield 7, 3) := by decide +kernel
theorem d_M_back_51 : decode c_M_back 51 = .ok (.iload 4, 2) := by decide +kernel
theorem d_M_back_53 : decode c_M_back 53 = .ok (.iaload, 1) := by decide +kernel
theorem d_M_back_54 : decode c_M_back 54 = .ok (.if_icmp .ne 7, 3) := by decide +kernel
theorem d_M_back_57 : decode c_M_back 57 = .ok (.iconst 1, 1) := by decide +kernel
theorem d_M_back_58 : decode c_M_back 58 = .ok (.goto 4, 3) := by decide +kernel
theorem d_M_back_61 : decode c_M_back 61 = .ok (.iconst 0, 1) := by decide +kernel
theorem d_M_back_62 : decode c_M_back 62 = .ok (.istore 10, 2) := by decide +kernel
theorem d_M_back_64 : decode c_M_back 64 = .ok (.iload 10, 2) := by decide +kernel
theorem d_M_back_66 : decode c_M_back 66 = .ok (.ifCond .ne 25, 3) := by decide +kernel
theorem d_M_back_69 : decode c_M_back 69 = .ok (.aload_n 0, 1) := by decide +kernel
theorem d_M_back_70 : decode c_M_back 70 = .ok (.getfield 13, 3) := by decide +kernel
theorem d_M_back_73 : decode c_M_back 73 = .ok (.bipush 12, 2) := by decide +kernel
theorem d_M_back_75 : decode c_M_back 75 = .ok (.iload 4, 2) := by decide +kernel
theorem d_M_back_77 : decode c_M_back 77 = .ok (.imul, 1) := by decide +kernel
theorem d_M_back_78 : decode c_M_back 78 = .ok (.iload 7, 2) := by decide +kernel
theorem d_M_back_80 : decode c_M_back 80 = .ok (.iadd, 1) := by decide +kernel
theorem d_M_back_81 : decode c_M_back 81 = .ok (.iaload, 1) := by decide +kernel
theorem d_M_back_82 : decode c_M_back 82 = .ok (.bipush 10, 2) := by decide +kernel
theorem d_M_back_84 : decode c_M_back 84 = .ok (.if_icmp .ne 7, 3) := by decide +kernel
theorem d_M_back_87 : decode c_M_back 87 = .ok (.iconst 1, 1) := by decide +kernel
theorem d_M_back_88 : decode c_M_back 88 = .ok (.goto 4, 3) := by decide +kernel
theorem d_M_back_91 : decode c_M_back 91 = .ok (.iconst 0, 1) := by decide +kernel
theorem d_M_back_92 : decode c_M_back 92 = .ok (.istore 11, 2) := by decide +kernel
theorem d_M_back_94 : decode c_M_back 94 = .ok (.iload 10, 2) := by decide +kernel
theorem d_M_back_96 : decode c_M_back 96 = .ok (.ifCond .ne 8, 3) := by decide +kernel
theorem d_M_back_99 : decode c_M_back 99 = .ok (.iload 11, 2) := by decide +kernel
theorem d_M_back_101 : decode c_M_back 101 = .ok (.ifCond .eq 18, 3) := by decide +kernel
theorem d_M_back_104 : decode c_M_back 104 = .ok (.aload_n 0, 1) := by decide +kernel
theorem d_M_back_105 : decode c_M_back 105 = .ok (.iload_n 1, 1) := by decide +kernel
theorem d_M_back_106 : decode c_M_back 106 = .ok (.iload_n 2, 1) := by decide +kernel
theorem d_M_back_107 : decode c_M_back 107 = .ok (.iconst 1, 1) := by decide +kernel
theorem d_M_back_108 : decode c_M_back 108 = .ok (.iadd, 1) := by decide +kernel
theorem d_M_back_109 : decode c_M_back 109 = .ok (.iload_n 3, 1) := by decide +kernel
theorem d_M_back_110 : decode c_M_back 110 = .ok (.lload 8, 2) := by decide +kernel
theorem d_M_back_112 : decode c_M_back 112 = .ok (.ldc2_w 140, 3) := by decide +kernel
theorem d_M_back_115 : decode c_M_back 115 = .ok (.land, 1) := by decide +kernel
theorem d_M_back_116 : decode c_M_back 116 = .ok (.invokevirtual 136, 3) := by decide +kernel
theorem d_M_back_119 : decode c_M_back 119 = .ok (.iconst 0, 1) := by decide +kernel
theorem d_M_back_120 : decode c_M_back 120 = .ok (.istore 12, 2) := by decide +kernel
theorem d_M_back_122 : decode c_M_back 122 = .ok (.iload 12, 2) := by decide +kernel
theorem d_M_back_124 : decode c_M_back 124 = .ok (.iconst 4, 1) := by decide +kernel
theorem d_M_back_125 : decode c_M_back 125 = .ok (.if_icmp .ge 66, 3) := by decide +kernel
theorem d_M_back_128 : decode c_M_back 128 = .ok (.iload 11, 2) := by decide +kernel
theorem d_M_back_130 : decode c_M_back 130 = .ok (.ifCond .eq 61, 3) := by decide +kernel
theorem d_M_back_133 : decode c_M_back 133 = .ok (.aload_n 0, 1) := by decide +kernel
theorem d_M_back_134 : decode c_M_back 134 = .ok (.getfield 16, 3) := by decide +kernel
theorem d_M_back_137 : decode c_M_back 137 = .ok (.bipush 12, 2) := by decide +kernel
theorem d_M_back_139 : decode c_M_back 139 = .ok (.iload 4, 2) := by decide +kernel
theorem d_M_back_141 : decode c_M_back 141 = .ok (.imul, 1) := by decide +kernel
theorem d_M_back_142 : decode c_M_back 142 = .ok (.iload 7, 2) := by decide +kernel
theorem d_M_back_144 : decode c_M_back 144 = .ok (.iadd, 1) := by decide +kernel
theorem d_M_back_145 : decode c_M_back 145 = .ok (.iaload, 1) := by decide +kernel
theorem d_M_back_146 : decode c_M_back 146 = .ok (.istore 13, 2) := by decide +kernel
theorem d_M_back_148 : decode c_M_back 148 = .ok (.lload 8, 2) := by decide +kernel
theorem d_M_back_150 : decode c_M_back 150 = .ok (.bipush 16, 2) := by decide +kernel
theorem d_M_back_152 : decode c_M_back 152 = .ok (.iload 12, 2) := by decide +kernel
theorem d_M_back_154 : decode c_M_back 154 = .ok (.imul, 1) := by decide +kernel
theorem d_M_back_155 : decode c_M_back 155 = .ok (.iload 13, 2) := by decide +kernel
theorem d_M_back_157 : decode c_M_back 157 = .ok (.iadd, 1) := by decide +kernel
theorem d_M_back_158 : decode c_M_back 158 = .ok (.lshr, 1) := by decide +kernel
theorem d_M_back_159 : decode c_M_back 159 = .ok (.lconst 1, 1) := by decide +kernel
theorem d_M_back_160 : decode c_M_back 160 = .ok (.land, 1) := by decide +kernel
theorem d_M_back_161 : decode c_M_back 161 = .ok (.lconst 1, 1) := by decide +kernel
theorem d_M_back_162 : decode c_M_back 162 = .ok (.lcmp, 1) := by decide +kernel
theorem d_M_back_163 : decode c_M_back 163 = .ok (.ifCond .ne 22, 3) := by decide +kernel
theorem d_M_back_166 : decode c_M_back 166 = .ok (.aload_n 0, 1) := by decide +kernel
theorem d_M_back_167 : decode c_M_back 167 = .ok (.iload_n 1, 1) := by decide +kernel
theorem d_M_back_168 : decode c_M_back 168 = .ok (.iload_n 2, 1) := by decide +kernel
theorem d_M_back_169 : decode c_M_back 169 = .ok (.iconst 1, 1) := by decide +kernel
theorem d_M_back_170 : decode c_M_back 170 = .ok (.iadd, 1) := by decide +kernel
theorem d_M_back_171 : decode c_M_back 171 = .ok (.iload_n 3, 1) := by decide +kernel
theorem d_M_back_172 : decode c_M_back 172 = .ok (.lconst 1, 1) := by decide +kernel
theorem d_M_back_173 : decode c_M_back 173 = .ok (.bipush 16, 2) := by decide +kernel
theorem d_M_back_175 : decode c_M_back 175 = .ok (.iload 12, 2) := by decide +kernel
theorem d_M_back_177 : decode c_M_back 177 = .ok (.imul, 1) := by decide +kernel
theorem d_M_back_178 : decode c_M_back 178 = .ok (.iload 6, 2) := by decide +kernel
theorem d_M_back_180 : decode c_M_back 180 = .ok (.iadd, 1) := by decide +kernel
theorem d_M_back_181 : decode c_M_back 181 = .ok (.lshl, 1) := by decide +kernel
theorem d_M_back_182 : decode c_M_back 182 = .ok (.invokevirtual 136, 3) := by decide +kernel
theorem d_M_back_185 : decode c_M_back 185 = .ok (.iinc 12 1, 3) := by decide +kernel
theorem d_M_back_188 : decode c_M_back 188 = .ok (.goto (-66), 3) := by decide +kernel
theorem d_M_back_191 : decode c_M_back 191 = .ok (.iinc 7 1, 3) := by decide +kernel
theorem d_M_back_194 : decode c_M_back 194 = .ok (.goto (-178), 3) := by decide +kernel
theorem d_M_back_197 : decode c_M_back 197 = .ok (.return_, 1) := by decide +kernel
theorem d_M_give_0 : decode c_M_give 0 = .ok (.iload 5, 2) := by decide +kernel
theorem d_M_give_2 : decode c_M_give 2 = .ok (.bipush 64, 2) := by decide +kernel
theorem d_M_give_4 : decode c_M_give 4 = .ok (.if_icmp .ne 40, 3) := by decide +kernel
theorem d_M_give_7 : decode c_M_give 7 = .ok (.aload_n 0, 1) := by decide +kernel
theorem d_M_give_8 : decode c_M_give 8 = .ok (.aload_n 0, 1) := by decide +kernel
theorem d_M_give_9 : decode c_M_give 9 = .ok (.getfield 111, 3) := by decide +kernel
theorem d_M_give_12 : decode c_M_give 12 = .ok (.ifCond .ne 13, 3) := by decide +kernel
theorem d_M_give_15 : decode c_M_give 15 = .ok (.aload_n 0, 1) := by decide +kernel
theorem d_M_give_16 : decode c_M_give 16 = .ok (.getfield 54, 3) := by decide +kernel
theorem d_M_give_19 : decode c_M_give 19 = .ok (.iload 4, 2) := by decide +kernel
theorem d_M_give_21 : decode c_M_give 21 = .ok (.baload, 1) := by decide +kernel
theorem d_M_give_22 : decode c_M_give 22 = .ok (.ifCond .ne 7, 3) := by decide +kernel
theorem d_M_give_25 : decode c_M_give 25 = .ok (.iconst 1, 1) := by decide +kernel
theorem d_M_give_26 : decode c_M_give 26 = .ok (.goto 4, 3) := by decide +kernel
theorem d_M_give_29 : decode c_M_give 29 = .ok (.iconst 0, 1) := by decide +kernel
theorem d_M_give_30 : decode c_M_give 30 = .ok (.putfield 111, 3) := by decide +kernel
theorem d_M_give_33 : decode c_M_give 33 = .ok (.aload_n 0, 1) := by decide +kernel
theorem d_M_give_34 : decode c_M_give 34 = .ok (.getfield 54, 3) := by decide +kernel
theorem d_M_give_37 : decode c_M_give 37 = .ok (.iload 4, 2) := by decide +kernel
theorem d_M_give_39 : decode c_M_give 39 = .ok (.iconst 1, 1) := by decide +kernel
theorem d_M_give_40 : decode c_M_give 40 = .ok (.bastore, 1) := by decide +kernel
theorem d_M_give_41 : decode c_M_give 41 = .ok (.goto 55, 3) := by decide +kernel
theorem d_M_give_44 : decode c_M_give 44 = .ok (.aload_n 0, 1) := by decide +kernel
theorem d_M_give_45 : decode c_M_give 45 = .ok (.getfield 51, 3) := by decide +kernel
theorem d_M_give_48 : decode c_M_give 48 = .ok (.iload 4, 2) := by decide +kernel
theorem d_M_give_50 : decode c_M_give 50 = .ok (.laload, 1) := by decide +kernel
theorem d_M_give_51 : decode c_M_give 51 = .ok (.lstore 6, 2) := by decide +kernel
theorem d_M_give_53 : decode c_M_give 53 = .ok (.aload_n 0, 1) := by decide +kernel
theorem d_M_give_54 : decode c_M_give 54 = .ok (.getfield 51, 3) := by decide +kernel
theorem d_M_give_57 : decode c_M_give 57 = .ok (.iload 4, 2) := by decide +kernel
theorem d_M_give_59 : decode c_M_give 59 = .ok (.lload 6, 2) := by decide +kernel
theorem d_M_give_61 : decode c_M_give 61 = .ok (.lconst 1, 1) := by decide +kernel
theorem d_M_give_62 : decode c_M_give 62 = .ok (.iload 5, 2) := by decide +kernel
theorem d_M_give_64 : decode c_M_give 64 = .ok (.lshl, 1) := by decide +kernel
theorem d_M_give_65 : decode c_M_give 65 = .ok (.lor, 1) := by decide +kernel
theorem d_M_give_66 : decode c_M_give 66 = .ok (.lastore, 1) := by decide +kernel
theorem d_M_give_67 : decode c_M_give 67 = .ok (.aload_n 0, 1) := by decide +kernel
theorem d_M_give_68 : decode c_M_give 68 = .ok (.aload_n 0, 1) := by decide +kernel
theorem d_M_give_69 : decode c_M_give 69 = .ok (.getfield 111, 3) := by decide +kernel
theorem d_M_give_72 : decode c_M_give 72 = .ok (.ifCond .ne 16, 3) := by decide +kernel
theorem d_M_give_75 : decode c_M_give 75 = .ok (.aload_n 0, 1) := by decide +kernel
theorem d_M_give_76 : decode c_M_give 76 = .ok (.getfield 51, 3) := by decide +kernel
theorem d_M_give_79 : decode c_M_give 79 = .ok (.iload 4, 2) := by decide +kernel
theorem d_M_give_81 : decode c_M_give 81 = .ok (.laload, 1) := by decide +kernel
theorem d_M_give_82 : decode c_M_give 82 = .ok (.lload 6, 2) := by decide +kernel
theorem d_M_give_84 : decode c_M_give 84 = .ok (.lcmp, 1) := by decide +kernel
theorem d_M_give_85 : decode c_M_give 85 = .ok (.ifCond .eq 7, 3) := by decide +kernel
theorem d_M_give_88 : decode c_M_give 88 = .ok (.iconst 1, 1) := by decide +kernel
theorem d_M_give_89 : decode c_M_give 89 = .ok (.goto 4, 3) := by decide +kernel
theorem d_M_give_92 : decode c_M_give 92 = .ok (.iconst 0, 1) := by decide +kernel
theorem d_M_give_93 : decode c_M_give 93 = .ok (.putfield 111, 3) := by decide +kernel
theorem d_M_give_96 : decode c_M_give 96 = .ok (.aload_n 0, 1) := by decide +kernel
theorem d_M_give_97 : decode c_M_give 97 = .ok (.iload_n 1, 1) := by decide +kernel
theorem d_M_give_98 : decode c_M_give 98 = .ok (.iload_n 2, 1) := by decide +kernel
theorem d_M_give_99 : decode c_M_give 99 = .ok (.iload_n 3, 1) := by decide +kernel
theorem d_M_give_100 : decode c_M_give 100 = .ok (.iload 4, 2) := by decide +kernel
theorem d_M_give_102 : decode c_M_give 102 = .ok (.iload 5, 2) := by decide +kernel
theorem d_M_give_104 : decode c_M_give 104 = .ok (.invokevirtual 142, 3) := by decide +kernel
theorem d_M_give_107 : decode c_M_give 107 = .ok (.return_, 1) := by decide +kernel
theorem d_M_callFacts_0 : decode c_M_callFacts 0 = .ok (.bipush 12, 2) := by decide +kernel
theorem d_M_callFacts_2 : decode c_M_callFacts 2 = .ok (.iload_n 1, 1) := by decide +kernel
theorem d_M_callFacts_3 : decode c_M_callFacts 3 = .ok (.imul, 1) := by decide +kernel
theorem d_M_callFacts_4 : decode c_M_callFacts 4 = .ok (.iload_n 2, 1) := by decide +kernel
theorem d_M_callFacts_5 : decode c_M_callFacts 5 = .ok (.iadd, 1) := by decide +kernel
theorem d_M_callFacts_6 : decode c_M_callFacts 6 = .ok (.istore 5, 2) := by decide +kernel
theorem d_M_callFacts_8 : decode c_M_callFacts 8 = .ok (.iload 4, 2) := by decide +kernel
theorem d_M_callFacts_10 : decode c_M_callFacts 10 = .ok (.bipush 15, 2) := by decide +kernel
theorem d_M_callFacts_12 : decode c_M_callFacts 12 = .ok (.iand, 1) := by decide +kernel
theorem d_M_callFacts_13 : decode c_M_callFacts 13 = .ok (.istore 6, 2) := by decide +kernel
theorem d_M_callFacts_15 : decode c_M_callFacts 15 = .ok (.iload 4, 2) := by decide +kernel
theorem d_M_callFacts_17 : decode c_M_callFacts 17 = .ok (.bipush 64, 2) := by decide +kernel
theorem d_M_callFacts_19 : decode c_M_callFacts 19 = .ok (.if_icmp .ne 14, 3) := by decide +kernel
theorem d_M_callFacts_22 : decode c_M_callFacts 22 = .ok (.aload_n 0, 1) := by decide +kernel
theorem d_M_callFacts_23 : decode c_M_callFacts 23 = .ok (.iload_n 1, 1) := by decide +kernel
theorem d_M_callFacts_24 : decode c_M_callFacts 24 = .ok (.iload_n 2, 1) := by decide +kernel
theorem d_M_callFacts_25 : decode c_M_callFacts 25 = .ok (.iconst 1, 1) := by decide +kernel
theorem d_M_callFacts_26 : decode c_M_callFacts 26 = .ok (.iadd, 1) := by decide +kernel
theorem d_M_callFacts_27 : decode c_M_callFacts 27 = .ok (.invokevirtual 133, 3) := by decide +kernel
theorem d_M_callFacts_30 : decode c_M_callFacts 30 = .ok (.goto 34, 3) := by decide +kernel
theorem d_M_callFacts_33 : decode c_M_callFacts 33 = .ok (.iload 6, 2) := by decide +kernel
theorem d_M_callFacts_35 : decode c_M_callFacts 35 = .ok (.iconst 4, 1) := by decide +kernel
theorem d_M_callFacts_36 : decode c_M_callFacts 36 = .ok (.if_icmp .ge 28, 3) := by decide +kernel
theorem d_M_callFacts_39 : decode c_M_callFacts 39 = .ok (.iload 6, 2) := by decide +kernel
theorem d_M_callFacts_41 : decode c_M_callFacts 41 = .ok (.aload_n 0, 1) := by decide +kernel
theorem d_M_callFacts_42 : decode c_M_callFacts 42 = .ok (.getfield 16, 3) := by decide +kernel
theorem d_M_callFacts_45 : decode c_M_callFacts 45 = .ok (.iload 5, 2) := by decide +kernel
theorem d_M_callFacts_47 : decode c_M_callFacts 47 = .ok (.iaload, 1) := by decide +kernel
theorem d_M_callFacts_48 : decode c_M_callFacts 48 = .ok (.if_icmp .eq 16, 3) := by decide +kernel
theorem d_M_callFacts_51 : decode c_M_callFacts 51 = .ok (.aload_n 0, 1) := by decide +kernel
theorem d_M_callFacts_52 : decode c_M_callFacts 52 = .ok (.iload_n 1, 1) := by decide +kernel
theorem d_M_callFacts_53 : decode c_M_callFacts 53 = .ok (.iload_n 2, 1) := by decide +kernel
theorem d_M_callFacts_54 : decode c_M_callFacts 54 = .ok (.iconst 1, 1) := by decide +kernel
theorem d_M_callFacts_55 : decode c_M_callFacts 55 = .ok (.iadd, 1) := by decide +kernel
theorem d_M_callFacts_56 : decode c_M_callFacts 56 = .ok (.iload_n 3, 1) := by decide +kernel
theorem d_M_callFacts_57 : decode c_M_callFacts 57 = .ok (.lconst 1, 1) := by decide +kernel
theorem d_M_callFacts_58 : decode c_M_callFacts 58 = .ok (.iload 4, 2) := by decide +kernel
theorem d_M_callFacts_60 : decode c_M_callFacts 60 = .ok (.lshl, 1) := by decide +kernel
theorem d_M_callFacts_61 : decode c_M_callFacts 61 = .ok (.invokevirtual 136, 3) := by decide +kernel
theorem d_M_callFacts_64 : decode c_M_callFacts 64 = .ok (.iconst 0, 1) := by decide +kernel
theorem d_M_callFacts_65 : decode c_M_callFacts 65 = .ok (.istore 7, 2) := by decide +kernel
theorem d_M_callFacts_67 : decode c_M_callFacts 67 = .ok (.iload 7, 2) := by decide +kernel
theorem d_M_callFacts_69 : decode c_M_callFacts 69 = .ok (.bipush 6, 2) := by decide +kernel
theorem d_M_callFacts_71 : decode c_M_callFacts 71 = .ok (.if_icmp .ge 141, 3) := by decide +kernel
theorem d_M_callFacts_74 : decode c_M_callFacts 74 = .ok (.aload_n 0, 1) := by decide +kernel
theorem d_M_callFacts_75 : decode c_M_callFacts 75 = .ok (.getfield 41, 3) := by decide +kernel
theorem d_M_callFacts_78 : decode c_M_callFacts 78 = .ok (.iload 5, 2) := by decide +kernel
theorem d_M_callFacts_80 : decode c_M_callFacts 80 = .ok (.iaload, 1) := by decide +kernel
theorem d_M_callFacts_81 : decode c_M_callFacts 81 = .ok (.iload 7, 2) := by decide +kernel
theorem d_M_callFacts_83 : decode c_M_callFacts 83 = .ok (.ishr, 1) := by decide +kernel
theorem d_M_callFacts_84 : decode c_M_callFacts 84 = .ok (.iconst 1, 1) := by decide +kernel
theorem d_M_callFacts_85 : decode c_M_callFacts 85 = .ok (.iand, 1) := by decide +kernel
theorem d_M_callFacts_86 : decode c_M_callFacts 86 = .ok (.iconst 1, 1) := by decide +kernel
theorem d_M_callFacts_87 : decode c_M_callFacts 87 = .ok (.if_icmp .ne 7, 3) := by decide +kernel
theorem d_M_callFacts_90 : decode c_M_callFacts 90 = .ok (.iconst 1, 1) := by decide +kernel
theorem d_M_callFacts_91 : decode c_M_callFacts 91 = .ok (.goto 4, 3) := by decide +kernel
theorem d_M_callFacts_94 : decode c_M_callFacts 94 = .ok (.iconst 0, 1) := by decide +kernel
theorem d_M_callFacts_95 : decode c_M_callFacts 95 = .ok (.istore 8, 2) := by decide +kernel
theorem d_M_callFacts_97 : decode c_M_callFacts 97 = .ok (.iload 8, 2) := by decide +kernel
theorem d_M_callFacts_99 : decode c_M_callFacts 99 = .ok (.ifCond .eq 27, 3) := by decide +kernel
theorem d_M_callFacts_102 : decode c_M_callFacts 102 = .ok (.iload 4, 2) := by decide +kernel
theorem d_M_callFacts_104 : decode c_M_callFacts 104 = .ok (.bipush 64, 2) := by decide +kernel
theorem d_M_callFacts_106 : decode c_M_callFacts 106 = .ok (.if_icmp .eq 9, 3) := by decide +kernel
theorem d_M_callFacts_109 : decode c_M_callFacts 109 = .ok (.iload 6, 2) := by decide +kernel
theorem d_M_callFacts_111 : decode c_M_callFacts 111 = .ok (.iconst 4, 1) := by decide +kernel
theorem d_M_callFacts_112 : decode c_M_callFacts 112 = .ok (.if_icmp .lt 14, 3) := by decide +kernel
theorem d_M_callFacts_115 : decode c_M_callFacts 115 = .ok (.aload_n 0, 1) := by decide +kernel
theorem d_M_callFacts_116 : decode c_M_callFacts 116 = .ok (.iload_n 1, 1) := by decide +kernel
theorem d_M_callFacts_117 : decode c_M_callFacts 117 = .ok (.iload_n 2, 1) := by decide +kernel
theorem d_M_callFacts_118 : decode c_M_callFacts 118 = .ok (.iload_n 3, 1) := by decide +kernel
theorem d_M_callFacts_119 : decode c_M_callFacts 119 = .ok (.iload 7, 2) := by decide +kernel
theorem d_M_callFacts_121 : decode c_M_callFacts 121 = .ok (.iload 4, 2) := by decide +kernel
theorem d_M_callFacts_123 : decode c_M_callFacts 123 = .ok (.invokevirtual 146, 3) := by decide +kernel
theorem d_M_callFacts_126 : decode c_M_callFacts 126 = .ok (.iload 8, 2) := by decide +kernel
theorem d_M_callFacts_128 : decode c_M_callFacts 128 = .ok (.ifCond .eq 36, 3) := by decide +kernel
theorem d_M_callFacts_131 : decode c_M_callFacts 131 = .ok (.iload 4, 2) := by decide +kernel
theorem d_M_callFacts_133 : decode c_M_callFacts 133 = .ok (.bipush 64, 2) := by decide +kernel
theorem d_M_callFacts_135 : decode c_M_callFacts 135 = .ok (.if_icmp .eq 29, 3) := by decide +kernel
theorem d_M_callFacts_138 : decode c_M_callFacts 138 = .ok (.iload 6, 2) := by decide +kernel
theorem d_M_callFacts_140 : decode c_M_callFacts 140 = .ok (.aload_n 0, 1) := by decide +kernel
theorem d_M_callFacts_141 : decode c_M_callFacts 141 = .ok (.getfield 19, 3) := by decide +kernel
theorem d_M_callFacts_144 : decode c_M_callFacts 144 = .ok (.iload 5, 2) := by decide +kernel
theorem d_M_callFacts_146 : decode c_M_callFacts 146 = .ok (.iaload, 1) := by decide +kernel
theorem d_M_callFacts_147 : decode c_M_callFacts 147 = .ok (.if_icmp .ne 17, 3) := by decide +kernel
theorem d_M_callFacts_150 : decode c_M_callFacts 150 = .ok (.aload_n 0, 1) := by decide +kernel
theorem d_M_callFacts_151 : decode c_M_callFacts 151 = .ok (.iload_n 1, 1) := by decide +kernel
theorem d_M_callFacts_152 : decode c_M_callFacts 152 = .ok (.iload_n 2, 1) := by decide +kernel
theorem d_M_callFacts_153 : decode c_M_callFacts 153 = .ok (.iload_n 3, 1) := by decide +kernel
theorem d_M_callFacts_154 : decode c_M_callFacts 154 = .ok (.iload 7, 2) := by decide +kernel
theorem d_M_callFacts_156 : decode c_M_callFacts 156 = .ok (.iload 4, 2) := by decide +kernel
theorem d_M_callFacts_158 : decode c_M_callFacts 158 = .ok (.iload 6, 2) := by decide +kernel
theorem d_M_callFacts_160 : decode c_M_callFacts 160 = .ok (.isub, 1) := by decide +kernel
theorem d_M_callFacts_161 : decode c_M_callFacts 161 = .ok (.invokevirtual 146, 3) := by decide +kernel
theorem d_M_callFacts_164 : decode c_M_callFacts 164 = .ok (.iload 8, 2) := by decide +kernel
theorem d_M_callFacts_166 : decode c_M_callFacts 166 = .ok (.ifCond .eq 40, 3) := by decide +kernel
theorem d_M_callFacts_169 : decode c_M_callFacts 169 = .ok (.iload 4, 2) := by decide +kernel
theorem d_M_callFacts_171 : decode c_M_callFacts 171 = .ok (.bipush 64, 2) := by decide +kernel
theorem d_M_callFacts_173 : decode c_M_callFacts 173 = .ok (.if_icmp .eq 33, 3) := by decide +kernel
theorem d_M_callFacts_176 : decode c_M_callFacts 176 = .ok (.iload 6, 2) := by decide +kernel
theorem d_M_callFacts_178 : decode c_M_callFacts 178 = .ok (.aload_n 0, 1) := by decide +kernel
theorem d_M_callFacts_179 : decode c_M_callFacts 179 = .ok (.getfield 22, 3) := by decide +kernel
theorem d_M_callFacts_182 : decode c_M_callFacts 182 = .ok (.iload 5, 2) := by decide +kernel
theorem d_M_callFacts_184 : decode c_M_callFacts 184 = .ok (.iaload, 1) := by decide +kernel
theorem d_M_callFacts_185 : decode c_M_callFacts 185 = .ok (.iconst 4, 1) := by decide +kernel
theorem d_M_callFacts_186 : decode c_M_callFacts 186 = .ok (.irem, 1) := by decide +kernel
theorem d_M_callFacts_187 : decode c_M_callFacts 187 = .ok (.if_icmp .ne 19, 3) := by decide +kernel
theorem d_M_callFacts_190 : decode c_M_callFacts 190 = .ok (.aload_n 0, 1) := by decide +kernel
theorem d_M_callFacts_191 : decode c_M_callFacts 191 = .ok (.iload_n 1, 1) := by decide +kernel
theorem d_M_callFacts_192 : decode c_M_callFacts 192 = .ok (.iload_n 2, 1) := by decide +kernel
theorem d_M_callFacts_193 : decode c_M_callFacts 193 = .ok (.iload_n 3, 1) := by decide +kernel
theorem d_M_callFacts_194 : decode c_M_callFacts 194 = .ok (.iload 7, 2) := by decide +kernel
theorem d_M_callFacts_196 : decode c_M_callFacts 196 = .ok (.iload 4, 2) := by decide +kernel
theorem d_M_callFacts_198 : decode c_M_callFacts 198 = .ok (.iload 6, 2) := by decide +kernel
theorem d_M_callFacts_200 : decode c_M_callFacts 200 = .ok (.isub, 1) := by decide +kernel
theorem d_M_callFacts_201 : decode c_M_callFacts 201 = .ok (.iconst 1, 1) := by decide +kernel
theorem d_M_callFacts_202 : decode c_M_callFacts 202 = .ok (.iadd, 1) := by decide +kernel
theorem d_M_callFacts_203 : decode c_M_callFacts 203 = .ok (.invokevirtual 146, 3) := by decide +kernel
theorem d_M_callFacts_206 : decode c_M_callFacts 206 = .ok (.iinc 7 1, 3) := by decide +kernel
theorem d_M_callFacts_209 : decode c_M_callFacts 209 = .ok (.goto (-142), 3) := by decide +kernel
theorem d_M_callFacts_212 : decode c_M_callFacts 212 = .ok (.return_, 1) := by decide +kernel
theorem d_M_followFact_0 : decode c_M_followFact 0 = .ok (.bipush 12, 2) := by decide +kernel
theorem d_M_followFact_2 : decode c_M_followFact 2 = .ok (.iload_n 1, 1) := by decide +kernel
theorem d_M_followFact_3 : decode c_M_followFact 3 = .ok (.imul, 1) := by decide +kernel
theorem d_M_followFact_4 : decode c_M_followFact 4 = .ok (.iload_n 2, 1) := by decide +kernel
theorem d_M_followFact_5 : decode c_M_followFact 5 = .ok (.iadd, 1) := by decide +kernel
theorem d_M_followFact_6 : decode c_M_followFact 6 = .ok (.istore 5, 2) := by decide +kernel
theorem d_M_followFact_8 : decode c_M_followFact 8 = .ok (.aload_n 0, 1) := by decide +kernel
theorem d_M_followFact_9 : decode c_M_followFact 9 = .ok (.getfield 13, 3) := by decide +kernel
theorem d_M_followFact_12 : decode c_M_followFact 12 = .ok (.iload 5, 2) := by decide +kernel
theorem d_M_followFact_14 : decode c_M_followFact 14 = .ok (.iaload, 1) := by decide +kernel
theorem d_M_followFact_15 : decode c_M_followFact 15 = .ok (.istore 6, 2) := by decide +kernel
theorem d_M_followFact_17 : decode c_M_followFact 17 = .ok (.aload_n 0, 1) := by decide +kernel
theorem d_M_followFact_18 : decode c_M_followFact 18 = .ok (.getfield 16, 3) := by decide +kernel
theorem d_M_followFact_21 : decode c_M_followFact 21 = .ok (.iload 5, 2) := by decide +kernel
theorem d_M_followFact_23 : decode c_M_followFact 23 = .ok (.iaload, 1) := by decide +kernel
theorem d_M_followFact_24 : decode c_M_followFact 24 = .ok (.istore 7, 2) := by decide +kernel
theorem d_M_followFact_26 : decode c_M_followFact 26 = .ok (.aload_n 0, 1) := by decide +kernel
theorem d_M_followFact_27 : decode c_M_followFact 27 = .ok (.getfield 19, 3) := by decide +kernel
theorem d_M_followFact_30 : decode c_M_followFact 30 = .ok (.iload 5, 2) := by decide +kernel
theorem d_M_followFact_32 : decode c_M_followFact 32 = .ok (.iaload, 1) := by decide +kernel
theorem d_M_followFact_33 : decode c_M_followFact 33 = .ok (.istore 8, 2) := by decide +kernel
theorem d_M_followFact_35 : decode c_M_followFact 35 = .ok (.iload 4, 2) := by decide +kernel
theorem d_M_followFact_37 : decode c_M_followFact 37 = .ok (.bipush 15, 2) := by decide +kernel
theorem d_M_followFact_39 : decode c_M_followFact 39 = .ok (.iand, 1) := by decide +kernel
theorem d_M_followFact_40 : decode c_M_followFact 40 = .ok (.istore 9, 2) := by decide +kernel
theorem d_M_followFact_42 : decode c_M_followFact 42 = .ok (.iload 4, 2) := by decide +kernel
theorem d_M_followFact_44 : decode c_M_followFact 44 = .ok (.iload 9, 2) := by decide +kernel
theorem d_M_followFact_46 : decode c_M_followFact 46 = .ok (.isub, 1) := by decide +kernel
theorem d_M_followFact_47 : decode c_M_followFact 47 = .ok (.istore 10, 2) := by decide +kernel
theorem d_M_followFact_49 : decode c_M_followFact 49 = .ok (.iload 6, 2) := by decide +kernel
theorem d_M_followFact_51 : decode c_M_followFact 51 = .ok (.ifCond .eq 21, 3) := by decide +kernel
theorem d_M_followFact_54 : decode c_M_followFact 54 = .ok (.iload 6, 2) := by decide +kernel
theorem d_M_followFact_56 : decode c_M_followFact 56 = .ok (.iconst 1, 1) := by decide +kernel
theorem d_M_followFact_57 : decode c_M_followFact 57 = .ok (.if_icmp .eq 15, 3) := by decide +kernel
theorem d_M_followFact_60 : decode c_M_followFact 60 = .ok (.iload 6, 2) := by decide +kernel
theorem d_M_followFact_62 : decode c_M_followFact 62 = .ok (.iconst 3, 1) := by decide +kernel
theorem d_M_followFact_63 : decode c_M_followFact 63 = .ok (.if_icmp .lt 13, 3) := by decide +kernel
theorem d_M_followFact_66 : decode c_M_followFact 66 = .ok (.iload 6, 2) := by decide +kernel
theorem d_M_followFact_68 : decode c_M_followFact 68 = .ok (.iconst 5, 1) := by decide +kernel
theorem d_M_followFact_69 : decode c_M_followFact 69 = .ok (.if_icmp .gt 7, 3) := by decide +kernel
theorem d_M_followFact_72 : decode c_M_followFact 72 = .ok (.iconst 1, 1) := by decide +kernel
theorem d_M_followFact_73 : decode c_M_followFact 73 = .ok (.goto 4, 3) := by decide +kernel
theorem d_M_followFact_76 : decode c_M_followFact 76 = .ok (.iconst 0, 1) := by decide +kernel
theorem d_M_followFact_77 : decode c_M_followFact 77 = .ok (.istore 11, 2) := by decide +kernel
theorem d_M_followFact_79 : decode c_M_followFact 79 = .ok (.iload 11, 2) := by decide +kernel
theorem d_M_followFact_81 : decode c_M_followFact 81 = .ok (.ifCond .eq 10, 3) := by decide +kernel
theorem d_M_followFact_84 : decode c_M_followFact 84 = .ok (.iload 9, 2) := by decide +kernel
theorem d_M_followFact_86 : decode c_M_followFact 86 = .ok (.iload 7, 2) := by decide +kernel
theorem d_M_followFact_88 : decode c_M_followFact 88 = .ok (.if_icmp .eq 12, 3) := by decide +kernel
theorem d_M_followFact_91 : decode c_M_followFact 91 = .ok (.aload_n 0, 1) := by decide +kernel
theorem d_M_followFact_92 : decode c_M_followFact 92 = .ok (.iload_n 1, 1) := by decide +kernel
theorem d_M_followFact_93 : decode c_M_followFact 93 = .ok (.iload_n 2, 1) := by decide +kernel
theorem d_M_followFact_94 : decode c_M_followFact 94 = .ok (.iload_n 3, 1) := by decide +kernel
theorem d_M_followFact_95 : decode c_M_followFact 95 = .ok (.iload 4, 2) := by decide +kernel
theorem d_M_followFact_97 : decode c_M_followFact 97 = .ok (.invokevirtual 153, 3) := by decide +kernel
theorem d_M_followFact_100 : decode c_M_followFact 100 = .ok (.iload 6, 2) := by decide +kernel
theorem d_M_followFact_102 : decode c_M_followFact 102 = .ok (.iconst 4, 1) := by decide +kernel
theorem d_M_followFact_103 : decode c_M_followFact 103 = .ok (.if_icmp .eq 9, 3) := by decide +kernel
theorem d_M_followFact_106 : decode c_M_followFact 106 = .ok (.iload 6, 2) := by decide +kernel
theorem d_M_followFact_108 : decode c_M_followFact 108 = .ok (.iconst 5, 1) := by decide +kernel
theorem d_M_followFact_109 : decode c_M_followFact 109 = .ok (.if_icmp .ne 22, 3) := by decide +kernel
theorem d_M_followFact_112 : decode c_M_followFact 112 = .ok (.iload 9, 2) := by decide +kernel
theorem d_M_followFact_114 : decode c_M_followFact 114 = .ok (.iload 8, 2) := by decide +kernel
theorem d_M_followFact_116 : decode c_M_followFact 116 = .ok (.if_icmp .ne 15, 3) := by decide +kernel
theorem d_M_followFact_119 : decode c_M_followFact 119 = .ok (.aload_n 0, 1) := by decide +kernel
theorem d_M_followFact_120 : decode c_M_followFact 120 = .ok (.iload_n 1, 1) := by decide +kernel
