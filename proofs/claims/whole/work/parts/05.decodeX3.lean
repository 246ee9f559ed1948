theorem d_A_calledMethod_9 : decode c_A_calledMethod 9 = .ok (.iaload, 1) := by decide +kernel
theorem d_A_calledMethod_10 : decode c_A_calledMethod 10 = .ok (.invokevirtual 107, 3) := by decide +kernel
theorem d_A_calledMethod_13 : decode c_A_calledMethod 13 = .ok (.istore_n 2, 1) := by decide +kernel
theorem d_A_calledMethod_14 : decode c_A_calledMethod 14 = .ok (.iload_n 2, 1) := by decide +kernel
theorem d_A_calledMethod_15 : decode c_A_calledMethod 15 = .ok (.iconst (-1), 1) := by decide +kernel
theorem d_A_calledMethod_16 : decode c_A_calledMethod 16 = .ok (.if_icmp .ne 5, 3) := by decide +kernel
theorem d_A_calledMethod_19 : decode c_A_calledMethod 19 = .ok (.iconst (-1), 1) := by decide +kernel
theorem d_A_calledMethod_20 : decode c_A_calledMethod 20 = .ok (.ireturn, 1) := by decide +kernel
theorem d_A_calledMethod_21 : decode c_A_calledMethod 21 = .ok (.aload_n 0, 1) := by decide +kernel
theorem d_A_calledMethod_22 : decode c_A_calledMethod 22 = .ok (.getfield 9, 3) := by decide +kernel
theorem d_A_calledMethod_25 : decode c_A_calledMethod 25 = .ok (.aload_n 0, 1) := by decide +kernel
theorem d_A_calledMethod_26 : decode c_A_calledMethod 26 = .ok (.getfield 25, 3) := by decide +kernel
theorem d_A_calledMethod_29 : decode c_A_calledMethod 29 = .ok (.iload_n 2, 1) := by decide +kernel
theorem d_A_calledMethod_30 : decode c_A_calledMethod 30 = .ok (.iaload, 1) := by decide +kernel
theorem d_A_calledMethod_31 : decode c_A_calledMethod 31 = .ok (.aload_n 0, 1) := by decide +kernel
theorem d_A_calledMethod_32 : decode c_A_calledMethod 32 = .ok (.getfield 9, 3) := by decide +kernel
theorem d_A_calledMethod_35 : decode c_A_calledMethod 35 = .ok (.getfield 113, 3) := by decide +kernel
theorem d_A_calledMethod_38 : decode c_A_calledMethod 38 = .ok (.iload_n 1, 1) := by decide +kernel
theorem d_A_calledMethod_39 : decode c_A_calledMethod 39 = .ok (.iaload, 1) := by decide +kernel
theorem d_A_calledMethod_40 : decode c_A_calledMethod 40 = .ok (.iconst 4, 1) := by decide +kernel
theorem d_A_calledMethod_41 : decode c_A_calledMethod 41 = .ok (.idiv, 1) := by decide +kernel
theorem d_A_calledMethod_42 : decode c_A_calledMethod 42 = .ok (.invokevirtual 116, 3) := by decide +kernel
theorem d_A_calledMethod_45 : decode c_A_calledMethod 45 = .ok (.ireturn, 1) := by decide +kernel
theorem d_A_endingBeforeStep_0 : decode c_A_endingBeforeStep 0 = .ok (.aload_n 0, 1) := by decide +kernel
theorem d_A_endingBeforeStep_1 : decode c_A_endingBeforeStep 1 = .ok (.getfield 79, 3) := by decide +kernel
theorem d_A_endingBeforeStep_4 : decode c_A_endingBeforeStep 4 = .ok (.ifCond .ne 5, 3) := by decide +kernel
theorem d_A_endingBeforeStep_7 : decode c_A_endingBeforeStep 7 = .ok (.iconst 1, 1) := by decide +kernel
theorem d_A_endingBeforeStep_8 : decode c_A_endingBeforeStep 8 = .ok (.ireturn, 1) := by decide +kernel
theorem d_A_endingBeforeStep_9 : decode c_A_endingBeforeStep 9 = .ok (.aload_n 0, 1) := by decide +kernel
theorem d_A_endingBeforeStep_10 : decode c_A_endingBeforeStep 10 = .ok (.getfield 61, 3) := by decide +kernel
theorem d_A_endingBeforeStep_13 : decode c_A_endingBeforeStep 13 = .ok (.iload_n 1, 1) := by decide +kernel
theorem d_A_endingBeforeStep_14 : decode c_A_endingBeforeStep 14 = .ok (.if_icmp .lt 5, 3) := by decide +kernel
theorem d_A_endingBeforeStep_17 : decode c_A_endingBeforeStep 17 = .ok (.iconst 2, 1) := by decide +kernel
theorem d_A_endingBeforeStep_18 : decode c_A_endingBeforeStep 18 = .ok (.ireturn, 1) := by decide +kernel
theorem d_A_endingBeforeStep_19 : decode c_A_endingBeforeStep 19 = .ok (.aload_n 0, 1) := by decide +kernel
theorem d_A_endingBeforeStep_20 : decode c_A_endingBeforeStep 20 = .ok (.getfield 19, 3) := by decide +kernel
theorem d_A_endingBeforeStep_23 : decode c_A_endingBeforeStep 23 = .ok (.aload_n 0, 1) := by decide +kernel
theorem d_A_endingBeforeStep_24 : decode c_A_endingBeforeStep 24 = .ok (.getfield 79, 3) := by decide +kernel
theorem d_A_endingBeforeStep_27 : decode c_A_endingBeforeStep 27 = .ok (.iconst 1, 1) := by decide +kernel
theorem d_A_endingBeforeStep_28 : decode c_A_endingBeforeStep 28 = .ok (.isub, 1) := by decide +kernel
theorem d_A_endingBeforeStep_29 : decode c_A_endingBeforeStep 29 = .ok (.iaload, 1) := by decide +kernel
theorem d_A_endingBeforeStep_30 : decode c_A_endingBeforeStep 30 = .ok (.istore_n 2, 1) := by decide +kernel
theorem d_A_endingBeforeStep_31 : decode c_A_endingBeforeStep 31 = .ok (.aload_n 0, 1) := by decide +kernel
theorem d_A_endingBeforeStep_32 : decode c_A_endingBeforeStep 32 = .ok (.getfield 9, 3) := by decide +kernel
theorem d_A_endingBeforeStep_35 : decode c_A_endingBeforeStep 35 = .ok (.getfield 101, 3) := by decide +kernel
theorem d_A_endingBeforeStep_38 : decode c_A_endingBeforeStep 38 = .ok (.iload_n 2, 1) := by decide +kernel
theorem d_A_endingBeforeStep_39 : decode c_A_endingBeforeStep 39 = .ok (.iaload, 1) := by decide +kernel
theorem d_A_endingBeforeStep_40 : decode c_A_endingBeforeStep 40 = .ok (.tableswitch 135 0 7 #[48, 135, 135, 135, 135, 63, 86, 109], 48) := by decide +kernel
theorem d_A_endingBeforeStep_88 : decode c_A_endingBeforeStep 88 = .ok (.aload_n 0, 1) := by decide +kernel
theorem d_A_endingBeforeStep_89 : decode c_A_endingBeforeStep 89 = .ok (.getfield 76, 3) := by decide +kernel
theorem d_A_endingBeforeStep_92 : decode c_A_endingBeforeStep 92 = .ok (.bipush 12, 2) := by decide +kernel
theorem d_A_endingBeforeStep_94 : decode c_A_endingBeforeStep 94 = .ok (.if_icmp .ne 7, 3) := by decide +kernel
theorem d_A_endingBeforeStep_97 : decode c_A_endingBeforeStep 97 = .ok (.iconst 5, 1) := by decide +kernel
theorem d_A_endingBeforeStep_98 : decode c_A_endingBeforeStep 98 = .ok (.goto 4, 3) := by decide +kernel
theorem d_A_endingBeforeStep_101 : decode c_A_endingBeforeStep 101 = .ok (.iconst 0, 1) := by decide +kernel
theorem d_A_endingBeforeStep_102 : decode c_A_endingBeforeStep 102 = .ok (.ireturn, 1) := by decide +kernel
theorem d_A_endingBeforeStep_103 : decode c_A_endingBeforeStep 103 = .ok (.aload_n 0, 1) := by decide +kernel
theorem d_A_endingBeforeStep_104 : decode c_A_endingBeforeStep 104 = .ok (.aload_n 0, 1) := by decide +kernel
theorem d_A_endingBeforeStep_105 : decode c_A_endingBeforeStep 105 = .ok (.getfield 9, 3) := by decide +kernel
theorem d_A_endingBeforeStep_108 : decode c_A_endingBeforeStep 108 = .ok (.getfield 104, 3) := by decide +kernel
theorem d_A_endingBeforeStep_111 : decode c_A_endingBeforeStep 111 = .ok (.iload_n 2, 1) := by decide +kernel
theorem d_A_endingBeforeStep_112 : decode c_A_endingBeforeStep 112 = .ok (.iaload, 1) := by decide +kernel
theorem d_A_endingBeforeStep_113 : decode c_A_endingBeforeStep 113 = .ok (.invokevirtual 107, 3) := by decide +kernel
theorem d_A_endingBeforeStep_116 : decode c_A_endingBeforeStep 116 = .ok (.iconst (-1), 1) := by decide +kernel
theorem d_A_endingBeforeStep_117 : decode c_A_endingBeforeStep 117 = .ok (.if_icmp .ne 7, 3) := by decide +kernel
theorem d_A_endingBeforeStep_120 : decode c_A_endingBeforeStep 120 = .ok (.iconst 3, 1) := by decide +kernel
theorem d_A_endingBeforeStep_121 : decode c_A_endingBeforeStep 121 = .ok (.goto 4, 3) := by decide +kernel
theorem d_A_endingBeforeStep_124 : decode c_A_endingBeforeStep 124 = .ok (.iconst 0, 1) := by decide +kernel
theorem d_A_endingBeforeStep_125 : decode c_A_endingBeforeStep 125 = .ok (.ireturn, 1) := by decide +kernel
theorem d_A_endingBeforeStep_126 : decode c_A_endingBeforeStep 126 = .ok (.aload_n 0, 1) := by decide +kernel
theorem d_A_endingBeforeStep_127 : decode c_A_endingBeforeStep 127 = .ok (.aload_n 0, 1) := by decide +kernel
theorem d_A_endingBeforeStep_128 : decode c_A_endingBeforeStep 128 = .ok (.getfield 9, 3) := by decide +kernel
theorem d_A_endingBeforeStep_131 : decode c_A_endingBeforeStep 131 = .ok (.getfield 98, 3) := by decide +kernel
theorem d_A_endingBeforeStep_134 : decode c_A_endingBeforeStep 134 = .ok (.iload_n 2, 1) := by decide +kernel
theorem d_A_endingBeforeStep_135 : decode c_A_endingBeforeStep 135 = .ok (.iaload, 1) := by decide +kernel
theorem d_A_endingBeforeStep_136 : decode c_A_endingBeforeStep 136 = .ok (.invokevirtual 107, 3) := by decide +kernel
theorem d_A_endingBeforeStep_139 : decode c_A_endingBeforeStep 139 = .ok (.iconst (-1), 1) := by decide +kernel
theorem d_A_endingBeforeStep_140 : decode c_A_endingBeforeStep 140 = .ok (.if_icmp .ne 7, 3) := by decide +kernel
theorem d_A_endingBeforeStep_143 : decode c_A_endingBeforeStep 143 = .ok (.iconst 3, 1) := by decide +kernel
theorem d_A_endingBeforeStep_144 : decode c_A_endingBeforeStep 144 = .ok (.goto 4, 3) := by decide +kernel
theorem d_A_endingBeforeStep_147 : decode c_A_endingBeforeStep 147 = .ok (.iconst 0, 1) := by decide +kernel
theorem d_A_endingBeforeStep_148 : decode c_A_endingBeforeStep 148 = .ok (.ireturn, 1) := by decide +kernel
theorem d_A_endingBeforeStep_149 : decode c_A_endingBeforeStep 149 = .ok (.aload_n 0, 1) := by decide +kernel
theorem d_A_endingBeforeStep_150 : decode c_A_endingBeforeStep 150 = .ok (.iload_n 2, 1) := by decide +kernel
theorem d_A_endingBeforeStep_151 : decode c_A_endingBeforeStep 151 = .ok (.invokevirtual 110, 3) := by decide +kernel
theorem d_A_endingBeforeStep_154 : decode c_A_endingBeforeStep 154 = .ok (.iconst (-1), 1) := by decide +kernel
theorem d_A_endingBeforeStep_155 : decode c_A_endingBeforeStep 155 = .ok (.if_icmp .ne 5, 3) := by decide +kernel
theorem d_A_endingBeforeStep_158 : decode c_A_endingBeforeStep 158 = .ok (.iconst 3, 1) := by decide +kernel
theorem d_A_endingBeforeStep_159 : decode c_A_endingBeforeStep 159 = .ok (.ireturn, 1) := by decide +kernel
theorem d_A_endingBeforeStep_160 : decode c_A_endingBeforeStep 160 = .ok (.aload_n 0, 1) := by decide +kernel
theorem d_A_endingBeforeStep_161 : decode c_A_endingBeforeStep 161 = .ok (.getfield 79, 3) := by decide +kernel
theorem d_A_endingBeforeStep_164 : decode c_A_endingBeforeStep 164 = .ok (.bipush 6, 2) := by decide +kernel
theorem d_A_endingBeforeStep_166 : decode c_A_endingBeforeStep 166 = .ok (.if_icmp .ne 7, 3) := by decide +kernel
theorem d_A_endingBeforeStep_169 : decode c_A_endingBeforeStep 169 = .ok (.iconst 4, 1) := by decide +kernel
theorem d_A_endingBeforeStep_170 : decode c_A_endingBeforeStep 170 = .ok (.goto 4, 3) := by decide +kernel
theorem d_A_endingBeforeStep_173 : decode c_A_endingBeforeStep 173 = .ok (.iconst 0, 1) := by decide +kernel
theorem d_A_endingBeforeStep_174 : decode c_A_endingBeforeStep 174 = .ok (.ireturn, 1) := by decide +kernel
theorem d_A_endingBeforeStep_175 : decode c_A_endingBeforeStep 175 = .ok (.iconst 0, 1) := by decide +kernel
theorem d_A_endingBeforeStep_176 : decode c_A_endingBeforeStep 176 = .ok (.ireturn, 1) := by decide +kernel
theorem d_A_makeObject_0 : decode c_A_makeObject 0 = .ok (.aload_n 0, 1) := by decide +kernel
theorem d_A_makeObject_1 : decode c_A_makeObject 1 = .ok (.getfield 25, 3) := by decide +kernel
theorem d_A_makeObject_4 : decode c_A_makeObject 4 = .ok (.aload_n 0, 1) := by decide +kernel
theorem d_A_makeObject_5 : decode c_A_makeObject 5 = .ok (.getfield 76, 3) := by decide +kernel
theorem d_A_makeObject_8 : decode c_A_makeObject 8 = .ok (.iload_n 1, 1) := by decide +kernel
theorem d_A_makeObject_9 : decode c_A_makeObject 9 = .ok (.iastore, 1) := by decide +kernel
theorem d_A_makeObject_10 : decode c_A_makeObject 10 = .ok (.aload_n 0, 1) := by decide +kernel
theorem d_A_makeObject_11 : decode c_A_makeObject 11 = .ok (.getfield 28, 3) := by decide +kernel
theorem d_A_makeObject_14 : decode c_A_makeObject 14 = .ok (.aload_n 0, 1) := by decide +kernel
theorem d_A_makeObject_15 : decode c_A_makeObject 15 = .ok (.getfield 76, 3) := by decide +kernel
theorem d_A_makeObject_18 : decode c_A_makeObject 18 = .ok (.iconst 2, 1) := by decide +kernel
theorem d_A_makeObject_19 : decode c_A_makeObject 19 = .ok (.imul, 1) := by decide +kernel
theorem d_A_makeObject_20 : decode c_A_makeObject 20 = .ok (.iconst 0, 1) := by decide +kernel
theorem d_A_makeObject_21 : decode c_A_makeObject 21 = .ok (.iastore, 1) := by decide +kernel
theorem d_A_makeObject_22 : decode c_A_makeObject 22 = .ok (.aload_n 0, 1) := by decide +kernel
theorem d_A_makeObject_23 : decode c_A_makeObject 23 = .ok (.getfield 28, 3) := by decide +kernel
theorem d_A_makeObject_26 : decode c_A_makeObject 26 = .ok (.aload_n 0, 1) := by decide +kernel
theorem d_A_makeObject_27 : decode c_A_makeObject 27 = .ok (.getfield 76, 3) := by decide +kernel
theorem d_A_makeObject_30 : decode c_A_makeObject 30 = .ok (.iconst 2, 1) := by decide +kernel
theorem d_A_makeObject_31 : decode c_A_makeObject 31 = .ok (.imul, 1) := by decide +kernel
theorem d_A_makeObject_32 : decode c_A_makeObject 32 = .ok (.iconst 1, 1) := by decide +kernel
theorem d_A_makeObject_33 : decode c_A_makeObject 33 = .ok (.iadd, 1) := by decide +kernel
theorem d_A_makeObject_34 : decode c_A_makeObject 34 = .ok (.iconst 0, 1) := by decide +kernel
theorem d_A_makeObject_35 : decode c_A_makeObject 35 = .ok (.iastore, 1) := by decide +kernel
theorem d_A_makeObject_36 : decode c_A_makeObject 36 = .ok (.aload_n 0, 1) := by decide +kernel
theorem d_A_makeObject_37 : decode c_A_makeObject 37 = .ok (.dup, 1) := by decide +kernel
theorem d_A_makeObject_38 : decode c_A_makeObject 38 = .ok (.getfield 76, 3) := by decide +kernel
theorem d_A_makeObject_41 : decode c_A_makeObject 41 = .ok (.iconst 1, 1) := by decide +kernel
theorem d_A_makeObject_42 : decode c_A_makeObject 42 = .ok (.iadd, 1) := by decide +kernel
theorem d_A_makeObject_43 : decode c_A_makeObject 43 = .ok (.putfield 76, 3) := by decide +kernel
theorem d_A_makeObject_46 : decode c_A_makeObject 46 = .ok (.aload_n 0, 1) := by decide +kernel
theorem d_A_makeObject_47 : decode c_A_makeObject 47 = .ok (.getfield 76, 3) := by decide +kernel
theorem d_A_makeObject_50 : decode c_A_makeObject 50 = .ok (.iconst 4, 1) := by decide +kernel
theorem d_A_makeObject_51 : decode c_A_makeObject 51 = .ok (.ishl, 1) := by decide +kernel
theorem d_A_makeObject_52 : decode c_A_makeObject 52 = .ok (.ireturn, 1) := by decide +kernel
theorem d_A_countHits_0 : decode c_A_countHits 0 = .ok (.iconst 0, 1) := by decide +kernel
theorem d_A_countHits_1 : decode c_A_countHits 1 = .ok (.istore_n 3, 1) := by decide +kernel
theorem d_A_countHits_2 : decode c_A_countHits 2 = .ok (.iload_n 3, 1) := by decide +kernel
theorem d_A_countHits_3 : decode c_A_countHits 3 = .ok (.iconst 4, 1) := by decide +kernel
theorem d_A_countHits_4 : decode c_A_countHits 4 = .ok (.if_icmp .ge 31, 3) := by decide +kernel
theorem d_A_countHits_7 : decode c_A_countHits 7 = .ok (.iload_n 2, 1) := by decide +kernel
theorem d_A_countHits_8 : decode c_A_countHits 8 = .ok (.iload_n 3, 1) := by decide +kernel
theorem d_A_countHits_9 : decode c_A_countHits 9 = .ok (.invokestatic 119, 3) := by decide +kernel
theorem d_A_countHits_12 : decode c_A_countHits 12 = .ok (.ifCond .eq 17, 3) := by decide +kernel
theorem d_A_countHits_15 : decode c_A_countHits 15 = .ok (.aload_n 0, 1) := by decide +kernel
theorem d_A_countHits_16 : decode c_A_countHits 16 = .ok (.getfield 31, 3) := by decide +kernel
theorem d_A_countHits_19 : decode c_A_countHits 19 = .ok (.iload_n 3, 1) := by decide +kernel
theorem d_A_countHits_20 : decode c_A_countHits 20 = .ok (.iconst 4, 1) := by decide +kernel
theorem d_A_countHits_21 : decode c_A_countHits 21 = .ok (.imul, 1) := by decide +kernel
theorem d_A_countHits_22 : decode c_A_countHits 22 = .ok (.iload_n 1, 1) := by decide +kernel
theorem d_A_countHits_23 : decode c_A_countHits 23 = .ok (.iadd, 1) := by decide +kernel
theorem d_A_countHits_24 : decode c_A_countHits 24 = .ok (.dup2, 1) := by decide +kernel
theorem d_A_countHits_25 : decode c_A_countHits 25 = .ok (.iaload, 1) := by decide +kernel
theorem d_A_countHits_26 : decode c_A_countHits 26 = .ok (.iconst 1, 1) := by decide +kernel
theorem d_A_countHits_27 : decode c_A_countHits 27 = .ok (.iadd, 1) := by decide +kernel
theorem d_A_countHits_28 : decode c_A_countHits 28 = .ok (.iastore, 1) := by decide +kernel
theorem d_A_countHits_29 : decode c_A_countHits 29 = .ok (.iinc 3 1, 3) := by decide +kernel
theorem d_A_countHits_32 : decode c_A_countHits 32 = .ok (.goto (-30), 3) := by decide +kernel
theorem d_A_countHits_35 : decode c_A_countHits 35 = .ok (.return_, 1) := by decide +kernel
theorem d_A_changeValues_0 : decode c_A_changeValues 0 = .ok (.aload_n 0, 1) := by decide +kernel
theorem d_A_changeValues_1 : decode c_A_changeValues 1 = .ok (.getfield 9, 3) := by decide +kernel
theorem d_A_changeValues_4 : decode c_A_changeValues 4 = .ok (.getfield 104, 3) := by decide +kernel
theorem d_A_changeValues_7 : decode c_A_changeValues 7 = .ok (.iload_n 1, 1) := by decide +kernel
theorem d_A_changeValues_8 : decode c_A_changeValues 8 = .ok (.iaload, 1) := by decide +kernel
theorem d_A_changeValues_9 : decode c_A_changeValues 9 = .ok (.istore 4, 2) := by decide +kernel
theorem d_A_changeValues_11 : decode c_A_changeValues 11 = .ok (.aload_n 0, 1) := by decide +kernel
theorem d_A_changeValues_12 : decode c_A_changeValues 12 = .ok (.getfield 9, 3) := by decide +kernel
theorem d_A_changeValues_15 : decode c_A_changeValues 15 = .ok (.getfield 113, 3) := by decide +kernel
theorem d_A_changeValues_18 : decode c_A_changeValues 18 = .ok (.iload_n 1, 1) := by decide +kernel
theorem d_A_changeValues_19 : decode c_A_changeValues 19 = .ok (.iaload, 1) := by decide +kernel
theorem d_A_changeValues_20 : decode c_A_changeValues 20 = .ok (.istore 5, 2) := by decide +kernel
theorem d_A_changeValues_22 : decode c_A_changeValues 22 = .ok (.aload_n 0, 1) := by decide +kernel
theorem d_A_changeValues_23 : decode c_A_changeValues 23 = .ok (.getfield 9, 3) := by decide +kernel
theorem d_A_changeValues_26 : decode c_A_changeValues 26 = .ok (.getfield 101, 3) := by decide +kernel
theorem d_A_changeValues_29 : decode c_A_changeValues 29 = .ok (.iload_n 1, 1) := by decide +kernel
theorem d_A_changeValues_30 : decode c_A_changeValues 30 = .ok (.iaload, 1) := by decide +kernel
theorem d_A_changeValues_31 : decode c_A_changeValues 31 = .ok (.tableswitch 207 0 6 #[41, 58, 80, 104, 120, 140, 180], 41) := by decide +kernel
theorem d_A_changeValues_72 : decode c_A_changeValues 72 = .ok (.aload_n 0, 1) := by decide +kernel
theorem d_A_changeValues_73 : decode c_A_changeValues 73 = .ok (.getfield 22, 3) := by decide +kernel
theorem d_A_changeValues_76 : decode c_A_changeValues 76 = .ok (.iload_n 2, 1) := by decide +kernel
theorem d_A_changeValues_77 : decode c_A_changeValues 77 = .ok (.iload_n 3, 1) := by decide +kernel
theorem d_A_changeValues_78 : decode c_A_changeValues 78 = .ok (.iadd, 1) := by decide +kernel
theorem d_A_changeValues_79 : decode c_A_changeValues 79 = .ok (.aload_n 0, 1) := by decide +kernel
theorem d_A_changeValues_80 : decode c_A_changeValues 80 = .ok (.iload 4, 2) := by decide +kernel
theorem d_A_changeValues_82 : decode c_A_changeValues 82 = .ok (.invokevirtual 129, 3) := by decide +kernel
theorem d_A_changeValues_85 : decode c_A_changeValues 85 = .ok (.iastore, 1) := by decide +kernel
theorem d_A_changeValues_86 : decode c_A_changeValues 86 = .ok (.goto 152, 3) := by decide +kernel
theorem d_A_changeValues_89 : decode c_A_changeValues 89 = .ok (.aload_n 0, 1) := by decide +kernel
theorem d_A_changeValues_90 : decode c_A_changeValues 90 = .ok (.getfield 22, 3) := by decide +kernel
theorem d_A_changeValues_93 : decode c_A_changeValues 93 = .ok (.iload_n 2, 1) := by decide +kernel
theorem d_A_changeValues_94 : decode c_A_changeValues 94 = .ok (.iload_n 3, 1) := by decide +kernel
theorem d_A_changeValues_95 : decode c_A_changeValues 95 = .ok (.iadd, 1) := by decide +kernel
theorem d_A_changeValues_96 : decode c_A_changeValues 96 = .ok (.iconst 1, 1) := by decide +kernel
theorem d_A_changeValues_97 : decode c_A_changeValues 97 = .ok (.aload_n 0, 1) := by decide +kernel
theorem d_A_changeValues_98 : decode c_A_changeValues 98 = .ok (.getfield 9, 3) := by decide +kernel
theorem d_A_changeValues_101 : decode c_A_changeValues 101 = .ok (.getfield 132, 3) := by decide +kernel
theorem d_A_changeValues_104 : decode c_A_changeValues 104 = .ok (.iload_n 1, 1) := by decide +kernel
theorem d_A_changeValues_105 : decode c_A_changeValues 105 = .ok (.iaload, 1) := by decide +kernel
theorem d_A_changeValues_106 : decode c_A_changeValues 106 = .ok (.ishl, 1) := by decide +kernel
theorem d_A_changeValues_107 : decode c_A_changeValues 107 = .ok (.iastore, 1) := by decide +kernel
theorem d_A_changeValues_108 : decode c_A_changeValues 108 = .ok (.goto 130, 3) := by decide +kernel
theorem d_A_changeValues_111 : decode c_A_changeValues 111 = .ok (.aload_n 0, 1) := by decide +kernel
theorem d_A_changeValues_112 : decode c_A_changeValues 112 = .ok (.aload_n 0, 1) := by decide +kernel
theorem d_A_changeValues_113 : decode c_A_changeValues 113 = .ok (.getfield 9, 3) := by decide +kernel
theorem d_A_changeValues_116 : decode c_A_changeValues 116 = .ok (.getfield 132, 3) := by decide +kernel
theorem d_A_changeValues_119 : decode c_A_changeValues 119 = .ok (.iload_n 1, 1) := by decide +kernel
theorem d_A_changeValues_120 : decode c_A_changeValues 120 = .ok (.iaload, 1) := by decide +kernel
theorem d_A_changeValues_121 : decode c_A_changeValues 121 = .ok (.aload_n 0, 1) := by decide +kernel
theorem d_A_changeValues_122 : decode c_A_changeValues 122 = .ok (.getfield 22, 3) := by decide +kernel
theorem d_A_changeValues_125 : decode c_A_changeValues 125 = .ok (.iload_n 2, 1) := by decide +kernel
theorem d_A_changeValues_126 : decode c_A_changeValues 126 = .ok (.iload_n 3, 1) := by decide +kernel
theorem d_A_changeValues_127 : decode c_A_changeValues 127 = .ok (.iadd, 1) := by decide +kernel
theorem d_A_changeValues_128 : decode c_A_changeValues 128 = .ok (.iaload, 1) := by decide +kernel
theorem d_A_changeValues_129 : decode c_A_changeValues 129 = .ok (.invokevirtual 135, 3) := by decide +kernel
theorem d_A_changeValues_132 : decode c_A_changeValues 132 = .ok (.goto 106, 3) := by decide +kernel
theorem d_A_changeValues_135 : decode c_A_changeValues 135 = .ok (.aload_n 0, 1) := by decide +kernel
theorem d_A_changeValues_136 : decode c_A_changeValues 136 = .ok (.getfield 22, 3) := by decide +kernel
theorem d_A_changeValues_139 : decode c_A_changeValues 139 = .ok (.iload_n 2, 1) := by decide +kernel
theorem d_A_changeValues_140 : decode c_A_changeValues 140 = .ok (.iload_n 3, 1) := by decide +kernel
theorem d_A_changeValues_141 : decode c_A_changeValues 141 = .ok (.iadd, 1) := by decide +kernel
theorem d_A_changeValues_142 : decode c_A_changeValues 142 = .ok (.dup2, 1) := by decide +kernel
theorem d_A_changeValues_143 : decode c_A_changeValues 143 = .ok (.iaload, 1) := by decide +kernel
theorem d_A_changeValues_144 : decode c_A_changeValues 144 = .ok (.bipush (-16), 2) := by decide +kernel
theorem d_A_changeValues_146 : decode c_A_changeValues 146 = .ok (.iand, 1) := by decide +kernel
theorem d_A_changeValues_147 : decode c_A_changeValues 147 = .ok (.iastore, 1) := by decide +kernel
theorem d_A_changeValues_148 : decode c_A_changeValues 148 = .ok (.goto 90, 3) := by decide +kernel
theorem d_A_changeValues_151 : decode c_A_changeValues 151 = .ok (.aload_n 0, 1) := by decide +kernel
theorem d_A_changeValues_152 : decode c_A_changeValues 152 = .ok (.getfield 22, 3) := by decide +kernel
theorem d_A_changeValues_155 : decode c_A_changeValues 155 = .ok (.iload_n 2, 1) := by decide +kernel
theorem d_A_changeValues_156 : decode c_A_changeValues 156 = .ok (.iload_n 3, 1) := by decide +kernel
theorem d_A_changeValues_157 : decode c_A_changeValues 157 = .ok (.iadd, 1) := by decide +kernel
theorem d_A_changeValues_158 : decode c_A_changeValues 158 = .ok (.aload_n 0, 1) := by decide +kernel
theorem d_A_changeValues_159 : decode c_A_changeValues 159 = .ok (.getfield 22, 3) := by decide +kernel
theorem d_A_changeValues_162 : decode c_A_changeValues 162 = .ok (.iload_n 2, 1) := by decide +kernel
theorem d_A_changeValues_163 : decode c_A_changeValues 163 = .ok (.iload 4, 2) := by decide +kernel
theorem d_A_changeValues_165 : decode c_A_changeValues 165 = .ok (.iadd, 1) := by decide +kernel
theorem d_A_changeValues_166 : decode c_A_changeValues 166 = .ok (.iaload, 1) := by decide +kernel
theorem d_A_changeValues_167 : decode c_A_changeValues 167 = .ok (.iastore, 1) := by decide +kernel
theorem d_A_changeValues_168 : decode c_A_changeValues 168 = .ok (.goto 70, 3) := by decide +kernel
theorem d_A_changeValues_171 : decode c_A_changeValues 171 = .ok (.aload_n 0, 1) := by decide +kernel
theorem d_A_changeValues_172 : decode c_A_changeValues 172 = .ok (.getfield 22, 3) := by decide +kernel
theorem d_A_changeValues_175 : decode c_A_changeValues 175 = .ok (.iload_n 2, 1) := by decide +kernel
theorem d_A_changeValues_176 : decode c_A_changeValues 176 = .ok (.iload_n 3, 1) := by decide +kernel
theorem d_A_changeValues_177 : decode c_A_changeValues 177 = .ok (.iadd, 1) := by decide +kernel
theorem d_A_changeValues_178 : decode c_A_changeValues 178 = .ok (.aload_n 0, 1) := by decide +kernel
theorem d_A_changeValues_179 : decode c_A_changeValues 179 = .ok (.getfield 28, 3) := by decide +kernel
theorem d_A_changeValues_182 : decode c_A_changeValues 182 = .ok (.aload_n 0, 1) := by decide +kernel
theorem d_A_changeValues_183 : decode c_A_changeValues 183 = .ok (.iload 4, 2) := by decide +kernel
theorem d_A_changeValues_185 : decode c_A_changeValues 185 = .ok (.invokevirtual 107, 3) := by decide +kernel
theorem d_A_changeValues_188 : decode c_A_changeValues 188 = .ok (.iconst 2, 1) := by decide +kernel
theorem d_A_changeValues_189 : decode c_A_changeValues 189 = .ok (.imul, 1) := by decide +kernel
theorem d_A_changeValues_190 : decode c_A_changeValues 190 = .ok (.iload 5, 2) := by decide +kernel
theorem d_A_changeValues_192 : decode c_A_changeValues 192 = .ok (.iadd, 1) := by decide +kernel
theorem d_A_changeValues_193 : decode c_A_changeValues 193 = .ok (.iaload, 1) := by decide +kernel
theorem d_A_changeValues_194 : decode c_A_changeValues 194 = .ok (.aload_n 0, 1) := by decide +kernel
theorem d_A_changeValues_195 : decode c_A_changeValues 195 = .ok (.getfield 22, 3) := by decide +kernel
theorem d_A_changeValues_198 : decode c_A_changeValues 198 = .ok (.iload_n 2, 1) := by decide +kernel
theorem d_A_changeValues_199 : decode c_A_changeValues 199 = .ok (.iload 4, 2) := by decide +kernel
theorem d_A_changeValues_201 : decode c_A_changeValues 201 = .ok (.iadd, 1) := by decide +kernel
theorem d_A_changeValues_202 : decode c_A_changeValues 202 = .ok (.iaload, 1) := by decide +kernel
theorem d_A_changeValues_203 : decode c_A_changeValues 203 = .ok (.bipush 15, 2) := by decide +kernel
theorem d_A_changeValues_205 : decode c_A_changeValues 205 = .ok (.iand, 1) := by decide +kernel
theorem d_A_changeValues_206 : decode c_A_changeValues 206 = .ok (.ior, 1) := by decide +kernel
theorem d_A_changeValues_207 : decode c_A_changeValues 207 = .ok (.iastore, 1) := by decide +kernel
theorem d_A_changeValues_208 : decode c_A_changeValues 208 = .ok (.goto 30, 3) := by decide +kernel
theorem d_A_changeValues_211 : decode c_A_changeValues 211 = .ok (.aload_n 0, 1) := by decide +kernel
theorem d_A_changeValues_212 : decode c_A_changeValues 212 = .ok (.getfield 28, 3) := by decide +kernel
theorem d_A_changeValues_215 : decode c_A_changeValues 215 = .ok (.aload_n 0, 1) := by decide +kernel
theorem d_A_changeValues_216 : decode c_A_changeValues 216 = .ok (.iload_n 3, 1) := by decide +kernel
theorem d_A_changeValues_217 : decode c_A_changeValues 217 = .ok (.invokevirtual 107, 3) := by decide +kernel
theorem d_A_changeValues_220 : decode c_A_changeValues 220 = .ok (.iconst 2, 1) := by decide +kernel
theorem d_A_changeValues_221 : decode c_A_changeValues 221 = .ok (.imul, 1) := by decide +kernel
theorem d_A_changeValues_222 : decode c_A_changeValues 222 = .ok (.iload 5, 2) := by decide +kernel
theorem d_A_changeValues_224 : decode c_A_changeValues 224 = .ok (.iadd, 1) := by decide +kernel
theorem d_A_changeValues_225 : decode c_A_changeValues 225 = .ok (.aload_n 0, 1) := by decide +kernel
theorem d_A_changeValues_226 : decode c_A_changeValues 226 = .ok (.getfield 22, 3) := by decide +kernel
theorem d_A_changeValues_229 : decode c_A_changeValues 229 = .ok (.iload_n 2, 1) := by decide +kernel
theorem d_A_changeValues_230 : decode c_A_changeValues 230 = .ok (.iload 4, 2) := by decide +kernel
theorem d_A_changeValues_232 : decode c_A_changeValues 232 = .ok (.iadd, 1) := by decide +kernel
theorem d_A_changeValues_233 : decode c_A_changeValues 233 = .ok (.iaload, 1) := by decide +kernel
theorem d_A_changeValues_234 : decode c_A_changeValues 234 = .ok (.iastore, 1) := by decide +kernel
theorem d_A_changeValues_235 : decode c_A_changeValues 235 = .ok (.goto 3, 3) := by decide +kernel
theorem d_A_changeValues_238 : decode c_A_changeValues 238 = .ok (.return_, 1) := by decide +kernel
theorem d_A_step_0 : decode c_A_step 0 = .ok (.aload_n 0, 1) := by decide +kernel
theorem d_A_step_1 : decode c_A_step 1 = .ok (.dup, 1) := by decide +kernel
theorem d_A_step_2 : decode c_A_step 2 = .ok (.getfield 61, 3) := by decide +kernel
theorem d_A_step_5 : decode c_A_step 5 = .ok (.iconst 1, 1) := by decide +kernel
theorem d_A_step_6 : decode c_A_step 6 = .ok (.iadd, 1) := by decide +kernel
theorem d_A_step_7 : decode c_A_step 7 = .ok (.putfield 61, 3) := by decide +kernel
theorem d_A_step_10 : decode c_A_step 10 = .ok (.aload_n 0, 1) := by decide +kernel
theorem d_A_step_11 : decode c_A_step 11 = .ok (.getfield 15, 3) := by decide +kernel
theorem d_A_step_14 : decode c_A_step 14 = .ok (.aload_n 0, 1) := by decide +kernel
theorem d_A_step_15 : decode c_A_step 15 = .ok (.getfield 79, 3) := by decide +kernel
theorem d_A_step_18 : decode c_A_step 18 = .ok (.iconst 1, 1) := by decide +kernel
theorem d_A_step_19 : decode c_A_step 19 = .ok (.isub, 1) := by decide +kernel
theorem d_A_step_20 : decode c_A_step 20 = .ok (.iaload, 1) := by decide +kernel
theorem d_A_step_21 : decode c_A_step 21 = .ok (.istore_n 1, 1) := by decide +kernel
theorem d_A_step_22 : decode c_A_step 22 = .ok (.aload_n 0, 1) := by decide +kernel
theorem d_A_step_23 : decode c_A_step 23 = .ok (.getfield 19, 3) := by decide +kernel
theorem d_A_step_26 : decode c_A_step 26 = .ok (.aload_n 0, 1) := by decide +kernel
theorem d_A_step_27 : decode c_A_step 27 = .ok (.getfield 79, 3) := by decide +kernel
theorem d_A_step_30 : decode c_A_step 30 = .ok (.iconst 1, 1) := by decide +kernel
theorem d_A_step_31 : decode c_A_step 31 = .ok (.isub, 1) := by decide +kernel
theorem d_A_step_32 : decode c_A_step 32 = .ok (.iaload, 1) := by decide +kernel
theorem d_A_step_33 : decode c_A_step 33 = .ok (.istore_n 2, 1) := by decide +kernel
theorem d_A_step_34 : decode c_A_step 34 = .ok (.aload_n 0, 1) := by decide +kernel
theorem d_A_step_35 : decode c_A_step 35 = .ok (.getfield 79, 3) := by decide +kernel
theorem d_A_step_38 : decode c_A_step 38 = .ok (.iconst 1, 1) := by decide +kernel
theorem d_A_step_39 : decode c_A_step 39 = .ok (.isub, 1) := by decide +kernel
theorem d_A_step_40 : decode c_A_step 40 = .ok (.iconst 4, 1) := by decide +kernel
theorem d_A_step_41 : decode c_A_step 41 = .ok (.imul, 1) := by decide +kernel
theorem d_A_step_42 : decode c_A_step 42 = .ok (.istore_n 3, 1) := by decide +kernel
theorem d_A_step_43 : decode c_A_step 43 = .ok (.aload_n 0, 1) := by decide +kernel
theorem d_A_step_44 : decode c_A_step 44 = .ok (.getfield 9, 3) := by decide +kernel
theorem d_A_step_47 : decode c_A_step 47 = .ok (.getfield 98, 3) := by decide +kernel
theorem d_A_step_50 : decode c_A_step 50 = .ok (.iload_n 2, 1) := by decide +kernel
theorem d_A_step_51 : decode c_A_step 51 = .ok (.iaload, 1) := by decide +kernel
theorem d_A_step_52 : decode c_A_step 52 = .ok (.istore 4, 2) := by decide +kernel
theorem d_A_step_54 : decode c_A_step 54 = .ok (.aload_n 0, 1) := by decide +kernel
theorem d_A_step_55 : decode c_A_step 55 = .ok (.getfield 9, 3) := by decide +kernel
theorem d_A_step_58 : decode c_A_step 58 = .ok (.getfield 101, 3) := by decide +kernel
theorem d_A_step_61 : decode c_A_step 61 = .ok (.iload_n 2, 1) := by decide +kernel
theorem d_A_step_62 : decode c_A_step 62 = .ok (.iaload, 1) := by decide +kernel
theorem d_A_step_63 : decode c_A_step 63 = .ok (.tableswitch 174 7 10 #[29, 75, 135, 158], 29) := by decide +kernel
theorem d_A_step_92 : decode c_A_step 92 = .ok (.aload_n 0, 1) := by decide +kernel
theorem d_A_step_93 : decode c_A_step 93 = .ok (.aload_n 0, 1) := by decide +kernel
theorem d_A_step_94 : decode c_A_step 94 = .ok (.iload_n 2, 1) := by decide +kernel
theorem d_A_step_95 : decode c_A_step 95 = .ok (.invokevirtual 110, 3) := by decide +kernel
theorem d_A_step_98 : decode c_A_step 98 = .ok (.aload_n 0, 1) := by decide +kernel
theorem d_A_step_99 : decode c_A_step 99 = .ok (.getfield 22, 3) := by decide +kernel
theorem d_A_step_102 : decode c_A_step 102 = .ok (.iload_n 3, 1) := by decide +kernel
theorem d_A_step_103 : decode c_A_step 103 = .ok (.aload_n 0, 1) := by decide +kernel
theorem d_A_step_104 : decode c_A_step 104 = .ok (.getfield 9, 3) := by decide +kernel
theorem d_A_step_107 : decode c_A_step 107 = .ok (.getfield 104, 3) := by decide +kernel
theorem d_A_step_110 : decode c_A_step 110 = .ok (.iload_n 2, 1) := by decide +kernel
theorem d_A_step_111 : decode c_A_step 111 = .ok (.iaload, 1) := by decide +kernel
theorem d_A_step_112 : decode c_A_step 112 = .ok (.iadd, 1) := by decide +kernel
theorem d_A_step_113 : decode c_A_step 113 = .ok (.iaload, 1) := by decide +kernel
theorem d_A_step_114 : decode c_A_step 114 = .ok (.aload_n 0, 1) := by decide +kernel
theorem d_A_step_115 : decode c_A_step 115 = .ok (.getfield 22, 3) := by decide +kernel
theorem d_A_step_118 : decode c_A_step 118 = .ok (.iload_n 3, 1) := by decide +kernel
theorem d_A_step_119 : decode c_A_step 119 = .ok (.aload_n 0, 1) := by decide +kernel
theorem d_A_step_120 : decode c_A_step 120 = .ok (.getfield 9, 3) := by decide +kernel
theorem d_A_step_123 : decode c_A_step 123 = .ok (.getfield 113, 3) := by decide +kernel
theorem d_A_step_126 : decode c_A_step 126 = .ok (.iload_n 2, 1) := by decide +kernel
theorem d_A_step_127 : decode c_A_step 127 = .ok (.iaload, 1) := by decide +kernel
theorem d_A_step_128 : decode c_A_step 128 = .ok (.iconst 4, 1) := by decide +kernel
theorem d_A_step_129 : decode c_A_step 129 = .ok (.irem, 1) := by decide +kernel
theorem d_A_step_130 : decode c_A_step 130 = .ok (.iadd, 1) := by decide +kernel
theorem d_A_step_131 : decode c_A_step 131 = .ok (.iaload, 1) := by decide +kernel
theorem d_A_step_132 : decode c_A_step 132 = .ok (.invokevirtual 82, 3) := by decide +kernel
theorem d_A_step_135 : decode c_A_step 135 = .ok (.goto 124, 3) := by decide +kernel
theorem d_A_step_138 : decode c_A_step 138 = .ok (.aload_n 0, 1) := by decide +kernel
theorem d_A_step_139 : decode c_A_step 139 = .ok (.getfield 70, 3) := by decide +kernel
theorem d_A_step_142 : decode c_A_step 142 = .ok (.aload_n 0, 1) := by decide +kernel
theorem d_A_step_143 : decode c_A_step 143 = .ok (.getfield 73, 3) := by decide +kernel
theorem d_A_step_146 : decode c_A_step 146 = .ok (.bipush 32, 2) := by decide +kernel
theorem d_A_step_148 : decode c_A_step 148 = .ok (.irem, 1) := by decide +kernel
theorem d_A_step_149 : decode c_A_step 149 = .ok (.invokestatic 119, 3) := by decide +kernel
theorem d_A_step_152 : decode c_A_step 152 = .ok (.istore 5, 2) := by decide +kernel
theorem d_A_step_154 : decode c_A_step 154 = .ok (.aload_n 0, 1) := by decide +kernel
theorem d_A_step_155 : decode c_A_step 155 = .ok (.dup, 1) := by decide +kernel
theorem d_A_step_156 : decode c_A_step 156 = .ok (.getfield 73, 3) := by decide +kernel
theorem d_A_step_159 : decode c_A_step 159 = .ok (.iconst 1, 1) := by decide +kernel
theorem d_A_step_160 : decode c_A_step 160 = .ok (.iadd, 1) := by decide +kernel
theorem d_A_step_161 : decode c_A_step 161 = .ok (.putfield 73, 3) := by decide +kernel
theorem d_A_step_164 : decode c_A_step 164 = .ok (.aload_n 0, 1) := by decide +kernel
theorem d_A_step_165 : decode c_A_step 165 = .ok (.getfield 19, 3) := by decide +kernel
theorem d_A_step_168 : decode c_A_step 168 = .ok (.aload_n 0, 1) := by decide +kernel
theorem d_A_step_169 : decode c_A_step 169 = .ok (.getfield 79, 3) := by decide +kernel
theorem d_A_step_172 : decode c_A_step 172 = .ok (.iconst 1, 1) := by decide +kernel
theorem d_A_step_173 : decode c_A_step 173 = .ok (.isub, 1) := by decide +kernel
theorem d_A_step_174 : decode c_A_step 174 = .ok (.iload 5, 2) := by decide +kernel
theorem d_A_step_176 : decode c_A_step 176 = .ok (.ifCond .eq 15, 3) := by decide +kernel
theorem d_A_step_179 : decode c_A_step 179 = .ok (.aload_n 0, 1) := by decide +kernel
theorem d_A_step_180 : decode c_A_step 180 = .ok (.getfield 9, 3) := by decide +kernel
theorem d_A_step_183 : decode c_A_step 183 = .ok (.iload_n 1, 1) := by decide +kernel
theorem d_A_step_184 : decode c_A_step 184 = .ok (.iload_n 2, 1) := by decide +kernel
theorem d_A_step_185 : decode c_A_step 185 = .ok (.invokevirtual 123, 3) := by decide +kernel
theorem d_A_step_188 : decode c_A_step 188 = .ok (.goto 6, 3) := by decide +kernel
theorem d_A_step_191 : decode c_A_step 191 = .ok (.iload_n 2, 1) := by decide +kernel
theorem d_A_step_192 : decode c_A_step 192 = .ok (.iconst 1, 1) := by decide +kernel
theorem d_A_step_193 : decode c_A_step 193 = .ok (.iadd, 1) := by decide +kernel
theorem d_A_step_194 : decode c_A_step 194 = .ok (.iastore, 1) := by decide +kernel
theorem d_A_step_195 : decode c_A_step 195 = .ok (.goto 64, 3) := by decide +kernel
theorem d_A_step_198 : decode c_A_step 198 = .ok (.aload_n 0, 1) := by decide +kernel
theorem d_A_step_199 : decode c_A_step 199 = .ok (.getfield 19, 3) := by decide +kernel
theorem d_A_step_202 : decode c_A_step 202 = .ok (.aload_n 0, 1) := by decide +kernel
theorem d_A_step_203 : decode c_A_step 203 = .ok (.getfield 79, 3) := by decide +kernel
theorem d_A_step_206 : decode c_A_step 206 = .ok (.iconst 1, 1) := by decide +kernel
theorem d_A_step_207 : decode c_A_step 207 = .ok (.isub, 1) := by decide +kernel
theorem d_A_step_208 : decode c_A_step 208 = .ok (.aload_n 0, 1) := by decide +kernel
theorem d_A_step_209 : decode c_A_step 209 = .ok (.getfield 9, 3) := by decide +kernel
theorem d_A_step_212 : decode c_A_step 212 = .ok (.iload_n 1, 1) := by decide +kernel
theorem d_A_step_213 : decode c_A_step 213 = .ok (.iload_n 2, 1) := by decide +kernel
theorem d_A_step_214 : decode c_A_step 214 = .ok (.invokevirtual 123, 3) := by decide +kernel
theorem d_A_step_217 : decode c_A_step 217 = .ok (.iastore, 1) := by decide +kernel
theorem d_A_step_218 : decode c_A_step 218 = .ok (.goto 41, 3) := by decide +kernel
theorem d_A_step_221 : decode c_A_step 221 = .ok (.aload_n 0, 1) := by decide +kernel
theorem d_A_step_222 : decode c_A_step 222 = .ok (.aload_n 0, 1) := by decide +kernel
theorem d_A_step_223 : decode c_A_step 223 = .ok (.getfield 22, 3) := by decide +kernel
theorem d_A_step_226 : decode c_A_step 226 = .ok (.iload_n 3, 1) := by decide +kernel
theorem d_A_step_227 : decode c_A_step 227 = .ok (.iload 4, 2) := by decide +kernel
theorem d_A_step_229 : decode c_A_step 229 = .ok (.iadd, 1) := by decide +kernel
theorem d_A_step_230 : decode c_A_step 230 = .ok (.iaload, 1) := by decide +kernel
theorem d_A_step_231 : decode c_A_step 231 = .ok (.invokevirtual 90, 3) := by decide +kernel
theorem d_A_step_234 : decode c_A_step 234 = .ok (.goto 25, 3) := by decide +kernel
theorem d_A_step_237 : decode c_A_step 237 = .ok (.aload_n 0, 1) := by decide +kernel
theorem d_A_step_238 : decode c_A_step 238 = .ok (.iload_n 2, 1) := by decide +kernel
theorem d_A_step_239 : decode c_A_step 239 = .ok (.iload_n 3, 1) := by decide +kernel
theorem d_A_step_240 : decode c_A_step 240 = .ok (.iload 4, 2) := by decide +kernel
theorem d_A_step_242 : decode c_A_step 242 = .ok (.invokevirtual 126, 3) := by decide +kernel
theorem d_A_step_245 : decode c_A_step 245 = .ok (.aload_n 0, 1) := by decide +kernel
theorem d_A_step_246 : decode c_A_step 246 = .ok (.getfield 19, 3) := by decide +kernel
theorem d_A_step_249 : decode c_A_step 249 = .ok (.aload_n 0, 1) := by decide +kernel
theorem d_A_step_250 : decode c_A_step 250 = .ok (.getfield 79, 3) := by decide +kernel
theorem d_A_step_253 : decode c_A_step 253 = .ok (.iconst 1, 1) := by decide +kernel
theorem d_A_step_254 : decode c_A_step 254 = .ok (.isub, 1) := by decide +kernel
theorem d_A_step_255 : decode c_A_step 255 = .ok (.iload_n 2, 1) := by decide +kernel
theorem d_A_step_256 : decode c_A_step 256 = .ok (.iconst 1, 1) := by decide +kernel
theorem d_A_step_257 : decode c_A_step 257 = .ok (.iadd, 1) := by decide +kernel
theorem d_A_step_258 : decode c_A_step 258 = .ok (.iastore, 1) := by decide +kernel
theorem d_A_step_259 : decode c_A_step 259 = .ok (.return_, 1) := by decide +kernel
theorem d_A_start_0 : decode c_A_start 0 = .ok (.iconst 0, 1) := by decide +kernel
theorem d_A_start_1 : decode c_A_start 1 = .ok (.iload_n 2, 1) := by decide +kernel
theorem d_A_start_2 : decode c_A_start 2 = .ok (.sipush 200, 3) := by decide +kernel
theorem d_A_start_5 : decode c_A_start 5 = .ok (.invokestatic 38, 3) := by decide +kernel
theorem d_A_start_8 : decode c_A_start 8 = .ok (.invokestatic 44, 3) := by decide +kernel
theorem d_A_start_11 : decode c_A_start 11 = .ok (.istore_n 3, 1) := by decide +kernel
theorem d_A_start_12 : decode c_A_start 12 = .ok (.aload_n 0, 1) := by decide +kernel
theorem d_A_start_13 : decode c_A_start 13 = .ok (.iload_n 1, 1) := by decide +kernel
theorem d_A_start_14 : decode c_A_start 14 = .ok (.invokevirtual 47, 3) := by decide +kernel
theorem d_A_start_17 : decode c_A_start 17 = .ok (.iconst 0, 1) := by decide +kernel
theorem d_A_start_18 : decode c_A_start 18 = .ok (.istore 4, 2) := by decide +kernel
theorem d_A_start_20 : decode c_A_start 20 = .ok (.iload 4, 2) := by decide +kernel
theorem d_A_start_22 : decode c_A_start 22 = .ok (.sipush 200, 3) := by decide +kernel
theorem d_A_start_25 : decode c_A_start 25 = .ok (.if_icmp .gt 40, 3) := by decide +kernel
theorem d_A_start_28 : decode c_A_start 28 = .ok (.aload_n 0, 1) := by decide +kernel
theorem d_A_start_29 : decode c_A_start 29 = .ok (.getfield 34, 3) := by decide +kernel
theorem d_A_start_32 : decode c_A_start 32 = .ok (.ifCond .ne 33, 3) := by decide +kernel
theorem d_A_start_35 : decode c_A_start 35 = .ok (.aload_n 0, 1) := by decide +kernel
theorem d_A_start_36 : decode c_A_start 36 = .ok (.invokevirtual 51, 3) := by decide +kernel
theorem d_A_start_39 : decode c_A_start 39 = .ok (.aload_n 0, 1) := by decide +kernel
theorem d_A_start_40 : decode c_A_start 40 = .ok (.aload_n 0, 1) := by decide +kernel
theorem d_A_start_41 : decode c_A_start 41 = .ok (.iload_n 3, 1) := by decide +kernel
theorem d_A_start_42 : decode c_A_start 42 = .ok (.invokevirtual 54, 3) := by decide +kernel
theorem d_A_start_45 : decode c_A_start 45 = .ok (.putfield 34, 3) := by decide +kernel
theorem d_A_start_48 : decode c_A_start 48 = .ok (.aload_n 0, 1) := by decide +kernel
theorem d_A_start_49 : decode c_A_start 49 = .ok (.getfield 34, 3) := by decide +kernel
theorem d_A_start_52 : decode c_A_start 52 = .ok (.ifCond .ne 7, 3) := by decide +kernel
theorem d_A_start_55 : decode c_A_start 55 = .ok (.aload_n 0, 1) := by decide +kernel
theorem d_A_start_56 : decode c_A_start 56 = .ok (.invokevirtual 58, 3) := by decide +kernel
theorem d_A_start_59 : decode c_A_start 59 = .ok (.iinc 4 1, 3) := by decide +kernel
theorem d_A_start_62 : decode c_A_start 62 = .ok (.goto (-42), 3) := by decide +kernel
theorem d_A_start_65 : decode c_A_start 65 = .ok (.aload_n 0, 1) := by decide +kernel
theorem d_A_start_66 : decode c_A_start 66 = .ok (.getfield 61, 3) := by decide +kernel
theorem d_A_start_69 : decode c_A_start 69 = .ok (.ireturn, 1) := by decide +kernel
theorem d_X_run_0 : decode c_X_run 0 = .ok (.aload_n 0, 1) := by decide +kernel
theorem d_X_run_1 : decode c_X_run 1 = .ok (.getfield 37, 3) := by decide +kernel
theorem d_X_run_4 : decode c_X_run 4 = .ok (.iload_n 1, 1) := by decide +kernel
theorem d_X_run_5 : decode c_X_run 5 = .ok (.iload_n 2, 1) := by decide +kernel
theorem d_X_run_6 : decode c_X_run 6 = .ok (.invokevirtual 115, 3) := by decide +kernel
theorem d_X_run_9 : decode c_X_run 9 = .ok (.ireturn, 1) := by decide +kernel
theorem d_X_outcome_0 : decode c_X_outcome 0 = .ok (.aload_n 0, 1) := by decide +kernel
theorem d_X_outcome_1 : decode c_X_outcome 1 = .ok (.getfield 37, 3) := by decide +kernel
theorem d_X_outcome_4 : decode c_X_outcome 4 = .ok (.getfield 118, 3) := by decide +kernel
theorem d_X_outcome_7 : decode c_X_outcome 7 = .ok (.ireturn, 1) := by decide +kernel
theorem d_X_hits_0 : decode c_X_hits 0 = .ok (.aload_n 0, 1) := by decide +kernel
theorem d_X_hits_1 : decode c_X_hits 1 = .ok (.getfield 37, 3) := by decide +kernel
theorem d_X_hits_4 : decode c_X_hits 4 = .ok (.getfield 118, 3) := by decide +kernel
theorem d_X_hits_7 : decode c_X_hits 7 = .ok (.ifCond .eq 19, 3) := by decide +kernel
theorem d_X_hits_10 : decode c_X_hits 10 = .ok (.aload_n 0, 1) := by decide +kernel
theorem d_X_hits_11 : decode c_X_hits 11 = .ok (.iload_n 1, 1) := by decide +kernel
theorem d_X_hits_12 : decode c_X_hits 12 = .ok (.invokevirtual 89, 3) := by decide +kernel
theorem d_X_hits_15 : decode c_X_hits 15 = .ok (.ifCond .eq 11, 3) := by decide +kernel
theorem d_X_hits_18 : decode c_X_hits 18 = .ok (.aload_n 0, 1) := by decide +kernel
theorem d_X_hits_19 : decode c_X_hits 19 = .ok (.iload_n 2, 1) := by decide +kernel
theorem d_X_hits_20 : decode c_X_hits 20 = .ok (.invokevirtual 93, 3) := by decide +kernel
theorem d_X_hits_23 : decode c_X_hits 23 = .ok (.ifCond .ne 5, 3) := by decide +kernel
theorem d_X_hits_26 : decode c_X_hits 26 = .ok (.iconst 0, 1) := by decide +kernel
theorem d_X_hits_27 : decode c_X_hits 27 = .ok (.ireturn, 1) := by decide +kernel
theorem d_X_hits_28 : decode c_X_hits 28 = .ok (.aload_n 0, 1) := by decide +kernel
theorem d_X_hits_29 : decode c_X_hits 29 = .ok (.getfield 37, 3) := by decide +kernel
theorem d_X_hits_32 : decode c_X_hits 32 = .ok (.getfield 121, 3) := by decide +kernel
theorem d_X_hits_35 : decode c_X_hits 35 = .ok (.iload_n 1, 1) := by decide +kernel
theorem d_X_hits_36 : decode c_X_hits 36 = .ok (.iconst 4, 1) := by decide +kernel
theorem d_X_hits_37 : decode c_X_hits 37 = .ok (.imul, 1) := by decide +kernel
theorem d_X_hits_38 : decode c_X_hits 38 = .ok (.iload_n 2, 1) := by decide +kernel
theorem d_X_hits_39 : decode c_X_hits 39 = .ok (.iadd, 1) := by decide +kernel
theorem d_X_hits_40 : decode c_X_hits 40 = .ok (.iaload, 1) := by decide +kernel
theorem d_X_hits_41 : decode c_X_hits 41 = .ok (.ireturn, 1) := by decide +kernel
theorem d_X_made_0 : decode c_X_made 0 = .ok (.aload_n 0, 1) := by decide +kernel
theorem d_X_made_1 : decode c_X_made 1 = .ok (.getfield 37, 3) := by decide +kernel
theorem d_X_made_4 : decode c_X_made 4 = .ok (.getfield 118, 3) := by decide +kernel
theorem d_X_made_7 : decode c_X_made 7 = .ok (.ifCond .ne 7, 3) := by decide +kernel
theorem d_X_made_10 : decode c_X_made 10 = .ok (.iconst 0, 1) := by decide +kernel
theorem d_X_made_11 : decode c_X_made 11 = .ok (.goto 10, 3) := by decide +kernel
theorem d_X_made_14 : decode c_X_made 14 = .ok (.aload_n 0, 1) := by decide +kernel
theorem d_X_made_15 : decode c_X_made 15 = .ok (.getfield 37, 3) := by decide +kernel
theorem d_X_made_18 : decode c_X_made 18 = .ok (.getfield 124, 3) := by decide +kernel
theorem d_X_made_21 : decode c_X_made 21 = .ok (.ireturn, 1) := by decide +kernel
