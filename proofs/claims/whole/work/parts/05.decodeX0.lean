theorem d_X_isBelow_0 : decode c_X_isBelow 0 = .ok (.iload_n 0, 1) := by decide +kernel
theorem d_X_isBelow_1 : decode c_X_isBelow 1 = .ok (.ifCond .lt 12, 3) := by decide +kernel
theorem d_X_isBelow_4 : decode c_X_isBelow 4 = .ok (.iload_n 0, 1) := by decide +kernel
theorem d_X_isBelow_5 : decode c_X_isBelow 5 = .ok (.iload_n 1, 1) := by decide +kernel
theorem d_X_isBelow_6 : decode c_X_isBelow 6 = .ok (.if_icmp .ge 7, 3) := by decide +kernel
theorem d_X_isBelow_9 : decode c_X_isBelow 9 = .ok (.iconst 1, 1) := by decide +kernel
theorem d_X_isBelow_10 : decode c_X_isBelow 10 = .ok (.goto 4, 3) := by decide +kernel
theorem d_X_isBelow_13 : decode c_X_isBelow 13 = .ok (.iconst 0, 1) := by decide +kernel
theorem d_X_isBelow_14 : decode c_X_isBelow 14 = .ok (.ireturn, 1) := by decide +kernel
theorem d_P_takes_0 : decode c_P_takes 0 = .ok (.iload_n 1, 1) := by decide +kernel
theorem d_P_takes_1 : decode c_P_takes 1 = .ok (.bipush 6, 2) := by decide +kernel
theorem d_P_takes_3 : decode c_P_takes 3 = .ok (.invokestatic 51, 3) := by decide +kernel
theorem d_P_takes_6 : decode c_P_takes 6 = .ok (.ifCond .eq 50, 3) := by decide +kernel
theorem d_P_takes_9 : decode c_P_takes 9 = .ok (.iload_n 2, 1) := by decide +kernel
theorem d_P_takes_10 : decode c_P_takes 10 = .ok (.bipush 11, 2) := by decide +kernel
theorem d_P_takes_12 : decode c_P_takes 12 = .ok (.invokestatic 51, 3) := by decide +kernel
theorem d_P_takes_15 : decode c_P_takes 15 = .ok (.ifCond .eq 41, 3) := by decide +kernel
theorem d_P_takes_18 : decode c_P_takes 18 = .ok (.aload_n 0, 1) := by decide +kernel
theorem d_P_takes_19 : decode c_P_takes 19 = .ok (.getfield 27, 3) := by decide +kernel
theorem d_P_takes_22 : decode c_P_takes 22 = .ok (.iload_n 1, 1) := by decide +kernel
theorem d_P_takes_23 : decode c_P_takes 23 = .ok (.iaload, 1) := by decide +kernel
theorem d_P_takes_24 : decode c_P_takes 24 = .ok (.bipush 12, 2) := by decide +kernel
theorem d_P_takes_26 : decode c_P_takes 26 = .ok (.if_icmp .ge 30, 3) := by decide +kernel
theorem d_P_takes_29 : decode c_P_takes 29 = .ok (.aload_n 0, 1) := by decide +kernel
theorem d_P_takes_30 : decode c_P_takes 30 = .ok (.getfield 55, 3) := by decide +kernel
theorem d_P_takes_33 : decode c_P_takes 33 = .ok (.bipush 32, 2) := by decide +kernel
theorem d_P_takes_35 : decode c_P_takes 35 = .ok (.if_icmp .ge 21, 3) := by decide +kernel
theorem d_P_takes_38 : decode c_P_takes 38 = .ok (.aload_n 0, 1) := by decide +kernel
theorem d_P_takes_39 : decode c_P_takes 39 = .ok (.getfield 30, 3) := by decide +kernel
theorem d_P_takes_42 : decode c_P_takes 42 = .ok (.iload_n 2, 1) := by decide +kernel
theorem d_P_takes_43 : decode c_P_takes 43 = .ok (.iaload, 1) := by decide +kernel
theorem d_P_takes_44 : decode c_P_takes 44 = .ok (.getstatic 59, 3) := by decide +kernel
theorem d_P_takes_47 : decode c_P_takes 47 = .ok (.iload_n 2, 1) := by decide +kernel
theorem d_P_takes_48 : decode c_P_takes 48 = .ok (.iaload, 1) := by decide +kernel
theorem d_P_takes_49 : decode c_P_takes 49 = .ok (.if_icmp .ge 7, 3) := by decide +kernel
theorem d_P_takes_52 : decode c_P_takes 52 = .ok (.iconst 1, 1) := by decide +kernel
theorem d_P_takes_53 : decode c_P_takes 53 = .ok (.goto 4, 3) := by decide +kernel
theorem d_P_takes_56 : decode c_P_takes 56 = .ok (.iconst 0, 1) := by decide +kernel
theorem d_P_takes_57 : decode c_P_takes 57 = .ok (.ireturn, 1) := by decide +kernel
theorem d_X_operandsFit_0 : decode c_X_operandsFit 0 = .ok (.iload_n 0, 1) := by decide +kernel
theorem d_X_operandsFit_1 : decode c_X_operandsFit 1 = .ok (.tableswitch 167 0 9 #[55, 167, 167, 167, 77, 99, 99, 129, 160, 160], 55) := by decide +kernel
theorem d_X_operandsFit_56 : decode c_X_operandsFit 56 = .ok (.iload_n 1, 1) := by decide +kernel
theorem d_X_operandsFit_57 : decode c_X_operandsFit 57 = .ok (.iconst 4, 1) := by decide +kernel
theorem d_X_operandsFit_58 : decode c_X_operandsFit 58 = .ok (.invokestatic 60, 3) := by decide +kernel
theorem d_X_operandsFit_61 : decode c_X_operandsFit 61 = .ok (.ifCond .eq 15, 3) := by decide +kernel
theorem d_X_operandsFit_64 : decode c_X_operandsFit 64 = .ok (.iload_n 2, 1) := by decide +kernel
theorem d_X_operandsFit_65 : decode c_X_operandsFit 65 = .ok (.iconst 4, 1) := by decide +kernel
theorem d_X_operandsFit_66 : decode c_X_operandsFit 66 = .ok (.invokestatic 60, 3) := by decide +kernel
theorem d_X_operandsFit_69 : decode c_X_operandsFit 69 = .ok (.ifCond .eq 7, 3) := by decide +kernel
theorem d_X_operandsFit_72 : decode c_X_operandsFit 72 = .ok (.iconst 1, 1) := by decide +kernel
theorem d_X_operandsFit_73 : decode c_X_operandsFit 73 = .ok (.goto 4, 3) := by decide +kernel
theorem d_X_operandsFit_76 : decode c_X_operandsFit 76 = .ok (.iconst 0, 1) := by decide +kernel
theorem d_X_operandsFit_77 : decode c_X_operandsFit 77 = .ok (.ireturn, 1) := by decide +kernel
theorem d_X_operandsFit_78 : decode c_X_operandsFit 78 = .ok (.iload_n 1, 1) := by decide +kernel
theorem d_X_operandsFit_79 : decode c_X_operandsFit 79 = .ok (.iconst 4, 1) := by decide +kernel
theorem d_X_operandsFit_80 : decode c_X_operandsFit 80 = .ok (.invokestatic 60, 3) := by decide +kernel
theorem d_X_operandsFit_83 : decode c_X_operandsFit 83 = .ok (.ifCond .eq 15, 3) := by decide +kernel
theorem d_X_operandsFit_86 : decode c_X_operandsFit 86 = .ok (.iload_n 2, 1) := by decide +kernel
theorem d_X_operandsFit_87 : decode c_X_operandsFit 87 = .ok (.iconst 4, 1) := by decide +kernel
theorem d_X_operandsFit_88 : decode c_X_operandsFit 88 = .ok (.invokestatic 60, 3) := by decide +kernel
theorem d_X_operandsFit_91 : decode c_X_operandsFit 91 = .ok (.ifCond .eq 7, 3) := by decide +kernel
theorem d_X_operandsFit_94 : decode c_X_operandsFit 94 = .ok (.iconst 1, 1) := by decide +kernel
theorem d_X_operandsFit_95 : decode c_X_operandsFit 95 = .ok (.goto 4, 3) := by decide +kernel
theorem d_X_operandsFit_98 : decode c_X_operandsFit 98 = .ok (.iconst 0, 1) := by decide +kernel
theorem d_X_operandsFit_99 : decode c_X_operandsFit 99 = .ok (.ireturn, 1) := by decide +kernel
theorem d_X_operandsFit_100 : decode c_X_operandsFit 100 = .ok (.iload_n 1, 1) := by decide +kernel
theorem d_X_operandsFit_101 : decode c_X_operandsFit 101 = .ok (.iconst 4, 1) := by decide +kernel
theorem d_X_operandsFit_102 : decode c_X_operandsFit 102 = .ok (.invokestatic 60, 3) := by decide +kernel
theorem d_X_operandsFit_105 : decode c_X_operandsFit 105 = .ok (.ifCond .eq 23, 3) := by decide +kernel
theorem d_X_operandsFit_108 : decode c_X_operandsFit 108 = .ok (.iload_n 2, 1) := by decide +kernel
theorem d_X_operandsFit_109 : decode c_X_operandsFit 109 = .ok (.iconst 4, 1) := by decide +kernel
theorem d_X_operandsFit_110 : decode c_X_operandsFit 110 = .ok (.invokestatic 60, 3) := by decide +kernel
theorem d_X_operandsFit_113 : decode c_X_operandsFit 113 = .ok (.ifCond .eq 15, 3) := by decide +kernel
theorem d_X_operandsFit_116 : decode c_X_operandsFit 116 = .ok (.iload_n 3, 1) := by decide +kernel
theorem d_X_operandsFit_117 : decode c_X_operandsFit 117 = .ok (.iconst 2, 1) := by decide +kernel
theorem d_X_operandsFit_118 : decode c_X_operandsFit 118 = .ok (.invokestatic 60, 3) := by decide +kernel
theorem d_X_operandsFit_121 : decode c_X_operandsFit 121 = .ok (.ifCond .eq 7, 3) := by decide +kernel
theorem d_X_operandsFit_124 : decode c_X_operandsFit 124 = .ok (.iconst 1, 1) := by decide +kernel
theorem d_X_operandsFit_125 : decode c_X_operandsFit 125 = .ok (.goto 4, 3) := by decide +kernel
theorem d_X_operandsFit_128 : decode c_X_operandsFit 128 = .ok (.iconst 0, 1) := by decide +kernel
theorem d_X_operandsFit_129 : decode c_X_operandsFit 129 = .ok (.ireturn, 1) := by decide +kernel
theorem d_X_operandsFit_130 : decode c_X_operandsFit 130 = .ok (.iload_n 1, 1) := by decide +kernel
theorem d_X_operandsFit_131 : decode c_X_operandsFit 131 = .ok (.iconst 4, 1) := by decide +kernel
theorem d_X_operandsFit_132 : decode c_X_operandsFit 132 = .ok (.invokestatic 60, 3) := by decide +kernel
theorem d_X_operandsFit_135 : decode c_X_operandsFit 135 = .ok (.ifCond .eq 24, 3) := by decide +kernel
theorem d_X_operandsFit_138 : decode c_X_operandsFit 138 = .ok (.iload_n 2, 1) := by decide +kernel
theorem d_X_operandsFit_139 : decode c_X_operandsFit 139 = .ok (.iconst 4, 1) := by decide +kernel
theorem d_X_operandsFit_140 : decode c_X_operandsFit 140 = .ok (.invokestatic 60, 3) := by decide +kernel
theorem d_X_operandsFit_143 : decode c_X_operandsFit 143 = .ok (.ifCond .eq 16, 3) := by decide +kernel
theorem d_X_operandsFit_146 : decode c_X_operandsFit 146 = .ok (.iload_n 3, 1) := by decide +kernel
theorem d_X_operandsFit_147 : decode c_X_operandsFit 147 = .ok (.bipush 12, 2) := by decide +kernel
theorem d_X_operandsFit_149 : decode c_X_operandsFit 149 = .ok (.invokestatic 60, 3) := by decide +kernel
theorem d_X_operandsFit_152 : decode c_X_operandsFit 152 = .ok (.ifCond .eq 7, 3) := by decide +kernel
theorem d_X_operandsFit_155 : decode c_X_operandsFit 155 = .ok (.iconst 1, 1) := by decide +kernel
theorem d_X_operandsFit_156 : decode c_X_operandsFit 156 = .ok (.goto 4, 3) := by decide +kernel
theorem d_X_operandsFit_159 : decode c_X_operandsFit 159 = .ok (.iconst 0, 1) := by decide +kernel
theorem d_X_operandsFit_160 : decode c_X_operandsFit 160 = .ok (.ireturn, 1) := by decide +kernel
theorem d_X_operandsFit_161 : decode c_X_operandsFit 161 = .ok (.iload_n 1, 1) := by decide +kernel
theorem d_X_operandsFit_162 : decode c_X_operandsFit 162 = .ok (.bipush 12, 2) := by decide +kernel
theorem d_X_operandsFit_164 : decode c_X_operandsFit 164 = .ok (.invokestatic 60, 3) := by decide +kernel
theorem d_X_operandsFit_167 : decode c_X_operandsFit 167 = .ok (.ireturn, 1) := by decide +kernel
theorem d_X_operandsFit_168 : decode c_X_operandsFit 168 = .ok (.iload_n 1, 1) := by decide +kernel
theorem d_X_operandsFit_169 : decode c_X_operandsFit 169 = .ok (.iconst 4, 1) := by decide +kernel
theorem d_X_operandsFit_170 : decode c_X_operandsFit 170 = .ok (.invokestatic 60, 3) := by decide +kernel
theorem d_X_operandsFit_173 : decode c_X_operandsFit 173 = .ok (.ireturn, 1) := by decide +kernel
theorem d_P_renumber_0 : decode c_P_renumber 0 = .ok (.aload_n 0, 1) := by decide +kernel
theorem d_P_renumber_1 : decode c_P_renumber 1 = .ok (.getfield 30, 3) := by decide +kernel
theorem d_P_renumber_4 : decode c_P_renumber 4 = .ok (.iconst 0, 1) := by decide +kernel
theorem d_P_renumber_5 : decode c_P_renumber 5 = .ok (.invokestatic 45, 3) := by decide +kernel
theorem d_P_renumber_8 : decode c_P_renumber 8 = .ok (.iconst 0, 1) := by decide +kernel
theorem d_P_renumber_9 : decode c_P_renumber 9 = .ok (.istore_n 1, 1) := by decide +kernel
theorem d_P_renumber_10 : decode c_P_renumber 10 = .ok (.iload_n 1, 1) := by decide +kernel
theorem d_P_renumber_11 : decode c_P_renumber 11 = .ok (.bipush 6, 2) := by decide +kernel
theorem d_P_renumber_13 : decode c_P_renumber 13 = .ok (.if_icmp .ge 105, 3) := by decide +kernel
theorem d_P_renumber_16 : decode c_P_renumber 16 = .ok (.iconst 0, 1) := by decide +kernel
theorem d_P_renumber_17 : decode c_P_renumber 17 = .ok (.istore_n 2, 1) := by decide +kernel
theorem d_P_renumber_18 : decode c_P_renumber 18 = .ok (.iload_n 2, 1) := by decide +kernel
theorem d_P_renumber_19 : decode c_P_renumber 19 = .ok (.aload_n 0, 1) := by decide +kernel
theorem d_P_renumber_20 : decode c_P_renumber 20 = .ok (.getfield 27, 3) := by decide +kernel
theorem d_P_renumber_23 : decode c_P_renumber 23 = .ok (.iload_n 1, 1) := by decide +kernel
theorem d_P_renumber_24 : decode c_P_renumber 24 = .ok (.iaload, 1) := by decide +kernel
theorem d_P_renumber_25 : decode c_P_renumber 25 = .ok (.if_icmp .ge 87, 3) := by decide +kernel
theorem d_P_renumber_28 : decode c_P_renumber 28 = .ok (.iload_n 1, 1) := by decide +kernel
theorem d_P_renumber_29 : decode c_P_renumber 29 = .ok (.bipush 13, 2) := by decide +kernel
theorem d_P_renumber_31 : decode c_P_renumber 31 = .ok (.imul, 1) := by decide +kernel
theorem d_P_renumber_32 : decode c_P_renumber 32 = .ok (.iload_n 2, 1) := by decide +kernel
theorem d_P_renumber_33 : decode c_P_renumber 33 = .ok (.iadd, 1) := by decide +kernel
theorem d_P_renumber_34 : decode c_P_renumber 34 = .ok (.istore_n 3, 1) := by decide +kernel
theorem d_P_renumber_35 : decode c_P_renumber 35 = .ok (.aload_n 0, 1) := by decide +kernel
theorem d_P_renumber_36 : decode c_P_renumber 36 = .ok (.getfield 9, 3) := by decide +kernel
theorem d_P_renumber_39 : decode c_P_renumber 39 = .ok (.iload_n 3, 1) := by decide +kernel
theorem d_P_renumber_40 : decode c_P_renumber 40 = .ok (.iaload, 1) := by decide +kernel
theorem d_P_renumber_41 : decode c_P_renumber 41 = .ok (.istore 4, 2) := by decide +kernel
theorem d_P_renumber_43 : decode c_P_renumber 43 = .ok (.aload_n 0, 1) := by decide +kernel
theorem d_P_renumber_44 : decode c_P_renumber 44 = .ok (.getfield 30, 3) := by decide +kernel
theorem d_P_renumber_47 : decode c_P_renumber 47 = .ok (.iload 4, 2) := by decide +kernel
theorem d_P_renumber_49 : decode c_P_renumber 49 = .ok (.iaload, 1) := by decide +kernel
theorem d_P_renumber_50 : decode c_P_renumber 50 = .ok (.istore 5, 2) := by decide +kernel
theorem d_P_renumber_52 : decode c_P_renumber 52 = .ok (.aload_n 0, 1) := by decide +kernel
theorem d_P_renumber_53 : decode c_P_renumber 53 = .ok (.getfield 30, 3) := by decide +kernel
theorem d_P_renumber_56 : decode c_P_renumber 56 = .ok (.iload 4, 2) := by decide +kernel
theorem d_P_renumber_58 : decode c_P_renumber 58 = .ok (.dup2, 1) := by decide +kernel
theorem d_P_renumber_59 : decode c_P_renumber 59 = .ok (.iaload, 1) := by decide +kernel
theorem d_P_renumber_60 : decode c_P_renumber 60 = .ok (.iconst 1, 1) := by decide +kernel
theorem d_P_renumber_61 : decode c_P_renumber 61 = .ok (.iadd, 1) := by decide +kernel
theorem d_P_renumber_62 : decode c_P_renumber 62 = .ok (.iastore, 1) := by decide +kernel
theorem d_P_renumber_63 : decode c_P_renumber 63 = .ok (.aload_n 0, 1) := by decide +kernel
theorem d_P_renumber_64 : decode c_P_renumber 64 = .ok (.getfield 24, 3) := by decide +kernel
theorem d_P_renumber_67 : decode c_P_renumber 67 = .ok (.iload_n 3, 1) := by decide +kernel
theorem d_P_renumber_68 : decode c_P_renumber 68 = .ok (.iload 5, 2) := by decide +kernel
theorem d_P_renumber_70 : decode c_P_renumber 70 = .ok (.iastore, 1) := by decide +kernel
theorem d_P_renumber_71 : decode c_P_renumber 71 = .ok (.iload 4, 2) := by decide +kernel
theorem d_P_renumber_73 : decode c_P_renumber 73 = .ok (.ifCond .ne 19, 3) := by decide +kernel
theorem d_P_renumber_76 : decode c_P_renumber 76 = .ok (.aload_n 0, 1) := by decide +kernel
theorem d_P_renumber_77 : decode c_P_renumber 77 = .ok (.getfield 33, 3) := by decide +kernel
theorem d_P_renumber_80 : decode c_P_renumber 80 = .ok (.iload 5, 2) := by decide +kernel
theorem d_P_renumber_82 : decode c_P_renumber 82 = .ok (.aload_n 0, 1) := by decide +kernel
theorem d_P_renumber_83 : decode c_P_renumber 83 = .ok (.getfield 18, 3) := by decide +kernel
theorem d_P_renumber_86 : decode c_P_renumber 86 = .ok (.iload_n 3, 1) := by decide +kernel
theorem d_P_renumber_87 : decode c_P_renumber 87 = .ok (.iaload, 1) := by decide +kernel
theorem d_P_renumber_88 : decode c_P_renumber 88 = .ok (.iastore, 1) := by decide +kernel
theorem d_P_renumber_89 : decode c_P_renumber 89 = .ok (.goto 17, 3) := by decide +kernel
theorem d_P_renumber_92 : decode c_P_renumber 92 = .ok (.iload 4, 2) := by decide +kernel
theorem d_P_renumber_94 : decode c_P_renumber 94 = .ok (.iconst 2, 1) := by decide +kernel
theorem d_P_renumber_95 : decode c_P_renumber 95 = .ok (.if_icmp .ne 11, 3) := by decide +kernel
theorem d_P_renumber_98 : decode c_P_renumber 98 = .ok (.aload_n 0, 1) := by decide +kernel
theorem d_P_renumber_99 : decode c_P_renumber 99 = .ok (.getfield 36, 3) := by decide +kernel
theorem d_P_renumber_102 : decode c_P_renumber 102 = .ok (.iload 5, 2) := by decide +kernel
theorem d_P_renumber_104 : decode c_P_renumber 104 = .ok (.iload_n 3, 1) := by decide +kernel
theorem d_P_renumber_105 : decode c_P_renumber 105 = .ok (.iastore, 1) := by decide +kernel
theorem d_P_renumber_106 : decode c_P_renumber 106 = .ok (.iinc 2 1, 3) := by decide +kernel
theorem d_P_renumber_109 : decode c_P_renumber 109 = .ok (.goto (-91), 3) := by decide +kernel
theorem d_P_renumber_112 : decode c_P_renumber 112 = .ok (.iinc 1 1, 3) := by decide +kernel
theorem d_P_renumber_115 : decode c_P_renumber 115 = .ok (.goto (-105), 3) := by decide +kernel
theorem d_P_renumber_118 : decode c_P_renumber 118 = .ok (.return_, 1) := by decide +kernel
theorem d_P_append_0 : decode c_P_append 0 = .ok (.aload_n 0, 1) := by decide +kernel
theorem d_P_append_1 : decode c_P_append 1 = .ok (.getfield 27, 3) := by decide +kernel
theorem d_P_append_4 : decode c_P_append 4 = .ok (.iload_n 1, 1) := by decide +kernel
theorem d_P_append_5 : decode c_P_append 5 = .ok (.iaload, 1) := by decide +kernel
theorem d_P_append_6 : decode c_P_append 6 = .ok (.istore 6, 2) := by decide +kernel
theorem d_P_append_8 : decode c_P_append 8 = .ok (.iload_n 1, 1) := by decide +kernel
theorem d_P_append_9 : decode c_P_append 9 = .ok (.bipush 13, 2) := by decide +kernel
theorem d_P_append_11 : decode c_P_append 11 = .ok (.imul, 1) := by decide +kernel
theorem d_P_append_12 : decode c_P_append 12 = .ok (.iload 6, 2) := by decide +kernel
theorem d_P_append_14 : decode c_P_append 14 = .ok (.iadd, 1) := by decide +kernel
theorem d_P_append_15 : decode c_P_append 15 = .ok (.istore 7, 2) := by decide +kernel
theorem d_P_append_17 : decode c_P_append 17 = .ok (.aload_n 0, 1) := by decide +kernel
theorem d_P_append_18 : decode c_P_append 18 = .ok (.getfield 9, 3) := by decide +kernel
theorem d_P_append_21 : decode c_P_append 21 = .ok (.iload 7, 2) := by decide +kernel
theorem d_P_append_23 : decode c_P_append 23 = .ok (.iload_n 2, 1) := by decide +kernel
theorem d_P_append_24 : decode c_P_append 24 = .ok (.iastore, 1) := by decide +kernel
theorem d_P_append_25 : decode c_P_append 25 = .ok (.aload_n 0, 1) := by decide +kernel
theorem d_P_append_26 : decode c_P_append 26 = .ok (.getfield 15, 3) := by decide +kernel
theorem d_P_append_29 : decode c_P_append 29 = .ok (.iload 7, 2) := by decide +kernel
theorem d_P_append_31 : decode c_P_append 31 = .ok (.iload_n 3, 1) := by decide +kernel
theorem d_P_append_32 : decode c_P_append 32 = .ok (.iastore, 1) := by decide +kernel
theorem d_P_append_33 : decode c_P_append 33 = .ok (.aload_n 0, 1) := by decide +kernel
theorem d_P_append_34 : decode c_P_append 34 = .ok (.getfield 18, 3) := by decide +kernel
theorem d_P_append_37 : decode c_P_append 37 = .ok (.iload 7, 2) := by decide +kernel
theorem d_P_append_39 : decode c_P_append 39 = .ok (.iload 4, 2) := by decide +kernel
theorem d_P_append_41 : decode c_P_append 41 = .ok (.iastore, 1) := by decide +kernel
theorem d_P_append_42 : decode c_P_append 42 = .ok (.aload_n 0, 1) := by decide +kernel
theorem d_P_append_43 : decode c_P_append 43 = .ok (.getfield 21, 3) := by decide +kernel
theorem d_P_append_46 : decode c_P_append 46 = .ok (.iload 7, 2) := by decide +kernel
theorem d_P_append_48 : decode c_P_append 48 = .ok (.iload 5, 2) := by decide +kernel
theorem d_P_append_50 : decode c_P_append 50 = .ok (.iastore, 1) := by decide +kernel
theorem d_P_append_51 : decode c_P_append 51 = .ok (.aload_n 0, 1) := by decide +kernel
theorem d_P_append_52 : decode c_P_append 52 = .ok (.getfield 27, 3) := by decide +kernel
theorem d_P_append_55 : decode c_P_append 55 = .ok (.iload_n 1, 1) := by decide +kernel
theorem d_P_append_56 : decode c_P_append 56 = .ok (.dup2, 1) := by decide +kernel
theorem d_P_append_57 : decode c_P_append 57 = .ok (.iaload, 1) := by decide +kernel
theorem d_P_append_58 : decode c_P_append 58 = .ok (.iconst 1, 1) := by decide +kernel
theorem d_P_append_59 : decode c_P_append 59 = .ok (.iadd, 1) := by decide +kernel
theorem d_P_append_60 : decode c_P_append 60 = .ok (.iastore, 1) := by decide +kernel
theorem d_P_append_61 : decode c_P_append 61 = .ok (.aload_n 0, 1) := by decide +kernel
theorem d_P_append_62 : decode c_P_append 62 = .ok (.dup, 1) := by decide +kernel
theorem d_P_append_63 : decode c_P_append 63 = .ok (.getfield 55, 3) := by decide +kernel
theorem d_P_append_66 : decode c_P_append 66 = .ok (.iconst 1, 1) := by decide +kernel
theorem d_P_append_67 : decode c_P_append 67 = .ok (.iadd, 1) := by decide +kernel
theorem d_P_append_68 : decode c_P_append 68 = .ok (.putfield 55, 3) := by decide +kernel
theorem d_P_append_71 : decode c_P_append 71 = .ok (.aload_n 0, 1) := by decide +kernel
theorem d_P_append_72 : decode c_P_append 72 = .ok (.invokevirtual 62, 3) := by decide +kernel
theorem d_P_append_75 : decode c_P_append 75 = .ok (.iload 6, 2) := by decide +kernel
theorem d_P_append_77 : decode c_P_append 77 = .ok (.ireturn, 1) := by decide +kernel
theorem d_X_forget_0 : decode c_X_forget 0 = .ok (.aload_n 0, 1) := by decide +kernel
theorem d_X_forget_1 : decode c_X_forget 1 = .ok (.iconst 0, 1) := by decide +kernel
theorem d_X_forget_2 : decode c_X_forget 2 = .ok (.putfield 41, 3) := by decide +kernel
theorem d_X_forget_5 : decode c_X_forget 5 = .ok (.aload_n 0, 1) := by decide +kernel
theorem d_X_forget_6 : decode c_X_forget 6 = .ok (.getfield 37, 3) := by decide +kernel
theorem d_X_forget_9 : decode c_X_forget 9 = .ok (.iconst 0, 1) := by decide +kernel
theorem d_X_forget_10 : decode c_X_forget 10 = .ok (.putfield 118, 3) := by decide +kernel
theorem d_X_forget_13 : decode c_X_forget 13 = .ok (.return_, 1) := by decide +kernel
theorem d_X_add_0 : decode c_X_add 0 = .ok (.aload_n 0, 1) := by decide +kernel
theorem d_X_add_1 : decode c_X_add 1 = .ok (.getfield 12, 3) := by decide +kernel
theorem d_X_add_4 : decode c_X_add 4 = .ok (.iload_n 1, 1) := by decide +kernel
theorem d_X_add_5 : decode c_X_add 5 = .ok (.iload_n 2, 1) := by decide +kernel
theorem d_X_add_6 : decode c_X_add 6 = .ok (.invokevirtual 45, 3) := by decide +kernel
theorem d_X_add_9 : decode c_X_add 9 = .ok (.ifCond .eq 15, 3) := by decide +kernel
theorem d_X_add_12 : decode c_X_add 12 = .ok (.iload_n 2, 1) := by decide +kernel
theorem d_X_add_13 : decode c_X_add 13 = .ok (.iload_n 3, 1) := by decide +kernel
theorem d_X_add_14 : decode c_X_add 14 = .ok (.iload 4, 2) := by decide +kernel
theorem d_X_add_16 : decode c_X_add 16 = .ok (.iload 5, 2) := by decide +kernel
theorem d_X_add_18 : decode c_X_add 18 = .ok (.invokestatic 49, 3) := by decide +kernel
theorem d_X_add_21 : decode c_X_add 21 = .ok (.ifCond .ne 5, 3) := by decide +kernel
theorem d_X_add_24 : decode c_X_add 24 = .ok (.iconst (-1), 1) := by decide +kernel
theorem d_X_add_25 : decode c_X_add 25 = .ok (.ireturn, 1) := by decide +kernel
theorem d_X_add_26 : decode c_X_add 26 = .ok (.aload_n 0, 1) := by decide +kernel
theorem d_X_add_27 : decode c_X_add 27 = .ok (.getfield 12, 3) := by decide +kernel
theorem d_X_add_30 : decode c_X_add 30 = .ok (.iload_n 1, 1) := by decide +kernel
theorem d_X_add_31 : decode c_X_add 31 = .ok (.iload_n 2, 1) := by decide +kernel
theorem d_X_add_32 : decode c_X_add 32 = .ok (.iload_n 3, 1) := by decide +kernel
theorem d_X_add_33 : decode c_X_add 33 = .ok (.iload 4, 2) := by decide +kernel
theorem d_X_add_35 : decode c_X_add 35 = .ok (.iload 5, 2) := by decide +kernel
theorem d_X_add_37 : decode c_X_add 37 = .ok (.invokevirtual 53, 3) := by decide +kernel
theorem d_X_add_40 : decode c_X_add 40 = .ok (.istore 6, 2) := by decide +kernel
theorem d_X_add_42 : decode c_X_add 42 = .ok (.aload_n 0, 1) := by decide +kernel
theorem d_X_add_43 : decode c_X_add 43 = .ok (.invokevirtual 57, 3) := by decide +kernel
theorem d_X_add_46 : decode c_X_add 46 = .ok (.iload 6, 2) := by decide +kernel
theorem d_X_add_48 : decode c_X_add 48 = .ok (.ireturn, 1) := by decide +kernel
theorem d_P_cutLast_0 : decode c_P_cutLast 0 = .ok (.aload_n 0, 1) := by decide +kernel
theorem d_P_cutLast_1 : decode c_P_cutLast 1 = .ok (.getfield 27, 3) := by decide +kernel
theorem d_P_cutLast_4 : decode c_P_cutLast 4 = .ok (.iload_n 1, 1) := by decide +kernel
theorem d_P_cutLast_5 : decode c_P_cutLast 5 = .ok (.dup2, 1) := by decide +kernel
theorem d_P_cutLast_6 : decode c_P_cutLast 6 = .ok (.iaload, 1) := by decide +kernel
theorem d_P_cutLast_7 : decode c_P_cutLast 7 = .ok (.iconst 1, 1) := by decide +kernel
theorem d_P_cutLast_8 : decode c_P_cutLast 8 = .ok (.isub, 1) := by decide +kernel
theorem d_P_cutLast_9 : decode c_P_cutLast 9 = .ok (.iastore, 1) := by decide +kernel
theorem d_P_cutLast_10 : decode c_P_cutLast 10 = .ok (.aload_n 0, 1) := by decide +kernel
theorem d_P_cutLast_11 : decode c_P_cutLast 11 = .ok (.dup, 1) := by decide +kernel
theorem d_P_cutLast_12 : decode c_P_cutLast 12 = .ok (.getfield 55, 3) := by decide +kernel
theorem d_P_cutLast_15 : decode c_P_cutLast 15 = .ok (.iconst 1, 1) := by decide +kernel
theorem d_P_cutLast_16 : decode c_P_cutLast 16 = .ok (.isub, 1) := by decide +kernel
theorem d_P_cutLast_17 : decode c_P_cutLast 17 = .ok (.putfield 55, 3) := by decide +kernel
theorem d_P_cutLast_20 : decode c_P_cutLast 20 = .ok (.aload_n 0, 1) := by decide +kernel
theorem d_P_cutLast_21 : decode c_P_cutLast 21 = .ok (.invokevirtual 62, 3) := by decide +kernel
theorem d_P_cutLast_24 : decode c_P_cutLast 24 = .ok (.return_, 1) := by decide +kernel
theorem d_X_drop_0 : decode c_X_drop 0 = .ok (.iload_n 1, 1) := by decide +kernel
theorem d_X_drop_1 : decode c_X_drop 1 = .ok (.bipush 6, 2) := by decide +kernel
theorem d_X_drop_3 : decode c_X_drop 3 = .ok (.invokestatic 60, 3) := by decide +kernel
theorem d_X_drop_6 : decode c_X_drop 6 = .ok (.ifCond .eq 15, 3) := by decide +kernel
theorem d_X_drop_9 : decode c_X_drop 9 = .ok (.aload_n 0, 1) := by decide +kernel
theorem d_X_drop_10 : decode c_X_drop 10 = .ok (.getfield 12, 3) := by decide +kernel
theorem d_X_drop_13 : decode c_X_drop 13 = .ok (.getfield 63, 3) := by decide +kernel
theorem d_X_drop_16 : decode c_X_drop 16 = .ok (.iload_n 1, 1) := by decide +kernel
theorem d_X_drop_17 : decode c_X_drop 17 = .ok (.iaload, 1) := by decide +kernel
theorem d_X_drop_18 : decode c_X_drop 18 = .ok (.ifCond .ne 5, 3) := by decide +kernel
theorem d_X_drop_21 : decode c_X_drop 21 = .ok (.iconst 0, 1) := by decide +kernel
theorem d_X_drop_22 : decode c_X_drop 22 = .ok (.ireturn, 1) := by decide +kernel
theorem d_X_drop_23 : decode c_X_drop 23 = .ok (.aload_n 0, 1) := by decide +kernel
theorem d_X_drop_24 : decode c_X_drop 24 = .ok (.getfield 12, 3) := by decide +kernel
theorem d_X_drop_27 : decode c_X_drop 27 = .ok (.iload_n 1, 1) := by decide +kernel
theorem d_X_drop_28 : decode c_X_drop 28 = .ok (.invokevirtual 67, 3) := by decide +kernel
theorem d_X_drop_31 : decode c_X_drop 31 = .ok (.aload_n 0, 1) := by decide +kernel
theorem d_X_drop_32 : decode c_X_drop 32 = .ok (.invokevirtual 57, 3) := by decide +kernel
theorem d_X_drop_35 : decode c_X_drop 35 = .ok (.iconst 1, 1) := by decide +kernel
theorem d_X_drop_36 : decode c_X_drop 36 = .ok (.ireturn, 1) := by decide +kernel
theorem d_X_derive_0 : decode c_X_derive 0 = .ok (.iload_n 1, 1) := by decide +kernel
theorem d_X_derive_1 : decode c_X_derive 1 = .ok (.iconst 4, 1) := by decide +kernel
theorem d_X_derive_2 : decode c_X_derive 2 = .ok (.invokestatic 60, 3) := by decide +kernel
theorem d_X_derive_5 : decode c_X_derive 5 = .ok (.ifCond .eq 16, 3) := by decide +kernel
theorem d_X_derive_8 : decode c_X_derive 8 = .ok (.iload_n 2, 1) := by decide +kernel
theorem d_X_derive_9 : decode c_X_derive 9 = .ok (.iconst (-1), 1) := by decide +kernel
theorem d_X_derive_10 : decode c_X_derive 10 = .ok (.if_icmp .eq 13, 3) := by decide +kernel
theorem d_X_derive_13 : decode c_X_derive 13 = .ok (.iload_n 2, 1) := by decide +kernel
theorem d_X_derive_14 : decode c_X_derive 14 = .ok (.iload_n 1, 1) := by decide +kernel
theorem d_X_derive_15 : decode c_X_derive 15 = .ok (.invokestatic 60, 3) := by decide +kernel
theorem d_X_derive_18 : decode c_X_derive 18 = .ok (.ifCond .ne 5, 3) := by decide +kernel
theorem d_X_derive_21 : decode c_X_derive 21 = .ok (.iconst 0, 1) := by decide +kernel
theorem d_X_derive_22 : decode c_X_derive 22 = .ok (.ireturn, 1) := by decide +kernel
theorem d_X_derive_23 : decode c_X_derive 23 = .ok (.aload_n 0, 1) := by decide +kernel
theorem d_X_derive_24 : decode c_X_derive 24 = .ok (.getfield 12, 3) := by decide +kernel
theorem d_X_derive_27 : decode c_X_derive 27 = .ok (.getfield 71, 3) := by decide +kernel
theorem d_X_derive_30 : decode c_X_derive 30 = .ok (.iload_n 1, 1) := by decide +kernel
theorem d_X_derive_31 : decode c_X_derive 31 = .ok (.iload_n 2, 1) := by decide +kernel
theorem d_X_derive_32 : decode c_X_derive 32 = .ok (.iastore, 1) := by decide +kernel
theorem d_X_derive_33 : decode c_X_derive 33 = .ok (.aload_n 0, 1) := by decide +kernel
theorem d_X_derive_34 : decode c_X_derive 34 = .ok (.invokevirtual 57, 3) := by decide +kernel
theorem d_X_derive_37 : decode c_X_derive 37 = .ok (.iconst 1, 1) := by decide +kernel
theorem d_X_derive_38 : decode c_X_derive 38 = .ok (.ireturn, 1) := by decide +kernel
theorem d_X_bind_0 : decode c_X_bind 0 = .ok (.iload_n 1, 1) := by decide +kernel
theorem d_X_bind_1 : decode c_X_bind 1 = .ok (.iconst 4, 1) := by decide +kernel
theorem d_X_bind_2 : decode c_X_bind 2 = .ok (.invokestatic 60, 3) := by decide +kernel
theorem d_X_bind_5 : decode c_X_bind 5 = .ok (.ifCond .eq 25, 3) := by decide +kernel
theorem d_X_bind_8 : decode c_X_bind 8 = .ok (.iload_n 2, 1) := by decide +kernel
theorem d_X_bind_9 : decode c_X_bind 9 = .ok (.iconst 3, 1) := by decide +kernel
theorem d_X_bind_10 : decode c_X_bind 10 = .ok (.invokestatic 60, 3) := by decide +kernel
theorem d_X_bind_13 : decode c_X_bind 13 = .ok (.ifCond .eq 17, 3) := by decide +kernel
theorem d_X_bind_16 : decode c_X_bind 16 = .ok (.iload_n 3, 1) := by decide +kernel
theorem d_X_bind_17 : decode c_X_bind 17 = .ok (.iconst (-1), 1) := by decide +kernel
theorem d_X_bind_18 : decode c_X_bind 18 = .ok (.if_icmp .eq 14, 3) := by decide +kernel
theorem d_X_bind_21 : decode c_X_bind 21 = .ok (.iload_n 3, 1) := by decide +kernel
theorem d_X_bind_22 : decode c_X_bind 22 = .ok (.bipush 6, 2) := by decide +kernel
theorem d_X_bind_24 : decode c_X_bind 24 = .ok (.invokestatic 60, 3) := by decide +kernel
theorem d_X_bind_27 : decode c_X_bind 27 = .ok (.ifCond .ne 5, 3) := by decide +kernel
theorem d_X_bind_30 : decode c_X_bind 30 = .ok (.iconst 0, 1) := by decide +kernel
theorem d_X_bind_31 : decode c_X_bind 31 = .ok (.ireturn, 1) := by decide +kernel
theorem d_X_bind_32 : decode c_X_bind 32 = .ok (.aload_n 0, 1) := by decide +kernel
theorem d_X_bind_33 : decode c_X_bind 33 = .ok (.getfield 12, 3) := by decide +kernel
theorem d_X_bind_36 : decode c_X_bind 36 = .ok (.getfield 74, 3) := by decide +kernel
theorem d_X_bind_39 : decode c_X_bind 39 = .ok (.iload_n 1, 1) := by decide +kernel
theorem d_X_bind_40 : decode c_X_bind 40 = .ok (.iconst 3, 1) := by decide +kernel
theorem d_X_bind_41 : decode c_X_bind 41 = .ok (.imul, 1) := by decide +kernel
theorem d_X_bind_42 : decode c_X_bind 42 = .ok (.iload_n 2, 1) := by decide +kernel
theorem d_X_bind_43 : decode c_X_bind 43 = .ok (.iadd, 1) := by decide +kernel
theorem d_X_bind_44 : decode c_X_bind 44 = .ok (.iload_n 3, 1) := by decide +kernel
theorem d_X_bind_45 : decode c_X_bind 45 = .ok (.iastore, 1) := by decide +kernel
theorem d_X_bind_46 : decode c_X_bind 46 = .ok (.aload_n 0, 1) := by decide +kernel
theorem d_X_bind_47 : decode c_X_bind 47 = .ok (.invokevirtual 57, 3) := by decide +kernel
theorem d_X_bind_50 : decode c_X_bind 50 = .ok (.iconst 1, 1) := by decide +kernel
theorem d_X_bind_51 : decode c_X_bind 51 = .ok (.ireturn, 1) := by decide +kernel
theorem d_P_targetOf_0 : decode c_P_targetOf 0 = .ok (.iload_n 1, 1) := by decide +kernel
theorem d_P_targetOf_1 : decode c_P_targetOf 1 = .ok (.istore_n 3, 1) := by decide +kernel
theorem d_P_targetOf_2 : decode c_P_targetOf 2 = .ok (.iconst 0, 1) := by decide +kernel
theorem d_P_targetOf_3 : decode c_P_targetOf 3 = .ok (.istore 4, 2) := by decide +kernel
theorem d_P_targetOf_5 : decode c_P_targetOf 5 = .ok (.iload 4, 2) := by decide +kernel
theorem d_P_targetOf_7 : decode c_P_targetOf 7 = .ok (.iconst 4, 1) := by decide +kernel
theorem d_P_targetOf_8 : decode c_P_targetOf 8 = .ok (.if_icmp .ge 42, 3) := by decide +kernel
theorem d_P_targetOf_11 : decode c_P_targetOf 11 = .ok (.iload_n 3, 1) := by decide +kernel
theorem d_P_targetOf_12 : decode c_P_targetOf 12 = .ok (.iconst (-1), 1) := by decide +kernel
theorem d_P_targetOf_13 : decode c_P_targetOf 13 = .ok (.if_icmp .eq 37, 3) := by decide +kernel
theorem d_P_targetOf_16 : decode c_P_targetOf 16 = .ok (.aload_n 0, 1) := by decide +kernel
theorem d_P_targetOf_17 : decode c_P_targetOf 17 = .ok (.getfield 42, 3) := by decide +kernel
theorem d_P_targetOf_20 : decode c_P_targetOf 20 = .ok (.iload_n 3, 1) := by decide +kernel
theorem d_P_targetOf_21 : decode c_P_targetOf 21 = .ok (.iconst 3, 1) := by decide +kernel
theorem d_P_targetOf_22 : decode c_P_targetOf 22 = .ok (.imul, 1) := by decide +kernel
theorem d_P_targetOf_23 : decode c_P_targetOf 23 = .ok (.iload_n 2, 1) := by decide +kernel
theorem d_P_targetOf_24 : decode c_P_targetOf 24 = .ok (.iadd, 1) := by decide +kernel
theorem d_P_targetOf_25 : decode c_P_targetOf 25 = .ok (.iaload, 1) := by decide +kernel
theorem d_P_targetOf_26 : decode c_P_targetOf 26 = .ok (.istore 5, 2) := by decide +kernel
theorem d_P_targetOf_28 : decode c_P_targetOf 28 = .ok (.iload 5, 2) := by decide +kernel
theorem d_P_targetOf_30 : decode c_P_targetOf 30 = .ok (.iconst (-1), 1) := by decide +kernel
theorem d_P_targetOf_31 : decode c_P_targetOf 31 = .ok (.if_icmp .eq 6, 3) := by decide +kernel
theorem d_P_targetOf_34 : decode c_P_targetOf 34 = .ok (.iload 5, 2) := by decide +kernel
theorem d_P_targetOf_36 : decode c_P_targetOf 36 = .ok (.ireturn, 1) := by decide +kernel
theorem d_P_targetOf_37 : decode c_P_targetOf 37 = .ok (.aload_n 0, 1) := by decide +kernel
theorem d_P_targetOf_38 : decode c_P_targetOf 38 = .ok (.getfield 39, 3) := by decide +kernel
theorem d_P_targetOf_41 : decode c_P_targetOf 41 = .ok (.iload_n 3, 1) := by decide +kernel
theorem d_P_targetOf_42 : decode c_P_targetOf 42 = .ok (.iaload, 1) := by decide +kernel
theorem d_P_targetOf_43 : decode c_P_targetOf 43 = .ok (.istore_n 3, 1) := by decide +kernel
theorem d_P_targetOf_44 : decode c_P_targetOf 44 = .ok (.iinc 4 1, 3) := by decide +kernel
theorem d_P_targetOf_47 : decode c_P_targetOf 47 = .ok (.goto (-42), 3) := by decide +kernel
theorem d_P_targetOf_50 : decode c_P_targetOf 50 = .ok (.iconst (-1), 1) := by decide +kernel
theorem d_P_targetOf_51 : decode c_P_targetOf 51 = .ok (.ireturn, 1) := by decide +kernel
theorem d_X_target_0 : decode c_X_target 0 = .ok (.iload_n 1, 1) := by decide +kernel
theorem d_X_target_1 : decode c_X_target 1 = .ok (.iconst 4, 1) := by decide +kernel
theorem d_X_target_2 : decode c_X_target 2 = .ok (.invokestatic 60, 3) := by decide +kernel
theorem d_X_target_5 : decode c_X_target 5 = .ok (.ifCond .eq 11, 3) := by decide +kernel
theorem d_X_target_8 : decode c_X_target 8 = .ok (.iload_n 2, 1) := by decide +kernel
theorem d_X_target_9 : decode c_X_target 9 = .ok (.iconst 3, 1) := by decide +kernel
theorem d_X_target_10 : decode c_X_target 10 = .ok (.invokestatic 60, 3) := by decide +kernel
theorem d_X_target_13 : decode c_X_target 13 = .ok (.ifCond .ne 5, 3) := by decide +kernel
theorem d_X_target_16 : decode c_X_target 16 = .ok (.iconst (-1), 1) := by decide +kernel
theorem d_X_target_17 : decode c_X_target 17 = .ok (.ireturn, 1) := by decide +kernel
theorem d_X_target_18 : decode c_X_target 18 = .ok (.aload_n 0, 1) := by decide +kernel
theorem d_X_target_19 : decode c_X_target 19 = .ok (.getfield 12, 3) := by decide +kernel
theorem d_X_target_22 : decode c_X_target 22 = .ok (.iload_n 1, 1) := by decide +kernel
theorem d_X_target_23 : decode c_X_target 23 = .ok (.iload_n 2, 1) := by decide +kernel
theorem d_X_target_24 : decode c_X_target 24 = .ok (.invokevirtual 77, 3) := by decide +kernel
theorem d_X_target_27 : decode c_X_target 27 = .ok (.ireturn, 1) := by decide +kernel
theorem d_X_size_0 : decode c_X_size 0 = .ok (.iload_n 1, 1) := by decide +kernel
theorem d_X_size_1 : decode c_X_size 1 = .ok (.bipush 6, 2) := by decide +kernel
theorem d_X_size_3 : decode c_X_size 3 = .ok (.invokestatic 60, 3) := by decide +kernel
theorem d_X_size_6 : decode c_X_size 6 = .ok (.ifCond .eq 15, 3) := by decide +kernel
theorem d_X_size_9 : decode c_X_size 9 = .ok (.aload_n 0, 1) := by decide +kernel
theorem d_X_size_10 : decode c_X_size 10 = .ok (.getfield 12, 3) := by decide +kernel
theorem d_X_size_13 : decode c_X_size 13 = .ok (.getfield 63, 3) := by decide +kernel
theorem d_X_size_16 : decode c_X_size 16 = .ok (.iload_n 1, 1) := by decide +kernel
theorem d_X_size_17 : decode c_X_size 17 = .ok (.iaload, 1) := by decide +kernel
theorem d_X_size_18 : decode c_X_size 18 = .ok (.goto 4, 3) := by decide +kernel
theorem d_X_size_21 : decode c_X_size 21 = .ok (.iconst 0, 1) := by decide +kernel
theorem d_X_size_22 : decode c_X_size 22 = .ok (.ireturn, 1) := by decide +kernel
theorem d_X_has_0 : decode c_X_has 0 = .ok (.iload_n 0, 1) := by decide +kernel
theorem d_X_has_1 : decode c_X_has 1 = .ok (.iload_n 1, 1) := by decide +kernel
theorem d_X_has_2 : decode c_X_has 2 = .ok (.iushr, 1) := by decide +kernel
theorem d_X_has_3 : decode c_X_has 3 = .ok (.iconst 1, 1) := by decide +kernel
theorem d_X_has_4 : decode c_X_has 4 = .ok (.iand, 1) := by decide +kernel
theorem d_X_has_5 : decode c_X_has 5 = .ok (.ifCond .eq 7, 3) := by decide +kernel
theorem d_X_has_8 : decode c_X_has 8 = .ok (.iconst 1, 1) := by decide +kernel
theorem d_X_has_9 : decode c_X_has 9 = .ok (.goto 4, 3) := by decide +kernel
theorem d_X_has_12 : decode c_X_has 12 = .ok (.iconst 0, 1) := by decide +kernel
theorem d_X_has_13 : decode c_X_has 13 = .ok (.ireturn, 1) := by decide +kernel
theorem d_Q_growLocal_0 : decode c_Q_growLocal 0 = .ok (.iload_n 1, 1) := by decide +kernel
theorem d_Q_growLocal_1 : decode c_Q_growLocal 1 = .ok (.iconst 4, 1) := by decide +kernel
theorem d_Q_growLocal_2 : decode c_Q_growLocal 2 = .ok (.imul, 1) := by decide +kernel
theorem d_Q_growLocal_3 : decode c_Q_growLocal 3 = .ok (.iload_n 2, 1) := by decide +kernel
theorem d_Q_growLocal_4 : decode c_Q_growLocal 4 = .ok (.iadd, 1) := by decide +kernel
theorem d_Q_growLocal_5 : decode c_Q_growLocal 5 = .ok (.istore 4, 2) := by decide +kernel
theorem d_Q_growLocal_7 : decode c_Q_growLocal 7 = .ok (.iload_n 3, 1) := by decide +kernel
theorem d_Q_growLocal_8 : decode c_Q_growLocal 8 = .ok (.aload_n 0, 1) := by decide +kernel
theorem d_Q_growLocal_9 : decode c_Q_growLocal 9 = .ok (.getfield 15, 3) := by decide +kernel
theorem d_Q_growLocal_12 : decode c_Q_growLocal 12 = .ok (.iload 4, 2) := by decide +kernel
theorem d_Q_growLocal_14 : decode c_Q_growLocal 14 = .ok (.iaload, 1) := by decide +kernel
theorem d_Q_growLocal_15 : decode c_Q_growLocal 15 = .ok (.iconst (-1), 1) := by decide +kernel
theorem d_Q_growLocal_16 : decode c_Q_growLocal 16 = .ok (.ixor, 1) := by decide +kernel
theorem d_Q_growLocal_17 : decode c_Q_growLocal 17 = .ok (.iand, 1) := by decide +kernel
theorem d_Q_growLocal_18 : decode c_Q_growLocal 18 = .ok (.ifCond .eq 19, 3) := by decide +kernel
theorem d_Q_growLocal_21 : decode c_Q_growLocal 21 = .ok (.aload_n 0, 1) := by decide +kernel
theorem d_Q_growLocal_22 : decode c_Q_growLocal 22 = .ok (.getfield 15, 3) := by decide +kernel
theorem d_Q_growLocal_25 : decode c_Q_growLocal 25 = .ok (.iload 4, 2) := by decide +kernel
theorem d_Q_growLocal_27 : decode c_Q_growLocal 27 = .ok (.dup2, 1) := by decide +kernel
theorem d_Q_growLocal_28 : decode c_Q_growLocal 28 = .ok (.iaload, 1) := by decide +kernel
theorem d_Q_growLocal_29 : decode c_Q_growLocal 29 = .ok (.iload_n 3, 1) := by decide +kernel
theorem d_Q_growLocal_30 : decode c_Q_growLocal 30 = .ok (.ior, 1) := by decide +kernel
theorem d_Q_growLocal_31 : decode c_Q_growLocal 31 = .ok (.iastore, 1) := by decide +kernel
theorem d_Q_growLocal_32 : decode c_Q_growLocal 32 = .ok (.aload_n 0, 1) := by decide +kernel
theorem d_Q_growLocal_33 : decode c_Q_growLocal 33 = .ok (.iconst 1, 1) := by decide +kernel
theorem d_Q_growLocal_34 : decode c_Q_growLocal 34 = .ok (.putfield 35, 3) := by decide +kernel
theorem d_Q_growLocal_37 : decode c_Q_growLocal 37 = .ok (.return_, 1) := by decide +kernel
theorem d_Q_fieldOfAll_0 : decode c_Q_fieldOfAll 0 = .ok (.iconst 0, 1) := by decide +kernel
theorem d_Q_fieldOfAll_1 : decode c_Q_fieldOfAll 1 = .ok (.istore_n 3, 1) := by decide +kernel
theorem d_Q_fieldOfAll_2 : decode c_Q_fieldOfAll 2 = .ok (.iconst 0, 1) := by decide +kernel
theorem d_Q_fieldOfAll_3 : decode c_Q_fieldOfAll 3 = .ok (.istore 4, 2) := by decide +kernel
theorem d_Q_fieldOfAll_5 : decode c_Q_fieldOfAll 5 = .ok (.iload 4, 2) := by decide +kernel
theorem d_Q_fieldOfAll_7 : decode c_Q_fieldOfAll 7 = .ok (.bipush 6, 2) := by decide +kernel
theorem d_Q_fieldOfAll_9 : decode c_Q_fieldOfAll 9 = .ok (.if_icmp .ge 32, 3) := by decide +kernel
theorem d_Q_fieldOfAll_12 : decode c_Q_fieldOfAll 12 = .ok (.iload_n 1, 1) := by decide +kernel
theorem d_Q_fieldOfAll_13 : decode c_Q_fieldOfAll 13 = .ok (.iload 4, 2) := by decide +kernel
theorem d_Q_fieldOfAll_15 : decode c_Q_fieldOfAll 15 = .ok (.invokestatic 43, 3) := by decide +kernel
theorem d_Q_fieldOfAll_18 : decode c_Q_fieldOfAll 18 = .ok (.ifCond .eq 17, 3) := by decide +kernel
theorem d_Q_fieldOfAll_21 : decode c_Q_fieldOfAll 21 = .ok (.iload_n 3, 1) := by decide +kernel
theorem d_Q_fieldOfAll_22 : decode c_Q_fieldOfAll 22 = .ok (.aload_n 0, 1) := by decide +kernel
theorem d_Q_fieldOfAll_23 : decode c_Q_fieldOfAll 23 = .ok (.getfield 19, 3) := by decide +kernel
theorem d_Q_fieldOfAll_26 : decode c_Q_fieldOfAll 26 = .ok (.iload 4, 2) := by decide +kernel
theorem d_Q_fieldOfAll_28 : decode c_Q_fieldOfAll 28 = .ok (.iconst 2, 1) := by decide +kernel
theorem d_Q_fieldOfAll_29 : decode c_Q_fieldOfAll 29 = .ok (.imul, 1) := by decide +kernel
theorem d_Q_fieldOfAll_30 : decode c_Q_fieldOfAll 30 = .ok (.iload_n 2, 1) := by decide +kernel
theorem d_Q_fieldOfAll_31 : decode c_Q_fieldOfAll 31 = .ok (.iadd, 1) := by decide +kernel
theorem d_Q_fieldOfAll_32 : decode c_Q_fieldOfAll 32 = .ok (.iaload, 1) := by decide +kernel
theorem d_Q_fieldOfAll_33 : decode c_Q_fieldOfAll 33 = .ok (.ior, 1) := by decide +kernel
theorem d_Q_fieldOfAll_34 : decode c_Q_fieldOfAll 34 = .ok (.istore_n 3, 1) := by decide +kernel
theorem d_Q_fieldOfAll_35 : decode c_Q_fieldOfAll 35 = .ok (.iinc 4 1, 3) := by decide +kernel
theorem d_Q_fieldOfAll_38 : decode c_Q_fieldOfAll 38 = .ok (.goto (-33), 3) := by decide +kernel
theorem d_Q_fieldOfAll_41 : decode c_Q_fieldOfAll 41 = .ok (.iload_n 3, 1) := by decide +kernel
theorem d_Q_fieldOfAll_42 : decode c_Q_fieldOfAll 42 = .ok (.ireturn, 1) := by decide +kernel
theorem d_Q_growFields_0 : decode c_Q_growFields 0 = .ok (.iconst 0, 1) := by decide +kernel
theorem d_Q_growFields_1 : decode c_Q_growFields 1 = .ok (.istore 4, 2) := by decide +kernel
theorem d_Q_growFields_3 : decode c_Q_growFields 3 = .ok (.iload 4, 2) := by decide +kernel
theorem d_Q_growFields_5 : decode c_Q_growFields 5 = .ok (.bipush 6, 2) := by decide +kernel
theorem d_Q_growFields_7 : decode c_Q_growFields 7 = .ok (.if_icmp .ge 56, 3) := by decide +kernel
theorem d_Q_growFields_10 : decode c_Q_growFields 10 = .ok (.iload 4, 2) := by decide +kernel
theorem d_Q_growFields_12 : decode c_Q_growFields 12 = .ok (.iconst 2, 1) := by decide +kernel
theorem d_Q_growFields_13 : decode c_Q_growFields 13 = .ok (.imul, 1) := by decide +kernel
theorem d_Q_growFields_14 : decode c_Q_growFields 14 = .ok (.iload_n 2, 1) := by decide +kernel
theorem d_Q_growFields_15 : decode c_Q_growFields 15 = .ok (.iadd, 1) := by decide +kernel
theorem d_Q_growFields_16 : decode c_Q_growFields 16 = .ok (.istore 5, 2) := by decide +kernel
theorem d_Q_growFields_18 : decode c_Q_growFields 18 = .ok (.iload_n 1, 1) := by decide +kernel
theorem d_Q_growFields_19 : decode c_Q_growFields 19 = .ok (.iload 4, 2) := by decide +kernel
theorem d_Q_growFields_21 : decode c_Q_growFields 21 = .ok (.invokestatic 43, 3) := by decide +kernel
theorem d_Q_growFields_24 : decode c_Q_growFields 24 = .ok (.ifCond .eq 33, 3) := by decide +kernel
theorem d_Q_growFields_27 : decode c_Q_growFields 27 = .ok (.iload_n 3, 1) := by decide +kernel
theorem d_Q_growFields_28 : decode c_Q_growFields 28 = .ok (.aload_n 0, 1) := by decide +kernel
theorem d_Q_growFields_29 : decode c_Q_growFields 29 = .ok (.getfield 19, 3) := by decide +kernel
theorem d_Q_growFields_32 : decode c_Q_growFields 32 = .ok (.iload 5, 2) := by decide +kernel
theorem d_Q_growFields_34 : decode c_Q_growFields 34 = .ok (.iaload, 1) := by decide +kernel
theorem d_Q_growFields_35 : decode c_Q_growFields 35 = .ok (.iconst (-1), 1) := by decide +kernel
theorem d_Q_growFields_36 : decode c_Q_growFields 36 = .ok (.ixor, 1) := by decide +kernel
theorem d_Q_growFields_37 : decode c_Q_growFields 37 = .ok (.iand, 1) := by decide +kernel
theorem d_Q_growFields_38 : decode c_Q_growFields 38 = .ok (.ifCond .eq 19, 3) := by decide +kernel
theorem d_Q_growFields_41 : decode c_Q_growFields 41 = .ok (.aload_n 0, 1) := by decide +kernel
theorem d_Q_growFields_42 : decode c_Q_growFields 42 = .ok (.getfield 19, 3) := by decide +kernel
theorem d_Q_growFields_45 : decode c_Q_growFields 45 = .ok (.iload 5, 2) := by decide +kernel
theorem d_Q_growFields_47 : decode c_Q_growFields 47 = .ok (.dup2, 1) := by decide +kernel
theorem d_Q_growFields_48 : decode c_Q_growFields 48 = .ok (.iaload, 1) := by decide +kernel
theorem d_Q_growFields_49 : decode c_Q_growFields 49 = .ok (.iload_n 3, 1) := by decide +kernel
theorem d_Q_growFields_50 : decode c_Q_growFields 50 = .ok (.ior, 1) := by decide +kernel
theorem d_Q_growFields_51 : decode c_Q_growFields 51 = .ok (.iastore, 1) := by decide +kernel
theorem d_Q_growFields_52 : decode c_Q_growFields 52 = .ok (.aload_n 0, 1) := by decide +kernel
theorem d_Q_growFields_53 : decode c_Q_growFields 53 = .ok (.iconst 1, 1) := by decide +kernel
theorem d_Q_growFields_54 : decode c_Q_growFields 54 = .ok (.putfield 35, 3) := by decide +kernel
theorem d_Q_growFields_57 : decode c_Q_growFields 57 = .ok (.iinc 4 1, 3) := by decide +kernel
theorem d_Q_growFields_60 : decode c_Q_growFields 60 = .ok (.goto (-57), 3) := by decide +kernel
theorem d_Q_growFields_63 : decode c_Q_growFields 63 = .ok (.return_, 1) := by decide +kernel
theorem d_Q_reach_0 : decode c_Q_reach 0 = .ok (.aload_n 0, 1) := by decide +kernel
theorem d_Q_reach_1 : decode c_Q_reach 1 = .ok (.getfield 22, 3) := by decide +kernel
theorem d_Q_reach_4 : decode c_Q_reach 4 = .ok (.iload_n 1, 1) := by decide +kernel
theorem d_Q_reach_5 : decode c_Q_reach 5 = .ok (.dup2, 1) := by decide +kernel
theorem d_Q_reach_6 : decode c_Q_reach 6 = .ok (.iaload, 1) := by decide +kernel
theorem d_Q_reach_7 : decode c_Q_reach 7 = .ok (.iconst 1, 1) := by decide +kernel
theorem d_Q_reach_8 : decode c_Q_reach 8 = .ok (.iload_n 2, 1) := by decide +kernel
theorem d_Q_reach_9 : decode c_Q_reach 9 = .ok (.ishl, 1) := by decide +kernel
theorem d_Q_reach_10 : decode c_Q_reach 10 = .ok (.ior, 1) := by decide +kernel
theorem d_Q_reach_11 : decode c_Q_reach 11 = .ok (.iastore, 1) := by decide +kernel
theorem d_Q_reach_12 : decode c_Q_reach 12 = .ok (.aload_n 0, 1) := by decide +kernel
theorem d_Q_reach_13 : decode c_Q_reach 13 = .ok (.getfield 31, 3) := by decide +kernel
theorem d_Q_reach_16 : decode c_Q_reach 16 = .ok (.iload_n 2, 1) := by decide +kernel
theorem d_Q_reach_17 : decode c_Q_reach 17 = .ok (.invokestatic 43, 3) := by decide +kernel
theorem d_Q_reach_20 : decode c_Q_reach 20 = .ok (.ifCond .ne 20, 3) := by decide +kernel
theorem d_Q_reach_23 : decode c_Q_reach 23 = .ok (.aload_n 0, 1) := by decide +kernel
theorem d_Q_reach_24 : decode c_Q_reach 24 = .ok (.dup, 1) := by decide +kernel
theorem d_Q_reach_25 : decode c_Q_reach 25 = .ok (.getfield 31, 3) := by decide +kernel
theorem d_Q_reach_28 : decode c_Q_reach 28 = .ok (.iconst 1, 1) := by decide +kernel
theorem d_Q_reach_29 : decode c_Q_reach 29 = .ok (.iload_n 2, 1) := by decide +kernel
theorem d_Q_reach_30 : decode c_Q_reach 30 = .ok (.ishl, 1) := by decide +kernel
theorem d_Q_reach_31 : decode c_Q_reach 31 = .ok (.ior, 1) := by decide +kernel
theorem d_Q_reach_32 : decode c_Q_reach 32 = .ok (.putfield 31, 3) := by decide +kernel
theorem d_Q_reach_35 : decode c_Q_reach 35 = .ok (.aload_n 0, 1) := by decide +kernel
theorem d_Q_reach_36 : decode c_Q_reach 36 = .ok (.iconst 1, 1) := by decide +kernel
theorem d_Q_reach_37 : decode c_Q_reach 37 = .ok (.putfield 35, 3) := by decide +kernel
theorem d_Q_reach_40 : decode c_Q_reach 40 = .ok (.return_, 1) := by decide +kernel
theorem d_Q_returned_0 : decode c_Q_returned 0 = .ok (.iconst 0, 1) := by decide +kernel
theorem d_Q_returned_1 : decode c_Q_returned 1 = .ok (.istore_n 2, 1) := by decide +kernel
theorem d_Q_returned_2 : decode c_Q_returned 2 = .ok (.iconst 0, 1) := by decide +kernel
theorem d_Q_returned_3 : decode c_Q_returned 3 = .ok (.istore_n 3, 1) := by decide +kernel
theorem d_Q_returned_4 : decode c_Q_returned 4 = .ok (.iload_n 3, 1) := by decide +kernel
theorem d_Q_returned_5 : decode c_Q_returned 5 = .ok (.aload_n 0, 1) := by decide +kernel
theorem d_Q_returned_6 : decode c_Q_returned 6 = .ok (.getfield 9, 3) := by decide +kernel
theorem d_Q_returned_9 : decode c_Q_returned 9 = .ok (.getfield 47, 3) := by decide +kernel
theorem d_Q_returned_12 : decode c_Q_returned 12 = .ok (.iload_n 1, 1) := by decide +kernel
theorem d_Q_returned_13 : decode c_Q_returned 13 = .ok (.iaload, 1) := by decide +kernel
theorem d_Q_returned_14 : decode c_Q_returned 14 = .ok (.if_icmp .ge 54, 3) := by decide +kernel
theorem d_Q_returned_17 : decode c_Q_returned 17 = .ok (.iload_n 1, 1) := by decide +kernel
theorem d_Q_returned_18 : decode c_Q_returned 18 = .ok (.bipush 13, 2) := by decide +kernel
theorem d_Q_returned_20 : decode c_Q_returned 20 = .ok (.imul, 1) := by decide +kernel
theorem d_Q_returned_21 : decode c_Q_returned 21 = .ok (.iload_n 3, 1) := by decide +kernel
theorem d_Q_returned_22 : decode c_Q_returned 22 = .ok (.iadd, 1) := by decide +kernel
theorem d_Q_returned_23 : decode c_Q_returned 23 = .ok (.istore 4, 2) := by decide +kernel
theorem d_Q_returned_25 : decode c_Q_returned 25 = .ok (.aload_n 0, 1) := by decide +kernel
theorem d_Q_returned_26 : decode c_Q_returned 26 = .ok (.getfield 9, 3) := by decide +kernel
theorem d_Q_returned_29 : decode c_Q_returned 29 = .ok (.getfield 65, 3) := by decide +kernel
theorem d_Q_returned_32 : decode c_Q_returned 32 = .ok (.iload 4, 2) := by decide +kernel
theorem d_Q_returned_34 : decode c_Q_returned 34 = .ok (.iaload, 1) := by decide +kernel
theorem d_Q_returned_35 : decode c_Q_returned 35 = .ok (.bipush 10, 2) := by decide +kernel
theorem d_Q_returned_37 : decode c_Q_returned 37 = .ok (.if_icmp .ne 25, 3) := by decide +kernel
theorem d_Q_returned_40 : decode c_Q_returned 40 = .ok (.iload_n 2, 1) := by decide +kernel
theorem d_Q_returned_41 : decode c_Q_returned 41 = .ok (.aload_n 0, 1) := by decide +kernel
theorem d_Q_returned_42 : decode c_Q_returned 42 = .ok (.getfield 15, 3) := by decide +kernel
theorem d_Q_returned_45 : decode c_Q_returned 45 = .ok (.iload_n 1, 1) := by decide +kernel
theorem d_Q_returned_46 : decode c_Q_returned 46 = .ok (.iconst 4, 1) := by decide +kernel
theorem d_Q_returned_47 : decode c_Q_returned 47 = .ok (.imul, 1) := by decide +kernel
theorem d_Q_returned_48 : decode c_Q_returned 48 = .ok (.aload_n 0, 1) := by decide +kernel
theorem d_Q_returned_49 : decode c_Q_returned 49 = .ok (.getfield 9, 3) := by decide +kernel
theorem d_Q_returned_52 : decode c_Q_returned 52 = .ok (.getfield 56, 3) := by decide +kernel
theorem d_Q_returned_55 : decode c_Q_returned 55 = .ok (.iload 4, 2) := by decide +kernel
theorem d_Q_returned_57 : decode c_Q_returned 57 = .ok (.iaload, 1) := by decide +kernel
theorem d_Q_returned_58 : decode c_Q_returned 58 = .ok (.iadd, 1) := by decide +kernel
theorem d_Q_returned_59 : decode c_Q_returned 59 = .ok (.iaload, 1) := by decide +kernel
theorem d_Q_returned_60 : decode c_Q_returned 60 = .ok (.ior, 1) := by decide +kernel
theorem d_Q_returned_61 : decode c_Q_returned 61 = .ok (.istore_n 2, 1) := by decide +kernel
theorem d_Q_returned_62 : decode c_Q_returned 62 = .ok (.iinc 3 1, 3) := by decide +kernel
theorem d_Q_returned_65 : decode c_Q_returned 65 = .ok (.goto (-61), 3) := by decide +kernel
theorem d_Q_returned_68 : decode c_Q_returned 68 = .ok (.iload_n 2, 1) := by decide +kernel
theorem d_Q_returned_69 : decode c_Q_returned 69 = .ok (.ireturn, 1) := by decide +kernel
theorem d_Q_followCall_0 : decode c_Q_followCall 0 = .ok (.aload_n 0, 1) := by decide +kernel
theorem d_Q_followCall_1 : decode c_Q_followCall 1 = .ok (.getfield 9, 3) := by decide +kernel
theorem d_Q_followCall_4 : decode c_Q_followCall 4 = .ok (.getfield 62, 3) := by decide +kernel
theorem d_Q_followCall_7 : decode c_Q_followCall 7 = .ok (.iload_n 2, 1) := by decide +kernel
theorem d_Q_followCall_8 : decode c_Q_followCall 8 = .ok (.iaload, 1) := by decide +kernel
theorem d_Q_followCall_9 : decode c_Q_followCall 9 = .ok (.iconst 4, 1) := by decide +kernel
theorem d_Q_followCall_10 : decode c_Q_followCall 10 = .ok (.idiv, 1) := by decide +kernel
theorem d_Q_followCall_11 : decode c_Q_followCall 11 = .ok (.istore_n 3, 1) := by decide +kernel
theorem d_Q_followCall_12 : decode c_Q_followCall 12 = .ok (.aload_n 0, 1) := by decide +kernel
theorem d_Q_followCall_13 : decode c_Q_followCall 13 = .ok (.getfield 9, 3) := by decide +kernel
theorem d_Q_followCall_16 : decode c_Q_followCall 16 = .ok (.getfield 62, 3) := by decide +kernel
theorem d_Q_followCall_19 : decode c_Q_followCall 19 = .ok (.iload_n 2, 1) := by decide +kernel
theorem d_Q_followCall_20 : decode c_Q_followCall 20 = .ok (.iaload, 1) := by decide +kernel
theorem d_Q_followCall_21 : decode c_Q_followCall 21 = .ok (.iconst 4, 1) := by decide +kernel
theorem d_Q_followCall_22 : decode c_Q_followCall 22 = .ok (.irem, 1) := by decide +kernel
theorem d_Q_followCall_23 : decode c_Q_followCall 23 = .ok (.istore 4, 2) := by decide +kernel
theorem d_Q_followCall_25 : decode c_Q_followCall 25 = .ok (.aload_n 0, 1) := by decide +kernel
theorem d_Q_followCall_26 : decode c_Q_followCall 26 = .ok (.getfield 15, 3) := by decide +kernel
theorem d_Q_followCall_29 : decode c_Q_followCall 29 = .ok (.iload_n 1, 1) := by decide +kernel
theorem d_Q_followCall_30 : decode c_Q_followCall 30 = .ok (.iconst 4, 1) := by decide +kernel
theorem d_Q_followCall_31 : decode c_Q_followCall 31 = .ok (.imul, 1) := by decide +kernel
theorem d_Q_followCall_32 : decode c_Q_followCall 32 = .ok (.aload_n 0, 1) := by decide +kernel
theorem d_Q_followCall_33 : decode c_Q_followCall 33 = .ok (.getfield 9, 3) := by decide +kernel
theorem d_Q_followCall_36 : decode c_Q_followCall 36 = .ok (.getfield 59, 3) := by decide +kernel
theorem d_Q_followCall_39 : decode c_Q_followCall 39 = .ok (.iload_n 2, 1) := by decide +kernel
theorem d_Q_followCall_40 : decode c_Q_followCall 40 = .ok (.iaload, 1) := by decide +kernel
theorem d_Q_followCall_41 : decode c_Q_followCall 41 = .ok (.iadd, 1) := by decide +kernel
theorem d_Q_followCall_42 : decode c_Q_followCall 42 = .ok (.iaload, 1) := by decide +kernel
theorem d_Q_followCall_43 : decode c_Q_followCall 43 = .ok (.istore 5, 2) := by decide +kernel
theorem d_Q_followCall_45 : decode c_Q_followCall 45 = .ok (.iconst 0, 1) := by decide +kernel
theorem d_Q_followCall_46 : decode c_Q_followCall 46 = .ok (.istore 6, 2) := by decide +kernel
theorem d_Q_followCall_48 : decode c_Q_followCall 48 = .ok (.iload 6, 2) := by decide +kernel
theorem d_Q_followCall_50 : decode c_Q_followCall 50 = .ok (.bipush 6, 2) := by decide +kernel
theorem d_Q_followCall_52 : decode c_Q_followCall 52 = .ok (.if_icmp .ge 105, 3) := by decide +kernel
theorem d_Q_followCall_55 : decode c_Q_followCall 55 = .ok (.iload 5, 2) := by decide +kernel
theorem d_Q_followCall_57 : decode c_Q_followCall 57 = .ok (.iload 6, 2) := by decide +kernel
theorem d_Q_followCall_59 : decode c_Q_followCall 59 = .ok (.invokestatic 43, 3) := by decide +kernel
theorem d_Q_followCall_62 : decode c_Q_followCall 62 = .ok (.ifCond .eq 24, 3) := by decide +kernel
theorem d_Q_followCall_65 : decode c_Q_followCall 65 = .ok (.aload_n 0, 1) := by decide +kernel
theorem d_Q_followCall_66 : decode c_Q_followCall 66 = .ok (.getfield 9, 3) := by decide +kernel
theorem d_Q_followCall_69 : decode c_Q_followCall 69 = .ok (.aload_n 0, 1) := by decide +kernel
theorem d_Q_followCall_70 : decode c_Q_followCall 70 = .ok (.getfield 9, 3) := by decide +kernel
theorem d_Q_followCall_73 : decode c_Q_followCall 73 = .ok (.getfield 85, 3) := by decide +kernel
theorem d_Q_followCall_76 : decode c_Q_followCall 76 = .ok (.iload 6, 2) := by decide +kernel
theorem d_Q_followCall_78 : decode c_Q_followCall 78 = .ok (.iaload, 1) := by decide +kernel
theorem d_Q_followCall_79 : decode c_Q_followCall 79 = .ok (.iload_n 3, 1) := by decide +kernel
theorem d_Q_followCall_80 : decode c_Q_followCall 80 = .ok (.invokevirtual 88, 3) := by decide +kernel
theorem d_Q_followCall_83 : decode c_Q_followCall 83 = .ok (.goto 4, 3) := by decide +kernel
theorem d_Q_followCall_86 : decode c_Q_followCall 86 = .ok (.iconst (-1), 1) := by decide +kernel
theorem d_Q_followCall_87 : decode c_Q_followCall 87 = .ok (.istore 7, 2) := by decide +kernel
theorem d_Q_followCall_89 : decode c_Q_followCall 89 = .ok (.iload 7, 2) := by decide +kernel
theorem d_Q_followCall_91 : decode c_Q_followCall 91 = .ok (.iconst (-1), 1) := by decide +kernel
theorem d_Q_followCall_92 : decode c_Q_followCall 92 = .ok (.if_icmp .eq 59, 3) := by decide +kernel
theorem d_Q_followCall_95 : decode c_Q_followCall 95 = .ok (.aload_n 0, 1) := by decide +kernel
theorem d_Q_followCall_96 : decode c_Q_followCall 96 = .ok (.iload_n 2, 1) := by decide +kernel
theorem d_Q_followCall_97 : decode c_Q_followCall 97 = .ok (.iload 7, 2) := by decide +kernel
theorem d_Q_followCall_99 : decode c_Q_followCall 99 = .ok (.invokevirtual 91, 3) := by decide +kernel
theorem d_Q_followCall_102 : decode c_Q_followCall 102 = .ok (.aload_n 0, 1) := by decide +kernel
theorem d_Q_followCall_103 : decode c_Q_followCall 103 = .ok (.iload 7, 2) := by decide +kernel
theorem d_Q_followCall_105 : decode c_Q_followCall 105 = .ok (.iconst 0, 1) := by decide +kernel
theorem d_Q_followCall_106 : decode c_Q_followCall 106 = .ok (.iconst 1, 1) := by decide +kernel
theorem d_Q_followCall_107 : decode c_Q_followCall 107 = .ok (.iload 6, 2) := by decide +kernel
theorem d_Q_followCall_109 : decode c_Q_followCall 109 = .ok (.ishl, 1) := by decide +kernel
theorem d_Q_followCall_110 : decode c_Q_followCall 110 = .ok (.invokevirtual 71, 3) := by decide +kernel
theorem d_Q_followCall_113 : decode c_Q_followCall 113 = .ok (.aload_n 0, 1) := by decide +kernel
theorem d_Q_followCall_114 : decode c_Q_followCall 114 = .ok (.iload 7, 2) := by decide +kernel
theorem d_Q_followCall_116 : decode c_Q_followCall 116 = .ok (.iconst 1, 1) := by decide +kernel
theorem d_Q_followCall_117 : decode c_Q_followCall 117 = .ok (.aload_n 0, 1) := by decide +kernel
theorem d_Q_followCall_118 : decode c_Q_followCall 118 = .ok (.getfield 15, 3) := by decide +kernel
theorem d_Q_followCall_121 : decode c_Q_followCall 121 = .ok (.iload_n 1, 1) := by decide +kernel
theorem d_Q_followCall_122 : decode c_Q_followCall 122 = .ok (.iconst 4, 1) := by decide +kernel
theorem d_Q_followCall_123 : decode c_Q_followCall 123 = .ok (.imul, 1) := by decide +kernel
theorem d_Q_followCall_124 : decode c_Q_followCall 124 = .ok (.iload 4, 2) := by decide +kernel
theorem d_Q_followCall_126 : decode c_Q_followCall 126 = .ok (.iadd, 1) := by decide +kernel
theorem d_Q_followCall_127 : decode c_Q_followCall 127 = .ok (.iaload, 1) := by decide +kernel
theorem d_Q_followCall_128 : decode c_Q_followCall 128 = .ok (.invokevirtual 71, 3) := by decide +kernel
theorem d_Q_followCall_131 : decode c_Q_followCall 131 = .ok (.aload_n 0, 1) := by decide +kernel
theorem d_Q_followCall_132 : decode c_Q_followCall 132 = .ok (.iload_n 1, 1) := by decide +kernel
theorem d_Q_followCall_133 : decode c_Q_followCall 133 = .ok (.aload_n 0, 1) := by decide +kernel
theorem d_Q_followCall_134 : decode c_Q_followCall 134 = .ok (.getfield 9, 3) := by decide +kernel
theorem d_Q_followCall_137 : decode c_Q_followCall 137 = .ok (.getfield 56, 3) := by decide +kernel
theorem d_Q_followCall_140 : decode c_Q_followCall 140 = .ok (.iload_n 2, 1) := by decide +kernel
theorem d_Q_followCall_141 : decode c_Q_followCall 141 = .ok (.iaload, 1) := by decide +kernel
theorem d_Q_followCall_142 : decode c_Q_followCall 142 = .ok (.aload_n 0, 1) := by decide +kernel
theorem d_Q_followCall_143 : decode c_Q_followCall 143 = .ok (.iload 7, 2) := by decide +kernel
theorem d_Q_followCall_145 : decode c_Q_followCall 145 = .ok (.invokevirtual 94, 3) := by decide +kernel
theorem d_Q_followCall_148 : decode c_Q_followCall 148 = .ok (.invokevirtual 71, 3) := by decide +kernel
theorem d_Q_followCall_151 : decode c_Q_followCall 151 = .ok (.iinc 6 1, 3) := by decide +kernel
theorem d_Q_followCall_154 : decode c_Q_followCall 154 = .ok (.goto (-106), 3) := by decide +kernel
theorem d_Q_followCall_157 : decode c_Q_followCall 157 = .ok (.return_, 1) := by decide +kernel
theorem d_Q_follow_0 : decode c_Q_follow 0 = .ok (.aload_n 0, 1) := by decide +kernel
theorem d_Q_follow_1 : decode c_Q_follow 1 = .ok (.getfield 9, 3) := by decide +kernel
theorem d_Q_follow_4 : decode c_Q_follow 4 = .ok (.getfield 56, 3) := by decide +kernel
theorem d_Q_follow_7 : decode c_Q_follow 7 = .ok (.iload_n 2, 1) := by decide +kernel
theorem d_Q_follow_8 : decode c_Q_follow 8 = .ok (.iaload, 1) := by decide +kernel
theorem d_Q_follow_9 : decode c_Q_follow 9 = .ok (.istore_n 3, 1) := by decide +kernel
theorem d_Q_follow_10 : decode c_Q_follow 10 = .ok (.aload_n 0, 1) := by decide +kernel
theorem d_Q_follow_11 : decode c_Q_follow 11 = .ok (.getfield 9, 3) := by decide +kernel
theorem d_Q_follow_14 : decode c_Q_follow 14 = .ok (.getfield 59, 3) := by decide +kernel
theorem d_Q_follow_17 : decode c_Q_follow 17 = .ok (.iload_n 2, 1) := by decide +kernel
theorem d_Q_follow_18 : decode c_Q_follow 18 = .ok (.iaload, 1) := by decide +kernel
theorem d_Q_follow_19 : decode c_Q_follow 19 = .ok (.istore 4, 2) := by decide +kernel
theorem d_Q_follow_21 : decode c_Q_follow 21 = .ok (.aload_n 0, 1) := by decide +kernel
theorem d_Q_follow_22 : decode c_Q_follow 22 = .ok (.getfield 9, 3) := by decide +kernel
theorem d_Q_follow_25 : decode c_Q_follow 25 = .ok (.getfield 62, 3) := by decide +kernel
theorem d_Q_follow_28 : decode c_Q_follow 28 = .ok (.iload_n 2, 1) := by decide +kernel
theorem d_Q_follow_29 : decode c_Q_follow 29 = .ok (.iaload, 1) := by decide +kernel
theorem d_Q_follow_30 : decode c_Q_follow 30 = .ok (.istore 5, 2) := by decide +kernel
theorem d_Q_follow_32 : decode c_Q_follow 32 = .ok (.aload_n 0, 1) := by decide +kernel
theorem d_Q_follow_33 : decode c_Q_follow 33 = .ok (.getfield 9, 3) := by decide +kernel
theorem d_Q_follow_36 : decode c_Q_follow 36 = .ok (.getfield 65, 3) := by decide +kernel
theorem d_Q_follow_39 : decode c_Q_follow 39 = .ok (.iload_n 2, 1) := by decide +kernel
theorem d_Q_follow_40 : decode c_Q_follow 40 = .ok (.iaload, 1) := by decide +kernel
theorem d_Q_follow_41 : decode c_Q_follow 41 = .ok (.tableswitch 152 0 7 #[47, 152, 152, 152, 67, 87, 113, 143], 47) := by decide +kernel
theorem d_Q_follow_88 : decode c_Q_follow 88 = .ok (.aload_n 0, 1) := by decide +kernel
theorem d_Q_follow_89 : decode c_Q_follow 89 = .ok (.iload_n 1, 1) := by decide +kernel
theorem d_Q_follow_90 : decode c_Q_follow 90 = .ok (.iload_n 3, 1) := by decide +kernel
theorem d_Q_follow_91 : decode c_Q_follow 91 = .ok (.iconst 1, 1) := by decide +kernel
