theorem d_Q_follow_92 : decode c_Q_follow 92 = .ok (.aload_n 0, 1) := by decide +kernel
theorem d_Q_follow_93 : decode c_Q_follow 93 = .ok (.getfield 9, 3) := by decide +kernel
theorem d_Q_follow_96 : decode c_Q_follow 96 = .ok (.getfield 68, 3) := by decide +kernel
theorem d_Q_follow_99 : decode c_Q_follow 99 = .ok (.iload_n 2, 1) := by decide +kernel
theorem d_Q_follow_100 : decode c_Q_follow 100 = .ok (.iaload, 1) := by decide +kernel
theorem d_Q_follow_101 : decode c_Q_follow 101 = .ok (.ishl, 1) := by decide +kernel
theorem d_Q_follow_102 : decode c_Q_follow 102 = .ok (.invokevirtual 71, 3) := by decide +kernel
theorem d_Q_follow_105 : decode c_Q_follow 105 = .ok (.goto 88, 3) := by decide +kernel
theorem d_Q_follow_108 : decode c_Q_follow 108 = .ok (.aload_n 0, 1) := by decide +kernel
theorem d_Q_follow_109 : decode c_Q_follow 109 = .ok (.iload_n 1, 1) := by decide +kernel
theorem d_Q_follow_110 : decode c_Q_follow 110 = .ok (.iload_n 3, 1) := by decide +kernel
theorem d_Q_follow_111 : decode c_Q_follow 111 = .ok (.aload_n 0, 1) := by decide +kernel
theorem d_Q_follow_112 : decode c_Q_follow 112 = .ok (.getfield 15, 3) := by decide +kernel
theorem d_Q_follow_115 : decode c_Q_follow 115 = .ok (.iload_n 1, 1) := by decide +kernel
theorem d_Q_follow_116 : decode c_Q_follow 116 = .ok (.iconst 4, 1) := by decide +kernel
theorem d_Q_follow_117 : decode c_Q_follow 117 = .ok (.imul, 1) := by decide +kernel
theorem d_Q_follow_118 : decode c_Q_follow 118 = .ok (.iload 4, 2) := by decide +kernel
theorem d_Q_follow_120 : decode c_Q_follow 120 = .ok (.iadd, 1) := by decide +kernel
theorem d_Q_follow_121 : decode c_Q_follow 121 = .ok (.iaload, 1) := by decide +kernel
theorem d_Q_follow_122 : decode c_Q_follow 122 = .ok (.invokevirtual 71, 3) := by decide +kernel
theorem d_Q_follow_125 : decode c_Q_follow 125 = .ok (.goto 68, 3) := by decide +kernel
theorem d_Q_follow_128 : decode c_Q_follow 128 = .ok (.aload_n 0, 1) := by decide +kernel
theorem d_Q_follow_129 : decode c_Q_follow 129 = .ok (.iload_n 1, 1) := by decide +kernel
theorem d_Q_follow_130 : decode c_Q_follow 130 = .ok (.iload_n 3, 1) := by decide +kernel
theorem d_Q_follow_131 : decode c_Q_follow 131 = .ok (.aload_n 0, 1) := by decide +kernel
theorem d_Q_follow_132 : decode c_Q_follow 132 = .ok (.aload_n 0, 1) := by decide +kernel
theorem d_Q_follow_133 : decode c_Q_follow 133 = .ok (.getfield 15, 3) := by decide +kernel
theorem d_Q_follow_136 : decode c_Q_follow 136 = .ok (.iload_n 1, 1) := by decide +kernel
theorem d_Q_follow_137 : decode c_Q_follow 137 = .ok (.iconst 4, 1) := by decide +kernel
theorem d_Q_follow_138 : decode c_Q_follow 138 = .ok (.imul, 1) := by decide +kernel
theorem d_Q_follow_139 : decode c_Q_follow 139 = .ok (.iload 4, 2) := by decide +kernel
theorem d_Q_follow_141 : decode c_Q_follow 141 = .ok (.iadd, 1) := by decide +kernel
theorem d_Q_follow_142 : decode c_Q_follow 142 = .ok (.iaload, 1) := by decide +kernel
theorem d_Q_follow_143 : decode c_Q_follow 143 = .ok (.iload 5, 2) := by decide +kernel
theorem d_Q_follow_145 : decode c_Q_follow 145 = .ok (.invokevirtual 75, 3) := by decide +kernel
theorem d_Q_follow_148 : decode c_Q_follow 148 = .ok (.invokevirtual 71, 3) := by decide +kernel
theorem d_Q_follow_151 : decode c_Q_follow 151 = .ok (.goto 42, 3) := by decide +kernel
theorem d_Q_follow_154 : decode c_Q_follow 154 = .ok (.aload_n 0, 1) := by decide +kernel
theorem d_Q_follow_155 : decode c_Q_follow 155 = .ok (.aload_n 0, 1) := by decide +kernel
theorem d_Q_follow_156 : decode c_Q_follow 156 = .ok (.getfield 15, 3) := by decide +kernel
theorem d_Q_follow_159 : decode c_Q_follow 159 = .ok (.iload_n 1, 1) := by decide +kernel
theorem d_Q_follow_160 : decode c_Q_follow 160 = .ok (.iconst 4, 1) := by decide +kernel
theorem d_Q_follow_161 : decode c_Q_follow 161 = .ok (.imul, 1) := by decide +kernel
theorem d_Q_follow_162 : decode c_Q_follow 162 = .ok (.iload_n 3, 1) := by decide +kernel
theorem d_Q_follow_163 : decode c_Q_follow 163 = .ok (.iadd, 1) := by decide +kernel
theorem d_Q_follow_164 : decode c_Q_follow 164 = .ok (.iaload, 1) := by decide +kernel
theorem d_Q_follow_165 : decode c_Q_follow 165 = .ok (.iload 5, 2) := by decide +kernel
theorem d_Q_follow_167 : decode c_Q_follow 167 = .ok (.aload_n 0, 1) := by decide +kernel
theorem d_Q_follow_168 : decode c_Q_follow 168 = .ok (.getfield 15, 3) := by decide +kernel
theorem d_Q_follow_171 : decode c_Q_follow 171 = .ok (.iload_n 1, 1) := by decide +kernel
theorem d_Q_follow_172 : decode c_Q_follow 172 = .ok (.iconst 4, 1) := by decide +kernel
theorem d_Q_follow_173 : decode c_Q_follow 173 = .ok (.imul, 1) := by decide +kernel
theorem d_Q_follow_174 : decode c_Q_follow 174 = .ok (.iload 4, 2) := by decide +kernel
theorem d_Q_follow_176 : decode c_Q_follow 176 = .ok (.iadd, 1) := by decide +kernel
theorem d_Q_follow_177 : decode c_Q_follow 177 = .ok (.iaload, 1) := by decide +kernel
theorem d_Q_follow_178 : decode c_Q_follow 178 = .ok (.invokevirtual 79, 3) := by decide +kernel
theorem d_Q_follow_181 : decode c_Q_follow 181 = .ok (.goto 12, 3) := by decide +kernel
theorem d_Q_follow_184 : decode c_Q_follow 184 = .ok (.aload_n 0, 1) := by decide +kernel
theorem d_Q_follow_185 : decode c_Q_follow 185 = .ok (.iload_n 1, 1) := by decide +kernel
theorem d_Q_follow_186 : decode c_Q_follow 186 = .ok (.iload_n 2, 1) := by decide +kernel
theorem d_Q_follow_187 : decode c_Q_follow 187 = .ok (.invokevirtual 82, 3) := by decide +kernel
theorem d_Q_follow_190 : decode c_Q_follow 190 = .ok (.goto 3, 3) := by decide +kernel
theorem d_Q_follow_193 : decode c_Q_follow 193 = .ok (.return_, 1) := by decide +kernel
theorem d_Q_sweep_0 : decode c_Q_sweep 0 = .ok (.iconst 0, 1) := by decide +kernel
theorem d_Q_sweep_1 : decode c_Q_sweep 1 = .ok (.istore_n 1, 1) := by decide +kernel
theorem d_Q_sweep_2 : decode c_Q_sweep 2 = .ok (.iload_n 1, 1) := by decide +kernel
theorem d_Q_sweep_3 : decode c_Q_sweep 3 = .ok (.bipush 6, 2) := by decide +kernel
theorem d_Q_sweep_5 : decode c_Q_sweep 5 = .ok (.if_icmp .ge 52, 3) := by decide +kernel
theorem d_Q_sweep_8 : decode c_Q_sweep 8 = .ok (.aload_n 0, 1) := by decide +kernel
theorem d_Q_sweep_9 : decode c_Q_sweep 9 = .ok (.getfield 31, 3) := by decide +kernel
theorem d_Q_sweep_12 : decode c_Q_sweep 12 = .ok (.iload_n 1, 1) := by decide +kernel
theorem d_Q_sweep_13 : decode c_Q_sweep 13 = .ok (.invokestatic 43, 3) := by decide +kernel
theorem d_Q_sweep_16 : decode c_Q_sweep 16 = .ok (.ifCond .eq 35, 3) := by decide +kernel
theorem d_Q_sweep_19 : decode c_Q_sweep 19 = .ok (.iconst 0, 1) := by decide +kernel
theorem d_Q_sweep_20 : decode c_Q_sweep 20 = .ok (.istore_n 2, 1) := by decide +kernel
theorem d_Q_sweep_21 : decode c_Q_sweep 21 = .ok (.iload_n 2, 1) := by decide +kernel
theorem d_Q_sweep_22 : decode c_Q_sweep 22 = .ok (.aload_n 0, 1) := by decide +kernel
theorem d_Q_sweep_23 : decode c_Q_sweep 23 = .ok (.getfield 9, 3) := by decide +kernel
theorem d_Q_sweep_26 : decode c_Q_sweep 26 = .ok (.getfield 47, 3) := by decide +kernel
theorem d_Q_sweep_29 : decode c_Q_sweep 29 = .ok (.iload_n 1, 1) := by decide +kernel
theorem d_Q_sweep_30 : decode c_Q_sweep 30 = .ok (.iaload, 1) := by decide +kernel
theorem d_Q_sweep_31 : decode c_Q_sweep 31 = .ok (.if_icmp .ge 20, 3) := by decide +kernel
theorem d_Q_sweep_34 : decode c_Q_sweep 34 = .ok (.aload_n 0, 1) := by decide +kernel
theorem d_Q_sweep_35 : decode c_Q_sweep 35 = .ok (.iload_n 1, 1) := by decide +kernel
theorem d_Q_sweep_36 : decode c_Q_sweep 36 = .ok (.iload_n 1, 1) := by decide +kernel
theorem d_Q_sweep_37 : decode c_Q_sweep 37 = .ok (.bipush 13, 2) := by decide +kernel
theorem d_Q_sweep_39 : decode c_Q_sweep 39 = .ok (.imul, 1) := by decide +kernel
theorem d_Q_sweep_40 : decode c_Q_sweep 40 = .ok (.iload_n 2, 1) := by decide +kernel
theorem d_Q_sweep_41 : decode c_Q_sweep 41 = .ok (.iadd, 1) := by decide +kernel
theorem d_Q_sweep_42 : decode c_Q_sweep 42 = .ok (.invokevirtual 52, 3) := by decide +kernel
theorem d_Q_sweep_45 : decode c_Q_sweep 45 = .ok (.iinc 2 1, 3) := by decide +kernel
theorem d_Q_sweep_48 : decode c_Q_sweep 48 = .ok (.goto (-27), 3) := by decide +kernel
theorem d_Q_sweep_51 : decode c_Q_sweep 51 = .ok (.iinc 1 1, 3) := by decide +kernel
theorem d_Q_sweep_54 : decode c_Q_sweep 54 = .ok (.goto (-52), 3) := by decide +kernel
theorem d_Q_sweep_57 : decode c_Q_sweep 57 = .ok (.return_, 1) := by decide +kernel
theorem d_Q_workOut_0 : decode c_Q_workOut 0 = .ok (.aload_n 0, 1) := by decide +kernel
theorem d_Q_workOut_1 : decode c_Q_workOut 1 = .ok (.getfield 15, 3) := by decide +kernel
theorem d_Q_workOut_4 : decode c_Q_workOut 4 = .ok (.iconst 0, 1) := by decide +kernel
theorem d_Q_workOut_5 : decode c_Q_workOut 5 = .ok (.invokestatic 25, 3) := by decide +kernel
theorem d_Q_workOut_8 : decode c_Q_workOut 8 = .ok (.aload_n 0, 1) := by decide +kernel
theorem d_Q_workOut_9 : decode c_Q_workOut 9 = .ok (.getfield 19, 3) := by decide +kernel
theorem d_Q_workOut_12 : decode c_Q_workOut 12 = .ok (.iconst 0, 1) := by decide +kernel
theorem d_Q_workOut_13 : decode c_Q_workOut 13 = .ok (.invokestatic 25, 3) := by decide +kernel
theorem d_Q_workOut_16 : decode c_Q_workOut 16 = .ok (.aload_n 0, 1) := by decide +kernel
theorem d_Q_workOut_17 : decode c_Q_workOut 17 = .ok (.getfield 22, 3) := by decide +kernel
theorem d_Q_workOut_20 : decode c_Q_workOut 20 = .ok (.iconst 0, 1) := by decide +kernel
theorem d_Q_workOut_21 : decode c_Q_workOut 21 = .ok (.invokestatic 25, 3) := by decide +kernel
theorem d_Q_workOut_24 : decode c_Q_workOut 24 = .ok (.aload_n 0, 1) := by decide +kernel
theorem d_Q_workOut_25 : decode c_Q_workOut 25 = .ok (.iconst 1, 1) := by decide +kernel
theorem d_Q_workOut_26 : decode c_Q_workOut 26 = .ok (.putfield 31, 3) := by decide +kernel
theorem d_Q_workOut_29 : decode c_Q_workOut 29 = .ok (.aload_n 0, 1) := by decide +kernel
theorem d_Q_workOut_30 : decode c_Q_workOut 30 = .ok (.iconst 1, 1) := by decide +kernel
theorem d_Q_workOut_31 : decode c_Q_workOut 31 = .ok (.putfield 35, 3) := by decide +kernel
theorem d_Q_workOut_34 : decode c_Q_workOut 34 = .ok (.iconst 0, 1) := by decide +kernel
theorem d_Q_workOut_35 : decode c_Q_workOut 35 = .ok (.istore_n 1, 1) := by decide +kernel
theorem d_Q_workOut_36 : decode c_Q_workOut 36 = .ok (.aload_n 0, 1) := by decide +kernel
theorem d_Q_workOut_37 : decode c_Q_workOut 37 = .ok (.getfield 35, 3) := by decide +kernel
theorem d_Q_workOut_40 : decode c_Q_workOut 40 = .ok (.ifCond .eq 24, 3) := by decide +kernel
theorem d_Q_workOut_43 : decode c_Q_workOut 43 = .ok (.iload_n 1, 1) := by decide +kernel
theorem d_Q_workOut_44 : decode c_Q_workOut 44 = .ok (.ldc 39, 2) := by decide +kernel
theorem d_Q_workOut_46 : decode c_Q_workOut 46 = .ok (.if_icmp .ge 18, 3) := by decide +kernel
theorem d_Q_workOut_49 : decode c_Q_workOut 49 = .ok (.aload_n 0, 1) := by decide +kernel
theorem d_Q_workOut_50 : decode c_Q_workOut 50 = .ok (.iconst 0, 1) := by decide +kernel
theorem d_Q_workOut_51 : decode c_Q_workOut 51 = .ok (.putfield 35, 3) := by decide +kernel
theorem d_Q_workOut_54 : decode c_Q_workOut 54 = .ok (.aload_n 0, 1) := by decide +kernel
theorem d_Q_workOut_55 : decode c_Q_workOut 55 = .ok (.invokevirtual 40, 3) := by decide +kernel
theorem d_Q_workOut_58 : decode c_Q_workOut 58 = .ok (.iinc 1 1, 3) := by decide +kernel
theorem d_Q_workOut_61 : decode c_Q_workOut 61 = .ok (.goto (-25), 3) := by decide +kernel
theorem d_Q_workOut_64 : decode c_Q_workOut 64 = .ok (.return_, 1) := by decide +kernel
theorem d_F_clear_0 : decode c_F_clear 0 = .ok (.aload_n 0, 1) := by decide +kernel
theorem d_F_clear_1 : decode c_F_clear 1 = .ok (.getfield 19, 3) := by decide +kernel
theorem d_F_clear_4 : decode c_F_clear 4 = .ok (.iconst 0, 1) := by decide +kernel
theorem d_F_clear_5 : decode c_F_clear 5 = .ok (.invokestatic 44, 3) := by decide +kernel
theorem d_F_clear_8 : decode c_F_clear 8 = .ok (.aload_n 0, 1) := by decide +kernel
theorem d_F_clear_9 : decode c_F_clear 9 = .ok (.getfield 23, 3) := by decide +kernel
theorem d_F_clear_12 : decode c_F_clear 12 = .ok (.iconst 0, 1) := by decide +kernel
theorem d_F_clear_13 : decode c_F_clear 13 = .ok (.invokestatic 44, 3) := by decide +kernel
theorem d_F_clear_16 : decode c_F_clear 16 = .ok (.aload_n 0, 1) := by decide +kernel
theorem d_F_clear_17 : decode c_F_clear 17 = .ok (.getfield 26, 3) := by decide +kernel
theorem d_F_clear_20 : decode c_F_clear 20 = .ok (.iconst 0, 1) := by decide +kernel
theorem d_F_clear_21 : decode c_F_clear 21 = .ok (.invokestatic 44, 3) := by decide +kernel
theorem d_F_clear_24 : decode c_F_clear 24 = .ok (.aload_n 0, 1) := by decide +kernel
theorem d_F_clear_25 : decode c_F_clear 25 = .ok (.getfield 29, 3) := by decide +kernel
theorem d_F_clear_28 : decode c_F_clear 28 = .ok (.iconst 0, 1) := by decide +kernel
theorem d_F_clear_29 : decode c_F_clear 29 = .ok (.invokestatic 44, 3) := by decide +kernel
theorem d_F_clear_32 : decode c_F_clear 32 = .ok (.iconst 0, 1) := by decide +kernel
theorem d_F_clear_33 : decode c_F_clear 33 = .ok (.istore_n 1, 1) := by decide +kernel
theorem d_F_clear_34 : decode c_F_clear 34 = .ok (.iload_n 1, 1) := by decide +kernel
theorem d_F_clear_35 : decode c_F_clear 35 = .ok (.bipush 6, 2) := by decide +kernel
theorem d_F_clear_37 : decode c_F_clear 37 = .ok (.if_icmp .ge 39, 3) := by decide +kernel
theorem d_F_clear_40 : decode c_F_clear 40 = .ok (.iconst 0, 1) := by decide +kernel
theorem d_F_clear_41 : decode c_F_clear 41 = .ok (.istore_n 2, 1) := by decide +kernel
theorem d_F_clear_42 : decode c_F_clear 42 = .ok (.iload_n 2, 1) := by decide +kernel
theorem d_F_clear_43 : decode c_F_clear 43 = .ok (.iconst 4, 1) := by decide +kernel
theorem d_F_clear_44 : decode c_F_clear 44 = .ok (.if_icmp .ge 26, 3) := by decide +kernel
theorem d_F_clear_47 : decode c_F_clear 47 = .ok (.aload_n 0, 1) := by decide +kernel
theorem d_F_clear_48 : decode c_F_clear 48 = .ok (.getfield 26, 3) := by decide +kernel
theorem d_F_clear_51 : decode c_F_clear 51 = .ok (.iload_n 1, 1) := by decide +kernel
theorem d_F_clear_52 : decode c_F_clear 52 = .ok (.bipush 20, 2) := by decide +kernel
theorem d_F_clear_54 : decode c_F_clear 54 = .ok (.imul, 1) := by decide +kernel
theorem d_F_clear_55 : decode c_F_clear 55 = .ok (.bipush 16, 2) := by decide +kernel
theorem d_F_clear_57 : decode c_F_clear 57 = .ok (.iadd, 1) := by decide +kernel
theorem d_F_clear_58 : decode c_F_clear 58 = .ok (.iload_n 2, 1) := by decide +kernel
theorem d_F_clear_59 : decode c_F_clear 59 = .ok (.iadd, 1) := by decide +kernel
theorem d_F_clear_60 : decode c_F_clear 60 = .ok (.iconst 1, 1) := by decide +kernel
theorem d_F_clear_61 : decode c_F_clear 61 = .ok (.iload_n 2, 1) := by decide +kernel
theorem d_F_clear_62 : decode c_F_clear 62 = .ok (.ishl, 1) := by decide +kernel
theorem d_F_clear_63 : decode c_F_clear 63 = .ok (.iastore, 1) := by decide +kernel
theorem d_F_clear_64 : decode c_F_clear 64 = .ok (.iinc 2 1, 3) := by decide +kernel
theorem d_F_clear_67 : decode c_F_clear 67 = .ok (.goto (-25), 3) := by decide +kernel
theorem d_F_clear_70 : decode c_F_clear 70 = .ok (.iinc 1 1, 3) := by decide +kernel
theorem d_F_clear_73 : decode c_F_clear 73 = .ok (.goto (-39), 3) := by decide +kernel
theorem d_F_clear_76 : decode c_F_clear 76 = .ok (.return_, 1) := by decide +kernel
theorem d_F_growZero_0 : decode c_F_growZero 0 = .ok (.aload_n 0, 1) := by decide +kernel
theorem d_F_growZero_1 : decode c_F_growZero 1 = .ok (.getfield 29, 3) := by decide +kernel
theorem d_F_growZero_4 : decode c_F_growZero 4 = .ok (.iload_n 1, 1) := by decide +kernel
theorem d_F_growZero_5 : decode c_F_growZero 5 = .ok (.iaload, 1) := by decide +kernel
theorem d_F_growZero_6 : decode c_F_growZero 6 = .ok (.iload_n 2, 1) := by decide +kernel
theorem d_F_growZero_7 : decode c_F_growZero 7 = .ok (.invokestatic 55, 3) := by decide +kernel
theorem d_F_growZero_10 : decode c_F_growZero 10 = .ok (.ifCond .ne 20, 3) := by decide +kernel
theorem d_F_growZero_13 : decode c_F_growZero 13 = .ok (.aload_n 0, 1) := by decide +kernel
theorem d_F_growZero_14 : decode c_F_growZero 14 = .ok (.getfield 29, 3) := by decide +kernel
theorem d_F_growZero_17 : decode c_F_growZero 17 = .ok (.iload_n 1, 1) := by decide +kernel
theorem d_F_growZero_18 : decode c_F_growZero 18 = .ok (.dup2, 1) := by decide +kernel
theorem d_F_growZero_19 : decode c_F_growZero 19 = .ok (.iaload, 1) := by decide +kernel
theorem d_F_growZero_20 : decode c_F_growZero 20 = .ok (.iconst 1, 1) := by decide +kernel
theorem d_F_growZero_21 : decode c_F_growZero 21 = .ok (.iload_n 2, 1) := by decide +kernel
theorem d_F_growZero_22 : decode c_F_growZero 22 = .ok (.ishl, 1) := by decide +kernel
theorem d_F_growZero_23 : decode c_F_growZero 23 = .ok (.ior, 1) := by decide +kernel
theorem d_F_growZero_24 : decode c_F_growZero 24 = .ok (.iastore, 1) := by decide +kernel
theorem d_F_growZero_25 : decode c_F_growZero 25 = .ok (.aload_n 0, 1) := by decide +kernel
theorem d_F_growZero_26 : decode c_F_growZero 26 = .ok (.iconst 1, 1) := by decide +kernel
theorem d_F_growZero_27 : decode c_F_growZero 27 = .ok (.putfield 35, 3) := by decide +kernel
theorem d_F_growZero_30 : decode c_F_growZero 30 = .ok (.return_, 1) := by decide +kernel
theorem d_P_jumpSpot_0 : decode c_P_jumpSpot 0 = .ok (.iload_n 1, 1) := by decide +kernel
theorem d_P_jumpSpot_1 : decode c_P_jumpSpot 1 = .ok (.bipush 13, 2) := by decide +kernel
theorem d_P_jumpSpot_3 : decode c_P_jumpSpot 3 = .ok (.imul, 1) := by decide +kernel
theorem d_P_jumpSpot_4 : decode c_P_jumpSpot 4 = .ok (.aload_n 0, 1) := by decide +kernel
theorem d_P_jumpSpot_5 : decode c_P_jumpSpot 5 = .ok (.getfield 15, 3) := by decide +kernel
theorem d_P_jumpSpot_8 : decode c_P_jumpSpot 8 = .ok (.iload_n 2, 1) := by decide +kernel
theorem d_P_jumpSpot_9 : decode c_P_jumpSpot 9 = .ok (.iaload, 1) := by decide +kernel
theorem d_P_jumpSpot_10 : decode c_P_jumpSpot 10 = .ok (.aload_n 0, 1) := by decide +kernel
theorem d_P_jumpSpot_11 : decode c_P_jumpSpot 11 = .ok (.getfield 27, 3) := by decide +kernel
theorem d_P_jumpSpot_14 : decode c_P_jumpSpot 14 = .ok (.iload_n 1, 1) := by decide +kernel
theorem d_P_jumpSpot_15 : decode c_P_jumpSpot 15 = .ok (.iaload, 1) := by decide +kernel
theorem d_P_jumpSpot_16 : decode c_P_jumpSpot 16 = .ok (.invokestatic 65, 3) := by decide +kernel
theorem d_P_jumpSpot_19 : decode c_P_jumpSpot 19 = .ok (.iadd, 1) := by decide +kernel
theorem d_P_jumpSpot_20 : decode c_P_jumpSpot 20 = .ok (.ireturn, 1) := by decide +kernel
theorem d_F_growHeld_0 : decode c_F_growHeld 0 = .ok (.iload_n 1, 1) := by decide +kernel
theorem d_F_growHeld_1 : decode c_F_growHeld 1 = .ok (.bipush 20, 2) := by decide +kernel
theorem d_F_growHeld_3 : decode c_F_growHeld 3 = .ok (.imul, 1) := by decide +kernel
theorem d_F_growHeld_4 : decode c_F_growHeld 4 = .ok (.iload_n 2, 1) := by decide +kernel
theorem d_F_growHeld_5 : decode c_F_growHeld 5 = .ok (.iadd, 1) := by decide +kernel
theorem d_F_growHeld_6 : decode c_F_growHeld 6 = .ok (.istore 4, 2) := by decide +kernel
theorem d_F_growHeld_8 : decode c_F_growHeld 8 = .ok (.iload_n 3, 1) := by decide +kernel
theorem d_F_growHeld_9 : decode c_F_growHeld 9 = .ok (.aload_n 0, 1) := by decide +kernel
theorem d_F_growHeld_10 : decode c_F_growHeld 10 = .ok (.getfield 19, 3) := by decide +kernel
theorem d_F_growHeld_13 : decode c_F_growHeld 13 = .ok (.iload 4, 2) := by decide +kernel
theorem d_F_growHeld_15 : decode c_F_growHeld 15 = .ok (.iaload, 1) := by decide +kernel
theorem d_F_growHeld_16 : decode c_F_growHeld 16 = .ok (.iconst (-1), 1) := by decide +kernel
theorem d_F_growHeld_17 : decode c_F_growHeld 17 = .ok (.ixor, 1) := by decide +kernel
theorem d_F_growHeld_18 : decode c_F_growHeld 18 = .ok (.iand, 1) := by decide +kernel
theorem d_F_growHeld_19 : decode c_F_growHeld 19 = .ok (.ifCond .eq 19, 3) := by decide +kernel
theorem d_F_growHeld_22 : decode c_F_growHeld 22 = .ok (.aload_n 0, 1) := by decide +kernel
theorem d_F_growHeld_23 : decode c_F_growHeld 23 = .ok (.getfield 19, 3) := by decide +kernel
theorem d_F_growHeld_26 : decode c_F_growHeld 26 = .ok (.iload 4, 2) := by decide +kernel
theorem d_F_growHeld_28 : decode c_F_growHeld 28 = .ok (.dup2, 1) := by decide +kernel
theorem d_F_growHeld_29 : decode c_F_growHeld 29 = .ok (.iaload, 1) := by decide +kernel
theorem d_F_growHeld_30 : decode c_F_growHeld 30 = .ok (.iload_n 3, 1) := by decide +kernel
theorem d_F_growHeld_31 : decode c_F_growHeld 31 = .ok (.ior, 1) := by decide +kernel
theorem d_F_growHeld_32 : decode c_F_growHeld 32 = .ok (.iastore, 1) := by decide +kernel
theorem d_F_growHeld_33 : decode c_F_growHeld 33 = .ok (.aload_n 0, 1) := by decide +kernel
theorem d_F_growHeld_34 : decode c_F_growHeld 34 = .ok (.iconst 1, 1) := by decide +kernel
theorem d_F_growHeld_35 : decode c_F_growHeld 35 = .ok (.putfield 35, 3) := by decide +kernel
theorem d_F_growHeld_38 : decode c_F_growHeld 38 = .ok (.return_, 1) := by decide +kernel
theorem d_F_comeBack_0 : decode c_F_comeBack 0 = .ok (.iload_n 3, 1) := by decide +kernel
theorem d_F_comeBack_1 : decode c_F_comeBack 1 = .ok (.iconst 1, 1) := by decide +kernel
theorem d_F_comeBack_2 : decode c_F_comeBack 2 = .ok (.iand, 1) := by decide +kernel
theorem d_F_comeBack_3 : decode c_F_comeBack 3 = .ok (.ifCond .eq 17, 3) := by decide +kernel
theorem d_F_comeBack_6 : decode c_F_comeBack 6 = .ok (.iconst 1, 1) := by decide +kernel
theorem d_F_comeBack_7 : decode c_F_comeBack 7 = .ok (.aload_n 0, 1) := by decide +kernel
theorem d_F_comeBack_8 : decode c_F_comeBack 8 = .ok (.getfield 11, 3) := by decide +kernel
theorem d_F_comeBack_11 : decode c_F_comeBack 11 = .ok (.getfield 88, 3) := by decide +kernel
theorem d_F_comeBack_14 : decode c_F_comeBack 14 = .ok (.iload_n 1, 1) := by decide +kernel
theorem d_F_comeBack_15 : decode c_F_comeBack 15 = .ok (.iaload, 1) := by decide +kernel
theorem d_F_comeBack_16 : decode c_F_comeBack 16 = .ok (.ishl, 1) := by decide +kernel
theorem d_F_comeBack_17 : decode c_F_comeBack 17 = .ok (.goto 4, 3) := by decide +kernel
theorem d_F_comeBack_20 : decode c_F_comeBack 20 = .ok (.iconst 0, 1) := by decide +kernel
theorem d_F_comeBack_21 : decode c_F_comeBack 21 = .ok (.istore 4, 2) := by decide +kernel
theorem d_F_comeBack_23 : decode c_F_comeBack 23 = .ok (.aload_n 0, 1) := by decide +kernel
theorem d_F_comeBack_24 : decode c_F_comeBack 24 = .ok (.iload_n 1, 1) := by decide +kernel
theorem d_F_comeBack_25 : decode c_F_comeBack 25 = .ok (.iconst 1, 1) := by decide +kernel
theorem d_F_comeBack_26 : decode c_F_comeBack 26 = .ok (.iadd, 1) := by decide +kernel
theorem d_F_comeBack_27 : decode c_F_comeBack 27 = .ok (.iload_n 2, 1) := by decide +kernel
theorem d_F_comeBack_28 : decode c_F_comeBack 28 = .ok (.iload_n 3, 1) := by decide +kernel
theorem d_F_comeBack_29 : decode c_F_comeBack 29 = .ok (.ldc 70, 2) := by decide +kernel
theorem d_F_comeBack_31 : decode c_F_comeBack 31 = .ok (.iand, 1) := by decide +kernel
theorem d_F_comeBack_32 : decode c_F_comeBack 32 = .ok (.iload 4, 2) := by decide +kernel
theorem d_F_comeBack_34 : decode c_F_comeBack 34 = .ok (.ior, 1) := by decide +kernel
theorem d_F_comeBack_35 : decode c_F_comeBack 35 = .ok (.invokevirtual 91, 3) := by decide +kernel
theorem d_F_comeBack_38 : decode c_F_comeBack 38 = .ok (.return_, 1) := by decide +kernel
theorem d_F_callZero_0 : decode c_F_callZero 0 = .ok (.iconst 0, 1) := by decide +kernel
theorem d_F_callZero_1 : decode c_F_callZero 1 = .ok (.istore_n 2, 1) := by decide +kernel
theorem d_F_callZero_2 : decode c_F_callZero 2 = .ok (.iload_n 2, 1) := by decide +kernel
theorem d_F_callZero_3 : decode c_F_callZero 3 = .ok (.bipush 6, 2) := by decide +kernel
theorem d_F_callZero_5 : decode c_F_callZero 5 = .ok (.if_icmp .ge 63, 3) := by decide +kernel
theorem d_F_callZero_8 : decode c_F_callZero 8 = .ok (.aload_n 0, 1) := by decide +kernel
theorem d_F_callZero_9 : decode c_F_callZero 9 = .ok (.getfield 15, 3) := by decide +kernel
theorem d_F_callZero_12 : decode c_F_callZero 12 = .ok (.getfield 97, 3) := by decide +kernel
theorem d_F_callZero_15 : decode c_F_callZero 15 = .ok (.iload_n 1, 1) := by decide +kernel
theorem d_F_callZero_16 : decode c_F_callZero 16 = .ok (.iaload, 1) := by decide +kernel
theorem d_F_callZero_17 : decode c_F_callZero 17 = .ok (.iload_n 2, 1) := by decide +kernel
theorem d_F_callZero_18 : decode c_F_callZero 18 = .ok (.invokestatic 55, 3) := by decide +kernel
theorem d_F_callZero_21 : decode c_F_callZero 21 = .ok (.ifCond .eq 41, 3) := by decide +kernel
theorem d_F_callZero_24 : decode c_F_callZero 24 = .ok (.aload_n 0, 1) := by decide +kernel
theorem d_F_callZero_25 : decode c_F_callZero 25 = .ok (.iload_n 2, 1) := by decide +kernel
theorem d_F_callZero_26 : decode c_F_callZero 26 = .ok (.iconst 0, 1) := by decide +kernel
theorem d_F_callZero_27 : decode c_F_callZero 27 = .ok (.invokevirtual 78, 3) := by decide +kernel
theorem d_F_callZero_30 : decode c_F_callZero 30 = .ok (.bipush 16, 2) := by decide +kernel
theorem d_F_callZero_32 : decode c_F_callZero 32 = .ok (.istore_n 3, 1) := by decide +kernel
theorem d_F_callZero_33 : decode c_F_callZero 33 = .ok (.iload_n 3, 1) := by decide +kernel
theorem d_F_callZero_34 : decode c_F_callZero 34 = .ok (.bipush 20, 2) := by decide +kernel
theorem d_F_callZero_36 : decode c_F_callZero 36 = .ok (.if_icmp .ge 26, 3) := by decide +kernel
theorem d_F_callZero_39 : decode c_F_callZero 39 = .ok (.aload_n 0, 1) := by decide +kernel
theorem d_F_callZero_40 : decode c_F_callZero 40 = .ok (.iload_n 1, 1) := by decide +kernel
theorem d_F_callZero_41 : decode c_F_callZero 41 = .ok (.iload_n 3, 1) := by decide +kernel
theorem d_F_callZero_42 : decode c_F_callZero 42 = .ok (.aload_n 0, 1) := by decide +kernel
theorem d_F_callZero_43 : decode c_F_callZero 43 = .ok (.getfield 23, 3) := by decide +kernel
theorem d_F_callZero_46 : decode c_F_callZero 46 = .ok (.iload_n 2, 1) := by decide +kernel
theorem d_F_callZero_47 : decode c_F_callZero 47 = .ok (.bipush 20, 2) := by decide +kernel
theorem d_F_callZero_49 : decode c_F_callZero 49 = .ok (.imul, 1) := by decide +kernel
theorem d_F_callZero_50 : decode c_F_callZero 50 = .ok (.iload_n 3, 1) := by decide +kernel
theorem d_F_callZero_51 : decode c_F_callZero 51 = .ok (.iadd, 1) := by decide +kernel
theorem d_F_callZero_52 : decode c_F_callZero 52 = .ok (.iaload, 1) := by decide +kernel
theorem d_F_callZero_53 : decode c_F_callZero 53 = .ok (.invokevirtual 102, 3) := by decide +kernel
theorem d_F_callZero_56 : decode c_F_callZero 56 = .ok (.iinc 3 1, 3) := by decide +kernel
theorem d_F_callZero_59 : decode c_F_callZero 59 = .ok (.goto (-26), 3) := by decide +kernel
theorem d_F_callZero_62 : decode c_F_callZero 62 = .ok (.iinc 2 1, 3) := by decide +kernel
theorem d_F_callZero_65 : decode c_F_callZero 65 = .ok (.goto (-63), 3) := by decide +kernel
theorem d_F_callZero_68 : decode c_F_callZero 68 = .ok (.return_, 1) := by decide +kernel
theorem d_F_passZero_0 : decode c_F_passZero 0 = .ok (.iload_n 1, 1) := by decide +kernel
theorem d_F_passZero_1 : decode c_F_passZero 1 = .ok (.bipush 13, 2) := by decide +kernel
theorem d_F_passZero_3 : decode c_F_passZero 3 = .ok (.imul, 1) := by decide +kernel
theorem d_F_passZero_4 : decode c_F_passZero 4 = .ok (.iload_n 2, 1) := by decide +kernel
theorem d_F_passZero_5 : decode c_F_passZero 5 = .ok (.iadd, 1) := by decide +kernel
theorem d_F_passZero_6 : decode c_F_passZero 6 = .ok (.istore_n 3, 1) := by decide +kernel
theorem d_F_passZero_7 : decode c_F_passZero 7 = .ok (.aload_n 0, 1) := by decide +kernel
theorem d_F_passZero_8 : decode c_F_passZero 8 = .ok (.getfield 11, 3) := by decide +kernel
theorem d_F_passZero_11 : decode c_F_passZero 11 = .ok (.getfield 75, 3) := by decide +kernel
theorem d_F_passZero_14 : decode c_F_passZero 14 = .ok (.iload_n 3, 1) := by decide +kernel
theorem d_F_passZero_15 : decode c_F_passZero 15 = .ok (.iaload, 1) := by decide +kernel
theorem d_F_passZero_16 : decode c_F_passZero 16 = .ok (.istore 4, 2) := by decide +kernel
theorem d_F_passZero_18 : decode c_F_passZero 18 = .ok (.iload 4, 2) := by decide +kernel
theorem d_F_passZero_20 : decode c_F_passZero 20 = .ok (.bipush 10, 2) := by decide +kernel
theorem d_F_passZero_22 : decode c_F_passZero 22 = .ok (.if_icmp .ne 4, 3) := by decide +kernel
theorem d_F_passZero_25 : decode c_F_passZero 25 = .ok (.return_, 1) := by decide +kernel
theorem d_F_passZero_26 : decode c_F_passZero 26 = .ok (.iload 4, 2) := by decide +kernel
theorem d_F_passZero_28 : decode c_F_passZero 28 = .ok (.bipush 9, 2) := by decide +kernel
theorem d_F_passZero_30 : decode c_F_passZero 30 = .ok (.if_icmp .eq 11, 3) := by decide +kernel
theorem d_F_passZero_33 : decode c_F_passZero 33 = .ok (.aload_n 0, 1) := by decide +kernel
theorem d_F_passZero_34 : decode c_F_passZero 34 = .ok (.iload_n 1, 1) := by decide +kernel
theorem d_F_passZero_35 : decode c_F_passZero 35 = .ok (.iload_n 2, 1) := by decide +kernel
theorem d_F_passZero_36 : decode c_F_passZero 36 = .ok (.iconst 1, 1) := by decide +kernel
theorem d_F_passZero_37 : decode c_F_passZero 37 = .ok (.iadd, 1) := by decide +kernel
theorem d_F_passZero_38 : decode c_F_passZero 38 = .ok (.invokevirtual 78, 3) := by decide +kernel
theorem d_F_passZero_41 : decode c_F_passZero 41 = .ok (.iload 4, 2) := by decide +kernel
theorem d_F_passZero_43 : decode c_F_passZero 43 = .ok (.bipush 9, 2) := by decide +kernel
theorem d_F_passZero_45 : decode c_F_passZero 45 = .ok (.if_icmp .eq 10, 3) := by decide +kernel
theorem d_F_passZero_48 : decode c_F_passZero 48 = .ok (.iload 4, 2) := by decide +kernel
theorem d_F_passZero_50 : decode c_F_passZero 50 = .ok (.bipush 8, 2) := by decide +kernel
theorem d_F_passZero_52 : decode c_F_passZero 52 = .ok (.if_icmp .ne 22, 3) := by decide +kernel
theorem d_F_passZero_55 : decode c_F_passZero 55 = .ok (.aload_n 0, 1) := by decide +kernel
theorem d_F_passZero_56 : decode c_F_passZero 56 = .ok (.iload_n 1, 1) := by decide +kernel
theorem d_F_passZero_57 : decode c_F_passZero 57 = .ok (.aload_n 0, 1) := by decide +kernel
theorem d_F_passZero_58 : decode c_F_passZero 58 = .ok (.getfield 11, 3) := by decide +kernel
theorem d_F_passZero_61 : decode c_F_passZero 61 = .ok (.iload_n 1, 1) := by decide +kernel
theorem d_F_passZero_62 : decode c_F_passZero 62 = .ok (.iload_n 3, 1) := by decide +kernel
theorem d_F_passZero_63 : decode c_F_passZero 63 = .ok (.invokevirtual 81, 3) := by decide +kernel
theorem d_F_passZero_66 : decode c_F_passZero 66 = .ok (.iload_n 1, 1) := by decide +kernel
theorem d_F_passZero_67 : decode c_F_passZero 67 = .ok (.bipush 13, 2) := by decide +kernel
theorem d_F_passZero_69 : decode c_F_passZero 69 = .ok (.imul, 1) := by decide +kernel
theorem d_F_passZero_70 : decode c_F_passZero 70 = .ok (.isub, 1) := by decide +kernel
theorem d_F_passZero_71 : decode c_F_passZero 71 = .ok (.invokevirtual 78, 3) := by decide +kernel
theorem d_F_passZero_74 : decode c_F_passZero 74 = .ok (.iload 4, 2) := by decide +kernel
theorem d_F_passZero_76 : decode c_F_passZero 76 = .ok (.iconst 1, 1) := by decide +kernel
theorem d_F_passZero_77 : decode c_F_passZero 77 = .ok (.if_icmp .ne 33, 3) := by decide +kernel
theorem d_F_passZero_80 : decode c_F_passZero 80 = .ok (.aload_n 0, 1) := by decide +kernel
theorem d_F_passZero_81 : decode c_F_passZero 81 = .ok (.iload_n 3, 1) := by decide +kernel
theorem d_F_passZero_82 : decode c_F_passZero 82 = .ok (.iconst 1, 1) := by decide +kernel
theorem d_F_passZero_83 : decode c_F_passZero 83 = .ok (.iadd, 1) := by decide +kernel
theorem d_F_passZero_84 : decode c_F_passZero 84 = .ok (.bipush 16, 2) := by decide +kernel
theorem d_F_passZero_86 : decode c_F_passZero 86 = .ok (.aload_n 0, 1) := by decide +kernel
theorem d_F_passZero_87 : decode c_F_passZero 87 = .ok (.getfield 11, 3) := by decide +kernel
theorem d_F_passZero_90 : decode c_F_passZero 90 = .ok (.getfield 85, 3) := by decide +kernel
theorem d_F_passZero_93 : decode c_F_passZero 93 = .ok (.iload_n 3, 1) := by decide +kernel
theorem d_F_passZero_94 : decode c_F_passZero 94 = .ok (.iaload, 1) := by decide +kernel
theorem d_F_passZero_95 : decode c_F_passZero 95 = .ok (.iadd, 1) := by decide +kernel
theorem d_F_passZero_96 : decode c_F_passZero 96 = .ok (.iconst 1, 1) := by decide +kernel
theorem d_F_passZero_97 : decode c_F_passZero 97 = .ok (.aload_n 0, 1) := by decide +kernel
theorem d_F_passZero_98 : decode c_F_passZero 98 = .ok (.getfield 11, 3) := by decide +kernel
theorem d_F_passZero_101 : decode c_F_passZero 101 = .ok (.getfield 88, 3) := by decide +kernel
theorem d_F_passZero_104 : decode c_F_passZero 104 = .ok (.iload_n 3, 1) := by decide +kernel
theorem d_F_passZero_105 : decode c_F_passZero 105 = .ok (.iaload, 1) := by decide +kernel
theorem d_F_passZero_106 : decode c_F_passZero 106 = .ok (.ishl, 1) := by decide +kernel
theorem d_F_passZero_107 : decode c_F_passZero 107 = .ok (.invokevirtual 91, 3) := by decide +kernel
theorem d_F_passZero_110 : decode c_F_passZero 110 = .ok (.iload 4, 2) := by decide +kernel
theorem d_F_passZero_112 : decode c_F_passZero 112 = .ok (.bipush 7, 2) := by decide +kernel
theorem d_F_passZero_114 : decode c_F_passZero 114 = .ok (.if_icmp .ne 8, 3) := by decide +kernel
theorem d_F_passZero_117 : decode c_F_passZero 117 = .ok (.aload_n 0, 1) := by decide +kernel
theorem d_F_passZero_118 : decode c_F_passZero 118 = .ok (.iload_n 3, 1) := by decide +kernel
theorem d_F_passZero_119 : decode c_F_passZero 119 = .ok (.invokevirtual 94, 3) := by decide +kernel
theorem d_F_passZero_122 : decode c_F_passZero 122 = .ok (.return_, 1) := by decide +kernel
theorem d_F_enter_0 : decode c_F_enter 0 = .ok (.iconst 0, 1) := by decide +kernel
theorem d_F_enter_1 : decode c_F_enter 1 = .ok (.istore 4, 2) := by decide +kernel
theorem d_F_enter_3 : decode c_F_enter 3 = .ok (.iload 4, 2) := by decide +kernel
theorem d_F_enter_5 : decode c_F_enter 5 = .ok (.bipush 16, 2) := by decide +kernel
theorem d_F_enter_7 : decode c_F_enter 7 = .ok (.if_icmp .ge 79, 3) := by decide +kernel
theorem d_F_enter_10 : decode c_F_enter 10 = .ok (.iload_n 1, 1) := by decide +kernel
theorem d_F_enter_11 : decode c_F_enter 11 = .ok (.bipush 20, 2) := by decide +kernel
theorem d_F_enter_13 : decode c_F_enter 13 = .ok (.imul, 1) := by decide +kernel
theorem d_F_enter_14 : decode c_F_enter 14 = .ok (.iload 4, 2) := by decide +kernel
theorem d_F_enter_16 : decode c_F_enter 16 = .ok (.iadd, 1) := by decide +kernel
theorem d_F_enter_17 : decode c_F_enter 17 = .ok (.istore 5, 2) := by decide +kernel
theorem d_F_enter_19 : decode c_F_enter 19 = .ok (.iload_n 2, 1) := by decide +kernel
theorem d_F_enter_20 : decode c_F_enter 20 = .ok (.iload 4, 2) := by decide +kernel
theorem d_F_enter_22 : decode c_F_enter 22 = .ok (.invokestatic 55, 3) := by decide +kernel
theorem d_F_enter_25 : decode c_F_enter 25 = .ok (.ifCond .eq 55, 3) := by decide +kernel
theorem d_F_enter_28 : decode c_F_enter 28 = .ok (.iload_n 3, 1) := by decide +kernel
theorem d_F_enter_29 : decode c_F_enter 29 = .ok (.aload_n 0, 1) := by decide +kernel
theorem d_F_enter_30 : decode c_F_enter 30 = .ok (.getfield 26, 3) := by decide +kernel
theorem d_F_enter_33 : decode c_F_enter 33 = .ok (.iload 5, 2) := by decide +kernel
theorem d_F_enter_35 : decode c_F_enter 35 = .ok (.iaload, 1) := by decide +kernel
theorem d_F_enter_36 : decode c_F_enter 36 = .ok (.iconst (-1), 1) := by decide +kernel
theorem d_F_enter_37 : decode c_F_enter 37 = .ok (.ixor, 1) := by decide +kernel
theorem d_F_enter_38 : decode c_F_enter 38 = .ok (.iand, 1) := by decide +kernel
theorem d_F_enter_39 : decode c_F_enter 39 = .ok (.ifCond .eq 41, 3) := by decide +kernel
theorem d_F_enter_42 : decode c_F_enter 42 = .ok (.aload_n 0, 1) := by decide +kernel
theorem d_F_enter_43 : decode c_F_enter 43 = .ok (.getfield 26, 3) := by decide +kernel
theorem d_F_enter_46 : decode c_F_enter 46 = .ok (.iload 5, 2) := by decide +kernel
theorem d_F_enter_48 : decode c_F_enter 48 = .ok (.dup2, 1) := by decide +kernel
theorem d_F_enter_49 : decode c_F_enter 49 = .ok (.iaload, 1) := by decide +kernel
theorem d_F_enter_50 : decode c_F_enter 50 = .ok (.iload_n 3, 1) := by decide +kernel
theorem d_F_enter_51 : decode c_F_enter 51 = .ok (.ior, 1) := by decide +kernel
theorem d_F_enter_52 : decode c_F_enter 52 = .ok (.iastore, 1) := by decide +kernel
theorem d_F_enter_53 : decode c_F_enter 53 = .ok (.aload_n 0, 1) := by decide +kernel
theorem d_F_enter_54 : decode c_F_enter 54 = .ok (.getfield 19, 3) := by decide +kernel
theorem d_F_enter_57 : decode c_F_enter 57 = .ok (.iload_n 1, 1) := by decide +kernel
theorem d_F_enter_58 : decode c_F_enter 58 = .ok (.bipush 13, 2) := by decide +kernel
theorem d_F_enter_60 : decode c_F_enter 60 = .ok (.imul, 1) := by decide +kernel
theorem d_F_enter_61 : decode c_F_enter 61 = .ok (.bipush 20, 2) := by decide +kernel
theorem d_F_enter_63 : decode c_F_enter 63 = .ok (.imul, 1) := by decide +kernel
theorem d_F_enter_64 : decode c_F_enter 64 = .ok (.iload 4, 2) := by decide +kernel
theorem d_F_enter_66 : decode c_F_enter 66 = .ok (.iadd, 1) := by decide +kernel
theorem d_F_enter_67 : decode c_F_enter 67 = .ok (.dup2, 1) := by decide +kernel
theorem d_F_enter_68 : decode c_F_enter 68 = .ok (.iaload, 1) := by decide +kernel
theorem d_F_enter_69 : decode c_F_enter 69 = .ok (.iconst 1, 1) := by decide +kernel
theorem d_F_enter_70 : decode c_F_enter 70 = .ok (.iload 4, 2) := by decide +kernel
theorem d_F_enter_72 : decode c_F_enter 72 = .ok (.ishl, 1) := by decide +kernel
theorem d_F_enter_73 : decode c_F_enter 73 = .ok (.ior, 1) := by decide +kernel
theorem d_F_enter_74 : decode c_F_enter 74 = .ok (.iastore, 1) := by decide +kernel
theorem d_F_enter_75 : decode c_F_enter 75 = .ok (.aload_n 0, 1) := by decide +kernel
theorem d_F_enter_76 : decode c_F_enter 76 = .ok (.iconst 1, 1) := by decide +kernel
theorem d_F_enter_77 : decode c_F_enter 77 = .ok (.putfield 35, 3) := by decide +kernel
theorem d_F_enter_80 : decode c_F_enter 80 = .ok (.iinc 4 1, 3) := by decide +kernel
theorem d_F_enter_83 : decode c_F_enter 83 = .ok (.goto (-80), 3) := by decide +kernel
theorem d_F_enter_86 : decode c_F_enter 86 = .ok (.return_, 1) := by decide +kernel
theorem d_F_exitsOfAll_0 : decode c_F_exitsOfAll 0 = .ok (.iconst 0, 1) := by decide +kernel
theorem d_F_exitsOfAll_1 : decode c_F_exitsOfAll 1 = .ok (.istore_n 3, 1) := by decide +kernel
theorem d_F_exitsOfAll_2 : decode c_F_exitsOfAll 2 = .ok (.iconst 0, 1) := by decide +kernel
theorem d_F_exitsOfAll_3 : decode c_F_exitsOfAll 3 = .ok (.istore 4, 2) := by decide +kernel
theorem d_F_exitsOfAll_5 : decode c_F_exitsOfAll 5 = .ok (.iload 4, 2) := by decide +kernel
theorem d_F_exitsOfAll_7 : decode c_F_exitsOfAll 7 = .ok (.bipush 16, 2) := by decide +kernel
theorem d_F_exitsOfAll_9 : decode c_F_exitsOfAll 9 = .ok (.if_icmp .ge 33, 3) := by decide +kernel
theorem d_F_exitsOfAll_12 : decode c_F_exitsOfAll 12 = .ok (.iload_n 2, 1) := by decide +kernel
theorem d_F_exitsOfAll_13 : decode c_F_exitsOfAll 13 = .ok (.iload 4, 2) := by decide +kernel
theorem d_F_exitsOfAll_15 : decode c_F_exitsOfAll 15 = .ok (.invokestatic 55, 3) := by decide +kernel
theorem d_F_exitsOfAll_18 : decode c_F_exitsOfAll 18 = .ok (.ifCond .eq 18, 3) := by decide +kernel
theorem d_F_exitsOfAll_21 : decode c_F_exitsOfAll 21 = .ok (.iload_n 3, 1) := by decide +kernel
theorem d_F_exitsOfAll_22 : decode c_F_exitsOfAll 22 = .ok (.aload_n 0, 1) := by decide +kernel
theorem d_F_exitsOfAll_23 : decode c_F_exitsOfAll 23 = .ok (.getfield 23, 3) := by decide +kernel
theorem d_F_exitsOfAll_26 : decode c_F_exitsOfAll 26 = .ok (.iload_n 1, 1) := by decide +kernel
theorem d_F_exitsOfAll_27 : decode c_F_exitsOfAll 27 = .ok (.bipush 20, 2) := by decide +kernel
theorem d_F_exitsOfAll_29 : decode c_F_exitsOfAll 29 = .ok (.imul, 1) := by decide +kernel
theorem d_F_exitsOfAll_30 : decode c_F_exitsOfAll 30 = .ok (.iload 4, 2) := by decide +kernel
theorem d_F_exitsOfAll_32 : decode c_F_exitsOfAll 32 = .ok (.iadd, 1) := by decide +kernel
theorem d_F_exitsOfAll_33 : decode c_F_exitsOfAll 33 = .ok (.iaload, 1) := by decide +kernel
theorem d_F_exitsOfAll_34 : decode c_F_exitsOfAll 34 = .ok (.ior, 1) := by decide +kernel
theorem d_F_exitsOfAll_35 : decode c_F_exitsOfAll 35 = .ok (.istore_n 3, 1) := by decide +kernel
theorem d_F_exitsOfAll_36 : decode c_F_exitsOfAll 36 = .ok (.iinc 4 1, 3) := by decide +kernel
theorem d_F_exitsOfAll_39 : decode c_F_exitsOfAll 39 = .ok (.goto (-34), 3) := by decide +kernel
theorem d_F_exitsOfAll_42 : decode c_F_exitsOfAll 42 = .ok (.iload_n 3, 1) := by decide +kernel
theorem d_F_exitsOfAll_43 : decode c_F_exitsOfAll 43 = .ok (.ireturn, 1) := by decide +kernel
theorem d_F_call_0 : decode c_F_call 0 = .ok (.aload_n 0, 1) := by decide +kernel
theorem d_F_call_1 : decode c_F_call 1 = .ok (.iload_n 2, 1) := by decide +kernel
theorem d_F_call_2 : decode c_F_call 2 = .ok (.iconst 1, 1) := by decide +kernel
theorem d_F_call_3 : decode c_F_call 3 = .ok (.iadd, 1) := by decide +kernel
theorem d_F_call_4 : decode c_F_call 4 = .ok (.iload_n 3, 1) := by decide +kernel
theorem d_F_call_5 : decode c_F_call 5 = .ok (.iload 4, 2) := by decide +kernel
theorem d_F_call_7 : decode c_F_call 7 = .ok (.bipush 15, 2) := by decide +kernel
theorem d_F_call_9 : decode c_F_call 9 = .ok (.iand, 1) := by decide +kernel
theorem d_F_call_10 : decode c_F_call 10 = .ok (.iconst 1, 1) := by decide +kernel
theorem d_F_call_11 : decode c_F_call 11 = .ok (.aload_n 0, 1) := by decide +kernel
theorem d_F_call_12 : decode c_F_call 12 = .ok (.getfield 11, 3) := by decide +kernel
theorem d_F_call_15 : decode c_F_call 15 = .ok (.getfield 88, 3) := by decide +kernel
theorem d_F_call_18 : decode c_F_call 18 = .ok (.iload_n 2, 1) := by decide +kernel
theorem d_F_call_19 : decode c_F_call 19 = .ok (.iaload, 1) := by decide +kernel
theorem d_F_call_20 : decode c_F_call 20 = .ok (.ishl, 1) := by decide +kernel
theorem d_F_call_21 : decode c_F_call 21 = .ok (.iconst (-1), 1) := by decide +kernel
theorem d_F_call_22 : decode c_F_call 22 = .ok (.ixor, 1) := by decide +kernel
theorem d_F_call_23 : decode c_F_call 23 = .ok (.iand, 1) := by decide +kernel
theorem d_F_call_24 : decode c_F_call 24 = .ok (.invokevirtual 91, 3) := by decide +kernel
theorem d_F_call_27 : decode c_F_call 27 = .ok (.iload 4, 2) := by decide +kernel
theorem d_F_call_29 : decode c_F_call 29 = .ok (.ldc 70, 2) := by decide +kernel
theorem d_F_call_31 : decode c_F_call 31 = .ok (.iand, 1) := by decide +kernel
theorem d_F_call_32 : decode c_F_call 32 = .ok (.istore 5, 2) := by decide +kernel
theorem d_F_call_34 : decode c_F_call 34 = .ok (.iload 4, 2) := by decide +kernel
theorem d_F_call_36 : decode c_F_call 36 = .ok (.aload_n 0, 1) := by decide +kernel
theorem d_F_call_37 : decode c_F_call 37 = .ok (.getfield 11, 3) := by decide +kernel
theorem d_F_call_40 : decode c_F_call 40 = .ok (.getfield 112, 3) := by decide +kernel
theorem d_F_call_43 : decode c_F_call 43 = .ok (.iload_n 2, 1) := by decide +kernel
theorem d_F_call_44 : decode c_F_call 44 = .ok (.iaload, 1) := by decide +kernel
theorem d_F_call_45 : decode c_F_call 45 = .ok (.invokestatic 55, 3) := by decide +kernel
theorem d_F_call_48 : decode c_F_call 48 = .ok (.ifCond .eq 9, 3) := by decide +kernel
theorem d_F_call_51 : decode c_F_call 51 = .ok (.iload 5, 2) := by decide +kernel
theorem d_F_call_53 : decode c_F_call 53 = .ok (.iconst 1, 1) := by decide +kernel
theorem d_F_call_54 : decode c_F_call 54 = .ok (.ior, 1) := by decide +kernel
theorem d_F_call_55 : decode c_F_call 55 = .ok (.istore 5, 2) := by decide +kernel
theorem d_F_call_57 : decode c_F_call 57 = .ok (.iload 4, 2) := by decide +kernel
theorem d_F_call_59 : decode c_F_call 59 = .ok (.aload_n 0, 1) := by decide +kernel
theorem d_F_call_60 : decode c_F_call 60 = .ok (.getfield 11, 3) := by decide +kernel
theorem d_F_call_63 : decode c_F_call 63 = .ok (.getfield 115, 3) := by decide +kernel
theorem d_F_call_66 : decode c_F_call 66 = .ok (.iload_n 2, 1) := by decide +kernel
theorem d_F_call_67 : decode c_F_call 67 = .ok (.iaload, 1) := by decide +kernel
theorem d_F_call_68 : decode c_F_call 68 = .ok (.iconst 4, 1) := by decide +kernel
theorem d_F_call_69 : decode c_F_call 69 = .ok (.irem, 1) := by decide +kernel
theorem d_F_call_70 : decode c_F_call 70 = .ok (.invokestatic 55, 3) := by decide +kernel
theorem d_F_call_73 : decode c_F_call 73 = .ok (.ifCond .eq 9, 3) := by decide +kernel
theorem d_F_call_76 : decode c_F_call 76 = .ok (.iload 5, 2) := by decide +kernel
theorem d_F_call_78 : decode c_F_call 78 = .ok (.iconst 2, 1) := by decide +kernel
theorem d_F_call_79 : decode c_F_call 79 = .ok (.ior, 1) := by decide +kernel
theorem d_F_call_80 : decode c_F_call 80 = .ok (.istore 5, 2) := by decide +kernel
theorem d_F_call_82 : decode c_F_call 82 = .ok (.iconst 0, 1) := by decide +kernel
theorem d_F_call_83 : decode c_F_call 83 = .ok (.istore 6, 2) := by decide +kernel
theorem d_F_call_85 : decode c_F_call 85 = .ok (.iload 6, 2) := by decide +kernel
theorem d_F_call_87 : decode c_F_call 87 = .ok (.bipush 6, 2) := by decide +kernel
theorem d_F_call_89 : decode c_F_call 89 = .ok (.if_icmp .ge 59, 3) := by decide +kernel
theorem d_F_call_92 : decode c_F_call 92 = .ok (.aload_n 0, 1) := by decide +kernel
theorem d_F_call_93 : decode c_F_call 93 = .ok (.getfield 15, 3) := by decide +kernel
theorem d_F_call_96 : decode c_F_call 96 = .ok (.getfield 97, 3) := by decide +kernel
theorem d_F_call_99 : decode c_F_call 99 = .ok (.iload_n 2, 1) := by decide +kernel
theorem d_F_call_100 : decode c_F_call 100 = .ok (.iaload, 1) := by decide +kernel
theorem d_F_call_101 : decode c_F_call 101 = .ok (.iload 6, 2) := by decide +kernel
theorem d_F_call_103 : decode c_F_call 103 = .ok (.invokestatic 55, 3) := by decide +kernel
theorem d_F_call_106 : decode c_F_call 106 = .ok (.ifCond .eq 36, 3) := by decide +kernel
theorem d_F_call_109 : decode c_F_call 109 = .ok (.aload_n 0, 1) := by decide +kernel
theorem d_F_call_110 : decode c_F_call 110 = .ok (.iload 6, 2) := by decide +kernel
theorem d_F_call_112 : decode c_F_call 112 = .ok (.iload 5, 2) := by decide +kernel
theorem d_F_call_114 : decode c_F_call 114 = .ok (.aload_n 0, 1) := by decide +kernel
theorem d_F_call_115 : decode c_F_call 115 = .ok (.getfield 26, 3) := by decide +kernel
theorem d_F_call_118 : decode c_F_call 118 = .ok (.iload_n 1, 1) := by decide +kernel
theorem d_F_call_119 : decode c_F_call 119 = .ok (.bipush 20, 2) := by decide +kernel
theorem d_F_call_121 : decode c_F_call 121 = .ok (.imul, 1) := by decide +kernel
theorem d_F_call_122 : decode c_F_call 122 = .ok (.iload_n 3, 1) := by decide +kernel
theorem d_F_call_123 : decode c_F_call 123 = .ok (.iadd, 1) := by decide +kernel
theorem d_F_call_124 : decode c_F_call 124 = .ok (.iaload, 1) := by decide +kernel
theorem d_F_call_125 : decode c_F_call 125 = .ok (.invokevirtual 124, 3) := by decide +kernel
theorem d_F_call_128 : decode c_F_call 128 = .ok (.aload_n 0, 1) := by decide +kernel
theorem d_F_call_129 : decode c_F_call 129 = .ok (.iload_n 2, 1) := by decide +kernel
theorem d_F_call_130 : decode c_F_call 130 = .ok (.iload_n 3, 1) := by decide +kernel
theorem d_F_call_131 : decode c_F_call 131 = .ok (.aload_n 0, 1) := by decide +kernel
theorem d_F_call_132 : decode c_F_call 132 = .ok (.iload 6, 2) := by decide +kernel
theorem d_F_call_134 : decode c_F_call 134 = .ok (.iload 5, 2) := by decide +kernel
theorem d_F_call_136 : decode c_F_call 136 = .ok (.invokevirtual 127, 3) := by decide +kernel
theorem d_F_call_139 : decode c_F_call 139 = .ok (.invokevirtual 102, 3) := by decide +kernel
theorem d_F_call_142 : decode c_F_call 142 = .ok (.iinc 6 1, 3) := by decide +kernel
theorem d_F_call_145 : decode c_F_call 145 = .ok (.goto (-60), 3) := by decide +kernel
theorem d_F_call_148 : decode c_F_call 148 = .ok (.return_, 1) := by decide +kernel
theorem d_F_growExit_0 : decode c_F_growExit 0 = .ok (.iload_n 1, 1) := by decide +kernel
theorem d_F_growExit_1 : decode c_F_growExit 1 = .ok (.bipush 20, 2) := by decide +kernel
theorem d_F_growExit_3 : decode c_F_growExit 3 = .ok (.imul, 1) := by decide +kernel
theorem d_F_growExit_4 : decode c_F_growExit 4 = .ok (.iload_n 2, 1) := by decide +kernel
theorem d_F_growExit_5 : decode c_F_growExit 5 = .ok (.iadd, 1) := by decide +kernel
theorem d_F_growExit_6 : decode c_F_growExit 6 = .ok (.istore 4, 2) := by decide +kernel
theorem d_F_growExit_8 : decode c_F_growExit 8 = .ok (.iload_n 3, 1) := by decide +kernel
theorem d_F_growExit_9 : decode c_F_growExit 9 = .ok (.aload_n 0, 1) := by decide +kernel
theorem d_F_growExit_10 : decode c_F_growExit 10 = .ok (.getfield 23, 3) := by decide +kernel
theorem d_F_growExit_13 : decode c_F_growExit 13 = .ok (.iload 4, 2) := by decide +kernel
theorem d_F_growExit_15 : decode c_F_growExit 15 = .ok (.iaload, 1) := by decide +kernel
theorem d_F_growExit_16 : decode c_F_growExit 16 = .ok (.iconst (-1), 1) := by decide +kernel
theorem d_F_growExit_17 : decode c_F_growExit 17 = .ok (.ixor, 1) := by decide +kernel
theorem d_F_growExit_18 : decode c_F_growExit 18 = .ok (.iand, 1) := by decide +kernel
theorem d_F_growExit_19 : decode c_F_growExit 19 = .ok (.ifCond .eq 19, 3) := by decide +kernel
theorem d_F_growExit_22 : decode c_F_growExit 22 = .ok (.aload_n 0, 1) := by decide +kernel
theorem d_F_growExit_23 : decode c_F_growExit 23 = .ok (.getfield 23, 3) := by decide +kernel
theorem d_F_growExit_26 : decode c_F_growExit 26 = .ok (.iload 4, 2) := by decide +kernel
theorem d_F_growExit_28 : decode c_F_growExit 28 = .ok (.dup2, 1) := by decide +kernel
theorem d_F_growExit_29 : decode c_F_growExit 29 = .ok (.iaload, 1) := by decide +kernel
theorem d_F_growExit_30 : decode c_F_growExit 30 = .ok (.iload_n 3, 1) := by decide +kernel
theorem d_F_growExit_31 : decode c_F_growExit 31 = .ok (.ior, 1) := by decide +kernel
theorem d_F_growExit_32 : decode c_F_growExit 32 = .ok (.iastore, 1) := by decide +kernel
theorem d_F_growExit_33 : decode c_F_growExit 33 = .ok (.aload_n 0, 1) := by decide +kernel
theorem d_F_growExit_34 : decode c_F_growExit 34 = .ok (.iconst 1, 1) := by decide +kernel
theorem d_F_growExit_35 : decode c_F_growExit 35 = .ok (.putfield 35, 3) := by decide +kernel
theorem d_F_growExit_38 : decode c_F_growExit 38 = .ok (.return_, 1) := by decide +kernel
theorem d_F_fieldsOf_0 : decode c_F_fieldsOf 0 = .ok (.iconst 0, 1) := by decide +kernel
theorem d_F_fieldsOf_1 : decode c_F_fieldsOf 1 = .ok (.istore_n 2, 1) := by decide +kernel
theorem d_F_fieldsOf_2 : decode c_F_fieldsOf 2 = .ok (.iconst 0, 1) := by decide +kernel
theorem d_F_fieldsOf_3 : decode c_F_fieldsOf 3 = .ok (.istore_n 3, 1) := by decide +kernel
theorem d_F_fieldsOf_4 : decode c_F_fieldsOf 4 = .ok (.iload_n 3, 1) := by decide +kernel
theorem d_F_fieldsOf_5 : decode c_F_fieldsOf 5 = .ok (.bipush 6, 2) := by decide +kernel
theorem d_F_fieldsOf_7 : decode c_F_fieldsOf 7 = .ok (.if_icmp .ge 29, 3) := by decide +kernel
theorem d_F_fieldsOf_10 : decode c_F_fieldsOf 10 = .ok (.iload_n 0, 1) := by decide +kernel
theorem d_F_fieldsOf_11 : decode c_F_fieldsOf 11 = .ok (.iload_n 3, 1) := by decide +kernel
theorem d_F_fieldsOf_12 : decode c_F_fieldsOf 12 = .ok (.invokestatic 55, 3) := by decide +kernel
theorem d_F_fieldsOf_15 : decode c_F_fieldsOf 15 = .ok (.ifCond .eq 15, 3) := by decide +kernel
theorem d_F_fieldsOf_18 : decode c_F_fieldsOf 18 = .ok (.iload_n 2, 1) := by decide +kernel
theorem d_F_fieldsOf_19 : decode c_F_fieldsOf 19 = .ok (.iconst 1, 1) := by decide +kernel
theorem d_F_fieldsOf_20 : decode c_F_fieldsOf 20 = .ok (.iconst 4, 1) := by decide +kernel
theorem d_F_fieldsOf_21 : decode c_F_fieldsOf 21 = .ok (.iload_n 3, 1) := by decide +kernel
theorem d_F_fieldsOf_22 : decode c_F_fieldsOf 22 = .ok (.iconst 2, 1) := by decide +kernel
theorem d_F_fieldsOf_23 : decode c_F_fieldsOf 23 = .ok (.imul, 1) := by decide +kernel
theorem d_F_fieldsOf_24 : decode c_F_fieldsOf 24 = .ok (.iadd, 1) := by decide +kernel
theorem d_F_fieldsOf_25 : decode c_F_fieldsOf 25 = .ok (.iload_n 1, 1) := by decide +kernel
theorem d_F_fieldsOf_26 : decode c_F_fieldsOf 26 = .ok (.iadd, 1) := by decide +kernel
theorem d_F_fieldsOf_27 : decode c_F_fieldsOf 27 = .ok (.ishl, 1) := by decide +kernel
theorem d_F_fieldsOf_28 : decode c_F_fieldsOf 28 = .ok (.ior, 1) := by decide +kernel
theorem d_F_fieldsOf_29 : decode c_F_fieldsOf 29 = .ok (.istore_n 2, 1) := by decide +kernel
theorem d_F_fieldsOf_30 : decode c_F_fieldsOf 30 = .ok (.iinc 3 1, 3) := by decide +kernel
theorem d_F_fieldsOf_33 : decode c_F_fieldsOf 33 = .ok (.goto (-29), 3) := by decide +kernel
theorem d_F_fieldsOf_36 : decode c_F_fieldsOf 36 = .ok (.iload_n 2, 1) := by decide +kernel
theorem d_F_fieldsOf_37 : decode c_F_fieldsOf 37 = .ok (.ireturn, 1) := by decide +kernel
theorem d_F_changed_0 : decode c_F_changed 0 = .ok (.aload_n 0, 1) := by decide +kernel
theorem d_F_changed_1 : decode c_F_changed 1 = .ok (.getfield 11, 3) := by decide +kernel
theorem d_F_changed_4 : decode c_F_changed 4 = .ok (.getfield 88, 3) := by decide +kernel
theorem d_F_changed_7 : decode c_F_changed 7 = .ok (.iload_n 2, 1) := by decide +kernel
theorem d_F_changed_8 : decode c_F_changed 8 = .ok (.iaload, 1) := by decide +kernel
theorem d_F_changed_9 : decode c_F_changed 9 = .ok (.istore 4, 2) := by decide +kernel
theorem d_F_changed_11 : decode c_F_changed 11 = .ok (.aload_n 0, 1) := by decide +kernel
theorem d_F_changed_12 : decode c_F_changed 12 = .ok (.getfield 11, 3) := by decide +kernel
theorem d_F_changed_15 : decode c_F_changed 15 = .ok (.getfield 112, 3) := by decide +kernel
theorem d_F_changed_18 : decode c_F_changed 18 = .ok (.iload_n 2, 1) := by decide +kernel
theorem d_F_changed_19 : decode c_F_changed 19 = .ok (.iaload, 1) := by decide +kernel
theorem d_F_changed_20 : decode c_F_changed 20 = .ok (.istore 5, 2) := by decide +kernel
theorem d_F_changed_22 : decode c_F_changed 22 = .ok (.aload_n 0, 1) := by decide +kernel
theorem d_F_changed_23 : decode c_F_changed 23 = .ok (.getfield 11, 3) := by decide +kernel
theorem d_F_changed_26 : decode c_F_changed 26 = .ok (.getfield 115, 3) := by decide +kernel
theorem d_F_changed_29 : decode c_F_changed 29 = .ok (.iload_n 2, 1) := by decide +kernel
theorem d_F_changed_30 : decode c_F_changed 30 = .ok (.iaload, 1) := by decide +kernel
theorem d_F_changed_31 : decode c_F_changed 31 = .ok (.istore 6, 2) := by decide +kernel
theorem d_F_changed_33 : decode c_F_changed 33 = .ok (.iload_n 3, 1) := by decide +kernel
theorem d_F_changed_34 : decode c_F_changed 34 = .ok (.iconst 1, 1) := by decide +kernel
theorem d_F_changed_35 : decode c_F_changed 35 = .ok (.iload 4, 2) := by decide +kernel
theorem d_F_changed_37 : decode c_F_changed 37 = .ok (.ishl, 1) := by decide +kernel
theorem d_F_changed_38 : decode c_F_changed 38 = .ok (.iconst (-1), 1) := by decide +kernel
theorem d_F_changed_39 : decode c_F_changed 39 = .ok (.ixor, 1) := by decide +kernel
theorem d_F_changed_40 : decode c_F_changed 40 = .ok (.iand, 1) := by decide +kernel
theorem d_F_changed_41 : decode c_F_changed 41 = .ok (.istore 7, 2) := by decide +kernel
theorem d_F_changed_43 : decode c_F_changed 43 = .ok (.aload_n 0, 1) := by decide +kernel
theorem d_F_changed_44 : decode c_F_changed 44 = .ok (.getfield 11, 3) := by decide +kernel
theorem d_F_changed_47 : decode c_F_changed 47 = .ok (.getfield 75, 3) := by decide +kernel
theorem d_F_changed_50 : decode c_F_changed 50 = .ok (.iload_n 2, 1) := by decide +kernel
theorem d_F_changed_51 : decode c_F_changed 51 = .ok (.iaload, 1) := by decide +kernel
theorem d_F_changed_52 : decode c_F_changed 52 = .ok (.tableswitch 154 0 6 #[44, 44, 154, 44, 47, 69, 115], 44) := by decide +kernel
theorem d_F_changed_96 : decode c_F_changed 96 = .ok (.iload 7, 2) := by decide +kernel
theorem d_F_changed_98 : decode c_F_changed 98 = .ok (.ireturn, 1) := by decide +kernel
theorem d_F_changed_99 : decode c_F_changed 99 = .ok (.iload_n 3, 1) := by decide +kernel
theorem d_F_changed_100 : decode c_F_changed 100 = .ok (.iload 5, 2) := by decide +kernel
theorem d_F_changed_102 : decode c_F_changed 102 = .ok (.invokestatic 55, 3) := by decide +kernel
theorem d_F_changed_105 : decode c_F_changed 105 = .ok (.ifCond .eq 13, 3) := by decide +kernel
theorem d_F_changed_108 : decode c_F_changed 108 = .ok (.iload 7, 2) := by decide +kernel
theorem d_F_changed_110 : decode c_F_changed 110 = .ok (.iconst 1, 1) := by decide +kernel
theorem d_F_changed_111 : decode c_F_changed 111 = .ok (.iload 4, 2) := by decide +kernel
theorem d_F_changed_113 : decode c_F_changed 113 = .ok (.ishl, 1) := by decide +kernel
theorem d_F_changed_114 : decode c_F_changed 114 = .ok (.ior, 1) := by decide +kernel
theorem d_F_changed_115 : decode c_F_changed 115 = .ok (.goto 5, 3) := by decide +kernel
theorem d_F_changed_118 : decode c_F_changed 118 = .ok (.iload 7, 2) := by decide +kernel
theorem d_F_changed_120 : decode c_F_changed 120 = .ok (.ireturn, 1) := by decide +kernel
theorem d_F_changed_121 : decode c_F_changed 121 = .ok (.iconst 1, 1) := by decide +kernel
theorem d_F_changed_122 : decode c_F_changed 122 = .ok (.iload 5, 2) := by decide +kernel
theorem d_F_changed_124 : decode c_F_changed 124 = .ok (.ishl, 1) := by decide +kernel
theorem d_F_changed_125 : decode c_F_changed 125 = .ok (.aload_n 0, 1) := by decide +kernel
theorem d_F_changed_126 : decode c_F_changed 126 = .ok (.getfield 15, 3) := by decide +kernel
theorem d_F_changed_129 : decode c_F_changed 129 = .ok (.getfield 118, 3) := by decide +kernel
theorem d_F_changed_132 : decode c_F_changed 132 = .ok (.iload_n 1, 1) := by decide +kernel
theorem d_F_changed_133 : decode c_F_changed 133 = .ok (.iconst 4, 1) := by decide +kernel
theorem d_F_changed_134 : decode c_F_changed 134 = .ok (.imul, 1) := by decide +kernel
theorem d_F_changed_135 : decode c_F_changed 135 = .ok (.iload 5, 2) := by decide +kernel
theorem d_F_changed_137 : decode c_F_changed 137 = .ok (.iadd, 1) := by decide +kernel
theorem d_F_changed_138 : decode c_F_changed 138 = .ok (.iaload, 1) := by decide +kernel
theorem d_F_changed_139 : decode c_F_changed 139 = .ok (.iload 6, 2) := by decide +kernel
theorem d_F_changed_141 : decode c_F_changed 141 = .ok (.invokestatic 121, 3) := by decide +kernel
theorem d_F_changed_144 : decode c_F_changed 144 = .ok (.ior, 1) := by decide +kernel
theorem d_F_changed_145 : decode c_F_changed 145 = .ok (.istore 8, 2) := by decide +kernel
theorem d_F_changed_147 : decode c_F_changed 147 = .ok (.iload_n 3, 1) := by decide +kernel
theorem d_F_changed_148 : decode c_F_changed 148 = .ok (.iload 8, 2) := by decide +kernel
theorem d_F_changed_150 : decode c_F_changed 150 = .ok (.iand, 1) := by decide +kernel
theorem d_F_changed_151 : decode c_F_changed 151 = .ok (.ifCond .eq 13, 3) := by decide +kernel
theorem d_F_changed_154 : decode c_F_changed 154 = .ok (.iload 7, 2) := by decide +kernel
theorem d_F_changed_156 : decode c_F_changed 156 = .ok (.iconst 1, 1) := by decide +kernel
theorem d_F_changed_157 : decode c_F_changed 157 = .ok (.iload 4, 2) := by decide +kernel
theorem d_F_changed_159 : decode c_F_changed 159 = .ok (.ishl, 1) := by decide +kernel
theorem d_F_changed_160 : decode c_F_changed 160 = .ok (.ior, 1) := by decide +kernel
theorem d_F_changed_161 : decode c_F_changed 161 = .ok (.goto 5, 3) := by decide +kernel
theorem d_F_changed_164 : decode c_F_changed 164 = .ok (.iload 7, 2) := by decide +kernel
theorem d_F_changed_166 : decode c_F_changed 166 = .ok (.ireturn, 1) := by decide +kernel
theorem d_F_changed_167 : decode c_F_changed 167 = .ok (.aload_n 0, 1) := by decide +kernel
theorem d_F_changed_168 : decode c_F_changed 168 = .ok (.getfield 15, 3) := by decide +kernel
theorem d_F_changed_171 : decode c_F_changed 171 = .ok (.getfield 118, 3) := by decide +kernel
theorem d_F_changed_174 : decode c_F_changed 174 = .ok (.iload_n 1, 1) := by decide +kernel
theorem d_F_changed_175 : decode c_F_changed 175 = .ok (.iconst 4, 1) := by decide +kernel
theorem d_F_changed_176 : decode c_F_changed 176 = .ok (.imul, 1) := by decide +kernel
theorem d_F_changed_177 : decode c_F_changed 177 = .ok (.iload 4, 2) := by decide +kernel
theorem d_F_changed_179 : decode c_F_changed 179 = .ok (.iadd, 1) := by decide +kernel
theorem d_F_changed_180 : decode c_F_changed 180 = .ok (.iaload, 1) := by decide +kernel
theorem d_F_changed_181 : decode c_F_changed 181 = .ok (.istore 9, 2) := by decide +kernel
theorem d_F_changed_183 : decode c_F_changed 183 = .ok (.iload_n 3, 1) := by decide +kernel
theorem d_F_changed_184 : decode c_F_changed 184 = .ok (.iload 5, 2) := by decide +kernel
theorem d_F_changed_186 : decode c_F_changed 186 = .ok (.invokestatic 55, 3) := by decide +kernel
theorem d_F_changed_189 : decode c_F_changed 189 = .ok (.ifCond .eq 15, 3) := by decide +kernel
theorem d_F_changed_192 : decode c_F_changed 192 = .ok (.iload_n 3, 1) := by decide +kernel
theorem d_F_changed_193 : decode c_F_changed 193 = .ok (.iload 9, 2) := by decide +kernel
theorem d_F_changed_195 : decode c_F_changed 195 = .ok (.iload 6, 2) := by decide +kernel
theorem d_F_changed_197 : decode c_F_changed 197 = .ok (.invokestatic 121, 3) := by decide +kernel
theorem d_F_changed_200 : decode c_F_changed 200 = .ok (.ior, 1) := by decide +kernel
theorem d_F_changed_201 : decode c_F_changed 201 = .ok (.goto 4, 3) := by decide +kernel
theorem d_F_changed_204 : decode c_F_changed 204 = .ok (.iload_n 3, 1) := by decide +kernel
theorem d_F_changed_205 : decode c_F_changed 205 = .ok (.ireturn, 1) := by decide +kernel
theorem d_F_changed_206 : decode c_F_changed 206 = .ok (.iload_n 3, 1) := by decide +kernel
theorem d_F_changed_207 : decode c_F_changed 207 = .ok (.ireturn, 1) := by decide +kernel
theorem d_F_pass_0 : decode c_F_pass 0 = .ok (.aload_n 0, 1) := by decide +kernel
theorem d_F_pass_1 : decode c_F_pass 1 = .ok (.getfield 11, 3) := by decide +kernel
theorem d_F_pass_4 : decode c_F_pass 4 = .ok (.getfield 75, 3) := by decide +kernel
theorem d_F_pass_7 : decode c_F_pass 7 = .ok (.iload_n 2, 1) := by decide +kernel
theorem d_F_pass_8 : decode c_F_pass 8 = .ok (.iaload, 1) := by decide +kernel
theorem d_F_pass_9 : decode c_F_pass 9 = .ok (.istore 5, 2) := by decide +kernel
theorem d_F_pass_11 : decode c_F_pass 11 = .ok (.iload 5, 2) := by decide +kernel
theorem d_F_pass_13 : decode c_F_pass 13 = .ok (.bipush 7, 2) := by decide +kernel
theorem d_F_pass_15 : decode c_F_pass 15 = .ok (.if_icmp .ne 13, 3) := by decide +kernel
theorem d_F_pass_18 : decode c_F_pass 18 = .ok (.aload_n 0, 1) := by decide +kernel
theorem d_F_pass_19 : decode c_F_pass 19 = .ok (.iload_n 1, 1) := by decide +kernel
