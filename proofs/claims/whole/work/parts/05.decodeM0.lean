theorem d_M_within_0 : decode c_M_within 0 = .ok (.iload_n 0, 1) := by decide +kernel
theorem d_M_within_1 : decode c_M_within 1 = .ok (.iload_n 1, 1) := by decide +kernel
theorem d_M_within_2 : decode c_M_within 2 = .ok (.if_icmp .lt 12, 3) := by decide +kernel
theorem d_M_within_5 : decode c_M_within 5 = .ok (.iload_n 0, 1) := by decide +kernel
theorem d_M_within_6 : decode c_M_within 6 = .ok (.iload_n 2, 1) := by decide +kernel
theorem d_M_within_7 : decode c_M_within 7 = .ok (.if_icmp .gt 7, 3) := by decide +kernel
theorem d_M_within_10 : decode c_M_within 10 = .ok (.iconst 1, 1) := by decide +kernel
theorem d_M_within_11 : decode c_M_within 11 = .ok (.goto 4, 3) := by decide +kernel
theorem d_M_within_14 : decode c_M_within 14 = .ok (.iconst 0, 1) := by decide +kernel
theorem d_M_within_15 : decode c_M_within 15 = .ok (.ireturn, 1) := by decide +kernel
theorem d_M_before_0 : decode c_M_before 0 = .ok (.iconst 0, 1) := by decide +kernel
theorem d_M_before_1 : decode c_M_before 1 = .ok (.istore 4, 2) := by decide +kernel
theorem d_M_before_3 : decode c_M_before 3 = .ok (.iconst 0, 1) := by decide +kernel
theorem d_M_before_4 : decode c_M_before 4 = .ok (.istore 5, 2) := by decide +kernel
theorem d_M_before_6 : decode c_M_before 6 = .ok (.iload 5, 2) := by decide +kernel
theorem d_M_before_8 : decode c_M_before 8 = .ok (.iload_n 2, 1) := by decide +kernel
theorem d_M_before_9 : decode c_M_before 9 = .ok (.if_icmp .gt 80, 3) := by decide +kernel
theorem d_M_before_12 : decode c_M_before 12 = .ok (.iload 5, 2) := by decide +kernel
theorem d_M_before_14 : decode c_M_before 14 = .ok (.bipush 6, 2) := by decide +kernel
theorem d_M_before_16 : decode c_M_before 16 = .ok (.if_icmp .ge 73, 3) := by decide +kernel
theorem d_M_before_19 : decode c_M_before 19 = .ok (.iconst 0, 1) := by decide +kernel
theorem d_M_before_20 : decode c_M_before 20 = .ok (.istore 6, 2) := by decide +kernel
theorem d_M_before_22 : decode c_M_before 22 = .ok (.iload 6, 2) := by decide +kernel
theorem d_M_before_24 : decode c_M_before 24 = .ok (.aload_n 0, 1) := by decide +kernel
theorem d_M_before_25 : decode c_M_before 25 = .ok (.getfield 7, 3) := by decide +kernel
theorem d_M_before_28 : decode c_M_before 28 = .ok (.iload 5, 2) := by decide +kernel
theorem d_M_before_30 : decode c_M_before 30 = .ok (.iaload, 1) := by decide +kernel
theorem d_M_before_31 : decode c_M_before 31 = .ok (.if_icmp .ge 52, 3) := by decide +kernel
theorem d_M_before_34 : decode c_M_before 34 = .ok (.iload 5, 2) := by decide +kernel
theorem d_M_before_36 : decode c_M_before 36 = .ok (.iload_n 2, 1) := by decide +kernel
theorem d_M_before_37 : decode c_M_before 37 = .ok (.if_icmp .lt 9, 3) := by decide +kernel
theorem d_M_before_40 : decode c_M_before 40 = .ok (.iload 6, 2) := by decide +kernel
theorem d_M_before_42 : decode c_M_before 42 = .ok (.iload_n 3, 1) := by decide +kernel
theorem d_M_before_43 : decode c_M_before 43 = .ok (.if_icmp .ge 40, 3) := by decide +kernel
theorem d_M_before_46 : decode c_M_before 46 = .ok (.iload 4, 2) := by decide +kernel
theorem d_M_before_48 : decode c_M_before 48 = .ok (.iload_n 1, 1) := by decide +kernel
theorem d_M_before_49 : decode c_M_before 49 = .ok (.ifCond .lt 20, 3) := by decide +kernel
theorem d_M_before_52 : decode c_M_before 52 = .ok (.aload_n 0, 1) := by decide +kernel
theorem d_M_before_53 : decode c_M_before 53 = .ok (.getfield 13, 3) := by decide +kernel
theorem d_M_before_56 : decode c_M_before 56 = .ok (.bipush 12, 2) := by decide +kernel
theorem d_M_before_58 : decode c_M_before 58 = .ok (.iload 5, 2) := by decide +kernel
theorem d_M_before_60 : decode c_M_before 60 = .ok (.imul, 1) := by decide +kernel
theorem d_M_before_61 : decode c_M_before 61 = .ok (.iload 6, 2) := by decide +kernel
theorem d_M_before_63 : decode c_M_before 63 = .ok (.iadd, 1) := by decide +kernel
theorem d_M_before_64 : decode c_M_before 64 = .ok (.iaload, 1) := by decide +kernel
theorem d_M_before_65 : decode c_M_before 65 = .ok (.iload_n 1, 1) := by decide +kernel
theorem d_M_before_66 : decode c_M_before 66 = .ok (.if_icmp .ne 7, 3) := by decide +kernel
theorem d_M_before_69 : decode c_M_before 69 = .ok (.iconst 1, 1) := by decide +kernel
theorem d_M_before_70 : decode c_M_before 70 = .ok (.goto 4, 3) := by decide +kernel
theorem d_M_before_73 : decode c_M_before 73 = .ok (.iconst 0, 1) := by decide +kernel
theorem d_M_before_74 : decode c_M_before 74 = .ok (.iadd, 1) := by decide +kernel
theorem d_M_before_75 : decode c_M_before 75 = .ok (.istore 4, 2) := by decide +kernel
theorem d_M_before_77 : decode c_M_before 77 = .ok (.iinc 6 1, 3) := by decide +kernel
theorem d_M_before_80 : decode c_M_before 80 = .ok (.goto (-58), 3) := by decide +kernel
theorem d_M_before_83 : decode c_M_before 83 = .ok (.iinc 5 1, 3) := by decide +kernel
theorem d_M_before_86 : decode c_M_before 86 = .ok (.goto (-80), 3) := by decide +kernel
theorem d_M_before_89 : decode c_M_before 89 = .ok (.iload 4, 2) := by decide +kernel
theorem d_M_before_91 : decode c_M_before 91 = .ok (.ireturn, 1) := by decide +kernel
theorem d_M_operands_0 : decode c_M_operands 0 = .ok (.iload_n 0, 1) := by decide +kernel
theorem d_M_operands_1 : decode c_M_operands 1 = .ok (.bipush 8, 2) := by decide +kernel
theorem d_M_operands_3 : decode c_M_operands 3 = .ok (.if_icmp .eq 9, 3) := by decide +kernel
theorem d_M_operands_6 : decode c_M_operands 6 = .ok (.iload_n 0, 1) := by decide +kernel
theorem d_M_operands_7 : decode c_M_operands 7 = .ok (.bipush 9, 2) := by decide +kernel
theorem d_M_operands_9 : decode c_M_operands 9 = .ok (.if_icmp .ne 13, 3) := by decide +kernel
theorem d_M_operands_12 : decode c_M_operands 12 = .ok (.iload_n 1, 1) := by decide +kernel
theorem d_M_operands_13 : decode c_M_operands 13 = .ok (.iconst 0, 1) := by decide +kernel
theorem d_M_operands_14 : decode c_M_operands 14 = .ok (.bipush 11, 2) := by decide +kernel
theorem d_M_operands_16 : decode c_M_operands 16 = .ok (.invokestatic 81, 3) := by decide +kernel
theorem d_M_operands_19 : decode c_M_operands 19 = .ok (.goto 9, 3) := by decide +kernel
theorem d_M_operands_22 : decode c_M_operands 22 = .ok (.iload_n 1, 1) := by decide +kernel
theorem d_M_operands_23 : decode c_M_operands 23 = .ok (.iconst 0, 1) := by decide +kernel
theorem d_M_operands_24 : decode c_M_operands 24 = .ok (.iconst 3, 1) := by decide +kernel
theorem d_M_operands_25 : decode c_M_operands 25 = .ok (.invokestatic 81, 3) := by decide +kernel
theorem d_M_operands_28 : decode c_M_operands 28 = .ok (.istore 4, 2) := by decide +kernel
theorem d_M_operands_30 : decode c_M_operands 30 = .ok (.iload_n 0, 1) := by decide +kernel
theorem d_M_operands_31 : decode c_M_operands 31 = .ok (.ifCond .eq 14, 3) := by decide +kernel
theorem d_M_operands_34 : decode c_M_operands 34 = .ok (.iload_n 0, 1) := by decide +kernel
theorem d_M_operands_35 : decode c_M_operands 35 = .ok (.iconst 4, 1) := by decide +kernel
theorem d_M_operands_36 : decode c_M_operands 36 = .ok (.if_icmp .lt 30, 3) := by decide +kernel
theorem d_M_operands_39 : decode c_M_operands 39 = .ok (.iload_n 0, 1) := by decide +kernel
theorem d_M_operands_40 : decode c_M_operands 40 = .ok (.bipush 7, 2) := by decide +kernel
theorem d_M_operands_42 : decode c_M_operands 42 = .ok (.if_icmp .gt 24, 3) := by decide +kernel
theorem d_M_operands_45 : decode c_M_operands 45 = .ok (.iload 4, 2) := by decide +kernel
theorem d_M_operands_47 : decode c_M_operands 47 = .ok (.ifCond .eq 16, 3) := by decide +kernel
theorem d_M_operands_50 : decode c_M_operands 50 = .ok (.iload_n 2, 1) := by decide +kernel
theorem d_M_operands_51 : decode c_M_operands 51 = .ok (.iconst 0, 1) := by decide +kernel
theorem d_M_operands_52 : decode c_M_operands 52 = .ok (.iconst 3, 1) := by decide +kernel
theorem d_M_operands_53 : decode c_M_operands 53 = .ok (.invokestatic 81, 3) := by decide +kernel
theorem d_M_operands_56 : decode c_M_operands 56 = .ok (.ifCond .eq 7, 3) := by decide +kernel
theorem d_M_operands_59 : decode c_M_operands 59 = .ok (.iconst 1, 1) := by decide +kernel
theorem d_M_operands_60 : decode c_M_operands 60 = .ok (.goto 4, 3) := by decide +kernel
theorem d_M_operands_63 : decode c_M_operands 63 = .ok (.iconst 0, 1) := by decide +kernel
theorem d_M_operands_64 : decode c_M_operands 64 = .ok (.istore 4, 2) := by decide +kernel
theorem d_M_operands_66 : decode c_M_operands 66 = .ok (.iload_n 0, 1) := by decide +kernel
theorem d_M_operands_67 : decode c_M_operands 67 = .ok (.iconst 5, 1) := by decide +kernel
theorem d_M_operands_68 : decode c_M_operands 68 = .ok (.if_icmp .lt 41, 3) := by decide +kernel
theorem d_M_operands_71 : decode c_M_operands 71 = .ok (.iload_n 0, 1) := by decide +kernel
theorem d_M_operands_72 : decode c_M_operands 72 = .ok (.bipush 7, 2) := by decide +kernel
theorem d_M_operands_74 : decode c_M_operands 74 = .ok (.if_icmp .gt 35, 3) := by decide +kernel
theorem d_M_operands_77 : decode c_M_operands 77 = .ok (.iload 4, 2) := by decide +kernel
theorem d_M_operands_79 : decode c_M_operands 79 = .ok (.ifCond .eq 27, 3) := by decide +kernel
theorem d_M_operands_82 : decode c_M_operands 82 = .ok (.iload_n 3, 1) := by decide +kernel
theorem d_M_operands_83 : decode c_M_operands 83 = .ok (.iconst 0, 1) := by decide +kernel
theorem d_M_operands_84 : decode c_M_operands 84 = .ok (.iload_n 0, 1) := by decide +kernel
theorem d_M_operands_85 : decode c_M_operands 85 = .ok (.bipush 7, 2) := by decide +kernel
theorem d_M_operands_87 : decode c_M_operands 87 = .ok (.if_icmp .ne 8, 3) := by decide +kernel
theorem d_M_operands_90 : decode c_M_operands 90 = .ok (.bipush 11, 2) := by decide +kernel
theorem d_M_operands_92 : decode c_M_operands 92 = .ok (.goto 4, 3) := by decide +kernel
theorem d_M_operands_95 : decode c_M_operands 95 = .ok (.iconst 1, 1) := by decide +kernel
theorem d_M_operands_96 : decode c_M_operands 96 = .ok (.invokestatic 81, 3) := by decide +kernel
theorem d_M_operands_99 : decode c_M_operands 99 = .ok (.ifCond .eq 7, 3) := by decide +kernel
theorem d_M_operands_102 : decode c_M_operands 102 = .ok (.iconst 1, 1) := by decide +kernel
theorem d_M_operands_103 : decode c_M_operands 103 = .ok (.goto 4, 3) := by decide +kernel
theorem d_M_operands_106 : decode c_M_operands 106 = .ok (.iconst 0, 1) := by decide +kernel
theorem d_M_operands_107 : decode c_M_operands 107 = .ok (.istore 4, 2) := by decide +kernel
theorem d_M_operands_109 : decode c_M_operands 109 = .ok (.iload 4, 2) := by decide +kernel
theorem d_M_operands_111 : decode c_M_operands 111 = .ok (.ireturn, 1) := by decide +kernel
theorem d_M_change_0 : decode c_M_change 0 = .ok (.aload_n 0, 1) := by decide +kernel
theorem d_M_change_1 : decode c_M_change 1 = .ok (.iconst 0, 1) := by decide +kernel
theorem d_M_change_2 : decode c_M_change 2 = .ok (.putfield 85, 3) := by decide +kernel
theorem d_M_change_5 : decode c_M_change 5 = .ok (.aload_n 0, 1) := by decide +kernel
theorem d_M_change_6 : decode c_M_change 6 = .ok (.iconst 0, 1) := by decide +kernel
theorem d_M_change_7 : decode c_M_change 7 = .ok (.putfield 89, 3) := by decide +kernel
theorem d_M_change_10 : decode c_M_change 10 = .ok (.return_, 1) := by decide +kernel
theorem d_M_add_0 : decode c_M_add 0 = .ok (.iload_n 1, 1) := by decide +kernel
theorem d_M_add_1 : decode c_M_add 1 = .ok (.iconst 0, 1) := by decide +kernel
theorem d_M_add_2 : decode c_M_add 2 = .ok (.iconst 5, 1) := by decide +kernel
theorem d_M_add_3 : decode c_M_add 3 = .ok (.invokestatic 81, 3) := by decide +kernel
theorem d_M_add_6 : decode c_M_add 6 = .ok (.ifCond .eq 25, 3) := by decide +kernel
theorem d_M_add_9 : decode c_M_add 9 = .ok (.iload_n 2, 1) := by decide +kernel
theorem d_M_add_10 : decode c_M_add 10 = .ok (.iconst 0, 1) := by decide +kernel
theorem d_M_add_11 : decode c_M_add 11 = .ok (.bipush 10, 2) := by decide +kernel
theorem d_M_add_13 : decode c_M_add 13 = .ok (.invokestatic 81, 3) := by decide +kernel
theorem d_M_add_16 : decode c_M_add 16 = .ok (.ifCond .eq 15, 3) := by decide +kernel
theorem d_M_add_19 : decode c_M_add 19 = .ok (.iload_n 2, 1) := by decide +kernel
theorem d_M_add_20 : decode c_M_add 20 = .ok (.iload_n 3, 1) := by decide +kernel
theorem d_M_add_21 : decode c_M_add 21 = .ok (.iload 4, 2) := by decide +kernel
theorem d_M_add_23 : decode c_M_add 23 = .ok (.iload 5, 2) := by decide +kernel
theorem d_M_add_25 : decode c_M_add 25 = .ok (.invokestatic 92, 3) := by decide +kernel
theorem d_M_add_28 : decode c_M_add 28 = .ok (.ifCond .ne 5, 3) := by decide +kernel
theorem d_M_add_31 : decode c_M_add 31 = .ok (.iconst (-1), 1) := by decide +kernel
theorem d_M_add_32 : decode c_M_add 32 = .ok (.ireturn, 1) := by decide +kernel
theorem d_M_add_33 : decode c_M_add 33 = .ok (.iload_n 2, 1) := by decide +kernel
theorem d_M_add_34 : decode c_M_add 34 = .ok (.ifCond .ne 8, 3) := by decide +kernel
theorem d_M_add_37 : decode c_M_add 37 = .ok (.bipush 6, 2) := by decide +kernel
theorem d_M_add_39 : decode c_M_add 39 = .ok (.goto 14, 3) := by decide +kernel
theorem d_M_add_42 : decode c_M_add 42 = .ok (.iload_n 2, 1) := by decide +kernel
theorem d_M_add_43 : decode c_M_add 43 = .ok (.iconst 2, 1) := by decide +kernel
theorem d_M_add_44 : decode c_M_add 44 = .ok (.if_icmp .gt 7, 3) := by decide +kernel
theorem d_M_add_47 : decode c_M_add 47 = .ok (.iconst 4, 1) := by decide +kernel
theorem d_M_add_48 : decode c_M_add 48 = .ok (.goto 5, 3) := by decide +kernel
theorem d_M_add_51 : decode c_M_add 51 = .ok (.bipush 32, 2) := by decide +kernel
theorem d_M_add_53 : decode c_M_add 53 = .ok (.istore 6, 2) := by decide +kernel
theorem d_M_add_55 : decode c_M_add 55 = .ok (.aload_n 0, 1) := by decide +kernel
theorem d_M_add_56 : decode c_M_add 56 = .ok (.getfield 7, 3) := by decide +kernel
theorem d_M_add_59 : decode c_M_add 59 = .ok (.iload_n 1, 1) := by decide +kernel
theorem d_M_add_60 : decode c_M_add 60 = .ok (.iaload, 1) := by decide +kernel
theorem d_M_add_61 : decode c_M_add 61 = .ok (.bipush 12, 2) := by decide +kernel
theorem d_M_add_63 : decode c_M_add 63 = .ok (.if_icmp .eq 29, 3) := by decide +kernel
theorem d_M_add_66 : decode c_M_add 66 = .ok (.aload_n 0, 1) := by decide +kernel
theorem d_M_add_67 : decode c_M_add 67 = .ok (.iconst (-1), 1) := by decide +kernel
theorem d_M_add_68 : decode c_M_add 68 = .ok (.bipush 6, 2) := by decide +kernel
theorem d_M_add_70 : decode c_M_add 70 = .ok (.iconst 0, 1) := by decide +kernel
theorem d_M_add_71 : decode c_M_add 71 = .ok (.invokevirtual 96, 3) := by decide +kernel
theorem d_M_add_74 : decode c_M_add 74 = .ok (.bipush 32, 2) := by decide +kernel
theorem d_M_add_76 : decode c_M_add 76 = .ok (.if_icmp .eq 16, 3) := by decide +kernel
theorem d_M_add_79 : decode c_M_add 79 = .ok (.aload_n 0, 1) := by decide +kernel
theorem d_M_add_80 : decode c_M_add 80 = .ok (.iload_n 2, 1) := by decide +kernel
theorem d_M_add_81 : decode c_M_add 81 = .ok (.bipush 6, 2) := by decide +kernel
theorem d_M_add_83 : decode c_M_add 83 = .ok (.iconst 0, 1) := by decide +kernel
theorem d_M_add_84 : decode c_M_add 84 = .ok (.invokevirtual 96, 3) := by decide +kernel
theorem d_M_add_87 : decode c_M_add 87 = .ok (.iload 6, 2) := by decide +kernel
theorem d_M_add_89 : decode c_M_add 89 = .ok (.if_icmp .ne 5, 3) := by decide +kernel
theorem d_M_add_92 : decode c_M_add 92 = .ok (.iconst (-1), 1) := by decide +kernel
theorem d_M_add_93 : decode c_M_add 93 = .ok (.ireturn, 1) := by decide +kernel
theorem d_M_add_94 : decode c_M_add 94 = .ok (.bipush 12, 2) := by decide +kernel
theorem d_M_add_96 : decode c_M_add 96 = .ok (.iload_n 1, 1) := by decide +kernel
theorem d_M_add_97 : decode c_M_add 97 = .ok (.imul, 1) := by decide +kernel
theorem d_M_add_98 : decode c_M_add 98 = .ok (.aload_n 0, 1) := by decide +kernel
theorem d_M_add_99 : decode c_M_add 99 = .ok (.getfield 7, 3) := by decide +kernel
theorem d_M_add_102 : decode c_M_add 102 = .ok (.iload_n 1, 1) := by decide +kernel
theorem d_M_add_103 : decode c_M_add 103 = .ok (.iaload, 1) := by decide +kernel
theorem d_M_add_104 : decode c_M_add 104 = .ok (.iadd, 1) := by decide +kernel
theorem d_M_add_105 : decode c_M_add 105 = .ok (.istore 7, 2) := by decide +kernel
theorem d_M_add_107 : decode c_M_add 107 = .ok (.aload_n 0, 1) := by decide +kernel
theorem d_M_add_108 : decode c_M_add 108 = .ok (.getfield 13, 3) := by decide +kernel
theorem d_M_add_111 : decode c_M_add 111 = .ok (.iload 7, 2) := by decide +kernel
theorem d_M_add_113 : decode c_M_add 113 = .ok (.iload_n 2, 1) := by decide +kernel
theorem d_M_add_114 : decode c_M_add 114 = .ok (.iastore, 1) := by decide +kernel
theorem d_M_add_115 : decode c_M_add 115 = .ok (.aload_n 0, 1) := by decide +kernel
theorem d_M_add_116 : decode c_M_add 116 = .ok (.getfield 16, 3) := by decide +kernel
theorem d_M_add_119 : decode c_M_add 119 = .ok (.iload 7, 2) := by decide +kernel
theorem d_M_add_121 : decode c_M_add 121 = .ok (.iload_n 3, 1) := by decide +kernel
theorem d_M_add_122 : decode c_M_add 122 = .ok (.iastore, 1) := by decide +kernel
theorem d_M_add_123 : decode c_M_add 123 = .ok (.aload_n 0, 1) := by decide +kernel
theorem d_M_add_124 : decode c_M_add 124 = .ok (.getfield 19, 3) := by decide +kernel
theorem d_M_add_127 : decode c_M_add 127 = .ok (.iload 7, 2) := by decide +kernel
theorem d_M_add_129 : decode c_M_add 129 = .ok (.iload 4, 2) := by decide +kernel
theorem d_M_add_131 : decode c_M_add 131 = .ok (.iastore, 1) := by decide +kernel
theorem d_M_add_132 : decode c_M_add 132 = .ok (.aload_n 0, 1) := by decide +kernel
theorem d_M_add_133 : decode c_M_add 133 = .ok (.getfield 22, 3) := by decide +kernel
theorem d_M_add_136 : decode c_M_add 136 = .ok (.iload 7, 2) := by decide +kernel
theorem d_M_add_138 : decode c_M_add 138 = .ok (.iload 5, 2) := by decide +kernel
theorem d_M_add_140 : decode c_M_add 140 = .ok (.iastore, 1) := by decide +kernel
theorem d_M_add_141 : decode c_M_add 141 = .ok (.aload_n 0, 1) := by decide +kernel
theorem d_M_add_142 : decode c_M_add 142 = .ok (.getfield 7, 3) := by decide +kernel
theorem d_M_add_145 : decode c_M_add 145 = .ok (.iload_n 1, 1) := by decide +kernel
theorem d_M_add_146 : decode c_M_add 146 = .ok (.dup2, 1) := by decide +kernel
theorem d_M_add_147 : decode c_M_add 147 = .ok (.iaload, 1) := by decide +kernel
theorem d_M_add_148 : decode c_M_add 148 = .ok (.iconst 1, 1) := by decide +kernel
theorem d_M_add_149 : decode c_M_add 149 = .ok (.iadd, 1) := by decide +kernel
theorem d_M_add_150 : decode c_M_add 150 = .ok (.iastore, 1) := by decide +kernel
theorem d_M_add_151 : decode c_M_add 151 = .ok (.aload_n 0, 1) := by decide +kernel
theorem d_M_add_152 : decode c_M_add 152 = .ok (.invokevirtual 100, 3) := by decide +kernel
theorem d_M_add_155 : decode c_M_add 155 = .ok (.aload_n 0, 1) := by decide +kernel
theorem d_M_add_156 : decode c_M_add 156 = .ok (.getfield 7, 3) := by decide +kernel
theorem d_M_add_159 : decode c_M_add 159 = .ok (.iload_n 1, 1) := by decide +kernel
theorem d_M_add_160 : decode c_M_add 160 = .ok (.iaload, 1) := by decide +kernel
theorem d_M_add_161 : decode c_M_add 161 = .ok (.iconst 1, 1) := by decide +kernel
theorem d_M_add_162 : decode c_M_add 162 = .ok (.isub, 1) := by decide +kernel
theorem d_M_add_163 : decode c_M_add 163 = .ok (.ireturn, 1) := by decide +kernel
theorem d_M_drop_0 : decode c_M_drop 0 = .ok (.iload_n 1, 1) := by decide +kernel
theorem d_M_drop_1 : decode c_M_drop 1 = .ok (.iconst 0, 1) := by decide +kernel
theorem d_M_drop_2 : decode c_M_drop 2 = .ok (.iconst 5, 1) := by decide +kernel
theorem d_M_drop_3 : decode c_M_drop 3 = .ok (.invokestatic 81, 3) := by decide +kernel
theorem d_M_drop_6 : decode c_M_drop 6 = .ok (.ifCond .eq 12, 3) := by decide +kernel
theorem d_M_drop_9 : decode c_M_drop 9 = .ok (.aload_n 0, 1) := by decide +kernel
theorem d_M_drop_10 : decode c_M_drop 10 = .ok (.getfield 7, 3) := by decide +kernel
theorem d_M_drop_13 : decode c_M_drop 13 = .ok (.iload_n 1, 1) := by decide +kernel
theorem d_M_drop_14 : decode c_M_drop 14 = .ok (.iaload, 1) := by decide +kernel
theorem d_M_drop_15 : decode c_M_drop 15 = .ok (.ifCond .ne 5, 3) := by decide +kernel
theorem d_M_drop_18 : decode c_M_drop 18 = .ok (.iconst 0, 1) := by decide +kernel
theorem d_M_drop_19 : decode c_M_drop 19 = .ok (.ireturn, 1) := by decide +kernel
theorem d_M_drop_20 : decode c_M_drop 20 = .ok (.aload_n 0, 1) := by decide +kernel
theorem d_M_drop_21 : decode c_M_drop 21 = .ok (.getfield 7, 3) := by decide +kernel
theorem d_M_drop_24 : decode c_M_drop 24 = .ok (.iload_n 1, 1) := by decide +kernel
theorem d_M_drop_25 : decode c_M_drop 25 = .ok (.dup2, 1) := by decide +kernel
theorem d_M_drop_26 : decode c_M_drop 26 = .ok (.iaload, 1) := by decide +kernel
theorem d_M_drop_27 : decode c_M_drop 27 = .ok (.iconst 1, 1) := by decide +kernel
theorem d_M_drop_28 : decode c_M_drop 28 = .ok (.isub, 1) := by decide +kernel
theorem d_M_drop_29 : decode c_M_drop 29 = .ok (.iastore, 1) := by decide +kernel
theorem d_M_drop_30 : decode c_M_drop 30 = .ok (.aload_n 0, 1) := by decide +kernel
theorem d_M_drop_31 : decode c_M_drop 31 = .ok (.invokevirtual 100, 3) := by decide +kernel
theorem d_M_drop_34 : decode c_M_drop 34 = .ok (.iconst 1, 1) := by decide +kernel
theorem d_M_drop_35 : decode c_M_drop 35 = .ok (.ireturn, 1) := by decide +kernel
theorem d_M_derive_0 : decode c_M_derive 0 = .ok (.iload_n 1, 1) := by decide +kernel
theorem d_M_derive_1 : decode c_M_derive 1 = .ok (.iconst 0, 1) := by decide +kernel
theorem d_M_derive_2 : decode c_M_derive 2 = .ok (.iconst 3, 1) := by decide +kernel
theorem d_M_derive_3 : decode c_M_derive 3 = .ok (.invokestatic 81, 3) := by decide +kernel
theorem d_M_derive_6 : decode c_M_derive 6 = .ok (.ifCond .eq 14, 3) := by decide +kernel
theorem d_M_derive_9 : decode c_M_derive 9 = .ok (.iload_n 2, 1) := by decide +kernel
theorem d_M_derive_10 : decode c_M_derive 10 = .ok (.iconst (-1), 1) := by decide +kernel
theorem d_M_derive_11 : decode c_M_derive 11 = .ok (.iload_n 1, 1) := by decide +kernel
theorem d_M_derive_12 : decode c_M_derive 12 = .ok (.iconst 1, 1) := by decide +kernel
theorem d_M_derive_13 : decode c_M_derive 13 = .ok (.isub, 1) := by decide +kernel
theorem d_M_derive_14 : decode c_M_derive 14 = .ok (.invokestatic 81, 3) := by decide +kernel
theorem d_M_derive_17 : decode c_M_derive 17 = .ok (.ifCond .ne 5, 3) := by decide +kernel
theorem d_M_derive_20 : decode c_M_derive 20 = .ok (.iconst 0, 1) := by decide +kernel
theorem d_M_derive_21 : decode c_M_derive 21 = .ok (.ireturn, 1) := by decide +kernel
theorem d_M_derive_22 : decode c_M_derive 22 = .ok (.aload_n 0, 1) := by decide +kernel
theorem d_M_derive_23 : decode c_M_derive 23 = .ok (.getfield 25, 3) := by decide +kernel
theorem d_M_derive_26 : decode c_M_derive 26 = .ok (.iload_n 1, 1) := by decide +kernel
theorem d_M_derive_27 : decode c_M_derive 27 = .ok (.iload_n 2, 1) := by decide +kernel
theorem d_M_derive_28 : decode c_M_derive 28 = .ok (.iastore, 1) := by decide +kernel
theorem d_M_derive_29 : decode c_M_derive 29 = .ok (.aload_n 0, 1) := by decide +kernel
theorem d_M_derive_30 : decode c_M_derive 30 = .ok (.invokevirtual 100, 3) := by decide +kernel
theorem d_M_derive_33 : decode c_M_derive 33 = .ok (.iconst 1, 1) := by decide +kernel
theorem d_M_derive_34 : decode c_M_derive 34 = .ok (.ireturn, 1) := by decide +kernel
theorem d_M_bind_0 : decode c_M_bind 0 = .ok (.iload_n 1, 1) := by decide +kernel
theorem d_M_bind_1 : decode c_M_bind 1 = .ok (.iconst 0, 1) := by decide +kernel
theorem d_M_bind_2 : decode c_M_bind 2 = .ok (.iconst 3, 1) := by decide +kernel
theorem d_M_bind_3 : decode c_M_bind 3 = .ok (.invokestatic 81, 3) := by decide +kernel
theorem d_M_bind_6 : decode c_M_bind 6 = .ok (.ifCond .eq 21, 3) := by decide +kernel
theorem d_M_bind_9 : decode c_M_bind 9 = .ok (.iload_n 2, 1) := by decide +kernel
theorem d_M_bind_10 : decode c_M_bind 10 = .ok (.iconst 0, 1) := by decide +kernel
theorem d_M_bind_11 : decode c_M_bind 11 = .ok (.iconst 2, 1) := by decide +kernel
theorem d_M_bind_12 : decode c_M_bind 12 = .ok (.invokestatic 81, 3) := by decide +kernel
theorem d_M_bind_15 : decode c_M_bind 15 = .ok (.ifCond .eq 12, 3) := by decide +kernel
theorem d_M_bind_18 : decode c_M_bind 18 = .ok (.iload_n 3, 1) := by decide +kernel
theorem d_M_bind_19 : decode c_M_bind 19 = .ok (.iconst (-1), 1) := by decide +kernel
theorem d_M_bind_20 : decode c_M_bind 20 = .ok (.iconst 5, 1) := by decide +kernel
theorem d_M_bind_21 : decode c_M_bind 21 = .ok (.invokestatic 81, 3) := by decide +kernel
theorem d_M_bind_24 : decode c_M_bind 24 = .ok (.ifCond .ne 5, 3) := by decide +kernel
theorem d_M_bind_27 : decode c_M_bind 27 = .ok (.iconst 0, 1) := by decide +kernel
theorem d_M_bind_28 : decode c_M_bind 28 = .ok (.ireturn, 1) := by decide +kernel
theorem d_M_bind_29 : decode c_M_bind 29 = .ok (.aload_n 0, 1) := by decide +kernel
theorem d_M_bind_30 : decode c_M_bind 30 = .ok (.getfield 28, 3) := by decide +kernel
theorem d_M_bind_33 : decode c_M_bind 33 = .ok (.iconst 3, 1) := by decide +kernel
theorem d_M_bind_34 : decode c_M_bind 34 = .ok (.iload_n 1, 1) := by decide +kernel
theorem d_M_bind_35 : decode c_M_bind 35 = .ok (.imul, 1) := by decide +kernel
theorem d_M_bind_36 : decode c_M_bind 36 = .ok (.iload_n 2, 1) := by decide +kernel
theorem d_M_bind_37 : decode c_M_bind 37 = .ok (.iadd, 1) := by decide +kernel
theorem d_M_bind_38 : decode c_M_bind 38 = .ok (.iload_n 3, 1) := by decide +kernel
theorem d_M_bind_39 : decode c_M_bind 39 = .ok (.iastore, 1) := by decide +kernel
theorem d_M_bind_40 : decode c_M_bind 40 = .ok (.aload_n 0, 1) := by decide +kernel
theorem d_M_bind_41 : decode c_M_bind 41 = .ok (.invokevirtual 100, 3) := by decide +kernel
theorem d_M_bind_44 : decode c_M_bind 44 = .ok (.iconst 1, 1) := by decide +kernel
theorem d_M_bind_45 : decode c_M_bind 45 = .ok (.ireturn, 1) := by decide +kernel
theorem d_M_target_0 : decode c_M_target 0 = .ok (.iload_n 1, 1) := by decide +kernel
theorem d_M_target_1 : decode c_M_target 1 = .ok (.iconst 0, 1) := by decide +kernel
theorem d_M_target_2 : decode c_M_target 2 = .ok (.iconst 3, 1) := by decide +kernel
theorem d_M_target_3 : decode c_M_target 3 = .ok (.invokestatic 81, 3) := by decide +kernel
theorem d_M_target_6 : decode c_M_target 6 = .ok (.ifCond .eq 12, 3) := by decide +kernel
theorem d_M_target_9 : decode c_M_target 9 = .ok (.iload_n 2, 1) := by decide +kernel
theorem d_M_target_10 : decode c_M_target 10 = .ok (.iconst 0, 1) := by decide +kernel
theorem d_M_target_11 : decode c_M_target 11 = .ok (.iconst 2, 1) := by decide +kernel
theorem d_M_target_12 : decode c_M_target 12 = .ok (.invokestatic 81, 3) := by decide +kernel
theorem d_M_target_15 : decode c_M_target 15 = .ok (.ifCond .ne 5, 3) := by decide +kernel
theorem d_M_target_18 : decode c_M_target 18 = .ok (.iconst (-1), 1) := by decide +kernel
theorem d_M_target_19 : decode c_M_target 19 = .ok (.ireturn, 1) := by decide +kernel
theorem d_M_target_20 : decode c_M_target 20 = .ok (.iload_n 1, 1) := by decide +kernel
theorem d_M_target_21 : decode c_M_target 21 = .ok (.istore_n 3, 1) := by decide +kernel
theorem d_M_target_22 : decode c_M_target 22 = .ok (.iconst 0, 1) := by decide +kernel
theorem d_M_target_23 : decode c_M_target 23 = .ok (.istore 4, 2) := by decide +kernel
theorem d_M_target_25 : decode c_M_target 25 = .ok (.iload 4, 2) := by decide +kernel
theorem d_M_target_27 : decode c_M_target 27 = .ok (.iconst 4, 1) := by decide +kernel
theorem d_M_target_28 : decode c_M_target 28 = .ok (.if_icmp .ge 44, 3) := by decide +kernel
theorem d_M_target_31 : decode c_M_target 31 = .ok (.iload_n 3, 1) := by decide +kernel
theorem d_M_target_32 : decode c_M_target 32 = .ok (.ifCond .lt 40, 3) := by decide +kernel
theorem d_M_target_35 : decode c_M_target 35 = .ok (.aload_n 0, 1) := by decide +kernel
theorem d_M_target_36 : decode c_M_target 36 = .ok (.getfield 28, 3) := by decide +kernel
theorem d_M_target_39 : decode c_M_target 39 = .ok (.iconst 3, 1) := by decide +kernel
theorem d_M_target_40 : decode c_M_target 40 = .ok (.iload_n 3, 1) := by decide +kernel
theorem d_M_target_41 : decode c_M_target 41 = .ok (.imul, 1) := by decide +kernel
theorem d_M_target_42 : decode c_M_target 42 = .ok (.iload_n 2, 1) := by decide +kernel
theorem d_M_target_43 : decode c_M_target 43 = .ok (.iadd, 1) := by decide +kernel
theorem d_M_target_44 : decode c_M_target 44 = .ok (.iaload, 1) := by decide +kernel
theorem d_M_target_45 : decode c_M_target 45 = .ok (.ifCond .lt 14, 3) := by decide +kernel
theorem d_M_target_48 : decode c_M_target 48 = .ok (.aload_n 0, 1) := by decide +kernel
theorem d_M_target_49 : decode c_M_target 49 = .ok (.getfield 28, 3) := by decide +kernel
theorem d_M_target_52 : decode c_M_target 52 = .ok (.iconst 3, 1) := by decide +kernel
theorem d_M_target_53 : decode c_M_target 53 = .ok (.iload_n 3, 1) := by decide +kernel
theorem d_M_target_54 : decode c_M_target 54 = .ok (.imul, 1) := by decide +kernel
theorem d_M_target_55 : decode c_M_target 55 = .ok (.iload_n 2, 1) := by decide +kernel
theorem d_M_target_56 : decode c_M_target 56 = .ok (.iadd, 1) := by decide +kernel
theorem d_M_target_57 : decode c_M_target 57 = .ok (.iaload, 1) := by decide +kernel
theorem d_M_target_58 : decode c_M_target 58 = .ok (.ireturn, 1) := by decide +kernel
theorem d_M_target_59 : decode c_M_target 59 = .ok (.aload_n 0, 1) := by decide +kernel
theorem d_M_target_60 : decode c_M_target 60 = .ok (.getfield 25, 3) := by decide +kernel
theorem d_M_target_63 : decode c_M_target 63 = .ok (.iload_n 3, 1) := by decide +kernel
theorem d_M_target_64 : decode c_M_target 64 = .ok (.iaload, 1) := by decide +kernel
theorem d_M_target_65 : decode c_M_target 65 = .ok (.istore_n 3, 1) := by decide +kernel
theorem d_M_target_66 : decode c_M_target 66 = .ok (.iinc 4 1, 3) := by decide +kernel
theorem d_M_target_69 : decode c_M_target 69 = .ok (.goto (-44), 3) := by decide +kernel
theorem d_M_target_72 : decode c_M_target 72 = .ok (.iconst (-1), 1) := by decide +kernel
theorem d_M_target_73 : decode c_M_target 73 = .ok (.ireturn, 1) := by decide +kernel
theorem d_M_size_0 : decode c_M_size 0 = .ok (.iload_n 1, 1) := by decide +kernel
theorem d_M_size_1 : decode c_M_size 1 = .ok (.iconst 0, 1) := by decide +kernel
theorem d_M_size_2 : decode c_M_size 2 = .ok (.iconst 5, 1) := by decide +kernel
theorem d_M_size_3 : decode c_M_size 3 = .ok (.invokestatic 81, 3) := by decide +kernel
theorem d_M_size_6 : decode c_M_size 6 = .ok (.ifCond .eq 12, 3) := by decide +kernel
theorem d_M_size_9 : decode c_M_size 9 = .ok (.aload_n 0, 1) := by decide +kernel
theorem d_M_size_10 : decode c_M_size 10 = .ok (.getfield 7, 3) := by decide +kernel
theorem d_M_size_13 : decode c_M_size 13 = .ok (.iload_n 1, 1) := by decide +kernel
theorem d_M_size_14 : decode c_M_size 14 = .ok (.iaload, 1) := by decide +kernel
theorem d_M_size_15 : decode c_M_size 15 = .ok (.goto 4, 3) := by decide +kernel
theorem d_M_size_18 : decode c_M_size 18 = .ok (.iconst 0, 1) := by decide +kernel
theorem d_M_size_19 : decode c_M_size 19 = .ok (.ireturn, 1) := by decide +kernel
theorem d_M_classOf_0 : decode c_M_classOf 0 = .ok (.iconst 0, 1) := by decide +kernel
theorem d_M_classOf_1 : decode c_M_classOf 1 = .ok (.istore_n 2, 1) := by decide +kernel
theorem d_M_classOf_2 : decode c_M_classOf 2 = .ok (.iload_n 2, 1) := by decide +kernel
theorem d_M_classOf_3 : decode c_M_classOf 3 = .ok (.bipush 72, 2) := by decide +kernel
theorem d_M_classOf_5 : decode c_M_classOf 5 = .ok (.if_icmp .ge 69, 3) := by decide +kernel
theorem d_M_classOf_8 : decode c_M_classOf 8 = .ok (.iload_n 2, 1) := by decide +kernel
theorem d_M_classOf_9 : decode c_M_classOf 9 = .ok (.bipush 12, 2) := by decide +kernel
theorem d_M_classOf_11 : decode c_M_classOf 11 = .ok (.idiv, 1) := by decide +kernel
theorem d_M_classOf_12 : decode c_M_classOf 12 = .ok (.istore_n 3, 1) := by decide +kernel
theorem d_M_classOf_13 : decode c_M_classOf 13 = .ok (.iload_n 2, 1) := by decide +kernel
theorem d_M_classOf_14 : decode c_M_classOf 14 = .ok (.bipush 12, 2) := by decide +kernel
theorem d_M_classOf_16 : decode c_M_classOf 16 = .ok (.irem, 1) := by decide +kernel
theorem d_M_classOf_17 : decode c_M_classOf 17 = .ok (.aload_n 0, 1) := by decide +kernel
theorem d_M_classOf_18 : decode c_M_classOf 18 = .ok (.getfield 7, 3) := by decide +kernel
theorem d_M_classOf_21 : decode c_M_classOf 21 = .ok (.iload_n 3, 1) := by decide +kernel
theorem d_M_classOf_22 : decode c_M_classOf 22 = .ok (.iaload, 1) := by decide +kernel
theorem d_M_classOf_23 : decode c_M_classOf 23 = .ok (.if_icmp .ge 16, 3) := by decide +kernel
theorem d_M_classOf_26 : decode c_M_classOf 26 = .ok (.aload_n 0, 1) := by decide +kernel
theorem d_M_classOf_27 : decode c_M_classOf 27 = .ok (.getfield 13, 3) := by decide +kernel
theorem d_M_classOf_30 : decode c_M_classOf 30 = .ok (.iload_n 2, 1) := by decide +kernel
theorem d_M_classOf_31 : decode c_M_classOf 31 = .ok (.iaload, 1) := by decide +kernel
theorem d_M_classOf_32 : decode c_M_classOf 32 = .ok (.ifCond .ne 7, 3) := by decide +kernel
theorem d_M_classOf_35 : decode c_M_classOf 35 = .ok (.iconst 1, 1) := by decide +kernel
theorem d_M_classOf_36 : decode c_M_classOf 36 = .ok (.goto 4, 3) := by decide +kernel
theorem d_M_classOf_39 : decode c_M_classOf 39 = .ok (.iconst 0, 1) := by decide +kernel
theorem d_M_classOf_40 : decode c_M_classOf 40 = .ok (.istore 4, 2) := by decide +kernel
theorem d_M_classOf_42 : decode c_M_classOf 42 = .ok (.iload 4, 2) := by decide +kernel
theorem d_M_classOf_44 : decode c_M_classOf 44 = .ok (.ifCond .eq 24, 3) := by decide +kernel
theorem d_M_classOf_47 : decode c_M_classOf 47 = .ok (.aload_n 0, 1) := by decide +kernel
theorem d_M_classOf_48 : decode c_M_classOf 48 = .ok (.iconst 0, 1) := by decide +kernel
theorem d_M_classOf_49 : decode c_M_classOf 49 = .ok (.iload_n 3, 1) := by decide +kernel
theorem d_M_classOf_50 : decode c_M_classOf 50 = .ok (.iload_n 2, 1) := by decide +kernel
theorem d_M_classOf_51 : decode c_M_classOf 51 = .ok (.bipush 12, 2) := by decide +kernel
theorem d_M_classOf_53 : decode c_M_classOf 53 = .ok (.irem, 1) := by decide +kernel
theorem d_M_classOf_54 : decode c_M_classOf 54 = .ok (.invokevirtual 96, 3) := by decide +kernel
theorem d_M_classOf_57 : decode c_M_classOf 57 = .ok (.iload_n 1, 1) := by decide +kernel
theorem d_M_classOf_58 : decode c_M_classOf 58 = .ok (.if_icmp .ne 10, 3) := by decide +kernel
theorem d_M_classOf_61 : decode c_M_classOf 61 = .ok (.aload_n 0, 1) := by decide +kernel
theorem d_M_classOf_62 : decode c_M_classOf 62 = .ok (.getfield 19, 3) := by decide +kernel
theorem d_M_classOf_65 : decode c_M_classOf 65 = .ok (.iload_n 2, 1) := by decide +kernel
theorem d_M_classOf_66 : decode c_M_classOf 66 = .ok (.iaload, 1) := by decide +kernel
theorem d_M_classOf_67 : decode c_M_classOf 67 = .ok (.ireturn, 1) := by decide +kernel
theorem d_M_classOf_68 : decode c_M_classOf 68 = .ok (.iinc 2 1, 3) := by decide +kernel
theorem d_M_classOf_71 : decode c_M_classOf 71 = .ok (.goto (-69), 3) := by decide +kernel
theorem d_M_classOf_74 : decode c_M_classOf 74 = .ok (.iconst (-1), 1) := by decide +kernel
theorem d_M_classOf_75 : decode c_M_classOf 75 = .ok (.ireturn, 1) := by decide +kernel
theorem d_M_calls_0 : decode c_M_calls 0 = .ok (.aload_n 0, 1) := by decide +kernel
theorem d_M_calls_1 : decode c_M_calls 1 = .ok (.getfield 31, 3) := by decide +kernel
theorem d_M_calls_4 : decode c_M_calls 4 = .ok (.iconst 4, 1) := by decide +kernel
theorem d_M_calls_5 : decode c_M_calls 5 = .ok (.iload_n 1, 1) := by decide +kernel
theorem d_M_calls_6 : decode c_M_calls 6 = .ok (.bipush 12, 2) := by decide +kernel
theorem d_M_calls_8 : decode c_M_calls 8 = .ok (.idiv, 1) := by decide +kernel
theorem d_M_calls_9 : decode c_M_calls 9 = .ok (.imul, 1) := by decide +kernel
theorem d_M_calls_10 : decode c_M_calls 10 = .ok (.aload_n 0, 1) := by decide +kernel
theorem d_M_calls_11 : decode c_M_calls 11 = .ok (.getfield 19, 3) := by decide +kernel
theorem d_M_calls_14 : decode c_M_calls 14 = .ok (.iload_n 1, 1) := by decide +kernel
theorem d_M_calls_15 : decode c_M_calls 15 = .ok (.iaload, 1) := by decide +kernel
theorem d_M_calls_16 : decode c_M_calls 16 = .ok (.iadd, 1) := by decide +kernel
theorem d_M_calls_17 : decode c_M_calls 17 = .ok (.iaload, 1) := by decide +kernel
theorem d_M_calls_18 : decode c_M_calls 18 = .ok (.istore 4, 2) := by decide +kernel
theorem d_M_calls_20 : decode c_M_calls 20 = .ok (.iload 4, 2) := by decide +kernel
theorem d_M_calls_22 : decode c_M_calls 22 = .ok (.iload_n 2, 1) := by decide +kernel
theorem d_M_calls_23 : decode c_M_calls 23 = .ok (.ishr, 1) := by decide +kernel
theorem d_M_calls_24 : decode c_M_calls 24 = .ok (.iconst 1, 1) := by decide +kernel
theorem d_M_calls_25 : decode c_M_calls 25 = .ok (.iand, 1) := by decide +kernel
theorem d_M_calls_26 : decode c_M_calls 26 = .ok (.ifCond .ne 5, 3) := by decide +kernel
theorem d_M_calls_29 : decode c_M_calls 29 = .ok (.iconst 0, 1) := by decide +kernel
theorem d_M_calls_30 : decode c_M_calls 30 = .ok (.ireturn, 1) := by decide +kernel
theorem d_M_calls_31 : decode c_M_calls 31 = .ok (.aload_n 0, 1) := by decide +kernel
theorem d_M_calls_32 : decode c_M_calls 32 = .ok (.iload_n 2, 1) := by decide +kernel
theorem d_M_calls_33 : decode c_M_calls 33 = .ok (.invokevirtual 103, 3) := by decide +kernel
theorem d_M_calls_36 : decode c_M_calls 36 = .ok (.istore 5, 2) := by decide +kernel
theorem d_M_calls_38 : decode c_M_calls 38 = .ok (.aload_n 0, 1) := by decide +kernel
theorem d_M_calls_39 : decode c_M_calls 39 = .ok (.iload 5, 2) := by decide +kernel
theorem d_M_calls_41 : decode c_M_calls 41 = .ok (.aload_n 0, 1) := by decide +kernel
theorem d_M_calls_42 : decode c_M_calls 42 = .ok (.getfield 22, 3) := by decide +kernel
theorem d_M_calls_45 : decode c_M_calls 45 = .ok (.iload_n 1, 1) := by decide +kernel
theorem d_M_calls_46 : decode c_M_calls 46 = .ok (.iaload, 1) := by decide +kernel
theorem d_M_calls_47 : decode c_M_calls 47 = .ok (.iconst 4, 1) := by decide +kernel
theorem d_M_calls_48 : decode c_M_calls 48 = .ok (.idiv, 1) := by decide +kernel
theorem d_M_calls_49 : decode c_M_calls 49 = .ok (.invokevirtual 107, 3) := by decide +kernel
theorem d_M_calls_52 : decode c_M_calls 52 = .ok (.iload_n 3, 1) := by decide +kernel
theorem d_M_calls_53 : decode c_M_calls 53 = .ok (.if_icmp .ne 7, 3) := by decide +kernel
theorem d_M_calls_56 : decode c_M_calls 56 = .ok (.iconst 1, 1) := by decide +kernel
theorem d_M_calls_57 : decode c_M_calls 57 = .ok (.goto 4, 3) := by decide +kernel
theorem d_M_calls_60 : decode c_M_calls 60 = .ok (.iconst 0, 1) := by decide +kernel
theorem d_M_calls_61 : decode c_M_calls 61 = .ok (.ireturn, 1) := by decide +kernel
theorem d_M_grow_0 : decode c_M_grow 0 = .ok (.aload_n 0, 1) := by decide +kernel
theorem d_M_grow_1 : decode c_M_grow 1 = .ok (.getfield 31, 3) := by decide +kernel
theorem d_M_grow_4 : decode c_M_grow 4 = .ok (.iconst 4, 1) := by decide +kernel
theorem d_M_grow_5 : decode c_M_grow 5 = .ok (.iload_n 1, 1) := by decide +kernel
theorem d_M_grow_6 : decode c_M_grow 6 = .ok (.imul, 1) := by decide +kernel
theorem d_M_grow_7 : decode c_M_grow 7 = .ok (.iload_n 2, 1) := by decide +kernel
theorem d_M_grow_8 : decode c_M_grow 8 = .ok (.iadd, 1) := by decide +kernel
theorem d_M_grow_9 : decode c_M_grow 9 = .ok (.iaload, 1) := by decide +kernel
theorem d_M_grow_10 : decode c_M_grow 10 = .ok (.istore 4, 2) := by decide +kernel
theorem d_M_grow_12 : decode c_M_grow 12 = .ok (.aload_n 0, 1) := by decide +kernel
theorem d_M_grow_13 : decode c_M_grow 13 = .ok (.getfield 31, 3) := by decide +kernel
theorem d_M_grow_16 : decode c_M_grow 16 = .ok (.iconst 4, 1) := by decide +kernel
theorem d_M_grow_17 : decode c_M_grow 17 = .ok (.iload_n 1, 1) := by decide +kernel
theorem d_M_grow_18 : decode c_M_grow 18 = .ok (.imul, 1) := by decide +kernel
theorem d_M_grow_19 : decode c_M_grow 19 = .ok (.iload_n 2, 1) := by decide +kernel
theorem d_M_grow_20 : decode c_M_grow 20 = .ok (.iadd, 1) := by decide +kernel
theorem d_M_grow_21 : decode c_M_grow 21 = .ok (.iload 4, 2) := by decide +kernel
theorem d_M_grow_23 : decode c_M_grow 23 = .ok (.iload_n 3, 1) := by decide +kernel
theorem d_M_grow_24 : decode c_M_grow 24 = .ok (.ior, 1) := by decide +kernel
theorem d_M_grow_25 : decode c_M_grow 25 = .ok (.iastore, 1) := by decide +kernel
theorem d_M_grow_26 : decode c_M_grow 26 = .ok (.aload_n 0, 1) := by decide +kernel
theorem d_M_grow_27 : decode c_M_grow 27 = .ok (.aload_n 0, 1) := by decide +kernel
theorem d_M_grow_28 : decode c_M_grow 28 = .ok (.getfield 111, 3) := by decide +kernel
theorem d_M_grow_31 : decode c_M_grow 31 = .ok (.ifCond .ne 12, 3) := by decide +kernel
theorem d_M_grow_34 : decode c_M_grow 34 = .ok (.iload 4, 2) := by decide +kernel
theorem d_M_grow_36 : decode c_M_grow 36 = .ok (.iload_n 3, 1) := by decide +kernel
theorem d_M_grow_37 : decode c_M_grow 37 = .ok (.ior, 1) := by decide +kernel
theorem d_M_grow_38 : decode c_M_grow 38 = .ok (.iload 4, 2) := by decide +kernel
theorem d_M_grow_40 : decode c_M_grow 40 = .ok (.if_icmp .eq 7, 3) := by decide +kernel
theorem d_M_grow_43 : decode c_M_grow 43 = .ok (.iconst 1, 1) := by decide +kernel
theorem d_M_grow_44 : decode c_M_grow 44 = .ok (.goto 4, 3) := by decide +kernel
theorem d_M_grow_47 : decode c_M_grow 47 = .ok (.iconst 0, 1) := by decide +kernel
theorem d_M_grow_48 : decode c_M_grow 48 = .ok (.putfield 111, 3) := by decide +kernel
theorem d_M_grow_51 : decode c_M_grow 51 = .ok (.return_, 1) := by decide +kernel
theorem d_M_callPoints_0 : decode c_M_callPoints 0 = .ok (.iconst 0, 1) := by decide +kernel
theorem d_M_callPoints_1 : decode c_M_callPoints 1 = .ok (.istore_n 3, 1) := by decide +kernel
theorem d_M_callPoints_2 : decode c_M_callPoints 2 = .ok (.iload_n 3, 1) := by decide +kernel
theorem d_M_callPoints_3 : decode c_M_callPoints 3 = .ok (.bipush 6, 2) := by decide +kernel
theorem d_M_callPoints_5 : decode c_M_callPoints 5 = .ok (.if_icmp .ge 177, 3) := by decide +kernel
theorem d_M_callPoints_8 : decode c_M_callPoints 8 = .ok (.iconst 0, 1) := by decide +kernel
theorem d_M_callPoints_9 : decode c_M_callPoints 9 = .ok (.istore 4, 2) := by decide +kernel
theorem d_M_callPoints_11 : decode c_M_callPoints 11 = .ok (.iload 4, 2) := by decide +kernel
theorem d_M_callPoints_13 : decode c_M_callPoints 13 = .ok (.bipush 6, 2) := by decide +kernel
theorem d_M_callPoints_15 : decode c_M_callPoints 15 = .ok (.if_icmp .ge 161, 3) := by decide +kernel
theorem d_M_callPoints_18 : decode c_M_callPoints 18 = .ok (.aload_n 0, 1) := by decide +kernel
theorem d_M_callPoints_19 : decode c_M_callPoints 19 = .ok (.iload_n 2, 1) := by decide +kernel
theorem d_M_callPoints_20 : decode c_M_callPoints 20 = .ok (.iload_n 3, 1) := by decide +kernel
theorem d_M_callPoints_21 : decode c_M_callPoints 21 = .ok (.iload 4, 2) := by decide +kernel
theorem d_M_callPoints_23 : decode c_M_callPoints 23 = .ok (.invokevirtual 115, 3) := by decide +kernel
theorem d_M_callPoints_26 : decode c_M_callPoints 26 = .ok (.ifCond .eq 144, 3) := by decide +kernel
theorem d_M_callPoints_29 : decode c_M_callPoints 29 = .ok (.aload_n 0, 1) := by decide +kernel
theorem d_M_callPoints_30 : decode c_M_callPoints 30 = .ok (.aload_n 0, 1) := by decide +kernel
theorem d_M_callPoints_31 : decode c_M_callPoints 31 = .ok (.getfield 111, 3) := by decide +kernel
theorem d_M_callPoints_34 : decode c_M_callPoints 34 = .ok (.ifCond .ne 13, 3) := by decide +kernel
theorem d_M_callPoints_37 : decode c_M_callPoints 37 = .ok (.aload_n 0, 1) := by decide +kernel
theorem d_M_callPoints_38 : decode c_M_callPoints 38 = .ok (.getfield 37, 3) := by decide +kernel
theorem d_M_callPoints_41 : decode c_M_callPoints 41 = .ok (.iload 4, 2) := by decide +kernel
theorem d_M_callPoints_43 : decode c_M_callPoints 43 = .ok (.baload, 1) := by decide +kernel
theorem d_M_callPoints_44 : decode c_M_callPoints 44 = .ok (.ifCond .ne 7, 3) := by decide +kernel
theorem d_M_callPoints_47 : decode c_M_callPoints 47 = .ok (.iconst 1, 1) := by decide +kernel
theorem d_M_callPoints_48 : decode c_M_callPoints 48 = .ok (.goto 4, 3) := by decide +kernel
theorem d_M_callPoints_51 : decode c_M_callPoints 51 = .ok (.iconst 0, 1) := by decide +kernel
theorem d_M_callPoints_52 : decode c_M_callPoints 52 = .ok (.putfield 111, 3) := by decide +kernel
theorem d_M_callPoints_55 : decode c_M_callPoints 55 = .ok (.aload_n 0, 1) := by decide +kernel
theorem d_M_callPoints_56 : decode c_M_callPoints 56 = .ok (.getfield 37, 3) := by decide +kernel
theorem d_M_callPoints_59 : decode c_M_callPoints 59 = .ok (.iload 4, 2) := by decide +kernel
theorem d_M_callPoints_61 : decode c_M_callPoints 61 = .ok (.iconst 1, 1) := by decide +kernel
theorem d_M_callPoints_62 : decode c_M_callPoints 62 = .ok (.bastore, 1) := by decide +kernel
theorem d_M_callPoints_63 : decode c_M_callPoints 63 = .ok (.aload_n 0, 1) := by decide +kernel
theorem d_M_callPoints_64 : decode c_M_callPoints 64 = .ok (.iload 4, 2) := by decide +kernel
theorem d_M_callPoints_66 : decode c_M_callPoints 66 = .ok (.iconst 0, 1) := by decide +kernel
theorem d_M_callPoints_67 : decode c_M_callPoints 67 = .ok (.iconst 1, 1) := by decide +kernel
theorem d_M_callPoints_68 : decode c_M_callPoints 68 = .ok (.iload_n 3, 1) := by decide +kernel
theorem d_M_callPoints_69 : decode c_M_callPoints 69 = .ok (.ishl, 1) := by decide +kernel
theorem d_M_callPoints_70 : decode c_M_callPoints 70 = .ok (.invokevirtual 118, 3) := by decide +kernel
theorem d_M_callPoints_73 : decode c_M_callPoints 73 = .ok (.aload_n 0, 1) := by decide +kernel
theorem d_M_callPoints_74 : decode c_M_callPoints 74 = .ok (.iload 4, 2) := by decide +kernel
theorem d_M_callPoints_76 : decode c_M_callPoints 76 = .ok (.iconst 1, 1) := by decide +kernel
theorem d_M_callPoints_77 : decode c_M_callPoints 77 = .ok (.aload_n 0, 1) := by decide +kernel
theorem d_M_callPoints_78 : decode c_M_callPoints 78 = .ok (.getfield 31, 3) := by decide +kernel
theorem d_M_callPoints_81 : decode c_M_callPoints 81 = .ok (.iconst 4, 1) := by decide +kernel
theorem d_M_callPoints_82 : decode c_M_callPoints 82 = .ok (.iload_n 1, 1) := by decide +kernel
theorem d_M_callPoints_83 : decode c_M_callPoints 83 = .ok (.imul, 1) := by decide +kernel
theorem d_M_callPoints_84 : decode c_M_callPoints 84 = .ok (.aload_n 0, 1) := by decide +kernel
theorem d_M_callPoints_85 : decode c_M_callPoints 85 = .ok (.getfield 22, 3) := by decide +kernel
theorem d_M_callPoints_88 : decode c_M_callPoints 88 = .ok (.iload_n 2, 1) := by decide +kernel
theorem d_M_callPoints_89 : decode c_M_callPoints 89 = .ok (.iaload, 1) := by decide +kernel
theorem d_M_callPoints_90 : decode c_M_callPoints 90 = .ok (.iconst 4, 1) := by decide +kernel
theorem d_M_callPoints_91 : decode c_M_callPoints 91 = .ok (.irem, 1) := by decide +kernel
theorem d_M_callPoints_92 : decode c_M_callPoints 92 = .ok (.iadd, 1) := by decide +kernel
theorem d_M_callPoints_93 : decode c_M_callPoints 93 = .ok (.iaload, 1) := by decide +kernel
theorem d_M_callPoints_94 : decode c_M_callPoints 94 = .ok (.invokevirtual 118, 3) := by decide +kernel
theorem d_M_callPoints_97 : decode c_M_callPoints 97 = .ok (.iconst 0, 1) := by decide +kernel
theorem d_M_callPoints_98 : decode c_M_callPoints 98 = .ok (.istore 5, 2) := by decide +kernel
theorem d_M_callPoints_100 : decode c_M_callPoints 100 = .ok (.iload 5, 2) := by decide +kernel
theorem d_M_callPoints_102 : decode c_M_callPoints 102 = .ok (.aload_n 0, 1) := by decide +kernel
theorem d_M_callPoints_103 : decode c_M_callPoints 103 = .ok (.getfield 7, 3) := by decide +kernel
theorem d_M_callPoints_106 : decode c_M_callPoints 106 = .ok (.iload 4, 2) := by decide +kernel
theorem d_M_callPoints_108 : decode c_M_callPoints 108 = .ok (.iaload, 1) := by decide +kernel
theorem d_M_callPoints_109 : decode c_M_callPoints 109 = .ok (.if_icmp .ge 61, 3) := by decide +kernel
theorem d_M_callPoints_112 : decode c_M_callPoints 112 = .ok (.aload_n 0, 1) := by decide +kernel
theorem d_M_callPoints_113 : decode c_M_callPoints 113 = .ok (.getfield 13, 3) := by decide +kernel
theorem d_M_callPoints_116 : decode c_M_callPoints 116 = .ok (.bipush 12, 2) := by decide +kernel
theorem d_M_callPoints_118 : decode c_M_callPoints 118 = .ok (.iload 4, 2) := by decide +kernel
theorem d_M_callPoints_120 : decode c_M_callPoints 120 = .ok (.imul, 1) := by decide +kernel
theorem d_M_callPoints_121 : decode c_M_callPoints 121 = .ok (.iload 5, 2) := by decide +kernel
theorem d_M_callPoints_123 : decode c_M_callPoints 123 = .ok (.iadd, 1) := by decide +kernel
theorem d_M_callPoints_124 : decode c_M_callPoints 124 = .ok (.iaload, 1) := by decide +kernel
theorem d_M_callPoints_125 : decode c_M_callPoints 125 = .ok (.bipush 10, 2) := by decide +kernel
theorem d_M_callPoints_127 : decode c_M_callPoints 127 = .ok (.if_icmp .ne 37, 3) := by decide +kernel
theorem d_M_callPoints_130 : decode c_M_callPoints 130 = .ok (.aload_n 0, 1) := by decide +kernel
theorem d_M_callPoints_131 : decode c_M_callPoints 131 = .ok (.iload_n 1, 1) := by decide +kernel
theorem d_M_callPoints_132 : decode c_M_callPoints 132 = .ok (.aload_n 0, 1) := by decide +kernel
theorem d_M_callPoints_133 : decode c_M_callPoints 133 = .ok (.getfield 16, 3) := by decide +kernel
theorem d_M_callPoints_136 : decode c_M_callPoints 136 = .ok (.iload_n 2, 1) := by decide +kernel
theorem d_M_callPoints_137 : decode c_M_callPoints 137 = .ok (.iaload, 1) := by decide +kernel
theorem d_M_callPoints_138 : decode c_M_callPoints 138 = .ok (.aload_n 0, 1) := by decide +kernel
theorem d_M_callPoints_139 : decode c_M_callPoints 139 = .ok (.getfield 31, 3) := by decide +kernel
theorem d_M_callPoints_142 : decode c_M_callPoints 142 = .ok (.iconst 4, 1) := by decide +kernel
theorem d_M_callPoints_143 : decode c_M_callPoints 143 = .ok (.iload 4, 2) := by decide +kernel
theorem d_M_callPoints_145 : decode c_M_callPoints 145 = .ok (.imul, 1) := by decide +kernel
theorem d_M_callPoints_146 : decode c_M_callPoints 146 = .ok (.aload_n 0, 1) := by decide +kernel
theorem d_M_callPoints_147 : decode c_M_callPoints 147 = .ok (.getfield 16, 3) := by decide +kernel
theorem d_M_callPoints_150 : decode c_M_callPoints 150 = .ok (.bipush 12, 2) := by decide +kernel
theorem d_M_callPoints_152 : decode c_M_callPoints 152 = .ok (.iload 4, 2) := by decide +kernel
theorem d_M_callPoints_154 : decode c_M_callPoints 154 = .ok (.imul, 1) := by decide +kernel
theorem d_M_callPoints_155 : decode c_M_callPoints 155 = .ok (.iload 5, 2) := by decide +kernel
theorem d_M_callPoints_157 : decode c_M_callPoints 157 = .ok (.iadd, 1) := by decide +kernel
theorem d_M_callPoints_158 : decode c_M_callPoints 158 = .ok (.iaload, 1) := by decide +kernel
theorem d_M_callPoints_159 : decode c_M_callPoints 159 = .ok (.iadd, 1) := by decide +kernel
theorem d_M_callPoints_160 : decode c_M_callPoints 160 = .ok (.iaload, 1) := by decide +kernel
theorem d_M_callPoints_161 : decode c_M_callPoints 161 = .ok (.invokevirtual 118, 3) := by decide +kernel
theorem d_M_callPoints_164 : decode c_M_callPoints 164 = .ok (.iinc 5 1, 3) := by decide +kernel
theorem d_M_callPoints_167 : decode c_M_callPoints 167 = .ok (.goto (-67), 3) := by decide +kernel
theorem d_M_callPoints_170 : decode c_M_callPoints 170 = .ok (.iinc 4 1, 3) := by decide +kernel
theorem d_M_callPoints_173 : decode c_M_callPoints 173 = .ok (.goto (-162), 3) := by decide +kernel
theorem d_M_callPoints_176 : decode c_M_callPoints 176 = .ok (.iinc 3 1, 3) := by decide +kernel
theorem d_M_callPoints_179 : decode c_M_callPoints 179 = .ok (.goto (-177), 3) := by decide +kernel
theorem d_M_callPoints_182 : decode c_M_callPoints 182 = .ok (.return_, 1) := by decide +kernel
theorem d_M_pointsOf_0 : decode c_M_pointsOf 0 = .ok (.bipush 12, 2) := by decide +kernel
theorem d_M_pointsOf_2 : decode c_M_pointsOf 2 = .ok (.iload_n 1, 1) := by decide +kernel
theorem d_M_pointsOf_3 : decode c_M_pointsOf 3 = .ok (.imul, 1) := by decide +kernel
theorem d_M_pointsOf_4 : decode c_M_pointsOf 4 = .ok (.iload_n 2, 1) := by decide +kernel
theorem d_M_pointsOf_5 : decode c_M_pointsOf 5 = .ok (.iadd, 1) := by decide +kernel
theorem d_M_pointsOf_6 : decode c_M_pointsOf 6 = .ok (.istore_n 3, 1) := by decide +kernel
theorem d_M_pointsOf_7 : decode c_M_pointsOf 7 = .ok (.aload_n 0, 1) := by decide +kernel
theorem d_M_pointsOf_8 : decode c_M_pointsOf 8 = .ok (.getfield 13, 3) := by decide +kernel
theorem d_M_pointsOf_11 : decode c_M_pointsOf 11 = .ok (.iload_n 3, 1) := by decide +kernel
theorem d_M_pointsOf_12 : decode c_M_pointsOf 12 = .ok (.iaload, 1) := by decide +kernel
theorem d_M_pointsOf_13 : decode c_M_pointsOf 13 = .ok (.istore 4, 2) := by decide +kernel
theorem d_M_pointsOf_15 : decode c_M_pointsOf 15 = .ok (.aload_n 0, 1) := by decide +kernel
theorem d_M_pointsOf_16 : decode c_M_pointsOf 16 = .ok (.getfield 16, 3) := by decide +kernel
theorem d_M_pointsOf_19 : decode c_M_pointsOf 19 = .ok (.iload_n 3, 1) := by decide +kernel
theorem d_M_pointsOf_20 : decode c_M_pointsOf 20 = .ok (.iaload, 1) := by decide +kernel
theorem d_M_pointsOf_21 : decode c_M_pointsOf 21 = .ok (.istore 5, 2) := by decide +kernel
theorem d_M_pointsOf_23 : decode c_M_pointsOf 23 = .ok (.aload_n 0, 1) := by decide +kernel
theorem d_M_pointsOf_24 : decode c_M_pointsOf 24 = .ok (.getfield 19, 3) := by decide +kernel
theorem d_M_pointsOf_27 : decode c_M_pointsOf 27 = .ok (.iload_n 3, 1) := by decide +kernel
theorem d_M_pointsOf_28 : decode c_M_pointsOf 28 = .ok (.iaload, 1) := by decide +kernel
theorem d_M_pointsOf_29 : decode c_M_pointsOf 29 = .ok (.istore 6, 2) := by decide +kernel
theorem d_M_pointsOf_31 : decode c_M_pointsOf 31 = .ok (.iload 4, 2) := by decide +kernel
theorem d_M_pointsOf_33 : decode c_M_pointsOf 33 = .ok (.ifCond .ne 26, 3) := by decide +kernel
theorem d_M_pointsOf_36 : decode c_M_pointsOf 36 = .ok (.aload_n 0, 1) := by decide +kernel
theorem d_M_pointsOf_37 : decode c_M_pointsOf 37 = .ok (.iconst 0, 1) := by decide +kernel
theorem d_M_pointsOf_38 : decode c_M_pointsOf 38 = .ok (.iload_n 1, 1) := by decide +kernel
theorem d_M_pointsOf_39 : decode c_M_pointsOf 39 = .ok (.iload_n 2, 1) := by decide +kernel
theorem d_M_pointsOf_40 : decode c_M_pointsOf 40 = .ok (.invokevirtual 96, 3) := by decide +kernel
theorem d_M_pointsOf_43 : decode c_M_pointsOf 43 = .ok (.istore 7, 2) := by decide +kernel
theorem d_M_pointsOf_45 : decode c_M_pointsOf 45 = .ok (.aload_n 0, 1) := by decide +kernel
theorem d_M_pointsOf_46 : decode c_M_pointsOf 46 = .ok (.iload_n 1, 1) := by decide +kernel
theorem d_M_pointsOf_47 : decode c_M_pointsOf 47 = .ok (.iload 5, 2) := by decide +kernel
theorem d_M_pointsOf_49 : decode c_M_pointsOf 49 = .ok (.iconst 1, 1) := by decide +kernel
theorem d_M_pointsOf_50 : decode c_M_pointsOf 50 = .ok (.iload 7, 2) := by decide +kernel
theorem d_M_pointsOf_52 : decode c_M_pointsOf 52 = .ok (.ishl, 1) := by decide +kernel
theorem d_M_pointsOf_53 : decode c_M_pointsOf 53 = .ok (.invokevirtual 118, 3) := by decide +kernel
theorem d_M_pointsOf_56 : decode c_M_pointsOf 56 = .ok (.goto 213, 3) := by decide +kernel
theorem d_M_pointsOf_59 : decode c_M_pointsOf 59 = .ok (.iload 4, 2) := by decide +kernel
theorem d_M_pointsOf_61 : decode c_M_pointsOf 61 = .ok (.iconst 4, 1) := by decide +kernel
theorem d_M_pointsOf_62 : decode c_M_pointsOf 62 = .ok (.if_icmp .ne 24, 3) := by decide +kernel
theorem d_M_pointsOf_65 : decode c_M_pointsOf 65 = .ok (.aload_n 0, 1) := by decide +kernel
theorem d_M_pointsOf_66 : decode c_M_pointsOf 66 = .ok (.iload_n 1, 1) := by decide +kernel
theorem d_M_pointsOf_67 : decode c_M_pointsOf 67 = .ok (.iload 5, 2) := by decide +kernel
theorem d_M_pointsOf_69 : decode c_M_pointsOf 69 = .ok (.aload_n 0, 1) := by decide +kernel
theorem d_M_pointsOf_70 : decode c_M_pointsOf 70 = .ok (.getfield 31, 3) := by decide +kernel
theorem d_M_pointsOf_73 : decode c_M_pointsOf 73 = .ok (.iconst 4, 1) := by decide +kernel
theorem d_M_pointsOf_74 : decode c_M_pointsOf 74 = .ok (.iload_n 1, 1) := by decide +kernel
theorem d_M_pointsOf_75 : decode c_M_pointsOf 75 = .ok (.imul, 1) := by decide +kernel
theorem d_M_pointsOf_76 : decode c_M_pointsOf 76 = .ok (.iload 6, 2) := by decide +kernel
theorem d_M_pointsOf_78 : decode c_M_pointsOf 78 = .ok (.iadd, 1) := by decide +kernel
theorem d_M_pointsOf_79 : decode c_M_pointsOf 79 = .ok (.iaload, 1) := by decide +kernel
theorem d_M_pointsOf_80 : decode c_M_pointsOf 80 = .ok (.invokevirtual 118, 3) := by decide +kernel
theorem d_M_pointsOf_83 : decode c_M_pointsOf 83 = .ok (.goto 186, 3) := by decide +kernel
theorem d_M_pointsOf_86 : decode c_M_pointsOf 86 = .ok (.iload 4, 2) := by decide +kernel
theorem d_M_pointsOf_88 : decode c_M_pointsOf 88 = .ok (.bipush 7, 2) := by decide +kernel
theorem d_M_pointsOf_90 : decode c_M_pointsOf 90 = .ok (.if_icmp .ne 12, 3) := by decide +kernel
theorem d_M_pointsOf_93 : decode c_M_pointsOf 93 = .ok (.aload_n 0, 1) := by decide +kernel
theorem d_M_pointsOf_94 : decode c_M_pointsOf 94 = .ok (.iload_n 1, 1) := by decide +kernel
theorem d_M_pointsOf_95 : decode c_M_pointsOf 95 = .ok (.iload_n 3, 1) := by decide +kernel
theorem d_M_pointsOf_96 : decode c_M_pointsOf 96 = .ok (.invokevirtual 122, 3) := by decide +kernel
theorem d_M_pointsOf_99 : decode c_M_pointsOf 99 = .ok (.goto 170, 3) := by decide +kernel
theorem d_M_pointsOf_102 : decode c_M_pointsOf 102 = .ok (.iload 4, 2) := by decide +kernel
theorem d_M_pointsOf_104 : decode c_M_pointsOf 104 = .ok (.iconst 5, 1) := by decide +kernel
theorem d_M_pointsOf_105 : decode c_M_pointsOf 105 = .ok (.if_icmp .eq 10, 3) := by decide +kernel
theorem d_M_pointsOf_108 : decode c_M_pointsOf 108 = .ok (.iload 4, 2) := by decide +kernel
theorem d_M_pointsOf_110 : decode c_M_pointsOf 110 = .ok (.bipush 6, 2) := by decide +kernel
theorem d_M_pointsOf_112 : decode c_M_pointsOf 112 = .ok (.if_icmp .ne 157, 3) := by decide +kernel
theorem d_M_pointsOf_115 : decode c_M_pointsOf 115 = .ok (.iconst 0, 1) := by decide +kernel
theorem d_M_pointsOf_116 : decode c_M_pointsOf 116 = .ok (.istore 7, 2) := by decide +kernel
theorem d_M_pointsOf_118 : decode c_M_pointsOf 118 = .ok (.iload 7, 2) := by decide +kernel
theorem d_M_pointsOf_120 : decode c_M_pointsOf 120 = .ok (.bipush 6, 2) := by decide +kernel
theorem d_M_pointsOf_122 : decode c_M_pointsOf 122 = .ok (.if_icmp .ge 147, 3) := by decide +kernel
theorem d_M_pointsOf_125 : decode c_M_pointsOf 125 = .ok (.iconst 2, 1) := by decide +kernel
theorem d_M_pointsOf_126 : decode c_M_pointsOf 126 = .ok (.iload 7, 2) := by decide +kernel
theorem d_M_pointsOf_128 : decode c_M_pointsOf 128 = .ok (.imul, 1) := by decide +kernel
theorem d_M_pointsOf_129 : decode c_M_pointsOf 129 = .ok (.aload_n 0, 1) := by decide +kernel
theorem d_M_pointsOf_130 : decode c_M_pointsOf 130 = .ok (.getfield 22, 3) := by decide +kernel
theorem d_M_pointsOf_133 : decode c_M_pointsOf 133 = .ok (.iload_n 3, 1) := by decide +kernel
theorem d_M_pointsOf_134 : decode c_M_pointsOf 134 = .ok (.iaload, 1) := by decide +kernel
theorem d_M_pointsOf_135 : decode c_M_pointsOf 135 = .ok (.iadd, 1) := by decide +kernel
theorem d_M_pointsOf_136 : decode c_M_pointsOf 136 = .ok (.istore 8, 2) := by decide +kernel
theorem d_M_pointsOf_138 : decode c_M_pointsOf 138 = .ok (.iload 4, 2) := by decide +kernel
theorem d_M_pointsOf_140 : decode c_M_pointsOf 140 = .ok (.iconst 5, 1) := by decide +kernel
theorem d_M_pointsOf_141 : decode c_M_pointsOf 141 = .ok (.if_icmp .ne 37, 3) := by decide +kernel
theorem d_M_pointsOf_144 : decode c_M_pointsOf 144 = .ok (.aload_n 0, 1) := by decide +kernel
theorem d_M_pointsOf_145 : decode c_M_pointsOf 145 = .ok (.getfield 31, 3) := by decide +kernel
theorem d_M_pointsOf_148 : decode c_M_pointsOf 148 = .ok (.iconst 4, 1) := by decide +kernel
theorem d_M_pointsOf_149 : decode c_M_pointsOf 149 = .ok (.iload_n 1, 1) := by decide +kernel
theorem d_M_pointsOf_150 : decode c_M_pointsOf 150 = .ok (.imul, 1) := by decide +kernel
theorem d_M_pointsOf_151 : decode c_M_pointsOf 151 = .ok (.iload 6, 2) := by decide +kernel
theorem d_M_pointsOf_153 : decode c_M_pointsOf 153 = .ok (.iadd, 1) := by decide +kernel
theorem d_M_pointsOf_154 : decode c_M_pointsOf 154 = .ok (.iaload, 1) := by decide +kernel
theorem d_M_pointsOf_155 : decode c_M_pointsOf 155 = .ok (.iload 7, 2) := by decide +kernel
theorem d_M_pointsOf_157 : decode c_M_pointsOf 157 = .ok (.ishr, 1) := by decide +kernel
theorem d_M_pointsOf_158 : decode c_M_pointsOf 158 = .ok (.iconst 1, 1) := by decide +kernel
theorem d_M_pointsOf_159 : decode c_M_pointsOf 159 = .ok (.iand, 1) := by decide +kernel
theorem d_M_pointsOf_160 : decode c_M_pointsOf 160 = .ok (.iconst 1, 1) := by decide +kernel
theorem d_M_pointsOf_161 : decode c_M_pointsOf 161 = .ok (.if_icmp .ne 17, 3) := by decide +kernel
theorem d_M_pointsOf_164 : decode c_M_pointsOf 164 = .ok (.aload_n 0, 1) := by decide +kernel
theorem d_M_pointsOf_165 : decode c_M_pointsOf 165 = .ok (.iload_n 1, 1) := by decide +kernel
theorem d_M_pointsOf_166 : decode c_M_pointsOf 166 = .ok (.iload 5, 2) := by decide +kernel
theorem d_M_pointsOf_168 : decode c_M_pointsOf 168 = .ok (.aload_n 0, 1) := by decide +kernel
theorem d_M_pointsOf_169 : decode c_M_pointsOf 169 = .ok (.getfield 34, 3) := by decide +kernel
theorem d_M_pointsOf_172 : decode c_M_pointsOf 172 = .ok (.iload 8, 2) := by decide +kernel
theorem d_M_pointsOf_174 : decode c_M_pointsOf 174 = .ok (.iaload, 1) := by decide +kernel
theorem d_M_pointsOf_175 : decode c_M_pointsOf 175 = .ok (.invokevirtual 118, 3) := by decide +kernel
theorem d_M_pointsOf_178 : decode c_M_pointsOf 178 = .ok (.iload 4, 2) := by decide +kernel
theorem d_M_pointsOf_180 : decode c_M_pointsOf 180 = .ok (.bipush 6, 2) := by decide +kernel
theorem d_M_pointsOf_182 : decode c_M_pointsOf 182 = .ok (.if_icmp .ne 81, 3) := by decide +kernel
theorem d_M_pointsOf_185 : decode c_M_pointsOf 185 = .ok (.aload_n 0, 1) := by decide +kernel
theorem d_M_pointsOf_186 : decode c_M_pointsOf 186 = .ok (.getfield 31, 3) := by decide +kernel
theorem d_M_pointsOf_189 : decode c_M_pointsOf 189 = .ok (.iconst 4, 1) := by decide +kernel
theorem d_M_pointsOf_190 : decode c_M_pointsOf 190 = .ok (.iload_n 1, 1) := by decide +kernel
theorem d_M_pointsOf_191 : decode c_M_pointsOf 191 = .ok (.imul, 1) := by decide +kernel
theorem d_M_pointsOf_192 : decode c_M_pointsOf 192 = .ok (.iload 5, 2) := by decide +kernel
theorem d_M_pointsOf_194 : decode c_M_pointsOf 194 = .ok (.iadd, 1) := by decide +kernel
