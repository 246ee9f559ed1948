theorem d_M_enter_73 : decode c_M_enter 73 = .ok (.iastore, 1) := by decide +kernel
theorem d_M_enter_74 : decode c_M_enter 74 = .ok (.aload_n 0, 1) := by decide +kernel
theorem d_M_enter_75 : decode c_M_enter 75 = .ok (.getfield 63, 3) := by decide +kernel
theorem d_M_enter_78 : decode c_M_enter 78 = .ok (.aload_n 0, 1) := by decide +kernel
theorem d_M_enter_79 : decode c_M_enter 79 = .ok (.getfield 186, 3) := by decide +kernel
theorem d_M_enter_82 : decode c_M_enter 82 = .ok (.iconst 0, 1) := by decide +kernel
theorem d_M_enter_83 : decode c_M_enter 83 = .ok (.iastore, 1) := by decide +kernel
theorem d_M_enter_84 : decode c_M_enter 84 = .ok (.aload_n 0, 1) := by decide +kernel
theorem d_M_enter_85 : decode c_M_enter 85 = .ok (.dup, 1) := by decide +kernel
theorem d_M_enter_86 : decode c_M_enter 86 = .ok (.getfield 186, 3) := by decide +kernel
theorem d_M_enter_89 : decode c_M_enter 89 = .ok (.iconst 1, 1) := by decide +kernel
theorem d_M_enter_90 : decode c_M_enter 90 = .ok (.iadd, 1) := by decide +kernel
theorem d_M_enter_91 : decode c_M_enter 91 = .ok (.putfield 186, 3) := by decide +kernel
theorem d_M_enter_94 : decode c_M_enter 94 = .ok (.aload_n 0, 1) := by decide +kernel
theorem d_M_enter_95 : decode c_M_enter 95 = .ok (.iconst 0, 1) := by decide +kernel
theorem d_M_enter_96 : decode c_M_enter 96 = .ok (.iload 4, 2) := by decide +kernel
theorem d_M_enter_98 : decode c_M_enter 98 = .ok (.iload 5, 2) := by decide +kernel
theorem d_M_enter_100 : decode c_M_enter 100 = .ok (.invokevirtual 189, 3) := by decide +kernel
theorem d_M_enter_103 : decode c_M_enter 103 = .ok (.aload_n 0, 1) := by decide +kernel
theorem d_M_enter_104 : decode c_M_enter 104 = .ok (.iconst 1, 1) := by decide +kernel
theorem d_M_enter_105 : decode c_M_enter 105 = .ok (.iload 6, 2) := by decide +kernel
theorem d_M_enter_107 : decode c_M_enter 107 = .ok (.iload 7, 2) := by decide +kernel
theorem d_M_enter_109 : decode c_M_enter 109 = .ok (.invokevirtual 189, 3) := by decide +kernel
theorem d_M_enter_112 : decode c_M_enter 112 = .ok (.aload_n 0, 1) := by decide +kernel
theorem d_M_enter_113 : decode c_M_enter 113 = .ok (.iconst 2, 1) := by decide +kernel
theorem d_M_enter_114 : decode c_M_enter 114 = .ok (.iconst (-1), 1) := by decide +kernel
theorem d_M_enter_115 : decode c_M_enter 115 = .ok (.iconst 0, 1) := by decide +kernel
theorem d_M_enter_116 : decode c_M_enter 116 = .ok (.invokevirtual 189, 3) := by decide +kernel
theorem d_M_enter_119 : decode c_M_enter 119 = .ok (.aload_n 0, 1) := by decide +kernel
theorem d_M_enter_120 : decode c_M_enter 120 = .ok (.iconst 3, 1) := by decide +kernel
theorem d_M_enter_121 : decode c_M_enter 121 = .ok (.iconst (-1), 1) := by decide +kernel
theorem d_M_enter_122 : decode c_M_enter 122 = .ok (.iconst 0, 1) := by decide +kernel
theorem d_M_enter_123 : decode c_M_enter 123 = .ok (.invokevirtual 189, 3) := by decide +kernel
theorem d_M_enter_126 : decode c_M_enter 126 = .ok (.return_, 1) := by decide +kernel
theorem d_M_leave_0 : decode c_M_leave 0 = .ok (.iload_n 1, 1) := by decide +kernel
theorem d_M_leave_1 : decode c_M_leave 1 = .ok (.ifCond .ge 7, 3) := by decide +kernel
theorem d_M_leave_4 : decode c_M_leave 4 = .ok (.iconst (-1), 1) := by decide +kernel
theorem d_M_leave_5 : decode c_M_leave 5 = .ok (.goto 18, 3) := by decide +kernel
theorem d_M_leave_8 : decode c_M_leave 8 = .ok (.aload_n 0, 1) := by decide +kernel
theorem d_M_leave_9 : decode c_M_leave 9 = .ok (.getfield 66, 3) := by decide +kernel
theorem d_M_leave_12 : decode c_M_leave 12 = .ok (.iconst 4, 1) := by decide +kernel
theorem d_M_leave_13 : decode c_M_leave 13 = .ok (.aload_n 0, 1) := by decide +kernel
theorem d_M_leave_14 : decode c_M_leave 14 = .ok (.getfield 186, 3) := by decide +kernel
theorem d_M_leave_17 : decode c_M_leave 17 = .ok (.iconst 1, 1) := by decide +kernel
theorem d_M_leave_18 : decode c_M_leave 18 = .ok (.isub, 1) := by decide +kernel
theorem d_M_leave_19 : decode c_M_leave 19 = .ok (.imul, 1) := by decide +kernel
theorem d_M_leave_20 : decode c_M_leave 20 = .ok (.iload_n 1, 1) := by decide +kernel
theorem d_M_leave_21 : decode c_M_leave 21 = .ok (.iadd, 1) := by decide +kernel
theorem d_M_leave_22 : decode c_M_leave 22 = .ok (.iaload, 1) := by decide +kernel
theorem d_M_leave_23 : decode c_M_leave 23 = .ok (.istore_n 2, 1) := by decide +kernel
theorem d_M_leave_24 : decode c_M_leave 24 = .ok (.iload_n 1, 1) := by decide +kernel
theorem d_M_leave_25 : decode c_M_leave 25 = .ok (.ifCond .ge 7, 3) := by decide +kernel
theorem d_M_leave_28 : decode c_M_leave 28 = .ok (.iconst 0, 1) := by decide +kernel
theorem d_M_leave_29 : decode c_M_leave 29 = .ok (.goto 18, 3) := by decide +kernel
theorem d_M_leave_32 : decode c_M_leave 32 = .ok (.aload_n 0, 1) := by decide +kernel
theorem d_M_leave_33 : decode c_M_leave 33 = .ok (.getfield 69, 3) := by decide +kernel
theorem d_M_leave_36 : decode c_M_leave 36 = .ok (.iconst 4, 1) := by decide +kernel
theorem d_M_leave_37 : decode c_M_leave 37 = .ok (.aload_n 0, 1) := by decide +kernel
theorem d_M_leave_38 : decode c_M_leave 38 = .ok (.getfield 186, 3) := by decide +kernel
theorem d_M_leave_41 : decode c_M_leave 41 = .ok (.iconst 1, 1) := by decide +kernel
theorem d_M_leave_42 : decode c_M_leave 42 = .ok (.isub, 1) := by decide +kernel
theorem d_M_leave_43 : decode c_M_leave 43 = .ok (.imul, 1) := by decide +kernel
theorem d_M_leave_44 : decode c_M_leave 44 = .ok (.iload_n 1, 1) := by decide +kernel
theorem d_M_leave_45 : decode c_M_leave 45 = .ok (.iadd, 1) := by decide +kernel
theorem d_M_leave_46 : decode c_M_leave 46 = .ok (.iaload, 1) := by decide +kernel
theorem d_M_leave_47 : decode c_M_leave 47 = .ok (.istore_n 3, 1) := by decide +kernel
theorem d_M_leave_48 : decode c_M_leave 48 = .ok (.aload_n 0, 1) := by decide +kernel
theorem d_M_leave_49 : decode c_M_leave 49 = .ok (.dup, 1) := by decide +kernel
theorem d_M_leave_50 : decode c_M_leave 50 = .ok (.getfield 186, 3) := by decide +kernel
theorem d_M_leave_53 : decode c_M_leave 53 = .ok (.iconst 1, 1) := by decide +kernel
theorem d_M_leave_54 : decode c_M_leave 54 = .ok (.isub, 1) := by decide +kernel
theorem d_M_leave_55 : decode c_M_leave 55 = .ok (.putfield 186, 3) := by decide +kernel
theorem d_M_leave_58 : decode c_M_leave 58 = .ok (.aload_n 0, 1) := by decide +kernel
theorem d_M_leave_59 : decode c_M_leave 59 = .ok (.getfield 186, 3) := by decide +kernel
theorem d_M_leave_62 : decode c_M_leave 62 = .ok (.ifCond .le 59, 3) := by decide +kernel
theorem d_M_leave_65 : decode c_M_leave 65 = .ok (.bipush 12, 2) := by decide +kernel
theorem d_M_leave_67 : decode c_M_leave 67 = .ok (.aload_n 0, 1) := by decide +kernel
theorem d_M_leave_68 : decode c_M_leave 68 = .ok (.getfield 60, 3) := by decide +kernel
theorem d_M_leave_71 : decode c_M_leave 71 = .ok (.aload_n 0, 1) := by decide +kernel
theorem d_M_leave_72 : decode c_M_leave 72 = .ok (.getfield 186, 3) := by decide +kernel
theorem d_M_leave_75 : decode c_M_leave 75 = .ok (.iconst 1, 1) := by decide +kernel
theorem d_M_leave_76 : decode c_M_leave 76 = .ok (.isub, 1) := by decide +kernel
theorem d_M_leave_77 : decode c_M_leave 77 = .ok (.iaload, 1) := by decide +kernel
theorem d_M_leave_78 : decode c_M_leave 78 = .ok (.imul, 1) := by decide +kernel
theorem d_M_leave_79 : decode c_M_leave 79 = .ok (.aload_n 0, 1) := by decide +kernel
theorem d_M_leave_80 : decode c_M_leave 80 = .ok (.getfield 63, 3) := by decide +kernel
theorem d_M_leave_83 : decode c_M_leave 83 = .ok (.aload_n 0, 1) := by decide +kernel
theorem d_M_leave_84 : decode c_M_leave 84 = .ok (.getfield 186, 3) := by decide +kernel
theorem d_M_leave_87 : decode c_M_leave 87 = .ok (.iconst 1, 1) := by decide +kernel
theorem d_M_leave_88 : decode c_M_leave 88 = .ok (.isub, 1) := by decide +kernel
theorem d_M_leave_89 : decode c_M_leave 89 = .ok (.iaload, 1) := by decide +kernel
theorem d_M_leave_90 : decode c_M_leave 90 = .ok (.iadd, 1) := by decide +kernel
theorem d_M_leave_91 : decode c_M_leave 91 = .ok (.istore 4, 2) := by decide +kernel
theorem d_M_leave_93 : decode c_M_leave 93 = .ok (.aload_n 0, 1) := by decide +kernel
theorem d_M_leave_94 : decode c_M_leave 94 = .ok (.aload_n 0, 1) := by decide +kernel
theorem d_M_leave_95 : decode c_M_leave 95 = .ok (.getfield 16, 3) := by decide +kernel
theorem d_M_leave_98 : decode c_M_leave 98 = .ok (.iload 4, 2) := by decide +kernel
theorem d_M_leave_100 : decode c_M_leave 100 = .ok (.iaload, 1) := by decide +kernel
theorem d_M_leave_101 : decode c_M_leave 101 = .ok (.iload_n 2, 1) := by decide +kernel
theorem d_M_leave_102 : decode c_M_leave 102 = .ok (.iload_n 3, 1) := by decide +kernel
theorem d_M_leave_103 : decode c_M_leave 103 = .ok (.invokevirtual 189, 3) := by decide +kernel
theorem d_M_leave_106 : decode c_M_leave 106 = .ok (.aload_n 0, 1) := by decide +kernel
theorem d_M_leave_107 : decode c_M_leave 107 = .ok (.getfield 63, 3) := by decide +kernel
theorem d_M_leave_110 : decode c_M_leave 110 = .ok (.aload_n 0, 1) := by decide +kernel
theorem d_M_leave_111 : decode c_M_leave 111 = .ok (.getfield 186, 3) := by decide +kernel
theorem d_M_leave_114 : decode c_M_leave 114 = .ok (.iconst 1, 1) := by decide +kernel
theorem d_M_leave_115 : decode c_M_leave 115 = .ok (.isub, 1) := by decide +kernel
theorem d_M_leave_116 : decode c_M_leave 116 = .ok (.dup2, 1) := by decide +kernel
theorem d_M_leave_117 : decode c_M_leave 117 = .ok (.iaload, 1) := by decide +kernel
theorem d_M_leave_118 : decode c_M_leave 118 = .ok (.iconst 1, 1) := by decide +kernel
theorem d_M_leave_119 : decode c_M_leave 119 = .ok (.iadd, 1) := by decide +kernel
theorem d_M_leave_120 : decode c_M_leave 120 = .ok (.iastore, 1) := by decide +kernel
theorem d_M_leave_121 : decode c_M_leave 121 = .ok (.return_, 1) := by decide +kernel
theorem d_M_hindrance_0 : decode c_M_hindrance 0 = .ok (.bipush 12, 2) := by decide +kernel
theorem d_M_hindrance_2 : decode c_M_hindrance 2 = .ok (.aload_n 0, 1) := by decide +kernel
theorem d_M_hindrance_3 : decode c_M_hindrance 3 = .ok (.getfield 60, 3) := by decide +kernel
theorem d_M_hindrance_6 : decode c_M_hindrance 6 = .ok (.aload_n 0, 1) := by decide +kernel
theorem d_M_hindrance_7 : decode c_M_hindrance 7 = .ok (.getfield 186, 3) := by decide +kernel
theorem d_M_hindrance_10 : decode c_M_hindrance 10 = .ok (.iconst 1, 1) := by decide +kernel
theorem d_M_hindrance_11 : decode c_M_hindrance 11 = .ok (.isub, 1) := by decide +kernel
theorem d_M_hindrance_12 : decode c_M_hindrance 12 = .ok (.iaload, 1) := by decide +kernel
theorem d_M_hindrance_13 : decode c_M_hindrance 13 = .ok (.imul, 1) := by decide +kernel
theorem d_M_hindrance_14 : decode c_M_hindrance 14 = .ok (.aload_n 0, 1) := by decide +kernel
theorem d_M_hindrance_15 : decode c_M_hindrance 15 = .ok (.getfield 63, 3) := by decide +kernel
theorem d_M_hindrance_18 : decode c_M_hindrance 18 = .ok (.aload_n 0, 1) := by decide +kernel
theorem d_M_hindrance_19 : decode c_M_hindrance 19 = .ok (.getfield 186, 3) := by decide +kernel
theorem d_M_hindrance_22 : decode c_M_hindrance 22 = .ok (.iconst 1, 1) := by decide +kernel
theorem d_M_hindrance_23 : decode c_M_hindrance 23 = .ok (.isub, 1) := by decide +kernel
theorem d_M_hindrance_24 : decode c_M_hindrance 24 = .ok (.iaload, 1) := by decide +kernel
theorem d_M_hindrance_25 : decode c_M_hindrance 25 = .ok (.iadd, 1) := by decide +kernel
theorem d_M_hindrance_26 : decode c_M_hindrance 26 = .ok (.istore_n 1, 1) := by decide +kernel
theorem d_M_hindrance_27 : decode c_M_hindrance 27 = .ok (.aload_n 0, 1) := by decide +kernel
theorem d_M_hindrance_28 : decode c_M_hindrance 28 = .ok (.getfield 13, 3) := by decide +kernel
theorem d_M_hindrance_31 : decode c_M_hindrance 31 = .ok (.iload_n 1, 1) := by decide +kernel
theorem d_M_hindrance_32 : decode c_M_hindrance 32 = .ok (.iaload, 1) := by decide +kernel
theorem d_M_hindrance_33 : decode c_M_hindrance 33 = .ok (.istore_n 2, 1) := by decide +kernel
theorem d_M_hindrance_34 : decode c_M_hindrance 34 = .ok (.iconst 4, 1) := by decide +kernel
theorem d_M_hindrance_35 : decode c_M_hindrance 35 = .ok (.aload_n 0, 1) := by decide +kernel
theorem d_M_hindrance_36 : decode c_M_hindrance 36 = .ok (.getfield 186, 3) := by decide +kernel
theorem d_M_hindrance_39 : decode c_M_hindrance 39 = .ok (.iconst 1, 1) := by decide +kernel
theorem d_M_hindrance_40 : decode c_M_hindrance 40 = .ok (.isub, 1) := by decide +kernel
theorem d_M_hindrance_41 : decode c_M_hindrance 41 = .ok (.imul, 1) := by decide +kernel
theorem d_M_hindrance_42 : decode c_M_hindrance 42 = .ok (.istore_n 3, 1) := by decide +kernel
theorem d_M_hindrance_43 : decode c_M_hindrance 43 = .ok (.iload_n 2, 1) := by decide +kernel
theorem d_M_hindrance_44 : decode c_M_hindrance 44 = .ok (.ifCond .ne 18, 3) := by decide +kernel
theorem d_M_hindrance_47 : decode c_M_hindrance 47 = .ok (.aload_n 0, 1) := by decide +kernel
theorem d_M_hindrance_48 : decode c_M_hindrance 48 = .ok (.getfield 192, 3) := by decide +kernel
theorem d_M_hindrance_51 : decode c_M_hindrance 51 = .ok (.bipush 12, 2) := by decide +kernel
theorem d_M_hindrance_53 : decode c_M_hindrance 53 = .ok (.if_icmp .ne 7, 3) := by decide +kernel
theorem d_M_hindrance_56 : decode c_M_hindrance 56 = .ok (.iconst 5, 1) := by decide +kernel
theorem d_M_hindrance_57 : decode c_M_hindrance 57 = .ok (.goto 4, 3) := by decide +kernel
theorem d_M_hindrance_60 : decode c_M_hindrance 60 = .ok (.iconst 0, 1) := by decide +kernel
theorem d_M_hindrance_61 : decode c_M_hindrance 61 = .ok (.ireturn, 1) := by decide +kernel
theorem d_M_hindrance_62 : decode c_M_hindrance 62 = .ok (.iload_n 2, 1) := by decide +kernel
theorem d_M_hindrance_63 : decode c_M_hindrance 63 = .ok (.iconst 5, 1) := by decide +kernel
theorem d_M_hindrance_64 : decode c_M_hindrance 64 = .ok (.if_icmp .lt 9, 3) := by decide +kernel
theorem d_M_hindrance_67 : decode c_M_hindrance 67 = .ok (.iload_n 2, 1) := by decide +kernel
theorem d_M_hindrance_68 : decode c_M_hindrance 68 = .ok (.bipush 7, 2) := by decide +kernel
theorem d_M_hindrance_70 : decode c_M_hindrance 70 = .ok (.if_icmp .le 5, 3) := by decide +kernel
theorem d_M_hindrance_73 : decode c_M_hindrance 73 = .ok (.iconst 0, 1) := by decide +kernel
theorem d_M_hindrance_74 : decode c_M_hindrance 74 = .ok (.ireturn, 1) := by decide +kernel
theorem d_M_hindrance_75 : decode c_M_hindrance 75 = .ok (.aload_n 0, 1) := by decide +kernel
theorem d_M_hindrance_76 : decode c_M_hindrance 76 = .ok (.getfield 66, 3) := by decide +kernel
theorem d_M_hindrance_79 : decode c_M_hindrance 79 = .ok (.iload_n 3, 1) := by decide +kernel
theorem d_M_hindrance_80 : decode c_M_hindrance 80 = .ok (.iload_n 2, 1) := by decide +kernel
theorem d_M_hindrance_81 : decode c_M_hindrance 81 = .ok (.bipush 6, 2) := by decide +kernel
theorem d_M_hindrance_83 : decode c_M_hindrance 83 = .ok (.if_icmp .ne 12, 3) := by decide +kernel
theorem d_M_hindrance_86 : decode c_M_hindrance 86 = .ok (.aload_n 0, 1) := by decide +kernel
theorem d_M_hindrance_87 : decode c_M_hindrance 87 = .ok (.getfield 16, 3) := by decide +kernel
theorem d_M_hindrance_90 : decode c_M_hindrance 90 = .ok (.iload_n 1, 1) := by decide +kernel
theorem d_M_hindrance_91 : decode c_M_hindrance 91 = .ok (.iaload, 1) := by decide +kernel
theorem d_M_hindrance_92 : decode c_M_hindrance 92 = .ok (.goto 9, 3) := by decide +kernel
theorem d_M_hindrance_95 : decode c_M_hindrance 95 = .ok (.aload_n 0, 1) := by decide +kernel
theorem d_M_hindrance_96 : decode c_M_hindrance 96 = .ok (.getfield 19, 3) := by decide +kernel
theorem d_M_hindrance_99 : decode c_M_hindrance 99 = .ok (.iload_n 1, 1) := by decide +kernel
theorem d_M_hindrance_100 : decode c_M_hindrance 100 = .ok (.iaload, 1) := by decide +kernel
theorem d_M_hindrance_101 : decode c_M_hindrance 101 = .ok (.iadd, 1) := by decide +kernel
theorem d_M_hindrance_102 : decode c_M_hindrance 102 = .ok (.iaload, 1) := by decide +kernel
theorem d_M_hindrance_103 : decode c_M_hindrance 103 = .ok (.istore 4, 2) := by decide +kernel
theorem d_M_hindrance_105 : decode c_M_hindrance 105 = .ok (.iload 4, 2) := by decide +kernel
theorem d_M_hindrance_107 : decode c_M_hindrance 107 = .ok (.ifCond .lt 31, 3) := by decide +kernel
theorem d_M_hindrance_110 : decode c_M_hindrance 110 = .ok (.iload_n 2, 1) := by decide +kernel
theorem d_M_hindrance_111 : decode c_M_hindrance 111 = .ok (.bipush 7, 2) := by decide +kernel
theorem d_M_hindrance_113 : decode c_M_hindrance 113 = .ok (.if_icmp .ne 27, 3) := by decide +kernel
theorem d_M_hindrance_116 : decode c_M_hindrance 116 = .ok (.aload_n 0, 1) := by decide +kernel
theorem d_M_hindrance_117 : decode c_M_hindrance 117 = .ok (.aload_n 0, 1) := by decide +kernel
theorem d_M_hindrance_118 : decode c_M_hindrance 118 = .ok (.getfield 72, 3) := by decide +kernel
theorem d_M_hindrance_121 : decode c_M_hindrance 121 = .ok (.iload 4, 2) := by decide +kernel
theorem d_M_hindrance_123 : decode c_M_hindrance 123 = .ok (.iaload, 1) := by decide +kernel
theorem d_M_hindrance_124 : decode c_M_hindrance 124 = .ok (.aload_n 0, 1) := by decide +kernel
theorem d_M_hindrance_125 : decode c_M_hindrance 125 = .ok (.getfield 22, 3) := by decide +kernel
theorem d_M_hindrance_128 : decode c_M_hindrance 128 = .ok (.iload_n 1, 1) := by decide +kernel
theorem d_M_hindrance_129 : decode c_M_hindrance 129 = .ok (.iaload, 1) := by decide +kernel
theorem d_M_hindrance_130 : decode c_M_hindrance 130 = .ok (.iconst 4, 1) := by decide +kernel
theorem d_M_hindrance_131 : decode c_M_hindrance 131 = .ok (.idiv, 1) := by decide +kernel
theorem d_M_hindrance_132 : decode c_M_hindrance 132 = .ok (.invokevirtual 107, 3) := by decide +kernel
theorem d_M_hindrance_135 : decode c_M_hindrance 135 = .ok (.ifCond .ge 5, 3) := by decide +kernel
theorem d_M_hindrance_138 : decode c_M_hindrance 138 = .ok (.iconst 3, 1) := by decide +kernel
theorem d_M_hindrance_139 : decode c_M_hindrance 139 = .ok (.ireturn, 1) := by decide +kernel
theorem d_M_hindrance_140 : decode c_M_hindrance 140 = .ok (.iload_n 2, 1) := by decide +kernel
theorem d_M_hindrance_141 : decode c_M_hindrance 141 = .ok (.bipush 7, 2) := by decide +kernel
theorem d_M_hindrance_143 : decode c_M_hindrance 143 = .ok (.if_icmp .ne 16, 3) := by decide +kernel
theorem d_M_hindrance_146 : decode c_M_hindrance 146 = .ok (.aload_n 0, 1) := by decide +kernel
theorem d_M_hindrance_147 : decode c_M_hindrance 147 = .ok (.getfield 186, 3) := by decide +kernel
theorem d_M_hindrance_150 : decode c_M_hindrance 150 = .ok (.bipush 6, 2) := by decide +kernel
theorem d_M_hindrance_152 : decode c_M_hindrance 152 = .ok (.if_icmp .ne 7, 3) := by decide +kernel
theorem d_M_hindrance_155 : decode c_M_hindrance 155 = .ok (.iconst 4, 1) := by decide +kernel
theorem d_M_hindrance_156 : decode c_M_hindrance 156 = .ok (.goto 4, 3) := by decide +kernel
theorem d_M_hindrance_159 : decode c_M_hindrance 159 = .ok (.iconst 0, 1) := by decide +kernel
theorem d_M_hindrance_160 : decode c_M_hindrance 160 = .ok (.ireturn, 1) := by decide +kernel
theorem d_M_plain_0 : decode c_M_plain 0 = .ok (.aload_n 0, 1) := by decide +kernel
theorem d_M_plain_1 : decode c_M_plain 1 = .ok (.getfield 13, 3) := by decide +kernel
theorem d_M_plain_4 : decode c_M_plain 4 = .ok (.iload_n 1, 1) := by decide +kernel
theorem d_M_plain_5 : decode c_M_plain 5 = .ok (.iaload, 1) := by decide +kernel
theorem d_M_plain_6 : decode c_M_plain 6 = .ok (.istore_n 3, 1) := by decide +kernel
theorem d_M_plain_7 : decode c_M_plain 7 = .ok (.aload_n 0, 1) := by decide +kernel
theorem d_M_plain_8 : decode c_M_plain 8 = .ok (.getfield 16, 3) := by decide +kernel
theorem d_M_plain_11 : decode c_M_plain 11 = .ok (.iload_n 1, 1) := by decide +kernel
theorem d_M_plain_12 : decode c_M_plain 12 = .ok (.iaload, 1) := by decide +kernel
theorem d_M_plain_13 : decode c_M_plain 13 = .ok (.istore 4, 2) := by decide +kernel
theorem d_M_plain_15 : decode c_M_plain 15 = .ok (.aload_n 0, 1) := by decide +kernel
theorem d_M_plain_16 : decode c_M_plain 16 = .ok (.getfield 19, 3) := by decide +kernel
theorem d_M_plain_19 : decode c_M_plain 19 = .ok (.iload_n 1, 1) := by decide +kernel
theorem d_M_plain_20 : decode c_M_plain 20 = .ok (.iaload, 1) := by decide +kernel
theorem d_M_plain_21 : decode c_M_plain 21 = .ok (.istore 5, 2) := by decide +kernel
theorem d_M_plain_23 : decode c_M_plain 23 = .ok (.iload_n 1, 1) := by decide +kernel
theorem d_M_plain_24 : decode c_M_plain 24 = .ok (.bipush 12, 2) := by decide +kernel
theorem d_M_plain_26 : decode c_M_plain 26 = .ok (.irem, 1) := by decide +kernel
theorem d_M_plain_27 : decode c_M_plain 27 = .ok (.istore 6, 2) := by decide +kernel
theorem d_M_plain_29 : decode c_M_plain 29 = .ok (.iload_n 3, 1) := by decide +kernel
theorem d_M_plain_30 : decode c_M_plain 30 = .ok (.ifCond .ne 81, 3) := by decide +kernel
theorem d_M_plain_33 : decode c_M_plain 33 = .ok (.aload_n 0, 1) := by decide +kernel
theorem d_M_plain_34 : decode c_M_plain 34 = .ok (.getfield 72, 3) := by decide +kernel
theorem d_M_plain_37 : decode c_M_plain 37 = .ok (.aload_n 0, 1) := by decide +kernel
theorem d_M_plain_38 : decode c_M_plain 38 = .ok (.getfield 192, 3) := by decide +kernel
theorem d_M_plain_41 : decode c_M_plain 41 = .ok (.iload 5, 2) := by decide +kernel
theorem d_M_plain_43 : decode c_M_plain 43 = .ok (.iastore, 1) := by decide +kernel
theorem d_M_plain_44 : decode c_M_plain 44 = .ok (.iconst 2, 1) := by decide +kernel
theorem d_M_plain_45 : decode c_M_plain 45 = .ok (.aload_n 0, 1) := by decide +kernel
theorem d_M_plain_46 : decode c_M_plain 46 = .ok (.getfield 192, 3) := by decide +kernel
theorem d_M_plain_49 : decode c_M_plain 49 = .ok (.imul, 1) := by decide +kernel
theorem d_M_plain_50 : decode c_M_plain 50 = .ok (.istore 7, 2) := by decide +kernel
theorem d_M_plain_52 : decode c_M_plain 52 = .ok (.iload 7, 2) := by decide +kernel
theorem d_M_plain_54 : decode c_M_plain 54 = .ok (.iconst 2, 1) := by decide +kernel
theorem d_M_plain_55 : decode c_M_plain 55 = .ok (.aload_n 0, 1) := by decide +kernel
theorem d_M_plain_56 : decode c_M_plain 56 = .ok (.getfield 192, 3) := by decide +kernel
theorem d_M_plain_59 : decode c_M_plain 59 = .ok (.imul, 1) := by decide +kernel
theorem d_M_plain_60 : decode c_M_plain 60 = .ok (.iconst 2, 1) := by decide +kernel
theorem d_M_plain_61 : decode c_M_plain 61 = .ok (.iadd, 1) := by decide +kernel
theorem d_M_plain_62 : decode c_M_plain 62 = .ok (.if_icmp .ge 25, 3) := by decide +kernel
theorem d_M_plain_65 : decode c_M_plain 65 = .ok (.aload_n 0, 1) := by decide +kernel
theorem d_M_plain_66 : decode c_M_plain 66 = .ok (.getfield 75, 3) := by decide +kernel
theorem d_M_plain_69 : decode c_M_plain 69 = .ok (.iload 7, 2) := by decide +kernel
theorem d_M_plain_71 : decode c_M_plain 71 = .ok (.iconst (-1), 1) := by decide +kernel
theorem d_M_plain_72 : decode c_M_plain 72 = .ok (.iastore, 1) := by decide +kernel
theorem d_M_plain_73 : decode c_M_plain 73 = .ok (.aload_n 0, 1) := by decide +kernel
theorem d_M_plain_74 : decode c_M_plain 74 = .ok (.getfield 78, 3) := by decide +kernel
theorem d_M_plain_77 : decode c_M_plain 77 = .ok (.iload 7, 2) := by decide +kernel
theorem d_M_plain_79 : decode c_M_plain 79 = .ok (.iconst 0, 1) := by decide +kernel
theorem d_M_plain_80 : decode c_M_plain 80 = .ok (.iastore, 1) := by decide +kernel
theorem d_M_plain_81 : decode c_M_plain 81 = .ok (.iinc 7 1, 3) := by decide +kernel
theorem d_M_plain_84 : decode c_M_plain 84 = .ok (.goto (-32), 3) := by decide +kernel
theorem d_M_plain_87 : decode c_M_plain 87 = .ok (.aload_n 0, 1) := by decide +kernel
theorem d_M_plain_88 : decode c_M_plain 88 = .ok (.iload 4, 2) := by decide +kernel
theorem d_M_plain_90 : decode c_M_plain 90 = .ok (.aload_n 0, 1) := by decide +kernel
theorem d_M_plain_91 : decode c_M_plain 91 = .ok (.getfield 192, 3) := by decide +kernel
theorem d_M_plain_94 : decode c_M_plain 94 = .ok (.iconst 0, 1) := by decide +kernel
theorem d_M_plain_95 : decode c_M_plain 95 = .ok (.invokevirtual 189, 3) := by decide +kernel
theorem d_M_plain_98 : decode c_M_plain 98 = .ok (.aload_n 0, 1) := by decide +kernel
theorem d_M_plain_99 : decode c_M_plain 99 = .ok (.dup, 1) := by decide +kernel
theorem d_M_plain_100 : decode c_M_plain 100 = .ok (.getfield 192, 3) := by decide +kernel
theorem d_M_plain_103 : decode c_M_plain 103 = .ok (.iconst 1, 1) := by decide +kernel
theorem d_M_plain_104 : decode c_M_plain 104 = .ok (.iadd, 1) := by decide +kernel
theorem d_M_plain_105 : decode c_M_plain 105 = .ok (.putfield 192, 3) := by decide +kernel
theorem d_M_plain_108 : decode c_M_plain 108 = .ok (.goto 260, 3) := by decide +kernel
theorem d_M_plain_111 : decode c_M_plain 111 = .ok (.iload_n 3, 1) := by decide +kernel
theorem d_M_plain_112 : decode c_M_plain 112 = .ok (.iconst 1, 1) := by decide +kernel
theorem d_M_plain_113 : decode c_M_plain 113 = .ok (.if_icmp .ne 30, 3) := by decide +kernel
theorem d_M_plain_116 : decode c_M_plain 116 = .ok (.aload_n 0, 1) := by decide +kernel
theorem d_M_plain_117 : decode c_M_plain 117 = .ok (.iconst 1, 1) := by decide +kernel
theorem d_M_plain_118 : decode c_M_plain 118 = .ok (.iload_n 1, 1) := by decide +kernel
theorem d_M_plain_119 : decode c_M_plain 119 = .ok (.bipush 12, 2) := by decide +kernel
theorem d_M_plain_121 : decode c_M_plain 121 = .ok (.idiv, 1) := by decide +kernel
theorem d_M_plain_122 : decode c_M_plain 122 = .ok (.iload 6, 2) := by decide +kernel
theorem d_M_plain_124 : decode c_M_plain 124 = .ok (.invokevirtual 96, 3) := by decide +kernel
theorem d_M_plain_127 : decode c_M_plain 127 = .ok (.istore 7, 2) := by decide +kernel
theorem d_M_plain_129 : decode c_M_plain 129 = .ok (.aload_n 0, 1) := by decide +kernel
theorem d_M_plain_130 : decode c_M_plain 130 = .ok (.iload 4, 2) := by decide +kernel
theorem d_M_plain_132 : decode c_M_plain 132 = .ok (.iconst (-1), 1) := by decide +kernel
theorem d_M_plain_133 : decode c_M_plain 133 = .ok (.iconst 1, 1) := by decide +kernel
theorem d_M_plain_134 : decode c_M_plain 134 = .ok (.iload 7, 2) := by decide +kernel
theorem d_M_plain_136 : decode c_M_plain 136 = .ok (.ishl, 1) := by decide +kernel
theorem d_M_plain_137 : decode c_M_plain 137 = .ok (.invokevirtual 189, 3) := by decide +kernel
theorem d_M_plain_140 : decode c_M_plain 140 = .ok (.goto 228, 3) := by decide +kernel
theorem d_M_plain_143 : decode c_M_plain 143 = .ok (.iload_n 3, 1) := by decide +kernel
theorem d_M_plain_144 : decode c_M_plain 144 = .ok (.iconst 2, 1) := by decide +kernel
theorem d_M_plain_145 : decode c_M_plain 145 = .ok (.if_icmp .ne 63, 3) := by decide +kernel
theorem d_M_plain_148 : decode c_M_plain 148 = .ok (.aload_n 0, 1) := by decide +kernel
theorem d_M_plain_149 : decode c_M_plain 149 = .ok (.iconst 2, 1) := by decide +kernel
theorem d_M_plain_150 : decode c_M_plain 150 = .ok (.iload_n 1, 1) := by decide +kernel
theorem d_M_plain_151 : decode c_M_plain 151 = .ok (.bipush 12, 2) := by decide +kernel
theorem d_M_plain_153 : decode c_M_plain 153 = .ok (.idiv, 1) := by decide +kernel
theorem d_M_plain_154 : decode c_M_plain 154 = .ok (.iload 6, 2) := by decide +kernel
theorem d_M_plain_156 : decode c_M_plain 156 = .ok (.invokevirtual 96, 3) := by decide +kernel
theorem d_M_plain_159 : decode c_M_plain 159 = .ok (.istore 7, 2) := by decide +kernel
theorem d_M_plain_161 : decode c_M_plain 161 = .ok (.iconst 0, 1) := by decide +kernel
theorem d_M_plain_162 : decode c_M_plain 162 = .ok (.istore 8, 2) := by decide +kernel
theorem d_M_plain_164 : decode c_M_plain 164 = .ok (.iload 8, 2) := by decide +kernel
theorem d_M_plain_166 : decode c_M_plain 166 = .ok (.iconst 4, 1) := by decide +kernel
theorem d_M_plain_167 : decode c_M_plain 167 = .ok (.if_icmp .ge 38, 3) := by decide +kernel
theorem d_M_plain_170 : decode c_M_plain 170 = .ok (.aload_n 0, 1) := by decide +kernel
theorem d_M_plain_171 : decode c_M_plain 171 = .ok (.getfield 57, 3) := by decide +kernel
theorem d_M_plain_174 : decode c_M_plain 174 = .ok (.iconst 4, 1) := by decide +kernel
theorem d_M_plain_175 : decode c_M_plain 175 = .ok (.iload 8, 2) := by decide +kernel
theorem d_M_plain_177 : decode c_M_plain 177 = .ok (.imul, 1) := by decide +kernel
theorem d_M_plain_178 : decode c_M_plain 178 = .ok (.iload 7, 2) := by decide +kernel
theorem d_M_plain_180 : decode c_M_plain 180 = .ok (.iadd, 1) := by decide +kernel
theorem d_M_plain_181 : decode c_M_plain 181 = .ok (.dup2, 1) := by decide +kernel
theorem d_M_plain_182 : decode c_M_plain 182 = .ok (.iaload, 1) := by decide +kernel
theorem d_M_plain_183 : decode c_M_plain 183 = .ok (.aload_n 0, 1) := by decide +kernel
theorem d_M_plain_184 : decode c_M_plain 184 = .ok (.getfield 69, 3) := by decide +kernel
theorem d_M_plain_187 : decode c_M_plain 187 = .ok (.iload_n 2, 1) := by decide +kernel
theorem d_M_plain_188 : decode c_M_plain 188 = .ok (.iload 4, 2) := by decide +kernel
theorem d_M_plain_190 : decode c_M_plain 190 = .ok (.iadd, 1) := by decide +kernel
theorem d_M_plain_191 : decode c_M_plain 191 = .ok (.iaload, 1) := by decide +kernel
theorem d_M_plain_192 : decode c_M_plain 192 = .ok (.iload 8, 2) := by decide +kernel
theorem d_M_plain_194 : decode c_M_plain 194 = .ok (.ishr, 1) := by decide +kernel
theorem d_M_plain_195 : decode c_M_plain 195 = .ok (.iconst 1, 1) := by decide +kernel
theorem d_M_plain_196 : decode c_M_plain 196 = .ok (.iand, 1) := by decide +kernel
theorem d_M_plain_197 : decode c_M_plain 197 = .ok (.iadd, 1) := by decide +kernel
theorem d_M_plain_198 : decode c_M_plain 198 = .ok (.iastore, 1) := by decide +kernel
theorem d_M_plain_199 : decode c_M_plain 199 = .ok (.iinc 8 1, 3) := by decide +kernel
theorem d_M_plain_202 : decode c_M_plain 202 = .ok (.goto (-38), 3) := by decide +kernel
theorem d_M_plain_205 : decode c_M_plain 205 = .ok (.goto 163, 3) := by decide +kernel
theorem d_M_plain_208 : decode c_M_plain 208 = .ok (.iload_n 3, 1) := by decide +kernel
theorem d_M_plain_209 : decode c_M_plain 209 = .ok (.iconst 3, 1) := by decide +kernel
theorem d_M_plain_210 : decode c_M_plain 210 = .ok (.if_icmp .ne 16, 3) := by decide +kernel
theorem d_M_plain_213 : decode c_M_plain 213 = .ok (.aload_n 0, 1) := by decide +kernel
theorem d_M_plain_214 : decode c_M_plain 214 = .ok (.getfield 69, 3) := by decide +kernel
theorem d_M_plain_217 : decode c_M_plain 217 = .ok (.iload_n 2, 1) := by decide +kernel
theorem d_M_plain_218 : decode c_M_plain 218 = .ok (.iload 4, 2) := by decide +kernel
theorem d_M_plain_220 : decode c_M_plain 220 = .ok (.iadd, 1) := by decide +kernel
theorem d_M_plain_221 : decode c_M_plain 221 = .ok (.iconst 0, 1) := by decide +kernel
theorem d_M_plain_222 : decode c_M_plain 222 = .ok (.iastore, 1) := by decide +kernel
theorem d_M_plain_223 : decode c_M_plain 223 = .ok (.goto 145, 3) := by decide +kernel
theorem d_M_plain_226 : decode c_M_plain 226 = .ok (.iload_n 3, 1) := by decide +kernel
theorem d_M_plain_227 : decode c_M_plain 227 = .ok (.iconst 4, 1) := by decide +kernel
theorem d_M_plain_228 : decode c_M_plain 228 = .ok (.if_icmp .ne 30, 3) := by decide +kernel
theorem d_M_plain_231 : decode c_M_plain 231 = .ok (.aload_n 0, 1) := by decide +kernel
theorem d_M_plain_232 : decode c_M_plain 232 = .ok (.iload 4, 2) := by decide +kernel
theorem d_M_plain_234 : decode c_M_plain 234 = .ok (.aload_n 0, 1) := by decide +kernel
theorem d_M_plain_235 : decode c_M_plain 235 = .ok (.getfield 66, 3) := by decide +kernel
theorem d_M_plain_238 : decode c_M_plain 238 = .ok (.iload_n 2, 1) := by decide +kernel
theorem d_M_plain_239 : decode c_M_plain 239 = .ok (.iload 5, 2) := by decide +kernel
theorem d_M_plain_241 : decode c_M_plain 241 = .ok (.iadd, 1) := by decide +kernel
theorem d_M_plain_242 : decode c_M_plain 242 = .ok (.iaload, 1) := by decide +kernel
theorem d_M_plain_243 : decode c_M_plain 243 = .ok (.aload_n 0, 1) := by decide +kernel
theorem d_M_plain_244 : decode c_M_plain 244 = .ok (.getfield 69, 3) := by decide +kernel
theorem d_M_plain_247 : decode c_M_plain 247 = .ok (.iload_n 2, 1) := by decide +kernel
theorem d_M_plain_248 : decode c_M_plain 248 = .ok (.iload 5, 2) := by decide +kernel
theorem d_M_plain_250 : decode c_M_plain 250 = .ok (.iadd, 1) := by decide +kernel
theorem d_M_plain_251 : decode c_M_plain 251 = .ok (.iaload, 1) := by decide +kernel
theorem d_M_plain_252 : decode c_M_plain 252 = .ok (.invokevirtual 189, 3) := by decide +kernel
theorem d_M_plain_255 : decode c_M_plain 255 = .ok (.goto 113, 3) := by decide +kernel
theorem d_M_plain_258 : decode c_M_plain 258 = .ok (.iload_n 3, 1) := by decide +kernel
theorem d_M_plain_259 : decode c_M_plain 259 = .ok (.iconst 5, 1) := by decide +kernel
theorem d_M_plain_260 : decode c_M_plain 260 = .ok (.if_icmp .ne 56, 3) := by decide +kernel
theorem d_M_plain_263 : decode c_M_plain 263 = .ok (.iconst 2, 1) := by decide +kernel
theorem d_M_plain_264 : decode c_M_plain 264 = .ok (.aload_n 0, 1) := by decide +kernel
theorem d_M_plain_265 : decode c_M_plain 265 = .ok (.getfield 66, 3) := by decide +kernel
theorem d_M_plain_268 : decode c_M_plain 268 = .ok (.iload_n 2, 1) := by decide +kernel
theorem d_M_plain_269 : decode c_M_plain 269 = .ok (.iload 5, 2) := by decide +kernel
theorem d_M_plain_271 : decode c_M_plain 271 = .ok (.iadd, 1) := by decide +kernel
theorem d_M_plain_272 : decode c_M_plain 272 = .ok (.iaload, 1) := by decide +kernel
theorem d_M_plain_273 : decode c_M_plain 273 = .ok (.imul, 1) := by decide +kernel
theorem d_M_plain_274 : decode c_M_plain 274 = .ok (.aload_n 0, 1) := by decide +kernel
theorem d_M_plain_275 : decode c_M_plain 275 = .ok (.getfield 22, 3) := by decide +kernel
theorem d_M_plain_278 : decode c_M_plain 278 = .ok (.iload_n 1, 1) := by decide +kernel
theorem d_M_plain_279 : decode c_M_plain 279 = .ok (.iaload, 1) := by decide +kernel
theorem d_M_plain_280 : decode c_M_plain 280 = .ok (.iadd, 1) := by decide +kernel
theorem d_M_plain_281 : decode c_M_plain 281 = .ok (.istore 7, 2) := by decide +kernel
theorem d_M_plain_283 : decode c_M_plain 283 = .ok (.aload_n 0, 1) := by decide +kernel
theorem d_M_plain_284 : decode c_M_plain 284 = .ok (.iload 4, 2) := by decide +kernel
theorem d_M_plain_286 : decode c_M_plain 286 = .ok (.aload_n 0, 1) := by decide +kernel
theorem d_M_plain_287 : decode c_M_plain 287 = .ok (.getfield 75, 3) := by decide +kernel
theorem d_M_plain_290 : decode c_M_plain 290 = .ok (.iload 7, 2) := by decide +kernel
theorem d_M_plain_292 : decode c_M_plain 292 = .ok (.iaload, 1) := by decide +kernel
theorem d_M_plain_293 : decode c_M_plain 293 = .ok (.aload_n 0, 1) := by decide +kernel
theorem d_M_plain_294 : decode c_M_plain 294 = .ok (.getfield 78, 3) := by decide +kernel
theorem d_M_plain_297 : decode c_M_plain 297 = .ok (.iload 7, 2) := by decide +kernel
theorem d_M_plain_299 : decode c_M_plain 299 = .ok (.iaload, 1) := by decide +kernel
theorem d_M_plain_300 : decode c_M_plain 300 = .ok (.aload_n 0, 1) := by decide +kernel
theorem d_M_plain_301 : decode c_M_plain 301 = .ok (.getfield 69, 3) := by decide +kernel
theorem d_M_plain_304 : decode c_M_plain 304 = .ok (.iload_n 2, 1) := by decide +kernel
theorem d_M_plain_305 : decode c_M_plain 305 = .ok (.iload 5, 2) := by decide +kernel
theorem d_M_plain_307 : decode c_M_plain 307 = .ok (.iadd, 1) := by decide +kernel
theorem d_M_plain_308 : decode c_M_plain 308 = .ok (.iaload, 1) := by decide +kernel
theorem d_M_plain_309 : decode c_M_plain 309 = .ok (.ior, 1) := by decide +kernel
theorem d_M_plain_310 : decode c_M_plain 310 = .ok (.invokevirtual 189, 3) := by decide +kernel
theorem d_M_plain_313 : decode c_M_plain 313 = .ok (.goto 55, 3) := by decide +kernel
theorem d_M_plain_316 : decode c_M_plain 316 = .ok (.iconst 2, 1) := by decide +kernel
theorem d_M_plain_317 : decode c_M_plain 317 = .ok (.aload_n 0, 1) := by decide +kernel
theorem d_M_plain_318 : decode c_M_plain 318 = .ok (.getfield 66, 3) := by decide +kernel
theorem d_M_plain_321 : decode c_M_plain 321 = .ok (.iload_n 2, 1) := by decide +kernel
theorem d_M_plain_322 : decode c_M_plain 322 = .ok (.iload 4, 2) := by decide +kernel
theorem d_M_plain_324 : decode c_M_plain 324 = .ok (.iadd, 1) := by decide +kernel
theorem d_M_plain_325 : decode c_M_plain 325 = .ok (.iaload, 1) := by decide +kernel
theorem d_M_plain_326 : decode c_M_plain 326 = .ok (.imul, 1) := by decide +kernel
theorem d_M_plain_327 : decode c_M_plain 327 = .ok (.aload_n 0, 1) := by decide +kernel
theorem d_M_plain_328 : decode c_M_plain 328 = .ok (.getfield 22, 3) := by decide +kernel
theorem d_M_plain_331 : decode c_M_plain 331 = .ok (.iload_n 1, 1) := by decide +kernel
theorem d_M_plain_332 : decode c_M_plain 332 = .ok (.iaload, 1) := by decide +kernel
theorem d_M_plain_333 : decode c_M_plain 333 = .ok (.iadd, 1) := by decide +kernel
theorem d_M_plain_334 : decode c_M_plain 334 = .ok (.istore 7, 2) := by decide +kernel
theorem d_M_plain_336 : decode c_M_plain 336 = .ok (.aload_n 0, 1) := by decide +kernel
theorem d_M_plain_337 : decode c_M_plain 337 = .ok (.getfield 75, 3) := by decide +kernel
theorem d_M_plain_340 : decode c_M_plain 340 = .ok (.iload 7, 2) := by decide +kernel
theorem d_M_plain_342 : decode c_M_plain 342 = .ok (.aload_n 0, 1) := by decide +kernel
theorem d_M_plain_343 : decode c_M_plain 343 = .ok (.getfield 66, 3) := by decide +kernel
theorem d_M_plain_346 : decode c_M_plain 346 = .ok (.iload_n 2, 1) := by decide +kernel
theorem d_M_plain_347 : decode c_M_plain 347 = .ok (.iload 5, 2) := by decide +kernel
theorem d_M_plain_349 : decode c_M_plain 349 = .ok (.iadd, 1) := by decide +kernel
theorem d_M_plain_350 : decode c_M_plain 350 = .ok (.iaload, 1) := by decide +kernel
theorem d_M_plain_351 : decode c_M_plain 351 = .ok (.iastore, 1) := by decide +kernel
theorem d_M_plain_352 : decode c_M_plain 352 = .ok (.aload_n 0, 1) := by decide +kernel
theorem d_M_plain_353 : decode c_M_plain 353 = .ok (.getfield 78, 3) := by decide +kernel
theorem d_M_plain_356 : decode c_M_plain 356 = .ok (.iload 7, 2) := by decide +kernel
theorem d_M_plain_358 : decode c_M_plain 358 = .ok (.aload_n 0, 1) := by decide +kernel
theorem d_M_plain_359 : decode c_M_plain 359 = .ok (.getfield 69, 3) := by decide +kernel
theorem d_M_plain_362 : decode c_M_plain 362 = .ok (.iload_n 2, 1) := by decide +kernel
theorem d_M_plain_363 : decode c_M_plain 363 = .ok (.iload 5, 2) := by decide +kernel
theorem d_M_plain_365 : decode c_M_plain 365 = .ok (.iadd, 1) := by decide +kernel
theorem d_M_plain_366 : decode c_M_plain 366 = .ok (.iaload, 1) := by decide +kernel
theorem d_M_plain_367 : decode c_M_plain 367 = .ok (.iastore, 1) := by decide +kernel
theorem d_M_plain_368 : decode c_M_plain 368 = .ok (.return_, 1) := by decide +kernel
theorem d_M_step_0 : decode c_M_step 0 = .ok (.aload_n 0, 1) := by decide +kernel
theorem d_M_step_1 : decode c_M_step 1 = .ok (.getfield 60, 3) := by decide +kernel
theorem d_M_step_4 : decode c_M_step 4 = .ok (.aload_n 0, 1) := by decide +kernel
theorem d_M_step_5 : decode c_M_step 5 = .ok (.getfield 186, 3) := by decide +kernel
theorem d_M_step_8 : decode c_M_step 8 = .ok (.iconst 1, 1) := by decide +kernel
theorem d_M_step_9 : decode c_M_step 9 = .ok (.isub, 1) := by decide +kernel
theorem d_M_step_10 : decode c_M_step 10 = .ok (.iaload, 1) := by decide +kernel
theorem d_M_step_11 : decode c_M_step 11 = .ok (.istore_n 2, 1) := by decide +kernel
theorem d_M_step_12 : decode c_M_step 12 = .ok (.aload_n 0, 1) := by decide +kernel
theorem d_M_step_13 : decode c_M_step 13 = .ok (.getfield 63, 3) := by decide +kernel
theorem d_M_step_16 : decode c_M_step 16 = .ok (.aload_n 0, 1) := by decide +kernel
theorem d_M_step_17 : decode c_M_step 17 = .ok (.getfield 186, 3) := by decide +kernel
theorem d_M_step_20 : decode c_M_step 20 = .ok (.iconst 1, 1) := by decide +kernel
theorem d_M_step_21 : decode c_M_step 21 = .ok (.isub, 1) := by decide +kernel
theorem d_M_step_22 : decode c_M_step 22 = .ok (.iaload, 1) := by decide +kernel
theorem d_M_step_23 : decode c_M_step 23 = .ok (.istore_n 3, 1) := by decide +kernel
theorem d_M_step_24 : decode c_M_step 24 = .ok (.bipush 12, 2) := by decide +kernel
theorem d_M_step_26 : decode c_M_step 26 = .ok (.iload_n 2, 1) := by decide +kernel
theorem d_M_step_27 : decode c_M_step 27 = .ok (.imul, 1) := by decide +kernel
theorem d_M_step_28 : decode c_M_step 28 = .ok (.iload_n 3, 1) := by decide +kernel
theorem d_M_step_29 : decode c_M_step 29 = .ok (.iadd, 1) := by decide +kernel
theorem d_M_step_30 : decode c_M_step 30 = .ok (.istore 4, 2) := by decide +kernel
theorem d_M_step_32 : decode c_M_step 32 = .ok (.aload_n 0, 1) := by decide +kernel
theorem d_M_step_33 : decode c_M_step 33 = .ok (.getfield 13, 3) := by decide +kernel
theorem d_M_step_36 : decode c_M_step 36 = .ok (.iload 4, 2) := by decide +kernel
theorem d_M_step_38 : decode c_M_step 38 = .ok (.iaload, 1) := by decide +kernel
theorem d_M_step_39 : decode c_M_step 39 = .ok (.istore 5, 2) := by decide +kernel
theorem d_M_step_41 : decode c_M_step 41 = .ok (.aload_n 0, 1) := by decide +kernel
theorem d_M_step_42 : decode c_M_step 42 = .ok (.getfield 16, 3) := by decide +kernel
theorem d_M_step_45 : decode c_M_step 45 = .ok (.iload 4, 2) := by decide +kernel
theorem d_M_step_47 : decode c_M_step 47 = .ok (.iaload, 1) := by decide +kernel
theorem d_M_step_48 : decode c_M_step 48 = .ok (.istore 6, 2) := by decide +kernel
theorem d_M_step_50 : decode c_M_step 50 = .ok (.iconst 4, 1) := by decide +kernel
theorem d_M_step_51 : decode c_M_step 51 = .ok (.aload_n 0, 1) := by decide +kernel
theorem d_M_step_52 : decode c_M_step 52 = .ok (.getfield 186, 3) := by decide +kernel
theorem d_M_step_55 : decode c_M_step 55 = .ok (.iconst 1, 1) := by decide +kernel
theorem d_M_step_56 : decode c_M_step 56 = .ok (.isub, 1) := by decide +kernel
theorem d_M_step_57 : decode c_M_step 57 = .ok (.imul, 1) := by decide +kernel
theorem d_M_step_58 : decode c_M_step 58 = .ok (.istore 7, 2) := by decide +kernel
theorem d_M_step_60 : decode c_M_step 60 = .ok (.iload 5, 2) := by decide +kernel
theorem d_M_step_62 : decode c_M_step 62 = .ok (.bipush 7, 2) := by decide +kernel
theorem d_M_step_64 : decode c_M_step 64 = .ok (.if_icmp .ne 65, 3) := by decide +kernel
theorem d_M_step_67 : decode c_M_step 67 = .ok (.iload 7, 2) := by decide +kernel
theorem d_M_step_69 : decode c_M_step 69 = .ok (.aload_n 0, 1) := by decide +kernel
theorem d_M_step_70 : decode c_M_step 70 = .ok (.getfield 19, 3) := by decide +kernel
theorem d_M_step_73 : decode c_M_step 73 = .ok (.iload 4, 2) := by decide +kernel
theorem d_M_step_75 : decode c_M_step 75 = .ok (.iaload, 1) := by decide +kernel
theorem d_M_step_76 : decode c_M_step 76 = .ok (.iadd, 1) := by decide +kernel
theorem d_M_step_77 : decode c_M_step 77 = .ok (.istore 8, 2) := by decide +kernel
theorem d_M_step_79 : decode c_M_step 79 = .ok (.aload_n 0, 1) := by decide +kernel
theorem d_M_step_80 : decode c_M_step 80 = .ok (.aload_n 0, 1) := by decide +kernel
theorem d_M_step_81 : decode c_M_step 81 = .ok (.getfield 72, 3) := by decide +kernel
theorem d_M_step_84 : decode c_M_step 84 = .ok (.aload_n 0, 1) := by decide +kernel
theorem d_M_step_85 : decode c_M_step 85 = .ok (.getfield 66, 3) := by decide +kernel
theorem d_M_step_88 : decode c_M_step 88 = .ok (.iload 8, 2) := by decide +kernel
theorem d_M_step_90 : decode c_M_step 90 = .ok (.iaload, 1) := by decide +kernel
theorem d_M_step_91 : decode c_M_step 91 = .ok (.iaload, 1) := by decide +kernel
theorem d_M_step_92 : decode c_M_step 92 = .ok (.aload_n 0, 1) := by decide +kernel
theorem d_M_step_93 : decode c_M_step 93 = .ok (.getfield 22, 3) := by decide +kernel
theorem d_M_step_96 : decode c_M_step 96 = .ok (.iload 4, 2) := by decide +kernel
theorem d_M_step_98 : decode c_M_step 98 = .ok (.iaload, 1) := by decide +kernel
theorem d_M_step_99 : decode c_M_step 99 = .ok (.iconst 4, 1) := by decide +kernel
theorem d_M_step_100 : decode c_M_step 100 = .ok (.idiv, 1) := by decide +kernel
theorem d_M_step_101 : decode c_M_step 101 = .ok (.invokevirtual 107, 3) := by decide +kernel
theorem d_M_step_104 : decode c_M_step 104 = .ok (.istore 9, 2) := by decide +kernel
theorem d_M_step_106 : decode c_M_step 106 = .ok (.aload_n 0, 1) := by decide +kernel
theorem d_M_step_107 : decode c_M_step 107 = .ok (.iload 9, 2) := by decide +kernel
theorem d_M_step_109 : decode c_M_step 109 = .ok (.iload 8, 2) := by decide +kernel
theorem d_M_step_111 : decode c_M_step 111 = .ok (.iload 7, 2) := by decide +kernel
theorem d_M_step_113 : decode c_M_step 113 = .ok (.aload_n 0, 1) := by decide +kernel
theorem d_M_step_114 : decode c_M_step 114 = .ok (.getfield 22, 3) := by decide +kernel
theorem d_M_step_117 : decode c_M_step 117 = .ok (.iload 4, 2) := by decide +kernel
theorem d_M_step_119 : decode c_M_step 119 = .ok (.iaload, 1) := by decide +kernel
theorem d_M_step_120 : decode c_M_step 120 = .ok (.iconst 4, 1) := by decide +kernel
theorem d_M_step_121 : decode c_M_step 121 = .ok (.irem, 1) := by decide +kernel
theorem d_M_step_122 : decode c_M_step 122 = .ok (.iadd, 1) := by decide +kernel
theorem d_M_step_123 : decode c_M_step 123 = .ok (.invokevirtual 195, 3) := by decide +kernel
theorem d_M_step_126 : decode c_M_step 126 = .ok (.goto 157, 3) := by decide +kernel
theorem d_M_step_129 : decode c_M_step 129 = .ok (.iload 5, 2) := by decide +kernel
theorem d_M_step_131 : decode c_M_step 131 = .ok (.bipush 10, 2) := by decide +kernel
theorem d_M_step_133 : decode c_M_step 133 = .ok (.if_icmp .ne 12, 3) := by decide +kernel
theorem d_M_step_136 : decode c_M_step 136 = .ok (.aload_n 0, 1) := by decide +kernel
theorem d_M_step_137 : decode c_M_step 137 = .ok (.iload 6, 2) := by decide +kernel
theorem d_M_step_139 : decode c_M_step 139 = .ok (.invokevirtual 198, 3) := by decide +kernel
theorem d_M_step_142 : decode c_M_step 142 = .ok (.goto 141, 3) := by decide +kernel
theorem d_M_step_145 : decode c_M_step 145 = .ok (.iload 5, 2) := by decide +kernel
theorem d_M_step_147 : decode c_M_step 147 = .ok (.bipush 8, 2) := by decide +kernel
theorem d_M_step_149 : decode c_M_step 149 = .ok (.if_icmp .eq 10, 3) := by decide +kernel
theorem d_M_step_152 : decode c_M_step 152 = .ok (.iload 5, 2) := by decide +kernel
theorem d_M_step_154 : decode c_M_step 154 = .ok (.bipush 9, 2) := by decide +kernel
theorem d_M_step_156 : decode c_M_step 156 = .ok (.if_icmp .ne 104, 3) := by decide +kernel
theorem d_M_step_159 : decode c_M_step 159 = .ok (.iload 5, 2) := by decide +kernel
theorem d_M_step_161 : decode c_M_step 161 = .ok (.bipush 9, 2) := by decide +kernel
theorem d_M_step_163 : decode c_M_step 163 = .ok (.if_icmp .eq 18, 3) := by decide +kernel
theorem d_M_step_166 : decode c_M_step 166 = .ok (.iload_n 1, 1) := by decide +kernel
theorem d_M_step_167 : decode c_M_step 167 = .ok (.aload_n 0, 1) := by decide +kernel
theorem d_M_step_168 : decode c_M_step 168 = .ok (.getfield 202, 3) := by decide +kernel
theorem d_M_step_171 : decode c_M_step 171 = .ok (.bipush 31, 2) := by decide +kernel
theorem d_M_step_173 : decode c_M_step 173 = .ok (.iand, 1) := by decide +kernel
theorem d_M_step_174 : decode c_M_step 174 = .ok (.ishr, 1) := by decide +kernel
theorem d_M_step_175 : decode c_M_step 175 = .ok (.iconst 1, 1) := by decide +kernel
theorem d_M_step_176 : decode c_M_step 176 = .ok (.iand, 1) := by decide +kernel
theorem d_M_step_177 : decode c_M_step 177 = .ok (.iconst 1, 1) := by decide +kernel
theorem d_M_step_178 : decode c_M_step 178 = .ok (.if_icmp .ne 7, 3) := by decide +kernel
theorem d_M_step_181 : decode c_M_step 181 = .ok (.iconst 1, 1) := by decide +kernel
theorem d_M_step_182 : decode c_M_step 182 = .ok (.goto 4, 3) := by decide +kernel
theorem d_M_step_185 : decode c_M_step 185 = .ok (.iconst 0, 1) := by decide +kernel
theorem d_M_step_186 : decode c_M_step 186 = .ok (.istore 8, 2) := by decide +kernel
theorem d_M_step_188 : decode c_M_step 188 = .ok (.aload_n 0, 1) := by decide +kernel
theorem d_M_step_189 : decode c_M_step 189 = .ok (.dup, 1) := by decide +kernel
theorem d_M_step_190 : decode c_M_step 190 = .ok (.getfield 202, 3) := by decide +kernel
theorem d_M_step_193 : decode c_M_step 193 = .ok (.iload 5, 2) := by decide +kernel
theorem d_M_step_195 : decode c_M_step 195 = .ok (.bipush 8, 2) := by decide +kernel
theorem d_M_step_197 : decode c_M_step 197 = .ok (.if_icmp .ne 7, 3) := by decide +kernel
theorem d_M_step_200 : decode c_M_step 200 = .ok (.iconst 1, 1) := by decide +kernel
theorem d_M_step_201 : decode c_M_step 201 = .ok (.goto 4, 3) := by decide +kernel
theorem d_M_step_204 : decode c_M_step 204 = .ok (.iconst 0, 1) := by decide +kernel
theorem d_M_step_205 : decode c_M_step 205 = .ok (.iadd, 1) := by decide +kernel
theorem d_M_step_206 : decode c_M_step 206 = .ok (.putfield 202, 3) := by decide +kernel
theorem d_M_step_209 : decode c_M_step 209 = .ok (.iload 8, 2) := by decide +kernel
theorem d_M_step_211 : decode c_M_step 211 = .ok (.ifCond .eq 8, 3) := by decide +kernel
theorem d_M_step_214 : decode c_M_step 214 = .ok (.iload 6, 2) := by decide +kernel
theorem d_M_step_216 : decode c_M_step 216 = .ok (.goto 6, 3) := by decide +kernel
theorem d_M_step_219 : decode c_M_step 219 = .ok (.iload_n 3, 1) := by decide +kernel
theorem d_M_step_220 : decode c_M_step 220 = .ok (.iconst 1, 1) := by decide +kernel
theorem d_M_step_221 : decode c_M_step 221 = .ok (.iadd, 1) := by decide +kernel
theorem d_M_step_222 : decode c_M_step 222 = .ok (.istore 9, 2) := by decide +kernel
theorem d_M_step_224 : decode c_M_step 224 = .ok (.aload_n 0, 1) := by decide +kernel
theorem d_M_step_225 : decode c_M_step 225 = .ok (.getfield 63, 3) := by decide +kernel
theorem d_M_step_228 : decode c_M_step 228 = .ok (.aload_n 0, 1) := by decide +kernel
theorem d_M_step_229 : decode c_M_step 229 = .ok (.getfield 186, 3) := by decide +kernel
theorem d_M_step_232 : decode c_M_step 232 = .ok (.iconst 1, 1) := by decide +kernel
theorem d_M_step_233 : decode c_M_step 233 = .ok (.isub, 1) := by decide +kernel
theorem d_M_step_234 : decode c_M_step 234 = .ok (.iload 9, 2) := by decide +kernel
theorem d_M_step_236 : decode c_M_step 236 = .ok (.aload_n 0, 1) := by decide +kernel
theorem d_M_step_237 : decode c_M_step 237 = .ok (.getfield 7, 3) := by decide +kernel
theorem d_M_step_240 : decode c_M_step 240 = .ok (.iload_n 2, 1) := by decide +kernel
theorem d_M_step_241 : decode c_M_step 241 = .ok (.iaload, 1) := by decide +kernel
theorem d_M_step_242 : decode c_M_step 242 = .ok (.if_icmp .le 12, 3) := by decide +kernel
theorem d_M_step_245 : decode c_M_step 245 = .ok (.aload_n 0, 1) := by decide +kernel
theorem d_M_step_246 : decode c_M_step 246 = .ok (.getfield 7, 3) := by decide +kernel
theorem d_M_step_249 : decode c_M_step 249 = .ok (.iload_n 2, 1) := by decide +kernel
theorem d_M_step_250 : decode c_M_step 250 = .ok (.iaload, 1) := by decide +kernel
theorem d_M_step_251 : decode c_M_step 251 = .ok (.goto 5, 3) := by decide +kernel
theorem d_M_step_254 : decode c_M_step 254 = .ok (.iload 9, 2) := by decide +kernel
theorem d_M_step_256 : decode c_M_step 256 = .ok (.iastore, 1) := by decide +kernel
theorem d_M_step_257 : decode c_M_step 257 = .ok (.goto 26, 3) := by decide +kernel
theorem d_M_step_260 : decode c_M_step 260 = .ok (.aload_n 0, 1) := by decide +kernel
theorem d_M_step_261 : decode c_M_step 261 = .ok (.iload 4, 2) := by decide +kernel
theorem d_M_step_263 : decode c_M_step 263 = .ok (.iload 7, 2) := by decide +kernel
theorem d_M_step_265 : decode c_M_step 265 = .ok (.invokevirtual 205, 3) := by decide +kernel
theorem d_M_step_268 : decode c_M_step 268 = .ok (.aload_n 0, 1) := by decide +kernel
theorem d_M_step_269 : decode c_M_step 269 = .ok (.getfield 63, 3) := by decide +kernel
theorem d_M_step_272 : decode c_M_step 272 = .ok (.aload_n 0, 1) := by decide +kernel
theorem d_M_step_273 : decode c_M_step 273 = .ok (.getfield 186, 3) := by decide +kernel
theorem d_M_step_276 : decode c_M_step 276 = .ok (.iconst 1, 1) := by decide +kernel
theorem d_M_step_277 : decode c_M_step 277 = .ok (.isub, 1) := by decide +kernel
theorem d_M_step_278 : decode c_M_step 278 = .ok (.dup2, 1) := by decide +kernel
theorem d_M_step_279 : decode c_M_step 279 = .ok (.iaload, 1) := by decide +kernel
theorem d_M_step_280 : decode c_M_step 280 = .ok (.iconst 1, 1) := by decide +kernel
theorem d_M_step_281 : decode c_M_step 281 = .ok (.iadd, 1) := by decide +kernel
theorem d_M_step_282 : decode c_M_step 282 = .ok (.iastore, 1) := by decide +kernel
theorem d_M_step_283 : decode c_M_step 283 = .ok (.return_, 1) := by decide +kernel
theorem d_M_run_0 : decode c_M_run 0 = .ok (.iload_n 2, 1) := by decide +kernel
theorem d_M_run_1 : decode c_M_run 1 = .ok (.ifCond .ge 7, 3) := by decide +kernel
theorem d_M_run_4 : decode c_M_run 4 = .ok (.iconst 0, 1) := by decide +kernel
theorem d_M_run_5 : decode c_M_run 5 = .ok (.goto 17, 3) := by decide +kernel
theorem d_M_run_8 : decode c_M_run 8 = .ok (.iload_n 2, 1) := by decide +kernel
theorem d_M_run_9 : decode c_M_run 9 = .ok (.sipush 200, 3) := by decide +kernel
theorem d_M_run_12 : decode c_M_run 12 = .ok (.if_icmp .le 9, 3) := by decide +kernel
theorem d_M_run_15 : decode c_M_run 15 = .ok (.sipush 200, 3) := by decide +kernel
theorem d_M_run_18 : decode c_M_run 18 = .ok (.goto 4, 3) := by decide +kernel
theorem d_M_run_21 : decode c_M_run 21 = .ok (.iload_n 2, 1) := by decide +kernel
theorem d_M_run_22 : decode c_M_run 22 = .ok (.istore_n 3, 1) := by decide +kernel
theorem d_M_run_23 : decode c_M_run 23 = .ok (.aload_n 0, 1) := by decide +kernel
theorem d_M_run_24 : decode c_M_run 24 = .ok (.iconst 0, 1) := by decide +kernel
theorem d_M_run_25 : decode c_M_run 25 = .ok (.putfield 192, 3) := by decide +kernel
theorem d_M_run_28 : decode c_M_run 28 = .ok (.aload_n 0, 1) := by decide +kernel
theorem d_M_run_29 : decode c_M_run 29 = .ok (.iconst 0, 1) := by decide +kernel
theorem d_M_run_30 : decode c_M_run 30 = .ok (.putfield 208, 3) := by decide +kernel
theorem d_M_run_33 : decode c_M_run 33 = .ok (.aload_n 0, 1) := by decide +kernel
theorem d_M_run_34 : decode c_M_run 34 = .ok (.iconst 0, 1) := by decide +kernel
theorem d_M_run_35 : decode c_M_run 35 = .ok (.putfield 202, 3) := by decide +kernel
theorem d_M_run_38 : decode c_M_run 38 = .ok (.aload_n 0, 1) := by decide +kernel
theorem d_M_run_39 : decode c_M_run 39 = .ok (.iconst 0, 1) := by decide +kernel
theorem d_M_run_40 : decode c_M_run 40 = .ok (.putfield 186, 3) := by decide +kernel
theorem d_M_run_43 : decode c_M_run 43 = .ok (.aload_n 0, 1) := by decide +kernel
theorem d_M_run_44 : decode c_M_run 44 = .ok (.iconst 0, 1) := by decide +kernel
theorem d_M_run_45 : decode c_M_run 45 = .ok (.putfield 89, 3) := by decide +kernel
theorem d_M_run_48 : decode c_M_run 48 = .ok (.iconst 0, 1) := by decide +kernel
theorem d_M_run_49 : decode c_M_run 49 = .ok (.istore 4, 2) := by decide +kernel
theorem d_M_run_51 : decode c_M_run 51 = .ok (.iload 4, 2) := by decide +kernel
theorem d_M_run_53 : decode c_M_run 53 = .ok (.bipush 16, 2) := by decide +kernel
theorem d_M_run_55 : decode c_M_run 55 = .ok (.if_icmp .ge 17, 3) := by decide +kernel
theorem d_M_run_58 : decode c_M_run 58 = .ok (.aload_n 0, 1) := by decide +kernel
theorem d_M_run_59 : decode c_M_run 59 = .ok (.getfield 57, 3) := by decide +kernel
theorem d_M_run_62 : decode c_M_run 62 = .ok (.iload 4, 2) := by decide +kernel
theorem d_M_run_64 : decode c_M_run 64 = .ok (.iconst 0, 1) := by decide +kernel
theorem d_M_run_65 : decode c_M_run 65 = .ok (.iastore, 1) := by decide +kernel
theorem d_M_run_66 : decode c_M_run 66 = .ok (.iinc 4 1, 3) := by decide +kernel
theorem d_M_run_69 : decode c_M_run 69 = .ok (.goto (-18), 3) := by decide +kernel
theorem d_M_run_72 : decode c_M_run 72 = .ok (.aload_n 0, 1) := by decide +kernel
theorem d_M_run_73 : decode c_M_run 73 = .ok (.iconst 0, 1) := by decide +kernel
theorem d_M_run_74 : decode c_M_run 74 = .ok (.iconst (-1), 1) := by decide +kernel
theorem d_M_run_75 : decode c_M_run 75 = .ok (.iconst (-1), 1) := by decide +kernel
theorem d_M_run_76 : decode c_M_run 76 = .ok (.invokevirtual 195, 3) := by decide +kernel
theorem d_M_run_79 : decode c_M_run 79 = .ok (.iconst 0, 1) := by decide +kernel
theorem d_M_run_80 : decode c_M_run 80 = .ok (.istore 4, 2) := by decide +kernel
theorem d_M_run_82 : decode c_M_run 82 = .ok (.iload 4, 2) := by decide +kernel
theorem d_M_run_84 : decode c_M_run 84 = .ok (.sipush 200, 3) := by decide +kernel
theorem d_M_run_87 : decode c_M_run 87 = .ok (.if_icmp .gt 127, 3) := by decide +kernel
theorem d_M_run_90 : decode c_M_run 90 = .ok (.aload_n 0, 1) := by decide +kernel
theorem d_M_run_91 : decode c_M_run 91 = .ok (.getfield 89, 3) := by decide +kernel
theorem d_M_run_94 : decode c_M_run 94 = .ok (.ifCond .ne 120, 3) := by decide +kernel
theorem d_M_run_97 : decode c_M_run 97 = .ok (.iconst 0, 1) := by decide +kernel
theorem d_M_run_98 : decode c_M_run 98 = .ok (.istore 5, 2) := by decide +kernel
theorem d_M_run_100 : decode c_M_run 100 = .ok (.iload 5, 2) := by decide +kernel
theorem d_M_run_102 : decode c_M_run 102 = .ok (.bipush 6, 2) := by decide +kernel
theorem d_M_run_104 : decode c_M_run 104 = .ok (.if_icmp .ge 51, 3) := by decide +kernel
theorem d_M_run_107 : decode c_M_run 107 = .ok (.aload_n 0, 1) := by decide +kernel
theorem d_M_run_108 : decode c_M_run 108 = .ok (.getfield 186, 3) := by decide +kernel
theorem d_M_run_111 : decode c_M_run 111 = .ok (.ifCond .le 38, 3) := by decide +kernel
theorem d_M_run_114 : decode c_M_run 114 = .ok (.aload_n 0, 1) := by decide +kernel
theorem d_M_run_115 : decode c_M_run 115 = .ok (.getfield 63, 3) := by decide +kernel
theorem d_M_run_118 : decode c_M_run 118 = .ok (.aload_n 0, 1) := by decide +kernel
theorem d_M_run_119 : decode c_M_run 119 = .ok (.getfield 186, 3) := by decide +kernel
theorem d_M_run_122 : decode c_M_run 122 = .ok (.iconst 1, 1) := by decide +kernel
theorem d_M_run_123 : decode c_M_run 123 = .ok (.isub, 1) := by decide +kernel
theorem d_M_run_124 : decode c_M_run 124 = .ok (.iaload, 1) := by decide +kernel
theorem d_M_run_125 : decode c_M_run 125 = .ok (.aload_n 0, 1) := by decide +kernel
theorem d_M_run_126 : decode c_M_run 126 = .ok (.getfield 7, 3) := by decide +kernel
theorem d_M_run_129 : decode c_M_run 129 = .ok (.aload_n 0, 1) := by decide +kernel
theorem d_M_run_130 : decode c_M_run 130 = .ok (.getfield 60, 3) := by decide +kernel
theorem d_M_run_133 : decode c_M_run 133 = .ok (.aload_n 0, 1) := by decide +kernel
theorem d_M_run_134 : decode c_M_run 134 = .ok (.getfield 186, 3) := by decide +kernel
theorem d_M_run_137 : decode c_M_run 137 = .ok (.iconst 1, 1) := by decide +kernel
theorem d_M_run_138 : decode c_M_run 138 = .ok (.isub, 1) := by decide +kernel
theorem d_M_run_139 : decode c_M_run 139 = .ok (.iaload, 1) := by decide +kernel
theorem d_M_run_140 : decode c_M_run 140 = .ok (.iaload, 1) := by decide +kernel
theorem d_M_run_141 : decode c_M_run 141 = .ok (.if_icmp .ne 8, 3) := by decide +kernel
theorem d_M_run_144 : decode c_M_run 144 = .ok (.aload_n 0, 1) := by decide +kernel
theorem d_M_run_145 : decode c_M_run 145 = .ok (.iconst (-1), 1) := by decide +kernel
theorem d_M_run_146 : decode c_M_run 146 = .ok (.invokevirtual 198, 3) := by decide +kernel
theorem d_M_run_149 : decode c_M_run 149 = .ok (.iinc 5 1, 3) := by decide +kernel
theorem d_M_run_152 : decode c_M_run 152 = .ok (.goto (-52), 3) := by decide +kernel
theorem d_M_run_155 : decode c_M_run 155 = .ok (.aload_n 0, 1) := by decide +kernel
theorem d_M_run_156 : decode c_M_run 156 = .ok (.aload_n 0, 1) := by decide +kernel
theorem d_M_run_157 : decode c_M_run 157 = .ok (.getfield 186, 3) := by decide +kernel
theorem d_M_run_160 : decode c_M_run 160 = .ok (.ifCond .ne 7, 3) := by decide +kernel
theorem d_M_run_163 : decode c_M_run 163 = .ok (.iconst 1, 1) := by decide +kernel
theorem d_M_run_164 : decode c_M_run 164 = .ok (.goto 19, 3) := by decide +kernel
theorem d_M_run_167 : decode c_M_run 167 = .ok (.aload_n 0, 1) := by decide +kernel
theorem d_M_run_168 : decode c_M_run 168 = .ok (.getfield 208, 3) := by decide +kernel
theorem d_M_run_171 : decode c_M_run 171 = .ok (.iload_n 3, 1) := by decide +kernel
theorem d_M_run_172 : decode c_M_run 172 = .ok (.if_icmp .ne 7, 3) := by decide +kernel
theorem d_M_run_175 : decode c_M_run 175 = .ok (.iconst 2, 1) := by decide +kernel
theorem d_M_run_176 : decode c_M_run 176 = .ok (.goto 7, 3) := by decide +kernel
theorem d_M_run_179 : decode c_M_run 179 = .ok (.aload_n 0, 1) := by decide +kernel
theorem d_M_run_180 : decode c_M_run 180 = .ok (.invokevirtual 211, 3) := by decide +kernel
theorem d_M_run_183 : decode c_M_run 183 = .ok (.putfield 89, 3) := by decide +kernel
theorem d_M_run_186 : decode c_M_run 186 = .ok (.aload_n 0, 1) := by decide +kernel
theorem d_M_run_187 : decode c_M_run 187 = .ok (.getfield 89, 3) := by decide +kernel
theorem d_M_run_190 : decode c_M_run 190 = .ok (.ifCond .ne 18, 3) := by decide +kernel
theorem d_M_run_193 : decode c_M_run 193 = .ok (.aload_n 0, 1) := by decide +kernel
theorem d_M_run_194 : decode c_M_run 194 = .ok (.iload_n 1, 1) := by decide +kernel
