theorem d_F_pass_20 : decode c_F_pass 20 = .ok (.iload_n 2, 1) := by decide +kernel
theorem d_F_pass_21 : decode c_F_pass 21 = .ok (.iload_n 3, 1) := by decide +kernel
theorem d_F_pass_22 : decode c_F_pass 22 = .ok (.iload 4, 2) := by decide +kernel
theorem d_F_pass_24 : decode c_F_pass 24 = .ok (.invokevirtual 105, 3) := by decide +kernel
theorem d_F_pass_27 : decode c_F_pass 27 = .ok (.return_, 1) := by decide +kernel
theorem d_F_pass_28 : decode c_F_pass 28 = .ok (.iload 5, 2) := by decide +kernel
theorem d_F_pass_30 : decode c_F_pass 30 = .ok (.bipush 10, 2) := by decide +kernel
theorem d_F_pass_32 : decode c_F_pass 32 = .ok (.if_icmp .ne 42, 3) := by decide +kernel
theorem d_F_pass_35 : decode c_F_pass 35 = .ok (.iload 4, 2) := by decide +kernel
theorem d_F_pass_37 : decode c_F_pass 37 = .ok (.aload_n 0, 1) := by decide +kernel
theorem d_F_pass_38 : decode c_F_pass 38 = .ok (.getfield 11, 3) := by decide +kernel
theorem d_F_pass_41 : decode c_F_pass 41 = .ok (.getfield 88, 3) := by decide +kernel
theorem d_F_pass_44 : decode c_F_pass 44 = .ok (.iload_n 2, 1) := by decide +kernel
theorem d_F_pass_45 : decode c_F_pass 45 = .ok (.iaload, 1) := by decide +kernel
theorem d_F_pass_46 : decode c_F_pass 46 = .ok (.invokestatic 55, 3) := by decide +kernel
theorem d_F_pass_49 : decode c_F_pass 49 = .ok (.ifCond .eq 7, 3) := by decide +kernel
theorem d_F_pass_52 : decode c_F_pass 52 = .ok (.iconst 1, 1) := by decide +kernel
theorem d_F_pass_53 : decode c_F_pass 53 = .ok (.goto 4, 3) := by decide +kernel
theorem d_F_pass_56 : decode c_F_pass 56 = .ok (.iconst 0, 1) := by decide +kernel
theorem d_F_pass_57 : decode c_F_pass 57 = .ok (.istore 6, 2) := by decide +kernel
theorem d_F_pass_59 : decode c_F_pass 59 = .ok (.aload_n 0, 1) := by decide +kernel
theorem d_F_pass_60 : decode c_F_pass 60 = .ok (.iload_n 1, 1) := by decide +kernel
theorem d_F_pass_61 : decode c_F_pass 61 = .ok (.iload_n 3, 1) := by decide +kernel
theorem d_F_pass_62 : decode c_F_pass 62 = .ok (.iload 4, 2) := by decide +kernel
theorem d_F_pass_64 : decode c_F_pass 64 = .ok (.ldc 70, 2) := by decide +kernel
theorem d_F_pass_66 : decode c_F_pass 66 = .ok (.iand, 1) := by decide +kernel
theorem d_F_pass_67 : decode c_F_pass 67 = .ok (.iload 6, 2) := by decide +kernel
theorem d_F_pass_69 : decode c_F_pass 69 = .ok (.ior, 1) := by decide +kernel
theorem d_F_pass_70 : decode c_F_pass 70 = .ok (.invokevirtual 71, 3) := by decide +kernel
theorem d_F_pass_73 : decode c_F_pass 73 = .ok (.return_, 1) := by decide +kernel
theorem d_F_pass_74 : decode c_F_pass 74 = .ok (.aload_n 0, 1) := by decide +kernel
theorem d_F_pass_75 : decode c_F_pass 75 = .ok (.iload_n 1, 1) := by decide +kernel
theorem d_F_pass_76 : decode c_F_pass 76 = .ok (.iload_n 2, 1) := by decide +kernel
theorem d_F_pass_77 : decode c_F_pass 77 = .ok (.iload 4, 2) := by decide +kernel
theorem d_F_pass_79 : decode c_F_pass 79 = .ok (.invokevirtual 108, 3) := by decide +kernel
theorem d_F_pass_82 : decode c_F_pass 82 = .ok (.istore 6, 2) := by decide +kernel
theorem d_F_pass_84 : decode c_F_pass 84 = .ok (.iload 5, 2) := by decide +kernel
theorem d_F_pass_86 : decode c_F_pass 86 = .ok (.bipush 9, 2) := by decide +kernel
theorem d_F_pass_88 : decode c_F_pass 88 = .ok (.if_icmp .eq 13, 3) := by decide +kernel
theorem d_F_pass_91 : decode c_F_pass 91 = .ok (.aload_n 0, 1) := by decide +kernel
theorem d_F_pass_92 : decode c_F_pass 92 = .ok (.iload_n 2, 1) := by decide +kernel
theorem d_F_pass_93 : decode c_F_pass 93 = .ok (.iconst 1, 1) := by decide +kernel
theorem d_F_pass_94 : decode c_F_pass 94 = .ok (.iadd, 1) := by decide +kernel
theorem d_F_pass_95 : decode c_F_pass 95 = .ok (.iload_n 3, 1) := by decide +kernel
theorem d_F_pass_96 : decode c_F_pass 96 = .ok (.iload 6, 2) := by decide +kernel
theorem d_F_pass_98 : decode c_F_pass 98 = .ok (.invokevirtual 91, 3) := by decide +kernel
theorem d_F_pass_101 : decode c_F_pass 101 = .ok (.iload 5, 2) := by decide +kernel
theorem d_F_pass_103 : decode c_F_pass 103 = .ok (.bipush 9, 2) := by decide +kernel
theorem d_F_pass_105 : decode c_F_pass 105 = .ok (.if_icmp .eq 10, 3) := by decide +kernel
theorem d_F_pass_108 : decode c_F_pass 108 = .ok (.iload 5, 2) := by decide +kernel
theorem d_F_pass_110 : decode c_F_pass 110 = .ok (.bipush 8, 2) := by decide +kernel
theorem d_F_pass_112 : decode c_F_pass 112 = .ok (.if_icmp .ne 19, 3) := by decide +kernel
theorem d_F_pass_115 : decode c_F_pass 115 = .ok (.aload_n 0, 1) := by decide +kernel
theorem d_F_pass_116 : decode c_F_pass 116 = .ok (.aload_n 0, 1) := by decide +kernel
theorem d_F_pass_117 : decode c_F_pass 117 = .ok (.getfield 11, 3) := by decide +kernel
theorem d_F_pass_120 : decode c_F_pass 120 = .ok (.iload_n 1, 1) := by decide +kernel
theorem d_F_pass_121 : decode c_F_pass 121 = .ok (.iload_n 2, 1) := by decide +kernel
theorem d_F_pass_122 : decode c_F_pass 122 = .ok (.invokevirtual 81, 3) := by decide +kernel
theorem d_F_pass_125 : decode c_F_pass 125 = .ok (.iload_n 3, 1) := by decide +kernel
theorem d_F_pass_126 : decode c_F_pass 126 = .ok (.iload 6, 2) := by decide +kernel
theorem d_F_pass_128 : decode c_F_pass 128 = .ok (.invokevirtual 91, 3) := by decide +kernel
theorem d_F_pass_131 : decode c_F_pass 131 = .ok (.return_, 1) := by decide +kernel
theorem d_F_endAll_0 : decode c_F_endAll 0 = .ok (.iconst 0, 1) := by decide +kernel
theorem d_F_endAll_1 : decode c_F_endAll 1 = .ok (.istore_n 3, 1) := by decide +kernel
theorem d_F_endAll_2 : decode c_F_endAll 2 = .ok (.iload_n 3, 1) := by decide +kernel
theorem d_F_endAll_3 : decode c_F_endAll 3 = .ok (.bipush 20, 2) := by decide +kernel
theorem d_F_endAll_5 : decode c_F_endAll 5 = .ok (.if_icmp .ge 29, 3) := by decide +kernel
theorem d_F_endAll_8 : decode c_F_endAll 8 = .ok (.aload_n 0, 1) := by decide +kernel
theorem d_F_endAll_9 : decode c_F_endAll 9 = .ok (.iload_n 1, 1) := by decide +kernel
theorem d_F_endAll_10 : decode c_F_endAll 10 = .ok (.iload_n 3, 1) := by decide +kernel
theorem d_F_endAll_11 : decode c_F_endAll 11 = .ok (.aload_n 0, 1) := by decide +kernel
theorem d_F_endAll_12 : decode c_F_endAll 12 = .ok (.getfield 19, 3) := by decide +kernel
theorem d_F_endAll_15 : decode c_F_endAll 15 = .ok (.iload_n 2, 1) := by decide +kernel
theorem d_F_endAll_16 : decode c_F_endAll 16 = .ok (.bipush 20, 2) := by decide +kernel
theorem d_F_endAll_18 : decode c_F_endAll 18 = .ok (.imul, 1) := by decide +kernel
theorem d_F_endAll_19 : decode c_F_endAll 19 = .ok (.iload_n 3, 1) := by decide +kernel
theorem d_F_endAll_20 : decode c_F_endAll 20 = .ok (.iadd, 1) := by decide +kernel
theorem d_F_endAll_21 : decode c_F_endAll 21 = .ok (.iaload, 1) := by decide +kernel
theorem d_F_endAll_22 : decode c_F_endAll 22 = .ok (.ldc 70, 2) := by decide +kernel
theorem d_F_endAll_24 : decode c_F_endAll 24 = .ok (.iand, 1) := by decide +kernel
theorem d_F_endAll_25 : decode c_F_endAll 25 = .ok (.invokevirtual 71, 3) := by decide +kernel
theorem d_F_endAll_28 : decode c_F_endAll 28 = .ok (.iinc 3 1, 3) := by decide +kernel
theorem d_F_endAll_31 : decode c_F_endAll 31 = .ok (.goto (-29), 3) := by decide +kernel
theorem d_F_endAll_34 : decode c_F_endAll 34 = .ok (.return_, 1) := by decide +kernel
theorem d_F_sweep_0 : decode c_F_sweep 0 = .ok (.aload_n 0, 1) := by decide +kernel
theorem d_F_sweep_1 : decode c_F_sweep 1 = .ok (.getfield 11, 3) := by decide +kernel
theorem d_F_sweep_4 : decode c_F_sweep 4 = .ok (.getfield 50, 3) := by decide +kernel
theorem d_F_sweep_7 : decode c_F_sweep 7 = .ok (.iload_n 1, 1) := by decide +kernel
theorem d_F_sweep_8 : decode c_F_sweep 8 = .ok (.iaload, 1) := by decide +kernel
theorem d_F_sweep_9 : decode c_F_sweep 9 = .ok (.istore_n 2, 1) := by decide +kernel
theorem d_F_sweep_10 : decode c_F_sweep 10 = .ok (.iconst 0, 1) := by decide +kernel
theorem d_F_sweep_11 : decode c_F_sweep 11 = .ok (.istore_n 3, 1) := by decide +kernel
theorem d_F_sweep_12 : decode c_F_sweep 12 = .ok (.iload_n 3, 1) := by decide +kernel
theorem d_F_sweep_13 : decode c_F_sweep 13 = .ok (.iload_n 2, 1) := by decide +kernel
theorem d_F_sweep_14 : decode c_F_sweep 14 = .ok (.if_icmp .ge 83, 3) := by decide +kernel
theorem d_F_sweep_17 : decode c_F_sweep 17 = .ok (.aload_n 0, 1) := by decide +kernel
theorem d_F_sweep_18 : decode c_F_sweep 18 = .ok (.getfield 29, 3) := by decide +kernel
theorem d_F_sweep_21 : decode c_F_sweep 21 = .ok (.iload_n 1, 1) := by decide +kernel
theorem d_F_sweep_22 : decode c_F_sweep 22 = .ok (.iaload, 1) := by decide +kernel
theorem d_F_sweep_23 : decode c_F_sweep 23 = .ok (.iload_n 3, 1) := by decide +kernel
theorem d_F_sweep_24 : decode c_F_sweep 24 = .ok (.invokestatic 55, 3) := by decide +kernel
theorem d_F_sweep_27 : decode c_F_sweep 27 = .ok (.ifCond .eq 9, 3) := by decide +kernel
theorem d_F_sweep_30 : decode c_F_sweep 30 = .ok (.aload_n 0, 1) := by decide +kernel
theorem d_F_sweep_31 : decode c_F_sweep 31 = .ok (.iload_n 1, 1) := by decide +kernel
theorem d_F_sweep_32 : decode c_F_sweep 32 = .ok (.iload_n 3, 1) := by decide +kernel
theorem d_F_sweep_33 : decode c_F_sweep 33 = .ok (.invokevirtual 59, 3) := by decide +kernel
theorem d_F_sweep_36 : decode c_F_sweep 36 = .ok (.iload_n 1, 1) := by decide +kernel
theorem d_F_sweep_37 : decode c_F_sweep 37 = .ok (.bipush 13, 2) := by decide +kernel
theorem d_F_sweep_39 : decode c_F_sweep 39 = .ok (.imul, 1) := by decide +kernel
theorem d_F_sweep_40 : decode c_F_sweep 40 = .ok (.iload_n 3, 1) := by decide +kernel
theorem d_F_sweep_41 : decode c_F_sweep 41 = .ok (.iadd, 1) := by decide +kernel
theorem d_F_sweep_42 : decode c_F_sweep 42 = .ok (.istore 4, 2) := by decide +kernel
theorem d_F_sweep_44 : decode c_F_sweep 44 = .ok (.iconst 0, 1) := by decide +kernel
theorem d_F_sweep_45 : decode c_F_sweep 45 = .ok (.istore 5, 2) := by decide +kernel
theorem d_F_sweep_47 : decode c_F_sweep 47 = .ok (.iload 5, 2) := by decide +kernel
theorem d_F_sweep_49 : decode c_F_sweep 49 = .ok (.bipush 20, 2) := by decide +kernel
theorem d_F_sweep_51 : decode c_F_sweep 51 = .ok (.if_icmp .ge 40, 3) := by decide +kernel
theorem d_F_sweep_54 : decode c_F_sweep 54 = .ok (.aload_n 0, 1) := by decide +kernel
theorem d_F_sweep_55 : decode c_F_sweep 55 = .ok (.getfield 19, 3) := by decide +kernel
theorem d_F_sweep_58 : decode c_F_sweep 58 = .ok (.iload 4, 2) := by decide +kernel
theorem d_F_sweep_60 : decode c_F_sweep 60 = .ok (.bipush 20, 2) := by decide +kernel
theorem d_F_sweep_62 : decode c_F_sweep 62 = .ok (.imul, 1) := by decide +kernel
theorem d_F_sweep_63 : decode c_F_sweep 63 = .ok (.iload 5, 2) := by decide +kernel
theorem d_F_sweep_65 : decode c_F_sweep 65 = .ok (.iadd, 1) := by decide +kernel
theorem d_F_sweep_66 : decode c_F_sweep 66 = .ok (.iaload, 1) := by decide +kernel
theorem d_F_sweep_67 : decode c_F_sweep 67 = .ok (.istore 6, 2) := by decide +kernel
theorem d_F_sweep_69 : decode c_F_sweep 69 = .ok (.iload 6, 2) := by decide +kernel
theorem d_F_sweep_71 : decode c_F_sweep 71 = .ok (.ifCond .eq 14, 3) := by decide +kernel
theorem d_F_sweep_74 : decode c_F_sweep 74 = .ok (.aload_n 0, 1) := by decide +kernel
theorem d_F_sweep_75 : decode c_F_sweep 75 = .ok (.iload_n 1, 1) := by decide +kernel
theorem d_F_sweep_76 : decode c_F_sweep 76 = .ok (.iload 4, 2) := by decide +kernel
theorem d_F_sweep_78 : decode c_F_sweep 78 = .ok (.iload 5, 2) := by decide +kernel
theorem d_F_sweep_80 : decode c_F_sweep 80 = .ok (.iload 6, 2) := by decide +kernel
theorem d_F_sweep_82 : decode c_F_sweep 82 = .ok (.invokevirtual 63, 3) := by decide +kernel
theorem d_F_sweep_85 : decode c_F_sweep 85 = .ok (.iinc 5 1, 3) := by decide +kernel
theorem d_F_sweep_88 : decode c_F_sweep 88 = .ok (.goto (-41), 3) := by decide +kernel
theorem d_F_sweep_91 : decode c_F_sweep 91 = .ok (.iinc 3 1, 3) := by decide +kernel
theorem d_F_sweep_94 : decode c_F_sweep 94 = .ok (.goto (-82), 3) := by decide +kernel
theorem d_F_sweep_97 : decode c_F_sweep 97 = .ok (.aload_n 0, 1) := by decide +kernel
theorem d_F_sweep_98 : decode c_F_sweep 98 = .ok (.iload_n 1, 1) := by decide +kernel
theorem d_F_sweep_99 : decode c_F_sweep 99 = .ok (.iload_n 1, 1) := by decide +kernel
theorem d_F_sweep_100 : decode c_F_sweep 100 = .ok (.bipush 13, 2) := by decide +kernel
theorem d_F_sweep_102 : decode c_F_sweep 102 = .ok (.imul, 1) := by decide +kernel
theorem d_F_sweep_103 : decode c_F_sweep 103 = .ok (.iload_n 2, 1) := by decide +kernel
theorem d_F_sweep_104 : decode c_F_sweep 104 = .ok (.iadd, 1) := by decide +kernel
theorem d_F_sweep_105 : decode c_F_sweep 105 = .ok (.invokevirtual 67, 3) := by decide +kernel
theorem d_F_sweep_108 : decode c_F_sweep 108 = .ok (.return_, 1) := by decide +kernel
theorem d_F_workOut_0 : decode c_F_workOut 0 = .ok (.aload_n 0, 1) := by decide +kernel
theorem d_F_workOut_1 : decode c_F_workOut 1 = .ok (.invokevirtual 32, 3) := by decide +kernel
theorem d_F_workOut_4 : decode c_F_workOut 4 = .ok (.aload_n 0, 1) := by decide +kernel
theorem d_F_workOut_5 : decode c_F_workOut 5 = .ok (.getfield 29, 3) := by decide +kernel
theorem d_F_workOut_8 : decode c_F_workOut 8 = .ok (.iconst 0, 1) := by decide +kernel
theorem d_F_workOut_9 : decode c_F_workOut 9 = .ok (.iconst 1, 1) := by decide +kernel
theorem d_F_workOut_10 : decode c_F_workOut 10 = .ok (.iastore, 1) := by decide +kernel
theorem d_F_workOut_11 : decode c_F_workOut 11 = .ok (.aload_n 0, 1) := by decide +kernel
theorem d_F_workOut_12 : decode c_F_workOut 12 = .ok (.iconst 1, 1) := by decide +kernel
theorem d_F_workOut_13 : decode c_F_workOut 13 = .ok (.putfield 35, 3) := by decide +kernel
theorem d_F_workOut_16 : decode c_F_workOut 16 = .ok (.iconst 0, 1) := by decide +kernel
theorem d_F_workOut_17 : decode c_F_workOut 17 = .ok (.istore_n 1, 1) := by decide +kernel
theorem d_F_workOut_18 : decode c_F_workOut 18 = .ok (.aload_n 0, 1) := by decide +kernel
theorem d_F_workOut_19 : decode c_F_workOut 19 = .ok (.getfield 35, 3) := by decide +kernel
theorem d_F_workOut_22 : decode c_F_workOut 22 = .ok (.ifCond .eq 39, 3) := by decide +kernel
theorem d_F_workOut_25 : decode c_F_workOut 25 = .ok (.iload_n 1, 1) := by decide +kernel
theorem d_F_workOut_26 : decode c_F_workOut 26 = .ok (.ldc 39, 2) := by decide +kernel
theorem d_F_workOut_28 : decode c_F_workOut 28 = .ok (.if_icmp .ge 33, 3) := by decide +kernel
theorem d_F_workOut_31 : decode c_F_workOut 31 = .ok (.aload_n 0, 1) := by decide +kernel
theorem d_F_workOut_32 : decode c_F_workOut 32 = .ok (.iconst 0, 1) := by decide +kernel
theorem d_F_workOut_33 : decode c_F_workOut 33 = .ok (.putfield 35, 3) := by decide +kernel
theorem d_F_workOut_36 : decode c_F_workOut 36 = .ok (.iconst 0, 1) := by decide +kernel
theorem d_F_workOut_37 : decode c_F_workOut 37 = .ok (.istore_n 2, 1) := by decide +kernel
theorem d_F_workOut_38 : decode c_F_workOut 38 = .ok (.iload_n 2, 1) := by decide +kernel
theorem d_F_workOut_39 : decode c_F_workOut 39 = .ok (.bipush 6, 2) := by decide +kernel
theorem d_F_workOut_41 : decode c_F_workOut 41 = .ok (.if_icmp .ge 14, 3) := by decide +kernel
theorem d_F_workOut_44 : decode c_F_workOut 44 = .ok (.aload_n 0, 1) := by decide +kernel
theorem d_F_workOut_45 : decode c_F_workOut 45 = .ok (.iload_n 2, 1) := by decide +kernel
theorem d_F_workOut_46 : decode c_F_workOut 46 = .ok (.invokevirtual 40, 3) := by decide +kernel
theorem d_F_workOut_49 : decode c_F_workOut 49 = .ok (.iinc 2 1, 3) := by decide +kernel
theorem d_F_workOut_52 : decode c_F_workOut 52 = .ok (.goto (-14), 3) := by decide +kernel
theorem d_F_workOut_55 : decode c_F_workOut 55 = .ok (.iinc 1 1, 3) := by decide +kernel
theorem d_F_workOut_58 : decode c_F_workOut 58 = .ok (.goto (-40), 3) := by decide +kernel
theorem d_F_workOut_61 : decode c_F_workOut 61 = .ok (.return_, 1) := by decide +kernel
theorem d_F_countHeld_0 : decode c_F_countHeld 0 = .ok (.iconst 0, 1) := by decide +kernel
theorem d_F_countHeld_1 : decode c_F_countHeld 1 = .ok (.istore_n 3, 1) := by decide +kernel
theorem d_F_countHeld_2 : decode c_F_countHeld 2 = .ok (.iconst 0, 1) := by decide +kernel
theorem d_F_countHeld_3 : decode c_F_countHeld 3 = .ok (.istore 4, 2) := by decide +kernel
theorem d_F_countHeld_5 : decode c_F_countHeld 5 = .ok (.iload 4, 2) := by decide +kernel
theorem d_F_countHeld_7 : decode c_F_countHeld 7 = .ok (.aload_n 0, 1) := by decide +kernel
theorem d_F_countHeld_8 : decode c_F_countHeld 8 = .ok (.getfield 11, 3) := by decide +kernel
theorem d_F_countHeld_11 : decode c_F_countHeld 11 = .ok (.getfield 50, 3) := by decide +kernel
theorem d_F_countHeld_14 : decode c_F_countHeld 14 = .ok (.iload_n 1, 1) := by decide +kernel
theorem d_F_countHeld_15 : decode c_F_countHeld 15 = .ok (.iaload, 1) := by decide +kernel
theorem d_F_countHeld_16 : decode c_F_countHeld 16 = .ok (.if_icmp .gt 32, 3) := by decide +kernel
theorem d_F_countHeld_19 : decode c_F_countHeld 19 = .ok (.iload_n 3, 1) := by decide +kernel
theorem d_F_countHeld_20 : decode c_F_countHeld 20 = .ok (.aload_n 0, 1) := by decide +kernel
theorem d_F_countHeld_21 : decode c_F_countHeld 21 = .ok (.getfield 19, 3) := by decide +kernel
theorem d_F_countHeld_24 : decode c_F_countHeld 24 = .ok (.iload_n 1, 1) := by decide +kernel
theorem d_F_countHeld_25 : decode c_F_countHeld 25 = .ok (.bipush 13, 2) := by decide +kernel
theorem d_F_countHeld_27 : decode c_F_countHeld 27 = .ok (.imul, 1) := by decide +kernel
theorem d_F_countHeld_28 : decode c_F_countHeld 28 = .ok (.iload 4, 2) := by decide +kernel
theorem d_F_countHeld_30 : decode c_F_countHeld 30 = .ok (.iadd, 1) := by decide +kernel
theorem d_F_countHeld_31 : decode c_F_countHeld 31 = .ok (.bipush 20, 2) := by decide +kernel
theorem d_F_countHeld_33 : decode c_F_countHeld 33 = .ok (.imul, 1) := by decide +kernel
theorem d_F_countHeld_34 : decode c_F_countHeld 34 = .ok (.iload_n 2, 1) := by decide +kernel
theorem d_F_countHeld_35 : decode c_F_countHeld 35 = .ok (.iadd, 1) := by decide +kernel
theorem d_F_countHeld_36 : decode c_F_countHeld 36 = .ok (.iaload, 1) := by decide +kernel
theorem d_F_countHeld_37 : decode c_F_countHeld 37 = .ok (.invokestatic 130, 3) := by decide +kernel
theorem d_F_countHeld_40 : decode c_F_countHeld 40 = .ok (.iadd, 1) := by decide +kernel
theorem d_F_countHeld_41 : decode c_F_countHeld 41 = .ok (.istore_n 3, 1) := by decide +kernel
theorem d_F_countHeld_42 : decode c_F_countHeld 42 = .ok (.iinc 4 1, 3) := by decide +kernel
theorem d_F_countHeld_45 : decode c_F_countHeld 45 = .ok (.goto (-40), 3) := by decide +kernel
theorem d_F_countHeld_48 : decode c_F_countHeld 48 = .ok (.iload_n 3, 1) := by decide +kernel
theorem d_F_countHeld_49 : decode c_F_countHeld 49 = .ok (.ireturn, 1) := by decide +kernel
theorem d_F_countPaths_0 : decode c_F_countPaths 0 = .ok (.iconst 0, 1) := by decide +kernel
theorem d_F_countPaths_1 : decode c_F_countPaths 1 = .ok (.istore_n 1, 1) := by decide +kernel
theorem d_F_countPaths_2 : decode c_F_countPaths 2 = .ok (.iconst 0, 1) := by decide +kernel
theorem d_F_countPaths_3 : decode c_F_countPaths 3 = .ok (.istore_n 2, 1) := by decide +kernel
theorem d_F_countPaths_4 : decode c_F_countPaths 4 = .ok (.iload_n 2, 1) := by decide +kernel
theorem d_F_countPaths_5 : decode c_F_countPaths 5 = .ok (.bipush 6, 2) := by decide +kernel
theorem d_F_countPaths_7 : decode c_F_countPaths 7 = .ok (.if_icmp .ge 68, 3) := by decide +kernel
theorem d_F_countPaths_10 : decode c_F_countPaths 10 = .ok (.iload_n 1, 1) := by decide +kernel
theorem d_F_countPaths_11 : decode c_F_countPaths 11 = .ok (.aload_n 0, 1) := by decide +kernel
theorem d_F_countPaths_12 : decode c_F_countPaths 12 = .ok (.getfield 29, 3) := by decide +kernel
theorem d_F_countPaths_15 : decode c_F_countPaths 15 = .ok (.iload_n 2, 1) := by decide +kernel
theorem d_F_countPaths_16 : decode c_F_countPaths 16 = .ok (.iaload, 1) := by decide +kernel
theorem d_F_countPaths_17 : decode c_F_countPaths 17 = .ok (.invokestatic 130, 3) := by decide +kernel
theorem d_F_countPaths_20 : decode c_F_countPaths 20 = .ok (.iadd, 1) := by decide +kernel
theorem d_F_countPaths_21 : decode c_F_countPaths 21 = .ok (.istore_n 1, 1) := by decide +kernel
theorem d_F_countPaths_22 : decode c_F_countPaths 22 = .ok (.iconst 0, 1) := by decide +kernel
theorem d_F_countPaths_23 : decode c_F_countPaths 23 = .ok (.istore_n 3, 1) := by decide +kernel
theorem d_F_countPaths_24 : decode c_F_countPaths 24 = .ok (.iload_n 3, 1) := by decide +kernel
theorem d_F_countPaths_25 : decode c_F_countPaths 25 = .ok (.bipush 20, 2) := by decide +kernel
theorem d_F_countPaths_27 : decode c_F_countPaths 27 = .ok (.if_icmp .ge 42, 3) := by decide +kernel
theorem d_F_countPaths_30 : decode c_F_countPaths 30 = .ok (.aload_n 0, 1) := by decide +kernel
theorem d_F_countPaths_31 : decode c_F_countPaths 31 = .ok (.getfield 26, 3) := by decide +kernel
theorem d_F_countPaths_34 : decode c_F_countPaths 34 = .ok (.iload_n 2, 1) := by decide +kernel
theorem d_F_countPaths_35 : decode c_F_countPaths 35 = .ok (.bipush 20, 2) := by decide +kernel
theorem d_F_countPaths_37 : decode c_F_countPaths 37 = .ok (.imul, 1) := by decide +kernel
theorem d_F_countPaths_38 : decode c_F_countPaths 38 = .ok (.iload_n 3, 1) := by decide +kernel
theorem d_F_countPaths_39 : decode c_F_countPaths 39 = .ok (.iadd, 1) := by decide +kernel
theorem d_F_countPaths_40 : decode c_F_countPaths 40 = .ok (.iaload, 1) := by decide +kernel
theorem d_F_countPaths_41 : decode c_F_countPaths 41 = .ok (.invokestatic 130, 3) := by decide +kernel
theorem d_F_countPaths_44 : decode c_F_countPaths 44 = .ok (.istore 4, 2) := by decide +kernel
theorem d_F_countPaths_46 : decode c_F_countPaths 46 = .ok (.iload 4, 2) := by decide +kernel
theorem d_F_countPaths_48 : decode c_F_countPaths 48 = .ok (.ifCond .eq 15, 3) := by decide +kernel
theorem d_F_countPaths_51 : decode c_F_countPaths 51 = .ok (.iload_n 1, 1) := by decide +kernel
theorem d_F_countPaths_52 : decode c_F_countPaths 52 = .ok (.iload 4, 2) := by decide +kernel
theorem d_F_countPaths_54 : decode c_F_countPaths 54 = .ok (.aload_n 0, 1) := by decide +kernel
theorem d_F_countPaths_55 : decode c_F_countPaths 55 = .ok (.iload_n 2, 1) := by decide +kernel
theorem d_F_countPaths_56 : decode c_F_countPaths 56 = .ok (.iload_n 3, 1) := by decide +kernel
theorem d_F_countPaths_57 : decode c_F_countPaths 57 = .ok (.invokevirtual 136, 3) := by decide +kernel
theorem d_F_countPaths_60 : decode c_F_countPaths 60 = .ok (.imul, 1) := by decide +kernel
theorem d_F_countPaths_61 : decode c_F_countPaths 61 = .ok (.iadd, 1) := by decide +kernel
theorem d_F_countPaths_62 : decode c_F_countPaths 62 = .ok (.istore_n 1, 1) := by decide +kernel
theorem d_F_countPaths_63 : decode c_F_countPaths 63 = .ok (.iinc 3 1, 3) := by decide +kernel
theorem d_F_countPaths_66 : decode c_F_countPaths 66 = .ok (.goto (-42), 3) := by decide +kernel
theorem d_F_countPaths_69 : decode c_F_countPaths 69 = .ok (.iinc 2 1, 3) := by decide +kernel
theorem d_F_countPaths_72 : decode c_F_countPaths 72 = .ok (.goto (-68), 3) := by decide +kernel
theorem d_F_countPaths_75 : decode c_F_countPaths 75 = .ok (.iload_n 1, 1) := by decide +kernel
theorem d_F_countPaths_76 : decode c_F_countPaths 76 = .ok (.ireturn, 1) := by decide +kernel
theorem d_X_analyse_0 : decode c_X_analyse 0 = .ok (.aload_n 0, 1) := by decide +kernel
theorem d_X_analyse_1 : decode c_X_analyse 1 = .ok (.getfield 21, 3) := by decide +kernel
theorem d_X_analyse_4 : decode c_X_analyse 4 = .ok (.invokevirtual 81, 3) := by decide +kernel
theorem d_X_analyse_7 : decode c_X_analyse 7 = .ok (.aload_n 0, 1) := by decide +kernel
theorem d_X_analyse_8 : decode c_X_analyse 8 = .ok (.getfield 30, 3) := by decide +kernel
theorem d_X_analyse_11 : decode c_X_analyse 11 = .ok (.invokevirtual 84, 3) := by decide +kernel
theorem d_X_analyse_14 : decode c_X_analyse 14 = .ok (.aload_n 0, 1) := by decide +kernel
theorem d_X_analyse_15 : decode c_X_analyse 15 = .ok (.getfield 30, 3) := by decide +kernel
theorem d_X_analyse_18 : decode c_X_analyse 18 = .ok (.invokevirtual 85, 3) := by decide +kernel
theorem d_X_analyse_21 : decode c_X_analyse 21 = .ok (.istore_n 2, 1) := by decide +kernel
theorem d_X_analyse_22 : decode c_X_analyse 22 = .ok (.iload_n 2, 1) := by decide +kernel
theorem d_X_analyse_23 : decode c_X_analyse 23 = .ok (.iload_n 1, 1) := by decide +kernel
theorem d_X_analyse_24 : decode c_X_analyse 24 = .ok (.if_icmp .le 10, 3) := by decide +kernel
theorem d_X_analyse_27 : decode c_X_analyse 27 = .ok (.aload_n 0, 1) := by decide +kernel
theorem d_X_analyse_28 : decode c_X_analyse 28 = .ok (.iconst 2, 1) := by decide +kernel
theorem d_X_analyse_29 : decode c_X_analyse 29 = .ok (.putfield 41, 3) := by decide +kernel
theorem d_X_analyse_32 : decode c_X_analyse 32 = .ok (.iconst (-1), 1) := by decide +kernel
theorem d_X_analyse_33 : decode c_X_analyse 33 = .ok (.ireturn, 1) := by decide +kernel
theorem d_X_analyse_34 : decode c_X_analyse 34 = .ok (.aload_n 0, 1) := by decide +kernel
theorem d_X_analyse_35 : decode c_X_analyse 35 = .ok (.iconst 1, 1) := by decide +kernel
theorem d_X_analyse_36 : decode c_X_analyse 36 = .ok (.putfield 41, 3) := by decide +kernel
theorem d_X_analyse_39 : decode c_X_analyse 39 = .ok (.iload_n 2, 1) := by decide +kernel
theorem d_X_analyse_40 : decode c_X_analyse 40 = .ok (.ireturn, 1) := by decide +kernel
theorem d_X_verdict_0 : decode c_X_verdict 0 = .ok (.aload_n 0, 1) := by decide +kernel
theorem d_X_verdict_1 : decode c_X_verdict 1 = .ok (.getfield 41, 3) := by decide +kernel
theorem d_X_verdict_4 : decode c_X_verdict 4 = .ok (.ireturn, 1) := by decide +kernel
theorem d_X_isSource_0 : decode c_X_isSource 0 = .ok (.iload_n 1, 1) := by decide +kernel
theorem d_X_isSource_1 : decode c_X_isSource 1 = .ok (.aload_n 0, 1) := by decide +kernel
theorem d_X_isSource_2 : decode c_X_isSource 2 = .ok (.getfield 12, 3) := by decide +kernel
theorem d_X_isSource_5 : decode c_X_isSource 5 = .ok (.getfield 127, 3) := by decide +kernel
theorem d_X_isSource_8 : decode c_X_isSource 8 = .ok (.iconst 1, 1) := by decide +kernel
theorem d_X_isSource_9 : decode c_X_isSource 9 = .ok (.iaload, 1) := by decide +kernel
theorem d_X_isSource_10 : decode c_X_isSource 10 = .ok (.invokestatic 60, 3) := by decide +kernel
theorem d_X_isSource_13 : decode c_X_isSource 13 = .ok (.ireturn, 1) := by decide +kernel
theorem d_X_isSink_0 : decode c_X_isSink 0 = .ok (.iload_n 1, 1) := by decide +kernel
theorem d_X_isSink_1 : decode c_X_isSink 1 = .ok (.aload_n 0, 1) := by decide +kernel
theorem d_X_isSink_2 : decode c_X_isSink 2 = .ok (.getfield 12, 3) := by decide +kernel
theorem d_X_isSink_5 : decode c_X_isSink 5 = .ok (.getfield 127, 3) := by decide +kernel
theorem d_X_isSink_8 : decode c_X_isSink 8 = .ok (.iconst 2, 1) := by decide +kernel
theorem d_X_isSink_9 : decode c_X_isSink 9 = .ok (.iaload, 1) := by decide +kernel
theorem d_X_isSink_10 : decode c_X_isSink 10 = .ok (.invokestatic 60, 3) := by decide +kernel
theorem d_X_isSink_13 : decode c_X_isSink 13 = .ok (.ireturn, 1) := by decide +kernel
theorem d_F_mayHold_0 : decode c_F_mayHold 0 = .ok (.iconst 0, 1) := by decide +kernel
theorem d_F_mayHold_1 : decode c_F_mayHold 1 = .ok (.istore 5, 2) := by decide +kernel
theorem d_F_mayHold_3 : decode c_F_mayHold 3 = .ok (.iload 5, 2) := by decide +kernel
theorem d_F_mayHold_5 : decode c_F_mayHold 5 = .ok (.bipush 20, 2) := by decide +kernel
theorem d_F_mayHold_7 : decode c_F_mayHold 7 = .ok (.if_icmp .ge 50, 3) := by decide +kernel
theorem d_F_mayHold_10 : decode c_F_mayHold 10 = .ok (.aload_n 0, 1) := by decide +kernel
theorem d_F_mayHold_11 : decode c_F_mayHold 11 = .ok (.getfield 26, 3) := by decide +kernel
theorem d_F_mayHold_14 : decode c_F_mayHold 14 = .ok (.iload_n 1, 1) := by decide +kernel
theorem d_F_mayHold_15 : decode c_F_mayHold 15 = .ok (.bipush 20, 2) := by decide +kernel
theorem d_F_mayHold_17 : decode c_F_mayHold 17 = .ok (.imul, 1) := by decide +kernel
theorem d_F_mayHold_18 : decode c_F_mayHold 18 = .ok (.iload 5, 2) := by decide +kernel
theorem d_F_mayHold_20 : decode c_F_mayHold 20 = .ok (.iadd, 1) := by decide +kernel
theorem d_F_mayHold_21 : decode c_F_mayHold 21 = .ok (.iaload, 1) := by decide +kernel
theorem d_F_mayHold_22 : decode c_F_mayHold 22 = .ok (.iload 4, 2) := by decide +kernel
theorem d_F_mayHold_24 : decode c_F_mayHold 24 = .ok (.invokestatic 55, 3) := by decide +kernel
theorem d_F_mayHold_27 : decode c_F_mayHold 27 = .ok (.ifCond .eq 24, 3) := by decide +kernel
theorem d_F_mayHold_30 : decode c_F_mayHold 30 = .ok (.aload_n 0, 1) := by decide +kernel
theorem d_F_mayHold_31 : decode c_F_mayHold 31 = .ok (.getfield 19, 3) := by decide +kernel
theorem d_F_mayHold_34 : decode c_F_mayHold 34 = .ok (.iload_n 2, 1) := by decide +kernel
theorem d_F_mayHold_35 : decode c_F_mayHold 35 = .ok (.bipush 20, 2) := by decide +kernel
theorem d_F_mayHold_37 : decode c_F_mayHold 37 = .ok (.imul, 1) := by decide +kernel
theorem d_F_mayHold_38 : decode c_F_mayHold 38 = .ok (.iload 5, 2) := by decide +kernel
theorem d_F_mayHold_40 : decode c_F_mayHold 40 = .ok (.iadd, 1) := by decide +kernel
theorem d_F_mayHold_41 : decode c_F_mayHold 41 = .ok (.iaload, 1) := by decide +kernel
theorem d_F_mayHold_42 : decode c_F_mayHold 42 = .ok (.iload_n 3, 1) := by decide +kernel
theorem d_F_mayHold_43 : decode c_F_mayHold 43 = .ok (.invokestatic 55, 3) := by decide +kernel
theorem d_F_mayHold_46 : decode c_F_mayHold 46 = .ok (.ifCond .eq 5, 3) := by decide +kernel
theorem d_F_mayHold_49 : decode c_F_mayHold 49 = .ok (.iconst 1, 1) := by decide +kernel
theorem d_F_mayHold_50 : decode c_F_mayHold 50 = .ok (.ireturn, 1) := by decide +kernel
theorem d_F_mayHold_51 : decode c_F_mayHold 51 = .ok (.iinc 5 1, 3) := by decide +kernel
theorem d_F_mayHold_54 : decode c_F_mayHold 54 = .ok (.goto (-51), 3) := by decide +kernel
theorem d_F_mayHold_57 : decode c_F_mayHold 57 = .ok (.iconst 0, 1) := by decide +kernel
theorem d_F_mayHold_58 : decode c_F_mayHold 58 = .ok (.ireturn, 1) := by decide +kernel
theorem d_X_finding_0 : decode c_X_finding 0 = .ok (.aload_n 0, 1) := by decide +kernel
theorem d_X_finding_1 : decode c_X_finding 1 = .ok (.getfield 41, 3) := by decide +kernel
theorem d_X_finding_4 : decode c_X_finding 4 = .ok (.iconst 1, 1) := by decide +kernel
theorem d_X_finding_5 : decode c_X_finding 5 = .ok (.if_icmp .ne 19, 3) := by decide +kernel
theorem d_X_finding_8 : decode c_X_finding 8 = .ok (.aload_n 0, 1) := by decide +kernel
theorem d_X_finding_9 : decode c_X_finding 9 = .ok (.iload_n 1, 1) := by decide +kernel
theorem d_X_finding_10 : decode c_X_finding 10 = .ok (.invokevirtual 89, 3) := by decide +kernel
theorem d_X_finding_13 : decode c_X_finding 13 = .ok (.ifCond .eq 11, 3) := by decide +kernel
theorem d_X_finding_16 : decode c_X_finding 16 = .ok (.aload_n 0, 1) := by decide +kernel
theorem d_X_finding_17 : decode c_X_finding 17 = .ok (.iload_n 2, 1) := by decide +kernel
theorem d_X_finding_18 : decode c_X_finding 18 = .ok (.invokevirtual 93, 3) := by decide +kernel
theorem d_X_finding_21 : decode c_X_finding 21 = .ok (.ifCond .ne 5, 3) := by decide +kernel
theorem d_X_finding_24 : decode c_X_finding 24 = .ok (.iconst 0, 1) := by decide +kernel
theorem d_X_finding_25 : decode c_X_finding 25 = .ok (.ireturn, 1) := by decide +kernel
theorem d_X_finding_26 : decode c_X_finding 26 = .ok (.aload_n 0, 1) := by decide +kernel
theorem d_X_finding_27 : decode c_X_finding 27 = .ok (.getfield 12, 3) := by decide +kernel
theorem d_X_finding_30 : decode c_X_finding 30 = .ok (.getfield 96, 3) := by decide +kernel
theorem d_X_finding_33 : decode c_X_finding 33 = .ok (.iload_n 2, 1) := by decide +kernel
theorem d_X_finding_34 : decode c_X_finding 34 = .ok (.iaload, 1) := by decide +kernel
theorem d_X_finding_35 : decode c_X_finding 35 = .ok (.istore_n 3, 1) := by decide +kernel
theorem d_X_finding_36 : decode c_X_finding 36 = .ok (.aload_n 0, 1) := by decide +kernel
theorem d_X_finding_37 : decode c_X_finding 37 = .ok (.getfield 30, 3) := by decide +kernel
theorem d_X_finding_40 : decode c_X_finding 40 = .ok (.iload_n 3, 1) := by decide +kernel
theorem d_X_finding_41 : decode c_X_finding 41 = .ok (.bipush 13, 2) := by decide +kernel
theorem d_X_finding_43 : decode c_X_finding 43 = .ok (.idiv, 1) := by decide +kernel
theorem d_X_finding_44 : decode c_X_finding 44 = .ok (.iload_n 3, 1) := by decide +kernel
theorem d_X_finding_45 : decode c_X_finding 45 = .ok (.aload_n 0, 1) := by decide +kernel
theorem d_X_finding_46 : decode c_X_finding 46 = .ok (.getfield 12, 3) := by decide +kernel
theorem d_X_finding_49 : decode c_X_finding 49 = .ok (.getfield 99, 3) := by decide +kernel
theorem d_X_finding_52 : decode c_X_finding 52 = .ok (.iload_n 3, 1) := by decide +kernel
theorem d_X_finding_53 : decode c_X_finding 53 = .ok (.iaload, 1) := by decide +kernel
theorem d_X_finding_54 : decode c_X_finding 54 = .ok (.iload_n 1, 1) := by decide +kernel
theorem d_X_finding_55 : decode c_X_finding 55 = .ok (.invokevirtual 102, 3) := by decide +kernel
theorem d_X_finding_58 : decode c_X_finding 58 = .ok (.ireturn, 1) := by decide +kernel
theorem d_X_may_0 : decode c_X_may 0 = .ok (.aload_n 0, 1) := by decide +kernel
theorem d_X_may_1 : decode c_X_may 1 = .ok (.getfield 41, 3) := by decide +kernel
theorem d_X_may_4 : decode c_X_may 4 = .ok (.iconst 1, 1) := by decide +kernel
theorem d_X_may_5 : decode c_X_may 5 = .ok (.if_icmp .ne 21, 3) := by decide +kernel
theorem d_X_may_8 : decode c_X_may 8 = .ok (.iload_n 1, 1) := by decide +kernel
theorem d_X_may_9 : decode c_X_may 9 = .ok (.bipush 6, 2) := by decide +kernel
theorem d_X_may_11 : decode c_X_may 11 = .ok (.invokestatic 60, 3) := by decide +kernel
theorem d_X_may_14 : decode c_X_may 14 = .ok (.ifCond .eq 12, 3) := by decide +kernel
theorem d_X_may_17 : decode c_X_may 17 = .ok (.aload_n 0, 1) := by decide +kernel
theorem d_X_may_18 : decode c_X_may 18 = .ok (.iload 4, 2) := by decide +kernel
theorem d_X_may_20 : decode c_X_may 20 = .ok (.invokevirtual 89, 3) := by decide +kernel
theorem d_X_may_23 : decode c_X_may 23 = .ok (.ifCond .ne 5, 3) := by decide +kernel
theorem d_X_may_26 : decode c_X_may 26 = .ok (.iconst 0, 1) := by decide +kernel
theorem d_X_may_27 : decode c_X_may 27 = .ok (.ireturn, 1) := by decide +kernel
theorem d_X_may_28 : decode c_X_may 28 = .ok (.iload_n 2, 1) := by decide +kernel
theorem d_X_may_29 : decode c_X_may 29 = .ok (.aload_n 0, 1) := by decide +kernel
theorem d_X_may_30 : decode c_X_may 30 = .ok (.getfield 12, 3) := by decide +kernel
theorem d_X_may_33 : decode c_X_may 33 = .ok (.getfield 63, 3) := by decide +kernel
theorem d_X_may_36 : decode c_X_may 36 = .ok (.iload_n 1, 1) := by decide +kernel
theorem d_X_may_37 : decode c_X_may 37 = .ok (.iaload, 1) := by decide +kernel
theorem d_X_may_38 : decode c_X_may 38 = .ok (.iconst 1, 1) := by decide +kernel
theorem d_X_may_39 : decode c_X_may 39 = .ok (.iadd, 1) := by decide +kernel
theorem d_X_may_40 : decode c_X_may 40 = .ok (.invokestatic 60, 3) := by decide +kernel
theorem d_X_may_43 : decode c_X_may 43 = .ok (.ifCond .eq 12, 3) := by decide +kernel
theorem d_X_may_46 : decode c_X_may 46 = .ok (.iload_n 3, 1) := by decide +kernel
theorem d_X_may_47 : decode c_X_may 47 = .ok (.bipush 16, 2) := by decide +kernel
theorem d_X_may_49 : decode c_X_may 49 = .ok (.invokestatic 60, 3) := by decide +kernel
theorem d_X_may_52 : decode c_X_may 52 = .ok (.ifCond .ne 5, 3) := by decide +kernel
theorem d_X_may_55 : decode c_X_may 55 = .ok (.iconst 0, 1) := by decide +kernel
theorem d_X_may_56 : decode c_X_may 56 = .ok (.ireturn, 1) := by decide +kernel
theorem d_X_may_57 : decode c_X_may 57 = .ok (.aload_n 0, 1) := by decide +kernel
theorem d_X_may_58 : decode c_X_may 58 = .ok (.getfield 30, 3) := by decide +kernel
theorem d_X_may_61 : decode c_X_may 61 = .ok (.iload_n 1, 1) := by decide +kernel
theorem d_X_may_62 : decode c_X_may 62 = .ok (.iload_n 1, 1) := by decide +kernel
theorem d_X_may_63 : decode c_X_may 63 = .ok (.bipush 13, 2) := by decide +kernel
theorem d_X_may_65 : decode c_X_may 65 = .ok (.imul, 1) := by decide +kernel
theorem d_X_may_66 : decode c_X_may 66 = .ok (.iload_n 2, 1) := by decide +kernel
theorem d_X_may_67 : decode c_X_may 67 = .ok (.iadd, 1) := by decide +kernel
theorem d_X_may_68 : decode c_X_may 68 = .ok (.iload_n 3, 1) := by decide +kernel
theorem d_X_may_69 : decode c_X_may 69 = .ok (.iload 4, 2) := by decide +kernel
theorem d_X_may_71 : decode c_X_may 71 = .ok (.invokevirtual 102, 3) := by decide +kernel
theorem d_X_may_74 : decode c_X_may 74 = .ok (.ireturn, 1) := by decide +kernel
theorem d_F_countEntries_0 : decode c_F_countEntries 0 = .ok (.aload_n 0, 1) := by decide +kernel
theorem d_F_countEntries_1 : decode c_F_countEntries 1 = .ok (.getfield 29, 3) := by decide +kernel
theorem d_F_countEntries_4 : decode c_F_countEntries 4 = .ok (.iload_n 1, 1) := by decide +kernel
theorem d_F_countEntries_5 : decode c_F_countEntries 5 = .ok (.iaload, 1) := by decide +kernel
theorem d_F_countEntries_6 : decode c_F_countEntries 6 = .ok (.iconst 1, 1) := by decide +kernel
theorem d_F_countEntries_7 : decode c_F_countEntries 7 = .ok (.iand, 1) := by decide +kernel
theorem d_F_countEntries_8 : decode c_F_countEntries 8 = .ok (.istore_n 2, 1) := by decide +kernel
theorem d_F_countEntries_9 : decode c_F_countEntries 9 = .ok (.iconst 0, 1) := by decide +kernel
theorem d_F_countEntries_10 : decode c_F_countEntries 10 = .ok (.istore_n 3, 1) := by decide +kernel
theorem d_F_countEntries_11 : decode c_F_countEntries 11 = .ok (.iload_n 3, 1) := by decide +kernel
theorem d_F_countEntries_12 : decode c_F_countEntries 12 = .ok (.bipush 16, 2) := by decide +kernel
theorem d_F_countEntries_14 : decode c_F_countEntries 14 = .ok (.if_icmp .ge 26, 3) := by decide +kernel
theorem d_F_countEntries_17 : decode c_F_countEntries 17 = .ok (.iload_n 2, 1) := by decide +kernel
theorem d_F_countEntries_18 : decode c_F_countEntries 18 = .ok (.aload_n 0, 1) := by decide +kernel
theorem d_F_countEntries_19 : decode c_F_countEntries 19 = .ok (.getfield 26, 3) := by decide +kernel
theorem d_F_countEntries_22 : decode c_F_countEntries 22 = .ok (.iload_n 1, 1) := by decide +kernel
theorem d_F_countEntries_23 : decode c_F_countEntries 23 = .ok (.bipush 20, 2) := by decide +kernel
theorem d_F_countEntries_25 : decode c_F_countEntries 25 = .ok (.imul, 1) := by decide +kernel
theorem d_F_countEntries_26 : decode c_F_countEntries 26 = .ok (.iload_n 3, 1) := by decide +kernel
theorem d_F_countEntries_27 : decode c_F_countEntries 27 = .ok (.iadd, 1) := by decide +kernel
theorem d_F_countEntries_28 : decode c_F_countEntries 28 = .ok (.iaload, 1) := by decide +kernel
theorem d_F_countEntries_29 : decode c_F_countEntries 29 = .ok (.invokestatic 130, 3) := by decide +kernel
theorem d_F_countEntries_32 : decode c_F_countEntries 32 = .ok (.iadd, 1) := by decide +kernel
theorem d_F_countEntries_33 : decode c_F_countEntries 33 = .ok (.istore_n 2, 1) := by decide +kernel
theorem d_F_countEntries_34 : decode c_F_countEntries 34 = .ok (.iinc 3 1, 3) := by decide +kernel
theorem d_F_countEntries_37 : decode c_F_countEntries 37 = .ok (.goto (-26), 3) := by decide +kernel
theorem d_F_countEntries_40 : decode c_F_countEntries 40 = .ok (.iload_n 2, 1) := by decide +kernel
theorem d_F_countEntries_41 : decode c_F_countEntries 41 = .ok (.ireturn, 1) := by decide +kernel
theorem d_X_entries_0 : decode c_X_entries 0 = .ok (.aload_n 0, 1) := by decide +kernel
theorem d_X_entries_1 : decode c_X_entries 1 = .ok (.getfield 41, 3) := by decide +kernel
theorem d_X_entries_4 : decode c_X_entries 4 = .ok (.iconst 1, 1) := by decide +kernel
theorem d_X_entries_5 : decode c_X_entries 5 = .ok (.if_icmp .ne 12, 3) := by decide +kernel
theorem d_X_entries_8 : decode c_X_entries 8 = .ok (.iload_n 1, 1) := by decide +kernel
theorem d_X_entries_9 : decode c_X_entries 9 = .ok (.bipush 6, 2) := by decide +kernel
theorem d_X_entries_11 : decode c_X_entries 11 = .ok (.invokestatic 60, 3) := by decide +kernel
theorem d_X_entries_14 : decode c_X_entries 14 = .ok (.ifCond .ne 5, 3) := by decide +kernel
theorem d_X_entries_17 : decode c_X_entries 17 = .ok (.iconst (-1), 1) := by decide +kernel
theorem d_X_entries_18 : decode c_X_entries 18 = .ok (.ireturn, 1) := by decide +kernel
theorem d_X_entries_19 : decode c_X_entries 19 = .ok (.aload_n 0, 1) := by decide +kernel
theorem d_X_entries_20 : decode c_X_entries 20 = .ok (.getfield 30, 3) := by decide +kernel
theorem d_X_entries_23 : decode c_X_entries 23 = .ok (.iload_n 1, 1) := by decide +kernel
theorem d_X_entries_24 : decode c_X_entries 24 = .ok (.invokevirtual 105, 3) := by decide +kernel
theorem d_X_entries_27 : decode c_X_entries 27 = .ok (.ireturn, 1) := by decide +kernel
theorem d_X_points_0 : decode c_X_points 0 = .ok (.aload_n 0, 1) := by decide +kernel
theorem d_X_points_1 : decode c_X_points 1 = .ok (.getfield 41, 3) := by decide +kernel
theorem d_X_points_4 : decode c_X_points 4 = .ok (.iconst 1, 1) := by decide +kernel
theorem d_X_points_5 : decode c_X_points 5 = .ok (.if_icmp .ne 20, 3) := by decide +kernel
theorem d_X_points_8 : decode c_X_points 8 = .ok (.iload_n 1, 1) := by decide +kernel
theorem d_X_points_9 : decode c_X_points 9 = .ok (.bipush 6, 2) := by decide +kernel
theorem d_X_points_11 : decode c_X_points 11 = .ok (.invokestatic 60, 3) := by decide +kernel
theorem d_X_points_14 : decode c_X_points 14 = .ok (.ifCond .eq 11, 3) := by decide +kernel
theorem d_X_points_17 : decode c_X_points 17 = .ok (.iload_n 2, 1) := by decide +kernel
theorem d_X_points_18 : decode c_X_points 18 = .ok (.iconst 4, 1) := by decide +kernel
theorem d_X_points_19 : decode c_X_points 19 = .ok (.invokestatic 60, 3) := by decide +kernel
theorem d_X_points_22 : decode c_X_points 22 = .ok (.ifCond .ne 5, 3) := by decide +kernel
theorem d_X_points_25 : decode c_X_points 25 = .ok (.iconst (-1), 1) := by decide +kernel
theorem d_X_points_26 : decode c_X_points 26 = .ok (.ireturn, 1) := by decide +kernel
theorem d_X_points_27 : decode c_X_points 27 = .ok (.aload_n 0, 1) := by decide +kernel
theorem d_X_points_28 : decode c_X_points 28 = .ok (.getfield 21, 3) := by decide +kernel
theorem d_X_points_31 : decode c_X_points 31 = .ok (.getfield 109, 3) := by decide +kernel
theorem d_X_points_34 : decode c_X_points 34 = .ok (.iload_n 1, 1) := by decide +kernel
theorem d_X_points_35 : decode c_X_points 35 = .ok (.iconst 4, 1) := by decide +kernel
theorem d_X_points_36 : decode c_X_points 36 = .ok (.imul, 1) := by decide +kernel
theorem d_X_points_37 : decode c_X_points 37 = .ok (.iload_n 2, 1) := by decide +kernel
theorem d_X_points_38 : decode c_X_points 38 = .ok (.iadd, 1) := by decide +kernel
theorem d_X_points_39 : decode c_X_points 39 = .ok (.iaload, 1) := by decide +kernel
theorem d_X_points_40 : decode c_X_points 40 = .ok (.ireturn, 1) := by decide +kernel
theorem d_X_cell_0 : decode c_X_cell 0 = .ok (.aload_n 0, 1) := by decide +kernel
theorem d_X_cell_1 : decode c_X_cell 1 = .ok (.getfield 41, 3) := by decide +kernel
theorem d_X_cell_4 : decode c_X_cell 4 = .ok (.iconst 1, 1) := by decide +kernel
theorem d_X_cell_5 : decode c_X_cell 5 = .ok (.if_icmp .ne 20, 3) := by decide +kernel
theorem d_X_cell_8 : decode c_X_cell 8 = .ok (.iload_n 1, 1) := by decide +kernel
theorem d_X_cell_9 : decode c_X_cell 9 = .ok (.bipush 6, 2) := by decide +kernel
theorem d_X_cell_11 : decode c_X_cell 11 = .ok (.invokestatic 60, 3) := by decide +kernel
theorem d_X_cell_14 : decode c_X_cell 14 = .ok (.ifCond .eq 11, 3) := by decide +kernel
theorem d_X_cell_17 : decode c_X_cell 17 = .ok (.iload_n 2, 1) := by decide +kernel
theorem d_X_cell_18 : decode c_X_cell 18 = .ok (.iconst 2, 1) := by decide +kernel
theorem d_X_cell_19 : decode c_X_cell 19 = .ok (.invokestatic 60, 3) := by decide +kernel
theorem d_X_cell_22 : decode c_X_cell 22 = .ok (.ifCond .ne 5, 3) := by decide +kernel
theorem d_X_cell_25 : decode c_X_cell 25 = .ok (.iconst (-1), 1) := by decide +kernel
theorem d_X_cell_26 : decode c_X_cell 26 = .ok (.ireturn, 1) := by decide +kernel
theorem d_X_cell_27 : decode c_X_cell 27 = .ok (.aload_n 0, 1) := by decide +kernel
theorem d_X_cell_28 : decode c_X_cell 28 = .ok (.getfield 21, 3) := by decide +kernel
theorem d_X_cell_31 : decode c_X_cell 31 = .ok (.getfield 112, 3) := by decide +kernel
theorem d_X_cell_34 : decode c_X_cell 34 = .ok (.iload_n 1, 1) := by decide +kernel
theorem d_X_cell_35 : decode c_X_cell 35 = .ok (.iconst 2, 1) := by decide +kernel
theorem d_X_cell_36 : decode c_X_cell 36 = .ok (.imul, 1) := by decide +kernel
theorem d_X_cell_37 : decode c_X_cell 37 = .ok (.iload_n 2, 1) := by decide +kernel
theorem d_X_cell_38 : decode c_X_cell 38 = .ok (.iadd, 1) := by decide +kernel
theorem d_X_cell_39 : decode c_X_cell 39 = .ok (.iaload, 1) := by decide +kernel
theorem d_X_cell_40 : decode c_X_cell 40 = .ok (.ireturn, 1) := by decide +kernel
theorem d_A_begin_0 : decode c_A_begin 0 = .ok (.aload_n 0, 1) := by decide +kernel
theorem d_A_begin_1 : decode c_A_begin 1 = .ok (.getfield 15, 3) := by decide +kernel
theorem d_A_begin_4 : decode c_A_begin 4 = .ok (.aload_n 0, 1) := by decide +kernel
theorem d_A_begin_5 : decode c_A_begin 5 = .ok (.getfield 79, 3) := by decide +kernel
theorem d_A_begin_8 : decode c_A_begin 8 = .ok (.iload_n 1, 1) := by decide +kernel
theorem d_A_begin_9 : decode c_A_begin 9 = .ok (.iastore, 1) := by decide +kernel
theorem d_A_begin_10 : decode c_A_begin 10 = .ok (.aload_n 0, 1) := by decide +kernel
theorem d_A_begin_11 : decode c_A_begin 11 = .ok (.getfield 19, 3) := by decide +kernel
theorem d_A_begin_14 : decode c_A_begin 14 = .ok (.aload_n 0, 1) := by decide +kernel
theorem d_A_begin_15 : decode c_A_begin 15 = .ok (.getfield 79, 3) := by decide +kernel
theorem d_A_begin_18 : decode c_A_begin 18 = .ok (.iload_n 1, 1) := by decide +kernel
theorem d_A_begin_19 : decode c_A_begin 19 = .ok (.bipush 13, 2) := by decide +kernel
theorem d_A_begin_21 : decode c_A_begin 21 = .ok (.imul, 1) := by decide +kernel
theorem d_A_begin_22 : decode c_A_begin 22 = .ok (.iastore, 1) := by decide +kernel
theorem d_A_begin_23 : decode c_A_begin 23 = .ok (.aload_n 0, 1) := by decide +kernel
theorem d_A_begin_24 : decode c_A_begin 24 = .ok (.getfield 22, 3) := by decide +kernel
theorem d_A_begin_27 : decode c_A_begin 27 = .ok (.aload_n 0, 1) := by decide +kernel
theorem d_A_begin_28 : decode c_A_begin 28 = .ok (.getfield 79, 3) := by decide +kernel
theorem d_A_begin_31 : decode c_A_begin 31 = .ok (.iconst 4, 1) := by decide +kernel
theorem d_A_begin_32 : decode c_A_begin 32 = .ok (.imul, 1) := by decide +kernel
theorem d_A_begin_33 : decode c_A_begin 33 = .ok (.iload_n 2, 1) := by decide +kernel
theorem d_A_begin_34 : decode c_A_begin 34 = .ok (.iastore, 1) := by decide +kernel
theorem d_A_begin_35 : decode c_A_begin 35 = .ok (.aload_n 0, 1) := by decide +kernel
theorem d_A_begin_36 : decode c_A_begin 36 = .ok (.getfield 22, 3) := by decide +kernel
theorem d_A_begin_39 : decode c_A_begin 39 = .ok (.aload_n 0, 1) := by decide +kernel
theorem d_A_begin_40 : decode c_A_begin 40 = .ok (.getfield 79, 3) := by decide +kernel
theorem d_A_begin_43 : decode c_A_begin 43 = .ok (.iconst 4, 1) := by decide +kernel
theorem d_A_begin_44 : decode c_A_begin 44 = .ok (.imul, 1) := by decide +kernel
theorem d_A_begin_45 : decode c_A_begin 45 = .ok (.iconst 1, 1) := by decide +kernel
theorem d_A_begin_46 : decode c_A_begin 46 = .ok (.iadd, 1) := by decide +kernel
theorem d_A_begin_47 : decode c_A_begin 47 = .ok (.iload_n 3, 1) := by decide +kernel
theorem d_A_begin_48 : decode c_A_begin 48 = .ok (.iastore, 1) := by decide +kernel
theorem d_A_begin_49 : decode c_A_begin 49 = .ok (.aload_n 0, 1) := by decide +kernel
theorem d_A_begin_50 : decode c_A_begin 50 = .ok (.getfield 22, 3) := by decide +kernel
theorem d_A_begin_53 : decode c_A_begin 53 = .ok (.aload_n 0, 1) := by decide +kernel
theorem d_A_begin_54 : decode c_A_begin 54 = .ok (.getfield 79, 3) := by decide +kernel
theorem d_A_begin_57 : decode c_A_begin 57 = .ok (.iconst 4, 1) := by decide +kernel
theorem d_A_begin_58 : decode c_A_begin 58 = .ok (.imul, 1) := by decide +kernel
theorem d_A_begin_59 : decode c_A_begin 59 = .ok (.iconst 2, 1) := by decide +kernel
theorem d_A_begin_60 : decode c_A_begin 60 = .ok (.iadd, 1) := by decide +kernel
theorem d_A_begin_61 : decode c_A_begin 61 = .ok (.iconst 0, 1) := by decide +kernel
theorem d_A_begin_62 : decode c_A_begin 62 = .ok (.iastore, 1) := by decide +kernel
theorem d_A_begin_63 : decode c_A_begin 63 = .ok (.aload_n 0, 1) := by decide +kernel
theorem d_A_begin_64 : decode c_A_begin 64 = .ok (.getfield 22, 3) := by decide +kernel
theorem d_A_begin_67 : decode c_A_begin 67 = .ok (.aload_n 0, 1) := by decide +kernel
theorem d_A_begin_68 : decode c_A_begin 68 = .ok (.getfield 79, 3) := by decide +kernel
theorem d_A_begin_71 : decode c_A_begin 71 = .ok (.iconst 4, 1) := by decide +kernel
theorem d_A_begin_72 : decode c_A_begin 72 = .ok (.imul, 1) := by decide +kernel
theorem d_A_begin_73 : decode c_A_begin 73 = .ok (.iconst 3, 1) := by decide +kernel
theorem d_A_begin_74 : decode c_A_begin 74 = .ok (.iadd, 1) := by decide +kernel
theorem d_A_begin_75 : decode c_A_begin 75 = .ok (.iconst 0, 1) := by decide +kernel
theorem d_A_begin_76 : decode c_A_begin 76 = .ok (.iastore, 1) := by decide +kernel
theorem d_A_begin_77 : decode c_A_begin 77 = .ok (.aload_n 0, 1) := by decide +kernel
theorem d_A_begin_78 : decode c_A_begin 78 = .ok (.dup, 1) := by decide +kernel
theorem d_A_begin_79 : decode c_A_begin 79 = .ok (.getfield 79, 3) := by decide +kernel
theorem d_A_begin_82 : decode c_A_begin 82 = .ok (.iconst 1, 1) := by decide +kernel
theorem d_A_begin_83 : decode c_A_begin 83 = .ok (.iadd, 1) := by decide +kernel
theorem d_A_begin_84 : decode c_A_begin 84 = .ok (.putfield 79, 3) := by decide +kernel
theorem d_A_begin_87 : decode c_A_begin 87 = .ok (.return_, 1) := by decide +kernel
theorem d_A_reset_0 : decode c_A_reset 0 = .ok (.aload_n 0, 1) := by decide +kernel
theorem d_A_reset_1 : decode c_A_reset 1 = .ok (.getfield 31, 3) := by decide +kernel
theorem d_A_reset_4 : decode c_A_reset 4 = .ok (.iconst 0, 1) := by decide +kernel
theorem d_A_reset_5 : decode c_A_reset 5 = .ok (.invokestatic 64, 3) := by decide +kernel
theorem d_A_reset_8 : decode c_A_reset 8 = .ok (.aload_n 0, 1) := by decide +kernel
theorem d_A_reset_9 : decode c_A_reset 9 = .ok (.iload_n 1, 1) := by decide +kernel
theorem d_A_reset_10 : decode c_A_reset 10 = .ok (.putfield 70, 3) := by decide +kernel
theorem d_A_reset_13 : decode c_A_reset 13 = .ok (.aload_n 0, 1) := by decide +kernel
theorem d_A_reset_14 : decode c_A_reset 14 = .ok (.iconst 0, 1) := by decide +kernel
theorem d_A_reset_15 : decode c_A_reset 15 = .ok (.putfield 73, 3) := by decide +kernel
theorem d_A_reset_18 : decode c_A_reset 18 = .ok (.aload_n 0, 1) := by decide +kernel
theorem d_A_reset_19 : decode c_A_reset 19 = .ok (.iconst 0, 1) := by decide +kernel
theorem d_A_reset_20 : decode c_A_reset 20 = .ok (.putfield 61, 3) := by decide +kernel
theorem d_A_reset_23 : decode c_A_reset 23 = .ok (.aload_n 0, 1) := by decide +kernel
theorem d_A_reset_24 : decode c_A_reset 24 = .ok (.iconst 0, 1) := by decide +kernel
theorem d_A_reset_25 : decode c_A_reset 25 = .ok (.putfield 76, 3) := by decide +kernel
theorem d_A_reset_28 : decode c_A_reset 28 = .ok (.aload_n 0, 1) := by decide +kernel
theorem d_A_reset_29 : decode c_A_reset 29 = .ok (.iconst 0, 1) := by decide +kernel
theorem d_A_reset_30 : decode c_A_reset 30 = .ok (.putfield 34, 3) := by decide +kernel
theorem d_A_reset_33 : decode c_A_reset 33 = .ok (.aload_n 0, 1) := by decide +kernel
theorem d_A_reset_34 : decode c_A_reset 34 = .ok (.iconst 0, 1) := by decide +kernel
theorem d_A_reset_35 : decode c_A_reset 35 = .ok (.putfield 79, 3) := by decide +kernel
theorem d_A_reset_38 : decode c_A_reset 38 = .ok (.aload_n 0, 1) := by decide +kernel
theorem d_A_reset_39 : decode c_A_reset 39 = .ok (.iconst 0, 1) := by decide +kernel
theorem d_A_reset_40 : decode c_A_reset 40 = .ok (.iconst 0, 1) := by decide +kernel
theorem d_A_reset_41 : decode c_A_reset 41 = .ok (.iconst 0, 1) := by decide +kernel
theorem d_A_reset_42 : decode c_A_reset 42 = .ok (.invokevirtual 82, 3) := by decide +kernel
theorem d_A_reset_45 : decode c_A_reset 45 = .ok (.return_, 1) := by decide +kernel
theorem d_A_standsAtEnd_0 : decode c_A_standsAtEnd 0 = .ok (.aload_n 0, 1) := by decide +kernel
theorem d_A_standsAtEnd_1 : decode c_A_standsAtEnd 1 = .ok (.getfield 15, 3) := by decide +kernel
theorem d_A_standsAtEnd_4 : decode c_A_standsAtEnd 4 = .ok (.aload_n 0, 1) := by decide +kernel
theorem d_A_standsAtEnd_5 : decode c_A_standsAtEnd 5 = .ok (.getfield 79, 3) := by decide +kernel
theorem d_A_standsAtEnd_8 : decode c_A_standsAtEnd 8 = .ok (.iconst 1, 1) := by decide +kernel
theorem d_A_standsAtEnd_9 : decode c_A_standsAtEnd 9 = .ok (.isub, 1) := by decide +kernel
theorem d_A_standsAtEnd_10 : decode c_A_standsAtEnd 10 = .ok (.iaload, 1) := by decide +kernel
theorem d_A_standsAtEnd_11 : decode c_A_standsAtEnd 11 = .ok (.istore_n 1, 1) := by decide +kernel
theorem d_A_standsAtEnd_12 : decode c_A_standsAtEnd 12 = .ok (.aload_n 0, 1) := by decide +kernel
theorem d_A_standsAtEnd_13 : decode c_A_standsAtEnd 13 = .ok (.getfield 19, 3) := by decide +kernel
theorem d_A_standsAtEnd_16 : decode c_A_standsAtEnd 16 = .ok (.aload_n 0, 1) := by decide +kernel
theorem d_A_standsAtEnd_17 : decode c_A_standsAtEnd 17 = .ok (.getfield 79, 3) := by decide +kernel
theorem d_A_standsAtEnd_20 : decode c_A_standsAtEnd 20 = .ok (.iconst 1, 1) := by decide +kernel
theorem d_A_standsAtEnd_21 : decode c_A_standsAtEnd 21 = .ok (.isub, 1) := by decide +kernel
theorem d_A_standsAtEnd_22 : decode c_A_standsAtEnd 22 = .ok (.iaload, 1) := by decide +kernel
theorem d_A_standsAtEnd_23 : decode c_A_standsAtEnd 23 = .ok (.iload_n 1, 1) := by decide +kernel
theorem d_A_standsAtEnd_24 : decode c_A_standsAtEnd 24 = .ok (.bipush 13, 2) := by decide +kernel
theorem d_A_standsAtEnd_26 : decode c_A_standsAtEnd 26 = .ok (.imul, 1) := by decide +kernel
theorem d_A_standsAtEnd_27 : decode c_A_standsAtEnd 27 = .ok (.aload_n 0, 1) := by decide +kernel
theorem d_A_standsAtEnd_28 : decode c_A_standsAtEnd 28 = .ok (.getfield 9, 3) := by decide +kernel
theorem d_A_standsAtEnd_31 : decode c_A_standsAtEnd 31 = .ok (.getfield 93, 3) := by decide +kernel
theorem d_A_standsAtEnd_34 : decode c_A_standsAtEnd 34 = .ok (.iload_n 1, 1) := by decide +kernel
theorem d_A_standsAtEnd_35 : decode c_A_standsAtEnd 35 = .ok (.iaload, 1) := by decide +kernel
theorem d_A_standsAtEnd_36 : decode c_A_standsAtEnd 36 = .ok (.iadd, 1) := by decide +kernel
theorem d_A_standsAtEnd_37 : decode c_A_standsAtEnd 37 = .ok (.if_icmp .ne 7, 3) := by decide +kernel
theorem d_A_standsAtEnd_40 : decode c_A_standsAtEnd 40 = .ok (.iconst 1, 1) := by decide +kernel
theorem d_A_standsAtEnd_41 : decode c_A_standsAtEnd 41 = .ok (.goto 4, 3) := by decide +kernel
theorem d_A_standsAtEnd_44 : decode c_A_standsAtEnd 44 = .ok (.iconst 0, 1) := by decide +kernel
theorem d_A_standsAtEnd_45 : decode c_A_standsAtEnd 45 = .ok (.ireturn, 1) := by decide +kernel
theorem d_A_endMethod_0 : decode c_A_endMethod 0 = .ok (.aload_n 0, 1) := by decide +kernel
theorem d_A_endMethod_1 : decode c_A_endMethod 1 = .ok (.dup, 1) := by decide +kernel
theorem d_A_endMethod_2 : decode c_A_endMethod 2 = .ok (.getfield 79, 3) := by decide +kernel
theorem d_A_endMethod_5 : decode c_A_endMethod 5 = .ok (.iconst 1, 1) := by decide +kernel
theorem d_A_endMethod_6 : decode c_A_endMethod 6 = .ok (.isub, 1) := by decide +kernel
theorem d_A_endMethod_7 : decode c_A_endMethod 7 = .ok (.putfield 79, 3) := by decide +kernel
theorem d_A_endMethod_10 : decode c_A_endMethod 10 = .ok (.aload_n 0, 1) := by decide +kernel
theorem d_A_endMethod_11 : decode c_A_endMethod 11 = .ok (.getfield 79, 3) := by decide +kernel
theorem d_A_endMethod_14 : decode c_A_endMethod 14 = .ok (.ifCond .le 54, 3) := by decide +kernel
theorem d_A_endMethod_17 : decode c_A_endMethod 17 = .ok (.aload_n 0, 1) := by decide +kernel
theorem d_A_endMethod_18 : decode c_A_endMethod 18 = .ok (.getfield 9, 3) := by decide +kernel
theorem d_A_endMethod_21 : decode c_A_endMethod 21 = .ok (.getfield 98, 3) := by decide +kernel
theorem d_A_endMethod_24 : decode c_A_endMethod 24 = .ok (.aload_n 0, 1) := by decide +kernel
theorem d_A_endMethod_25 : decode c_A_endMethod 25 = .ok (.getfield 19, 3) := by decide +kernel
theorem d_A_endMethod_28 : decode c_A_endMethod 28 = .ok (.aload_n 0, 1) := by decide +kernel
theorem d_A_endMethod_29 : decode c_A_endMethod 29 = .ok (.getfield 79, 3) := by decide +kernel
theorem d_A_endMethod_32 : decode c_A_endMethod 32 = .ok (.iconst 1, 1) := by decide +kernel
theorem d_A_endMethod_33 : decode c_A_endMethod 33 = .ok (.isub, 1) := by decide +kernel
theorem d_A_endMethod_34 : decode c_A_endMethod 34 = .ok (.iaload, 1) := by decide +kernel
theorem d_A_endMethod_35 : decode c_A_endMethod 35 = .ok (.iaload, 1) := by decide +kernel
theorem d_A_endMethod_36 : decode c_A_endMethod 36 = .ok (.istore_n 2, 1) := by decide +kernel
theorem d_A_endMethod_37 : decode c_A_endMethod 37 = .ok (.aload_n 0, 1) := by decide +kernel
theorem d_A_endMethod_38 : decode c_A_endMethod 38 = .ok (.getfield 22, 3) := by decide +kernel
theorem d_A_endMethod_41 : decode c_A_endMethod 41 = .ok (.aload_n 0, 1) := by decide +kernel
theorem d_A_endMethod_42 : decode c_A_endMethod 42 = .ok (.getfield 79, 3) := by decide +kernel
theorem d_A_endMethod_45 : decode c_A_endMethod 45 = .ok (.iconst 1, 1) := by decide +kernel
theorem d_A_endMethod_46 : decode c_A_endMethod 46 = .ok (.isub, 1) := by decide +kernel
theorem d_A_endMethod_47 : decode c_A_endMethod 47 = .ok (.iconst 4, 1) := by decide +kernel
theorem d_A_endMethod_48 : decode c_A_endMethod 48 = .ok (.imul, 1) := by decide +kernel
theorem d_A_endMethod_49 : decode c_A_endMethod 49 = .ok (.iload_n 2, 1) := by decide +kernel
theorem d_A_endMethod_50 : decode c_A_endMethod 50 = .ok (.iadd, 1) := by decide +kernel
theorem d_A_endMethod_51 : decode c_A_endMethod 51 = .ok (.iload_n 1, 1) := by decide +kernel
theorem d_A_endMethod_52 : decode c_A_endMethod 52 = .ok (.iastore, 1) := by decide +kernel
theorem d_A_endMethod_53 : decode c_A_endMethod 53 = .ok (.aload_n 0, 1) := by decide +kernel
theorem d_A_endMethod_54 : decode c_A_endMethod 54 = .ok (.getfield 19, 3) := by decide +kernel
theorem d_A_endMethod_57 : decode c_A_endMethod 57 = .ok (.aload_n 0, 1) := by decide +kernel
theorem d_A_endMethod_58 : decode c_A_endMethod 58 = .ok (.getfield 79, 3) := by decide +kernel
theorem d_A_endMethod_61 : decode c_A_endMethod 61 = .ok (.iconst 1, 1) := by decide +kernel
theorem d_A_endMethod_62 : decode c_A_endMethod 62 = .ok (.isub, 1) := by decide +kernel
theorem d_A_endMethod_63 : decode c_A_endMethod 63 = .ok (.dup2, 1) := by decide +kernel
theorem d_A_endMethod_64 : decode c_A_endMethod 64 = .ok (.iaload, 1) := by decide +kernel
theorem d_A_endMethod_65 : decode c_A_endMethod 65 = .ok (.iconst 1, 1) := by decide +kernel
theorem d_A_endMethod_66 : decode c_A_endMethod 66 = .ok (.iadd, 1) := by decide +kernel
theorem d_A_endMethod_67 : decode c_A_endMethod 67 = .ok (.iastore, 1) := by decide +kernel
theorem d_A_endMethod_68 : decode c_A_endMethod 68 = .ok (.return_, 1) := by decide +kernel
theorem d_A_endMethods_0 : decode c_A_endMethods 0 = .ok (.iconst 0, 1) := by decide +kernel
theorem d_A_endMethods_1 : decode c_A_endMethods 1 = .ok (.istore_n 1, 1) := by decide +kernel
theorem d_A_endMethods_2 : decode c_A_endMethods 2 = .ok (.iload_n 1, 1) := by decide +kernel
theorem d_A_endMethods_3 : decode c_A_endMethods 3 = .ok (.bipush 6, 2) := by decide +kernel
theorem d_A_endMethods_5 : decode c_A_endMethods 5 = .ok (.if_icmp .ge 28, 3) := by decide +kernel
theorem d_A_endMethods_8 : decode c_A_endMethods 8 = .ok (.aload_n 0, 1) := by decide +kernel
theorem d_A_endMethods_9 : decode c_A_endMethods 9 = .ok (.getfield 79, 3) := by decide +kernel
theorem d_A_endMethods_12 : decode c_A_endMethods 12 = .ok (.ifCond .le 21, 3) := by decide +kernel
theorem d_A_endMethods_15 : decode c_A_endMethods 15 = .ok (.aload_n 0, 1) := by decide +kernel
theorem d_A_endMethods_16 : decode c_A_endMethods 16 = .ok (.invokevirtual 86, 3) := by decide +kernel
theorem d_A_endMethods_19 : decode c_A_endMethods 19 = .ok (.ifCond .eq 14, 3) := by decide +kernel
theorem d_A_endMethods_22 : decode c_A_endMethods 22 = .ok (.aload_n 0, 1) := by decide +kernel
theorem d_A_endMethods_23 : decode c_A_endMethods 23 = .ok (.iconst 0, 1) := by decide +kernel
theorem d_A_endMethods_24 : decode c_A_endMethods 24 = .ok (.invokevirtual 90, 3) := by decide +kernel
theorem d_A_endMethods_27 : decode c_A_endMethods 27 = .ok (.iinc 1 1, 3) := by decide +kernel
theorem d_A_endMethods_30 : decode c_A_endMethods 30 = .ok (.goto (-28), 3) := by decide +kernel
theorem d_A_endMethods_33 : decode c_A_endMethods 33 = .ok (.return_, 1) := by decide +kernel
theorem d_A_objectOf_0 : decode c_A_objectOf 0 = .ok (.aload_n 0, 1) := by decide +kernel
theorem d_A_objectOf_1 : decode c_A_objectOf 1 = .ok (.getfield 22, 3) := by decide +kernel
theorem d_A_objectOf_4 : decode c_A_objectOf 4 = .ok (.aload_n 0, 1) := by decide +kernel
theorem d_A_objectOf_5 : decode c_A_objectOf 5 = .ok (.getfield 79, 3) := by decide +kernel
theorem d_A_objectOf_8 : decode c_A_objectOf 8 = .ok (.iconst 1, 1) := by decide +kernel
theorem d_A_objectOf_9 : decode c_A_objectOf 9 = .ok (.isub, 1) := by decide +kernel
theorem d_A_objectOf_10 : decode c_A_objectOf 10 = .ok (.iconst 4, 1) := by decide +kernel
theorem d_A_objectOf_11 : decode c_A_objectOf 11 = .ok (.imul, 1) := by decide +kernel
theorem d_A_objectOf_12 : decode c_A_objectOf 12 = .ok (.iload_n 1, 1) := by decide +kernel
theorem d_A_objectOf_13 : decode c_A_objectOf 13 = .ok (.iadd, 1) := by decide +kernel
theorem d_A_objectOf_14 : decode c_A_objectOf 14 = .ok (.iaload, 1) := by decide +kernel
theorem d_A_objectOf_15 : decode c_A_objectOf 15 = .ok (.iconst 4, 1) := by decide +kernel
theorem d_A_objectOf_16 : decode c_A_objectOf 16 = .ok (.ishr, 1) := by decide +kernel
theorem d_A_objectOf_17 : decode c_A_objectOf 17 = .ok (.iconst 1, 1) := by decide +kernel
theorem d_A_objectOf_18 : decode c_A_objectOf 18 = .ok (.isub, 1) := by decide +kernel
theorem d_A_objectOf_19 : decode c_A_objectOf 19 = .ok (.ireturn, 1) := by decide +kernel
theorem d_A_calledMethod_0 : decode c_A_calledMethod 0 = .ok (.aload_n 0, 1) := by decide +kernel
theorem d_A_calledMethod_1 : decode c_A_calledMethod 1 = .ok (.aload_n 0, 1) := by decide +kernel
theorem d_A_calledMethod_2 : decode c_A_calledMethod 2 = .ok (.getfield 9, 3) := by decide +kernel
theorem d_A_calledMethod_5 : decode c_A_calledMethod 5 = .ok (.getfield 104, 3) := by decide +kernel
theorem d_A_calledMethod_8 : decode c_A_calledMethod 8 = .ok (.iload_n 1, 1) := by decide +kernel
