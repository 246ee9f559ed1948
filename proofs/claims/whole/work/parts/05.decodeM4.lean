theorem d_M_run_195 : decode c_M_run 195 = .ok (.invokevirtual 215, 3) := by decide +kernel
theorem d_M_run_198 : decode c_M_run 198 = .ok (.aload_n 0, 1) := by decide +kernel
theorem d_M_run_199 : decode c_M_run 199 = .ok (.dup, 1) := by decide +kernel
theorem d_M_run_200 : decode c_M_run 200 = .ok (.getfield 208, 3) := by decide +kernel
theorem d_M_run_203 : decode c_M_run 203 = .ok (.iconst 1, 1) := by decide +kernel
theorem d_M_run_204 : decode c_M_run 204 = .ok (.iadd, 1) := by decide +kernel
theorem d_M_run_205 : decode c_M_run 205 = .ok (.putfield 208, 3) := by decide +kernel
theorem d_M_run_208 : decode c_M_run 208 = .ok (.iinc 4 1, 3) := by decide +kernel
theorem d_M_run_211 : decode c_M_run 211 = .ok (.goto (-129), 3) := by decide +kernel
theorem d_M_run_214 : decode c_M_run 214 = .ok (.aload_n 0, 1) := by decide +kernel
theorem d_M_run_215 : decode c_M_run 215 = .ok (.getfield 208, 3) := by decide +kernel
theorem d_M_run_218 : decode c_M_run 218 = .ok (.ireturn, 1) := by decide +kernel
theorem d_M_outcome_0 : decode c_M_outcome 0 = .ok (.aload_n 0, 1) := by decide +kernel
theorem d_M_outcome_1 : decode c_M_outcome 1 = .ok (.getfield 89, 3) := by decide +kernel
theorem d_M_outcome_4 : decode c_M_outcome 4 = .ok (.ireturn, 1) := by decide +kernel
theorem d_M_hits_0 : decode c_M_hits 0 = .ok (.aload_n 0, 1) := by decide +kernel
theorem d_M_hits_1 : decode c_M_hits 1 = .ok (.iconst 1, 1) := by decide +kernel
theorem d_M_hits_2 : decode c_M_hits 2 = .ok (.bipush 6, 2) := by decide +kernel
theorem d_M_hits_4 : decode c_M_hits 4 = .ok (.iconst 0, 1) := by decide +kernel
theorem d_M_hits_5 : decode c_M_hits 5 = .ok (.invokevirtual 96, 3) := by decide +kernel
theorem d_M_hits_8 : decode c_M_hits 8 = .ok (.istore_n 3, 1) := by decide +kernel
theorem d_M_hits_9 : decode c_M_hits 9 = .ok (.aload_n 0, 1) := by decide +kernel
theorem d_M_hits_10 : decode c_M_hits 10 = .ok (.iconst 2, 1) := by decide +kernel
theorem d_M_hits_11 : decode c_M_hits 11 = .ok (.bipush 6, 2) := by decide +kernel
theorem d_M_hits_13 : decode c_M_hits 13 = .ok (.iconst 0, 1) := by decide +kernel
theorem d_M_hits_14 : decode c_M_hits 14 = .ok (.invokevirtual 96, 3) := by decide +kernel
theorem d_M_hits_17 : decode c_M_hits 17 = .ok (.istore 4, 2) := by decide +kernel
theorem d_M_hits_19 : decode c_M_hits 19 = .ok (.aload_n 0, 1) := by decide +kernel
theorem d_M_hits_20 : decode c_M_hits 20 = .ok (.getfield 89, 3) := by decide +kernel
theorem d_M_hits_23 : decode c_M_hits 23 = .ok (.ifCond .le 39, 3) := by decide +kernel
theorem d_M_hits_26 : decode c_M_hits 26 = .ok (.iload_n 1, 1) := by decide +kernel
theorem d_M_hits_27 : decode c_M_hits 27 = .ok (.iconst 0, 1) := by decide +kernel
theorem d_M_hits_28 : decode c_M_hits 28 = .ok (.iload_n 3, 1) := by decide +kernel
theorem d_M_hits_29 : decode c_M_hits 29 = .ok (.iconst 1, 1) := by decide +kernel
theorem d_M_hits_30 : decode c_M_hits 30 = .ok (.isub, 1) := by decide +kernel
theorem d_M_hits_31 : decode c_M_hits 31 = .ok (.invokestatic 81, 3) := by decide +kernel
theorem d_M_hits_34 : decode c_M_hits 34 = .ok (.ifCond .eq 28, 3) := by decide +kernel
theorem d_M_hits_37 : decode c_M_hits 37 = .ok (.iload_n 2, 1) := by decide +kernel
theorem d_M_hits_38 : decode c_M_hits 38 = .ok (.iconst 0, 1) := by decide +kernel
theorem d_M_hits_39 : decode c_M_hits 39 = .ok (.iload 4, 2) := by decide +kernel
theorem d_M_hits_41 : decode c_M_hits 41 = .ok (.iconst 1, 1) := by decide +kernel
theorem d_M_hits_42 : decode c_M_hits 42 = .ok (.isub, 1) := by decide +kernel
theorem d_M_hits_43 : decode c_M_hits 43 = .ok (.invokestatic 81, 3) := by decide +kernel
theorem d_M_hits_46 : decode c_M_hits 46 = .ok (.ifCond .eq 16, 3) := by decide +kernel
theorem d_M_hits_49 : decode c_M_hits 49 = .ok (.aload_n 0, 1) := by decide +kernel
theorem d_M_hits_50 : decode c_M_hits 50 = .ok (.getfield 57, 3) := by decide +kernel
theorem d_M_hits_53 : decode c_M_hits 53 = .ok (.iconst 4, 1) := by decide +kernel
theorem d_M_hits_54 : decode c_M_hits 54 = .ok (.iload_n 1, 1) := by decide +kernel
theorem d_M_hits_55 : decode c_M_hits 55 = .ok (.imul, 1) := by decide +kernel
theorem d_M_hits_56 : decode c_M_hits 56 = .ok (.iload_n 2, 1) := by decide +kernel
theorem d_M_hits_57 : decode c_M_hits 57 = .ok (.iadd, 1) := by decide +kernel
theorem d_M_hits_58 : decode c_M_hits 58 = .ok (.iaload, 1) := by decide +kernel
theorem d_M_hits_59 : decode c_M_hits 59 = .ok (.goto 4, 3) := by decide +kernel
theorem d_M_hits_62 : decode c_M_hits 62 = .ok (.iconst 0, 1) := by decide +kernel
theorem d_M_hits_63 : decode c_M_hits 63 = .ok (.ireturn, 1) := by decide +kernel
theorem d_M_made_0 : decode c_M_made 0 = .ok (.aload_n 0, 1) := by decide +kernel
theorem d_M_made_1 : decode c_M_made 1 = .ok (.getfield 89, 3) := by decide +kernel
theorem d_M_made_4 : decode c_M_made 4 = .ok (.ifCond .le 10, 3) := by decide +kernel
theorem d_M_made_7 : decode c_M_made 7 = .ok (.aload_n 0, 1) := by decide +kernel
theorem d_M_made_8 : decode c_M_made 8 = .ok (.getfield 192, 3) := by decide +kernel
theorem d_M_made_11 : decode c_M_made 11 = .ok (.goto 4, 3) := by decide +kernel
theorem d_M_made_14 : decode c_M_made 14 = .ok (.iconst 0, 1) := by decide +kernel
theorem d_M_made_15 : decode c_M_made 15 = .ok (.ireturn, 1) := by decide +kernel
