theorem dL_cell_0 : decode cL_cell 0 = .ok (.iload_n 1, 1) := by decide +kernel
theorem dL_cell_1 : decode cL_cell 1 = .ok (.aload_n 0, 1) := by decide +kernel
theorem dL_cell_2 : decode cL_cell 2 = .ok (.arraylength, 1) := by decide +kernel
theorem dL_cell_3 : decode cL_cell 3 = .ok (.if_icmp .ge 9, 3) := by decide +kernel
theorem dL_cell_6 : decode cL_cell 6 = .ok (.aload_n 0, 1) := by decide +kernel
theorem dL_cell_7 : decode cL_cell 7 = .ok (.iload_n 1, 1) := by decide +kernel
theorem dL_cell_8 : decode cL_cell 8 = .ok (.iaload, 1) := by decide +kernel
theorem dL_cell_9 : decode cL_cell 9 = .ok (.goto 17, 3) := by decide +kernel
theorem dL_cell_12 : decode cL_cell 12 = .ok (.sipush 7919, 3) := by decide +kernel
theorem dL_cell_15 : decode cL_cell 15 = .ok (.iload_n 1, 1) := by decide +kernel
theorem dL_cell_16 : decode cL_cell 16 = .ok (.bipush 89, 2) := by decide +kernel
theorem dL_cell_18 : decode cL_cell 18 = .ok (.iadd, 1) := by decide +kernel
theorem dL_cell_19 : decode cL_cell 19 = .ok (.imul, 1) := by decide +kernel
theorem dL_cell_20 : decode cL_cell 20 = .ok (.iload_n 1, 1) := by decide +kernel
theorem dL_cell_21 : decode cL_cell 21 = .ok (.sipush 2267, 3) := by decide +kernel
theorem dL_cell_24 : decode cL_cell 24 = .ok (.iadd, 1) := by decide +kernel
theorem dL_cell_25 : decode cL_cell 25 = .ok (.imul, 1) := by decide +kernel
theorem dL_cell_26 : decode cL_cell 26 = .ok (.ireturn, 1) := by decide +kernel
theorem dL_low_0 : decode cL_low 0 = .ok (.iload_n 0, 1) := by decide +kernel
theorem dL_low_1 : decode cL_low 1 = .ok (.ldc 7, 2) := by decide +kernel
theorem dL_low_3 : decode cL_low 3 = .ok (.iand, 1) := by decide +kernel
theorem dL_low_4 : decode cL_low 4 = .ok (.iload_n 1, 1) := by decide +kernel
theorem dL_low_5 : decode cL_low 5 = .ok (.irem, 1) := by decide +kernel
theorem dL_low_6 : decode cL_low 6 = .ok (.ireturn, 1) := by decide +kernel
theorem dL_add_0 : decode cL_add 0 = .ok (.aload_n 0, 1) := by decide +kernel
theorem dL_add_1 : decode cL_add 1 = .ok (.iload_n 1, 1) := by decide +kernel
theorem dL_add_2 : decode cL_add 2 = .ok (.iload_n 2, 1) := by decide +kernel
theorem dL_add_3 : decode cL_add 3 = .ok (.iload_n 3, 1) := by decide +kernel
theorem dL_add_4 : decode cL_add 4 = .ok (.invokevirtual 8, 3) := by decide +kernel
theorem dL_add_7 : decode cL_add 7 = .ok (.ireturn, 1) := by decide +kernel
theorem dL_add_8 : decode cL_add 8 = .ok (.astore 4, 2) := by decide +kernel
theorem dL_add_10 : decode cL_add 10 = .ok (.ldc 16, 2) := by decide +kernel
theorem dL_add_12 : decode cL_add 12 = .ok (.ireturn, 1) := by decide +kernel
theorem dL_add_13 : decode cL_add 13 = .ok (.astore 4, 2) := by decide +kernel
theorem dL_add_15 : decode cL_add 15 = .ok (.ldc 16, 2) := by decide +kernel
theorem dL_add_17 : decode cL_add 17 = .ok (.ireturn, 1) := by decide +kernel
theorem dL_sets_0 : decode cL_sets 0 = .ok (.iload_n 1, 1) := by decide +kernel
theorem dL_sets_1 : decode cL_sets 1 = .ok (.ifCond .ne 12, 3) := by decide +kernel
theorem dL_sets_4 : decode cL_sets 4 = .ok (.aload_n 0, 1) := by decide +kernel
theorem dL_sets_5 : decode cL_sets 5 = .ok (.iload_n 2, 1) := by decide +kernel
theorem dL_sets_6 : decode cL_sets 6 = .ok (.iload_n 3, 1) := by decide +kernel
theorem dL_sets_7 : decode cL_sets 7 = .ok (.invokevirtual 19, 3) := by decide +kernel
theorem dL_sets_10 : decode cL_sets 10 = .ok (.goto 49, 3) := by decide +kernel
theorem dL_sets_13 : decode cL_sets 13 = .ok (.iload_n 1, 1) := by decide +kernel
theorem dL_sets_14 : decode cL_sets 14 = .ok (.iconst 1, 1) := by decide +kernel
theorem dL_sets_15 : decode cL_sets 15 = .ok (.if_icmp .ne 14, 3) := by decide +kernel
theorem dL_sets_18 : decode cL_sets 18 = .ok (.aload_n 0, 1) := by decide +kernel
theorem dL_sets_19 : decode cL_sets 19 = .ok (.iload_n 2, 1) := by decide +kernel
theorem dL_sets_20 : decode cL_sets 20 = .ok (.invokevirtual 23, 3) := by decide +kernel
theorem dL_sets_23 : decode cL_sets 23 = .ok (.ifCond .eq 35, 3) := by decide +kernel
theorem dL_sets_26 : decode cL_sets 26 = .ok (.goto 28, 3) := by decide +kernel
theorem dL_sets_29 : decode cL_sets 29 = .ok (.iload_n 1, 1) := by decide +kernel
theorem dL_sets_30 : decode cL_sets 30 = .ok (.iconst 2, 1) := by decide +kernel
theorem dL_sets_31 : decode cL_sets 31 = .ok (.if_icmp .ne 14, 3) := by decide +kernel
theorem dL_sets_34 : decode cL_sets 34 = .ok (.aload_n 0, 1) := by decide +kernel
theorem dL_sets_35 : decode cL_sets 35 = .ok (.iload_n 2, 1) := by decide +kernel
theorem dL_sets_36 : decode cL_sets 36 = .ok (.invokevirtual 27, 3) := by decide +kernel
theorem dL_sets_39 : decode cL_sets 39 = .ok (.ifCond .eq 19, 3) := by decide +kernel
theorem dL_sets_42 : decode cL_sets 42 = .ok (.goto 12, 3) := by decide +kernel
theorem dL_sets_45 : decode cL_sets 45 = .ok (.aload_n 0, 1) := by decide +kernel
theorem dL_sets_46 : decode cL_sets 46 = .ok (.iload_n 2, 1) := by decide +kernel
theorem dL_sets_47 : decode cL_sets 47 = .ok (.iload_n 3, 1) := by decide +kernel
theorem dL_sets_48 : decode cL_sets 48 = .ok (.invokevirtual 30, 3) := by decide +kernel
theorem dL_sets_51 : decode cL_sets 51 = .ok (.ifCond .eq 7, 3) := by decide +kernel
theorem dL_sets_54 : decode cL_sets 54 = .ok (.iconst 1, 1) := by decide +kernel
theorem dL_sets_55 : decode cL_sets 55 = .ok (.goto 4, 3) := by decide +kernel
theorem dL_sets_58 : decode cL_sets 58 = .ok (.iconst 0, 1) := by decide +kernel
theorem dL_sets_59 : decode cL_sets 59 = .ok (.ireturn, 1) := by decide +kernel
theorem dL_sets_60 : decode cL_sets 60 = .ok (.astore 4, 2) := by decide +kernel
theorem dL_sets_62 : decode cL_sets 62 = .ok (.ldc 16, 2) := by decide +kernel
theorem dL_sets_64 : decode cL_sets 64 = .ok (.ireturn, 1) := by decide +kernel
theorem dL_starts_0 : decode cL_starts 0 = .ok (.iload_n 1, 1) := by decide +kernel
theorem dL_starts_1 : decode cL_starts 1 = .ok (.ifCond .ne 11, 3) := by decide +kernel
theorem dL_starts_4 : decode cL_starts 4 = .ok (.aload_n 0, 1) := by decide +kernel
theorem dL_starts_5 : decode cL_starts 5 = .ok (.iload_n 2, 1) := by decide +kernel
theorem dL_starts_6 : decode cL_starts 6 = .ok (.invokestatic 34, 3) := by decide +kernel
theorem dL_starts_9 : decode cL_starts 9 = .ok (.goto 23, 3) := by decide +kernel
theorem dL_starts_12 : decode cL_starts 12 = .ok (.iload_n 1, 1) := by decide +kernel
theorem dL_starts_13 : decode cL_starts 13 = .ok (.iconst 1, 1) := by decide +kernel
theorem dL_starts_14 : decode cL_starts 14 = .ok (.if_icmp .ne 12, 3) := by decide +kernel
theorem dL_starts_17 : decode cL_starts 17 = .ok (.aload_n 0, 1) := by decide +kernel
theorem dL_starts_18 : decode cL_starts 18 = .ok (.iload_n 2, 1) := by decide +kernel
theorem dL_starts_19 : decode cL_starts 19 = .ok (.iload_n 3, 1) := by decide +kernel
theorem dL_starts_20 : decode cL_starts 20 = .ok (.invokestatic 40, 3) := by decide +kernel
theorem dL_starts_23 : decode cL_starts 23 = .ok (.goto 9, 3) := by decide +kernel
theorem dL_starts_26 : decode cL_starts 26 = .ok (.aload_n 0, 1) := by decide +kernel
theorem dL_starts_27 : decode cL_starts 27 = .ok (.iload_n 2, 1) := by decide +kernel
theorem dL_starts_28 : decode cL_starts 28 = .ok (.iload_n 3, 1) := by decide +kernel
theorem dL_starts_29 : decode cL_starts 29 = .ok (.invokestatic 44, 3) := by decide +kernel
theorem dL_starts_32 : decode cL_starts 32 = .ok (.ireturn, 1) := by decide +kernel
theorem dL_starts_33 : decode cL_starts 33 = .ok (.astore 4, 2) := by decide +kernel
theorem dL_starts_35 : decode cL_starts 35 = .ok (.ldc 16, 2) := by decide +kernel
theorem dL_starts_37 : decode cL_starts 37 = .ok (.ireturn, 1) := by decide +kernel
theorem dL_begin_0 : decode cL_begin 0 = .ok (.aload_n 0, 1) := by decide +kernel
theorem dL_begin_1 : decode cL_begin 1 = .ok (.iload_n 1, 1) := by decide +kernel
theorem dL_begin_2 : decode cL_begin 2 = .ok (.invokevirtual 47, 3) := by decide +kernel
theorem dL_begin_5 : decode cL_begin 5 = .ok (.iconst 1, 1) := by decide +kernel
theorem dL_begin_6 : decode cL_begin 6 = .ok (.ireturn, 1) := by decide +kernel
theorem dL_startPaths_0 : decode cL_startPaths 0 = .ok (.aload_n 0, 1) := by decide +kernel
theorem dL_startPaths_1 : decode cL_startPaths 1 = .ok (.iload_n 1, 1) := by decide +kernel
theorem dL_startPaths_2 : decode cL_startPaths 2 = .ok (.iload_n 2, 1) := by decide +kernel
theorem dL_startPaths_3 : decode cL_startPaths 3 = .ok (.invokevirtual 50, 3) := by decide +kernel
theorem dL_startPaths_6 : decode cL_startPaths 6 = .ok (.iconst 1, 1) := by decide +kernel
theorem dL_startPaths_7 : decode cL_startPaths 7 = .ok (.ireturn, 1) := by decide +kernel
theorem dL_startWalks_0 : decode cL_startWalks 0 = .ok (.aload_n 0, 1) := by decide +kernel
theorem dL_startWalks_1 : decode cL_startWalks 1 = .ok (.iload_n 1, 1) := by decide +kernel
theorem dL_startWalks_2 : decode cL_startWalks 2 = .ok (.iload_n 2, 1) := by decide +kernel
theorem dL_startWalks_3 : decode cL_startWalks 3 = .ok (.invokevirtual 53, 3) := by decide +kernel
theorem dL_startWalks_6 : decode cL_startWalks 6 = .ok (.iconst 1, 1) := by decide +kernel
theorem dL_startWalks_7 : decode cL_startWalks 7 = .ok (.ireturn, 1) := by decide +kernel
theorem dL_draws_0 : decode cL_draws 0 = .ok (.iload_n 1, 1) := by decide +kernel
theorem dL_draws_1 : decode cL_draws 1 = .ok (.ifCond .ne 10, 3) := by decide +kernel
theorem dL_draws_4 : decode cL_draws 4 = .ok (.aload_n 0, 1) := by decide +kernel
theorem dL_draws_5 : decode cL_draws 5 = .ok (.invokevirtual 55, 3) := by decide +kernel
theorem dL_draws_8 : decode cL_draws 8 = .ok (.goto 82, 3) := by decide +kernel
theorem dL_draws_11 : decode cL_draws 11 = .ok (.iload_n 1, 1) := by decide +kernel
theorem dL_draws_12 : decode cL_draws 12 = .ok (.iconst 1, 1) := by decide +kernel
theorem dL_draws_13 : decode cL_draws 13 = .ok (.if_icmp .ne 10, 3) := by decide +kernel
theorem dL_draws_16 : decode cL_draws 16 = .ok (.aload_n 0, 1) := by decide +kernel
theorem dL_draws_17 : decode cL_draws 17 = .ok (.invokevirtual 59, 3) := by decide +kernel
theorem dL_draws_20 : decode cL_draws 20 = .ok (.goto 70, 3) := by decide +kernel
theorem dL_draws_23 : decode cL_draws 23 = .ok (.iload_n 1, 1) := by decide +kernel
theorem dL_draws_24 : decode cL_draws 24 = .ok (.iconst 2, 1) := by decide +kernel
theorem dL_draws_25 : decode cL_draws 25 = .ok (.if_icmp .ne 10, 3) := by decide +kernel
theorem dL_draws_28 : decode cL_draws 28 = .ok (.aload_n 0, 1) := by decide +kernel
theorem dL_draws_29 : decode cL_draws 29 = .ok (.invokevirtual 62, 3) := by decide +kernel
theorem dL_draws_32 : decode cL_draws 32 = .ok (.goto 58, 3) := by decide +kernel
theorem dL_draws_35 : decode cL_draws 35 = .ok (.iload_n 1, 1) := by decide +kernel
theorem dL_draws_36 : decode cL_draws 36 = .ok (.iconst 3, 1) := by decide +kernel
theorem dL_draws_37 : decode cL_draws 37 = .ok (.if_icmp .ne 11, 3) := by decide +kernel
theorem dL_draws_40 : decode cL_draws 40 = .ok (.aload_n 0, 1) := by decide +kernel
theorem dL_draws_41 : decode cL_draws 41 = .ok (.iload_n 2, 1) := by decide +kernel
theorem dL_draws_42 : decode cL_draws 42 = .ok (.invokevirtual 65, 3) := by decide +kernel
theorem dL_draws_45 : decode cL_draws 45 = .ok (.goto 45, 3) := by decide +kernel
theorem dL_draws_48 : decode cL_draws 48 = .ok (.iload_n 1, 1) := by decide +kernel
theorem dL_draws_49 : decode cL_draws 49 = .ok (.iconst 4, 1) := by decide +kernel
theorem dL_draws_50 : decode cL_draws 50 = .ok (.if_icmp .ne 10, 3) := by decide +kernel
theorem dL_draws_53 : decode cL_draws 53 = .ok (.aload_n 0, 1) := by decide +kernel
theorem dL_draws_54 : decode cL_draws 54 = .ok (.invokevirtual 69, 3) := by decide +kernel
theorem dL_draws_57 : decode cL_draws 57 = .ok (.goto 33, 3) := by decide +kernel
theorem dL_draws_60 : decode cL_draws 60 = .ok (.iload_n 1, 1) := by decide +kernel
theorem dL_draws_61 : decode cL_draws 61 = .ok (.iconst 5, 1) := by decide +kernel
theorem dL_draws_62 : decode cL_draws 62 = .ok (.if_icmp .ne 10, 3) := by decide +kernel
theorem dL_draws_65 : decode cL_draws 65 = .ok (.aload_n 0, 1) := by decide +kernel
theorem dL_draws_66 : decode cL_draws 66 = .ok (.invokevirtual 72, 3) := by decide +kernel
theorem dL_draws_69 : decode cL_draws 69 = .ok (.goto 21, 3) := by decide +kernel
theorem dL_draws_72 : decode cL_draws 72 = .ok (.iload_n 1, 1) := by decide +kernel
theorem dL_draws_73 : decode cL_draws 73 = .ok (.bipush 6, 2) := by decide +kernel
theorem dL_draws_75 : decode cL_draws 75 = .ok (.if_icmp .ne 10, 3) := by decide +kernel
theorem dL_draws_78 : decode cL_draws 78 = .ok (.aload_n 0, 1) := by decide +kernel
theorem dL_draws_79 : decode cL_draws 79 = .ok (.invokevirtual 75, 3) := by decide +kernel
theorem dL_draws_82 : decode cL_draws 82 = .ok (.goto 8, 3) := by decide +kernel
theorem dL_draws_85 : decode cL_draws 85 = .ok (.aload_n 0, 1) := by decide +kernel
theorem dL_draws_86 : decode cL_draws 86 = .ok (.iload_n 2, 1) := by decide +kernel
theorem dL_draws_87 : decode cL_draws 87 = .ok (.invokevirtual 78, 3) := by decide +kernel
theorem dL_draws_90 : decode cL_draws 90 = .ok (.ireturn, 1) := by decide +kernel
theorem dL_draws_91 : decode cL_draws 91 = .ok (.astore_n 3, 1) := by decide +kernel
theorem dL_draws_92 : decode cL_draws 92 = .ok (.ldc 16, 2) := by decide +kernel
theorem dL_draws_94 : decode cL_draws 94 = .ok (.ireturn, 1) := by decide +kernel
theorem dL_draws_95 : decode cL_draws 95 = .ok (.astore_n 3, 1) := by decide +kernel
theorem dL_draws_96 : decode cL_draws 96 = .ok (.ldc 83, 2) := by decide +kernel
theorem dL_draws_98 : decode cL_draws 98 = .ok (.ireturn, 1) := by decide +kernel
theorem dL_asks_0 : decode cL_asks 0 = .ok (.iload_n 1, 1) := by decide +kernel
theorem dL_asks_1 : decode cL_asks 1 = .ok (.ifCond .ne 12, 3) := by decide +kernel
theorem dL_asks_4 : decode cL_asks 4 = .ok (.aload_n 0, 1) := by decide +kernel
theorem dL_asks_5 : decode cL_asks 5 = .ok (.iload_n 2, 1) := by decide +kernel
theorem dL_asks_6 : decode cL_asks 6 = .ok (.iload_n 3, 1) := by decide +kernel
theorem dL_asks_7 : decode cL_asks 7 = .ok (.invokevirtual 84, 3) := by decide +kernel
theorem dL_asks_10 : decode cL_asks 10 = .ok (.goto 65, 3) := by decide +kernel
theorem dL_asks_13 : decode cL_asks 13 = .ok (.iload_n 1, 1) := by decide +kernel
theorem dL_asks_14 : decode cL_asks 14 = .ok (.iconst 1, 1) := by decide +kernel
theorem dL_asks_15 : decode cL_asks 15 = .ok (.if_icmp .ne 12, 3) := by decide +kernel
theorem dL_asks_18 : decode cL_asks 18 = .ok (.aload_n 0, 1) := by decide +kernel
theorem dL_asks_19 : decode cL_asks 19 = .ok (.iload_n 2, 1) := by decide +kernel
theorem dL_asks_20 : decode cL_asks 20 = .ok (.iload_n 3, 1) := by decide +kernel
theorem dL_asks_21 : decode cL_asks 21 = .ok (.invokevirtual 87, 3) := by decide +kernel
theorem dL_asks_24 : decode cL_asks 24 = .ok (.goto 51, 3) := by decide +kernel
theorem dL_asks_27 : decode cL_asks 27 = .ok (.iload_n 1, 1) := by decide +kernel
theorem dL_asks_28 : decode cL_asks 28 = .ok (.iconst 2, 1) := by decide +kernel
theorem dL_asks_29 : decode cL_asks 29 = .ok (.if_icmp .ne 12, 3) := by decide +kernel
theorem dL_asks_32 : decode cL_asks 32 = .ok (.aload_n 0, 1) := by decide +kernel
theorem dL_asks_33 : decode cL_asks 33 = .ok (.iload_n 2, 1) := by decide +kernel
theorem dL_asks_34 : decode cL_asks 34 = .ok (.iload_n 3, 1) := by decide +kernel
theorem dL_asks_35 : decode cL_asks 35 = .ok (.invokevirtual 90, 3) := by decide +kernel
theorem dL_asks_38 : decode cL_asks 38 = .ok (.goto 37, 3) := by decide +kernel
theorem dL_asks_41 : decode cL_asks 41 = .ok (.iload_n 1, 1) := by decide +kernel
theorem dL_asks_42 : decode cL_asks 42 = .ok (.iconst 3, 1) := by decide +kernel
theorem dL_asks_43 : decode cL_asks 43 = .ok (.if_icmp .ne 14, 3) := by decide +kernel
theorem dL_asks_46 : decode cL_asks 46 = .ok (.aload_n 0, 1) := by decide +kernel
theorem dL_asks_47 : decode cL_asks 47 = .ok (.iload_n 2, 1) := by decide +kernel
theorem dL_asks_48 : decode cL_asks 48 = .ok (.iload_n 3, 1) := by decide +kernel
theorem dL_asks_49 : decode cL_asks 49 = .ok (.iload 4, 2) := by decide +kernel
theorem dL_asks_51 : decode cL_asks 51 = .ok (.invokevirtual 93, 3) := by decide +kernel
theorem dL_asks_54 : decode cL_asks 54 = .ok (.goto 21, 3) := by decide +kernel
theorem dL_asks_57 : decode cL_asks 57 = .ok (.aload_n 0, 1) := by decide +kernel
theorem dL_asks_58 : decode cL_asks 58 = .ok (.iload_n 2, 1) := by decide +kernel
theorem dL_asks_59 : decode cL_asks 59 = .ok (.iload_n 3, 1) := by decide +kernel
theorem dL_asks_60 : decode cL_asks 60 = .ok (.iload 4, 2) := by decide +kernel
theorem dL_asks_62 : decode cL_asks 62 = .ok (.iload_n 1, 1) := by decide +kernel
theorem dL_asks_63 : decode cL_asks 63 = .ok (.iconst 5, 1) := by decide +kernel
theorem dL_asks_64 : decode cL_asks 64 = .ok (.if_icmp .ne 7, 3) := by decide +kernel
theorem dL_asks_67 : decode cL_asks 67 = .ok (.iconst 1, 1) := by decide +kernel
theorem dL_asks_68 : decode cL_asks 68 = .ok (.goto 4, 3) := by decide +kernel
theorem dL_asks_71 : decode cL_asks 71 = .ok (.iconst 0, 1) := by decide +kernel
theorem dL_asks_72 : decode cL_asks 72 = .ok (.invokevirtual 96, 3) := by decide +kernel
theorem dL_asks_75 : decode cL_asks 75 = .ok (.ireturn, 1) := by decide +kernel
theorem dL_asks_76 : decode cL_asks 76 = .ok (.astore 5, 2) := by decide +kernel
theorem dL_asks_78 : decode cL_asks 78 = .ok (.ldc 16, 2) := by decide +kernel
theorem dL_asks_80 : decode cL_asks 80 = .ok (.ireturn, 1) := by decide +kernel
theorem dL_asks_81 : decode cL_asks 81 = .ok (.astore 5, 2) := by decide +kernel
theorem dL_asks_83 : decode cL_asks 83 = .ok (.ldc 83, 2) := by decide +kernel
theorem dL_asks_85 : decode cL_asks 85 = .ok (.ireturn, 1) := by decide +kernel
theorem dL_act_0 : decode cL_act 0 = .ok (.iload_n 1, 1) := by decide +kernel
theorem dL_act_1 : decode cL_act 1 = .ok (.bipush 24, 2) := by decide +kernel
theorem dL_act_3 : decode cL_act 3 = .ok (.ishr, 1) := by decide +kernel
theorem dL_act_4 : decode cL_act 4 = .ok (.bipush 8, 2) := by decide +kernel
theorem dL_act_6 : decode cL_act 6 = .ok (.invokestatic 100, 3) := by decide +kernel
theorem dL_act_9 : decode cL_act 9 = .ok (.ifCond .ne 7, 3) := by decide +kernel
theorem dL_act_12 : decode cL_act 12 = .ok (.iconst 1, 1) := by decide +kernel
theorem dL_act_13 : decode cL_act 13 = .ok (.goto 4, 3) := by decide +kernel
theorem dL_act_16 : decode cL_act 16 = .ok (.iconst 0, 1) := by decide +kernel
theorem dL_act_17 : decode cL_act 17 = .ok (.istore_n 2, 1) := by decide +kernel
theorem dL_act_18 : decode cL_act 18 = .ok (.iload_n 1, 1) := by decide +kernel
theorem dL_act_19 : decode cL_act 19 = .ok (.iconst 3, 1) := by decide +kernel
theorem dL_act_20 : decode cL_act 20 = .ok (.ishr, 1) := by decide +kernel
theorem dL_act_21 : decode cL_act 21 = .ok (.iload_n 2, 1) := by decide +kernel
theorem dL_act_22 : decode cL_act 22 = .ok (.ifCond .eq 8, 3) := by decide +kernel
theorem dL_act_25 : decode cL_act 25 = .ok (.bipush 13, 2) := by decide +kernel
theorem dL_act_27 : decode cL_act 27 = .ok (.goto 7, 3) := by decide +kernel
theorem dL_act_30 : decode cL_act 30 = .ok (.aload_n 0, 1) := by decide +kernel
theorem dL_act_31 : decode cL_act 31 = .ok (.invokevirtual 103, 3) := by decide +kernel
theorem dL_act_34 : decode cL_act 34 = .ok (.invokestatic 100, 3) := by decide +kernel
theorem dL_act_37 : decode cL_act 37 = .ok (.istore_n 3, 1) := by decide +kernel
theorem dL_act_38 : decode cL_act 38 = .ok (.iload_n 2, 1) := by decide +kernel
theorem dL_act_39 : decode cL_act 39 = .ok (.ifCond .eq 15, 3) := by decide +kernel
theorem dL_act_42 : decode cL_act 42 = .ok (.iload_n 1, 1) := by decide +kernel
theorem dL_act_43 : decode cL_act 43 = .ok (.bipush 6, 2) := by decide +kernel
theorem dL_act_45 : decode cL_act 45 = .ok (.ishr, 1) := by decide +kernel
theorem dL_act_46 : decode cL_act 46 = .ok (.bipush 13, 2) := by decide +kernel
theorem dL_act_48 : decode cL_act 48 = .ok (.invokestatic 100, 3) := by decide +kernel
theorem dL_act_51 : decode cL_act 51 = .ok (.goto 25, 3) := by decide +kernel
theorem dL_act_54 : decode cL_act 54 = .ok (.iload_n 3, 1) := by decide +kernel
theorem dL_act_55 : decode cL_act 55 = .ok (.iconst 1, 1) := by decide +kernel
theorem dL_act_56 : decode cL_act 56 = .ok (.iadd, 1) := by decide +kernel
theorem dL_act_57 : decode cL_act 57 = .ok (.iload_n 1, 1) := by decide +kernel
theorem dL_act_58 : decode cL_act 58 = .ok (.bipush 6, 2) := by decide +kernel
theorem dL_act_60 : decode cL_act 60 = .ok (.ishr, 1) := by decide +kernel
theorem dL_act_61 : decode cL_act 61 = .ok (.aload_n 0, 1) := by decide +kernel
theorem dL_act_62 : decode cL_act 62 = .ok (.invokevirtual 103, 3) := by decide +kernel
theorem dL_act_65 : decode cL_act 65 = .ok (.iconst 1, 1) := by decide +kernel
theorem dL_act_66 : decode cL_act 66 = .ok (.isub, 1) := by decide +kernel
theorem dL_act_67 : decode cL_act 67 = .ok (.invokestatic 100, 3) := by decide +kernel
theorem dL_act_70 : decode cL_act 70 = .ok (.iadd, 1) := by decide +kernel
theorem dL_act_71 : decode cL_act 71 = .ok (.aload_n 0, 1) := by decide +kernel
theorem dL_act_72 : decode cL_act 72 = .ok (.invokevirtual 103, 3) := by decide +kernel
theorem dL_act_75 : decode cL_act 75 = .ok (.irem, 1) := by decide +kernel
theorem dL_act_76 : decode cL_act 76 = .ok (.istore 4, 2) := by decide +kernel
theorem dL_act_78 : decode cL_act 78 = .ok (.iload_n 1, 1) := by decide +kernel
theorem dL_act_79 : decode cL_act 79 = .ok (.iconst 5, 1) := by decide +kernel
theorem dL_act_80 : decode cL_act 80 = .ok (.ishr, 1) := by decide +kernel
theorem dL_act_81 : decode cL_act 81 = .ok (.iload_n 2, 1) := by decide +kernel
theorem dL_act_82 : decode cL_act 82 = .ok (.ifCond .eq 8, 3) := by decide +kernel
theorem dL_act_85 : decode cL_act 85 = .ok (.bipush 30, 2) := by decide +kernel
theorem dL_act_87 : decode cL_act 87 = .ok (.goto 9, 3) := by decide +kernel
theorem dL_act_90 : decode cL_act 90 = .ok (.aload_n 0, 1) := by decide +kernel
theorem dL_act_91 : decode cL_act 91 = .ok (.invokevirtual 106, 3) := by decide +kernel
theorem dL_act_94 : decode cL_act 94 = .ok (.iconst 1, 1) := by decide +kernel
theorem dL_act_95 : decode cL_act 95 = .ok (.iadd, 1) := by decide +kernel
theorem dL_act_96 : decode cL_act 96 = .ok (.invokestatic 100, 3) := by decide +kernel
theorem dL_act_99 : decode cL_act 99 = .ok (.istore 5, 2) := by decide +kernel
theorem dL_act_101 : decode cL_act 101 = .ok (.iload_n 1, 1) := by decide +kernel
theorem dL_act_102 : decode cL_act 102 = .ok (.bipush 24, 2) := by decide +kernel
theorem dL_act_104 : decode cL_act 104 = .ok (.invokestatic 100, 3) := by decide +kernel
theorem dL_act_107 : decode cL_act 107 = .ok (.istore 6, 2) := by decide +kernel
theorem dL_act_109 : decode cL_act 109 = .ok (.iload 6, 2) := by decide +kernel
theorem dL_act_111 : decode cL_act 111 = .ok (.bipush 9, 2) := by decide +kernel
theorem dL_act_113 : decode cL_act 113 = .ok (.if_icmp .ge 40, 3) := by decide +kernel
theorem dL_act_116 : decode cL_act 116 = .ok (.aload_n 0, 1) := by decide +kernel
theorem dL_act_117 : decode cL_act 117 = .ok (.iload_n 3, 1) := by decide +kernel
theorem dL_act_118 : decode cL_act 118 = .ok (.iload 4, 2) := by decide +kernel
theorem dL_act_120 : decode cL_act 120 = .ok (.iload_n 1, 1) := by decide +kernel
theorem dL_act_121 : decode cL_act 121 = .ok (.bipush 9, 2) := by decide +kernel
theorem dL_act_123 : decode cL_act 123 = .ok (.ishr, 1) := by decide +kernel
theorem dL_act_124 : decode cL_act 124 = .ok (.iload_n 2, 1) := by decide +kernel
theorem dL_act_125 : decode cL_act 125 = .ok (.ifCond .eq 9, 3) := by decide +kernel
theorem dL_act_128 : decode cL_act 128 = .ok (.sipush 1100, 3) := by decide +kernel
theorem dL_act_131 : decode cL_act 131 = .ok (.goto 5, 3) := by decide +kernel
theorem dL_act_134 : decode cL_act 134 = .ok (.bipush 30, 2) := by decide +kernel
theorem dL_act_136 : decode cL_act 136 = .ok (.invokestatic 100, 3) := by decide +kernel
theorem dL_act_139 : decode cL_act 139 = .ok (.iload_n 2, 1) := by decide +kernel
theorem dL_act_140 : decode cL_act 140 = .ok (.ifCond .eq 7, 3) := by decide +kernel
theorem dL_act_143 : decode cL_act 143 = .ok (.iconst 0, 1) := by decide +kernel
theorem dL_act_144 : decode cL_act 144 = .ok (.goto 4, 3) := by decide +kernel
theorem dL_act_147 : decode cL_act 147 = .ok (.iconst 1, 1) := by decide +kernel
theorem dL_act_148 : decode cL_act 148 = .ok (.iadd, 1) := by decide +kernel
theorem dL_act_149 : decode cL_act 149 = .ok (.invokestatic 109, 3) := by decide +kernel
theorem dL_act_152 : decode cL_act 152 = .ok (.ireturn, 1) := by decide +kernel
theorem dL_act_153 : decode cL_act 153 = .ok (.iload 6, 2) := by decide +kernel
theorem dL_act_155 : decode cL_act 155 = .ok (.bipush 9, 2) := by decide +kernel
theorem dL_act_157 : decode cL_act 157 = .ok (.if_icmp .ne 53, 3) := by decide +kernel
theorem dL_act_160 : decode cL_act 160 = .ok (.aload_n 0, 1) := by decide +kernel
theorem dL_act_161 : decode cL_act 161 = .ok (.iconst 0, 1) := by decide +kernel
theorem dL_act_162 : decode cL_act 162 = .ok (.iload_n 1, 1) := by decide +kernel
theorem dL_act_163 : decode cL_act 163 = .ok (.bipush 9, 2) := by decide +kernel
theorem dL_act_165 : decode cL_act 165 = .ok (.ishr, 1) := by decide +kernel
theorem dL_act_166 : decode cL_act 166 = .ok (.bipush 6, 2) := by decide +kernel
theorem dL_act_168 : decode cL_act 168 = .ok (.invokestatic 100, 3) := by decide +kernel
theorem dL_act_171 : decode cL_act 171 = .ok (.ifCond .ne 33, 3) := by decide +kernel
theorem dL_act_174 : decode cL_act 174 = .ok (.iload_n 1, 1) := by decide +kernel
theorem dL_act_175 : decode cL_act 175 = .ok (.iconst 4, 1) := by decide +kernel
theorem dL_act_176 : decode cL_act 176 = .ok (.ishr, 1) := by decide +kernel
theorem dL_act_177 : decode cL_act 177 = .ok (.iload_n 2, 1) := by decide +kernel
theorem dL_act_178 : decode cL_act 178 = .ok (.ifCond .eq 8, 3) := by decide +kernel
theorem dL_act_181 : decode cL_act 181 = .ok (.bipush 14, 2) := by decide +kernel
theorem dL_act_183 : decode cL_act 183 = .ok (.goto 5, 3) := by decide +kernel
theorem dL_act_186 : decode cL_act 186 = .ok (.bipush 9, 2) := by decide +kernel
theorem dL_act_188 : decode cL_act 188 = .ok (.invokestatic 100, 3) := by decide +kernel
theorem dL_act_191 : decode cL_act 191 = .ok (.iload_n 2, 1) := by decide +kernel
theorem dL_act_192 : decode cL_act 192 = .ok (.ifCond .eq 7, 3) := by decide +kernel
theorem dL_act_195 : decode cL_act 195 = .ok (.iconst 0, 1) := by decide +kernel
theorem dL_act_196 : decode cL_act 196 = .ok (.goto 4, 3) := by decide +kernel
theorem dL_act_199 : decode cL_act 199 = .ok (.iconst 2, 1) := by decide +kernel
theorem dL_act_200 : decode cL_act 200 = .ok (.iadd, 1) := by decide +kernel
theorem dL_act_201 : decode cL_act 201 = .ok (.goto 4, 3) := by decide +kernel
theorem dL_act_204 : decode cL_act 204 = .ok (.iconst 0, 1) := by decide +kernel
theorem dL_act_205 : decode cL_act 205 = .ok (.iconst 0, 1) := by decide +kernel
theorem dL_act_206 : decode cL_act 206 = .ok (.invokestatic 113, 3) := by decide +kernel
theorem dL_act_209 : decode cL_act 209 = .ok (.ireturn, 1) := by decide +kernel
theorem dL_act_210 : decode cL_act 210 = .ok (.iload 6, 2) := by decide +kernel
theorem dL_act_212 : decode cL_act 212 = .ok (.bipush 12, 2) := by decide +kernel
theorem dL_act_214 : decode cL_act 214 = .ok (.if_icmp .ge 40, 3) := by decide +kernel
theorem dL_act_217 : decode cL_act 217 = .ok (.aload_n 0, 1) := by decide +kernel
theorem dL_act_218 : decode cL_act 218 = .ok (.iconst 0, 1) := by decide +kernel
theorem dL_act_219 : decode cL_act 219 = .ok (.iload 5, 2) := by decide +kernel
theorem dL_act_221 : decode cL_act 221 = .ok (.iload_n 1, 1) := by decide +kernel
theorem dL_act_222 : decode cL_act 222 = .ok (.bipush 9, 2) := by decide +kernel
theorem dL_act_224 : decode cL_act 224 = .ok (.ishr, 1) := by decide +kernel
theorem dL_act_225 : decode cL_act 225 = .ok (.iload_n 2, 1) := by decide +kernel
theorem dL_act_226 : decode cL_act 226 = .ok (.ifCond .eq 9, 3) := by decide +kernel
theorem dL_act_229 : decode cL_act 229 = .ok (.sipush 1100, 3) := by decide +kernel
theorem dL_act_232 : decode cL_act 232 = .ok (.goto 5, 3) := by decide +kernel
theorem dL_act_235 : decode cL_act 235 = .ok (.bipush 30, 2) := by decide +kernel
theorem dL_act_237 : decode cL_act 237 = .ok (.invokestatic 100, 3) := by decide +kernel
theorem dL_act_240 : decode cL_act 240 = .ok (.iload_n 2, 1) := by decide +kernel
theorem dL_act_241 : decode cL_act 241 = .ok (.ifCond .eq 7, 3) := by decide +kernel
theorem dL_act_244 : decode cL_act 244 = .ok (.iconst 0, 1) := by decide +kernel
theorem dL_act_245 : decode cL_act 245 = .ok (.goto 4, 3) := by decide +kernel
theorem dL_act_248 : decode cL_act 248 = .ok (.iconst 1, 1) := by decide +kernel
theorem dL_act_249 : decode cL_act 249 = .ok (.iadd, 1) := by decide +kernel
theorem dL_act_250 : decode cL_act 250 = .ok (.invokestatic 116, 3) := by decide +kernel
theorem dL_act_253 : decode cL_act 253 = .ok (.ireturn, 1) := by decide +kernel
theorem dL_act_254 : decode cL_act 254 = .ok (.iload 6, 2) := by decide +kernel
theorem dL_act_256 : decode cL_act 256 = .ok (.bipush 16, 2) := by decide +kernel
theorem dL_act_258 : decode cL_act 258 = .ok (.if_icmp .ge 34, 3) := by decide +kernel
theorem dL_act_261 : decode cL_act 261 = .ok (.aload_n 0, 1) := by decide +kernel
theorem dL_act_262 : decode cL_act 262 = .ok (.iload 6, 2) := by decide +kernel
theorem dL_act_264 : decode cL_act 264 = .ok (.bipush 14, 2) := by decide +kernel
theorem dL_act_266 : decode cL_act 266 = .ok (.if_icmp .ge 7, 3) := by decide +kernel
theorem dL_act_269 : decode cL_act 269 = .ok (.iconst 1, 1) := by decide +kernel
theorem dL_act_270 : decode cL_act 270 = .ok (.goto 4, 3) := by decide +kernel
theorem dL_act_273 : decode cL_act 273 = .ok (.iconst 2, 1) := by decide +kernel
theorem dL_act_274 : decode cL_act 274 = .ok (.iload 6, 2) := by decide +kernel
theorem dL_act_276 : decode cL_act 276 = .ok (.bipush 14, 2) := by decide +kernel
theorem dL_act_278 : decode cL_act 278 = .ok (.if_icmp .ge 8, 3) := by decide +kernel
theorem dL_act_281 : decode cL_act 281 = .ok (.iload 5, 2) := by decide +kernel
theorem dL_act_283 : decode cL_act 283 = .ok (.goto 4, 3) := by decide +kernel
theorem dL_act_286 : decode cL_act 286 = .ok (.iload_n 3, 1) := by decide +kernel
theorem dL_act_287 : decode cL_act 287 = .ok (.iconst 0, 1) := by decide +kernel
theorem dL_act_288 : decode cL_act 288 = .ok (.invokestatic 116, 3) := by decide +kernel
theorem dL_act_291 : decode cL_act 291 = .ok (.ireturn, 1) := by decide +kernel
theorem dL_act_292 : decode cL_act 292 = .ok (.iload 6, 2) := by decide +kernel
theorem dL_act_294 : decode cL_act 294 = .ok (.bipush 18, 2) := by decide +kernel
theorem dL_act_296 : decode cL_act 296 = .ok (.if_icmp .ge 20, 3) := by decide +kernel
theorem dL_act_299 : decode cL_act 299 = .ok (.aload_n 0, 1) := by decide +kernel
theorem dL_act_300 : decode cL_act 300 = .ok (.iconst 3, 1) := by decide +kernel
theorem dL_act_301 : decode cL_act 301 = .ok (.iload 5, 2) := by decide +kernel
theorem dL_act_303 : decode cL_act 303 = .ok (.iload_n 1, 1) := by decide +kernel
theorem dL_act_304 : decode cL_act 304 = .ok (.bipush 10, 2) := by decide +kernel
theorem dL_act_306 : decode cL_act 306 = .ok (.ishr, 1) := by decide +kernel
theorem dL_act_307 : decode cL_act 307 = .ok (.bipush 24, 2) := by decide +kernel
theorem dL_act_309 : decode cL_act 309 = .ok (.invokestatic 100, 3) := by decide +kernel
theorem dL_act_312 : decode cL_act 312 = .ok (.invokestatic 116, 3) := by decide +kernel
theorem dL_act_315 : decode cL_act 315 = .ok (.ireturn, 1) := by decide +kernel
theorem dL_act_316 : decode cL_act 316 = .ok (.iload 6, 2) := by decide +kernel
theorem dL_act_318 : decode cL_act 318 = .ok (.bipush 20, 2) := by decide +kernel
theorem dL_act_320 : decode cL_act 320 = .ok (.if_icmp .ge 18, 3) := by decide +kernel
theorem dL_act_323 : decode cL_act 323 = .ok (.aload_n 0, 1) := by decide +kernel
theorem dL_act_324 : decode cL_act 324 = .ok (.iload 6, 2) := by decide +kernel
theorem dL_act_326 : decode cL_act 326 = .ok (.bipush 17, 2) := by decide +kernel
theorem dL_act_328 : decode cL_act 328 = .ok (.isub, 1) := by decide +kernel
theorem dL_act_329 : decode cL_act 329 = .ok (.iload_n 3, 1) := by decide +kernel
theorem dL_act_330 : decode cL_act 330 = .ok (.iload 4, 2) := by decide +kernel
theorem dL_act_332 : decode cL_act 332 = .ok (.invokestatic 113, 3) := by decide +kernel
theorem dL_act_335 : decode cL_act 335 = .ok (.goto 22, 3) := by decide +kernel
theorem dL_act_338 : decode cL_act 338 = .ok (.aload_n 0, 1) := by decide +kernel
theorem dL_act_339 : decode cL_act 339 = .ok (.iload 6, 2) := by decide +kernel
theorem dL_act_341 : decode cL_act 341 = .ok (.bipush 22, 2) := by decide +kernel
theorem dL_act_343 : decode cL_act 343 = .ok (.if_icmp .ge 7, 3) := by decide +kernel
theorem dL_act_346 : decode cL_act 346 = .ok (.iconst 0, 1) := by decide +kernel
theorem dL_act_347 : decode cL_act 347 = .ok (.goto 4, 3) := by decide +kernel
theorem dL_act_350 : decode cL_act 350 = .ok (.iconst 4, 1) := by decide +kernel
theorem dL_act_351 : decode cL_act 351 = .ok (.iconst 0, 1) := by decide +kernel
theorem dL_act_352 : decode cL_act 352 = .ok (.invokestatic 119, 3) := by decide +kernel
theorem dL_act_355 : decode cL_act 355 = .ok (.iconst 1, 1) := by decide +kernel
theorem dL_act_356 : decode cL_act 356 = .ok (.iadd, 1) := by decide +kernel
theorem dL_act_357 : decode cL_act 357 = .ok (.ireturn, 1) := by decide +kernel
theorem dL_areAlike_0 : decode cL_areAlike 0 = .ok (.iload_n 2, 1) := by decide +kernel
theorem dL_areAlike_1 : decode cL_areAlike 1 = .ok (.aload_n 0, 1) := by decide +kernel
theorem dL_areAlike_2 : decode cL_areAlike 2 = .ok (.invokevirtual 103, 3) := by decide +kernel
theorem dL_areAlike_5 : decode cL_areAlike 5 = .ok (.invokestatic 100, 3) := by decide +kernel
theorem dL_areAlike_8 : decode cL_areAlike 8 = .ok (.istore_n 3, 1) := by decide +kernel
theorem dL_areAlike_9 : decode cL_areAlike 9 = .ok (.iload_n 2, 1) := by decide +kernel
theorem dL_areAlike_10 : decode cL_areAlike 10 = .ok (.iconst 4, 1) := by decide +kernel
theorem dL_areAlike_11 : decode cL_areAlike 11 = .ok (.ishr, 1) := by decide +kernel
theorem dL_areAlike_12 : decode cL_areAlike 12 = .ok (.aload_n 0, 1) := by decide +kernel
theorem dL_areAlike_13 : decode cL_areAlike 13 = .ok (.invokevirtual 103, 3) := by decide +kernel
theorem dL_areAlike_16 : decode cL_areAlike 16 = .ok (.invokestatic 100, 3) := by decide +kernel
theorem dL_areAlike_19 : decode cL_areAlike 19 = .ok (.istore 4, 2) := by decide +kernel
theorem dL_areAlike_21 : decode cL_areAlike 21 = .ok (.aload_n 0, 1) := by decide +kernel
theorem dL_areAlike_22 : decode cL_areAlike 22 = .ok (.invokevirtual 103, 3) := by decide +kernel
theorem dL_areAlike_25 : decode cL_areAlike 25 = .ok (.aload_n 1, 1) := by decide +kernel
theorem dL_areAlike_26 : decode cL_areAlike 26 = .ok (.invokevirtual 103, 3) := by decide +kernel
theorem dL_areAlike_29 : decode cL_areAlike 29 = .ok (.if_icmp .ne 29, 3) := by decide +kernel
theorem dL_areAlike_32 : decode cL_areAlike 32 = .ok (.aload_n 0, 1) := by decide +kernel
theorem dL_areAlike_33 : decode cL_areAlike 33 = .ok (.invokevirtual 106, 3) := by decide +kernel
theorem dL_areAlike_36 : decode cL_areAlike 36 = .ok (.aload_n 1, 1) := by decide +kernel
theorem dL_areAlike_37 : decode cL_areAlike 37 = .ok (.invokevirtual 106, 3) := by decide +kernel
theorem dL_areAlike_40 : decode cL_areAlike 40 = .ok (.if_icmp .ne 18, 3) := by decide +kernel
theorem dL_areAlike_43 : decode cL_areAlike 43 = .ok (.aload_n 0, 1) := by decide +kernel
theorem dL_areAlike_44 : decode cL_areAlike 44 = .ok (.invokevirtual 122, 3) := by decide +kernel
theorem dL_areAlike_47 : decode cL_areAlike 47 = .ok (.aload_n 1, 1) := by decide +kernel
theorem dL_areAlike_48 : decode cL_areAlike 48 = .ok (.invokevirtual 122, 3) := by decide +kernel
theorem dL_areAlike_51 : decode cL_areAlike 51 = .ok (.if_icmp .ne 7, 3) := by decide +kernel
theorem dL_areAlike_54 : decode cL_areAlike 54 = .ok (.iconst 1, 1) := by decide +kernel
theorem dL_areAlike_55 : decode cL_areAlike 55 = .ok (.goto 4, 3) := by decide +kernel
theorem dL_areAlike_58 : decode cL_areAlike 58 = .ok (.iconst 0, 1) := by decide +kernel
theorem dL_areAlike_59 : decode cL_areAlike 59 = .ok (.istore 5, 2) := by decide +kernel
theorem dL_areAlike_61 : decode cL_areAlike 61 = .ok (.iconst 1, 1) := by decide +kernel
theorem dL_areAlike_62 : decode cL_areAlike 62 = .ok (.istore 6, 2) := by decide +kernel
theorem dL_areAlike_64 : decode cL_areAlike 64 = .ok (.iload 6, 2) := by decide +kernel
theorem dL_areAlike_66 : decode cL_areAlike 66 = .ok (.bipush 8, 2) := by decide +kernel
theorem dL_areAlike_68 : decode cL_areAlike 68 = .ok (.if_icmp .ge 44, 3) := by decide +kernel
theorem dL_areAlike_71 : decode cL_areAlike 71 = .ok (.iload 5, 2) := by decide +kernel
theorem dL_areAlike_73 : decode cL_areAlike 73 = .ok (.ifCond .eq 39, 3) := by decide +kernel
theorem dL_areAlike_76 : decode cL_areAlike 76 = .ok (.iload 6, 2) := by decide +kernel
theorem dL_areAlike_78 : decode cL_areAlike 78 = .ok (.iconst 4, 1) := by decide +kernel
theorem dL_areAlike_79 : decode cL_areAlike 79 = .ok (.if_icmp .eq 20, 3) := by decide +kernel
theorem dL_areAlike_82 : decode cL_areAlike 82 = .ok (.aload_n 0, 1) := by decide +kernel
theorem dL_areAlike_83 : decode cL_areAlike 83 = .ok (.iload 6, 2) := by decide +kernel
theorem dL_areAlike_85 : decode cL_areAlike 85 = .ok (.iconst 0, 1) := by decide +kernel
theorem dL_areAlike_86 : decode cL_areAlike 86 = .ok (.invokestatic 119, 3) := by decide +kernel
theorem dL_areAlike_89 : decode cL_areAlike 89 = .ok (.aload_n 1, 1) := by decide +kernel
theorem dL_areAlike_90 : decode cL_areAlike 90 = .ok (.iload 6, 2) := by decide +kernel
theorem dL_areAlike_92 : decode cL_areAlike 92 = .ok (.iconst 0, 1) := by decide +kernel
theorem dL_areAlike_93 : decode cL_areAlike 93 = .ok (.invokestatic 119, 3) := by decide +kernel
theorem dL_areAlike_96 : decode cL_areAlike 96 = .ok (.if_icmp .ne 7, 3) := by decide +kernel
theorem dL_areAlike_99 : decode cL_areAlike 99 = .ok (.iconst 1, 1) := by decide +kernel
theorem dL_areAlike_100 : decode cL_areAlike 100 = .ok (.goto 4, 3) := by decide +kernel
theorem dL_areAlike_103 : decode cL_areAlike 103 = .ok (.iconst 0, 1) := by decide +kernel
theorem dL_areAlike_104 : decode cL_areAlike 104 = .ok (.istore 5, 2) := by decide +kernel
theorem dL_areAlike_106 : decode cL_areAlike 106 = .ok (.iinc 6 1, 3) := by decide +kernel
theorem dL_areAlike_109 : decode cL_areAlike 109 = .ok (.goto (-45), 3) := by decide +kernel
theorem dL_areAlike_112 : decode cL_areAlike 112 = .ok (.iconst 0, 1) := by decide +kernel
theorem dL_areAlike_113 : decode cL_areAlike 113 = .ok (.istore 6, 2) := by decide +kernel
theorem dL_areAlike_115 : decode cL_areAlike 115 = .ok (.iload 6, 2) := by decide +kernel
theorem dL_areAlike_117 : decode cL_areAlike 117 = .ok (.bipush 6, 2) := by decide +kernel
theorem dL_areAlike_119 : decode cL_areAlike 119 = .ok (.if_icmp .ge 44, 3) := by decide +kernel
theorem dL_areAlike_122 : decode cL_areAlike 122 = .ok (.iload 5, 2) := by decide +kernel
theorem dL_areAlike_124 : decode cL_areAlike 124 = .ok (.ifCond .eq 39, 3) := by decide +kernel
theorem dL_areAlike_127 : decode cL_areAlike 127 = .ok (.aload_n 0, 1) := by decide +kernel
theorem dL_areAlike_128 : decode cL_areAlike 128 = .ok (.iload 6, 2) := by decide +kernel
theorem dL_areAlike_130 : decode cL_areAlike 130 = .ok (.iload_n 3, 1) := by decide +kernel
theorem dL_areAlike_131 : decode cL_areAlike 131 = .ok (.iload 4, 2) := by decide +kernel
theorem dL_areAlike_133 : decode cL_areAlike 133 = .ok (.iconst 1, 1) := by decide +kernel
theorem dL_areAlike_134 : decode cL_areAlike 134 = .ok (.invokestatic 125, 3) := by decide +kernel
theorem dL_areAlike_137 : decode cL_areAlike 137 = .ok (.aload_n 1, 1) := by decide +kernel
theorem dL_areAlike_138 : decode cL_areAlike 138 = .ok (.iload 6, 2) := by decide +kernel
theorem dL_areAlike_140 : decode cL_areAlike 140 = .ok (.iload_n 3, 1) := by decide +kernel
theorem dL_areAlike_141 : decode cL_areAlike 141 = .ok (.iload 4, 2) := by decide +kernel
theorem dL_areAlike_143 : decode cL_areAlike 143 = .ok (.iconst 1, 1) := by decide +kernel
theorem dL_areAlike_144 : decode cL_areAlike 144 = .ok (.invokestatic 125, 3) := by decide +kernel
theorem dL_areAlike_147 : decode cL_areAlike 147 = .ok (.if_icmp .ne 7, 3) := by decide +kernel
theorem dL_areAlike_150 : decode cL_areAlike 150 = .ok (.iconst 1, 1) := by decide +kernel
theorem dL_areAlike_151 : decode cL_areAlike 151 = .ok (.goto 4, 3) := by decide +kernel
theorem dL_areAlike_154 : decode cL_areAlike 154 = .ok (.iconst 0, 1) := by decide +kernel
theorem dL_areAlike_155 : decode cL_areAlike 155 = .ok (.istore 5, 2) := by decide +kernel
theorem dL_areAlike_157 : decode cL_areAlike 157 = .ok (.iinc 6 1, 3) := by decide +kernel
theorem dL_areAlike_160 : decode cL_areAlike 160 = .ok (.goto (-45), 3) := by decide +kernel
theorem dL_areAlike_163 : decode cL_areAlike 163 = .ok (.iload 5, 2) := by decide +kernel
theorem dL_areAlike_165 : decode cL_areAlike 165 = .ok (.ireturn, 1) := by decide +kernel
theorem dL_arePathsSo_0 : decode cL_arePathsSo 0 = .ok (.aload_n 0, 1) := by decide +kernel
theorem dL_arePathsSo_1 : decode cL_arePathsSo 1 = .ok (.iload_n 1, 1) := by decide +kernel
theorem dL_arePathsSo_2 : decode cL_arePathsSo 2 = .ok (.iload_n 2, 1) := by decide +kernel
theorem dL_arePathsSo_3 : decode cL_arePathsSo 3 = .ok (.ldc 129, 2) := by decide +kernel
theorem dL_arePathsSo_5 : decode cL_arePathsSo 5 = .ok (.invokevirtual 130, 3) := by decide +kernel
theorem dL_arePathsSo_8 : decode cL_arePathsSo 8 = .ok (.istore_n 3, 1) := by decide +kernel
theorem dL_arePathsSo_9 : decode cL_arePathsSo 9 = .ok (.iconst 0, 1) := by decide +kernel
theorem dL_arePathsSo_10 : decode cL_arePathsSo 10 = .ok (.istore 4, 2) := by decide +kernel
theorem dL_arePathsSo_12 : decode cL_arePathsSo 12 = .ok (.aload_n 0, 1) := by decide +kernel
theorem dL_arePathsSo_13 : decode cL_arePathsSo 13 = .ok (.iconst 1, 1) := by decide +kernel
theorem dL_arePathsSo_14 : decode cL_arePathsSo 14 = .ok (.iload_n 1, 1) := by decide +kernel
theorem dL_arePathsSo_15 : decode cL_arePathsSo 15 = .ok (.iload_n 2, 1) := by decide +kernel
theorem dL_arePathsSo_16 : decode cL_arePathsSo 16 = .ok (.invokestatic 113, 3) := by decide +kernel
theorem dL_arePathsSo_19 : decode cL_arePathsSo 19 = .ok (.iconst 1, 1) := by decide +kernel
theorem dL_arePathsSo_20 : decode cL_arePathsSo 20 = .ok (.if_icmp .ne 7, 3) := by decide +kernel
theorem dL_arePathsSo_23 : decode cL_arePathsSo 23 = .ok (.iconst 1, 1) := by decide +kernel
theorem dL_arePathsSo_24 : decode cL_arePathsSo 24 = .ok (.goto 4, 3) := by decide +kernel
theorem dL_arePathsSo_27 : decode cL_arePathsSo 27 = .ok (.iconst 0, 1) := by decide +kernel
theorem dL_arePathsSo_28 : decode cL_arePathsSo 28 = .ok (.istore 5, 2) := by decide +kernel
theorem dL_arePathsSo_30 : decode cL_arePathsSo 30 = .ok (.iconst 0, 1) := by decide +kernel
theorem dL_arePathsSo_31 : decode cL_arePathsSo 31 = .ok (.istore 6, 2) := by decide +kernel
theorem dL_arePathsSo_33 : decode cL_arePathsSo 33 = .ok (.iload 6, 2) := by decide +kernel
theorem dL_arePathsSo_35 : decode cL_arePathsSo 35 = .ok (.bipush 12, 2) := by decide +kernel
theorem dL_arePathsSo_37 : decode cL_arePathsSo 37 = .ok (.if_icmp .ge 165, 3) := by decide +kernel
theorem dL_arePathsSo_40 : decode cL_arePathsSo 40 = .ok (.iload 5, 2) := by decide +kernel
theorem dL_arePathsSo_42 : decode cL_arePathsSo 42 = .ok (.ifCond .eq 160, 3) := by decide +kernel
theorem dL_arePathsSo_45 : decode cL_arePathsSo 45 = .ok (.aload_n 0, 1) := by decide +kernel
theorem dL_arePathsSo_46 : decode cL_arePathsSo 46 = .ok (.iconst 0, 1) := by decide +kernel
theorem dL_arePathsSo_47 : decode cL_arePathsSo 47 = .ok (.iconst 0, 1) := by decide +kernel
theorem dL_arePathsSo_48 : decode cL_arePathsSo 48 = .ok (.invokestatic 119, 3) := by decide +kernel
theorem dL_arePathsSo_51 : decode cL_arePathsSo 51 = .ok (.istore 7, 2) := by decide +kernel
theorem dL_arePathsSo_53 : decode cL_arePathsSo 53 = .ok (.iload 6, 2) := by decide +kernel
theorem dL_arePathsSo_55 : decode cL_arePathsSo 55 = .ok (.iload_n 3, 1) := by decide +kernel
theorem dL_arePathsSo_56 : decode cL_arePathsSo 56 = .ok (.if_icmp .lt 41, 3) := by decide +kernel
theorem dL_arePathsSo_59 : decode cL_arePathsSo 59 = .ok (.iload 7, 2) := by decide +kernel
theorem dL_arePathsSo_61 : decode cL_arePathsSo 61 = .ok (.ldc 83, 2) := by decide +kernel
theorem dL_arePathsSo_63 : decode cL_arePathsSo 63 = .ok (.if_icmp .ne 32, 3) := by decide +kernel
theorem dL_arePathsSo_66 : decode cL_arePathsSo 66 = .ok (.aload_n 0, 1) := by decide +kernel
theorem dL_arePathsSo_67 : decode cL_arePathsSo 67 = .ok (.invokevirtual 59, 3) := by decide +kernel
theorem dL_arePathsSo_70 : decode cL_arePathsSo 70 = .ok (.iload_n 3, 1) := by decide +kernel
theorem dL_arePathsSo_71 : decode cL_arePathsSo 71 = .ok (.if_icmp .ne 24, 3) := by decide +kernel
theorem dL_arePathsSo_74 : decode cL_arePathsSo 74 = .ok (.iload_n 3, 1) := by decide +kernel
theorem dL_arePathsSo_75 : decode cL_arePathsSo 75 = .ok (.ifCond .gt 16, 3) := by decide +kernel
theorem dL_arePathsSo_78 : decode cL_arePathsSo 78 = .ok (.aload_n 0, 1) := by decide +kernel
theorem dL_arePathsSo_79 : decode cL_arePathsSo 79 = .ok (.iconst 0, 1) := by decide +kernel
theorem dL_arePathsSo_80 : decode cL_arePathsSo 80 = .ok (.iload_n 1, 1) := by decide +kernel
theorem dL_arePathsSo_81 : decode cL_arePathsSo 81 = .ok (.iload_n 2, 1) := by decide +kernel
theorem dL_arePathsSo_82 : decode cL_arePathsSo 82 = .ok (.iconst 0, 1) := by decide +kernel
theorem dL_arePathsSo_83 : decode cL_arePathsSo 83 = .ok (.invokestatic 125, 3) := by decide +kernel
theorem dL_arePathsSo_86 : decode cL_arePathsSo 86 = .ok (.ldc 83, 2) := by decide +kernel
theorem dL_arePathsSo_88 : decode cL_arePathsSo 88 = .ok (.if_icmp .ne 7, 3) := by decide +kernel
theorem dL_arePathsSo_91 : decode cL_arePathsSo 91 = .ok (.iconst 1, 1) := by decide +kernel
theorem dL_arePathsSo_92 : decode cL_arePathsSo 92 = .ok (.goto 4, 3) := by decide +kernel
theorem dL_arePathsSo_95 : decode cL_arePathsSo 95 = .ok (.iconst 0, 1) := by decide +kernel
theorem dL_arePathsSo_96 : decode cL_arePathsSo 96 = .ok (.ireturn, 1) := by decide +kernel
theorem dL_arePathsSo_97 : decode cL_arePathsSo 97 = .ok (.iload 7, 2) := by decide +kernel
theorem dL_arePathsSo_99 : decode cL_arePathsSo 99 = .ok (.iload 4, 2) := by decide +kernel
theorem dL_arePathsSo_101 : decode cL_arePathsSo 101 = .ok (.if_icmp .lt 88, 3) := by decide +kernel
theorem dL_arePathsSo_104 : decode cL_arePathsSo 104 = .ok (.iload 7, 2) := by decide +kernel
theorem dL_arePathsSo_106 : decode cL_arePathsSo 106 = .ok (.ifCond .le 83, 3) := by decide +kernel
theorem dL_arePathsSo_109 : decode cL_arePathsSo 109 = .ok (.aload_n 0, 1) := by decide +kernel
theorem dL_arePathsSo_110 : decode cL_arePathsSo 110 = .ok (.invokevirtual 62, 3) := by decide +kernel
theorem dL_arePathsSo_113 : decode cL_arePathsSo 113 = .ok (.iconst 1, 1) := by decide +kernel
theorem dL_arePathsSo_114 : decode cL_arePathsSo 114 = .ok (.if_icmp .lt 75, 3) := by decide +kernel
theorem dL_arePathsSo_117 : decode cL_arePathsSo 117 = .ok (.aload_n 0, 1) := by decide +kernel
theorem dL_arePathsSo_118 : decode cL_arePathsSo 118 = .ok (.invokevirtual 62, 3) := by decide +kernel
theorem dL_arePathsSo_121 : decode cL_arePathsSo 121 = .ok (.aload_n 0, 1) := by decide +kernel
theorem dL_arePathsSo_122 : decode cL_arePathsSo 122 = .ok (.invokevirtual 103, 3) := by decide +kernel
theorem dL_arePathsSo_125 : decode cL_arePathsSo 125 = .ok (.if_icmp .ge 64, 3) := by decide +kernel
theorem dL_arePathsSo_128 : decode cL_arePathsSo 128 = .ok (.aload_n 0, 1) := by decide +kernel
theorem dL_arePathsSo_129 : decode cL_arePathsSo 129 = .ok (.invokevirtual 59, 3) := by decide +kernel
theorem dL_arePathsSo_132 : decode cL_arePathsSo 132 = .ok (.iload 6, 2) := by decide +kernel
theorem dL_arePathsSo_134 : decode cL_arePathsSo 134 = .ok (.iconst 1, 1) := by decide +kernel
theorem dL_arePathsSo_135 : decode cL_arePathsSo 135 = .ok (.iadd, 1) := by decide +kernel
theorem dL_arePathsSo_136 : decode cL_arePathsSo 136 = .ok (.if_icmp .ne 53, 3) := by decide +kernel
theorem dL_arePathsSo_139 : decode cL_arePathsSo 139 = .ok (.iload 6, 2) := by decide +kernel
theorem dL_arePathsSo_141 : decode cL_arePathsSo 141 = .ok (.ifCond .gt 16, 3) := by decide +kernel
theorem dL_arePathsSo_144 : decode cL_arePathsSo 144 = .ok (.iload 7, 2) := by decide +kernel
theorem dL_arePathsSo_146 : decode cL_arePathsSo 146 = .ok (.aload_n 0, 1) := by decide +kernel
theorem dL_arePathsSo_147 : decode cL_arePathsSo 147 = .ok (.iconst 0, 1) := by decide +kernel
theorem dL_arePathsSo_148 : decode cL_arePathsSo 148 = .ok (.iload_n 1, 1) := by decide +kernel
theorem dL_arePathsSo_149 : decode cL_arePathsSo 149 = .ok (.iload_n 2, 1) := by decide +kernel
theorem dL_arePathsSo_150 : decode cL_arePathsSo 150 = .ok (.iconst 0, 1) := by decide +kernel
theorem dL_arePathsSo_151 : decode cL_arePathsSo 151 = .ok (.invokestatic 125, 3) := by decide +kernel
theorem dL_arePathsSo_154 : decode cL_arePathsSo 154 = .ok (.if_icmp .ne 35, 3) := by decide +kernel
theorem dL_arePathsSo_157 : decode cL_arePathsSo 157 = .ok (.aload_n 0, 1) := by decide +kernel
theorem dL_arePathsSo_158 : decode cL_arePathsSo 158 = .ok (.iload_n 1, 1) := by decide +kernel
theorem dL_arePathsSo_159 : decode cL_arePathsSo 159 = .ok (.iload_n 2, 1) := by decide +kernel
theorem dL_arePathsSo_160 : decode cL_arePathsSo 160 = .ok (.iload 7, 2) := by decide +kernel
theorem dL_arePathsSo_162 : decode cL_arePathsSo 162 = .ok (.invokevirtual 130, 3) := by decide +kernel
theorem dL_arePathsSo_165 : decode cL_arePathsSo 165 = .ok (.iload 6, 2) := by decide +kernel
theorem dL_arePathsSo_167 : decode cL_arePathsSo 167 = .ok (.if_icmp .le 22, 3) := by decide +kernel
theorem dL_arePathsSo_170 : decode cL_arePathsSo 170 = .ok (.aload_n 0, 1) := by decide +kernel
theorem dL_arePathsSo_171 : decode cL_arePathsSo 171 = .ok (.iload_n 1, 1) := by decide +kernel
theorem dL_arePathsSo_172 : decode cL_arePathsSo 172 = .ok (.iload_n 2, 1) := by decide +kernel
theorem dL_arePathsSo_173 : decode cL_arePathsSo 173 = .ok (.iload 7, 2) := by decide +kernel
theorem dL_arePathsSo_175 : decode cL_arePathsSo 175 = .ok (.iconst 1, 1) := by decide +kernel
theorem dL_arePathsSo_176 : decode cL_arePathsSo 176 = .ok (.isub, 1) := by decide +kernel
theorem dL_arePathsSo_177 : decode cL_arePathsSo 177 = .ok (.invokevirtual 130, 3) := by decide +kernel
theorem dL_arePathsSo_180 : decode cL_arePathsSo 180 = .ok (.iload 6, 2) := by decide +kernel
theorem dL_arePathsSo_182 : decode cL_arePathsSo 182 = .ok (.if_icmp .gt 7, 3) := by decide +kernel
theorem dL_arePathsSo_185 : decode cL_arePathsSo 185 = .ok (.iconst 1, 1) := by decide +kernel
theorem dL_arePathsSo_186 : decode cL_arePathsSo 186 = .ok (.goto 4, 3) := by decide +kernel
theorem dL_arePathsSo_189 : decode cL_arePathsSo 189 = .ok (.iconst 0, 1) := by decide +kernel
theorem dL_arePathsSo_190 : decode cL_arePathsSo 190 = .ok (.istore 5, 2) := by decide +kernel
theorem dL_arePathsSo_192 : decode cL_arePathsSo 192 = .ok (.iload 7, 2) := by decide +kernel
theorem dL_arePathsSo_194 : decode cL_arePathsSo 194 = .ok (.istore 4, 2) := by decide +kernel
theorem dL_arePathsSo_196 : decode cL_arePathsSo 196 = .ok (.iinc 6 1, 3) := by decide +kernel
theorem dL_arePathsSo_199 : decode cL_arePathsSo 199 = .ok (.goto (-166), 3) := by decide +kernel
theorem dL_arePathsSo_202 : decode cL_arePathsSo 202 = .ok (.iload 5, 2) := by decide +kernel
theorem dL_arePathsSo_204 : decode cL_arePathsSo 204 = .ok (.ireturn, 1) := by decide +kernel
theorem dL_areWalksSo_0 : decode cL_areWalksSo 0 = .ok (.iconst 0, 1) := by decide +kernel
theorem dL_areWalksSo_1 : decode cL_areWalksSo 1 = .ok (.istore_n 3, 1) := by decide +kernel
theorem dL_areWalksSo_2 : decode cL_areWalksSo 2 = .ok (.aload_n 0, 1) := by decide +kernel
theorem dL_areWalksSo_3 : decode cL_areWalksSo 3 = .ok (.iconst 0, 1) := by decide +kernel
theorem dL_areWalksSo_4 : decode cL_areWalksSo 4 = .ok (.iload_n 1, 1) := by decide +kernel
theorem dL_areWalksSo_5 : decode cL_areWalksSo 5 = .ok (.iload_n 2, 1) := by decide +kernel
theorem dL_areWalksSo_6 : decode cL_areWalksSo 6 = .ok (.iconst 0, 1) := by decide +kernel
theorem dL_areWalksSo_7 : decode cL_areWalksSo 7 = .ok (.invokestatic 125, 3) := by decide +kernel
theorem dL_areWalksSo_10 : decode cL_areWalksSo 10 = .ok (.istore 4, 2) := by decide +kernel
theorem dL_areWalksSo_12 : decode cL_areWalksSo 12 = .ok (.aload_n 0, 1) := by decide +kernel
theorem dL_areWalksSo_13 : decode cL_areWalksSo 13 = .ok (.iconst 2, 1) := by decide +kernel
theorem dL_areWalksSo_14 : decode cL_areWalksSo 14 = .ok (.iload_n 1, 1) := by decide +kernel
theorem dL_areWalksSo_15 : decode cL_areWalksSo 15 = .ok (.iload_n 2, 1) := by decide +kernel
theorem dL_areWalksSo_16 : decode cL_areWalksSo 16 = .ok (.invokestatic 113, 3) := by decide +kernel
theorem dL_areWalksSo_19 : decode cL_areWalksSo 19 = .ok (.iconst 1, 1) := by decide +kernel
theorem dL_areWalksSo_20 : decode cL_areWalksSo 20 = .ok (.if_icmp .ne 7, 3) := by decide +kernel
theorem dL_areWalksSo_23 : decode cL_areWalksSo 23 = .ok (.iconst 1, 1) := by decide +kernel
theorem dL_areWalksSo_24 : decode cL_areWalksSo 24 = .ok (.goto 4, 3) := by decide +kernel
theorem dL_areWalksSo_27 : decode cL_areWalksSo 27 = .ok (.iconst 0, 1) := by decide +kernel
theorem dL_areWalksSo_28 : decode cL_areWalksSo 28 = .ok (.istore 5, 2) := by decide +kernel
theorem dL_areWalksSo_30 : decode cL_areWalksSo 30 = .ok (.iconst 0, 1) := by decide +kernel
theorem dL_areWalksSo_31 : decode cL_areWalksSo 31 = .ok (.istore 6, 2) := by decide +kernel
theorem dL_areWalksSo_33 : decode cL_areWalksSo 33 = .ok (.iload 6, 2) := by decide +kernel
theorem dL_areWalksSo_35 : decode cL_areWalksSo 35 = .ok (.bipush 12, 2) := by decide +kernel
theorem dL_areWalksSo_37 : decode cL_areWalksSo 37 = .ok (.if_icmp .ge 144, 3) := by decide +kernel
theorem dL_areWalksSo_40 : decode cL_areWalksSo 40 = .ok (.iload 5, 2) := by decide +kernel
theorem dL_areWalksSo_42 : decode cL_areWalksSo 42 = .ok (.ifCond .eq 139, 3) := by decide +kernel
theorem dL_areWalksSo_45 : decode cL_areWalksSo 45 = .ok (.aload_n 0, 1) := by decide +kernel
theorem dL_areWalksSo_46 : decode cL_areWalksSo 46 = .ok (.iconst 4, 1) := by decide +kernel
theorem dL_areWalksSo_47 : decode cL_areWalksSo 47 = .ok (.iconst 0, 1) := by decide +kernel
theorem dL_areWalksSo_48 : decode cL_areWalksSo 48 = .ok (.invokestatic 119, 3) := by decide +kernel
theorem dL_areWalksSo_51 : decode cL_areWalksSo 51 = .ok (.istore 7, 2) := by decide +kernel
theorem dL_areWalksSo_53 : decode cL_areWalksSo 53 = .ok (.iload 7, 2) := by decide +kernel
theorem dL_areWalksSo_55 : decode cL_areWalksSo 55 = .ok (.ldc 83, 2) := by decide +kernel
theorem dL_areWalksSo_57 : decode cL_areWalksSo 57 = .ok (.if_icmp .ne 30, 3) := by decide +kernel
theorem dL_areWalksSo_60 : decode cL_areWalksSo 60 = .ok (.aload_n 0, 1) := by decide +kernel
theorem dL_areWalksSo_61 : decode cL_areWalksSo 61 = .ok (.invokevirtual 72, 3) := by decide +kernel
theorem dL_areWalksSo_64 : decode cL_areWalksSo 64 = .ok (.iload 6, 2) := by decide +kernel
theorem dL_areWalksSo_66 : decode cL_areWalksSo 66 = .ok (.if_icmp .ne 19, 3) := by decide +kernel
theorem dL_areWalksSo_69 : decode cL_areWalksSo 69 = .ok (.iload 6, 2) := by decide +kernel
theorem dL_areWalksSo_71 : decode cL_areWalksSo 71 = .ok (.ifCond .gt 10, 3) := by decide +kernel
theorem dL_areWalksSo_74 : decode cL_areWalksSo 74 = .ok (.iload 4, 2) := by decide +kernel
theorem dL_areWalksSo_76 : decode cL_areWalksSo 76 = .ok (.ldc 83, 2) := by decide +kernel
theorem dL_areWalksSo_78 : decode cL_areWalksSo 78 = .ok (.if_icmp .ne 7, 3) := by decide +kernel
theorem dL_areWalksSo_81 : decode cL_areWalksSo 81 = .ok (.iconst 1, 1) := by decide +kernel
theorem dL_areWalksSo_82 : decode cL_areWalksSo 82 = .ok (.goto 4, 3) := by decide +kernel
theorem dL_areWalksSo_85 : decode cL_areWalksSo 85 = .ok (.iconst 0, 1) := by decide +kernel
theorem dL_areWalksSo_86 : decode cL_areWalksSo 86 = .ok (.ireturn, 1) := by decide +kernel
theorem dL_areWalksSo_87 : decode cL_areWalksSo 87 = .ok (.iload 7, 2) := by decide +kernel
theorem dL_areWalksSo_89 : decode cL_areWalksSo 89 = .ok (.iload_n 3, 1) := by decide +kernel
theorem dL_areWalksSo_90 : decode cL_areWalksSo 90 = .ok (.if_icmp .lt 79, 3) := by decide +kernel
theorem dL_areWalksSo_93 : decode cL_areWalksSo 93 = .ok (.iload 6, 2) := by decide +kernel
theorem dL_areWalksSo_95 : decode cL_areWalksSo 95 = .ok (.ifCond .gt 10, 3) := by decide +kernel
theorem dL_areWalksSo_98 : decode cL_areWalksSo 98 = .ok (.iload 7, 2) := by decide +kernel
theorem dL_areWalksSo_100 : decode cL_areWalksSo 100 = .ok (.iload 4, 2) := by decide +kernel
theorem dL_areWalksSo_102 : decode cL_areWalksSo 102 = .ok (.if_icmp .ne 67, 3) := by decide +kernel
theorem dL_areWalksSo_105 : decode cL_areWalksSo 105 = .ok (.aload_n 0, 1) := by decide +kernel
theorem dL_areWalksSo_106 : decode cL_areWalksSo 106 = .ok (.invokevirtual 72, 3) := by decide +kernel
theorem dL_areWalksSo_109 : decode cL_areWalksSo 109 = .ok (.iload 6, 2) := by decide +kernel
theorem dL_areWalksSo_111 : decode cL_areWalksSo 111 = .ok (.iconst 1, 1) := by decide +kernel
theorem dL_areWalksSo_112 : decode cL_areWalksSo 112 = .ok (.iadd, 1) := by decide +kernel
theorem dL_areWalksSo_113 : decode cL_areWalksSo 113 = .ok (.if_icmp .ne 56, 3) := by decide +kernel
theorem dL_areWalksSo_116 : decode cL_areWalksSo 116 = .ok (.iload 7, 2) := by decide +kernel
theorem dL_areWalksSo_118 : decode cL_areWalksSo 118 = .ok (.ifCond .ne 7, 3) := by decide +kernel
theorem dL_areWalksSo_121 : decode cL_areWalksSo 121 = .ok (.iconst 1, 1) := by decide +kernel
theorem dL_areWalksSo_122 : decode cL_areWalksSo 122 = .ok (.goto 4, 3) := by decide +kernel
theorem dL_areWalksSo_125 : decode cL_areWalksSo 125 = .ok (.iconst 0, 1) := by decide +kernel
theorem dL_areWalksSo_126 : decode cL_areWalksSo 126 = .ok (.aload_n 0, 1) := by decide +kernel
theorem dL_areWalksSo_127 : decode cL_areWalksSo 127 = .ok (.invokevirtual 75, 3) := by decide +kernel
theorem dL_areWalksSo_130 : decode cL_areWalksSo 130 = .ok (.ifCond .ne 7, 3) := by decide +kernel
theorem dL_areWalksSo_133 : decode cL_areWalksSo 133 = .ok (.iconst 1, 1) := by decide +kernel
theorem dL_areWalksSo_134 : decode cL_areWalksSo 134 = .ok (.goto 4, 3) := by decide +kernel
theorem dL_areWalksSo_137 : decode cL_areWalksSo 137 = .ok (.iconst 0, 1) := by decide +kernel
theorem dL_areWalksSo_138 : decode cL_areWalksSo 138 = .ok (.if_icmp .ne 31, 3) := by decide +kernel
theorem dL_areWalksSo_141 : decode cL_areWalksSo 141 = .ok (.iload 7, 2) := by decide +kernel
theorem dL_areWalksSo_143 : decode cL_areWalksSo 143 = .ok (.aload_n 0, 1) := by decide +kernel
theorem dL_areWalksSo_144 : decode cL_areWalksSo 144 = .ok (.invokevirtual 75, 3) := by decide +kernel
theorem dL_areWalksSo_147 : decode cL_areWalksSo 147 = .ok (.if_icmp .lt 22, 3) := by decide +kernel
theorem dL_areWalksSo_150 : decode cL_areWalksSo 150 = .ok (.aload_n 0, 1) := by decide +kernel
theorem dL_areWalksSo_151 : decode cL_areWalksSo 151 = .ok (.bipush 7, 2) := by decide +kernel
theorem dL_areWalksSo_153 : decode cL_areWalksSo 153 = .ok (.aload_n 0, 1) := by decide +kernel
theorem dL_areWalksSo_154 : decode cL_areWalksSo 154 = .ok (.invokevirtual 75, 3) := by decide +kernel
theorem dL_areWalksSo_157 : decode cL_areWalksSo 157 = .ok (.invokestatic 119, 3) := by decide +kernel
theorem dL_areWalksSo_160 : decode cL_areWalksSo 160 = .ok (.ldc 83, 2) := by decide +kernel
theorem dL_areWalksSo_162 : decode cL_areWalksSo 162 = .ok (.if_icmp .ne 7, 3) := by decide +kernel
theorem dL_areWalksSo_165 : decode cL_areWalksSo 165 = .ok (.iconst 1, 1) := by decide +kernel
theorem dL_areWalksSo_166 : decode cL_areWalksSo 166 = .ok (.goto 4, 3) := by decide +kernel
theorem dL_areWalksSo_169 : decode cL_areWalksSo 169 = .ok (.iconst 0, 1) := by decide +kernel
theorem dL_areWalksSo_170 : decode cL_areWalksSo 170 = .ok (.istore 5, 2) := by decide +kernel
theorem dL_areWalksSo_172 : decode cL_areWalksSo 172 = .ok (.iload 7, 2) := by decide +kernel
theorem dL_areWalksSo_174 : decode cL_areWalksSo 174 = .ok (.istore_n 3, 1) := by decide +kernel
theorem dL_areWalksSo_175 : decode cL_areWalksSo 175 = .ok (.iinc 6 1, 3) := by decide +kernel
theorem dL_areWalksSo_178 : decode cL_areWalksSo 178 = .ok (.goto (-145), 3) := by decide +kernel
theorem dL_areWalksSo_181 : decode cL_areWalksSo 181 = .ok (.iload 5, 2) := by decide +kernel
theorem dL_areWalksSo_183 : decode cL_areWalksSo 183 = .ok (.ireturn, 1) := by decide +kernel
theorem dL_areSetsSo_0 : decode cL_areSetsSo 0 = .ok (.aload_n 0, 1) := by decide +kernel
theorem dL_areSetsSo_1 : decode cL_areSetsSo 1 = .ok (.iload_n 1, 1) := by decide +kernel
theorem dL_areSetsSo_2 : decode cL_areSetsSo 2 = .ok (.iload_n 2, 1) := by decide +kernel
theorem dL_areSetsSo_3 : decode cL_areSetsSo 3 = .ok (.iconst 0, 1) := by decide +kernel
theorem dL_areSetsSo_4 : decode cL_areSetsSo 4 = .ok (.invokevirtual 133, 3) := by decide +kernel
theorem dL_areSetsSo_7 : decode cL_areSetsSo 7 = .ok (.istore_n 3, 1) := by decide +kernel
theorem dL_areSetsSo_8 : decode cL_areSetsSo 8 = .ok (.aload_n 0, 1) := by decide +kernel
theorem dL_areSetsSo_9 : decode cL_areSetsSo 9 = .ok (.iload_n 1, 1) := by decide +kernel
theorem dL_areSetsSo_10 : decode cL_areSetsSo 10 = .ok (.iload_n 2, 1) := by decide +kernel
theorem dL_areSetsSo_11 : decode cL_areSetsSo 11 = .ok (.iconst 1, 1) := by decide +kernel
theorem dL_areSetsSo_12 : decode cL_areSetsSo 12 = .ok (.invokevirtual 133, 3) := by decide +kernel
theorem dL_areSetsSo_15 : decode cL_areSetsSo 15 = .ok (.istore 4, 2) := by decide +kernel
theorem dL_areSetsSo_17 : decode cL_areSetsSo 17 = .ok (.aload_n 0, 1) := by decide +kernel
theorem dL_areSetsSo_18 : decode cL_areSetsSo 18 = .ok (.iconst 0, 1) := by decide +kernel
theorem dL_areSetsSo_19 : decode cL_areSetsSo 19 = .ok (.iload_n 1, 1) := by decide +kernel
theorem dL_areSetsSo_20 : decode cL_areSetsSo 20 = .ok (.iload_n 2, 1) := by decide +kernel
theorem dL_areSetsSo_21 : decode cL_areSetsSo 21 = .ok (.iconst 0, 1) := by decide +kernel
theorem dL_areSetsSo_22 : decode cL_areSetsSo 22 = .ok (.invokestatic 125, 3) := by decide +kernel
theorem dL_areSetsSo_25 : decode cL_areSetsSo 25 = .ok (.istore 5, 2) := by decide +kernel
theorem dL_areSetsSo_27 : decode cL_areSetsSo 27 = .ok (.aload_n 0, 1) := by decide +kernel
theorem dL_areSetsSo_28 : decode cL_areSetsSo 28 = .ok (.iconst 1, 1) := by decide +kernel
theorem dL_areSetsSo_29 : decode cL_areSetsSo 29 = .ok (.iload_n 1, 1) := by decide +kernel
theorem dL_areSetsSo_30 : decode cL_areSetsSo 30 = .ok (.iload_n 2, 1) := by decide +kernel
theorem dL_areSetsSo_31 : decode cL_areSetsSo 31 = .ok (.iconst 0, 1) := by decide +kernel
theorem dL_areSetsSo_32 : decode cL_areSetsSo 32 = .ok (.invokestatic 125, 3) := by decide +kernel
theorem dL_areSetsSo_35 : decode cL_areSetsSo 35 = .ok (.istore 6, 2) := by decide +kernel
theorem dL_areSetsSo_37 : decode cL_areSetsSo 37 = .ok (.iload 4, 2) := by decide +kernel
theorem dL_areSetsSo_39 : decode cL_areSetsSo 39 = .ok (.iload_n 3, 1) := by decide +kernel
theorem dL_areSetsSo_40 : decode cL_areSetsSo 40 = .ok (.if_icmp .gt 59, 3) := by decide +kernel
theorem dL_areSetsSo_43 : decode cL_areSetsSo 43 = .ok (.iload 4, 2) := by decide +kernel
theorem dL_areSetsSo_45 : decode cL_areSetsSo 45 = .ok (.ifCond .le 7, 3) := by decide +kernel
theorem dL_areSetsSo_48 : decode cL_areSetsSo 48 = .ok (.iconst 1, 1) := by decide +kernel
theorem dL_areSetsSo_49 : decode cL_areSetsSo 49 = .ok (.goto 4, 3) := by decide +kernel
theorem dL_areSetsSo_52 : decode cL_areSetsSo 52 = .ok (.iconst 0, 1) := by decide +kernel
theorem dL_areSetsSo_53 : decode cL_areSetsSo 53 = .ok (.iload_n 3, 1) := by decide +kernel
theorem dL_areSetsSo_54 : decode cL_areSetsSo 54 = .ok (.ifCond .le 7, 3) := by decide +kernel
theorem dL_areSetsSo_57 : decode cL_areSetsSo 57 = .ok (.iconst 1, 1) := by decide +kernel
theorem dL_areSetsSo_58 : decode cL_areSetsSo 58 = .ok (.goto 4, 3) := by decide +kernel
theorem dL_areSetsSo_61 : decode cL_areSetsSo 61 = .ok (.iconst 0, 1) := by decide +kernel
theorem dL_areSetsSo_62 : decode cL_areSetsSo 62 = .ok (.if_icmp .ne 37, 3) := by decide +kernel
theorem dL_areSetsSo_65 : decode cL_areSetsSo 65 = .ok (.iload_n 3, 1) := by decide +kernel
theorem dL_areSetsSo_66 : decode cL_areSetsSo 66 = .ok (.ifCond .le 7, 3) := by decide +kernel
theorem dL_areSetsSo_69 : decode cL_areSetsSo 69 = .ok (.iconst 1, 1) := by decide +kernel
theorem dL_areSetsSo_70 : decode cL_areSetsSo 70 = .ok (.goto 4, 3) := by decide +kernel
theorem dL_areSetsSo_73 : decode cL_areSetsSo 73 = .ok (.iconst 0, 1) := by decide +kernel
theorem dL_areSetsSo_74 : decode cL_areSetsSo 74 = .ok (.iload 5, 2) := by decide +kernel
theorem dL_areSetsSo_76 : decode cL_areSetsSo 76 = .ok (.ifCond .lt 7, 3) := by decide +kernel
theorem dL_areSetsSo_79 : decode cL_areSetsSo 79 = .ok (.iconst 1, 1) := by decide +kernel
theorem dL_areSetsSo_80 : decode cL_areSetsSo 80 = .ok (.goto 4, 3) := by decide +kernel
theorem dL_areSetsSo_83 : decode cL_areSetsSo 83 = .ok (.iconst 0, 1) := by decide +kernel
theorem dL_areSetsSo_84 : decode cL_areSetsSo 84 = .ok (.if_icmp .ne 15, 3) := by decide +kernel
theorem dL_areSetsSo_87 : decode cL_areSetsSo 87 = .ok (.iload_n 3, 1) := by decide +kernel
theorem dL_areSetsSo_88 : decode cL_areSetsSo 88 = .ok (.aload_n 0, 1) := by decide +kernel
theorem dL_areSetsSo_89 : decode cL_areSetsSo 89 = .ok (.invokevirtual 122, 3) := by decide +kernel
theorem dL_areSetsSo_92 : decode cL_areSetsSo 92 = .ok (.if_icmp .gt 7, 3) := by decide +kernel
theorem dL_areSetsSo_95 : decode cL_areSetsSo 95 = .ok (.iconst 1, 1) := by decide +kernel
theorem dL_areSetsSo_96 : decode cL_areSetsSo 96 = .ok (.goto 4, 3) := by decide +kernel
theorem dL_areSetsSo_99 : decode cL_areSetsSo 99 = .ok (.iconst 0, 1) := by decide +kernel
theorem dL_areSetsSo_100 : decode cL_areSetsSo 100 = .ok (.istore 7, 2) := by decide +kernel
theorem dL_areSetsSo_102 : decode cL_areSetsSo 102 = .ok (.iconst 1, 1) := by decide +kernel
theorem dL_areSetsSo_103 : decode cL_areSetsSo 103 = .ok (.istore 8, 2) := by decide +kernel
theorem dL_areSetsSo_105 : decode cL_areSetsSo 105 = .ok (.iload 8, 2) := by decide +kernel
theorem dL_areSetsSo_107 : decode cL_areSetsSo 107 = .ok (.iconst 5, 1) := by decide +kernel
theorem dL_areSetsSo_108 : decode cL_areSetsSo 108 = .ok (.if_icmp .ge 144, 3) := by decide +kernel
theorem dL_areSetsSo_111 : decode cL_areSetsSo 111 = .ok (.iload 7, 2) := by decide +kernel
theorem dL_areSetsSo_113 : decode cL_areSetsSo 113 = .ok (.ifCond .eq 139, 3) := by decide +kernel
theorem dL_areSetsSo_116 : decode cL_areSetsSo 116 = .ok (.aload_n 0, 1) := by decide +kernel
theorem dL_areSetsSo_117 : decode cL_areSetsSo 117 = .ok (.iconst 4, 1) := by decide +kernel
theorem dL_areSetsSo_118 : decode cL_areSetsSo 118 = .ok (.iload_n 1, 1) := by decide +kernel
theorem dL_areSetsSo_119 : decode cL_areSetsSo 119 = .ok (.iload_n 2, 1) := by decide +kernel
theorem dL_areSetsSo_120 : decode cL_areSetsSo 120 = .ok (.iload 8, 2) := by decide +kernel
theorem dL_areSetsSo_122 : decode cL_areSetsSo 122 = .ok (.invokestatic 125, 3) := by decide +kernel
theorem dL_areSetsSo_125 : decode cL_areSetsSo 125 = .ok (.istore 9, 2) := by decide +kernel
theorem dL_areSetsSo_127 : decode cL_areSetsSo 127 = .ok (.aload_n 0, 1) := by decide +kernel
theorem dL_areSetsSo_128 : decode cL_areSetsSo 128 = .ok (.iconst 5, 1) := by decide +kernel
theorem dL_areSetsSo_129 : decode cL_areSetsSo 129 = .ok (.iload_n 1, 1) := by decide +kernel
theorem dL_areSetsSo_130 : decode cL_areSetsSo 130 = .ok (.iload_n 2, 1) := by decide +kernel
theorem dL_areSetsSo_131 : decode cL_areSetsSo 131 = .ok (.iload 8, 2) := by decide +kernel
theorem dL_areSetsSo_133 : decode cL_areSetsSo 133 = .ok (.invokestatic 125, 3) := by decide +kernel
theorem dL_areSetsSo_136 : decode cL_areSetsSo 136 = .ok (.istore 10, 2) := by decide +kernel
theorem dL_areSetsSo_138 : decode cL_areSetsSo 138 = .ok (.iload 9, 2) := by decide +kernel
theorem dL_areSetsSo_140 : decode cL_areSetsSo 140 = .ok (.ifCond .lt 7, 3) := by decide +kernel
theorem dL_areSetsSo_143 : decode cL_areSetsSo 143 = .ok (.iconst 1, 1) := by decide +kernel
theorem dL_areSetsSo_144 : decode cL_areSetsSo 144 = .ok (.goto 4, 3) := by decide +kernel
theorem dL_areSetsSo_147 : decode cL_areSetsSo 147 = .ok (.iconst 0, 1) := by decide +kernel
theorem dL_areSetsSo_148 : decode cL_areSetsSo 148 = .ok (.iload 8, 2) := by decide +kernel
theorem dL_areSetsSo_150 : decode cL_areSetsSo 150 = .ok (.iload_n 3, 1) := by decide +kernel
theorem dL_areSetsSo_151 : decode cL_areSetsSo 151 = .ok (.if_icmp .gt 7, 3) := by decide +kernel
theorem dL_areSetsSo_154 : decode cL_areSetsSo 154 = .ok (.iconst 1, 1) := by decide +kernel
theorem dL_areSetsSo_155 : decode cL_areSetsSo 155 = .ok (.goto 4, 3) := by decide +kernel
theorem dL_areSetsSo_158 : decode cL_areSetsSo 158 = .ok (.iconst 0, 1) := by decide +kernel
theorem dL_areSetsSo_159 : decode cL_areSetsSo 159 = .ok (.if_icmp .ne 84, 3) := by decide +kernel
theorem dL_areSetsSo_162 : decode cL_areSetsSo 162 = .ok (.iload 10, 2) := by decide +kernel
theorem dL_areSetsSo_164 : decode cL_areSetsSo 164 = .ok (.ifCond .lt 7, 3) := by decide +kernel
theorem dL_areSetsSo_167 : decode cL_areSetsSo 167 = .ok (.iconst 1, 1) := by decide +kernel
theorem dL_areSetsSo_168 : decode cL_areSetsSo 168 = .ok (.goto 4, 3) := by decide +kernel
theorem dL_areSetsSo_171 : decode cL_areSetsSo 171 = .ok (.iconst 0, 1) := by decide +kernel
theorem dL_areSetsSo_172 : decode cL_areSetsSo 172 = .ok (.iload 8, 2) := by decide +kernel
theorem dL_areSetsSo_174 : decode cL_areSetsSo 174 = .ok (.iload 4, 2) := by decide +kernel
theorem dL_areSetsSo_176 : decode cL_areSetsSo 176 = .ok (.if_icmp .gt 7, 3) := by decide +kernel
theorem dL_areSetsSo_179 : decode cL_areSetsSo 179 = .ok (.iconst 1, 1) := by decide +kernel
theorem dL_areSetsSo_180 : decode cL_areSetsSo 180 = .ok (.goto 4, 3) := by decide +kernel
theorem dL_areSetsSo_183 : decode cL_areSetsSo 183 = .ok (.iconst 0, 1) := by decide +kernel
theorem dL_areSetsSo_184 : decode cL_areSetsSo 184 = .ok (.if_icmp .ne 59, 3) := by decide +kernel
theorem dL_areSetsSo_187 : decode cL_areSetsSo 187 = .ok (.iload 9, 2) := by decide +kernel
theorem dL_areSetsSo_189 : decode cL_areSetsSo 189 = .ok (.ifCond .lt 13, 3) := by decide +kernel
theorem dL_areSetsSo_192 : decode cL_areSetsSo 192 = .ok (.iload 9, 2) := by decide +kernel
theorem dL_areSetsSo_194 : decode cL_areSetsSo 194 = .ok (.iload 8, 2) := by decide +kernel
theorem dL_areSetsSo_196 : decode cL_areSetsSo 196 = .ok (.iload 5, 2) := by decide +kernel
theorem dL_areSetsSo_198 : decode cL_areSetsSo 198 = .ok (.imul, 1) := by decide +kernel
theorem dL_areSetsSo_199 : decode cL_areSetsSo 199 = .ok (.if_icmp .lt 44, 3) := by decide +kernel
theorem dL_areSetsSo_202 : decode cL_areSetsSo 202 = .ok (.iload 10, 2) := by decide +kernel
theorem dL_areSetsSo_204 : decode cL_areSetsSo 204 = .ok (.ifCond .lt 10, 3) := by decide +kernel
theorem dL_areSetsSo_207 : decode cL_areSetsSo 207 = .ok (.iload 10, 2) := by decide +kernel
theorem dL_areSetsSo_209 : decode cL_areSetsSo 209 = .ok (.iload 9, 2) := by decide +kernel
theorem dL_areSetsSo_211 : decode cL_areSetsSo 211 = .ok (.if_icmp .lt 32, 3) := by decide +kernel
theorem dL_areSetsSo_214 : decode cL_areSetsSo 214 = .ok (.iload 8, 2) := by decide +kernel
theorem dL_areSetsSo_216 : decode cL_areSetsSo 216 = .ok (.iconst 1, 1) := by decide +kernel
theorem dL_areSetsSo_217 : decode cL_areSetsSo 217 = .ok (.if_icmp .gt 22, 3) := by decide +kernel
theorem dL_areSetsSo_220 : decode cL_areSetsSo 220 = .ok (.iload 9, 2) := by decide +kernel
theorem dL_areSetsSo_222 : decode cL_areSetsSo 222 = .ok (.iload 10, 2) := by decide +kernel
theorem dL_areSetsSo_224 : decode cL_areSetsSo 224 = .ok (.if_icmp .ne 19, 3) := by decide +kernel
theorem dL_areSetsSo_227 : decode cL_areSetsSo 227 = .ok (.iload 9, 2) := by decide +kernel
theorem dL_areSetsSo_229 : decode cL_areSetsSo 229 = .ok (.iload 5, 2) := by decide +kernel
theorem dL_areSetsSo_231 : decode cL_areSetsSo 231 = .ok (.if_icmp .eq 8, 3) := by decide +kernel
theorem dL_areSetsSo_234 : decode cL_areSetsSo 234 = .ok (.iload 9, 2) := by decide +kernel
theorem dL_areSetsSo_236 : decode cL_areSetsSo 236 = .ok (.ifCond .ge 7, 3) := by decide +kernel
theorem dL_areSetsSo_239 : decode cL_areSetsSo 239 = .ok (.iconst 1, 1) := by decide +kernel
theorem dL_areSetsSo_240 : decode cL_areSetsSo 240 = .ok (.goto 4, 3) := by decide +kernel
theorem dL_areSetsSo_243 : decode cL_areSetsSo 243 = .ok (.iconst 0, 1) := by decide +kernel
theorem dL_areSetsSo_244 : decode cL_areSetsSo 244 = .ok (.istore 7, 2) := by decide +kernel
theorem dL_areSetsSo_246 : decode cL_areSetsSo 246 = .ok (.iinc 8 1, 3) := by decide +kernel
theorem dL_areSetsSo_249 : decode cL_areSetsSo 249 = .ok (.goto (-144), 3) := by decide +kernel
theorem dL_areSetsSo_252 : decode cL_areSetsSo 252 = .ok (.iload 7, 2) := by decide +kernel
theorem dL_areSetsSo_254 : decode cL_areSetsSo 254 = .ok (.ifCond .eq 36, 3) := by decide +kernel
theorem dL_areSetsSo_257 : decode cL_areSetsSo 257 = .ok (.iload 6, 2) := by decide +kernel
theorem dL_areSetsSo_259 : decode cL_areSetsSo 259 = .ok (.ifCond .lt 27, 3) := by decide +kernel
theorem dL_areSetsSo_262 : decode cL_areSetsSo 262 = .ok (.iload 6, 2) := by decide +kernel
theorem dL_areSetsSo_264 : decode cL_areSetsSo 264 = .ok (.iload 5, 2) := by decide +kernel
theorem dL_areSetsSo_266 : decode cL_areSetsSo 266 = .ok (.if_icmp .lt 24, 3) := by decide +kernel
theorem dL_areSetsSo_269 : decode cL_areSetsSo 269 = .ok (.iload 5, 2) := by decide +kernel
theorem dL_areSetsSo_271 : decode cL_areSetsSo 271 = .ok (.ifCond .lt 19, 3) := by decide +kernel
theorem dL_areSetsSo_274 : decode cL_areSetsSo 274 = .ok (.aload_n 0, 1) := by decide +kernel
theorem dL_areSetsSo_275 : decode cL_areSetsSo 275 = .ok (.iconst 2, 1) := by decide +kernel
theorem dL_areSetsSo_276 : decode cL_areSetsSo 276 = .ok (.iload_n 1, 1) := by decide +kernel
theorem dL_areSetsSo_277 : decode cL_areSetsSo 277 = .ok (.iload_n 2, 1) := by decide +kernel
theorem dL_areSetsSo_278 : decode cL_areSetsSo 278 = .ok (.iconst 0, 1) := by decide +kernel
theorem dL_areSetsSo_279 : decode cL_areSetsSo 279 = .ok (.invokestatic 125, 3) := by decide +kernel
theorem dL_areSetsSo_282 : decode cL_areSetsSo 282 = .ok (.iconst 1, 1) := by decide +kernel
theorem dL_areSetsSo_283 : decode cL_areSetsSo 283 = .ok (.if_icmp .lt 7, 3) := by decide +kernel
theorem dL_areSetsSo_286 : decode cL_areSetsSo 286 = .ok (.iconst 1, 1) := by decide +kernel
theorem dL_areSetsSo_287 : decode cL_areSetsSo 287 = .ok (.goto 4, 3) := by decide +kernel
theorem dL_areSetsSo_290 : decode cL_areSetsSo 290 = .ok (.iconst 0, 1) := by decide +kernel
theorem dL_areSetsSo_291 : decode cL_areSetsSo 291 = .ok (.ireturn, 1) := by decide +kernel
theorem dL_law_0 : decode cL_law 0 = .ok (.new 9, 3) := by decide +kernel
theorem dL_law_3 : decode cL_law 3 = .ok (.dup, 1) := by decide +kernel
theorem dL_law_4 : decode cL_law 4 = .ok (.invokespecial 137, 3) := by decide +kernel
theorem dL_law_7 : decode cL_law 7 = .ok (.astore_n 1, 1) := by decide +kernel
theorem dL_law_8 : decode cL_law 8 = .ok (.new 9, 3) := by decide +kernel
theorem dL_law_11 : decode cL_law 11 = .ok (.dup, 1) := by decide +kernel
theorem dL_law_12 : decode cL_law 12 = .ok (.invokespecial 137, 3) := by decide +kernel
theorem dL_law_15 : decode cL_law 15 = .ok (.astore_n 2, 1) := by decide +kernel
theorem dL_law_16 : decode cL_law 16 = .ok (.aload_n 1, 1) := by decide +kernel
theorem dL_law_17 : decode cL_law 17 = .ok (.iconst 0, 1) := by decide +kernel
theorem dL_law_18 : decode cL_law 18 = .ok (.iconst 3, 1) := by decide +kernel
theorem dL_law_19 : decode cL_law 19 = .ok (.aload_n 0, 1) := by decide +kernel
theorem dL_law_20 : decode cL_law 20 = .ok (.iconst 0, 1) := by decide +kernel
theorem dL_law_21 : decode cL_law 21 = .ok (.invokestatic 138, 3) := by decide +kernel
theorem dL_law_24 : decode cL_law 24 = .ok (.bipush 6, 2) := by decide +kernel
theorem dL_law_26 : decode cL_law 26 = .ok (.invokestatic 100, 3) := by decide +kernel
theorem dL_law_29 : decode cL_law 29 = .ok (.iadd, 1) := by decide +kernel
theorem dL_law_30 : decode cL_law 30 = .ok (.iconst 0, 1) := by decide +kernel
theorem dL_law_31 : decode cL_law 31 = .ok (.invokestatic 113, 3) := by decide +kernel
theorem dL_law_34 : decode cL_law 34 = .ok (.iconst 1, 1) := by decide +kernel
theorem dL_law_35 : decode cL_law 35 = .ok (.if_icmp .ne 29, 3) := by decide +kernel
theorem dL_law_38 : decode cL_law 38 = .ok (.aload_n 2, 1) := by decide +kernel
theorem dL_law_39 : decode cL_law 39 = .ok (.iconst 0, 1) := by decide +kernel
theorem dL_law_40 : decode cL_law 40 = .ok (.iconst 3, 1) := by decide +kernel
theorem dL_law_41 : decode cL_law 41 = .ok (.aload_n 0, 1) := by decide +kernel
theorem dL_law_42 : decode cL_law 42 = .ok (.iconst 0, 1) := by decide +kernel
theorem dL_law_43 : decode cL_law 43 = .ok (.invokestatic 138, 3) := by decide +kernel
theorem dL_law_46 : decode cL_law 46 = .ok (.bipush 6, 2) := by decide +kernel
theorem dL_law_48 : decode cL_law 48 = .ok (.invokestatic 100, 3) := by decide +kernel
theorem dL_law_51 : decode cL_law 51 = .ok (.iadd, 1) := by decide +kernel
theorem dL_law_52 : decode cL_law 52 = .ok (.iconst 0, 1) := by decide +kernel
theorem dL_law_53 : decode cL_law 53 = .ok (.invokestatic 113, 3) := by decide +kernel
theorem dL_law_56 : decode cL_law 56 = .ok (.iconst 1, 1) := by decide +kernel
theorem dL_law_57 : decode cL_law 57 = .ok (.if_icmp .ne 7, 3) := by decide +kernel
theorem dL_law_60 : decode cL_law 60 = .ok (.iconst 1, 1) := by decide +kernel
theorem dL_law_61 : decode cL_law 61 = .ok (.goto 4, 3) := by decide +kernel
theorem dL_law_64 : decode cL_law 64 = .ok (.iconst 0, 1) := by decide +kernel
theorem dL_law_65 : decode cL_law 65 = .ok (.istore_n 3, 1) := by decide +kernel
theorem dL_law_66 : decode cL_law 66 = .ok (.iconst 1, 1) := by decide +kernel
theorem dL_law_67 : decode cL_law 67 = .ok (.istore 4, 2) := by decide +kernel
theorem dL_law_69 : decode cL_law 69 = .ok (.iload 4, 2) := by decide +kernel
theorem dL_law_71 : decode cL_law 71 = .ok (.bipush 72, 2) := by decide +kernel
theorem dL_law_73 : decode cL_law 73 = .ok (.if_icmp .ge 229, 3) := by decide +kernel
theorem dL_law_76 : decode cL_law 76 = .ok (.iload_n 3, 1) := by decide +kernel
theorem dL_law_77 : decode cL_law 77 = .ok (.ifCond .eq 225, 3) := by decide +kernel
theorem dL_law_80 : decode cL_law 80 = .ok (.aload_n 0, 1) := by decide +kernel
theorem dL_law_81 : decode cL_law 81 = .ok (.iload 4, 2) := by decide +kernel
theorem dL_law_83 : decode cL_law 83 = .ok (.invokestatic 138, 3) := by decide +kernel
theorem dL_law_86 : decode cL_law 86 = .ok (.istore 5, 2) := by decide +kernel
theorem dL_law_88 : decode cL_law 88 = .ok (.aload_n 1, 1) := by decide +kernel
theorem dL_law_89 : decode cL_law 89 = .ok (.iload 5, 2) := by decide +kernel
theorem dL_law_91 : decode cL_law 91 = .ok (.invokestatic 142, 3) := by decide +kernel
theorem dL_law_94 : decode cL_law 94 = .ok (.istore 6, 2) := by decide +kernel
theorem dL_law_96 : decode cL_law 96 = .ok (.iload 6, 2) := by decide +kernel
theorem dL_law_98 : decode cL_law 98 = .ok (.ifCond .lt 14, 3) := by decide +kernel
theorem dL_law_101 : decode cL_law 101 = .ok (.aload_n 2, 1) := by decide +kernel
theorem dL_law_102 : decode cL_law 102 = .ok (.iload 5, 2) := by decide +kernel
theorem dL_law_104 : decode cL_law 104 = .ok (.invokestatic 142, 3) := by decide +kernel
theorem dL_law_107 : decode cL_law 107 = .ok (.iload 6, 2) := by decide +kernel
theorem dL_law_109 : decode cL_law 109 = .ok (.if_icmp .ne 27, 3) := by decide +kernel
theorem dL_law_112 : decode cL_law 112 = .ok (.iload 4, 2) := by decide +kernel
theorem dL_law_114 : decode cL_law 114 = .ok (.iconst 3, 1) := by decide +kernel
theorem dL_law_115 : decode cL_law 115 = .ok (.irem, 1) := by decide +kernel
theorem dL_law_116 : decode cL_law 116 = .ok (.iconst 2, 1) := by decide +kernel
theorem dL_law_117 : decode cL_law 117 = .ok (.if_icmp .ne 15, 3) := by decide +kernel
theorem dL_law_120 : decode cL_law 120 = .ok (.aload_n 1, 1) := by decide +kernel
theorem dL_law_121 : decode cL_law 121 = .ok (.aload_n 2, 1) := by decide +kernel
theorem dL_law_122 : decode cL_law 122 = .ok (.iload 5, 2) := by decide +kernel
theorem dL_law_124 : decode cL_law 124 = .ok (.iconst 4, 1) := by decide +kernel
theorem dL_law_125 : decode cL_law 125 = .ok (.ishr, 1) := by decide +kernel
theorem dL_law_126 : decode cL_law 126 = .ok (.invokestatic 145, 3) := by decide +kernel
theorem dL_law_129 : decode cL_law 129 = .ok (.ifCond .eq 7, 3) := by decide +kernel
theorem dL_law_132 : decode cL_law 132 = .ok (.iconst 1, 1) := by decide +kernel
theorem dL_law_133 : decode cL_law 133 = .ok (.goto 4, 3) := by decide +kernel
theorem dL_law_136 : decode cL_law 136 = .ok (.iconst 0, 1) := by decide +kernel
theorem dL_law_137 : decode cL_law 137 = .ok (.istore_n 3, 1) := by decide +kernel
theorem dL_law_138 : decode cL_law 138 = .ok (.iload 5, 2) := by decide +kernel
theorem dL_law_140 : decode cL_law 140 = .ok (.bipush 7, 2) := by decide +kernel
theorem dL_law_142 : decode cL_law 142 = .ok (.ishr, 1) := by decide +kernel
theorem dL_law_143 : decode cL_law 143 = .ok (.aload_n 1, 1) := by decide +kernel
theorem dL_law_144 : decode cL_law 144 = .ok (.invokevirtual 103, 3) := by decide +kernel
theorem dL_law_147 : decode cL_law 147 = .ok (.invokestatic 100, 3) := by decide +kernel
theorem dL_law_150 : decode cL_law 150 = .ok (.istore 7, 2) := by decide +kernel
theorem dL_law_152 : decode cL_law 152 = .ok (.iload 7, 2) := by decide +kernel
theorem dL_law_154 : decode cL_law 154 = .ok (.iconst 1, 1) := by decide +kernel
theorem dL_law_155 : decode cL_law 155 = .ok (.iadd, 1) := by decide +kernel
theorem dL_law_156 : decode cL_law 156 = .ok (.iload 5, 2) := by decide +kernel
theorem dL_law_158 : decode cL_law 158 = .ok (.iconst 2, 1) := by decide +kernel
theorem dL_law_159 : decode cL_law 159 = .ok (.ishr, 1) := by decide +kernel
theorem dL_law_160 : decode cL_law 160 = .ok (.aload_n 1, 1) := by decide +kernel
theorem dL_law_161 : decode cL_law 161 = .ok (.invokevirtual 103, 3) := by decide +kernel
theorem dL_law_164 : decode cL_law 164 = .ok (.iconst 1, 1) := by decide +kernel
theorem dL_law_165 : decode cL_law 165 = .ok (.isub, 1) := by decide +kernel
theorem dL_law_166 : decode cL_law 166 = .ok (.invokestatic 100, 3) := by decide +kernel
theorem dL_law_169 : decode cL_law 169 = .ok (.iadd, 1) := by decide +kernel
theorem dL_law_170 : decode cL_law 170 = .ok (.aload_n 1, 1) := by decide +kernel
theorem dL_law_171 : decode cL_law 171 = .ok (.invokevirtual 103, 3) := by decide +kernel
theorem dL_law_174 : decode cL_law 174 = .ok (.irem, 1) := by decide +kernel
theorem dL_law_175 : decode cL_law 175 = .ok (.istore 8, 2) := by decide +kernel
theorem dL_law_177 : decode cL_law 177 = .ok (.iload 4, 2) := by decide +kernel
theorem dL_law_179 : decode cL_law 179 = .ok (.bipush 6, 2) := by decide +kernel
theorem dL_law_181 : decode cL_law 181 = .ok (.irem, 1) := by decide +kernel
theorem dL_law_182 : decode cL_law 182 = .ok (.iconst 1, 1) := by decide +kernel
theorem dL_law_183 : decode cL_law 183 = .ok (.if_icmp .ne 35, 3) := by decide +kernel
theorem dL_law_186 : decode cL_law 186 = .ok (.iload_n 3, 1) := by decide +kernel
theorem dL_law_187 : decode cL_law 187 = .ok (.ifCond .eq 29, 3) := by decide +kernel
theorem dL_law_190 : decode cL_law 190 = .ok (.aload_n 1, 1) := by decide +kernel
theorem dL_law_191 : decode cL_law 191 = .ok (.iload 7, 2) := by decide +kernel
theorem dL_law_193 : decode cL_law 193 = .ok (.iload 8, 2) := by decide +kernel
theorem dL_law_195 : decode cL_law 195 = .ok (.invokestatic 149, 3) := by decide +kernel
theorem dL_law_198 : decode cL_law 198 = .ok (.ifCond .eq 18, 3) := by decide +kernel
theorem dL_law_201 : decode cL_law 201 = .ok (.aload_n 2, 1) := by decide +kernel
theorem dL_law_202 : decode cL_law 202 = .ok (.iload 7, 2) := by decide +kernel
theorem dL_law_204 : decode cL_law 204 = .ok (.iload 8, 2) := by decide +kernel
theorem dL_law_206 : decode cL_law 206 = .ok (.invokestatic 149, 3) := by decide +kernel
theorem dL_law_209 : decode cL_law 209 = .ok (.ifCond .eq 7, 3) := by decide +kernel
theorem dL_law_212 : decode cL_law 212 = .ok (.iconst 1, 1) := by decide +kernel
theorem dL_law_213 : decode cL_law 213 = .ok (.goto 4, 3) := by decide +kernel
theorem dL_law_216 : decode cL_law 216 = .ok (.iconst 0, 1) := by decide +kernel
theorem dL_law_217 : decode cL_law 217 = .ok (.istore_n 3, 1) := by decide +kernel
theorem dL_law_218 : decode cL_law 218 = .ok (.iload 4, 2) := by decide +kernel
theorem dL_law_220 : decode cL_law 220 = .ok (.bipush 6, 2) := by decide +kernel
theorem dL_law_222 : decode cL_law 222 = .ok (.irem, 1) := by decide +kernel
theorem dL_law_223 : decode cL_law 223 = .ok (.iconst 4, 1) := by decide +kernel
theorem dL_law_224 : decode cL_law 224 = .ok (.if_icmp .ne 72, 3) := by decide +kernel
theorem dL_law_227 : decode cL_law 227 = .ok (.iload_n 3, 1) := by decide +kernel
theorem dL_law_228 : decode cL_law 228 = .ok (.ifCond .eq 66, 3) := by decide +kernel
theorem dL_law_231 : decode cL_law 231 = .ok (.aload_n 1, 1) := by decide +kernel
theorem dL_law_232 : decode cL_law 232 = .ok (.iload 7, 2) := by decide +kernel
theorem dL_law_234 : decode cL_law 234 = .ok (.iload 5, 2) := by decide +kernel
theorem dL_law_236 : decode cL_law 236 = .ok (.bipush 8, 2) := by decide +kernel
theorem dL_law_238 : decode cL_law 238 = .ok (.iand, 1) := by decide +kernel
theorem dL_law_239 : decode cL_law 239 = .ok (.ifCond .ne 8, 3) := by decide +kernel
theorem dL_law_242 : decode cL_law 242 = .ok (.iload 7, 2) := by decide +kernel
theorem dL_law_244 : decode cL_law 244 = .ok (.goto 5, 3) := by decide +kernel
theorem dL_law_247 : decode cL_law 247 = .ok (.iload 8, 2) := by decide +kernel
theorem dL_law_249 : decode cL_law 249 = .ok (.invokestatic 153, 3) := by decide +kernel
theorem dL_law_252 : decode cL_law 252 = .ok (.ifCond .eq 42, 3) := by decide +kernel
theorem dL_law_255 : decode cL_law 255 = .ok (.aload_n 2, 1) := by decide +kernel
theorem dL_law_256 : decode cL_law 256 = .ok (.iload 7, 2) := by decide +kernel
theorem dL_law_258 : decode cL_law 258 = .ok (.iload 5, 2) := by decide +kernel
theorem dL_law_260 : decode cL_law 260 = .ok (.bipush 8, 2) := by decide +kernel
theorem dL_law_262 : decode cL_law 262 = .ok (.iand, 1) := by decide +kernel
theorem dL_law_263 : decode cL_law 263 = .ok (.ifCond .ne 8, 3) := by decide +kernel
theorem dL_law_266 : decode cL_law 266 = .ok (.iload 7, 2) := by decide +kernel
theorem dL_law_268 : decode cL_law 268 = .ok (.goto 5, 3) := by decide +kernel
theorem dL_law_271 : decode cL_law 271 = .ok (.iload 8, 2) := by decide +kernel
theorem dL_law_273 : decode cL_law 273 = .ok (.invokestatic 153, 3) := by decide +kernel
theorem dL_law_276 : decode cL_law 276 = .ok (.ifCond .eq 18, 3) := by decide +kernel
theorem dL_law_279 : decode cL_law 279 = .ok (.aload_n 1, 1) := by decide +kernel
theorem dL_law_280 : decode cL_law 280 = .ok (.iload 7, 2) := by decide +kernel
theorem dL_law_282 : decode cL_law 282 = .ok (.iload 8, 2) := by decide +kernel
theorem dL_law_284 : decode cL_law 284 = .ok (.invokestatic 156, 3) := by decide +kernel
theorem dL_law_287 : decode cL_law 287 = .ok (.ifCond .eq 7, 3) := by decide +kernel
theorem dL_law_290 : decode cL_law 290 = .ok (.iconst 1, 1) := by decide +kernel
theorem dL_law_291 : decode cL_law 291 = .ok (.goto 4, 3) := by decide +kernel
theorem dL_law_294 : decode cL_law 294 = .ok (.iconst 0, 1) := by decide +kernel
theorem dL_law_295 : decode cL_law 295 = .ok (.istore_n 3, 1) := by decide +kernel
theorem dL_law_296 : decode cL_law 296 = .ok (.iinc 4 1, 3) := by decide +kernel
theorem dL_law_299 : decode cL_law 299 = .ok (.goto (-230), 3) := by decide +kernel
theorem dL_law_302 : decode cL_law 302 = .ok (.iload_n 3, 1) := by decide +kernel
theorem dL_law_303 : decode cL_law 303 = .ok (.ifCond .eq 17, 3) := by decide +kernel
theorem dL_law_306 : decode cL_law 306 = .ok (.aload_n 1, 1) := by decide +kernel
theorem dL_law_307 : decode cL_law 307 = .ok (.aload_n 2, 1) := by decide +kernel
theorem dL_law_308 : decode cL_law 308 = .ok (.bipush 77, 2) := by decide +kernel
theorem dL_law_310 : decode cL_law 310 = .ok (.invokestatic 145, 3) := by decide +kernel
theorem dL_law_313 : decode cL_law 313 = .ok (.ifCond .eq 7, 3) := by decide +kernel
theorem dL_law_316 : decode cL_law 316 = .ok (.iconst 1, 1) := by decide +kernel
theorem dL_law_317 : decode cL_law 317 = .ok (.goto 4, 3) := by decide +kernel
theorem dL_law_320 : decode cL_law 320 = .ok (.iconst 0, 1) := by decide +kernel
theorem dL_law_321 : decode cL_law 321 = .ok (.ireturn, 1) := by decide +kernel
