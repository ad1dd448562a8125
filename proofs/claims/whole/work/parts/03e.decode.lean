theorem dX5_open_53 : decode cX5_open 53 = .ok (.iload_n 2, 1) := by decide +kernel
theorem dX5_open_54 : decode cX5_open 54 = .ok (.aload_n 0, 1) := by decide +kernel
theorem dX5_open_55 : decode cX5_open 55 = .ok (.getfield 152, 3) := by decide +kernel
theorem dX5_open_58 : decode cX5_open 58 = .ok (.iastore, 1) := by decide +kernel
theorem dX5_open_59 : decode cX5_open 59 = .ok (.aload_n 0, 1) := by decide +kernel
theorem dX5_open_60 : decode cX5_open 60 = .ok (.getfield 49, 3) := by decide +kernel
theorem dX5_open_63 : decode cX5_open 63 = .ok (.iload_n 2, 1) := by decide +kernel
theorem dX5_open_64 : decode cX5_open 64 = .ok (.iload_n 1, 1) := by decide +kernel
theorem dX5_open_65 : decode cX5_open 65 = .ok (.iastore, 1) := by decide +kernel
theorem dX5_open_66 : decode cX5_open 66 = .ok (.aload_n 0, 1) := by decide +kernel
theorem dX5_open_67 : decode cX5_open 67 = .ok (.invokevirtual 155, 3) := by decide +kernel
theorem dX5_open_70 : decode cX5_open 70 = .ok (.return_, 1) := by decide +kernel
theorem dX5_step_0 : decode cX5_step 0 = .ok (.aload_n 0, 1) := by decide +kernel
theorem dX5_step_1 : decode cX5_step 1 = .ok (.getfield 95, 3) := by decide +kernel
theorem dX5_step_4 : decode cX5_step 4 = .ok (.ifCond .ne 6, 3) := by decide +kernel
theorem dX5_step_7 : decode cX5_step 7 = .ok (.bipush (-6), 2) := by decide +kernel
theorem dX5_step_9 : decode cX5_step 9 = .ok (.ireturn, 1) := by decide +kernel
theorem dX5_step_10 : decode cX5_step 10 = .ok (.aload_n 0, 1) := by decide +kernel
theorem dX5_step_11 : decode cX5_step 11 = .ok (.invokevirtual 171, 3) := by decide +kernel
theorem dX5_step_14 : decode cX5_step 14 = .ok (.istore_n 1, 1) := by decide +kernel
theorem dX5_step_15 : decode cX5_step 15 = .ok (.iload_n 1, 1) := by decide +kernel
theorem dX5_step_16 : decode cX5_step 16 = .ok (.ifCond .ge 6, 3) := by decide +kernel
theorem dX5_step_19 : decode cX5_step 19 = .ok (.bipush (-7), 2) := by decide +kernel
theorem dX5_step_21 : decode cX5_step 21 = .ok (.ireturn, 1) := by decide +kernel
theorem dX5_step_22 : decode cX5_step 22 = .ok (.aload_n 0, 1) := by decide +kernel
theorem dX5_step_23 : decode cX5_step 23 = .ok (.iload_n 1, 1) := by decide +kernel
theorem dX5_step_24 : decode cX5_step 24 = .ok (.invokevirtual 175, 3) := by decide +kernel
theorem dX5_step_27 : decode cX5_step 27 = .ok (.iload_n 1, 1) := by decide +kernel
theorem dX5_step_28 : decode cX5_step 28 = .ok (.ireturn, 1) := by decide +kernel
theorem dX5_run_0 : decode cX5_run 0 = .ok (.aload_n 0, 1) := by decide +kernel
theorem dX5_run_1 : decode cX5_run 1 = .ok (.getfield 95, 3) := by decide +kernel
theorem dX5_run_4 : decode cX5_run 4 = .ok (.ifCond .ne 6, 3) := by decide +kernel
theorem dX5_run_7 : decode cX5_run 7 = .ok (.bipush (-6), 2) := by decide +kernel
theorem dX5_run_9 : decode cX5_run 9 = .ok (.ireturn, 1) := by decide +kernel
theorem dX5_run_10 : decode cX5_run 10 = .ok (.iload_n 1, 1) := by decide +kernel
theorem dX5_run_11 : decode cX5_run 11 = .ok (.ifCond .lt 10, 3) := by decide +kernel
theorem dX5_run_14 : decode cX5_run 14 = .ok (.iload_n 1, 1) := by decide +kernel
theorem dX5_run_15 : decode cX5_run 15 = .ok (.sipush 200, 3) := by decide +kernel
theorem dX5_run_18 : decode cX5_run 18 = .ok (.if_icmp .le 5, 3) := by decide +kernel
theorem dX5_run_21 : decode cX5_run 21 = .ok (.iconst (-1), 1) := by decide +kernel
theorem dX5_run_22 : decode cX5_run 22 = .ok (.ireturn, 1) := by decide +kernel
theorem dX5_run_23 : decode cX5_run 23 = .ok (.iconst 0, 1) := by decide +kernel
theorem dX5_run_24 : decode cX5_run 24 = .ok (.istore_n 2, 1) := by decide +kernel
theorem dX5_run_25 : decode cX5_run 25 = .ok (.aload_n 0, 1) := by decide +kernel
theorem dX5_run_26 : decode cX5_run 26 = .ok (.invokevirtual 171, 3) := by decide +kernel
theorem dX5_run_29 : decode cX5_run 29 = .ok (.istore_n 3, 1) := by decide +kernel
theorem dX5_run_30 : decode cX5_run 30 = .ok (.iload_n 2, 1) := by decide +kernel
theorem dX5_run_31 : decode cX5_run 31 = .ok (.iload_n 1, 1) := by decide +kernel
theorem dX5_run_32 : decode cX5_run 32 = .ok (.if_icmp .ge 23, 3) := by decide +kernel
theorem dX5_run_35 : decode cX5_run 35 = .ok (.iload_n 3, 1) := by decide +kernel
theorem dX5_run_36 : decode cX5_run 36 = .ok (.ifCond .lt 19, 3) := by decide +kernel
theorem dX5_run_39 : decode cX5_run 39 = .ok (.aload_n 0, 1) := by decide +kernel
theorem dX5_run_40 : decode cX5_run 40 = .ok (.iload_n 3, 1) := by decide +kernel
theorem dX5_run_41 : decode cX5_run 41 = .ok (.invokevirtual 175, 3) := by decide +kernel
theorem dX5_run_44 : decode cX5_run 44 = .ok (.iinc 2 1, 3) := by decide +kernel
theorem dX5_run_47 : decode cX5_run 47 = .ok (.aload_n 0, 1) := by decide +kernel
theorem dX5_run_48 : decode cX5_run 48 = .ok (.invokevirtual 171, 3) := by decide +kernel
theorem dX5_run_51 : decode cX5_run 51 = .ok (.istore_n 3, 1) := by decide +kernel
theorem dX5_run_52 : decode cX5_run 52 = .ok (.goto (-22), 3) := by decide +kernel
theorem dX5_run_55 : decode cX5_run 55 = .ok (.iload_n 2, 1) := by decide +kernel
theorem dX5_run_56 : decode cX5_run 56 = .ok (.ireturn, 1) := by decide +kernel
theorem dX5_undo_0 : decode cX5_undo 0 = .ok (.aload_n 0, 1) := by decide +kernel
theorem dX5_undo_1 : decode cX5_undo 1 = .ok (.getfield 95, 3) := by decide +kernel
theorem dX5_undo_4 : decode cX5_undo 4 = .ok (.ifCond .ne 6, 3) := by decide +kernel
theorem dX5_undo_7 : decode cX5_undo 7 = .ok (.bipush (-6), 2) := by decide +kernel
theorem dX5_undo_9 : decode cX5_undo 9 = .ok (.ireturn, 1) := by decide +kernel
theorem dX5_undo_10 : decode cX5_undo 10 = .ok (.iload_n 1, 1) := by decide +kernel
theorem dX5_undo_11 : decode cX5_undo 11 = .ok (.ifCond .lt 11, 3) := by decide +kernel
theorem dX5_undo_14 : decode cX5_undo 14 = .ok (.iload_n 1, 1) := by decide +kernel
theorem dX5_undo_15 : decode cX5_undo 15 = .ok (.aload_n 0, 1) := by decide +kernel
theorem dX5_undo_16 : decode cX5_undo 16 = .ok (.getfield 152, 3) := by decide +kernel
theorem dX5_undo_19 : decode cX5_undo 19 = .ok (.if_icmp .le 5, 3) := by decide +kernel
theorem dX5_undo_22 : decode cX5_undo 22 = .ok (.iconst (-1), 1) := by decide +kernel
theorem dX5_undo_23 : decode cX5_undo 23 = .ok (.ireturn, 1) := by decide +kernel
theorem dX5_undo_24 : decode cX5_undo 24 = .ok (.aload_n 0, 1) := by decide +kernel
theorem dX5_undo_25 : decode cX5_undo 25 = .ok (.dup, 1) := by decide +kernel
theorem dX5_undo_26 : decode cX5_undo 26 = .ok (.getfield 152, 3) := by decide +kernel
theorem dX5_undo_29 : decode cX5_undo 29 = .ok (.iload_n 1, 1) := by decide +kernel
theorem dX5_undo_30 : decode cX5_undo 30 = .ok (.isub, 1) := by decide +kernel
theorem dX5_undo_31 : decode cX5_undo 31 = .ok (.putfield 152, 3) := by decide +kernel
theorem dX5_undo_34 : decode cX5_undo 34 = .ok (.iconst 0, 1) := by decide +kernel
theorem dX5_undo_35 : decode cX5_undo 35 = .ok (.istore_n 2, 1) := by decide +kernel
theorem dX5_undo_36 : decode cX5_undo 36 = .ok (.iload_n 2, 1) := by decide +kernel
theorem dX5_undo_37 : decode cX5_undo 37 = .ok (.aload_n 0, 1) := by decide +kernel
theorem dX5_undo_38 : decode cX5_undo 38 = .ok (.getfield 88, 3) := by decide +kernel
theorem dX5_undo_41 : decode cX5_undo 41 = .ok (.if_icmp .ge 65, 3) := by decide +kernel
theorem dX5_undo_44 : decode cX5_undo 44 = .ok (.aload_n 0, 1) := by decide +kernel
theorem dX5_undo_45 : decode cX5_undo 45 = .ok (.getfield 46, 3) := by decide +kernel
theorem dX5_undo_48 : decode cX5_undo 48 = .ok (.iload_n 2, 1) := by decide +kernel
theorem dX5_undo_49 : decode cX5_undo 49 = .ok (.iaload, 1) := by decide +kernel
theorem dX5_undo_50 : decode cX5_undo 50 = .ok (.aload_n 0, 1) := by decide +kernel
theorem dX5_undo_51 : decode cX5_undo 51 = .ok (.getfield 152, 3) := by decide +kernel
theorem dX5_undo_54 : decode cX5_undo 54 = .ok (.if_icmp .le 17, 3) := by decide +kernel
theorem dX5_undo_57 : decode cX5_undo 57 = .ok (.aload_n 0, 1) := by decide +kernel
theorem dX5_undo_58 : decode cX5_undo 58 = .ok (.getfield 46, 3) := by decide +kernel
theorem dX5_undo_61 : decode cX5_undo 61 = .ok (.iload_n 2, 1) := by decide +kernel
theorem dX5_undo_62 : decode cX5_undo 62 = .ok (.iconst (-1), 1) := by decide +kernel
theorem dX5_undo_63 : decode cX5_undo 63 = .ok (.iastore, 1) := by decide +kernel
theorem dX5_undo_64 : decode cX5_undo 64 = .ok (.aload_n 0, 1) := by decide +kernel
theorem dX5_undo_65 : decode cX5_undo 65 = .ok (.getfield 49, 3) := by decide +kernel
theorem dX5_undo_68 : decode cX5_undo 68 = .ok (.iload_n 2, 1) := by decide +kernel
theorem dX5_undo_69 : decode cX5_undo 69 = .ok (.iconst (-1), 1) := by decide +kernel
theorem dX5_undo_70 : decode cX5_undo 70 = .ok (.iastore, 1) := by decide +kernel
theorem dX5_undo_71 : decode cX5_undo 71 = .ok (.aload_n 0, 1) := by decide +kernel
theorem dX5_undo_72 : decode cX5_undo 72 = .ok (.getfield 52, 3) := by decide +kernel
theorem dX5_undo_75 : decode cX5_undo 75 = .ok (.iload_n 2, 1) := by decide +kernel
theorem dX5_undo_76 : decode cX5_undo 76 = .ok (.aload_n 0, 1) := by decide +kernel
theorem dX5_undo_77 : decode cX5_undo 77 = .ok (.getfield 52, 3) := by decide +kernel
theorem dX5_undo_80 : decode cX5_undo 80 = .ok (.iload_n 2, 1) := by decide +kernel
theorem dX5_undo_81 : decode cX5_undo 81 = .ok (.iaload, 1) := by decide +kernel
theorem dX5_undo_82 : decode cX5_undo 82 = .ok (.aload_n 0, 1) := by decide +kernel
theorem dX5_undo_83 : decode cX5_undo 83 = .ok (.getfield 152, 3) := by decide +kernel
theorem dX5_undo_86 : decode cX5_undo 86 = .ok (.if_icmp .le 7, 3) := by decide +kernel
theorem dX5_undo_89 : decode cX5_undo 89 = .ok (.iconst (-1), 1) := by decide +kernel
theorem dX5_undo_90 : decode cX5_undo 90 = .ok (.goto 9, 3) := by decide +kernel
theorem dX5_undo_93 : decode cX5_undo 93 = .ok (.aload_n 0, 1) := by decide +kernel
theorem dX5_undo_94 : decode cX5_undo 94 = .ok (.getfield 52, 3) := by decide +kernel
theorem dX5_undo_97 : decode cX5_undo 97 = .ok (.iload_n 2, 1) := by decide +kernel
theorem dX5_undo_98 : decode cX5_undo 98 = .ok (.iaload, 1) := by decide +kernel
theorem dX5_undo_99 : decode cX5_undo 99 = .ok (.iastore, 1) := by decide +kernel
theorem dX5_undo_100 : decode cX5_undo 100 = .ok (.iinc 2 1, 3) := by decide +kernel
theorem dX5_undo_103 : decode cX5_undo 103 = .ok (.goto (-67), 3) := by decide +kernel
theorem dX5_undo_106 : decode cX5_undo 106 = .ok (.aload_n 0, 1) := by decide +kernel
theorem dX5_undo_107 : decode cX5_undo 107 = .ok (.getfield 152, 3) := by decide +kernel
theorem dX5_undo_110 : decode cX5_undo 110 = .ok (.ireturn, 1) := by decide +kernel
theorem dX5_tellLakes_0 : decode cX5_tellLakes 0 = .ok (.aload_n 0, 1) := by decide +kernel
theorem dX5_tellLakes_1 : decode cX5_tellLakes 1 = .ok (.iconst 0, 1) := by decide +kernel
theorem dX5_tellLakes_2 : decode cX5_tellLakes 2 = .ok (.putfield 179, 3) := by decide +kernel
theorem dX5_tellLakes_5 : decode cX5_tellLakes 5 = .ok (.iconst 0, 1) := by decide +kernel
theorem dX5_tellLakes_6 : decode cX5_tellLakes 6 = .ok (.istore_n 1, 1) := by decide +kernel
theorem dX5_tellLakes_7 : decode cX5_tellLakes 7 = .ok (.iload_n 1, 1) := by decide +kernel
theorem dX5_tellLakes_8 : decode cX5_tellLakes 8 = .ok (.aload_n 0, 1) := by decide +kernel
theorem dX5_tellLakes_9 : decode cX5_tellLakes 9 = .ok (.getfield 88, 3) := by decide +kernel
theorem dX5_tellLakes_12 : decode cX5_tellLakes 12 = .ok (.if_icmp .ge 16, 3) := by decide +kernel
theorem dX5_tellLakes_15 : decode cX5_tellLakes 15 = .ok (.aload_n 0, 1) := by decide +kernel
theorem dX5_tellLakes_16 : decode cX5_tellLakes 16 = .ok (.getfield 67, 3) := by decide +kernel
theorem dX5_tellLakes_19 : decode cX5_tellLakes 19 = .ok (.iload_n 1, 1) := by decide +kernel
theorem dX5_tellLakes_20 : decode cX5_tellLakes 20 = .ok (.iconst (-1), 1) := by decide +kernel
theorem dX5_tellLakes_21 : decode cX5_tellLakes 21 = .ok (.iastore, 1) := by decide +kernel
theorem dX5_tellLakes_22 : decode cX5_tellLakes 22 = .ok (.iinc 1 1, 3) := by decide +kernel
theorem dX5_tellLakes_25 : decode cX5_tellLakes 25 = .ok (.goto (-18), 3) := by decide +kernel
theorem dX5_tellLakes_28 : decode cX5_tellLakes 28 = .ok (.iconst 0, 1) := by decide +kernel
theorem dX5_tellLakes_29 : decode cX5_tellLakes 29 = .ok (.istore_n 1, 1) := by decide +kernel
theorem dX5_tellLakes_30 : decode cX5_tellLakes 30 = .ok (.iload_n 1, 1) := by decide +kernel
theorem dX5_tellLakes_31 : decode cX5_tellLakes 31 = .ok (.aload_n 0, 1) := by decide +kernel
theorem dX5_tellLakes_32 : decode cX5_tellLakes 32 = .ok (.getfield 152, 3) := by decide +kernel
theorem dX5_tellLakes_35 : decode cX5_tellLakes 35 = .ok (.if_icmp .gt 69, 3) := by decide +kernel
theorem dX5_tellLakes_38 : decode cX5_tellLakes 38 = .ok (.iconst 0, 1) := by decide +kernel
theorem dX5_tellLakes_39 : decode cX5_tellLakes 39 = .ok (.istore_n 2, 1) := by decide +kernel
theorem dX5_tellLakes_40 : decode cX5_tellLakes 40 = .ok (.iload_n 2, 1) := by decide +kernel
theorem dX5_tellLakes_41 : decode cX5_tellLakes 41 = .ok (.aload_n 0, 1) := by decide +kernel
theorem dX5_tellLakes_42 : decode cX5_tellLakes 42 = .ok (.getfield 88, 3) := by decide +kernel
theorem dX5_tellLakes_45 : decode cX5_tellLakes 45 = .ok (.if_icmp .ge 53, 3) := by decide +kernel
theorem dX5_tellLakes_48 : decode cX5_tellLakes 48 = .ok (.aload_n 0, 1) := by decide +kernel
theorem dX5_tellLakes_49 : decode cX5_tellLakes 49 = .ok (.getfield 52, 3) := by decide +kernel
theorem dX5_tellLakes_52 : decode cX5_tellLakes 52 = .ok (.iload_n 2, 1) := by decide +kernel
theorem dX5_tellLakes_53 : decode cX5_tellLakes 53 = .ok (.iaload, 1) := by decide +kernel
theorem dX5_tellLakes_54 : decode cX5_tellLakes 54 = .ok (.iload_n 1, 1) := by decide +kernel
theorem dX5_tellLakes_55 : decode cX5_tellLakes 55 = .ok (.if_icmp .ne 37, 3) := by decide +kernel
theorem dX5_tellLakes_58 : decode cX5_tellLakes 58 = .ok (.aload_n 0, 1) := by decide +kernel
theorem dX5_tellLakes_59 : decode cX5_tellLakes 59 = .ok (.getfield 67, 3) := by decide +kernel
theorem dX5_tellLakes_62 : decode cX5_tellLakes 62 = .ok (.iload_n 2, 1) := by decide +kernel
theorem dX5_tellLakes_63 : decode cX5_tellLakes 63 = .ok (.iaload, 1) := by decide +kernel
theorem dX5_tellLakes_64 : decode cX5_tellLakes 64 = .ok (.ifCond .ge 28, 3) := by decide +kernel
theorem dX5_tellLakes_67 : decode cX5_tellLakes 67 = .ok (.aload_n 0, 1) := by decide +kernel
theorem dX5_tellLakes_68 : decode cX5_tellLakes 68 = .ok (.getfield 67, 3) := by decide +kernel
theorem dX5_tellLakes_71 : decode cX5_tellLakes 71 = .ok (.iload_n 2, 1) := by decide +kernel
theorem dX5_tellLakes_72 : decode cX5_tellLakes 72 = .ok (.aload_n 0, 1) := by decide +kernel
theorem dX5_tellLakes_73 : decode cX5_tellLakes 73 = .ok (.getfield 179, 3) := by decide +kernel
theorem dX5_tellLakes_76 : decode cX5_tellLakes 76 = .ok (.iastore, 1) := by decide +kernel
theorem dX5_tellLakes_77 : decode cX5_tellLakes 77 = .ok (.aload_n 0, 1) := by decide +kernel
theorem dX5_tellLakes_78 : decode cX5_tellLakes 78 = .ok (.iload_n 1, 1) := by decide +kernel
theorem dX5_tellLakes_79 : decode cX5_tellLakes 79 = .ok (.invokevirtual 182, 3) := by decide +kernel
theorem dX5_tellLakes_82 : decode cX5_tellLakes 82 = .ok (.aload_n 0, 1) := by decide +kernel
theorem dX5_tellLakes_83 : decode cX5_tellLakes 83 = .ok (.dup, 1) := by decide +kernel
theorem dX5_tellLakes_84 : decode cX5_tellLakes 84 = .ok (.getfield 179, 3) := by decide +kernel
theorem dX5_tellLakes_87 : decode cX5_tellLakes 87 = .ok (.iconst 1, 1) := by decide +kernel
theorem dX5_tellLakes_88 : decode cX5_tellLakes 88 = .ok (.iadd, 1) := by decide +kernel
theorem dX5_tellLakes_89 : decode cX5_tellLakes 89 = .ok (.putfield 179, 3) := by decide +kernel
theorem dX5_tellLakes_92 : decode cX5_tellLakes 92 = .ok (.iinc 2 1, 3) := by decide +kernel
theorem dX5_tellLakes_95 : decode cX5_tellLakes 95 = .ok (.goto (-55), 3) := by decide +kernel
theorem dX5_tellLakes_98 : decode cX5_tellLakes 98 = .ok (.iinc 1 1, 3) := by decide +kernel
theorem dX5_tellLakes_101 : decode cX5_tellLakes 101 = .ok (.goto (-71), 3) := by decide +kernel
theorem dX5_tellLakes_104 : decode cX5_tellLakes 104 = .ok (.return_, 1) := by decide +kernel
theorem dX5_spreadLake_0 : decode cX5_spreadLake 0 = .ok (.iconst 1, 1) := by decide +kernel
theorem dX5_spreadLake_1 : decode cX5_spreadLake 1 = .ok (.istore_n 2, 1) := by decide +kernel
theorem dX5_spreadLake_2 : decode cX5_spreadLake 2 = .ok (.iload_n 2, 1) := by decide +kernel
theorem dX5_spreadLake_3 : decode cX5_spreadLake 3 = .ok (.ifCond .eq 148, 3) := by decide +kernel
theorem dX5_spreadLake_6 : decode cX5_spreadLake 6 = .ok (.iconst 0, 1) := by decide +kernel
theorem dX5_spreadLake_7 : decode cX5_spreadLake 7 = .ok (.istore_n 2, 1) := by decide +kernel
theorem dX5_spreadLake_8 : decode cX5_spreadLake 8 = .ok (.iconst 0, 1) := by decide +kernel
theorem dX5_spreadLake_9 : decode cX5_spreadLake 9 = .ok (.istore_n 3, 1) := by decide +kernel
theorem dX5_spreadLake_10 : decode cX5_spreadLake 10 = .ok (.iload_n 3, 1) := by decide +kernel
theorem dX5_spreadLake_11 : decode cX5_spreadLake 11 = .ok (.aload_n 0, 1) := by decide +kernel
theorem dX5_spreadLake_12 : decode cX5_spreadLake 12 = .ok (.getfield 92, 3) := by decide +kernel
theorem dX5_spreadLake_15 : decode cX5_spreadLake 15 = .ok (.if_icmp .ge 133, 3) := by decide +kernel
theorem dX5_spreadLake_18 : decode cX5_spreadLake 18 = .ok (.aload_n 0, 1) := by decide +kernel
theorem dX5_spreadLake_19 : decode cX5_spreadLake 19 = .ok (.getfield 17, 3) := by decide +kernel
theorem dX5_spreadLake_22 : decode cX5_spreadLake 22 = .ok (.iload_n 3, 1) := by decide +kernel
theorem dX5_spreadLake_23 : decode cX5_spreadLake 23 = .ok (.iaload, 1) := by decide +kernel
theorem dX5_spreadLake_24 : decode cX5_spreadLake 24 = .ok (.istore 4, 2) := by decide +kernel
theorem dX5_spreadLake_26 : decode cX5_spreadLake 26 = .ok (.aload_n 0, 1) := by decide +kernel
theorem dX5_spreadLake_27 : decode cX5_spreadLake 27 = .ok (.getfield 20, 3) := by decide +kernel
theorem dX5_spreadLake_30 : decode cX5_spreadLake 30 = .ok (.iload_n 3, 1) := by decide +kernel
theorem dX5_spreadLake_31 : decode cX5_spreadLake 31 = .ok (.iaload, 1) := by decide +kernel
theorem dX5_spreadLake_32 : decode cX5_spreadLake 32 = .ok (.istore 5, 2) := by decide +kernel
theorem dX5_spreadLake_34 : decode cX5_spreadLake 34 = .ok (.aload_n 0, 1) := by decide +kernel
theorem dX5_spreadLake_35 : decode cX5_spreadLake 35 = .ok (.getfield 26, 3) := by decide +kernel
theorem dX5_spreadLake_38 : decode cX5_spreadLake 38 = .ok (.iload_n 3, 1) := by decide +kernel
theorem dX5_spreadLake_39 : decode cX5_spreadLake 39 = .ok (.baload, 1) := by decide +kernel
theorem dX5_spreadLake_40 : decode cX5_spreadLake 40 = .ok (.ifCond .ne 29, 3) := by decide +kernel
theorem dX5_spreadLake_43 : decode cX5_spreadLake 43 = .ok (.aload_n 0, 1) := by decide +kernel
theorem dX5_spreadLake_44 : decode cX5_spreadLake 44 = .ok (.getfield 52, 3) := by decide +kernel
theorem dX5_spreadLake_47 : decode cX5_spreadLake 47 = .ok (.iload 4, 2) := by decide +kernel
theorem dX5_spreadLake_49 : decode cX5_spreadLake 49 = .ok (.iaload, 1) := by decide +kernel
theorem dX5_spreadLake_50 : decode cX5_spreadLake 50 = .ok (.iload_n 1, 1) := by decide +kernel
theorem dX5_spreadLake_51 : decode cX5_spreadLake 51 = .ok (.if_icmp .ne 18, 3) := by decide +kernel
theorem dX5_spreadLake_54 : decode cX5_spreadLake 54 = .ok (.aload_n 0, 1) := by decide +kernel
theorem dX5_spreadLake_55 : decode cX5_spreadLake 55 = .ok (.getfield 52, 3) := by decide +kernel
theorem dX5_spreadLake_58 : decode cX5_spreadLake 58 = .ok (.iload 5, 2) := by decide +kernel
theorem dX5_spreadLake_60 : decode cX5_spreadLake 60 = .ok (.iaload, 1) := by decide +kernel
theorem dX5_spreadLake_61 : decode cX5_spreadLake 61 = .ok (.iload_n 1, 1) := by decide +kernel
theorem dX5_spreadLake_62 : decode cX5_spreadLake 62 = .ok (.if_icmp .ne 7, 3) := by decide +kernel
theorem dX5_spreadLake_65 : decode cX5_spreadLake 65 = .ok (.iconst 1, 1) := by decide +kernel
theorem dX5_spreadLake_66 : decode cX5_spreadLake 66 = .ok (.goto 4, 3) := by decide +kernel
theorem dX5_spreadLake_69 : decode cX5_spreadLake 69 = .ok (.iconst 0, 1) := by decide +kernel
theorem dX5_spreadLake_70 : decode cX5_spreadLake 70 = .ok (.istore 6, 2) := by decide +kernel
theorem dX5_spreadLake_72 : decode cX5_spreadLake 72 = .ok (.iload 6, 2) := by decide +kernel
theorem dX5_spreadLake_74 : decode cX5_spreadLake 74 = .ok (.ifCond .eq 68, 3) := by decide +kernel
theorem dX5_spreadLake_77 : decode cX5_spreadLake 77 = .ok (.aload_n 0, 1) := by decide +kernel
theorem dX5_spreadLake_78 : decode cX5_spreadLake 78 = .ok (.getfield 67, 3) := by decide +kernel
theorem dX5_spreadLake_81 : decode cX5_spreadLake 81 = .ok (.iload 4, 2) := by decide +kernel
theorem dX5_spreadLake_83 : decode cX5_spreadLake 83 = .ok (.iaload, 1) := by decide +kernel
theorem dX5_spreadLake_84 : decode cX5_spreadLake 84 = .ok (.aload_n 0, 1) := by decide +kernel
theorem dX5_spreadLake_85 : decode cX5_spreadLake 85 = .ok (.getfield 179, 3) := by decide +kernel
theorem dX5_spreadLake_88 : decode cX5_spreadLake 88 = .ok (.if_icmp .ne 7, 3) := by decide +kernel
theorem dX5_spreadLake_91 : decode cX5_spreadLake 91 = .ok (.iconst 1, 1) := by decide +kernel
theorem dX5_spreadLake_92 : decode cX5_spreadLake 92 = .ok (.goto 4, 3) := by decide +kernel
theorem dX5_spreadLake_95 : decode cX5_spreadLake 95 = .ok (.iconst 0, 1) := by decide +kernel
theorem dX5_spreadLake_96 : decode cX5_spreadLake 96 = .ok (.aload_n 0, 1) := by decide +kernel
theorem dX5_spreadLake_97 : decode cX5_spreadLake 97 = .ok (.getfield 67, 3) := by decide +kernel
theorem dX5_spreadLake_100 : decode cX5_spreadLake 100 = .ok (.iload 5, 2) := by decide +kernel
theorem dX5_spreadLake_102 : decode cX5_spreadLake 102 = .ok (.iaload, 1) := by decide +kernel
theorem dX5_spreadLake_103 : decode cX5_spreadLake 103 = .ok (.aload_n 0, 1) := by decide +kernel
theorem dX5_spreadLake_104 : decode cX5_spreadLake 104 = .ok (.getfield 179, 3) := by decide +kernel
theorem dX5_spreadLake_107 : decode cX5_spreadLake 107 = .ok (.if_icmp .ne 7, 3) := by decide +kernel
theorem dX5_spreadLake_110 : decode cX5_spreadLake 110 = .ok (.iconst 1, 1) := by decide +kernel
theorem dX5_spreadLake_111 : decode cX5_spreadLake 111 = .ok (.goto 4, 3) := by decide +kernel
theorem dX5_spreadLake_114 : decode cX5_spreadLake 114 = .ok (.iconst 0, 1) := by decide +kernel
theorem dX5_spreadLake_115 : decode cX5_spreadLake 115 = .ok (.if_icmp .eq 27, 3) := by decide +kernel
theorem dX5_spreadLake_118 : decode cX5_spreadLake 118 = .ok (.aload_n 0, 1) := by decide +kernel
theorem dX5_spreadLake_119 : decode cX5_spreadLake 119 = .ok (.getfield 67, 3) := by decide +kernel
theorem dX5_spreadLake_122 : decode cX5_spreadLake 122 = .ok (.iload 4, 2) := by decide +kernel
theorem dX5_spreadLake_124 : decode cX5_spreadLake 124 = .ok (.aload_n 0, 1) := by decide +kernel
theorem dX5_spreadLake_125 : decode cX5_spreadLake 125 = .ok (.getfield 179, 3) := by decide +kernel
theorem dX5_spreadLake_128 : decode cX5_spreadLake 128 = .ok (.iastore, 1) := by decide +kernel
theorem dX5_spreadLake_129 : decode cX5_spreadLake 129 = .ok (.aload_n 0, 1) := by decide +kernel
theorem dX5_spreadLake_130 : decode cX5_spreadLake 130 = .ok (.getfield 67, 3) := by decide +kernel
theorem dX5_spreadLake_133 : decode cX5_spreadLake 133 = .ok (.iload 5, 2) := by decide +kernel
theorem dX5_spreadLake_135 : decode cX5_spreadLake 135 = .ok (.aload_n 0, 1) := by decide +kernel
theorem dX5_spreadLake_136 : decode cX5_spreadLake 136 = .ok (.getfield 179, 3) := by decide +kernel
theorem dX5_spreadLake_139 : decode cX5_spreadLake 139 = .ok (.iastore, 1) := by decide +kernel
theorem dX5_spreadLake_140 : decode cX5_spreadLake 140 = .ok (.iconst 1, 1) := by decide +kernel
theorem dX5_spreadLake_141 : decode cX5_spreadLake 141 = .ok (.istore_n 2, 1) := by decide +kernel
theorem dX5_spreadLake_142 : decode cX5_spreadLake 142 = .ok (.iinc 3 1, 3) := by decide +kernel
theorem dX5_spreadLake_145 : decode cX5_spreadLake 145 = .ok (.goto (-135), 3) := by decide +kernel
theorem dX5_spreadLake_148 : decode cX5_spreadLake 148 = .ok (.goto (-146), 3) := by decide +kernel
theorem dX5_spreadLake_151 : decode cX5_spreadLake 151 = .ok (.return_, 1) := by decide +kernel
theorem dX5_countPores_0 : decode cX5_countPores 0 = .ok (.iconst 0, 1) := by decide +kernel
theorem dX5_countPores_1 : decode cX5_countPores 1 = .ok (.istore_n 2, 1) := by decide +kernel
theorem dX5_countPores_2 : decode cX5_countPores 2 = .ok (.iconst 0, 1) := by decide +kernel
theorem dX5_countPores_3 : decode cX5_countPores 3 = .ok (.istore_n 3, 1) := by decide +kernel
theorem dX5_countPores_4 : decode cX5_countPores 4 = .ok (.iload_n 3, 1) := by decide +kernel
theorem dX5_countPores_5 : decode cX5_countPores 5 = .ok (.aload_n 0, 1) := by decide +kernel
theorem dX5_countPores_6 : decode cX5_countPores 6 = .ok (.getfield 88, 3) := by decide +kernel
theorem dX5_countPores_9 : decode cX5_countPores 9 = .ok (.if_icmp .ge 68, 3) := by decide +kernel
theorem dX5_countPores_12 : decode cX5_countPores 12 = .ok (.iload_n 2, 1) := by decide +kernel
theorem dX5_countPores_13 : decode cX5_countPores 13 = .ok (.iload_n 1, 1) := by decide +kernel
theorem dX5_countPores_14 : decode cX5_countPores 14 = .ok (.iconst 3, 1) := by decide +kernel
theorem dX5_countPores_15 : decode cX5_countPores 15 = .ok (.if_icmp .ne 19, 3) := by decide +kernel
theorem dX5_countPores_18 : decode cX5_countPores 18 = .ok (.aload_n 0, 1) := by decide +kernel
theorem dX5_countPores_19 : decode cX5_countPores 19 = .ok (.iload_n 3, 1) := by decide +kernel
theorem dX5_countPores_20 : decode cX5_countPores 20 = .ok (.invokevirtual 143, 3) := by decide +kernel
theorem dX5_countPores_23 : decode cX5_countPores 23 = .ok (.ifCond .eq 7, 3) := by decide +kernel
theorem dX5_countPores_26 : decode cX5_countPores 26 = .ok (.iconst 1, 1) := by decide +kernel
theorem dX5_countPores_27 : decode cX5_countPores 27 = .ok (.goto 42, 3) := by decide +kernel
theorem dX5_countPores_30 : decode cX5_countPores 30 = .ok (.iconst 0, 1) := by decide +kernel
theorem dX5_countPores_31 : decode cX5_countPores 31 = .ok (.goto 38, 3) := by decide +kernel
theorem dX5_countPores_34 : decode cX5_countPores 34 = .ok (.iload_n 1, 1) := by decide +kernel
theorem dX5_countPores_35 : decode cX5_countPores 35 = .ok (.iconst 4, 1) := by decide +kernel
theorem dX5_countPores_36 : decode cX5_countPores 36 = .ok (.if_icmp .ne 20, 3) := by decide +kernel
theorem dX5_countPores_39 : decode cX5_countPores 39 = .ok (.aload_n 0, 1) := by decide +kernel
theorem dX5_countPores_40 : decode cX5_countPores 40 = .ok (.getfield 52, 3) := by decide +kernel
theorem dX5_countPores_43 : decode cX5_countPores 43 = .ok (.iload_n 3, 1) := by decide +kernel
theorem dX5_countPores_44 : decode cX5_countPores 44 = .ok (.iaload, 1) := by decide +kernel
theorem dX5_countPores_45 : decode cX5_countPores 45 = .ok (.ifCond .lt 7, 3) := by decide +kernel
theorem dX5_countPores_48 : decode cX5_countPores 48 = .ok (.iconst 1, 1) := by decide +kernel
theorem dX5_countPores_49 : decode cX5_countPores 49 = .ok (.goto 20, 3) := by decide +kernel
theorem dX5_countPores_52 : decode cX5_countPores 52 = .ok (.iconst 0, 1) := by decide +kernel
theorem dX5_countPores_53 : decode cX5_countPores 53 = .ok (.goto 16, 3) := by decide +kernel
theorem dX5_countPores_56 : decode cX5_countPores 56 = .ok (.aload_n 0, 1) := by decide +kernel
theorem dX5_countPores_57 : decode cX5_countPores 57 = .ok (.iload_n 3, 1) := by decide +kernel
theorem dX5_countPores_58 : decode cX5_countPores 58 = .ok (.invokevirtual 146, 3) := by decide +kernel
theorem dX5_countPores_61 : decode cX5_countPores 61 = .ok (.ifCond .eq 7, 3) := by decide +kernel
theorem dX5_countPores_64 : decode cX5_countPores 64 = .ok (.iconst 1, 1) := by decide +kernel
theorem dX5_countPores_65 : decode cX5_countPores 65 = .ok (.goto 4, 3) := by decide +kernel
theorem dX5_countPores_68 : decode cX5_countPores 68 = .ok (.iconst 0, 1) := by decide +kernel
theorem dX5_countPores_69 : decode cX5_countPores 69 = .ok (.iadd, 1) := by decide +kernel
theorem dX5_countPores_70 : decode cX5_countPores 70 = .ok (.istore_n 2, 1) := by decide +kernel
theorem dX5_countPores_71 : decode cX5_countPores 71 = .ok (.iinc 3 1, 3) := by decide +kernel
theorem dX5_countPores_74 : decode cX5_countPores 74 = .ok (.goto (-70), 3) := by decide +kernel
theorem dX5_countPores_77 : decode cX5_countPores 77 = .ok (.iload_n 2, 1) := by decide +kernel
theorem dX5_countPores_78 : decode cX5_countPores 78 = .ok (.ireturn, 1) := by decide +kernel
theorem dX5_many_0 : decode cX5_many 0 = .ok (.iload_n 1, 1) := by decide +kernel
theorem dX5_many_1 : decode cX5_many 1 = .ok (.ifCond .lt 9, 3) := by decide +kernel
theorem dX5_many_4 : decode cX5_many 4 = .ok (.iload_n 1, 1) := by decide +kernel
theorem dX5_many_5 : decode cX5_many 5 = .ok (.bipush 8, 2) := by decide +kernel
theorem dX5_many_7 : decode cX5_many 7 = .ok (.if_icmp .le 5, 3) := by decide +kernel
theorem dX5_many_10 : decode cX5_many 10 = .ok (.iconst (-1), 1) := by decide +kernel
theorem dX5_many_11 : decode cX5_many 11 = .ok (.ireturn, 1) := by decide +kernel
theorem dX5_many_12 : decode cX5_many 12 = .ok (.iload_n 1, 1) := by decide +kernel
theorem dX5_many_13 : decode cX5_many 13 = .ok (.iconst 1, 1) := by decide +kernel
theorem dX5_many_14 : decode cX5_many 14 = .ok (.if_icmp .le 9, 3) := by decide +kernel
theorem dX5_many_17 : decode cX5_many 17 = .ok (.iload_n 1, 1) := by decide +kernel
theorem dX5_many_18 : decode cX5_many 18 = .ok (.bipush 8, 2) := by decide +kernel
theorem dX5_many_20 : decode cX5_many 20 = .ok (.if_icmp .ne 31, 3) := by decide +kernel
theorem dX5_many_23 : decode cX5_many 23 = .ok (.iload_n 1, 1) := by decide +kernel
theorem dX5_many_24 : decode cX5_many 24 = .ok (.ifCond .ne 10, 3) := by decide +kernel
theorem dX5_many_27 : decode cX5_many 27 = .ok (.aload_n 0, 1) := by decide +kernel
theorem dX5_many_28 : decode cX5_many 28 = .ok (.getfield 88, 3) := by decide +kernel
theorem dX5_many_31 : decode cX5_many 31 = .ok (.goto 19, 3) := by decide +kernel
theorem dX5_many_34 : decode cX5_many 34 = .ok (.iload_n 1, 1) := by decide +kernel
theorem dX5_many_35 : decode cX5_many 35 = .ok (.iconst 1, 1) := by decide +kernel
theorem dX5_many_36 : decode cX5_many 36 = .ok (.if_icmp .ne 10, 3) := by decide +kernel
theorem dX5_many_39 : decode cX5_many 39 = .ok (.aload_n 0, 1) := by decide +kernel
theorem dX5_many_40 : decode cX5_many 40 = .ok (.getfield 92, 3) := by decide +kernel
theorem dX5_many_43 : decode cX5_many 43 = .ok (.goto 7, 3) := by decide +kernel
theorem dX5_many_46 : decode cX5_many 46 = .ok (.aload_n 0, 1) := by decide +kernel
theorem dX5_many_47 : decode cX5_many 47 = .ok (.getfield 185, 3) := by decide +kernel
theorem dX5_many_50 : decode cX5_many 50 = .ok (.ireturn, 1) := by decide +kernel
theorem dX5_many_51 : decode cX5_many 51 = .ok (.aload_n 0, 1) := by decide +kernel
theorem dX5_many_52 : decode cX5_many 52 = .ok (.getfield 95, 3) := by decide +kernel
theorem dX5_many_55 : decode cX5_many 55 = .ok (.ifCond .ne 6, 3) := by decide +kernel
theorem dX5_many_58 : decode cX5_many 58 = .ok (.bipush (-6), 2) := by decide +kernel
theorem dX5_many_60 : decode cX5_many 60 = .ok (.ireturn, 1) := by decide +kernel
theorem dX5_many_61 : decode cX5_many 61 = .ok (.iload_n 1, 1) := by decide +kernel
theorem dX5_many_62 : decode cX5_many 62 = .ok (.iconst 2, 1) := by decide +kernel
theorem dX5_many_63 : decode cX5_many 63 = .ok (.if_icmp .ne 8, 3) := by decide +kernel
theorem dX5_many_66 : decode cX5_many 66 = .ok (.aload_n 0, 1) := by decide +kernel
theorem dX5_many_67 : decode cX5_many 67 = .ok (.getfield 152, 3) := by decide +kernel
theorem dX5_many_70 : decode cX5_many 70 = .ok (.ireturn, 1) := by decide +kernel
theorem dX5_many_71 : decode cX5_many 71 = .ok (.iload_n 1, 1) := by decide +kernel
theorem dX5_many_72 : decode cX5_many 72 = .ok (.iconst 5, 1) := by decide +kernel
theorem dX5_many_73 : decode cX5_many 73 = .ok (.if_icmp .gt 9, 3) := by decide +kernel
theorem dX5_many_76 : decode cX5_many 76 = .ok (.aload_n 0, 1) := by decide +kernel
theorem dX5_many_77 : decode cX5_many 77 = .ok (.iload_n 1, 1) := by decide +kernel
theorem dX5_many_78 : decode cX5_many 78 = .ok (.invokevirtual 188, 3) := by decide +kernel
theorem dX5_many_81 : decode cX5_many 81 = .ok (.ireturn, 1) := by decide +kernel
theorem dX5_many_82 : decode cX5_many 82 = .ok (.iload_n 1, 1) := by decide +kernel
theorem dX5_many_83 : decode cX5_many 83 = .ok (.bipush 6, 2) := by decide +kernel
theorem dX5_many_85 : decode cX5_many 85 = .ok (.if_icmp .ne 12, 3) := by decide +kernel
theorem dX5_many_88 : decode cX5_many 88 = .ok (.aload_n 0, 1) := by decide +kernel
theorem dX5_many_89 : decode cX5_many 89 = .ok (.invokevirtual 191, 3) := by decide +kernel
theorem dX5_many_92 : decode cX5_many 92 = .ok (.aload_n 0, 1) := by decide +kernel
theorem dX5_many_93 : decode cX5_many 93 = .ok (.getfield 179, 3) := by decide +kernel
theorem dX5_many_96 : decode cX5_many 96 = .ok (.ireturn, 1) := by decide +kernel
theorem dX5_many_97 : decode cX5_many 97 = .ok (.iconst 0, 1) := by decide +kernel
theorem dX5_many_98 : decode cX5_many 98 = .ok (.istore_n 2, 1) := by decide +kernel
theorem dX5_many_99 : decode cX5_many 99 = .ok (.iconst 0, 1) := by decide +kernel
theorem dX5_many_100 : decode cX5_many 100 = .ok (.istore_n 3, 1) := by decide +kernel
theorem dX5_many_101 : decode cX5_many 101 = .ok (.iload_n 3, 1) := by decide +kernel
theorem dX5_many_102 : decode cX5_many 102 = .ok (.aload_n 0, 1) := by decide +kernel
theorem dX5_many_103 : decode cX5_many 103 = .ok (.getfield 92, 3) := by decide +kernel
theorem dX5_many_106 : decode cX5_many 106 = .ok (.if_icmp .ge 25, 3) := by decide +kernel
theorem dX5_many_109 : decode cX5_many 109 = .ok (.iload_n 2, 1) := by decide +kernel
theorem dX5_many_110 : decode cX5_many 110 = .ok (.aload_n 0, 1) := by decide +kernel
theorem dX5_many_111 : decode cX5_many 111 = .ok (.iload_n 3, 1) := by decide +kernel
theorem dX5_many_112 : decode cX5_many 112 = .ok (.invokevirtual 164, 3) := by decide +kernel
theorem dX5_many_115 : decode cX5_many 115 = .ok (.ifCond .eq 7, 3) := by decide +kernel
theorem dX5_many_118 : decode cX5_many 118 = .ok (.iconst 1, 1) := by decide +kernel
theorem dX5_many_119 : decode cX5_many 119 = .ok (.goto 4, 3) := by decide +kernel
theorem dX5_many_122 : decode cX5_many 122 = .ok (.iconst 0, 1) := by decide +kernel
theorem dX5_many_123 : decode cX5_many 123 = .ok (.iadd, 1) := by decide +kernel
theorem dX5_many_124 : decode cX5_many 124 = .ok (.istore_n 2, 1) := by decide +kernel
theorem dX5_many_125 : decode cX5_many 125 = .ok (.iinc 3 1, 3) := by decide +kernel
theorem dX5_many_128 : decode cX5_many 128 = .ok (.goto (-27), 3) := by decide +kernel
theorem dX5_many_131 : decode cX5_many 131 = .ok (.iload_n 2, 1) := by decide +kernel
theorem dX5_many_132 : decode cX5_many 132 = .ok (.ireturn, 1) := by decide +kernel
theorem dX5_opened_0 : decode cX5_opened 0 = .ok (.aload_n 0, 1) := by decide +kernel
theorem dX5_opened_1 : decode cX5_opened 1 = .ok (.getfield 95, 3) := by decide +kernel
theorem dX5_opened_4 : decode cX5_opened 4 = .ok (.ifCond .eq 16, 3) := by decide +kernel
theorem dX5_opened_7 : decode cX5_opened 7 = .ok (.iload_n 1, 1) := by decide +kernel
theorem dX5_opened_8 : decode cX5_opened 8 = .ok (.iconst 1, 1) := by decide +kernel
theorem dX5_opened_9 : decode cX5_opened 9 = .ok (.if_icmp .lt 11, 3) := by decide +kernel
theorem dX5_opened_12 : decode cX5_opened 12 = .ok (.iload_n 1, 1) := by decide +kernel
theorem dX5_opened_13 : decode cX5_opened 13 = .ok (.aload_n 0, 1) := by decide +kernel
theorem dX5_opened_14 : decode cX5_opened 14 = .ok (.getfield 152, 3) := by decide +kernel
theorem dX5_opened_17 : decode cX5_opened 17 = .ok (.if_icmp .le 7, 3) := by decide +kernel
theorem dX5_opened_20 : decode cX5_opened 20 = .ok (.iconst (-1), 1) := by decide +kernel
theorem dX5_opened_21 : decode cX5_opened 21 = .ok (.goto 9, 3) := by decide +kernel
theorem dX5_opened_24 : decode cX5_opened 24 = .ok (.aload_n 0, 1) := by decide +kernel
theorem dX5_opened_25 : decode cX5_opened 25 = .ok (.getfield 43, 3) := by decide +kernel
theorem dX5_opened_28 : decode cX5_opened 28 = .ok (.iload_n 1, 1) := by decide +kernel
theorem dX5_opened_29 : decode cX5_opened 29 = .ok (.iaload, 1) := by decide +kernel
theorem dX5_opened_30 : decode cX5_opened 30 = .ok (.ireturn, 1) := by decide +kernel
theorem dX5_now_0 : decode cX5_now 0 = .ok (.aload_n 0, 1) := by decide +kernel
theorem dX5_now_1 : decode cX5_now 1 = .ok (.getfield 95, 3) := by decide +kernel
theorem dX5_now_4 : decode cX5_now 4 = .ok (.ifCond .ne 6, 3) := by decide +kernel
theorem dX5_now_7 : decode cX5_now 7 = .ok (.bipush (-6), 2) := by decide +kernel
theorem dX5_now_9 : decode cX5_now 9 = .ok (.ireturn, 1) := by decide +kernel
theorem dX5_now_10 : decode cX5_now 10 = .ok (.aload_n 0, 1) := by decide +kernel
theorem dX5_now_11 : decode cX5_now 11 = .ok (.iload_n 1, 1) := by decide +kernel
theorem dX5_now_12 : decode cX5_now 12 = .ok (.invokevirtual 99, 3) := by decide +kernel
theorem dX5_now_15 : decode cX5_now 15 = .ok (.ifCond .eq 12, 3) := by decide +kernel
theorem dX5_now_18 : decode cX5_now 18 = .ok (.iload_n 2, 1) := by decide +kernel
theorem dX5_now_19 : decode cX5_now 19 = .ok (.ifCond .lt 8, 3) := by decide +kernel
theorem dX5_now_22 : decode cX5_now 22 = .ok (.iload_n 2, 1) := by decide +kernel
theorem dX5_now_23 : decode cX5_now 23 = .ok (.iconst 3, 1) := by decide +kernel
theorem dX5_now_24 : decode cX5_now 24 = .ok (.if_icmp .le 6, 3) := by decide +kernel
theorem dX5_now_27 : decode cX5_now 27 = .ok (.bipush (-2), 2) := by decide +kernel
theorem dX5_now_29 : decode cX5_now 29 = .ok (.ireturn, 1) := by decide +kernel
theorem dX5_now_30 : decode cX5_now 30 = .ok (.aload_n 0, 1) := by decide +kernel
theorem dX5_now_31 : decode cX5_now 31 = .ok (.invokevirtual 191, 3) := by decide +kernel
theorem dX5_now_34 : decode cX5_now 34 = .ok (.iload_n 2, 1) := by decide +kernel
theorem dX5_now_35 : decode cX5_now 35 = .ok (.ifCond .ne 12, 3) := by decide +kernel
theorem dX5_now_38 : decode cX5_now 38 = .ok (.aload_n 0, 1) := by decide +kernel
theorem dX5_now_39 : decode cX5_now 39 = .ok (.getfield 46, 3) := by decide +kernel
theorem dX5_now_42 : decode cX5_now 42 = .ok (.iload_n 1, 1) := by decide +kernel
theorem dX5_now_43 : decode cX5_now 43 = .ok (.iaload, 1) := by decide +kernel
theorem dX5_now_44 : decode cX5_now 44 = .ok (.goto 37, 3) := by decide +kernel
theorem dX5_now_47 : decode cX5_now 47 = .ok (.iload_n 2, 1) := by decide +kernel
theorem dX5_now_48 : decode cX5_now 48 = .ok (.iconst 1, 1) := by decide +kernel
theorem dX5_now_49 : decode cX5_now 49 = .ok (.if_icmp .ne 12, 3) := by decide +kernel
theorem dX5_now_52 : decode cX5_now 52 = .ok (.aload_n 0, 1) := by decide +kernel
theorem dX5_now_53 : decode cX5_now 53 = .ok (.getfield 49, 3) := by decide +kernel
theorem dX5_now_56 : decode cX5_now 56 = .ok (.iload_n 1, 1) := by decide +kernel
theorem dX5_now_57 : decode cX5_now 57 = .ok (.iaload, 1) := by decide +kernel
theorem dX5_now_58 : decode cX5_now 58 = .ok (.goto 23, 3) := by decide +kernel
theorem dX5_now_61 : decode cX5_now 61 = .ok (.iload_n 2, 1) := by decide +kernel
theorem dX5_now_62 : decode cX5_now 62 = .ok (.iconst 2, 1) := by decide +kernel
theorem dX5_now_63 : decode cX5_now 63 = .ok (.if_icmp .ne 12, 3) := by decide +kernel
theorem dX5_now_66 : decode cX5_now 66 = .ok (.aload_n 0, 1) := by decide +kernel
theorem dX5_now_67 : decode cX5_now 67 = .ok (.getfield 52, 3) := by decide +kernel
theorem dX5_now_70 : decode cX5_now 70 = .ok (.iload_n 1, 1) := by decide +kernel
theorem dX5_now_71 : decode cX5_now 71 = .ok (.iaload, 1) := by decide +kernel
theorem dX5_now_72 : decode cX5_now 72 = .ok (.goto 9, 3) := by decide +kernel
theorem dX5_now_75 : decode cX5_now 75 = .ok (.aload_n 0, 1) := by decide +kernel
theorem dX5_now_76 : decode cX5_now 76 = .ok (.getfield 67, 3) := by decide +kernel
theorem dX5_now_79 : decode cX5_now 79 = .ok (.iload_n 1, 1) := by decide +kernel
theorem dX5_now_80 : decode cX5_now 80 = .ok (.iaload, 1) := by decide +kernel
theorem dX5_now_81 : decode cX5_now 81 = .ok (.ireturn, 1) := by decide +kernel
theorem dX5_front_0 : decode cX5_front 0 = .ok (.aload_n 0, 1) := by decide +kernel
theorem dX5_front_1 : decode cX5_front 1 = .ok (.getfield 95, 3) := by decide +kernel
theorem dX5_front_4 : decode cX5_front 4 = .ok (.ifCond .eq 7, 3) := by decide +kernel
theorem dX5_front_7 : decode cX5_front 7 = .ok (.iload_n 1, 1) := by decide +kernel
theorem dX5_front_8 : decode cX5_front 8 = .ok (.ifCond .ge 5, 3) := by decide +kernel
theorem dX5_front_11 : decode cX5_front 11 = .ok (.iconst (-1), 1) := by decide +kernel
theorem dX5_front_12 : decode cX5_front 12 = .ok (.ireturn, 1) := by decide +kernel
theorem dX5_front_13 : decode cX5_front 13 = .ok (.iconst 0, 1) := by decide +kernel
theorem dX5_front_14 : decode cX5_front 14 = .ok (.istore_n 2, 1) := by decide +kernel
theorem dX5_front_15 : decode cX5_front 15 = .ok (.iload_n 2, 1) := by decide +kernel
theorem dX5_front_16 : decode cX5_front 16 = .ok (.aload_n 0, 1) := by decide +kernel
theorem dX5_front_17 : decode cX5_front 17 = .ok (.getfield 92, 3) := by decide +kernel
theorem dX5_front_20 : decode cX5_front 20 = .ok (.if_icmp .ge 71, 3) := by decide +kernel
theorem dX5_front_23 : decode cX5_front 23 = .ok (.iconst 0, 1) := by decide +kernel
theorem dX5_front_24 : decode cX5_front 24 = .ok (.istore_n 3, 1) := by decide +kernel
theorem dX5_front_25 : decode cX5_front 25 = .ok (.iconst 0, 1) := by decide +kernel
theorem dX5_front_26 : decode cX5_front 26 = .ok (.istore 4, 2) := by decide +kernel
theorem dX5_front_28 : decode cX5_front 28 = .ok (.iload 4, 2) := by decide +kernel
theorem dX5_front_30 : decode cX5_front 30 = .ok (.aload_n 0, 1) := by decide +kernel
theorem dX5_front_31 : decode cX5_front 31 = .ok (.getfield 92, 3) := by decide +kernel
theorem dX5_front_34 : decode cX5_front 34 = .ok (.if_icmp .ge 36, 3) := by decide +kernel
theorem dX5_front_37 : decode cX5_front 37 = .ok (.iload_n 3, 1) := by decide +kernel
theorem dX5_front_38 : decode cX5_front 38 = .ok (.aload_n 0, 1) := by decide +kernel
theorem dX5_front_39 : decode cX5_front 39 = .ok (.iload 4, 2) := by decide +kernel
theorem dX5_front_41 : decode cX5_front 41 = .ok (.invokevirtual 164, 3) := by decide +kernel
theorem dX5_front_44 : decode cX5_front 44 = .ok (.ifCond .eq 17, 3) := by decide +kernel
theorem dX5_front_47 : decode cX5_front 47 = .ok (.aload_n 0, 1) := by decide +kernel
theorem dX5_front_48 : decode cX5_front 48 = .ok (.iload 4, 2) := by decide +kernel
theorem dX5_front_50 : decode cX5_front 50 = .ok (.iload_n 2, 1) := by decide +kernel
theorem dX5_front_51 : decode cX5_front 51 = .ok (.invokevirtual 110, 3) := by decide +kernel
theorem dX5_front_54 : decode cX5_front 54 = .ok (.ifCond .eq 7, 3) := by decide +kernel
theorem dX5_front_57 : decode cX5_front 57 = .ok (.iconst 1, 1) := by decide +kernel
theorem dX5_front_58 : decode cX5_front 58 = .ok (.goto 4, 3) := by decide +kernel
theorem dX5_front_61 : decode cX5_front 61 = .ok (.iconst 0, 1) := by decide +kernel
theorem dX5_front_62 : decode cX5_front 62 = .ok (.iadd, 1) := by decide +kernel
theorem dX5_front_63 : decode cX5_front 63 = .ok (.istore_n 3, 1) := by decide +kernel
theorem dX5_front_64 : decode cX5_front 64 = .ok (.iinc 4 1, 3) := by decide +kernel
theorem dX5_front_67 : decode cX5_front 67 = .ok (.goto (-39), 3) := by decide +kernel
theorem dX5_front_70 : decode cX5_front 70 = .ok (.aload_n 0, 1) := by decide +kernel
theorem dX5_front_71 : decode cX5_front 71 = .ok (.iload_n 2, 1) := by decide +kernel
theorem dX5_front_72 : decode cX5_front 72 = .ok (.invokevirtual 164, 3) := by decide +kernel
theorem dX5_front_75 : decode cX5_front 75 = .ok (.ifCond .eq 10, 3) := by decide +kernel
theorem dX5_front_78 : decode cX5_front 78 = .ok (.iload_n 3, 1) := by decide +kernel
theorem dX5_front_79 : decode cX5_front 79 = .ok (.iload_n 1, 1) := by decide +kernel
theorem dX5_front_80 : decode cX5_front 80 = .ok (.if_icmp .ne 5, 3) := by decide +kernel
theorem dX5_front_83 : decode cX5_front 83 = .ok (.iload_n 2, 1) := by decide +kernel
theorem dX5_front_84 : decode cX5_front 84 = .ok (.ireturn, 1) := by decide +kernel
theorem dX5_front_85 : decode cX5_front 85 = .ok (.iinc 2 1, 3) := by decide +kernel
theorem dX5_front_88 : decode cX5_front 88 = .ok (.goto (-73), 3) := by decide +kernel
theorem dX5_front_91 : decode cX5_front 91 = .ok (.iconst (-1), 1) := by decide +kernel
theorem dX5_front_92 : decode cX5_front 92 = .ok (.ireturn, 1) := by decide +kernel
theorem dX5_lake_0 : decode cX5_lake 0 = .ok (.aload_n 0, 1) := by decide +kernel
theorem dX5_lake_1 : decode cX5_lake 1 = .ok (.getfield 95, 3) := by decide +kernel
theorem dX5_lake_4 : decode cX5_lake 4 = .ok (.ifCond .ne 6, 3) := by decide +kernel
theorem dX5_lake_7 : decode cX5_lake 7 = .ok (.bipush (-6), 2) := by decide +kernel
theorem dX5_lake_9 : decode cX5_lake 9 = .ok (.ireturn, 1) := by decide +kernel
theorem dX5_lake_10 : decode cX5_lake 10 = .ok (.aload_n 0, 1) := by decide +kernel
theorem dX5_lake_11 : decode cX5_lake 11 = .ok (.invokevirtual 191, 3) := by decide +kernel
theorem dX5_lake_14 : decode cX5_lake 14 = .ok (.iload_n 1, 1) := by decide +kernel
theorem dX5_lake_15 : decode cX5_lake 15 = .ok (.ifCond .lt 20, 3) := by decide +kernel
theorem dX5_lake_18 : decode cX5_lake 18 = .ok (.iload_n 1, 1) := by decide +kernel
theorem dX5_lake_19 : decode cX5_lake 19 = .ok (.aload_n 0, 1) := by decide +kernel
theorem dX5_lake_20 : decode cX5_lake 20 = .ok (.getfield 179, 3) := by decide +kernel
theorem dX5_lake_23 : decode cX5_lake 23 = .ok (.if_icmp .ge 12, 3) := by decide +kernel
theorem dX5_lake_26 : decode cX5_lake 26 = .ok (.iload_n 2, 1) := by decide +kernel
theorem dX5_lake_27 : decode cX5_lake 27 = .ok (.ifCond .lt 8, 3) := by decide +kernel
theorem dX5_lake_30 : decode cX5_lake 30 = .ok (.iload_n 2, 1) := by decide +kernel
theorem dX5_lake_31 : decode cX5_lake 31 = .ok (.iconst 3, 1) := by decide +kernel
theorem dX5_lake_32 : decode cX5_lake 32 = .ok (.if_icmp .le 6, 3) := by decide +kernel
theorem dX5_lake_35 : decode cX5_lake 35 = .ok (.bipush (-2), 2) := by decide +kernel
theorem dX5_lake_37 : decode cX5_lake 37 = .ok (.ireturn, 1) := by decide +kernel
theorem dX5_lake_38 : decode cX5_lake 38 = .ok (.iconst 0, 1) := by decide +kernel
theorem dX5_lake_39 : decode cX5_lake 39 = .ok (.istore_n 3, 1) := by decide +kernel
theorem dX5_lake_40 : decode cX5_lake 40 = .ok (.iconst (-1), 1) := by decide +kernel
theorem dX5_lake_41 : decode cX5_lake 41 = .ok (.istore 4, 2) := by decide +kernel
theorem dX5_lake_43 : decode cX5_lake 43 = .ok (.aload_n 0, 1) := by decide +kernel
theorem dX5_lake_44 : decode cX5_lake 44 = .ok (.getfield 88, 3) := by decide +kernel
theorem dX5_lake_47 : decode cX5_lake 47 = .ok (.iconst 1, 1) := by decide +kernel
theorem dX5_lake_48 : decode cX5_lake 48 = .ok (.isub, 1) := by decide +kernel
theorem dX5_lake_49 : decode cX5_lake 49 = .ok (.istore 5, 2) := by decide +kernel
theorem dX5_lake_51 : decode cX5_lake 51 = .ok (.iload 5, 2) := by decide +kernel
theorem dX5_lake_53 : decode cX5_lake 53 = .ok (.ifCond .lt 48, 3) := by decide +kernel
theorem dX5_lake_56 : decode cX5_lake 56 = .ok (.iload_n 3, 1) := by decide +kernel
theorem dX5_lake_57 : decode cX5_lake 57 = .ok (.aload_n 0, 1) := by decide +kernel
theorem dX5_lake_58 : decode cX5_lake 58 = .ok (.getfield 67, 3) := by decide +kernel
theorem dX5_lake_61 : decode cX5_lake 61 = .ok (.iload 5, 2) := by decide +kernel
theorem dX5_lake_63 : decode cX5_lake 63 = .ok (.iaload, 1) := by decide +kernel
theorem dX5_lake_64 : decode cX5_lake 64 = .ok (.iload_n 1, 1) := by decide +kernel
theorem dX5_lake_65 : decode cX5_lake 65 = .ok (.if_icmp .ne 7, 3) := by decide +kernel
theorem dX5_lake_68 : decode cX5_lake 68 = .ok (.iconst 1, 1) := by decide +kernel
theorem dX5_lake_69 : decode cX5_lake 69 = .ok (.goto 4, 3) := by decide +kernel
theorem dX5_lake_72 : decode cX5_lake 72 = .ok (.iconst 0, 1) := by decide +kernel
theorem dX5_lake_73 : decode cX5_lake 73 = .ok (.iadd, 1) := by decide +kernel
theorem dX5_lake_74 : decode cX5_lake 74 = .ok (.istore_n 3, 1) := by decide +kernel
theorem dX5_lake_75 : decode cX5_lake 75 = .ok (.aload_n 0, 1) := by decide +kernel
theorem dX5_lake_76 : decode cX5_lake 76 = .ok (.getfield 67, 3) := by decide +kernel
theorem dX5_lake_79 : decode cX5_lake 79 = .ok (.iload 5, 2) := by decide +kernel
theorem dX5_lake_81 : decode cX5_lake 81 = .ok (.iaload, 1) := by decide +kernel
theorem dX5_lake_82 : decode cX5_lake 82 = .ok (.iload_n 1, 1) := by decide +kernel
theorem dX5_lake_83 : decode cX5_lake 83 = .ok (.if_icmp .ne 8, 3) := by decide +kernel
theorem dX5_lake_86 : decode cX5_lake 86 = .ok (.iload 5, 2) := by decide +kernel
theorem dX5_lake_88 : decode cX5_lake 88 = .ok (.goto 5, 3) := by decide +kernel
theorem dX5_lake_91 : decode cX5_lake 91 = .ok (.iload 4, 2) := by decide +kernel
theorem dX5_lake_93 : decode cX5_lake 93 = .ok (.istore 4, 2) := by decide +kernel
theorem dX5_lake_95 : decode cX5_lake 95 = .ok (.iinc 5 (-1), 3) := by decide +kernel
theorem dX5_lake_98 : decode cX5_lake 98 = .ok (.goto (-47), 3) := by decide +kernel
theorem dX5_lake_101 : decode cX5_lake 101 = .ok (.iconst (-1), 1) := by decide +kernel
theorem dX5_lake_102 : decode cX5_lake 102 = .ok (.istore 5, 2) := by decide +kernel
theorem dX5_lake_104 : decode cX5_lake 104 = .ok (.iconst 1, 1) := by decide +kernel
theorem dX5_lake_105 : decode cX5_lake 105 = .ok (.istore 6, 2) := by decide +kernel
theorem dX5_lake_107 : decode cX5_lake 107 = .ok (.iload 6, 2) := by decide +kernel
theorem dX5_lake_109 : decode cX5_lake 109 = .ok (.aload_n 0, 1) := by decide +kernel
theorem dX5_lake_110 : decode cX5_lake 110 = .ok (.getfield 52, 3) := by decide +kernel
theorem dX5_lake_113 : decode cX5_lake 113 = .ok (.iload 4, 2) := by decide +kernel
theorem dX5_lake_115 : decode cX5_lake 115 = .ok (.iaload, 1) := by decide +kernel
theorem dX5_lake_116 : decode cX5_lake 116 = .ok (.if_icmp .gt 43, 3) := by decide +kernel
theorem dX5_lake_119 : decode cX5_lake 119 = .ok (.aload_n 0, 1) := by decide +kernel
theorem dX5_lake_120 : decode cX5_lake 120 = .ok (.aload_n 0, 1) := by decide +kernel
theorem dX5_lake_121 : decode cX5_lake 121 = .ok (.getfield 43, 3) := by decide +kernel
theorem dX5_lake_124 : decode cX5_lake 124 = .ok (.iload 6, 2) := by decide +kernel
theorem dX5_lake_126 : decode cX5_lake 126 = .ok (.iaload, 1) := by decide +kernel
theorem dX5_lake_127 : decode cX5_lake 127 = .ok (.invokevirtual 114, 3) := by decide +kernel
theorem dX5_lake_130 : decode cX5_lake 130 = .ok (.iload 5, 2) := by decide +kernel
theorem dX5_lake_132 : decode cX5_lake 132 = .ok (.if_icmp .le 17, 3) := by decide +kernel
theorem dX5_lake_135 : decode cX5_lake 135 = .ok (.aload_n 0, 1) := by decide +kernel
theorem dX5_lake_136 : decode cX5_lake 136 = .ok (.aload_n 0, 1) := by decide +kernel
theorem dX5_lake_137 : decode cX5_lake 137 = .ok (.getfield 43, 3) := by decide +kernel
theorem dX5_lake_140 : decode cX5_lake 140 = .ok (.iload 6, 2) := by decide +kernel
theorem dX5_lake_142 : decode cX5_lake 142 = .ok (.iaload, 1) := by decide +kernel
theorem dX5_lake_143 : decode cX5_lake 143 = .ok (.invokevirtual 114, 3) := by decide +kernel
theorem dX5_lake_146 : decode cX5_lake 146 = .ok (.goto 5, 3) := by decide +kernel
theorem dX5_lake_149 : decode cX5_lake 149 = .ok (.iload 5, 2) := by decide +kernel
theorem dX5_lake_151 : decode cX5_lake 151 = .ok (.istore 5, 2) := by decide +kernel
theorem dX5_lake_153 : decode cX5_lake 153 = .ok (.iinc 6 1, 3) := by decide +kernel
theorem dX5_lake_156 : decode cX5_lake 156 = .ok (.goto (-49), 3) := by decide +kernel
theorem dX5_lake_159 : decode cX5_lake 159 = .ok (.iload_n 2, 1) := by decide +kernel
theorem dX5_lake_160 : decode cX5_lake 160 = .ok (.ifCond .ne 13, 3) := by decide +kernel
theorem dX5_lake_163 : decode cX5_lake 163 = .ok (.aload_n 0, 1) := by decide +kernel
theorem dX5_lake_164 : decode cX5_lake 164 = .ok (.getfield 52, 3) := by decide +kernel
theorem dX5_lake_167 : decode cX5_lake 167 = .ok (.iload 4, 2) := by decide +kernel
theorem dX5_lake_169 : decode cX5_lake 169 = .ok (.iaload, 1) := by decide +kernel
theorem dX5_lake_170 : decode cX5_lake 170 = .ok (.goto 24, 3) := by decide +kernel
theorem dX5_lake_173 : decode cX5_lake 173 = .ok (.iload_n 2, 1) := by decide +kernel
theorem dX5_lake_174 : decode cX5_lake 174 = .ok (.iconst 1, 1) := by decide +kernel
theorem dX5_lake_175 : decode cX5_lake 175 = .ok (.if_icmp .ne 7, 3) := by decide +kernel
theorem dX5_lake_178 : decode cX5_lake 178 = .ok (.iload_n 3, 1) := by decide +kernel
theorem dX5_lake_179 : decode cX5_lake 179 = .ok (.goto 15, 3) := by decide +kernel
theorem dX5_lake_182 : decode cX5_lake 182 = .ok (.iload_n 2, 1) := by decide +kernel
theorem dX5_lake_183 : decode cX5_lake 183 = .ok (.iconst 2, 1) := by decide +kernel
theorem dX5_lake_184 : decode cX5_lake 184 = .ok (.if_icmp .ne 8, 3) := by decide +kernel
theorem dX5_lake_187 : decode cX5_lake 187 = .ok (.iload 4, 2) := by decide +kernel
theorem dX5_lake_189 : decode cX5_lake 189 = .ok (.goto 5, 3) := by decide +kernel
theorem dX5_lake_192 : decode cX5_lake 192 = .ok (.iload 5, 2) := by decide +kernel
theorem dX5_lake_194 : decode cX5_lake 194 = .ok (.ireturn, 1) := by decide +kernel
theorem dX5_through_0 : decode cX5_through 0 = .ok (.aload_n 0, 1) := by decide +kernel
theorem dX5_through_1 : decode cX5_through 1 = .ok (.getfield 95, 3) := by decide +kernel
theorem dX5_through_4 : decode cX5_through 4 = .ok (.ifCond .ne 6, 3) := by decide +kernel
theorem dX5_through_7 : decode cX5_through 7 = .ok (.bipush (-6), 2) := by decide +kernel
theorem dX5_through_9 : decode cX5_through 9 = .ok (.ireturn, 1) := by decide +kernel
theorem dX5_through_10 : decode cX5_through 10 = .ok (.iconst (-1), 1) := by decide +kernel
theorem dX5_through_11 : decode cX5_through 11 = .ok (.istore_n 1, 1) := by decide +kernel
theorem dX5_through_12 : decode cX5_through 12 = .ok (.iconst 0, 1) := by decide +kernel
theorem dX5_through_13 : decode cX5_through 13 = .ok (.istore_n 2, 1) := by decide +kernel
theorem dX5_through_14 : decode cX5_through 14 = .ok (.iload_n 2, 1) := by decide +kernel
theorem dX5_through_15 : decode cX5_through 15 = .ok (.aload_n 0, 1) := by decide +kernel
theorem dX5_through_16 : decode cX5_through 16 = .ok (.getfield 88, 3) := by decide +kernel
theorem dX5_through_19 : decode cX5_through 19 = .ok (.if_icmp .ge 48, 3) := by decide +kernel
theorem dX5_through_22 : decode cX5_through 22 = .ok (.aload_n 0, 1) := by decide +kernel
theorem dX5_through_23 : decode cX5_through 23 = .ok (.getfield 7, 3) := by decide +kernel
theorem dX5_through_26 : decode cX5_through 26 = .ok (.iload_n 2, 1) := by decide +kernel
theorem dX5_through_27 : decode cX5_through 27 = .ok (.iaload, 1) := by decide +kernel
theorem dX5_through_28 : decode cX5_through 28 = .ok (.iconst 4, 1) := by decide +kernel
theorem dX5_through_29 : decode cX5_through 29 = .ok (.if_icmp .ne 32, 3) := by decide +kernel
theorem dX5_through_32 : decode cX5_through 32 = .ok (.aload_n 0, 1) := by decide +kernel
theorem dX5_through_33 : decode cX5_through 33 = .ok (.iload_n 2, 1) := by decide +kernel
theorem dX5_through_34 : decode cX5_through 34 = .ok (.invokevirtual 143, 3) := by decide +kernel
theorem dX5_through_37 : decode cX5_through 37 = .ok (.ifCond .eq 24, 3) := by decide +kernel
theorem dX5_through_40 : decode cX5_through 40 = .ok (.iload_n 1, 1) := by decide +kernel
theorem dX5_through_41 : decode cX5_through 41 = .ok (.ifCond .lt 13, 3) := by decide +kernel
theorem dX5_through_44 : decode cX5_through 44 = .ok (.aload_n 0, 1) := by decide +kernel
theorem dX5_through_45 : decode cX5_through 45 = .ok (.getfield 46, 3) := by decide +kernel
theorem dX5_through_48 : decode cX5_through 48 = .ok (.iload_n 2, 1) := by decide +kernel
theorem dX5_through_49 : decode cX5_through 49 = .ok (.iaload, 1) := by decide +kernel
theorem dX5_through_50 : decode cX5_through 50 = .ok (.iload_n 1, 1) := by decide +kernel
theorem dX5_through_51 : decode cX5_through 51 = .ok (.if_icmp .ge 10, 3) := by decide +kernel
theorem dX5_through_54 : decode cX5_through 54 = .ok (.aload_n 0, 1) := by decide +kernel
theorem dX5_through_55 : decode cX5_through 55 = .ok (.getfield 46, 3) := by decide +kernel
theorem dX5_through_58 : decode cX5_through 58 = .ok (.iload_n 2, 1) := by decide +kernel
theorem dX5_through_59 : decode cX5_through 59 = .ok (.iaload, 1) := by decide +kernel
theorem dX5_through_60 : decode cX5_through 60 = .ok (.istore_n 1, 1) := by decide +kernel
theorem dX5_through_61 : decode cX5_through 61 = .ok (.iinc 2 1, 3) := by decide +kernel
theorem dX5_through_64 : decode cX5_through 64 = .ok (.goto (-50), 3) := by decide +kernel
theorem dX5_through_67 : decode cX5_through 67 = .ok (.iload_n 1, 1) := by decide +kernel
theorem dX5_through_68 : decode cX5_through 68 = .ok (.ireturn, 1) := by decide +kernel
theorem dX5_plainRun_0 : decode cX5_plainRun 0 = .ok (.iconst 0, 1) := by decide +kernel
theorem dX5_plainRun_1 : decode cX5_plainRun 1 = .ok (.istore_n 1, 1) := by decide +kernel
theorem dX5_plainRun_2 : decode cX5_plainRun 2 = .ok (.iload_n 1, 1) := by decide +kernel
theorem dX5_plainRun_3 : decode cX5_plainRun 3 = .ok (.aload_n 0, 1) := by decide +kernel
theorem dX5_plainRun_4 : decode cX5_plainRun 4 = .ok (.getfield 88, 3) := by decide +kernel
theorem dX5_plainRun_7 : decode cX5_plainRun 7 = .ok (.if_icmp .ge 30, 3) := by decide +kernel
theorem dX5_plainRun_10 : decode cX5_plainRun 10 = .ok (.aload_n 0, 1) := by decide +kernel
theorem dX5_plainRun_11 : decode cX5_plainRun 11 = .ok (.getfield 70, 3) := by decide +kernel
theorem dX5_plainRun_14 : decode cX5_plainRun 14 = .ok (.iload_n 1, 1) := by decide +kernel
theorem dX5_plainRun_15 : decode cX5_plainRun 15 = .ok (.aload_n 0, 1) := by decide +kernel
theorem dX5_plainRun_16 : decode cX5_plainRun 16 = .ok (.getfield 13, 3) := by decide +kernel
theorem dX5_plainRun_19 : decode cX5_plainRun 19 = .ok (.iload_n 1, 1) := by decide +kernel
theorem dX5_plainRun_20 : decode cX5_plainRun 20 = .ok (.baload, 1) := by decide +kernel
theorem dX5_plainRun_21 : decode cX5_plainRun 21 = .ok (.ifCond .eq 7, 3) := by decide +kernel
theorem dX5_plainRun_24 : decode cX5_plainRun 24 = .ok (.iconst (-1), 1) := by decide +kernel
theorem dX5_plainRun_25 : decode cX5_plainRun 25 = .ok (.goto 5, 3) := by decide +kernel
theorem dX5_plainRun_28 : decode cX5_plainRun 28 = .ok (.bipush (-2), 2) := by decide +kernel
theorem dX5_plainRun_30 : decode cX5_plainRun 30 = .ok (.iastore, 1) := by decide +kernel
theorem dX5_plainRun_31 : decode cX5_plainRun 31 = .ok (.iinc 1 1, 3) := by decide +kernel
theorem dX5_plainRun_34 : decode cX5_plainRun 34 = .ok (.goto (-32), 3) := by decide +kernel
theorem dX5_plainRun_37 : decode cX5_plainRun 37 = .ok (.iconst 0, 1) := by decide +kernel
theorem dX5_plainRun_38 : decode cX5_plainRun 38 = .ok (.istore_n 1, 1) := by decide +kernel
theorem dX5_plainRun_39 : decode cX5_plainRun 39 = .ok (.iload_n 1, 1) := by decide +kernel
theorem dX5_plainRun_40 : decode cX5_plainRun 40 = .ok (.ifCond .lt 148, 3) := by decide +kernel
theorem dX5_plainRun_43 : decode cX5_plainRun 43 = .ok (.iconst (-1), 1) := by decide +kernel
theorem dX5_plainRun_44 : decode cX5_plainRun 44 = .ok (.istore_n 1, 1) := by decide +kernel
theorem dX5_plainRun_45 : decode cX5_plainRun 45 = .ok (.iconst 0, 1) := by decide +kernel
theorem dX5_plainRun_46 : decode cX5_plainRun 46 = .ok (.istore_n 2, 1) := by decide +kernel
theorem dX5_plainRun_47 : decode cX5_plainRun 47 = .ok (.iload_n 2, 1) := by decide +kernel
theorem dX5_plainRun_48 : decode cX5_plainRun 48 = .ok (.aload_n 0, 1) := by decide +kernel
theorem dX5_plainRun_49 : decode cX5_plainRun 49 = .ok (.getfield 92, 3) := by decide +kernel
theorem dX5_plainRun_52 : decode cX5_plainRun 52 = .ok (.if_icmp .ge 92, 3) := by decide +kernel
theorem dX5_plainRun_55 : decode cX5_plainRun 55 = .ok (.aload_n 0, 1) := by decide +kernel
theorem dX5_plainRun_56 : decode cX5_plainRun 56 = .ok (.getfield 26, 3) := by decide +kernel
theorem dX5_plainRun_59 : decode cX5_plainRun 59 = .ok (.iload_n 2, 1) := by decide +kernel
theorem dX5_plainRun_60 : decode cX5_plainRun 60 = .ok (.baload, 1) := by decide +kernel
theorem dX5_plainRun_61 : decode cX5_plainRun 61 = .ok (.ifCond .ne 52, 3) := by decide +kernel
theorem dX5_plainRun_64 : decode cX5_plainRun 64 = .ok (.aload_n 0, 1) := by decide +kernel
theorem dX5_plainRun_65 : decode cX5_plainRun 65 = .ok (.getfield 70, 3) := by decide +kernel
theorem dX5_plainRun_68 : decode cX5_plainRun 68 = .ok (.aload_n 0, 1) := by decide +kernel
theorem dX5_plainRun_69 : decode cX5_plainRun 69 = .ok (.getfield 17, 3) := by decide +kernel
theorem dX5_plainRun_72 : decode cX5_plainRun 72 = .ok (.iload_n 2, 1) := by decide +kernel
theorem dX5_plainRun_73 : decode cX5_plainRun 73 = .ok (.iaload, 1) := by decide +kernel
theorem dX5_plainRun_74 : decode cX5_plainRun 74 = .ok (.iaload, 1) := by decide +kernel
theorem dX5_plainRun_75 : decode cX5_plainRun 75 = .ok (.bipush (-2), 2) := by decide +kernel
theorem dX5_plainRun_77 : decode cX5_plainRun 77 = .ok (.if_icmp .ne 7, 3) := by decide +kernel
theorem dX5_plainRun_80 : decode cX5_plainRun 80 = .ok (.iconst 1, 1) := by decide +kernel
theorem dX5_plainRun_81 : decode cX5_plainRun 81 = .ok (.goto 4, 3) := by decide +kernel
theorem dX5_plainRun_84 : decode cX5_plainRun 84 = .ok (.iconst 0, 1) := by decide +kernel
theorem dX5_plainRun_85 : decode cX5_plainRun 85 = .ok (.aload_n 0, 1) := by decide +kernel
theorem dX5_plainRun_86 : decode cX5_plainRun 86 = .ok (.getfield 70, 3) := by decide +kernel
theorem dX5_plainRun_89 : decode cX5_plainRun 89 = .ok (.aload_n 0, 1) := by decide +kernel
theorem dX5_plainRun_90 : decode cX5_plainRun 90 = .ok (.getfield 20, 3) := by decide +kernel
theorem dX5_plainRun_93 : decode cX5_plainRun 93 = .ok (.iload_n 2, 1) := by decide +kernel
theorem dX5_plainRun_94 : decode cX5_plainRun 94 = .ok (.iaload, 1) := by decide +kernel
theorem dX5_plainRun_95 : decode cX5_plainRun 95 = .ok (.iaload, 1) := by decide +kernel
theorem dX5_plainRun_96 : decode cX5_plainRun 96 = .ok (.bipush (-2), 2) := by decide +kernel
theorem dX5_plainRun_98 : decode cX5_plainRun 98 = .ok (.if_icmp .ne 7, 3) := by decide +kernel
theorem dX5_plainRun_101 : decode cX5_plainRun 101 = .ok (.iconst 1, 1) := by decide +kernel
theorem dX5_plainRun_102 : decode cX5_plainRun 102 = .ok (.goto 4, 3) := by decide +kernel
theorem dX5_plainRun_105 : decode cX5_plainRun 105 = .ok (.iconst 0, 1) := by decide +kernel
theorem dX5_plainRun_106 : decode cX5_plainRun 106 = .ok (.if_icmp .eq 7, 3) := by decide +kernel
theorem dX5_plainRun_109 : decode cX5_plainRun 109 = .ok (.iconst 1, 1) := by decide +kernel
theorem dX5_plainRun_110 : decode cX5_plainRun 110 = .ok (.goto 4, 3) := by decide +kernel
theorem dX5_plainRun_113 : decode cX5_plainRun 113 = .ok (.iconst 0, 1) := by decide +kernel
theorem dX5_plainRun_114 : decode cX5_plainRun 114 = .ok (.istore_n 3, 1) := by decide +kernel
theorem dX5_plainRun_115 : decode cX5_plainRun 115 = .ok (.iload_n 3, 1) := by decide +kernel
theorem dX5_plainRun_116 : decode cX5_plainRun 116 = .ok (.ifCond .eq 20, 3) := by decide +kernel
theorem dX5_plainRun_119 : decode cX5_plainRun 119 = .ok (.iload_n 1, 1) := by decide +kernel
theorem dX5_plainRun_120 : decode cX5_plainRun 120 = .ok (.ifCond .lt 12, 3) := by decide +kernel
theorem dX5_plainRun_123 : decode cX5_plainRun 123 = .ok (.aload_n 0, 1) := by decide +kernel
theorem dX5_plainRun_124 : decode cX5_plainRun 124 = .ok (.iload_n 2, 1) := by decide +kernel
theorem dX5_plainRun_125 : decode cX5_plainRun 125 = .ok (.iload_n 1, 1) := by decide +kernel
theorem dX5_plainRun_126 : decode cX5_plainRun 126 = .ok (.invokevirtual 110, 3) := by decide +kernel
theorem dX5_plainRun_129 : decode cX5_plainRun 129 = .ok (.ifCond .eq 7, 3) := by decide +kernel
theorem dX5_plainRun_132 : decode cX5_plainRun 132 = .ok (.iload_n 2, 1) := by decide +kernel
theorem dX5_plainRun_133 : decode cX5_plainRun 133 = .ok (.goto 4, 3) := by decide +kernel
theorem dX5_plainRun_136 : decode cX5_plainRun 136 = .ok (.iload_n 1, 1) := by decide +kernel
theorem dX5_plainRun_137 : decode cX5_plainRun 137 = .ok (.istore_n 1, 1) := by decide +kernel
theorem dX5_plainRun_138 : decode cX5_plainRun 138 = .ok (.iinc 2 1, 3) := by decide +kernel
theorem dX5_plainRun_141 : decode cX5_plainRun 141 = .ok (.goto (-94), 3) := by decide +kernel
theorem dX5_plainRun_144 : decode cX5_plainRun 144 = .ok (.iload_n 1, 1) := by decide +kernel
theorem dX5_plainRun_145 : decode cX5_plainRun 145 = .ok (.ifCond .lt (-106), 3) := by decide +kernel
theorem dX5_plainRun_148 : decode cX5_plainRun 148 = .ok (.aload_n 0, 1) := by decide +kernel
theorem dX5_plainRun_149 : decode cX5_plainRun 149 = .ok (.getfield 70, 3) := by decide +kernel
theorem dX5_plainRun_152 : decode cX5_plainRun 152 = .ok (.aload_n 0, 1) := by decide +kernel
theorem dX5_plainRun_153 : decode cX5_plainRun 153 = .ok (.getfield 70, 3) := by decide +kernel
theorem dX5_plainRun_156 : decode cX5_plainRun 156 = .ok (.aload_n 0, 1) := by decide +kernel
theorem dX5_plainRun_157 : decode cX5_plainRun 157 = .ok (.getfield 17, 3) := by decide +kernel
theorem dX5_plainRun_160 : decode cX5_plainRun 160 = .ok (.iload_n 1, 1) := by decide +kernel
theorem dX5_plainRun_161 : decode cX5_plainRun 161 = .ok (.iaload, 1) := by decide +kernel
theorem dX5_plainRun_162 : decode cX5_plainRun 162 = .ok (.iaload, 1) := by decide +kernel
theorem dX5_plainRun_163 : decode cX5_plainRun 163 = .ok (.bipush (-2), 2) := by decide +kernel
theorem dX5_plainRun_165 : decode cX5_plainRun 165 = .ok (.if_icmp .ne 12, 3) := by decide +kernel
theorem dX5_plainRun_168 : decode cX5_plainRun 168 = .ok (.aload_n 0, 1) := by decide +kernel
theorem dX5_plainRun_169 : decode cX5_plainRun 169 = .ok (.getfield 17, 3) := by decide +kernel
theorem dX5_plainRun_172 : decode cX5_plainRun 172 = .ok (.iload_n 1, 1) := by decide +kernel
theorem dX5_plainRun_173 : decode cX5_plainRun 173 = .ok (.iaload, 1) := by decide +kernel
theorem dX5_plainRun_174 : decode cX5_plainRun 174 = .ok (.goto 9, 3) := by decide +kernel
theorem dX5_plainRun_177 : decode cX5_plainRun 177 = .ok (.aload_n 0, 1) := by decide +kernel
theorem dX5_plainRun_178 : decode cX5_plainRun 178 = .ok (.getfield 20, 3) := by decide +kernel
theorem dX5_plainRun_181 : decode cX5_plainRun 181 = .ok (.iload_n 1, 1) := by decide +kernel
theorem dX5_plainRun_182 : decode cX5_plainRun 182 = .ok (.iaload, 1) := by decide +kernel
theorem dX5_plainRun_183 : decode cX5_plainRun 183 = .ok (.iload_n 1, 1) := by decide +kernel
theorem dX5_plainRun_184 : decode cX5_plainRun 184 = .ok (.iastore, 1) := by decide +kernel
theorem dX5_plainRun_185 : decode cX5_plainRun 185 = .ok (.goto (-146), 3) := by decide +kernel
theorem dX5_plainRun_188 : decode cX5_plainRun 188 = .ok (.return_, 1) := by decide +kernel
theorem dX5_behind_0 : decode cX5_behind 0 = .ok (.aload_n 0, 1) := by decide +kernel
theorem dX5_behind_1 : decode cX5_behind 1 = .ok (.getfield 70, 3) := by decide +kernel
theorem dX5_behind_4 : decode cX5_behind 4 = .ok (.iload_n 1, 1) := by decide +kernel
theorem dX5_behind_5 : decode cX5_behind 5 = .ok (.iaload, 1) := by decide +kernel
theorem dX5_behind_6 : decode cX5_behind 6 = .ok (.istore_n 2, 1) := by decide +kernel
theorem dX5_behind_7 : decode cX5_behind 7 = .ok (.aload_n 0, 1) := by decide +kernel
theorem dX5_behind_8 : decode cX5_behind 8 = .ok (.getfield 17, 3) := by decide +kernel
theorem dX5_behind_11 : decode cX5_behind 11 = .ok (.iload_n 2, 1) := by decide +kernel
theorem dX5_behind_12 : decode cX5_behind 12 = .ok (.iaload, 1) := by decide +kernel
theorem dX5_behind_13 : decode cX5_behind 13 = .ok (.iload_n 1, 1) := by decide +kernel
theorem dX5_behind_14 : decode cX5_behind 14 = .ok (.if_icmp .ne 12, 3) := by decide +kernel
theorem dX5_behind_17 : decode cX5_behind 17 = .ok (.aload_n 0, 1) := by decide +kernel
theorem dX5_behind_18 : decode cX5_behind 18 = .ok (.getfield 20, 3) := by decide +kernel
theorem dX5_behind_21 : decode cX5_behind 21 = .ok (.iload_n 2, 1) := by decide +kernel
theorem dX5_behind_22 : decode cX5_behind 22 = .ok (.iaload, 1) := by decide +kernel
theorem dX5_behind_23 : decode cX5_behind 23 = .ok (.goto 9, 3) := by decide +kernel
theorem dX5_behind_26 : decode cX5_behind 26 = .ok (.aload_n 0, 1) := by decide +kernel
theorem dX5_behind_27 : decode cX5_behind 27 = .ok (.getfield 17, 3) := by decide +kernel
theorem dX5_behind_30 : decode cX5_behind 30 = .ok (.iload_n 2, 1) := by decide +kernel
theorem dX5_behind_31 : decode cX5_behind 31 = .ok (.iaload, 1) := by decide +kernel
theorem dX5_behind_32 : decode cX5_behind 32 = .ok (.ireturn, 1) := by decide +kernel
theorem dX5_worst_0 : decode cX5_worst 0 = .ok (.aload_n 0, 1) := by decide +kernel
theorem dX5_worst_1 : decode cX5_worst 1 = .ok (.iload_n 1, 1) := by decide +kernel
theorem dX5_worst_2 : decode cX5_worst 2 = .ok (.invokevirtual 99, 3) := by decide +kernel
theorem dX5_worst_5 : decode cX5_worst 5 = .ok (.ifCond .ne 6, 3) := by decide +kernel
theorem dX5_worst_8 : decode cX5_worst 8 = .ok (.bipush (-2), 2) := by decide +kernel
theorem dX5_worst_10 : decode cX5_worst 10 = .ok (.ireturn, 1) := by decide +kernel
theorem dX5_worst_11 : decode cX5_worst 11 = .ok (.aload_n 0, 1) := by decide +kernel
theorem dX5_worst_12 : decode cX5_worst 12 = .ok (.invokevirtual 194, 3) := by decide +kernel
theorem dX5_worst_15 : decode cX5_worst 15 = .ok (.aload_n 0, 1) := by decide +kernel
theorem dX5_worst_16 : decode cX5_worst 16 = .ok (.getfield 70, 3) := by decide +kernel
theorem dX5_worst_19 : decode cX5_worst 19 = .ok (.iload_n 1, 1) := by decide +kernel
theorem dX5_worst_20 : decode cX5_worst 20 = .ok (.iaload, 1) := by decide +kernel
theorem dX5_worst_21 : decode cX5_worst 21 = .ok (.bipush (-2), 2) := by decide +kernel
theorem dX5_worst_23 : decode cX5_worst 23 = .ok (.if_icmp .ne 6, 3) := by decide +kernel
theorem dX5_worst_26 : decode cX5_worst 26 = .ok (.bipush (-8), 2) := by decide +kernel
theorem dX5_worst_28 : decode cX5_worst 28 = .ok (.ireturn, 1) := by decide +kernel
theorem dX5_worst_29 : decode cX5_worst 29 = .ok (.iconst (-1), 1) := by decide +kernel
theorem dX5_worst_30 : decode cX5_worst 30 = .ok (.istore_n 2, 1) := by decide +kernel
theorem dX5_worst_31 : decode cX5_worst 31 = .ok (.iload_n 1, 1) := by decide +kernel
theorem dX5_worst_32 : decode cX5_worst 32 = .ok (.istore_n 3, 1) := by decide +kernel
theorem dX5_worst_33 : decode cX5_worst 33 = .ok (.aload_n 0, 1) := by decide +kernel
theorem dX5_worst_34 : decode cX5_worst 34 = .ok (.getfield 70, 3) := by decide +kernel
theorem dX5_worst_37 : decode cX5_worst 37 = .ok (.iload_n 3, 1) := by decide +kernel
theorem dX5_worst_38 : decode cX5_worst 38 = .ok (.iaload, 1) := by decide +kernel
theorem dX5_worst_39 : decode cX5_worst 39 = .ok (.ifCond .lt 37, 3) := by decide +kernel
theorem dX5_worst_42 : decode cX5_worst 42 = .ok (.aload_n 0, 1) := by decide +kernel
theorem dX5_worst_43 : decode cX5_worst 43 = .ok (.aload_n 0, 1) := by decide +kernel
theorem dX5_worst_44 : decode cX5_worst 44 = .ok (.getfield 70, 3) := by decide +kernel
theorem dX5_worst_47 : decode cX5_worst 47 = .ok (.iload_n 3, 1) := by decide +kernel
theorem dX5_worst_48 : decode cX5_worst 48 = .ok (.iaload, 1) := by decide +kernel
theorem dX5_worst_49 : decode cX5_worst 49 = .ok (.invokevirtual 114, 3) := by decide +kernel
theorem dX5_worst_52 : decode cX5_worst 52 = .ok (.istore 4, 2) := by decide +kernel
theorem dX5_worst_54 : decode cX5_worst 54 = .ok (.iload 4, 2) := by decide +kernel
theorem dX5_worst_56 : decode cX5_worst 56 = .ok (.iload_n 2, 1) := by decide +kernel
theorem dX5_worst_57 : decode cX5_worst 57 = .ok (.if_icmp .le 8, 3) := by decide +kernel
theorem dX5_worst_60 : decode cX5_worst 60 = .ok (.iload 4, 2) := by decide +kernel
theorem dX5_worst_62 : decode cX5_worst 62 = .ok (.goto 4, 3) := by decide +kernel
theorem dX5_worst_65 : decode cX5_worst 65 = .ok (.iload_n 2, 1) := by decide +kernel
theorem dX5_worst_66 : decode cX5_worst 66 = .ok (.istore_n 2, 1) := by decide +kernel
theorem dX5_worst_67 : decode cX5_worst 67 = .ok (.aload_n 0, 1) := by decide +kernel
theorem dX5_worst_68 : decode cX5_worst 68 = .ok (.iload_n 3, 1) := by decide +kernel
theorem dX5_worst_69 : decode cX5_worst 69 = .ok (.invokevirtual 197, 3) := by decide +kernel
theorem dX5_worst_72 : decode cX5_worst 72 = .ok (.istore_n 3, 1) := by decide +kernel
theorem dX5_worst_73 : decode cX5_worst 73 = .ok (.goto (-40), 3) := by decide +kernel
theorem dX5_worst_76 : decode cX5_worst 76 = .ok (.iload_n 2, 1) := by decide +kernel
theorem dX5_worst_77 : decode cX5_worst 77 = .ok (.ireturn, 1) := by decide +kernel
theorem dX5_way_0 : decode cX5_way 0 = .ok (.aload_n 0, 1) := by decide +kernel
theorem dX5_way_1 : decode cX5_way 1 = .ok (.iload_n 1, 1) := by decide +kernel
theorem dX5_way_2 : decode cX5_way 2 = .ok (.invokevirtual 99, 3) := by decide +kernel
theorem dX5_way_5 : decode cX5_way 5 = .ok (.ifCond .eq 7, 3) := by decide +kernel
theorem dX5_way_8 : decode cX5_way 8 = .ok (.iload_n 2, 1) := by decide +kernel
theorem dX5_way_9 : decode cX5_way 9 = .ok (.ifCond .ge 5, 3) := by decide +kernel
theorem dX5_way_12 : decode cX5_way 12 = .ok (.iconst (-1), 1) := by decide +kernel
theorem dX5_way_13 : decode cX5_way 13 = .ok (.ireturn, 1) := by decide +kernel
theorem dX5_way_14 : decode cX5_way 14 = .ok (.aload_n 0, 1) := by decide +kernel
theorem dX5_way_15 : decode cX5_way 15 = .ok (.invokevirtual 194, 3) := by decide +kernel
theorem dX5_way_18 : decode cX5_way 18 = .ok (.iconst 0, 1) := by decide +kernel
theorem dX5_way_19 : decode cX5_way 19 = .ok (.istore_n 3, 1) := by decide +kernel
theorem dX5_way_20 : decode cX5_way 20 = .ok (.iload_n 1, 1) := by decide +kernel
theorem dX5_way_21 : decode cX5_way 21 = .ok (.istore 4, 2) := by decide +kernel
theorem dX5_way_23 : decode cX5_way 23 = .ok (.aload_n 0, 1) := by decide +kernel
theorem dX5_way_24 : decode cX5_way 24 = .ok (.getfield 70, 3) := by decide +kernel
theorem dX5_way_27 : decode cX5_way 27 = .ok (.iload 4, 2) := by decide +kernel
theorem dX5_way_29 : decode cX5_way 29 = .ok (.iaload, 1) := by decide +kernel
theorem dX5_way_30 : decode cX5_way 30 = .ok (.ifCond .lt 17, 3) := by decide +kernel
theorem dX5_way_33 : decode cX5_way 33 = .ok (.iinc 3 1, 3) := by decide +kernel
theorem dX5_way_36 : decode cX5_way 36 = .ok (.aload_n 0, 1) := by decide +kernel
theorem dX5_way_37 : decode cX5_way 37 = .ok (.iload 4, 2) := by decide +kernel
theorem dX5_way_39 : decode cX5_way 39 = .ok (.invokevirtual 197, 3) := by decide +kernel
theorem dX5_way_42 : decode cX5_way 42 = .ok (.istore 4, 2) := by decide +kernel
theorem dX5_way_44 : decode cX5_way 44 = .ok (.goto (-21), 3) := by decide +kernel
theorem dX5_way_47 : decode cX5_way 47 = .ok (.iload_n 2, 1) := by decide +kernel
theorem dX5_way_48 : decode cX5_way 48 = .ok (.iload_n 3, 1) := by decide +kernel
theorem dX5_way_49 : decode cX5_way 49 = .ok (.if_icmp .lt 5, 3) := by decide +kernel
theorem dX5_way_52 : decode cX5_way 52 = .ok (.iconst (-1), 1) := by decide +kernel
theorem dX5_way_53 : decode cX5_way 53 = .ok (.ireturn, 1) := by decide +kernel
theorem dX5_way_54 : decode cX5_way 54 = .ok (.iload_n 1, 1) := by decide +kernel
theorem dX5_way_55 : decode cX5_way 55 = .ok (.istore 4, 2) := by decide +kernel
theorem dX5_way_57 : decode cX5_way 57 = .ok (.iload_n 3, 1) := by decide +kernel
theorem dX5_way_58 : decode cX5_way 58 = .ok (.iconst 1, 1) := by decide +kernel
theorem dX5_way_59 : decode cX5_way 59 = .ok (.isub, 1) := by decide +kernel
theorem dX5_way_60 : decode cX5_way 60 = .ok (.istore 5, 2) := by decide +kernel
theorem dX5_way_62 : decode cX5_way 62 = .ok (.iload 5, 2) := by decide +kernel
theorem dX5_way_64 : decode cX5_way 64 = .ok (.iload_n 2, 1) := by decide +kernel
theorem dX5_way_65 : decode cX5_way 65 = .ok (.if_icmp .le 17, 3) := by decide +kernel
theorem dX5_way_68 : decode cX5_way 68 = .ok (.aload_n 0, 1) := by decide +kernel
theorem dX5_way_69 : decode cX5_way 69 = .ok (.iload 4, 2) := by decide +kernel
theorem dX5_way_71 : decode cX5_way 71 = .ok (.invokevirtual 197, 3) := by decide +kernel
theorem dX5_way_74 : decode cX5_way 74 = .ok (.istore 4, 2) := by decide +kernel
theorem dX5_way_76 : decode cX5_way 76 = .ok (.iinc 5 (-1), 3) := by decide +kernel
theorem dX5_way_79 : decode cX5_way 79 = .ok (.goto (-17), 3) := by decide +kernel
theorem dX5_way_82 : decode cX5_way 82 = .ok (.aload_n 0, 1) := by decide +kernel
theorem dX5_way_83 : decode cX5_way 83 = .ok (.getfield 70, 3) := by decide +kernel
theorem dX5_way_86 : decode cX5_way 86 = .ok (.iload 4, 2) := by decide +kernel
theorem dX5_way_88 : decode cX5_way 88 = .ok (.iaload, 1) := by decide +kernel
theorem dX5_way_89 : decode cX5_way 89 = .ok (.ireturn, 1) := by decide +kernel
theorem dX5_apart_0 : decode cX5_apart 0 = .ok (.iconst 0, 1) := by decide +kernel
theorem dX5_apart_1 : decode cX5_apart 1 = .ok (.istore_n 1, 1) := by decide +kernel
theorem dX5_apart_2 : decode cX5_apart 2 = .ok (.iload_n 1, 1) := by decide +kernel
theorem dX5_apart_3 : decode cX5_apart 3 = .ok (.aload_n 0, 1) := by decide +kernel
theorem dX5_apart_4 : decode cX5_apart 4 = .ok (.getfield 88, 3) := by decide +kernel
theorem dX5_apart_7 : decode cX5_apart 7 = .ok (.if_icmp .ge 16, 3) := by decide +kernel
theorem dX5_apart_10 : decode cX5_apart 10 = .ok (.aload_n 0, 1) := by decide +kernel
theorem dX5_apart_11 : decode cX5_apart 11 = .ok (.getfield 73, 3) := by decide +kernel
theorem dX5_apart_14 : decode cX5_apart 14 = .ok (.iload_n 1, 1) := by decide +kernel
theorem dX5_apart_15 : decode cX5_apart 15 = .ok (.iload_n 1, 1) := by decide +kernel
theorem dX5_apart_16 : decode cX5_apart 16 = .ok (.iastore, 1) := by decide +kernel
theorem dX5_apart_17 : decode cX5_apart 17 = .ok (.iinc 1 1, 3) := by decide +kernel
theorem dX5_apart_20 : decode cX5_apart 20 = .ok (.goto (-18), 3) := by decide +kernel
theorem dX5_apart_23 : decode cX5_apart 23 = .ok (.return_, 1) := by decide +kernel
theorem dX5_tie_0 : decode cX5_tie 0 = .ok (.aload_n 0, 1) := by decide +kernel
theorem dX5_tie_1 : decode cX5_tie 1 = .ok (.getfield 73, 3) := by decide +kernel
theorem dX5_tie_4 : decode cX5_tie 4 = .ok (.aload_n 0, 1) := by decide +kernel
theorem dX5_tie_5 : decode cX5_tie 5 = .ok (.getfield 17, 3) := by decide +kernel
theorem dX5_tie_8 : decode cX5_tie 8 = .ok (.iload_n 1, 1) := by decide +kernel
theorem dX5_tie_9 : decode cX5_tie 9 = .ok (.iaload, 1) := by decide +kernel
theorem dX5_tie_10 : decode cX5_tie 10 = .ok (.iaload, 1) := by decide +kernel
theorem dX5_tie_11 : decode cX5_tie 11 = .ok (.istore_n 2, 1) := by decide +kernel
theorem dX5_tie_12 : decode cX5_tie 12 = .ok (.aload_n 0, 1) := by decide +kernel
theorem dX5_tie_13 : decode cX5_tie 13 = .ok (.getfield 73, 3) := by decide +kernel
theorem dX5_tie_16 : decode cX5_tie 16 = .ok (.aload_n 0, 1) := by decide +kernel
theorem dX5_tie_17 : decode cX5_tie 17 = .ok (.getfield 20, 3) := by decide +kernel
theorem dX5_tie_20 : decode cX5_tie 20 = .ok (.iload_n 1, 1) := by decide +kernel
theorem dX5_tie_21 : decode cX5_tie 21 = .ok (.iaload, 1) := by decide +kernel
theorem dX5_tie_22 : decode cX5_tie 22 = .ok (.iaload, 1) := by decide +kernel
theorem dX5_tie_23 : decode cX5_tie 23 = .ok (.istore_n 3, 1) := by decide +kernel
theorem dX5_tie_24 : decode cX5_tie 24 = .ok (.iconst 0, 1) := by decide +kernel
theorem dX5_tie_25 : decode cX5_tie 25 = .ok (.istore 4, 2) := by decide +kernel
theorem dX5_tie_27 : decode cX5_tie 27 = .ok (.iload 4, 2) := by decide +kernel
theorem dX5_tie_29 : decode cX5_tie 29 = .ok (.aload_n 0, 1) := by decide +kernel
theorem dX5_tie_30 : decode cX5_tie 30 = .ok (.getfield 88, 3) := by decide +kernel
theorem dX5_tie_33 : decode cX5_tie 33 = .ok (.if_icmp .ge 38, 3) := by decide +kernel
theorem dX5_tie_36 : decode cX5_tie 36 = .ok (.aload_n 0, 1) := by decide +kernel
theorem dX5_tie_37 : decode cX5_tie 37 = .ok (.getfield 73, 3) := by decide +kernel
theorem dX5_tie_40 : decode cX5_tie 40 = .ok (.iload 4, 2) := by decide +kernel
theorem dX5_tie_42 : decode cX5_tie 42 = .ok (.aload_n 0, 1) := by decide +kernel
theorem dX5_tie_43 : decode cX5_tie 43 = .ok (.getfield 73, 3) := by decide +kernel
theorem dX5_tie_46 : decode cX5_tie 46 = .ok (.iload 4, 2) := by decide +kernel
theorem dX5_tie_48 : decode cX5_tie 48 = .ok (.iaload, 1) := by decide +kernel
theorem dX5_tie_49 : decode cX5_tie 49 = .ok (.iload_n 2, 1) := by decide +kernel
theorem dX5_tie_50 : decode cX5_tie 50 = .ok (.if_icmp .ne 7, 3) := by decide +kernel
theorem dX5_tie_53 : decode cX5_tie 53 = .ok (.iload_n 3, 1) := by decide +kernel
theorem dX5_tie_54 : decode cX5_tie 54 = .ok (.goto 10, 3) := by decide +kernel
theorem dX5_tie_57 : decode cX5_tie 57 = .ok (.aload_n 0, 1) := by decide +kernel
theorem dX5_tie_58 : decode cX5_tie 58 = .ok (.getfield 73, 3) := by decide +kernel
theorem dX5_tie_61 : decode cX5_tie 61 = .ok (.iload 4, 2) := by decide +kernel
theorem dX5_tie_63 : decode cX5_tie 63 = .ok (.iaload, 1) := by decide +kernel
theorem dX5_tie_64 : decode cX5_tie 64 = .ok (.iastore, 1) := by decide +kernel
theorem dX5_tie_65 : decode cX5_tie 65 = .ok (.iinc 4 1, 3) := by decide +kernel
theorem dX5_tie_68 : decode cX5_tie 68 = .ok (.goto (-41), 3) := by decide +kernel
theorem dX5_tie_71 : decode cX5_tie 71 = .ok (.iload_n 2, 1) := by decide +kernel
theorem dX5_tie_72 : decode cX5_tie 72 = .ok (.iload_n 3, 1) := by decide +kernel
theorem dX5_tie_73 : decode cX5_tie 73 = .ok (.if_icmp .eq 7, 3) := by decide +kernel
theorem dX5_tie_76 : decode cX5_tie 76 = .ok (.iconst 1, 1) := by decide +kernel
theorem dX5_tie_77 : decode cX5_tie 77 = .ok (.goto 4, 3) := by decide +kernel
theorem dX5_tie_80 : decode cX5_tie 80 = .ok (.iconst 0, 1) := by decide +kernel
theorem dX5_tie_81 : decode cX5_tie 81 = .ok (.ireturn, 1) := by decide +kernel
theorem dX5_join_0 : decode cX5_join 0 = .ok (.aload_n 0, 1) := by decide +kernel
theorem dX5_join_1 : decode cX5_join 1 = .ok (.iload_n 1, 1) := by decide +kernel
theorem dX5_join_2 : decode cX5_join 2 = .ok (.invokevirtual 99, 3) := by decide +kernel
theorem dX5_join_5 : decode cX5_join 5 = .ok (.ifCond .eq 11, 3) := by decide +kernel
theorem dX5_join_8 : decode cX5_join 8 = .ok (.aload_n 0, 1) := by decide +kernel
theorem dX5_join_9 : decode cX5_join 9 = .ok (.iload_n 2, 1) := by decide +kernel
theorem dX5_join_10 : decode cX5_join 10 = .ok (.invokevirtual 99, 3) := by decide +kernel
theorem dX5_join_13 : decode cX5_join 13 = .ok (.ifCond .ne 6, 3) := by decide +kernel
theorem dX5_join_16 : decode cX5_join 16 = .ok (.bipush (-2), 2) := by decide +kernel
theorem dX5_join_18 : decode cX5_join 18 = .ok (.ireturn, 1) := by decide +kernel
theorem dX5_join_19 : decode cX5_join 19 = .ok (.iload_n 1, 1) := by decide +kernel
theorem dX5_join_20 : decode cX5_join 20 = .ok (.iload_n 2, 1) := by decide +kernel
theorem dX5_join_21 : decode cX5_join 21 = .ok (.if_icmp .ne 5, 3) := by decide +kernel
theorem dX5_join_24 : decode cX5_join 24 = .ok (.iconst (-1), 1) := by decide +kernel
theorem dX5_join_25 : decode cX5_join 25 = .ok (.ireturn, 1) := by decide +kernel
theorem dX5_join_26 : decode cX5_join 26 = .ok (.aload_n 0, 1) := by decide +kernel
theorem dX5_join_27 : decode cX5_join 27 = .ok (.invokevirtual 200, 3) := by decide +kernel
theorem dX5_join_30 : decode cX5_join 30 = .ok (.iconst 0, 1) := by decide +kernel
theorem dX5_join_31 : decode cX5_join 31 = .ok (.istore_n 3, 1) := by decide +kernel
theorem dX5_join_32 : decode cX5_join 32 = .ok (.iload_n 3, 1) := by decide +kernel
theorem dX5_join_33 : decode cX5_join 33 = .ok (.aload_n 0, 1) := by decide +kernel
theorem dX5_join_34 : decode cX5_join 34 = .ok (.getfield 92, 3) := by decide +kernel
theorem dX5_join_37 : decode cX5_join 37 = .ok (.if_icmp .ge 47, 3) := by decide +kernel
theorem dX5_join_40 : decode cX5_join 40 = .ok (.aload_n 0, 1) := by decide +kernel
theorem dX5_join_41 : decode cX5_join 41 = .ok (.iload_n 3, 1) := by decide +kernel
theorem dX5_join_42 : decode cX5_join 42 = .ok (.invokevirtual 203, 3) := by decide +kernel
theorem dX5_join_45 : decode cX5_join 45 = .ok (.istore 4, 2) := by decide +kernel
theorem dX5_join_47 : decode cX5_join 47 = .ok (.iload 4, 2) := by decide +kernel
theorem dX5_join_49 : decode cX5_join 49 = .ok (.ifCond .lt 29, 3) := by decide +kernel
theorem dX5_join_52 : decode cX5_join 52 = .ok (.aload_n 0, 1) := by decide +kernel
theorem dX5_join_53 : decode cX5_join 53 = .ok (.iload 4, 2) := by decide +kernel
theorem dX5_join_55 : decode cX5_join 55 = .ok (.invokevirtual 206, 3) := by decide +kernel
theorem dX5_join_58 : decode cX5_join 58 = .ok (.ifCond .eq 20, 3) := by decide +kernel
theorem dX5_join_61 : decode cX5_join 61 = .ok (.aload_n 0, 1) := by decide +kernel
theorem dX5_join_62 : decode cX5_join 62 = .ok (.getfield 73, 3) := by decide +kernel
theorem dX5_join_65 : decode cX5_join 65 = .ok (.iload_n 1, 1) := by decide +kernel
theorem dX5_join_66 : decode cX5_join 66 = .ok (.iaload, 1) := by decide +kernel
theorem dX5_join_67 : decode cX5_join 67 = .ok (.aload_n 0, 1) := by decide +kernel
theorem dX5_join_68 : decode cX5_join 68 = .ok (.getfield 73, 3) := by decide +kernel
theorem dX5_join_71 : decode cX5_join 71 = .ok (.iload_n 2, 1) := by decide +kernel
theorem dX5_join_72 : decode cX5_join 72 = .ok (.iaload, 1) := by decide +kernel
theorem dX5_join_73 : decode cX5_join 73 = .ok (.if_icmp .ne 5, 3) := by decide +kernel
theorem dX5_join_76 : decode cX5_join 76 = .ok (.iload_n 3, 1) := by decide +kernel
theorem dX5_join_77 : decode cX5_join 77 = .ok (.ireturn, 1) := by decide +kernel
theorem dX5_join_78 : decode cX5_join 78 = .ok (.iinc 3 1, 3) := by decide +kernel
theorem dX5_join_81 : decode cX5_join 81 = .ok (.goto (-49), 3) := by decide +kernel
theorem dX5_join_84 : decode cX5_join 84 = .ok (.bipush (-8), 2) := by decide +kernel
theorem dX5_join_86 : decode cX5_join 86 = .ok (.ireturn, 1) := by decide +kernel
theorem dX5_tree_0 : decode cX5_tree 0 = .ok (.aload_n 0, 1) := by decide +kernel
theorem dX5_tree_1 : decode cX5_tree 1 = .ok (.invokevirtual 200, 3) := by decide +kernel
theorem dX5_tree_4 : decode cX5_tree 4 = .ok (.iconst 0, 1) := by decide +kernel
theorem dX5_tree_5 : decode cX5_tree 5 = .ok (.istore_n 2, 1) := by decide +kernel
theorem dX5_tree_6 : decode cX5_tree 6 = .ok (.iconst 0, 1) := by decide +kernel
theorem dX5_tree_7 : decode cX5_tree 7 = .ok (.istore_n 3, 1) := by decide +kernel
theorem dX5_tree_8 : decode cX5_tree 8 = .ok (.iload_n 3, 1) := by decide +kernel
theorem dX5_tree_9 : decode cX5_tree 9 = .ok (.aload_n 0, 1) := by decide +kernel
theorem dX5_tree_10 : decode cX5_tree 10 = .ok (.getfield 92, 3) := by decide +kernel
theorem dX5_tree_13 : decode cX5_tree 13 = .ok (.if_icmp .ge 41, 3) := by decide +kernel
theorem dX5_tree_16 : decode cX5_tree 16 = .ok (.aload_n 0, 1) := by decide +kernel
theorem dX5_tree_17 : decode cX5_tree 17 = .ok (.iload_n 3, 1) := by decide +kernel
theorem dX5_tree_18 : decode cX5_tree 18 = .ok (.invokevirtual 203, 3) := by decide +kernel
theorem dX5_tree_21 : decode cX5_tree 21 = .ok (.istore 4, 2) := by decide +kernel
theorem dX5_tree_23 : decode cX5_tree 23 = .ok (.iload 4, 2) := by decide +kernel
theorem dX5_tree_25 : decode cX5_tree 25 = .ok (.ifCond .lt 23, 3) := by decide +kernel
theorem dX5_tree_28 : decode cX5_tree 28 = .ok (.aload_n 0, 1) := by decide +kernel
theorem dX5_tree_29 : decode cX5_tree 29 = .ok (.iload 4, 2) := by decide +kernel
theorem dX5_tree_31 : decode cX5_tree 31 = .ok (.invokevirtual 206, 3) := by decide +kernel
theorem dX5_tree_34 : decode cX5_tree 34 = .ok (.ifCond .eq 14, 3) := by decide +kernel
theorem dX5_tree_37 : decode cX5_tree 37 = .ok (.iload_n 2, 1) := by decide +kernel
theorem dX5_tree_38 : decode cX5_tree 38 = .ok (.iload_n 1, 1) := by decide +kernel
theorem dX5_tree_39 : decode cX5_tree 39 = .ok (.if_icmp .ne 6, 3) := by decide +kernel
theorem dX5_tree_42 : decode cX5_tree 42 = .ok (.iload 4, 2) := by decide +kernel
theorem dX5_tree_44 : decode cX5_tree 44 = .ok (.ireturn, 1) := by decide +kernel
theorem dX5_tree_45 : decode cX5_tree 45 = .ok (.iinc 2 1, 3) := by decide +kernel
theorem dX5_tree_48 : decode cX5_tree 48 = .ok (.iinc 3 1, 3) := by decide +kernel
theorem dX5_tree_51 : decode cX5_tree 51 = .ok (.goto (-43), 3) := by decide +kernel
theorem dX5_tree_54 : decode cX5_tree 54 = .ok (.iconst (-1), 1) := by decide +kernel
theorem dX5_tree_55 : decode cX5_tree 55 = .ok (.ireturn, 1) := by decide +kernel
theorem dX5_claim_0 : decode cX5_claim 0 = .ok (.aload_n 0, 1) := by decide +kernel
theorem dX5_claim_1 : decode cX5_claim 1 = .ok (.iload_n 1, 1) := by decide +kernel
theorem dX5_claim_2 : decode cX5_claim 2 = .ok (.invokevirtual 103, 3) := by decide +kernel
theorem dX5_claim_5 : decode cX5_claim 5 = .ok (.ifCond .ne 5, 3) := by decide +kernel
theorem dX5_claim_8 : decode cX5_claim 8 = .ok (.iconst (-1), 1) := by decide +kernel
theorem dX5_claim_9 : decode cX5_claim 9 = .ok (.ireturn, 1) := by decide +kernel
theorem dX5_claim_10 : decode cX5_claim 10 = .ok (.aload_n 0, 1) := by decide +kernel
theorem dX5_claim_11 : decode cX5_claim 11 = .ok (.getfield 185, 3) := by decide +kernel
theorem dX5_claim_14 : decode cX5_claim 14 = .ok (.sipush 200, 3) := by decide +kernel
theorem dX5_claim_17 : decode cX5_claim 17 = .ok (.if_icmp .ne 6, 3) := by decide +kernel
theorem dX5_claim_20 : decode cX5_claim 20 = .ok (.bipush (-2), 2) := by decide +kernel
theorem dX5_claim_22 : decode cX5_claim 22 = .ok (.ireturn, 1) := by decide +kernel
theorem dX5_claim_23 : decode cX5_claim 23 = .ok (.aload_n 0, 1) := by decide +kernel
theorem dX5_claim_24 : decode cX5_claim 24 = .ok (.getfield 55, 3) := by decide +kernel
theorem dX5_claim_27 : decode cX5_claim 27 = .ok (.aload_n 0, 1) := by decide +kernel
theorem dX5_claim_28 : decode cX5_claim 28 = .ok (.getfield 185, 3) := by decide +kernel
theorem dX5_claim_31 : decode cX5_claim 31 = .ok (.iload_n 1, 1) := by decide +kernel
theorem dX5_claim_32 : decode cX5_claim 32 = .ok (.iastore, 1) := by decide +kernel
theorem dX5_claim_33 : decode cX5_claim 33 = .ok (.aload_n 0, 1) := by decide +kernel
theorem dX5_claim_34 : decode cX5_claim 34 = .ok (.dup, 1) := by decide +kernel
theorem dX5_claim_35 : decode cX5_claim 35 = .ok (.getfield 185, 3) := by decide +kernel
theorem dX5_claim_38 : decode cX5_claim 38 = .ok (.iconst 1, 1) := by decide +kernel
theorem dX5_claim_39 : decode cX5_claim 39 = .ok (.iadd, 1) := by decide +kernel
theorem dX5_claim_40 : decode cX5_claim 40 = .ok (.putfield 185, 3) := by decide +kernel
theorem dX5_claim_43 : decode cX5_claim 43 = .ok (.aload_n 0, 1) := by decide +kernel
theorem dX5_claim_44 : decode cX5_claim 44 = .ok (.getfield 185, 3) := by decide +kernel
theorem dX5_claim_47 : decode cX5_claim 47 = .ok (.ireturn, 1) := by decide +kernel
theorem dX5_copy_0 : decode cX5_copy 0 = .ok (.aload_n 0, 1) := by decide +kernel
theorem dX5_copy_1 : decode cX5_copy 1 = .ok (.getfield 95, 3) := by decide +kernel
theorem dX5_copy_4 : decode cX5_copy 4 = .ok (.ifCond .ne 6, 3) := by decide +kernel
theorem dX5_copy_7 : decode cX5_copy 7 = .ok (.bipush (-6), 2) := by decide +kernel
theorem dX5_copy_9 : decode cX5_copy 9 = .ok (.ireturn, 1) := by decide +kernel
theorem dX5_copy_10 : decode cX5_copy 10 = .ok (.aload_n 0, 1) := by decide +kernel
theorem dX5_copy_11 : decode cX5_copy 11 = .ok (.aload_n 0, 1) := by decide +kernel
theorem dX5_copy_12 : decode cX5_copy 12 = .ok (.getfield 152, 3) := by decide +kernel
theorem dX5_copy_15 : decode cX5_copy 15 = .ok (.putfield 185, 3) := by decide +kernel
theorem dX5_copy_18 : decode cX5_copy 18 = .ok (.iconst 0, 1) := by decide +kernel
theorem dX5_copy_19 : decode cX5_copy 19 = .ok (.istore_n 1, 1) := by decide +kernel
theorem dX5_copy_20 : decode cX5_copy 20 = .ok (.iload_n 1, 1) := by decide +kernel
theorem dX5_copy_21 : decode cX5_copy 21 = .ok (.aload_n 0, 1) := by decide +kernel
theorem dX5_copy_22 : decode cX5_copy 22 = .ok (.getfield 152, 3) := by decide +kernel
theorem dX5_copy_25 : decode cX5_copy 25 = .ok (.if_icmp .ge 23, 3) := by decide +kernel
theorem dX5_copy_28 : decode cX5_copy 28 = .ok (.aload_n 0, 1) := by decide +kernel
theorem dX5_copy_29 : decode cX5_copy 29 = .ok (.getfield 55, 3) := by decide +kernel
theorem dX5_copy_32 : decode cX5_copy 32 = .ok (.iload_n 1, 1) := by decide +kernel
theorem dX5_copy_33 : decode cX5_copy 33 = .ok (.aload_n 0, 1) := by decide +kernel
theorem dX5_copy_34 : decode cX5_copy 34 = .ok (.getfield 43, 3) := by decide +kernel
theorem dX5_copy_37 : decode cX5_copy 37 = .ok (.iload_n 1, 1) := by decide +kernel
theorem dX5_copy_38 : decode cX5_copy 38 = .ok (.iconst 1, 1) := by decide +kernel
theorem dX5_copy_39 : decode cX5_copy 39 = .ok (.iadd, 1) := by decide +kernel
theorem dX5_copy_40 : decode cX5_copy 40 = .ok (.iaload, 1) := by decide +kernel
theorem dX5_copy_41 : decode cX5_copy 41 = .ok (.iastore, 1) := by decide +kernel
