theorem dX5_rank_22 : decode cX5_rank 22 = .ok (.aload_n 0, 1) := by decide +kernel
theorem dX5_rank_23 : decode cX5_rank 23 = .ok (.iload_n 3, 1) := by decide +kernel
theorem dX5_rank_24 : decode cX5_rank 24 = .ok (.iload_n 1, 1) := by decide +kernel
theorem dX5_rank_25 : decode cX5_rank 25 = .ok (.invokevirtual 110, 3) := by decide +kernel
theorem dX5_rank_28 : decode cX5_rank 28 = .ok (.ifCond .eq 7, 3) := by decide +kernel
theorem dX5_rank_31 : decode cX5_rank 31 = .ok (.iconst 1, 1) := by decide +kernel
theorem dX5_rank_32 : decode cX5_rank 32 = .ok (.goto 4, 3) := by decide +kernel
theorem dX5_rank_35 : decode cX5_rank 35 = .ok (.iconst 0, 1) := by decide +kernel
theorem dX5_rank_36 : decode cX5_rank 36 = .ok (.iadd, 1) := by decide +kernel
theorem dX5_rank_37 : decode cX5_rank 37 = .ok (.istore_n 2, 1) := by decide +kernel
theorem dX5_rank_38 : decode cX5_rank 38 = .ok (.iinc 3 1, 3) := by decide +kernel
theorem dX5_rank_41 : decode cX5_rank 41 = .ok (.goto (-37), 3) := by decide +kernel
theorem dX5_rank_44 : decode cX5_rank 44 = .ok (.iload_n 2, 1) := by decide +kernel
theorem dX5_rank_45 : decode cX5_rank 45 = .ok (.ireturn, 1) := by decide +kernel
theorem dX5_about_0 : decode cX5_about 0 = .ok (.aload_n 0, 1) := by decide +kernel
theorem dX5_about_1 : decode cX5_about 1 = .ok (.iload_n 1, 1) := by decide +kernel
theorem dX5_about_2 : decode cX5_about 2 = .ok (.invokevirtual 103, 3) := by decide +kernel
theorem dX5_about_5 : decode cX5_about 5 = .ok (.ifCond .ne 5, 3) := by decide +kernel
theorem dX5_about_8 : decode cX5_about 8 = .ok (.iconst (-1), 1) := by decide +kernel
theorem dX5_about_9 : decode cX5_about 9 = .ok (.ireturn, 1) := by decide +kernel
theorem dX5_about_10 : decode cX5_about 10 = .ok (.iload_n 2, 1) := by decide +kernel
theorem dX5_about_11 : decode cX5_about 11 = .ok (.tableswitch 89 0 4 #[33, 40, 47, 54, 69], 33) := by decide +kernel
theorem dX5_about_44 : decode cX5_about 44 = .ok (.aload_n 0, 1) := by decide +kernel
theorem dX5_about_45 : decode cX5_about 45 = .ok (.getfield 17, 3) := by decide +kernel
theorem dX5_about_48 : decode cX5_about 48 = .ok (.iload_n 1, 1) := by decide +kernel
theorem dX5_about_49 : decode cX5_about 49 = .ok (.iaload, 1) := by decide +kernel
theorem dX5_about_50 : decode cX5_about 50 = .ok (.ireturn, 1) := by decide +kernel
theorem dX5_about_51 : decode cX5_about 51 = .ok (.aload_n 0, 1) := by decide +kernel
theorem dX5_about_52 : decode cX5_about 52 = .ok (.getfield 20, 3) := by decide +kernel
theorem dX5_about_55 : decode cX5_about 55 = .ok (.iload_n 1, 1) := by decide +kernel
theorem dX5_about_56 : decode cX5_about 56 = .ok (.iaload, 1) := by decide +kernel
theorem dX5_about_57 : decode cX5_about 57 = .ok (.ireturn, 1) := by decide +kernel
theorem dX5_about_58 : decode cX5_about 58 = .ok (.aload_n 0, 1) := by decide +kernel
theorem dX5_about_59 : decode cX5_about 59 = .ok (.getfield 23, 3) := by decide +kernel
theorem dX5_about_62 : decode cX5_about 62 = .ok (.iload_n 1, 1) := by decide +kernel
theorem dX5_about_63 : decode cX5_about 63 = .ok (.iaload, 1) := by decide +kernel
theorem dX5_about_64 : decode cX5_about 64 = .ok (.ireturn, 1) := by decide +kernel
theorem dX5_about_65 : decode cX5_about 65 = .ok (.aload_n 0, 1) := by decide +kernel
theorem dX5_about_66 : decode cX5_about 66 = .ok (.getfield 26, 3) := by decide +kernel
theorem dX5_about_69 : decode cX5_about 69 = .ok (.iload_n 1, 1) := by decide +kernel
theorem dX5_about_70 : decode cX5_about 70 = .ok (.baload, 1) := by decide +kernel
theorem dX5_about_71 : decode cX5_about 71 = .ok (.ifCond .eq 7, 3) := by decide +kernel
theorem dX5_about_74 : decode cX5_about 74 = .ok (.iconst 0, 1) := by decide +kernel
theorem dX5_about_75 : decode cX5_about 75 = .ok (.goto 4, 3) := by decide +kernel
theorem dX5_about_78 : decode cX5_about 78 = .ok (.iconst 1, 1) := by decide +kernel
theorem dX5_about_79 : decode cX5_about 79 = .ok (.ireturn, 1) := by decide +kernel
theorem dX5_about_80 : decode cX5_about 80 = .ok (.aload_n 0, 1) := by decide +kernel
theorem dX5_about_81 : decode cX5_about 81 = .ok (.getfield 26, 3) := by decide +kernel
theorem dX5_about_84 : decode cX5_about 84 = .ok (.iload_n 1, 1) := by decide +kernel
theorem dX5_about_85 : decode cX5_about 85 = .ok (.baload, 1) := by decide +kernel
theorem dX5_about_86 : decode cX5_about 86 = .ok (.ifCond .eq 8, 3) := by decide +kernel
theorem dX5_about_89 : decode cX5_about 89 = .ok (.bipush (-2), 2) := by decide +kernel
theorem dX5_about_91 : decode cX5_about 91 = .ok (.goto 8, 3) := by decide +kernel
theorem dX5_about_94 : decode cX5_about 94 = .ok (.aload_n 0, 1) := by decide +kernel
theorem dX5_about_95 : decode cX5_about 95 = .ok (.iload_n 1, 1) := by decide +kernel
theorem dX5_about_96 : decode cX5_about 96 = .ok (.invokevirtual 114, 3) := by decide +kernel
theorem dX5_about_99 : decode cX5_about 99 = .ok (.ireturn, 1) := by decide +kernel
theorem dX5_about_100 : decode cX5_about 100 = .ok (.iconst (-1), 1) := by decide +kernel
theorem dX5_about_101 : decode cX5_about 101 = .ok (.ireturn, 1) := by decide +kernel
theorem dX5_of_0 : decode cX5_of 0 = .ok (.aload_n 0, 1) := by decide +kernel
theorem dX5_of_1 : decode cX5_of 1 = .ok (.iload_n 1, 1) := by decide +kernel
theorem dX5_of_2 : decode cX5_of 2 = .ok (.invokevirtual 99, 3) := by decide +kernel
theorem dX5_of_5 : decode cX5_of 5 = .ok (.ifCond .ne 5, 3) := by decide +kernel
theorem dX5_of_8 : decode cX5_of 8 = .ok (.iconst (-1), 1) := by decide +kernel
theorem dX5_of_9 : decode cX5_of 9 = .ok (.ireturn, 1) := by decide +kernel
theorem dX5_of_10 : decode cX5_of 10 = .ok (.iconst 0, 1) := by decide +kernel
theorem dX5_of_11 : decode cX5_of 11 = .ok (.istore_n 3, 1) := by decide +kernel
theorem dX5_of_12 : decode cX5_of 12 = .ok (.iconst 0, 1) := by decide +kernel
theorem dX5_of_13 : decode cX5_of 13 = .ok (.istore 4, 2) := by decide +kernel
theorem dX5_of_15 : decode cX5_of 15 = .ok (.iload 4, 2) := by decide +kernel
theorem dX5_of_17 : decode cX5_of 17 = .ok (.aload_n 0, 1) := by decide +kernel
theorem dX5_of_18 : decode cX5_of 18 = .ok (.getfield 92, 3) := by decide +kernel
theorem dX5_of_21 : decode cX5_of 21 = .ok (.if_icmp .ge 39, 3) := by decide +kernel
theorem dX5_of_24 : decode cX5_of 24 = .ok (.iload_n 3, 1) := by decide +kernel
theorem dX5_of_25 : decode cX5_of 25 = .ok (.aload_n 0, 1) := by decide +kernel
theorem dX5_of_26 : decode cX5_of 26 = .ok (.getfield 17, 3) := by decide +kernel
theorem dX5_of_29 : decode cX5_of 29 = .ok (.iload 4, 2) := by decide +kernel
theorem dX5_of_31 : decode cX5_of 31 = .ok (.iaload, 1) := by decide +kernel
theorem dX5_of_32 : decode cX5_of 32 = .ok (.iload_n 1, 1) := by decide +kernel
theorem dX5_of_33 : decode cX5_of 33 = .ok (.if_icmp .eq 14, 3) := by decide +kernel
theorem dX5_of_36 : decode cX5_of 36 = .ok (.aload_n 0, 1) := by decide +kernel
theorem dX5_of_37 : decode cX5_of 37 = .ok (.getfield 20, 3) := by decide +kernel
theorem dX5_of_40 : decode cX5_of 40 = .ok (.iload 4, 2) := by decide +kernel
theorem dX5_of_42 : decode cX5_of 42 = .ok (.iaload, 1) := by decide +kernel
theorem dX5_of_43 : decode cX5_of 43 = .ok (.iload_n 1, 1) := by decide +kernel
theorem dX5_of_44 : decode cX5_of 44 = .ok (.if_icmp .ne 7, 3) := by decide +kernel
theorem dX5_of_47 : decode cX5_of 47 = .ok (.iconst 1, 1) := by decide +kernel
theorem dX5_of_48 : decode cX5_of 48 = .ok (.goto 4, 3) := by decide +kernel
theorem dX5_of_51 : decode cX5_of 51 = .ok (.iconst 0, 1) := by decide +kernel
theorem dX5_of_52 : decode cX5_of 52 = .ok (.iadd, 1) := by decide +kernel
theorem dX5_of_53 : decode cX5_of 53 = .ok (.istore_n 3, 1) := by decide +kernel
theorem dX5_of_54 : decode cX5_of 54 = .ok (.iinc 4 1, 3) := by decide +kernel
theorem dX5_of_57 : decode cX5_of 57 = .ok (.goto (-42), 3) := by decide +kernel
theorem dX5_of_60 : decode cX5_of 60 = .ok (.iload_n 2, 1) := by decide +kernel
theorem dX5_of_61 : decode cX5_of 61 = .ok (.ifCond .ne 12, 3) := by decide +kernel
theorem dX5_of_64 : decode cX5_of 64 = .ok (.aload_n 0, 1) := by decide +kernel
theorem dX5_of_65 : decode cX5_of 65 = .ok (.getfield 7, 3) := by decide +kernel
theorem dX5_of_68 : decode cX5_of 68 = .ok (.iload_n 1, 1) := by decide +kernel
theorem dX5_of_69 : decode cX5_of 69 = .ok (.iaload, 1) := by decide +kernel
theorem dX5_of_70 : decode cX5_of 70 = .ok (.goto 35, 3) := by decide +kernel
theorem dX5_of_73 : decode cX5_of 73 = .ok (.iload_n 2, 1) := by decide +kernel
theorem dX5_of_74 : decode cX5_of 74 = .ok (.iconst 1, 1) := by decide +kernel
theorem dX5_of_75 : decode cX5_of 75 = .ok (.if_icmp .ne 20, 3) := by decide +kernel
theorem dX5_of_78 : decode cX5_of 78 = .ok (.aload_n 0, 1) := by decide +kernel
theorem dX5_of_79 : decode cX5_of 79 = .ok (.getfield 13, 3) := by decide +kernel
theorem dX5_of_82 : decode cX5_of 82 = .ok (.iload_n 1, 1) := by decide +kernel
theorem dX5_of_83 : decode cX5_of 83 = .ok (.baload, 1) := by decide +kernel
theorem dX5_of_84 : decode cX5_of 84 = .ok (.ifCond .eq 7, 3) := by decide +kernel
theorem dX5_of_87 : decode cX5_of 87 = .ok (.iconst 1, 1) := by decide +kernel
theorem dX5_of_88 : decode cX5_of 88 = .ok (.goto 17, 3) := by decide +kernel
theorem dX5_of_91 : decode cX5_of 91 = .ok (.iconst 0, 1) := by decide +kernel
theorem dX5_of_92 : decode cX5_of 92 = .ok (.goto 13, 3) := by decide +kernel
theorem dX5_of_95 : decode cX5_of 95 = .ok (.iload_n 2, 1) := by decide +kernel
theorem dX5_of_96 : decode cX5_of 96 = .ok (.iconst 2, 1) := by decide +kernel
theorem dX5_of_97 : decode cX5_of 97 = .ok (.if_icmp .ne 7, 3) := by decide +kernel
theorem dX5_of_100 : decode cX5_of 100 = .ok (.iload_n 3, 1) := by decide +kernel
theorem dX5_of_101 : decode cX5_of 101 = .ok (.goto 4, 3) := by decide +kernel
theorem dX5_of_104 : decode cX5_of 104 = .ok (.iconst (-1), 1) := by decide +kernel
theorem dX5_of_105 : decode cX5_of 105 = .ok (.ireturn, 1) := by decide +kernel
theorem dX5_ranked_0 : decode cX5_ranked 0 = .ok (.iconst 0, 1) := by decide +kernel
theorem dX5_ranked_1 : decode cX5_ranked 1 = .ok (.istore_n 2, 1) := by decide +kernel
theorem dX5_ranked_2 : decode cX5_ranked 2 = .ok (.iload_n 2, 1) := by decide +kernel
theorem dX5_ranked_3 : decode cX5_ranked 3 = .ok (.aload_n 0, 1) := by decide +kernel
theorem dX5_ranked_4 : decode cX5_ranked 4 = .ok (.getfield 92, 3) := by decide +kernel
theorem dX5_ranked_7 : decode cX5_ranked 7 = .ok (.if_icmp .ge 29, 3) := by decide +kernel
theorem dX5_ranked_10 : decode cX5_ranked 10 = .ok (.aload_n 0, 1) := by decide +kernel
theorem dX5_ranked_11 : decode cX5_ranked 11 = .ok (.getfield 26, 3) := by decide +kernel
theorem dX5_ranked_14 : decode cX5_ranked 14 = .ok (.iload_n 2, 1) := by decide +kernel
theorem dX5_ranked_15 : decode cX5_ranked 15 = .ok (.baload, 1) := by decide +kernel
theorem dX5_ranked_16 : decode cX5_ranked 16 = .ok (.ifCond .ne 14, 3) := by decide +kernel
theorem dX5_ranked_19 : decode cX5_ranked 19 = .ok (.aload_n 0, 1) := by decide +kernel
theorem dX5_ranked_20 : decode cX5_ranked 20 = .ok (.iload_n 2, 1) := by decide +kernel
theorem dX5_ranked_21 : decode cX5_ranked 21 = .ok (.invokevirtual 114, 3) := by decide +kernel
theorem dX5_ranked_24 : decode cX5_ranked 24 = .ok (.iload_n 1, 1) := by decide +kernel
theorem dX5_ranked_25 : decode cX5_ranked 25 = .ok (.if_icmp .ne 5, 3) := by decide +kernel
theorem dX5_ranked_28 : decode cX5_ranked 28 = .ok (.iload_n 2, 1) := by decide +kernel
theorem dX5_ranked_29 : decode cX5_ranked 29 = .ok (.ireturn, 1) := by decide +kernel
theorem dX5_ranked_30 : decode cX5_ranked 30 = .ok (.iinc 2 1, 3) := by decide +kernel
theorem dX5_ranked_33 : decode cX5_ranked 33 = .ok (.goto (-31), 3) := by decide +kernel
theorem dX5_ranked_36 : decode cX5_ranked 36 = .ok (.iconst (-1), 1) := by decide +kernel
theorem dX5_ranked_37 : decode cX5_ranked 37 = .ok (.ireturn, 1) := by decide +kernel
theorem dX5_isCore_0 : decode cX5_isCore 0 = .ok (.iload_n 0, 1) := by decide +kernel
theorem dX5_isCore_1 : decode cX5_isCore 1 = .ok (.ifCond .lt 13, 3) := by decide +kernel
theorem dX5_isCore_4 : decode cX5_isCore 4 = .ok (.iload_n 0, 1) := by decide +kernel
theorem dX5_isCore_5 : decode cX5_isCore 5 = .ok (.bipush 6, 2) := by decide +kernel
theorem dX5_isCore_7 : decode cX5_isCore 7 = .ok (.if_icmp .ge 7, 3) := by decide +kernel
theorem dX5_isCore_10 : decode cX5_isCore 10 = .ok (.iconst 1, 1) := by decide +kernel
theorem dX5_isCore_11 : decode cX5_isCore 11 = .ok (.goto 4, 3) := by decide +kernel
theorem dX5_isCore_14 : decode cX5_isCore 14 = .ok (.iconst 0, 1) := by decide +kernel
theorem dX5_isCore_15 : decode cX5_isCore 15 = .ok (.ireturn, 1) := by decide +kernel
theorem dX5_core_0 : decode cX5_core 0 = .ok (.iload_n 1, 1) := by decide +kernel
theorem dX5_core_1 : decode cX5_core 1 = .ok (.invokestatic 118, 3) := by decide +kernel
theorem dX5_core_4 : decode cX5_core 4 = .ok (.ifCond .eq 12, 3) := by decide +kernel
theorem dX5_core_7 : decode cX5_core 7 = .ok (.iload_n 2, 1) := by decide +kernel
theorem dX5_core_8 : decode cX5_core 8 = .ok (.ifCond .lt 8, 3) := by decide +kernel
theorem dX5_core_11 : decode cX5_core 11 = .ok (.iload_n 2, 1) := by decide +kernel
theorem dX5_core_12 : decode cX5_core 12 = .ok (.iconst 5, 1) := by decide +kernel
theorem dX5_core_13 : decode cX5_core 13 = .ok (.if_icmp .le 5, 3) := by decide +kernel
theorem dX5_core_16 : decode cX5_core 16 = .ok (.iconst (-1), 1) := by decide +kernel
theorem dX5_core_17 : decode cX5_core 17 = .ok (.ireturn, 1) := by decide +kernel
theorem dX5_core_18 : decode cX5_core 18 = .ok (.iload_n 3, 1) := by decide +kernel
theorem dX5_core_19 : decode cX5_core 19 = .ok (.ifCond .ge 6, 3) := by decide +kernel
theorem dX5_core_22 : decode cX5_core 22 = .ok (.bipush (-5), 2) := by decide +kernel
theorem dX5_core_24 : decode cX5_core 24 = .ok (.ireturn, 1) := by decide +kernel
theorem dX5_core_25 : decode cX5_core 25 = .ok (.iload_n 3, 1) := by decide +kernel
theorem dX5_core_26 : decode cX5_core 26 = .ok (.bipush 60, 2) := by decide +kernel
theorem dX5_core_28 : decode cX5_core 28 = .ok (.if_icmp .le 5, 3) := by decide +kernel
theorem dX5_core_31 : decode cX5_core 31 = .ok (.iconst (-1), 1) := by decide +kernel
theorem dX5_core_32 : decode cX5_core 32 = .ok (.ireturn, 1) := by decide +kernel
theorem dX5_core_33 : decode cX5_core 33 = .ok (.aload_n 0, 1) := by decide +kernel
theorem dX5_core_34 : decode cX5_core 34 = .ok (.getfield 29, 3) := by decide +kernel
theorem dX5_core_37 : decode cX5_core 37 = .ok (.iload_n 1, 1) := by decide +kernel
theorem dX5_core_38 : decode cX5_core 38 = .ok (.iload_n 2, 1) := by decide +kernel
theorem dX5_core_39 : decode cX5_core 39 = .ok (.iastore, 1) := by decide +kernel
theorem dX5_core_40 : decode cX5_core 40 = .ok (.aload_n 0, 1) := by decide +kernel
theorem dX5_core_41 : decode cX5_core 41 = .ok (.getfield 32, 3) := by decide +kernel
theorem dX5_core_44 : decode cX5_core 44 = .ok (.iload_n 1, 1) := by decide +kernel
theorem dX5_core_45 : decode cX5_core 45 = .ok (.iload_n 3, 1) := by decide +kernel
theorem dX5_core_46 : decode cX5_core 46 = .ok (.iastore, 1) := by decide +kernel
theorem dX5_core_47 : decode cX5_core 47 = .ok (.iconst 0, 1) := by decide +kernel
theorem dX5_core_48 : decode cX5_core 48 = .ok (.istore 4, 2) := by decide +kernel
theorem dX5_core_50 : decode cX5_core 50 = .ok (.iload 4, 2) := by decide +kernel
theorem dX5_core_52 : decode cX5_core 52 = .ok (.iload_n 3, 1) := by decide +kernel
theorem dX5_core_53 : decode cX5_core 53 = .ok (.if_icmp .ge 35, 3) := by decide +kernel
theorem dX5_core_56 : decode cX5_core 56 = .ok (.aload_n 0, 1) := by decide +kernel
theorem dX5_core_57 : decode cX5_core 57 = .ok (.getfield 35, 3) := by decide +kernel
theorem dX5_core_60 : decode cX5_core 60 = .ok (.bipush 60, 2) := by decide +kernel
theorem dX5_core_62 : decode cX5_core 62 = .ok (.iload_n 1, 1) := by decide +kernel
theorem dX5_core_63 : decode cX5_core 63 = .ok (.imul, 1) := by decide +kernel
theorem dX5_core_64 : decode cX5_core 64 = .ok (.iload 4, 2) := by decide +kernel
theorem dX5_core_66 : decode cX5_core 66 = .ok (.iadd, 1) := by decide +kernel
theorem dX5_core_67 : decode cX5_core 67 = .ok (.lconst 0, 1) := by decide +kernel
theorem dX5_core_68 : decode cX5_core 68 = .ok (.lastore, 1) := by decide +kernel
theorem dX5_core_69 : decode cX5_core 69 = .ok (.aload_n 0, 1) := by decide +kernel
theorem dX5_core_70 : decode cX5_core 70 = .ok (.getfield 39, 3) := by decide +kernel
theorem dX5_core_73 : decode cX5_core 73 = .ok (.bipush 60, 2) := by decide +kernel
theorem dX5_core_75 : decode cX5_core 75 = .ok (.iload_n 1, 1) := by decide +kernel
theorem dX5_core_76 : decode cX5_core 76 = .ok (.imul, 1) := by decide +kernel
theorem dX5_core_77 : decode cX5_core 77 = .ok (.iload 4, 2) := by decide +kernel
theorem dX5_core_79 : decode cX5_core 79 = .ok (.iadd, 1) := by decide +kernel
theorem dX5_core_80 : decode cX5_core 80 = .ok (.dconst 0, 1) := by decide +kernel
theorem dX5_core_81 : decode cX5_core 81 = .ok (.dastore, 1) := by decide +kernel
theorem dX5_core_82 : decode cX5_core 82 = .ok (.iinc 4 1, 3) := by decide +kernel
theorem dX5_core_85 : decode cX5_core 85 = .ok (.goto (-35), 3) := by decide +kernel
theorem dX5_core_88 : decode cX5_core 88 = .ok (.iconst 1, 1) := by decide +kernel
theorem dX5_core_89 : decode cX5_core 89 = .ok (.ireturn, 1) := by decide +kernel
theorem dX5_cell_0 : decode cX5_cell 0 = .ok (.iload_n 1, 1) := by decide +kernel
theorem dX5_cell_1 : decode cX5_cell 1 = .ok (.invokestatic 118, 3) := by decide +kernel
theorem dX5_cell_4 : decode cX5_cell 4 = .ok (.ifCond .eq 15, 3) := by decide +kernel
theorem dX5_cell_7 : decode cX5_cell 7 = .ok (.iload 5, 2) := by decide +kernel
theorem dX5_cell_9 : decode cX5_cell 9 = .ok (.ifCond .lt 10, 3) := by decide +kernel
theorem dX5_cell_12 : decode cX5_cell 12 = .ok (.iload 5, 2) := by decide +kernel
theorem dX5_cell_14 : decode cX5_cell 14 = .ok (.bipush 30, 2) := by decide +kernel
theorem dX5_cell_16 : decode cX5_cell 16 = .ok (.if_icmp .le 5, 3) := by decide +kernel
theorem dX5_cell_19 : decode cX5_cell 19 = .ok (.iconst (-1), 1) := by decide +kernel
theorem dX5_cell_20 : decode cX5_cell 20 = .ok (.ireturn, 1) := by decide +kernel
theorem dX5_cell_21 : decode cX5_cell 21 = .ok (.aload_n 0, 1) := by decide +kernel
theorem dX5_cell_22 : decode cX5_cell 22 = .ok (.getfield 32, 3) := by decide +kernel
theorem dX5_cell_25 : decode cX5_cell 25 = .ok (.iload_n 1, 1) := by decide +kernel
theorem dX5_cell_26 : decode cX5_cell 26 = .ok (.iaload, 1) := by decide +kernel
theorem dX5_cell_27 : decode cX5_cell 27 = .ok (.ifCond .ge 6, 3) := by decide +kernel
theorem dX5_cell_30 : decode cX5_cell 30 = .ok (.bipush (-3), 2) := by decide +kernel
theorem dX5_cell_32 : decode cX5_cell 32 = .ok (.ireturn, 1) := by decide +kernel
theorem dX5_cell_33 : decode cX5_cell 33 = .ok (.iload_n 2, 1) := by decide +kernel
theorem dX5_cell_34 : decode cX5_cell 34 = .ok (.ifCond .lt 13, 3) := by decide +kernel
theorem dX5_cell_37 : decode cX5_cell 37 = .ok (.iload_n 2, 1) := by decide +kernel
theorem dX5_cell_38 : decode cX5_cell 38 = .ok (.aload_n 0, 1) := by decide +kernel
theorem dX5_cell_39 : decode cX5_cell 39 = .ok (.getfield 32, 3) := by decide +kernel
theorem dX5_cell_42 : decode cX5_cell 42 = .ok (.iload_n 1, 1) := by decide +kernel
theorem dX5_cell_43 : decode cX5_cell 43 = .ok (.iaload, 1) := by decide +kernel
theorem dX5_cell_44 : decode cX5_cell 44 = .ok (.if_icmp .lt 5, 3) := by decide +kernel
theorem dX5_cell_47 : decode cX5_cell 47 = .ok (.iconst (-1), 1) := by decide +kernel
theorem dX5_cell_48 : decode cX5_cell 48 = .ok (.ireturn, 1) := by decide +kernel
theorem dX5_cell_49 : decode cX5_cell 49 = .ok (.bipush 60, 2) := by decide +kernel
theorem dX5_cell_51 : decode cX5_cell 51 = .ok (.iload_n 1, 1) := by decide +kernel
theorem dX5_cell_52 : decode cX5_cell 52 = .ok (.imul, 1) := by decide +kernel
theorem dX5_cell_53 : decode cX5_cell 53 = .ok (.iload_n 2, 1) := by decide +kernel
theorem dX5_cell_54 : decode cX5_cell 54 = .ok (.iadd, 1) := by decide +kernel
theorem dX5_cell_55 : decode cX5_cell 55 = .ok (.istore 6, 2) := by decide +kernel
theorem dX5_cell_57 : decode cX5_cell 57 = .ok (.aload_n 0, 1) := by decide +kernel
theorem dX5_cell_58 : decode cX5_cell 58 = .ok (.getfield 29, 3) := by decide +kernel
theorem dX5_cell_61 : decode cX5_cell 61 = .ok (.iload_n 1, 1) := by decide +kernel
theorem dX5_cell_62 : decode cX5_cell 62 = .ok (.iaload, 1) := by decide +kernel
theorem dX5_cell_63 : decode cX5_cell 63 = .ok (.istore 7, 2) := by decide +kernel
theorem dX5_cell_65 : decode cX5_cell 65 = .ok (.aload_n 0, 1) := by decide +kernel
theorem dX5_cell_66 : decode cX5_cell 66 = .ok (.getfield 35, 3) := by decide +kernel
theorem dX5_cell_69 : decode cX5_cell 69 = .ok (.iload 6, 2) := by decide +kernel
theorem dX5_cell_71 : decode cX5_cell 71 = .ok (.iload 7, 2) := by decide +kernel
theorem dX5_cell_73 : decode cX5_cell 73 = .ok (.ifCond .ne 10, 3) := by decide +kernel
theorem dX5_cell_76 : decode cX5_cell 76 = .ok (.lload_n 3, 1) := by decide +kernel
theorem dX5_cell_77 : decode cX5_cell 77 = .ok (.l2i, 1) := by decide +kernel
theorem dX5_cell_78 : decode cX5_cell 78 = .ok (.i2b, 1) := by decide +kernel
theorem dX5_cell_79 : decode cX5_cell 79 = .ok (.i2l, 1) := by decide +kernel
theorem dX5_cell_80 : decode cX5_cell 80 = .ok (.goto 29, 3) := by decide +kernel
theorem dX5_cell_83 : decode cX5_cell 83 = .ok (.iload 7, 2) := by decide +kernel
theorem dX5_cell_85 : decode cX5_cell 85 = .ok (.iconst 1, 1) := by decide +kernel
theorem dX5_cell_86 : decode cX5_cell 86 = .ok (.if_icmp .ne 10, 3) := by decide +kernel
theorem dX5_cell_89 : decode cX5_cell 89 = .ok (.lload_n 3, 1) := by decide +kernel
theorem dX5_cell_90 : decode cX5_cell 90 = .ok (.l2i, 1) := by decide +kernel
theorem dX5_cell_91 : decode cX5_cell 91 = .ok (.i2s, 1) := by decide +kernel
theorem dX5_cell_92 : decode cX5_cell 92 = .ok (.i2l, 1) := by decide +kernel
theorem dX5_cell_93 : decode cX5_cell 93 = .ok (.goto 16, 3) := by decide +kernel
theorem dX5_cell_96 : decode cX5_cell 96 = .ok (.iload 7, 2) := by decide +kernel
theorem dX5_cell_98 : decode cX5_cell 98 = .ok (.iconst 2, 1) := by decide +kernel
theorem dX5_cell_99 : decode cX5_cell 99 = .ok (.if_icmp .ne 9, 3) := by decide +kernel
theorem dX5_cell_102 : decode cX5_cell 102 = .ok (.lload_n 3, 1) := by decide +kernel
theorem dX5_cell_103 : decode cX5_cell 103 = .ok (.l2i, 1) := by decide +kernel
theorem dX5_cell_104 : decode cX5_cell 104 = .ok (.i2l, 1) := by decide +kernel
theorem dX5_cell_105 : decode cX5_cell 105 = .ok (.goto 4, 3) := by decide +kernel
theorem dX5_cell_108 : decode cX5_cell 108 = .ok (.lload_n 3, 1) := by decide +kernel
theorem dX5_cell_109 : decode cX5_cell 109 = .ok (.lastore, 1) := by decide +kernel
theorem dX5_cell_110 : decode cX5_cell 110 = .ok (.aload_n 0, 1) := by decide +kernel
theorem dX5_cell_111 : decode cX5_cell 111 = .ok (.getfield 39, 3) := by decide +kernel
theorem dX5_cell_114 : decode cX5_cell 114 = .ok (.iload 6, 2) := by decide +kernel
theorem dX5_cell_116 : decode cX5_cell 116 = .ok (.iload 7, 2) := by decide +kernel
theorem dX5_cell_118 : decode cX5_cell 118 = .ok (.iconst 4, 1) := by decide +kernel
theorem dX5_cell_119 : decode cX5_cell 119 = .ok (.if_icmp .ne 15, 3) := by decide +kernel
theorem dX5_cell_122 : decode cX5_cell 122 = .ok (.lload_n 3, 1) := by decide +kernel
theorem dX5_cell_123 : decode cX5_cell 123 = .ok (.l2f, 1) := by decide +kernel
theorem dX5_cell_124 : decode cX5_cell 124 = .ok (.iconst 1, 1) := by decide +kernel
theorem dX5_cell_125 : decode cX5_cell 125 = .ok (.iload 5, 2) := by decide +kernel
theorem dX5_cell_127 : decode cX5_cell 127 = .ok (.ishl, 1) := by decide +kernel
theorem dX5_cell_128 : decode cX5_cell 128 = .ok (.i2f, 1) := by decide +kernel
theorem dX5_cell_129 : decode cX5_cell 129 = .ok (.fdiv, 1) := by decide +kernel
theorem dX5_cell_130 : decode cX5_cell 130 = .ok (.f2d, 1) := by decide +kernel
theorem dX5_cell_131 : decode cX5_cell 131 = .ok (.goto 11, 3) := by decide +kernel
theorem dX5_cell_134 : decode cX5_cell 134 = .ok (.lload_n 3, 1) := by decide +kernel
theorem dX5_cell_135 : decode cX5_cell 135 = .ok (.l2d, 1) := by decide +kernel
theorem dX5_cell_136 : decode cX5_cell 136 = .ok (.iconst 1, 1) := by decide +kernel
theorem dX5_cell_137 : decode cX5_cell 137 = .ok (.iload 5, 2) := by decide +kernel
theorem dX5_cell_139 : decode cX5_cell 139 = .ok (.ishl, 1) := by decide +kernel
theorem dX5_cell_140 : decode cX5_cell 140 = .ok (.i2d, 1) := by decide +kernel
theorem dX5_cell_141 : decode cX5_cell 141 = .ok (.ddiv, 1) := by decide +kernel
theorem dX5_cell_142 : decode cX5_cell 142 = .ok (.dastore, 1) := by decide +kernel
theorem dX5_cell_143 : decode cX5_cell 143 = .ok (.iconst 1, 1) := by decide +kernel
theorem dX5_cell_144 : decode cX5_cell 144 = .ok (.ireturn, 1) := by decide +kernel
theorem dX5_wild_0 : decode cX5_wild 0 = .ok (.iload_n 1, 1) := by decide +kernel
theorem dX5_wild_1 : decode cX5_wild 1 = .ok (.invokestatic 118, 3) := by decide +kernel
theorem dX5_wild_4 : decode cX5_wild 4 = .ok (.ifCond .eq 12, 3) := by decide +kernel
theorem dX5_wild_7 : decode cX5_wild 7 = .ok (.iload_n 3, 1) := by decide +kernel
theorem dX5_wild_8 : decode cX5_wild 8 = .ok (.ifCond .lt 8, 3) := by decide +kernel
theorem dX5_wild_11 : decode cX5_wild 11 = .ok (.iload_n 3, 1) := by decide +kernel
theorem dX5_wild_12 : decode cX5_wild 12 = .ok (.iconst 3, 1) := by decide +kernel
theorem dX5_wild_13 : decode cX5_wild 13 = .ok (.if_icmp .le 5, 3) := by decide +kernel
theorem dX5_wild_16 : decode cX5_wild 16 = .ok (.iconst (-1), 1) := by decide +kernel
theorem dX5_wild_17 : decode cX5_wild 17 = .ok (.ireturn, 1) := by decide +kernel
theorem dX5_wild_18 : decode cX5_wild 18 = .ok (.aload_n 0, 1) := by decide +kernel
theorem dX5_wild_19 : decode cX5_wild 19 = .ok (.getfield 32, 3) := by decide +kernel
theorem dX5_wild_22 : decode cX5_wild 22 = .ok (.iload_n 1, 1) := by decide +kernel
theorem dX5_wild_23 : decode cX5_wild 23 = .ok (.iaload, 1) := by decide +kernel
theorem dX5_wild_24 : decode cX5_wild 24 = .ok (.ifCond .ge 6, 3) := by decide +kernel
theorem dX5_wild_27 : decode cX5_wild 27 = .ok (.bipush (-3), 2) := by decide +kernel
theorem dX5_wild_29 : decode cX5_wild 29 = .ok (.ireturn, 1) := by decide +kernel
theorem dX5_wild_30 : decode cX5_wild 30 = .ok (.aload_n 0, 1) := by decide +kernel
theorem dX5_wild_31 : decode cX5_wild 31 = .ok (.getfield 29, 3) := by decide +kernel
theorem dX5_wild_34 : decode cX5_wild 34 = .ok (.iload_n 1, 1) := by decide +kernel
theorem dX5_wild_35 : decode cX5_wild 35 = .ok (.iaload, 1) := by decide +kernel
theorem dX5_wild_36 : decode cX5_wild 36 = .ok (.iconst 4, 1) := by decide +kernel
theorem dX5_wild_37 : decode cX5_wild 37 = .ok (.if_icmp .ge 6, 3) := by decide +kernel
theorem dX5_wild_40 : decode cX5_wild 40 = .ok (.bipush (-4), 2) := by decide +kernel
theorem dX5_wild_42 : decode cX5_wild 42 = .ok (.ireturn, 1) := by decide +kernel
theorem dX5_wild_43 : decode cX5_wild 43 = .ok (.iload_n 2, 1) := by decide +kernel
theorem dX5_wild_44 : decode cX5_wild 44 = .ok (.ifCond .lt 13, 3) := by decide +kernel
theorem dX5_wild_47 : decode cX5_wild 47 = .ok (.iload_n 2, 1) := by decide +kernel
theorem dX5_wild_48 : decode cX5_wild 48 = .ok (.aload_n 0, 1) := by decide +kernel
theorem dX5_wild_49 : decode cX5_wild 49 = .ok (.getfield 32, 3) := by decide +kernel
theorem dX5_wild_52 : decode cX5_wild 52 = .ok (.iload_n 1, 1) := by decide +kernel
theorem dX5_wild_53 : decode cX5_wild 53 = .ok (.iaload, 1) := by decide +kernel
theorem dX5_wild_54 : decode cX5_wild 54 = .ok (.if_icmp .lt 5, 3) := by decide +kernel
theorem dX5_wild_57 : decode cX5_wild 57 = .ok (.iconst (-1), 1) := by decide +kernel
theorem dX5_wild_58 : decode cX5_wild 58 = .ok (.ireturn, 1) := by decide +kernel
theorem dX5_wild_59 : decode cX5_wild 59 = .ok (.aload_n 0, 1) := by decide +kernel
theorem dX5_wild_60 : decode cX5_wild 60 = .ok (.getfield 39, 3) := by decide +kernel
theorem dX5_wild_63 : decode cX5_wild 63 = .ok (.bipush 60, 2) := by decide +kernel
theorem dX5_wild_65 : decode cX5_wild 65 = .ok (.iload_n 1, 1) := by decide +kernel
theorem dX5_wild_66 : decode cX5_wild 66 = .ok (.imul, 1) := by decide +kernel
theorem dX5_wild_67 : decode cX5_wild 67 = .ok (.iload_n 2, 1) := by decide +kernel
theorem dX5_wild_68 : decode cX5_wild 68 = .ok (.iadd, 1) := by decide +kernel
theorem dX5_wild_69 : decode cX5_wild 69 = .ok (.iload_n 3, 1) := by decide +kernel
theorem dX5_wild_70 : decode cX5_wild 70 = .ok (.ifCond .ne 9, 3) := by decide +kernel
theorem dX5_wild_73 : decode cX5_wild 73 = .ok (.ldc2_w 123, 3) := by decide +kernel
theorem dX5_wild_76 : decode cX5_wild 76 = .ok (.goto 28, 3) := by decide +kernel
theorem dX5_wild_79 : decode cX5_wild 79 = .ok (.iload_n 3, 1) := by decide +kernel
theorem dX5_wild_80 : decode cX5_wild 80 = .ok (.iconst 1, 1) := by decide +kernel
theorem dX5_wild_81 : decode cX5_wild 81 = .ok (.if_icmp .ne 9, 3) := by decide +kernel
theorem dX5_wild_84 : decode cX5_wild 84 = .ok (.ldc2_w 125, 3) := by decide +kernel
theorem dX5_wild_87 : decode cX5_wild 87 = .ok (.goto 17, 3) := by decide +kernel
theorem dX5_wild_90 : decode cX5_wild 90 = .ok (.iload_n 3, 1) := by decide +kernel
theorem dX5_wild_91 : decode cX5_wild 91 = .ok (.iconst 2, 1) := by decide +kernel
theorem dX5_wild_92 : decode cX5_wild 92 = .ok (.if_icmp .ne 9, 3) := by decide +kernel
theorem dX5_wild_95 : decode cX5_wild 95 = .ok (.ldc2_w 127, 3) := by decide +kernel
theorem dX5_wild_98 : decode cX5_wild 98 = .ok (.goto 6, 3) := by decide +kernel
theorem dX5_wild_101 : decode cX5_wild 101 = .ok (.ldc2_w 129, 3) := by decide +kernel
theorem dX5_wild_104 : decode cX5_wild 104 = .ok (.dastore, 1) := by decide +kernel
theorem dX5_wild_105 : decode cX5_wild 105 = .ok (.iconst 1, 1) := by decide +kernel
theorem dX5_wild_106 : decode cX5_wild 106 = .ok (.ireturn, 1) := by decide +kernel
theorem dX5_hasRow_0 : decode cX5_hasRow 0 = .ok (.iload_n 3, 1) := by decide +kernel
theorem dX5_hasRow_1 : decode cX5_hasRow 1 = .ok (.ifCond .lt 33, 3) := by decide +kernel
theorem dX5_hasRow_4 : decode cX5_hasRow 4 = .ok (.iload_n 2, 1) := by decide +kernel
theorem dX5_hasRow_5 : decode cX5_hasRow 5 = .ok (.ifCond .lt 29, 3) := by decide +kernel
theorem dX5_hasRow_8 : decode cX5_hasRow 8 = .ok (.iload_n 3, 1) := by decide +kernel
theorem dX5_hasRow_9 : decode cX5_hasRow 9 = .ok (.aload_n 0, 1) := by decide +kernel
theorem dX5_hasRow_10 : decode cX5_hasRow 10 = .ok (.getfield 32, 3) := by decide +kernel
theorem dX5_hasRow_13 : decode cX5_hasRow 13 = .ok (.iload_n 1, 1) := by decide +kernel
theorem dX5_hasRow_14 : decode cX5_hasRow 14 = .ok (.iaload, 1) := by decide +kernel
theorem dX5_hasRow_15 : decode cX5_hasRow 15 = .ok (.if_icmp .gt 19, 3) := by decide +kernel
theorem dX5_hasRow_18 : decode cX5_hasRow 18 = .ok (.iload_n 2, 1) := by decide +kernel
theorem dX5_hasRow_19 : decode cX5_hasRow 19 = .ok (.aload_n 0, 1) := by decide +kernel
theorem dX5_hasRow_20 : decode cX5_hasRow 20 = .ok (.getfield 32, 3) := by decide +kernel
theorem dX5_hasRow_23 : decode cX5_hasRow 23 = .ok (.iload_n 1, 1) := by decide +kernel
theorem dX5_hasRow_24 : decode cX5_hasRow 24 = .ok (.iaload, 1) := by decide +kernel
theorem dX5_hasRow_25 : decode cX5_hasRow 25 = .ok (.iload_n 3, 1) := by decide +kernel
theorem dX5_hasRow_26 : decode cX5_hasRow 26 = .ok (.isub, 1) := by decide +kernel
theorem dX5_hasRow_27 : decode cX5_hasRow 27 = .ok (.if_icmp .gt 7, 3) := by decide +kernel
theorem dX5_hasRow_30 : decode cX5_hasRow 30 = .ok (.iconst 1, 1) := by decide +kernel
theorem dX5_hasRow_31 : decode cX5_hasRow 31 = .ok (.goto 4, 3) := by decide +kernel
theorem dX5_hasRow_34 : decode cX5_hasRow 34 = .ok (.iconst 0, 1) := by decide +kernel
theorem dX5_hasRow_35 : decode cX5_hasRow 35 = .ok (.ireturn, 1) := by decide +kernel
theorem dX5_splice_0 : decode cX5_splice 0 = .ok (.iload_n 1, 1) := by decide +kernel
theorem dX5_splice_1 : decode cX5_splice 1 = .ok (.invokestatic 118, 3) := by decide +kernel
theorem dX5_splice_4 : decode cX5_splice 4 = .ok (.ifCond .eq 10, 3) := by decide +kernel
theorem dX5_splice_7 : decode cX5_splice 7 = .ok (.iload_n 3, 1) := by decide +kernel
theorem dX5_splice_8 : decode cX5_splice 8 = .ok (.invokestatic 118, 3) := by decide +kernel
theorem dX5_splice_11 : decode cX5_splice 11 = .ok (.ifCond .ne 5, 3) := by decide +kernel
theorem dX5_splice_14 : decode cX5_splice 14 = .ok (.iconst (-1), 1) := by decide +kernel
theorem dX5_splice_15 : decode cX5_splice 15 = .ok (.ireturn, 1) := by decide +kernel
theorem dX5_splice_16 : decode cX5_splice 16 = .ok (.aload_n 0, 1) := by decide +kernel
theorem dX5_splice_17 : decode cX5_splice 17 = .ok (.getfield 32, 3) := by decide +kernel
theorem dX5_splice_20 : decode cX5_splice 20 = .ok (.iload_n 1, 1) := by decide +kernel
theorem dX5_splice_21 : decode cX5_splice 21 = .ok (.iaload, 1) := by decide +kernel
theorem dX5_splice_22 : decode cX5_splice 22 = .ok (.ifCond .lt 12, 3) := by decide +kernel
theorem dX5_splice_25 : decode cX5_splice 25 = .ok (.aload_n 0, 1) := by decide +kernel
theorem dX5_splice_26 : decode cX5_splice 26 = .ok (.getfield 32, 3) := by decide +kernel
theorem dX5_splice_29 : decode cX5_splice 29 = .ok (.iload_n 3, 1) := by decide +kernel
theorem dX5_splice_30 : decode cX5_splice 30 = .ok (.iaload, 1) := by decide +kernel
theorem dX5_splice_31 : decode cX5_splice 31 = .ok (.ifCond .ge 6, 3) := by decide +kernel
theorem dX5_splice_34 : decode cX5_splice 34 = .ok (.bipush (-3), 2) := by decide +kernel
theorem dX5_splice_36 : decode cX5_splice 36 = .ok (.ireturn, 1) := by decide +kernel
theorem dX5_splice_37 : decode cX5_splice 37 = .ok (.aload_n 0, 1) := by decide +kernel
theorem dX5_splice_38 : decode cX5_splice 38 = .ok (.getfield 29, 3) := by decide +kernel
theorem dX5_splice_41 : decode cX5_splice 41 = .ok (.iload_n 1, 1) := by decide +kernel
theorem dX5_splice_42 : decode cX5_splice 42 = .ok (.iaload, 1) := by decide +kernel
theorem dX5_splice_43 : decode cX5_splice 43 = .ok (.aload_n 0, 1) := by decide +kernel
theorem dX5_splice_44 : decode cX5_splice 44 = .ok (.getfield 29, 3) := by decide +kernel
theorem dX5_splice_47 : decode cX5_splice 47 = .ok (.iload_n 3, 1) := by decide +kernel
theorem dX5_splice_48 : decode cX5_splice 48 = .ok (.iaload, 1) := by decide +kernel
theorem dX5_splice_49 : decode cX5_splice 49 = .ok (.if_icmp .eq 6, 3) := by decide +kernel
theorem dX5_splice_52 : decode cX5_splice 52 = .ok (.bipush (-4), 2) := by decide +kernel
theorem dX5_splice_54 : decode cX5_splice 54 = .ok (.ireturn, 1) := by decide +kernel
theorem dX5_splice_55 : decode cX5_splice 55 = .ok (.aload_n 0, 1) := by decide +kernel
theorem dX5_splice_56 : decode cX5_splice 56 = .ok (.iload_n 1, 1) := by decide +kernel
theorem dX5_splice_57 : decode cX5_splice 57 = .ok (.iload_n 2, 1) := by decide +kernel
theorem dX5_splice_58 : decode cX5_splice 58 = .ok (.iload 5, 2) := by decide +kernel
theorem dX5_splice_60 : decode cX5_splice 60 = .ok (.invokevirtual 131, 3) := by decide +kernel
theorem dX5_splice_63 : decode cX5_splice 63 = .ok (.ifCond .eq 15, 3) := by decide +kernel
theorem dX5_splice_66 : decode cX5_splice 66 = .ok (.aload_n 0, 1) := by decide +kernel
theorem dX5_splice_67 : decode cX5_splice 67 = .ok (.iload_n 3, 1) := by decide +kernel
theorem dX5_splice_68 : decode cX5_splice 68 = .ok (.iload 4, 2) := by decide +kernel
theorem dX5_splice_70 : decode cX5_splice 70 = .ok (.iload 5, 2) := by decide +kernel
theorem dX5_splice_72 : decode cX5_splice 72 = .ok (.invokevirtual 131, 3) := by decide +kernel
theorem dX5_splice_75 : decode cX5_splice 75 = .ok (.ifCond .ne 5, 3) := by decide +kernel
theorem dX5_splice_78 : decode cX5_splice 78 = .ok (.iconst (-1), 1) := by decide +kernel
theorem dX5_splice_79 : decode cX5_splice 79 = .ok (.ireturn, 1) := by decide +kernel
theorem dX5_splice_80 : decode cX5_splice 80 = .ok (.iconst 0, 1) := by decide +kernel
theorem dX5_splice_81 : decode cX5_splice 81 = .ok (.istore 6, 2) := by decide +kernel
theorem dX5_splice_83 : decode cX5_splice 83 = .ok (.iload 6, 2) := by decide +kernel
theorem dX5_splice_85 : decode cX5_splice 85 = .ok (.iload 5, 2) := by decide +kernel
theorem dX5_splice_87 : decode cX5_splice 87 = .ok (.if_icmp .ge 53, 3) := by decide +kernel
theorem dX5_splice_90 : decode cX5_splice 90 = .ok (.aload_n 0, 1) := by decide +kernel
theorem dX5_splice_91 : decode cX5_splice 91 = .ok (.getfield 58, 3) := by decide +kernel
theorem dX5_splice_94 : decode cX5_splice 94 = .ok (.iload 6, 2) := by decide +kernel
theorem dX5_splice_96 : decode cX5_splice 96 = .ok (.aload_n 0, 1) := by decide +kernel
theorem dX5_splice_97 : decode cX5_splice 97 = .ok (.getfield 35, 3) := by decide +kernel
theorem dX5_splice_100 : decode cX5_splice 100 = .ok (.bipush 60, 2) := by decide +kernel
theorem dX5_splice_102 : decode cX5_splice 102 = .ok (.iload_n 3, 1) := by decide +kernel
theorem dX5_splice_103 : decode cX5_splice 103 = .ok (.imul, 1) := by decide +kernel
theorem dX5_splice_104 : decode cX5_splice 104 = .ok (.iload 4, 2) := by decide +kernel
theorem dX5_splice_106 : decode cX5_splice 106 = .ok (.iadd, 1) := by decide +kernel
theorem dX5_splice_107 : decode cX5_splice 107 = .ok (.iload 6, 2) := by decide +kernel
theorem dX5_splice_109 : decode cX5_splice 109 = .ok (.iadd, 1) := by decide +kernel
theorem dX5_splice_110 : decode cX5_splice 110 = .ok (.laload, 1) := by decide +kernel
theorem dX5_splice_111 : decode cX5_splice 111 = .ok (.lastore, 1) := by decide +kernel
theorem dX5_splice_112 : decode cX5_splice 112 = .ok (.aload_n 0, 1) := by decide +kernel
theorem dX5_splice_113 : decode cX5_splice 113 = .ok (.getfield 61, 3) := by decide +kernel
theorem dX5_splice_116 : decode cX5_splice 116 = .ok (.iload 6, 2) := by decide +kernel
theorem dX5_splice_118 : decode cX5_splice 118 = .ok (.aload_n 0, 1) := by decide +kernel
theorem dX5_splice_119 : decode cX5_splice 119 = .ok (.getfield 39, 3) := by decide +kernel
theorem dX5_splice_122 : decode cX5_splice 122 = .ok (.bipush 60, 2) := by decide +kernel
theorem dX5_splice_124 : decode cX5_splice 124 = .ok (.iload_n 3, 1) := by decide +kernel
theorem dX5_splice_125 : decode cX5_splice 125 = .ok (.imul, 1) := by decide +kernel
theorem dX5_splice_126 : decode cX5_splice 126 = .ok (.iload 4, 2) := by decide +kernel
theorem dX5_splice_128 : decode cX5_splice 128 = .ok (.iadd, 1) := by decide +kernel
theorem dX5_splice_129 : decode cX5_splice 129 = .ok (.iload 6, 2) := by decide +kernel
theorem dX5_splice_131 : decode cX5_splice 131 = .ok (.iadd, 1) := by decide +kernel
theorem dX5_splice_132 : decode cX5_splice 132 = .ok (.daload, 1) := by decide +kernel
theorem dX5_splice_133 : decode cX5_splice 133 = .ok (.dastore, 1) := by decide +kernel
theorem dX5_splice_134 : decode cX5_splice 134 = .ok (.iinc 6 1, 3) := by decide +kernel
theorem dX5_splice_137 : decode cX5_splice 137 = .ok (.goto (-54), 3) := by decide +kernel
theorem dX5_splice_140 : decode cX5_splice 140 = .ok (.iconst 0, 1) := by decide +kernel
theorem dX5_splice_141 : decode cX5_splice 141 = .ok (.istore 6, 2) := by decide +kernel
theorem dX5_splice_143 : decode cX5_splice 143 = .ok (.iload 6, 2) := by decide +kernel
theorem dX5_splice_145 : decode cX5_splice 145 = .ok (.iload 5, 2) := by decide +kernel
theorem dX5_splice_147 : decode cX5_splice 147 = .ok (.if_icmp .ge 51, 3) := by decide +kernel
theorem dX5_splice_150 : decode cX5_splice 150 = .ok (.aload_n 0, 1) := by decide +kernel
theorem dX5_splice_151 : decode cX5_splice 151 = .ok (.getfield 35, 3) := by decide +kernel
theorem dX5_splice_154 : decode cX5_splice 154 = .ok (.bipush 60, 2) := by decide +kernel
theorem dX5_splice_156 : decode cX5_splice 156 = .ok (.iload_n 1, 1) := by decide +kernel
theorem dX5_splice_157 : decode cX5_splice 157 = .ok (.imul, 1) := by decide +kernel
theorem dX5_splice_158 : decode cX5_splice 158 = .ok (.iload_n 2, 1) := by decide +kernel
theorem dX5_splice_159 : decode cX5_splice 159 = .ok (.iadd, 1) := by decide +kernel
theorem dX5_splice_160 : decode cX5_splice 160 = .ok (.iload 6, 2) := by decide +kernel
theorem dX5_splice_162 : decode cX5_splice 162 = .ok (.iadd, 1) := by decide +kernel
theorem dX5_splice_163 : decode cX5_splice 163 = .ok (.aload_n 0, 1) := by decide +kernel
theorem dX5_splice_164 : decode cX5_splice 164 = .ok (.getfield 58, 3) := by decide +kernel
theorem dX5_splice_167 : decode cX5_splice 167 = .ok (.iload 6, 2) := by decide +kernel
theorem dX5_splice_169 : decode cX5_splice 169 = .ok (.laload, 1) := by decide +kernel
theorem dX5_splice_170 : decode cX5_splice 170 = .ok (.lastore, 1) := by decide +kernel
theorem dX5_splice_171 : decode cX5_splice 171 = .ok (.aload_n 0, 1) := by decide +kernel
theorem dX5_splice_172 : decode cX5_splice 172 = .ok (.getfield 39, 3) := by decide +kernel
theorem dX5_splice_175 : decode cX5_splice 175 = .ok (.bipush 60, 2) := by decide +kernel
theorem dX5_splice_177 : decode cX5_splice 177 = .ok (.iload_n 1, 1) := by decide +kernel
theorem dX5_splice_178 : decode cX5_splice 178 = .ok (.imul, 1) := by decide +kernel
theorem dX5_splice_179 : decode cX5_splice 179 = .ok (.iload_n 2, 1) := by decide +kernel
theorem dX5_splice_180 : decode cX5_splice 180 = .ok (.iadd, 1) := by decide +kernel
theorem dX5_splice_181 : decode cX5_splice 181 = .ok (.iload 6, 2) := by decide +kernel
theorem dX5_splice_183 : decode cX5_splice 183 = .ok (.iadd, 1) := by decide +kernel
theorem dX5_splice_184 : decode cX5_splice 184 = .ok (.aload_n 0, 1) := by decide +kernel
theorem dX5_splice_185 : decode cX5_splice 185 = .ok (.getfield 61, 3) := by decide +kernel
theorem dX5_splice_188 : decode cX5_splice 188 = .ok (.iload 6, 2) := by decide +kernel
theorem dX5_splice_190 : decode cX5_splice 190 = .ok (.daload, 1) := by decide +kernel
theorem dX5_splice_191 : decode cX5_splice 191 = .ok (.dastore, 1) := by decide +kernel
theorem dX5_splice_192 : decode cX5_splice 192 = .ok (.iinc 6 1, 3) := by decide +kernel
theorem dX5_splice_195 : decode cX5_splice 195 = .ok (.goto (-52), 3) := by decide +kernel
theorem dX5_splice_198 : decode cX5_splice 198 = .ok (.iconst 1, 1) := by decide +kernel
theorem dX5_splice_199 : decode cX5_splice 199 = .ok (.ireturn, 1) := by decide +kernel
theorem dX5_lose_0 : decode cX5_lose 0 = .ok (.iload_n 1, 1) := by decide +kernel
theorem dX5_lose_1 : decode cX5_lose 1 = .ok (.invokestatic 118, 3) := by decide +kernel
theorem dX5_lose_4 : decode cX5_lose 4 = .ok (.ifCond .ne 5, 3) := by decide +kernel
theorem dX5_lose_7 : decode cX5_lose 7 = .ok (.iconst (-1), 1) := by decide +kernel
theorem dX5_lose_8 : decode cX5_lose 8 = .ok (.ireturn, 1) := by decide +kernel
theorem dX5_lose_9 : decode cX5_lose 9 = .ok (.aload_n 0, 1) := by decide +kernel
theorem dX5_lose_10 : decode cX5_lose 10 = .ok (.getfield 32, 3) := by decide +kernel
theorem dX5_lose_13 : decode cX5_lose 13 = .ok (.iload_n 1, 1) := by decide +kernel
theorem dX5_lose_14 : decode cX5_lose 14 = .ok (.iaload, 1) := by decide +kernel
theorem dX5_lose_15 : decode cX5_lose 15 = .ok (.ifCond .ge 6, 3) := by decide +kernel
theorem dX5_lose_18 : decode cX5_lose 18 = .ok (.bipush (-3), 2) := by decide +kernel
theorem dX5_lose_20 : decode cX5_lose 20 = .ok (.ireturn, 1) := by decide +kernel
theorem dX5_lose_21 : decode cX5_lose 21 = .ok (.aload_n 0, 1) := by decide +kernel
theorem dX5_lose_22 : decode cX5_lose 22 = .ok (.getfield 32, 3) := by decide +kernel
theorem dX5_lose_25 : decode cX5_lose 25 = .ok (.iload_n 1, 1) := by decide +kernel
theorem dX5_lose_26 : decode cX5_lose 26 = .ok (.iconst (-1), 1) := by decide +kernel
theorem dX5_lose_27 : decode cX5_lose 27 = .ok (.iastore, 1) := by decide +kernel
theorem dX5_lose_28 : decode cX5_lose 28 = .ok (.iconst 1, 1) := by decide +kernel
theorem dX5_lose_29 : decode cX5_lose 29 = .ok (.ireturn, 1) := by decide +kernel
theorem dX5_wholeOf_0 : decode cX5_wholeOf 0 = .ok (.bipush 60, 2) := by decide +kernel
theorem dX5_wholeOf_2 : decode cX5_wholeOf 2 = .ok (.iload_n 1, 1) := by decide +kernel
theorem dX5_wholeOf_3 : decode cX5_wholeOf 3 = .ok (.imul, 1) := by decide +kernel
theorem dX5_wholeOf_4 : decode cX5_wholeOf 4 = .ok (.iload_n 2, 1) := by decide +kernel
theorem dX5_wholeOf_5 : decode cX5_wholeOf 5 = .ok (.iadd, 1) := by decide +kernel
theorem dX5_wholeOf_6 : decode cX5_wholeOf 6 = .ok (.istore_n 3, 1) := by decide +kernel
theorem dX5_wholeOf_7 : decode cX5_wholeOf 7 = .ok (.aload_n 0, 1) := by decide +kernel
theorem dX5_wholeOf_8 : decode cX5_wholeOf 8 = .ok (.getfield 29, 3) := by decide +kernel
theorem dX5_wholeOf_11 : decode cX5_wholeOf 11 = .ok (.iload_n 1, 1) := by decide +kernel
theorem dX5_wholeOf_12 : decode cX5_wholeOf 12 = .ok (.iaload, 1) := by decide +kernel
theorem dX5_wholeOf_13 : decode cX5_wholeOf 13 = .ok (.iconst 4, 1) := by decide +kernel
theorem dX5_wholeOf_14 : decode cX5_wholeOf 14 = .ok (.if_icmp .ge 12, 3) := by decide +kernel
theorem dX5_wholeOf_17 : decode cX5_wholeOf 17 = .ok (.aload_n 0, 1) := by decide +kernel
theorem dX5_wholeOf_18 : decode cX5_wholeOf 18 = .ok (.getfield 35, 3) := by decide +kernel
theorem dX5_wholeOf_21 : decode cX5_wholeOf 21 = .ok (.iload_n 3, 1) := by decide +kernel
theorem dX5_wholeOf_22 : decode cX5_wholeOf 22 = .ok (.laload, 1) := by decide +kernel
theorem dX5_wholeOf_23 : decode cX5_wholeOf 23 = .ok (.goto 10, 3) := by decide +kernel
theorem dX5_wholeOf_26 : decode cX5_wholeOf 26 = .ok (.aload_n 0, 1) := by decide +kernel
theorem dX5_wholeOf_27 : decode cX5_wholeOf 27 = .ok (.getfield 39, 3) := by decide +kernel
theorem dX5_wholeOf_30 : decode cX5_wholeOf 30 = .ok (.iload_n 3, 1) := by decide +kernel
theorem dX5_wholeOf_31 : decode cX5_wholeOf 31 = .ok (.daload, 1) := by decide +kernel
theorem dX5_wholeOf_32 : decode cX5_wholeOf 32 = .ok (.d2l, 1) := by decide +kernel
theorem dX5_wholeOf_33 : decode cX5_wholeOf 33 = .ok (.lreturn, 1) := by decide +kernel
theorem dX5_told_0 : decode cX5_told 0 = .ok (.iload_n 1, 1) := by decide +kernel
theorem dX5_told_1 : decode cX5_told 1 = .ok (.invokestatic 118, 3) := by decide +kernel
theorem dX5_told_4 : decode cX5_told 4 = .ok (.ifCond .eq 17, 3) := by decide +kernel
theorem dX5_told_7 : decode cX5_told 7 = .ok (.iload_n 2, 1) := by decide +kernel
theorem dX5_told_8 : decode cX5_told 8 = .ok (.ifCond .lt 13, 3) := by decide +kernel
theorem dX5_told_11 : decode cX5_told 11 = .ok (.iload_n 2, 1) := by decide +kernel
theorem dX5_told_12 : decode cX5_told 12 = .ok (.aload_n 0, 1) := by decide +kernel
theorem dX5_told_13 : decode cX5_told 13 = .ok (.getfield 32, 3) := by decide +kernel
theorem dX5_told_16 : decode cX5_told 16 = .ok (.iload_n 1, 1) := by decide +kernel
theorem dX5_told_17 : decode cX5_told 17 = .ok (.iaload, 1) := by decide +kernel
theorem dX5_told_18 : decode cX5_told 18 = .ok (.if_icmp .lt 9, 3) := by decide +kernel
theorem dX5_told_21 : decode cX5_told 21 = .ok (.ldc2_w 135, 3) := by decide +kernel
theorem dX5_told_24 : decode cX5_told 24 = .ok (.goto 9, 3) := by decide +kernel
theorem dX5_told_27 : decode cX5_told 27 = .ok (.aload_n 0, 1) := by decide +kernel
theorem dX5_told_28 : decode cX5_told 28 = .ok (.iload_n 1, 1) := by decide +kernel
theorem dX5_told_29 : decode cX5_told 29 = .ok (.iload_n 2, 1) := by decide +kernel
theorem dX5_told_30 : decode cX5_told 30 = .ok (.invokevirtual 137, 3) := by decide +kernel
theorem dX5_told_33 : decode cX5_told 33 = .ok (.lreturn, 1) := by decide +kernel
theorem dX5_pour_0 : decode cX5_pour 0 = .ok (.iload_n 1, 1) := by decide +kernel
theorem dX5_pour_1 : decode cX5_pour 1 = .ok (.invokestatic 118, 3) := by decide +kernel
theorem dX5_pour_4 : decode cX5_pour 4 = .ok (.ifCond .ne 5, 3) := by decide +kernel
theorem dX5_pour_7 : decode cX5_pour 7 = .ok (.iconst (-1), 1) := by decide +kernel
theorem dX5_pour_8 : decode cX5_pour 8 = .ok (.ireturn, 1) := by decide +kernel
theorem dX5_pour_9 : decode cX5_pour 9 = .ok (.aload_n 0, 1) := by decide +kernel
theorem dX5_pour_10 : decode cX5_pour 10 = .ok (.getfield 32, 3) := by decide +kernel
theorem dX5_pour_13 : decode cX5_pour 13 = .ok (.iload_n 1, 1) := by decide +kernel
theorem dX5_pour_14 : decode cX5_pour 14 = .ok (.iaload, 1) := by decide +kernel
theorem dX5_pour_15 : decode cX5_pour 15 = .ok (.ifCond .ge 6, 3) := by decide +kernel
theorem dX5_pour_18 : decode cX5_pour 18 = .ok (.bipush (-3), 2) := by decide +kernel
theorem dX5_pour_20 : decode cX5_pour 20 = .ok (.ireturn, 1) := by decide +kernel
theorem dX5_pour_21 : decode cX5_pour 21 = .ok (.aload_n 0, 1) := by decide +kernel
theorem dX5_pour_22 : decode cX5_pour 22 = .ok (.iload_n 1, 1) := by decide +kernel
theorem dX5_pour_23 : decode cX5_pour 23 = .ok (.iload_n 2, 1) := by decide +kernel
theorem dX5_pour_24 : decode cX5_pour 24 = .ok (.iload_n 3, 1) := by decide +kernel
theorem dX5_pour_25 : decode cX5_pour 25 = .ok (.invokevirtual 131, 3) := by decide +kernel
theorem dX5_pour_28 : decode cX5_pour 28 = .ok (.ifCond .eq 27, 3) := by decide +kernel
theorem dX5_pour_31 : decode cX5_pour 31 = .ok (.iload 4, 2) := by decide +kernel
theorem dX5_pour_33 : decode cX5_pour 33 = .ok (.ifCond .lt 22, 3) := by decide +kernel
theorem dX5_pour_36 : decode cX5_pour 36 = .ok (.iload_n 3, 1) := by decide +kernel
theorem dX5_pour_37 : decode cX5_pour 37 = .ok (.aload_n 0, 1) := by decide +kernel
theorem dX5_pour_38 : decode cX5_pour 38 = .ok (.getfield 92, 3) := by decide +kernel
theorem dX5_pour_41 : decode cX5_pour 41 = .ok (.if_icmp .gt 14, 3) := by decide +kernel
theorem dX5_pour_44 : decode cX5_pour 44 = .ok (.iload 4, 2) := by decide +kernel
theorem dX5_pour_46 : decode cX5_pour 46 = .ok (.aload_n 0, 1) := by decide +kernel
theorem dX5_pour_47 : decode cX5_pour 47 = .ok (.getfield 92, 3) := by decide +kernel
theorem dX5_pour_50 : decode cX5_pour 50 = .ok (.iload_n 3, 1) := by decide +kernel
theorem dX5_pour_51 : decode cX5_pour 51 = .ok (.isub, 1) := by decide +kernel
theorem dX5_pour_52 : decode cX5_pour 52 = .ok (.if_icmp .le 5, 3) := by decide +kernel
theorem dX5_pour_55 : decode cX5_pour 55 = .ok (.iconst (-1), 1) := by decide +kernel
theorem dX5_pour_56 : decode cX5_pour 56 = .ok (.ireturn, 1) := by decide +kernel
theorem dX5_pour_57 : decode cX5_pour 57 = .ok (.iconst 0, 1) := by decide +kernel
theorem dX5_pour_58 : decode cX5_pour 58 = .ok (.istore 5, 2) := by decide +kernel
theorem dX5_pour_60 : decode cX5_pour 60 = .ok (.iload 5, 2) := by decide +kernel
theorem dX5_pour_62 : decode cX5_pour 62 = .ok (.iload_n 3, 1) := by decide +kernel
theorem dX5_pour_63 : decode cX5_pour 63 = .ok (.if_icmp .ge 140, 3) := by decide +kernel
theorem dX5_pour_66 : decode cX5_pour 66 = .ok (.aload_n 0, 1) := by decide +kernel
theorem dX5_pour_67 : decode cX5_pour 67 = .ok (.iload_n 1, 1) := by decide +kernel
theorem dX5_pour_68 : decode cX5_pour 68 = .ok (.iload_n 2, 1) := by decide +kernel
theorem dX5_pour_69 : decode cX5_pour 69 = .ok (.iload 5, 2) := by decide +kernel
theorem dX5_pour_71 : decode cX5_pour 71 = .ok (.iadd, 1) := by decide +kernel
theorem dX5_pour_72 : decode cX5_pour 72 = .ok (.invokevirtual 137, 3) := by decide +kernel
theorem dX5_pour_75 : decode cX5_pour 75 = .ok (.lstore 6, 2) := by decide +kernel
theorem dX5_pour_77 : decode cX5_pour 77 = .ok (.aload_n 0, 1) := by decide +kernel
theorem dX5_pour_78 : decode cX5_pour 78 = .ok (.getfield 39, 3) := by decide +kernel
theorem dX5_pour_81 : decode cX5_pour 81 = .ok (.bipush 60, 2) := by decide +kernel
theorem dX5_pour_83 : decode cX5_pour 83 = .ok (.iload_n 1, 1) := by decide +kernel
theorem dX5_pour_84 : decode cX5_pour 84 = .ok (.imul, 1) := by decide +kernel
theorem dX5_pour_85 : decode cX5_pour 85 = .ok (.iload_n 2, 1) := by decide +kernel
theorem dX5_pour_86 : decode cX5_pour 86 = .ok (.iadd, 1) := by decide +kernel
theorem dX5_pour_87 : decode cX5_pour 87 = .ok (.iload 5, 2) := by decide +kernel
theorem dX5_pour_89 : decode cX5_pour 89 = .ok (.iadd, 1) := by decide +kernel
theorem dX5_pour_90 : decode cX5_pour 90 = .ok (.daload, 1) := by decide +kernel
theorem dX5_pour_91 : decode cX5_pour 91 = .ok (.dstore 8, 2) := by decide +kernel
theorem dX5_pour_93 : decode cX5_pour 93 = .ok (.aload_n 0, 1) := by decide +kernel
theorem dX5_pour_94 : decode cX5_pour 94 = .ok (.getfield 29, 3) := by decide +kernel
theorem dX5_pour_97 : decode cX5_pour 97 = .ok (.iload_n 1, 1) := by decide +kernel
theorem dX5_pour_98 : decode cX5_pour 98 = .ok (.iaload, 1) := by decide +kernel
theorem dX5_pour_99 : decode cX5_pour 99 = .ok (.iconst 4, 1) := by decide +kernel
theorem dX5_pour_100 : decode cX5_pour 100 = .ok (.if_icmp .lt 15, 3) := by decide +kernel
theorem dX5_pour_103 : decode cX5_pour 103 = .ok (.dload 8, 2) := by decide +kernel
theorem dX5_pour_105 : decode cX5_pour 105 = .ok (.dload 8, 2) := by decide +kernel
theorem dX5_pour_107 : decode cX5_pour 107 = .ok (.dcmp .l, 1) := by decide +kernel
theorem dX5_pour_108 : decode cX5_pour 108 = .ok (.ifCond .eq 7, 3) := by decide +kernel
theorem dX5_pour_111 : decode cX5_pour 111 = .ok (.iconst 1, 1) := by decide +kernel
theorem dX5_pour_112 : decode cX5_pour 112 = .ok (.goto 4, 3) := by decide +kernel
theorem dX5_pour_115 : decode cX5_pour 115 = .ok (.iconst 0, 1) := by decide +kernel
theorem dX5_pour_116 : decode cX5_pour 116 = .ok (.istore 10, 2) := by decide +kernel
theorem dX5_pour_118 : decode cX5_pour 118 = .ok (.iload 10, 2) := by decide +kernel
theorem dX5_pour_120 : decode cX5_pour 120 = .ok (.ifCond .ne 23, 3) := by decide +kernel
theorem dX5_pour_123 : decode cX5_pour 123 = .ok (.lload 6, 2) := by decide +kernel
theorem dX5_pour_125 : decode cX5_pour 125 = .ok (.lconst 0, 1) := by decide +kernel
theorem dX5_pour_126 : decode cX5_pour 126 = .ok (.lcmp, 1) := by decide +kernel
theorem dX5_pour_127 : decode cX5_pour 127 = .ok (.ifCond .lt 16, 3) := by decide +kernel
theorem dX5_pour_130 : decode cX5_pour 130 = .ok (.lload 6, 2) := by decide +kernel
theorem dX5_pour_132 : decode cX5_pour 132 = .ok (.ldc2_w 141, 3) := by decide +kernel
theorem dX5_pour_135 : decode cX5_pour 135 = .ok (.lcmp, 1) := by decide +kernel
theorem dX5_pour_136 : decode cX5_pour 136 = .ok (.ifCond .gt 7, 3) := by decide +kernel
theorem dX5_pour_139 : decode cX5_pour 139 = .ok (.iconst 1, 1) := by decide +kernel
theorem dX5_pour_140 : decode cX5_pour 140 = .ok (.goto 4, 3) := by decide +kernel
theorem dX5_pour_143 : decode cX5_pour 143 = .ok (.iconst 0, 1) := by decide +kernel
theorem dX5_pour_144 : decode cX5_pour 144 = .ok (.istore 11, 2) := by decide +kernel
theorem dX5_pour_146 : decode cX5_pour 146 = .ok (.aload_n 0, 1) := by decide +kernel
theorem dX5_pour_147 : decode cX5_pour 147 = .ok (.getfield 26, 3) := by decide +kernel
theorem dX5_pour_150 : decode cX5_pour 150 = .ok (.iload 4, 2) := by decide +kernel
theorem dX5_pour_152 : decode cX5_pour 152 = .ok (.iload 5, 2) := by decide +kernel
theorem dX5_pour_154 : decode cX5_pour 154 = .ok (.iadd, 1) := by decide +kernel
theorem dX5_pour_155 : decode cX5_pour 155 = .ok (.iload 11, 2) := by decide +kernel
theorem dX5_pour_157 : decode cX5_pour 157 = .ok (.ifCond .ne 7, 3) := by decide +kernel
theorem dX5_pour_160 : decode cX5_pour 160 = .ok (.iconst 1, 1) := by decide +kernel
theorem dX5_pour_161 : decode cX5_pour 161 = .ok (.goto 4, 3) := by decide +kernel
theorem dX5_pour_164 : decode cX5_pour 164 = .ok (.iconst 0, 1) := by decide +kernel
theorem dX5_pour_165 : decode cX5_pour 165 = .ok (.bastore, 1) := by decide +kernel
theorem dX5_pour_166 : decode cX5_pour 166 = .ok (.aload_n 0, 1) := by decide +kernel
theorem dX5_pour_167 : decode cX5_pour 167 = .ok (.getfield 23, 3) := by decide +kernel
theorem dX5_pour_170 : decode cX5_pour 170 = .ok (.iload 4, 2) := by decide +kernel
theorem dX5_pour_172 : decode cX5_pour 172 = .ok (.iload 5, 2) := by decide +kernel
theorem dX5_pour_174 : decode cX5_pour 174 = .ok (.iadd, 1) := by decide +kernel
theorem dX5_pour_175 : decode cX5_pour 175 = .ok (.iload 11, 2) := by decide +kernel
theorem dX5_pour_177 : decode cX5_pour 177 = .ok (.ifCond .eq 9, 3) := by decide +kernel
theorem dX5_pour_180 : decode cX5_pour 180 = .ok (.lload 6, 2) := by decide +kernel
theorem dX5_pour_182 : decode cX5_pour 182 = .ok (.l2i, 1) := by decide +kernel
theorem dX5_pour_183 : decode cX5_pour 183 = .ok (.goto 13, 3) := by decide +kernel
theorem dX5_pour_186 : decode cX5_pour 186 = .ok (.aload_n 0, 1) := by decide +kernel
theorem dX5_pour_187 : decode cX5_pour 187 = .ok (.getfield 23, 3) := by decide +kernel
theorem dX5_pour_190 : decode cX5_pour 190 = .ok (.iload 4, 2) := by decide +kernel
theorem dX5_pour_192 : decode cX5_pour 192 = .ok (.iload 5, 2) := by decide +kernel
theorem dX5_pour_194 : decode cX5_pour 194 = .ok (.iadd, 1) := by decide +kernel
theorem dX5_pour_195 : decode cX5_pour 195 = .ok (.iaload, 1) := by decide +kernel
theorem dX5_pour_196 : decode cX5_pour 196 = .ok (.iastore, 1) := by decide +kernel
theorem dX5_pour_197 : decode cX5_pour 197 = .ok (.iinc 5 1, 3) := by decide +kernel
theorem dX5_pour_200 : decode cX5_pour 200 = .ok (.goto (-140), 3) := by decide +kernel
theorem dX5_pour_203 : decode cX5_pour 203 = .ok (.aload_n 0, 1) := by decide +kernel
theorem dX5_pour_204 : decode cX5_pour 204 = .ok (.iconst 0, 1) := by decide +kernel
theorem dX5_pour_205 : decode cX5_pour 205 = .ok (.putfield 95, 3) := by decide +kernel
theorem dX5_pour_208 : decode cX5_pour 208 = .ok (.iconst 1, 1) := by decide +kernel
theorem dX5_pour_209 : decode cX5_pour 209 = .ok (.ireturn, 1) := by decide +kernel
theorem dX5_isFilled_0 : decode cX5_isFilled 0 = .ok (.aload_n 0, 1) := by decide +kernel
theorem dX5_isFilled_1 : decode cX5_isFilled 1 = .ok (.getfield 46, 3) := by decide +kernel
theorem dX5_isFilled_4 : decode cX5_isFilled 4 = .ok (.iload_n 1, 1) := by decide +kernel
theorem dX5_isFilled_5 : decode cX5_isFilled 5 = .ok (.iaload, 1) := by decide +kernel
theorem dX5_isFilled_6 : decode cX5_isFilled 6 = .ok (.ifCond .lt 7, 3) := by decide +kernel
theorem dX5_isFilled_9 : decode cX5_isFilled 9 = .ok (.iconst 1, 1) := by decide +kernel
theorem dX5_isFilled_10 : decode cX5_isFilled 10 = .ok (.goto 4, 3) := by decide +kernel
theorem dX5_isFilled_13 : decode cX5_isFilled 13 = .ok (.iconst 0, 1) := by decide +kernel
theorem dX5_isFilled_14 : decode cX5_isFilled 14 = .ok (.ireturn, 1) := by decide +kernel
theorem dX5_isFree_0 : decode cX5_isFree 0 = .ok (.aload_n 0, 1) := by decide +kernel
theorem dX5_isFree_1 : decode cX5_isFree 1 = .ok (.getfield 46, 3) := by decide +kernel
theorem dX5_isFree_4 : decode cX5_isFree 4 = .ok (.iload_n 1, 1) := by decide +kernel
theorem dX5_isFree_5 : decode cX5_isFree 5 = .ok (.iaload, 1) := by decide +kernel
theorem dX5_isFree_6 : decode cX5_isFree 6 = .ok (.ifCond .ge 16, 3) := by decide +kernel
theorem dX5_isFree_9 : decode cX5_isFree 9 = .ok (.aload_n 0, 1) := by decide +kernel
theorem dX5_isFree_10 : decode cX5_isFree 10 = .ok (.getfield 52, 3) := by decide +kernel
theorem dX5_isFree_13 : decode cX5_isFree 13 = .ok (.iload_n 1, 1) := by decide +kernel
theorem dX5_isFree_14 : decode cX5_isFree 14 = .ok (.iaload, 1) := by decide +kernel
theorem dX5_isFree_15 : decode cX5_isFree 15 = .ok (.ifCond .ge 7, 3) := by decide +kernel
theorem dX5_isFree_18 : decode cX5_isFree 18 = .ok (.iconst 1, 1) := by decide +kernel
theorem dX5_isFree_19 : decode cX5_isFree 19 = .ok (.goto 4, 3) := by decide +kernel
theorem dX5_isFree_22 : decode cX5_isFree 22 = .ok (.iconst 0, 1) := by decide +kernel
theorem dX5_isFree_23 : decode cX5_isFree 23 = .ok (.ireturn, 1) := by decide +kernel
theorem dX5_leads_0 : decode cX5_leads 0 = .ok (.aload_n 0, 1) := by decide +kernel
theorem dX5_leads_1 : decode cX5_leads 1 = .ok (.iload_n 1, 1) := by decide +kernel
theorem dX5_leads_2 : decode cX5_leads 2 = .ok (.invokevirtual 143, 3) := by decide +kernel
theorem dX5_leads_5 : decode cX5_leads 5 = .ok (.ifCond .eq 25, 3) := by decide +kernel
theorem dX5_leads_8 : decode cX5_leads 8 = .ok (.aload_n 0, 1) := by decide +kernel
theorem dX5_leads_9 : decode cX5_leads 9 = .ok (.getfield 7, 3) := by decide +kernel
theorem dX5_leads_12 : decode cX5_leads 12 = .ok (.iload_n 1, 1) := by decide +kernel
theorem dX5_leads_13 : decode cX5_leads 13 = .ok (.iaload, 1) := by decide +kernel
theorem dX5_leads_14 : decode cX5_leads 14 = .ok (.iconst 3, 1) := by decide +kernel
theorem dX5_leads_15 : decode cX5_leads 15 = .ok (.if_icmp .eq 15, 3) := by decide +kernel
theorem dX5_leads_18 : decode cX5_leads 18 = .ok (.aload_n 0, 1) := by decide +kernel
theorem dX5_leads_19 : decode cX5_leads 19 = .ok (.iload_n 2, 1) := by decide +kernel
theorem dX5_leads_20 : decode cX5_leads 20 = .ok (.invokevirtual 146, 3) := by decide +kernel
theorem dX5_leads_23 : decode cX5_leads 23 = .ok (.ifCond .eq 7, 3) := by decide +kernel
theorem dX5_leads_26 : decode cX5_leads 26 = .ok (.iconst 1, 1) := by decide +kernel
theorem dX5_leads_27 : decode cX5_leads 27 = .ok (.goto 4, 3) := by decide +kernel
theorem dX5_leads_30 : decode cX5_leads 30 = .ok (.iconst 0, 1) := by decide +kernel
theorem dX5_leads_31 : decode cX5_leads 31 = .ok (.ireturn, 1) := by decide +kernel
theorem dX5_isCandidate_0 : decode cX5_isCandidate 0 = .ok (.aload_n 0, 1) := by decide +kernel
theorem dX5_isCandidate_1 : decode cX5_isCandidate 1 = .ok (.getfield 26, 3) := by decide +kernel
theorem dX5_isCandidate_4 : decode cX5_isCandidate 4 = .ok (.iload_n 1, 1) := by decide +kernel
theorem dX5_isCandidate_5 : decode cX5_isCandidate 5 = .ok (.baload, 1) := by decide +kernel
theorem dX5_isCandidate_6 : decode cX5_isCandidate 6 = .ok (.ifCond .ne 45, 3) := by decide +kernel
theorem dX5_isCandidate_9 : decode cX5_isCandidate 9 = .ok (.aload_n 0, 1) := by decide +kernel
theorem dX5_isCandidate_10 : decode cX5_isCandidate 10 = .ok (.aload_n 0, 1) := by decide +kernel
theorem dX5_isCandidate_11 : decode cX5_isCandidate 11 = .ok (.getfield 17, 3) := by decide +kernel
theorem dX5_isCandidate_14 : decode cX5_isCandidate 14 = .ok (.iload_n 1, 1) := by decide +kernel
theorem dX5_isCandidate_15 : decode cX5_isCandidate 15 = .ok (.iaload, 1) := by decide +kernel
theorem dX5_isCandidate_16 : decode cX5_isCandidate 16 = .ok (.aload_n 0, 1) := by decide +kernel
theorem dX5_isCandidate_17 : decode cX5_isCandidate 17 = .ok (.getfield 20, 3) := by decide +kernel
theorem dX5_isCandidate_20 : decode cX5_isCandidate 20 = .ok (.iload_n 1, 1) := by decide +kernel
theorem dX5_isCandidate_21 : decode cX5_isCandidate 21 = .ok (.iaload, 1) := by decide +kernel
theorem dX5_isCandidate_22 : decode cX5_isCandidate 22 = .ok (.invokevirtual 149, 3) := by decide +kernel
theorem dX5_isCandidate_25 : decode cX5_isCandidate 25 = .ok (.ifCond .ne 22, 3) := by decide +kernel
theorem dX5_isCandidate_28 : decode cX5_isCandidate 28 = .ok (.aload_n 0, 1) := by decide +kernel
theorem dX5_isCandidate_29 : decode cX5_isCandidate 29 = .ok (.aload_n 0, 1) := by decide +kernel
theorem dX5_isCandidate_30 : decode cX5_isCandidate 30 = .ok (.getfield 20, 3) := by decide +kernel
theorem dX5_isCandidate_33 : decode cX5_isCandidate 33 = .ok (.iload_n 1, 1) := by decide +kernel
theorem dX5_isCandidate_34 : decode cX5_isCandidate 34 = .ok (.iaload, 1) := by decide +kernel
theorem dX5_isCandidate_35 : decode cX5_isCandidate 35 = .ok (.aload_n 0, 1) := by decide +kernel
theorem dX5_isCandidate_36 : decode cX5_isCandidate 36 = .ok (.getfield 17, 3) := by decide +kernel
theorem dX5_isCandidate_39 : decode cX5_isCandidate 39 = .ok (.iload_n 1, 1) := by decide +kernel
theorem dX5_isCandidate_40 : decode cX5_isCandidate 40 = .ok (.iaload, 1) := by decide +kernel
theorem dX5_isCandidate_41 : decode cX5_isCandidate 41 = .ok (.invokevirtual 149, 3) := by decide +kernel
theorem dX5_isCandidate_44 : decode cX5_isCandidate 44 = .ok (.ifCond .eq 7, 3) := by decide +kernel
theorem dX5_isCandidate_47 : decode cX5_isCandidate 47 = .ok (.iconst 1, 1) := by decide +kernel
theorem dX5_isCandidate_48 : decode cX5_isCandidate 48 = .ok (.goto 4, 3) := by decide +kernel
theorem dX5_isCandidate_51 : decode cX5_isCandidate 51 = .ok (.iconst 0, 1) := by decide +kernel
theorem dX5_isCandidate_52 : decode cX5_isCandidate 52 = .ok (.ireturn, 1) := by decide +kernel
theorem dX5_trap_0 : decode cX5_trap 0 = .ok (.aload_n 0, 1) := by decide +kernel
theorem dX5_trap_1 : decode cX5_trap 1 = .ok (.getfield 107, 3) := by decide +kernel
theorem dX5_trap_4 : decode cX5_trap 4 = .ok (.ifCond .ne 4, 3) := by decide +kernel
theorem dX5_trap_7 : decode cX5_trap 7 = .ok (.return_, 1) := by decide +kernel
theorem dX5_trap_8 : decode cX5_trap 8 = .ok (.iconst 0, 1) := by decide +kernel
theorem dX5_trap_9 : decode cX5_trap 9 = .ok (.istore_n 1, 1) := by decide +kernel
theorem dX5_trap_10 : decode cX5_trap 10 = .ok (.iload_n 1, 1) := by decide +kernel
theorem dX5_trap_11 : decode cX5_trap 11 = .ok (.aload_n 0, 1) := by decide +kernel
theorem dX5_trap_12 : decode cX5_trap 12 = .ok (.getfield 88, 3) := by decide +kernel
theorem dX5_trap_15 : decode cX5_trap 15 = .ok (.if_icmp .ge 38, 3) := by decide +kernel
theorem dX5_trap_18 : decode cX5_trap 18 = .ok (.aload_n 0, 1) := by decide +kernel
theorem dX5_trap_19 : decode cX5_trap 19 = .ok (.getfield 64, 3) := by decide +kernel
theorem dX5_trap_22 : decode cX5_trap 22 = .ok (.iload_n 1, 1) := by decide +kernel
theorem dX5_trap_23 : decode cX5_trap 23 = .ok (.aload_n 0, 1) := by decide +kernel
theorem dX5_trap_24 : decode cX5_trap 24 = .ok (.getfield 7, 3) := by decide +kernel
theorem dX5_trap_27 : decode cX5_trap 27 = .ok (.iload_n 1, 1) := by decide +kernel
theorem dX5_trap_28 : decode cX5_trap 28 = .ok (.iaload, 1) := by decide +kernel
theorem dX5_trap_29 : decode cX5_trap 29 = .ok (.iconst 4, 1) := by decide +kernel
theorem dX5_trap_30 : decode cX5_trap 30 = .ok (.if_icmp .ne 15, 3) := by decide +kernel
theorem dX5_trap_33 : decode cX5_trap 33 = .ok (.aload_n 0, 1) := by decide +kernel
theorem dX5_trap_34 : decode cX5_trap 34 = .ok (.iload_n 1, 1) := by decide +kernel
theorem dX5_trap_35 : decode cX5_trap 35 = .ok (.invokevirtual 143, 3) := by decide +kernel
theorem dX5_trap_38 : decode cX5_trap 38 = .ok (.ifCond .ne 7, 3) := by decide +kernel
theorem dX5_trap_41 : decode cX5_trap 41 = .ok (.iconst 1, 1) := by decide +kernel
theorem dX5_trap_42 : decode cX5_trap 42 = .ok (.goto 4, 3) := by decide +kernel
theorem dX5_trap_45 : decode cX5_trap 45 = .ok (.iconst 0, 1) := by decide +kernel
theorem dX5_trap_46 : decode cX5_trap 46 = .ok (.bastore, 1) := by decide +kernel
theorem dX5_trap_47 : decode cX5_trap 47 = .ok (.iinc 1 1, 3) := by decide +kernel
theorem dX5_trap_50 : decode cX5_trap 50 = .ok (.goto (-40), 3) := by decide +kernel
theorem dX5_trap_53 : decode cX5_trap 53 = .ok (.iconst 1, 1) := by decide +kernel
theorem dX5_trap_54 : decode cX5_trap 54 = .ok (.istore_n 1, 1) := by decide +kernel
theorem dX5_trap_55 : decode cX5_trap 55 = .ok (.iload_n 1, 1) := by decide +kernel
theorem dX5_trap_56 : decode cX5_trap 56 = .ok (.ifCond .eq 120, 3) := by decide +kernel
theorem dX5_trap_59 : decode cX5_trap 59 = .ok (.iconst 0, 1) := by decide +kernel
theorem dX5_trap_60 : decode cX5_trap 60 = .ok (.istore_n 1, 1) := by decide +kernel
theorem dX5_trap_61 : decode cX5_trap 61 = .ok (.iconst 0, 1) := by decide +kernel
theorem dX5_trap_62 : decode cX5_trap 62 = .ok (.istore_n 2, 1) := by decide +kernel
theorem dX5_trap_63 : decode cX5_trap 63 = .ok (.iload_n 2, 1) := by decide +kernel
theorem dX5_trap_64 : decode cX5_trap 64 = .ok (.aload_n 0, 1) := by decide +kernel
theorem dX5_trap_65 : decode cX5_trap 65 = .ok (.getfield 92, 3) := by decide +kernel
theorem dX5_trap_68 : decode cX5_trap 68 = .ok (.if_icmp .ge 105, 3) := by decide +kernel
theorem dX5_trap_71 : decode cX5_trap 71 = .ok (.aload_n 0, 1) := by decide +kernel
theorem dX5_trap_72 : decode cX5_trap 72 = .ok (.getfield 26, 3) := by decide +kernel
theorem dX5_trap_75 : decode cX5_trap 75 = .ok (.iload_n 2, 1) := by decide +kernel
theorem dX5_trap_76 : decode cX5_trap 76 = .ok (.baload, 1) := by decide +kernel
theorem dX5_trap_77 : decode cX5_trap 77 = .ok (.ifCond .ne 33, 3) := by decide +kernel
theorem dX5_trap_80 : decode cX5_trap 80 = .ok (.aload_n 0, 1) := by decide +kernel
theorem dX5_trap_81 : decode cX5_trap 81 = .ok (.aload_n 0, 1) := by decide +kernel
theorem dX5_trap_82 : decode cX5_trap 82 = .ok (.getfield 17, 3) := by decide +kernel
theorem dX5_trap_85 : decode cX5_trap 85 = .ok (.iload_n 2, 1) := by decide +kernel
theorem dX5_trap_86 : decode cX5_trap 86 = .ok (.iaload, 1) := by decide +kernel
theorem dX5_trap_87 : decode cX5_trap 87 = .ok (.invokevirtual 143, 3) := by decide +kernel
theorem dX5_trap_90 : decode cX5_trap 90 = .ok (.ifCond .ne 20, 3) := by decide +kernel
theorem dX5_trap_93 : decode cX5_trap 93 = .ok (.aload_n 0, 1) := by decide +kernel
theorem dX5_trap_94 : decode cX5_trap 94 = .ok (.aload_n 0, 1) := by decide +kernel
theorem dX5_trap_95 : decode cX5_trap 95 = .ok (.getfield 20, 3) := by decide +kernel
theorem dX5_trap_98 : decode cX5_trap 98 = .ok (.iload_n 2, 1) := by decide +kernel
theorem dX5_trap_99 : decode cX5_trap 99 = .ok (.iaload, 1) := by decide +kernel
theorem dX5_trap_100 : decode cX5_trap 100 = .ok (.invokevirtual 143, 3) := by decide +kernel
theorem dX5_trap_103 : decode cX5_trap 103 = .ok (.ifCond .ne 7, 3) := by decide +kernel
theorem dX5_trap_106 : decode cX5_trap 106 = .ok (.iconst 1, 1) := by decide +kernel
theorem dX5_trap_107 : decode cX5_trap 107 = .ok (.goto 4, 3) := by decide +kernel
theorem dX5_trap_110 : decode cX5_trap 110 = .ok (.iconst 0, 1) := by decide +kernel
theorem dX5_trap_111 : decode cX5_trap 111 = .ok (.istore_n 3, 1) := by decide +kernel
theorem dX5_trap_112 : decode cX5_trap 112 = .ok (.iload_n 3, 1) := by decide +kernel
theorem dX5_trap_113 : decode cX5_trap 113 = .ok (.ifCond .eq 54, 3) := by decide +kernel
theorem dX5_trap_116 : decode cX5_trap 116 = .ok (.aload_n 0, 1) := by decide +kernel
theorem dX5_trap_117 : decode cX5_trap 117 = .ok (.getfield 64, 3) := by decide +kernel
theorem dX5_trap_120 : decode cX5_trap 120 = .ok (.aload_n 0, 1) := by decide +kernel
theorem dX5_trap_121 : decode cX5_trap 121 = .ok (.getfield 17, 3) := by decide +kernel
theorem dX5_trap_124 : decode cX5_trap 124 = .ok (.iload_n 2, 1) := by decide +kernel
theorem dX5_trap_125 : decode cX5_trap 125 = .ok (.iaload, 1) := by decide +kernel
theorem dX5_trap_126 : decode cX5_trap 126 = .ok (.baload, 1) := by decide +kernel
theorem dX5_trap_127 : decode cX5_trap 127 = .ok (.aload_n 0, 1) := by decide +kernel
theorem dX5_trap_128 : decode cX5_trap 128 = .ok (.getfield 64, 3) := by decide +kernel
theorem dX5_trap_131 : decode cX5_trap 131 = .ok (.aload_n 0, 1) := by decide +kernel
theorem dX5_trap_132 : decode cX5_trap 132 = .ok (.getfield 20, 3) := by decide +kernel
theorem dX5_trap_135 : decode cX5_trap 135 = .ok (.iload_n 2, 1) := by decide +kernel
theorem dX5_trap_136 : decode cX5_trap 136 = .ok (.iaload, 1) := by decide +kernel
theorem dX5_trap_137 : decode cX5_trap 137 = .ok (.baload, 1) := by decide +kernel
theorem dX5_trap_138 : decode cX5_trap 138 = .ok (.if_icmp .eq 29, 3) := by decide +kernel
theorem dX5_trap_141 : decode cX5_trap 141 = .ok (.aload_n 0, 1) := by decide +kernel
theorem dX5_trap_142 : decode cX5_trap 142 = .ok (.getfield 64, 3) := by decide +kernel
theorem dX5_trap_145 : decode cX5_trap 145 = .ok (.aload_n 0, 1) := by decide +kernel
theorem dX5_trap_146 : decode cX5_trap 146 = .ok (.getfield 17, 3) := by decide +kernel
theorem dX5_trap_149 : decode cX5_trap 149 = .ok (.iload_n 2, 1) := by decide +kernel
theorem dX5_trap_150 : decode cX5_trap 150 = .ok (.iaload, 1) := by decide +kernel
theorem dX5_trap_151 : decode cX5_trap 151 = .ok (.iconst 1, 1) := by decide +kernel
theorem dX5_trap_152 : decode cX5_trap 152 = .ok (.bastore, 1) := by decide +kernel
theorem dX5_trap_153 : decode cX5_trap 153 = .ok (.aload_n 0, 1) := by decide +kernel
theorem dX5_trap_154 : decode cX5_trap 154 = .ok (.getfield 64, 3) := by decide +kernel
theorem dX5_trap_157 : decode cX5_trap 157 = .ok (.aload_n 0, 1) := by decide +kernel
theorem dX5_trap_158 : decode cX5_trap 158 = .ok (.getfield 20, 3) := by decide +kernel
theorem dX5_trap_161 : decode cX5_trap 161 = .ok (.iload_n 2, 1) := by decide +kernel
theorem dX5_trap_162 : decode cX5_trap 162 = .ok (.iaload, 1) := by decide +kernel
theorem dX5_trap_163 : decode cX5_trap 163 = .ok (.iconst 1, 1) := by decide +kernel
theorem dX5_trap_164 : decode cX5_trap 164 = .ok (.bastore, 1) := by decide +kernel
theorem dX5_trap_165 : decode cX5_trap 165 = .ok (.iconst 1, 1) := by decide +kernel
theorem dX5_trap_166 : decode cX5_trap 166 = .ok (.istore_n 1, 1) := by decide +kernel
theorem dX5_trap_167 : decode cX5_trap 167 = .ok (.iinc 2 1, 3) := by decide +kernel
theorem dX5_trap_170 : decode cX5_trap 170 = .ok (.goto (-107), 3) := by decide +kernel
theorem dX5_trap_173 : decode cX5_trap 173 = .ok (.goto (-118), 3) := by decide +kernel
theorem dX5_trap_176 : decode cX5_trap 176 = .ok (.iconst 0, 1) := by decide +kernel
theorem dX5_trap_177 : decode cX5_trap 177 = .ok (.istore_n 2, 1) := by decide +kernel
theorem dX5_trap_178 : decode cX5_trap 178 = .ok (.iload_n 2, 1) := by decide +kernel
theorem dX5_trap_179 : decode cX5_trap 179 = .ok (.aload_n 0, 1) := by decide +kernel
theorem dX5_trap_180 : decode cX5_trap 180 = .ok (.getfield 88, 3) := by decide +kernel
theorem dX5_trap_183 : decode cX5_trap 183 = .ok (.if_icmp .ge 45, 3) := by decide +kernel
theorem dX5_trap_186 : decode cX5_trap 186 = .ok (.aload_n 0, 1) := by decide +kernel
theorem dX5_trap_187 : decode cX5_trap 187 = .ok (.getfield 52, 3) := by decide +kernel
theorem dX5_trap_190 : decode cX5_trap 190 = .ok (.iload_n 2, 1) := by decide +kernel
theorem dX5_trap_191 : decode cX5_trap 191 = .ok (.aload_n 0, 1) := by decide +kernel
theorem dX5_trap_192 : decode cX5_trap 192 = .ok (.iload_n 2, 1) := by decide +kernel
theorem dX5_trap_193 : decode cX5_trap 193 = .ok (.invokevirtual 146, 3) := by decide +kernel
theorem dX5_trap_196 : decode cX5_trap 196 = .ok (.ifCond .eq 19, 3) := by decide +kernel
theorem dX5_trap_199 : decode cX5_trap 199 = .ok (.aload_n 0, 1) := by decide +kernel
theorem dX5_trap_200 : decode cX5_trap 200 = .ok (.getfield 64, 3) := by decide +kernel
theorem dX5_trap_203 : decode cX5_trap 203 = .ok (.iload_n 2, 1) := by decide +kernel
theorem dX5_trap_204 : decode cX5_trap 204 = .ok (.baload, 1) := by decide +kernel
theorem dX5_trap_205 : decode cX5_trap 205 = .ok (.ifCond .ne 10, 3) := by decide +kernel
theorem dX5_trap_208 : decode cX5_trap 208 = .ok (.aload_n 0, 1) := by decide +kernel
theorem dX5_trap_209 : decode cX5_trap 209 = .ok (.getfield 152, 3) := by decide +kernel
theorem dX5_trap_212 : decode cX5_trap 212 = .ok (.goto 9, 3) := by decide +kernel
theorem dX5_trap_215 : decode cX5_trap 215 = .ok (.aload_n 0, 1) := by decide +kernel
theorem dX5_trap_216 : decode cX5_trap 216 = .ok (.getfield 52, 3) := by decide +kernel
theorem dX5_trap_219 : decode cX5_trap 219 = .ok (.iload_n 2, 1) := by decide +kernel
theorem dX5_trap_220 : decode cX5_trap 220 = .ok (.iaload, 1) := by decide +kernel
theorem dX5_trap_221 : decode cX5_trap 221 = .ok (.iastore, 1) := by decide +kernel
theorem dX5_trap_222 : decode cX5_trap 222 = .ok (.iinc 2 1, 3) := by decide +kernel
theorem dX5_trap_225 : decode cX5_trap 225 = .ok (.goto (-47), 3) := by decide +kernel
theorem dX5_trap_228 : decode cX5_trap 228 = .ok (.return_, 1) := by decide +kernel
theorem dX5_start_0 : decode cX5_start 0 = .ok (.aload_n 0, 1) := by decide +kernel
theorem dX5_start_1 : decode cX5_start 1 = .ok (.iconst 0, 1) := by decide +kernel
theorem dX5_start_2 : decode cX5_start 2 = .ok (.putfield 152, 3) := by decide +kernel
theorem dX5_start_5 : decode cX5_start 5 = .ok (.iconst 0, 1) := by decide +kernel
theorem dX5_start_6 : decode cX5_start 6 = .ok (.istore_n 1, 1) := by decide +kernel
theorem dX5_start_7 : decode cX5_start 7 = .ok (.iload_n 1, 1) := by decide +kernel
theorem dX5_start_8 : decode cX5_start 8 = .ok (.aload_n 0, 1) := by decide +kernel
theorem dX5_start_9 : decode cX5_start 9 = .ok (.getfield 88, 3) := by decide +kernel
theorem dX5_start_12 : decode cX5_start 12 = .ok (.if_icmp .ge 43, 3) := by decide +kernel
theorem dX5_start_15 : decode cX5_start 15 = .ok (.aload_n 0, 1) := by decide +kernel
theorem dX5_start_16 : decode cX5_start 16 = .ok (.getfield 46, 3) := by decide +kernel
theorem dX5_start_19 : decode cX5_start 19 = .ok (.iload_n 1, 1) := by decide +kernel
theorem dX5_start_20 : decode cX5_start 20 = .ok (.aload_n 0, 1) := by decide +kernel
theorem dX5_start_21 : decode cX5_start 21 = .ok (.getfield 13, 3) := by decide +kernel
theorem dX5_start_24 : decode cX5_start 24 = .ok (.iload_n 1, 1) := by decide +kernel
theorem dX5_start_25 : decode cX5_start 25 = .ok (.baload, 1) := by decide +kernel
theorem dX5_start_26 : decode cX5_start 26 = .ok (.ifCond .eq 7, 3) := by decide +kernel
theorem dX5_start_29 : decode cX5_start 29 = .ok (.iconst 0, 1) := by decide +kernel
theorem dX5_start_30 : decode cX5_start 30 = .ok (.goto 4, 3) := by decide +kernel
theorem dX5_start_33 : decode cX5_start 33 = .ok (.iconst (-1), 1) := by decide +kernel
theorem dX5_start_34 : decode cX5_start 34 = .ok (.iastore, 1) := by decide +kernel
theorem dX5_start_35 : decode cX5_start 35 = .ok (.aload_n 0, 1) := by decide +kernel
theorem dX5_start_36 : decode cX5_start 36 = .ok (.getfield 49, 3) := by decide +kernel
theorem dX5_start_39 : decode cX5_start 39 = .ok (.iload_n 1, 1) := by decide +kernel
theorem dX5_start_40 : decode cX5_start 40 = .ok (.iconst (-1), 1) := by decide +kernel
theorem dX5_start_41 : decode cX5_start 41 = .ok (.iastore, 1) := by decide +kernel
theorem dX5_start_42 : decode cX5_start 42 = .ok (.aload_n 0, 1) := by decide +kernel
theorem dX5_start_43 : decode cX5_start 43 = .ok (.getfield 52, 3) := by decide +kernel
theorem dX5_start_46 : decode cX5_start 46 = .ok (.iload_n 1, 1) := by decide +kernel
theorem dX5_start_47 : decode cX5_start 47 = .ok (.iconst (-1), 1) := by decide +kernel
theorem dX5_start_48 : decode cX5_start 48 = .ok (.iastore, 1) := by decide +kernel
theorem dX5_start_49 : decode cX5_start 49 = .ok (.iinc 1 1, 3) := by decide +kernel
theorem dX5_start_52 : decode cX5_start 52 = .ok (.goto (-45), 3) := by decide +kernel
theorem dX5_start_55 : decode cX5_start 55 = .ok (.aload_n 0, 1) := by decide +kernel
theorem dX5_start_56 : decode cX5_start 56 = .ok (.invokevirtual 155, 3) := by decide +kernel
theorem dX5_start_59 : decode cX5_start 59 = .ok (.return_, 1) := by decide +kernel
theorem dX5_begin_0 : decode cX5_begin 0 = .ok (.aload_n 0, 1) := by decide +kernel
theorem dX5_begin_1 : decode cX5_begin 1 = .ok (.iconst 1, 1) := by decide +kernel
theorem dX5_begin_2 : decode cX5_begin 2 = .ok (.putfield 95, 3) := by decide +kernel
theorem dX5_begin_5 : decode cX5_begin 5 = .ok (.aload_n 0, 1) := by decide +kernel
theorem dX5_begin_6 : decode cX5_begin 6 = .ok (.invokevirtual 158, 3) := by decide +kernel
theorem dX5_begin_9 : decode cX5_begin 9 = .ok (.aload_n 0, 1) := by decide +kernel
theorem dX5_begin_10 : decode cX5_begin 10 = .ok (.iconst 3, 1) := by decide +kernel
theorem dX5_begin_11 : decode cX5_begin 11 = .ok (.invokevirtual 161, 3) := by decide +kernel
theorem dX5_begin_14 : decode cX5_begin 14 = .ok (.ireturn, 1) := by decide +kernel
theorem dX5_bestAt_0 : decode cX5_bestAt 0 = .ok (.iconst (-1), 1) := by decide +kernel
theorem dX5_bestAt_1 : decode cX5_bestAt 1 = .ok (.istore_n 3, 1) := by decide +kernel
theorem dX5_bestAt_2 : decode cX5_bestAt 2 = .ok (.iconst 0, 1) := by decide +kernel
theorem dX5_bestAt_3 : decode cX5_bestAt 3 = .ok (.istore 4, 2) := by decide +kernel
theorem dX5_bestAt_5 : decode cX5_bestAt 5 = .ok (.iload 4, 2) := by decide +kernel
theorem dX5_bestAt_7 : decode cX5_bestAt 7 = .ok (.aload_n 0, 1) := by decide +kernel
theorem dX5_bestAt_8 : decode cX5_bestAt 8 = .ok (.getfield 92, 3) := by decide +kernel
theorem dX5_bestAt_11 : decode cX5_bestAt 11 = .ok (.if_icmp .ge 74, 3) := by decide +kernel
theorem dX5_bestAt_14 : decode cX5_bestAt 14 = .ok (.iload_n 1, 1) := by decide +kernel
theorem dX5_bestAt_15 : decode cX5_bestAt 15 = .ok (.ifCond .lt 25, 3) := by decide +kernel
theorem dX5_bestAt_18 : decode cX5_bestAt 18 = .ok (.aload_n 0, 1) := by decide +kernel
theorem dX5_bestAt_19 : decode cX5_bestAt 19 = .ok (.getfield 17, 3) := by decide +kernel
theorem dX5_bestAt_22 : decode cX5_bestAt 22 = .ok (.iload 4, 2) := by decide +kernel
theorem dX5_bestAt_24 : decode cX5_bestAt 24 = .ok (.iaload, 1) := by decide +kernel
theorem dX5_bestAt_25 : decode cX5_bestAt 25 = .ok (.iload_n 1, 1) := by decide +kernel
theorem dX5_bestAt_26 : decode cX5_bestAt 26 = .ok (.if_icmp .eq 14, 3) := by decide +kernel
theorem dX5_bestAt_29 : decode cX5_bestAt 29 = .ok (.aload_n 0, 1) := by decide +kernel
theorem dX5_bestAt_30 : decode cX5_bestAt 30 = .ok (.getfield 20, 3) := by decide +kernel
theorem dX5_bestAt_33 : decode cX5_bestAt 33 = .ok (.iload 4, 2) := by decide +kernel
theorem dX5_bestAt_35 : decode cX5_bestAt 35 = .ok (.iaload, 1) := by decide +kernel
theorem dX5_bestAt_36 : decode cX5_bestAt 36 = .ok (.iload_n 1, 1) := by decide +kernel
theorem dX5_bestAt_37 : decode cX5_bestAt 37 = .ok (.if_icmp .ne 7, 3) := by decide +kernel
theorem dX5_bestAt_40 : decode cX5_bestAt 40 = .ok (.iconst 1, 1) := by decide +kernel
theorem dX5_bestAt_41 : decode cX5_bestAt 41 = .ok (.goto 4, 3) := by decide +kernel
theorem dX5_bestAt_44 : decode cX5_bestAt 44 = .ok (.iconst 0, 1) := by decide +kernel
theorem dX5_bestAt_45 : decode cX5_bestAt 45 = .ok (.istore 5, 2) := by decide +kernel
theorem dX5_bestAt_47 : decode cX5_bestAt 47 = .ok (.iload 5, 2) := by decide +kernel
theorem dX5_bestAt_49 : decode cX5_bestAt 49 = .ok (.ifCond .eq 30, 3) := by decide +kernel
theorem dX5_bestAt_52 : decode cX5_bestAt 52 = .ok (.aload_n 0, 1) := by decide +kernel
theorem dX5_bestAt_53 : decode cX5_bestAt 53 = .ok (.iload 4, 2) := by decide +kernel
theorem dX5_bestAt_55 : decode cX5_bestAt 55 = .ok (.invokevirtual 164, 3) := by decide +kernel
theorem dX5_bestAt_58 : decode cX5_bestAt 58 = .ok (.ifCond .eq 21, 3) := by decide +kernel
theorem dX5_bestAt_61 : decode cX5_bestAt 61 = .ok (.iload_n 3, 1) := by decide +kernel
theorem dX5_bestAt_62 : decode cX5_bestAt 62 = .ok (.ifCond .lt 14, 3) := by decide +kernel
theorem dX5_bestAt_65 : decode cX5_bestAt 65 = .ok (.aload_n 0, 1) := by decide +kernel
theorem dX5_bestAt_66 : decode cX5_bestAt 66 = .ok (.iload 4, 2) := by decide +kernel
theorem dX5_bestAt_68 : decode cX5_bestAt 68 = .ok (.iload_n 3, 1) := by decide +kernel
theorem dX5_bestAt_69 : decode cX5_bestAt 69 = .ok (.invokevirtual 110, 3) := by decide +kernel
theorem dX5_bestAt_72 : decode cX5_bestAt 72 = .ok (.iload_n 2, 1) := by decide +kernel
theorem dX5_bestAt_73 : decode cX5_bestAt 73 = .ok (.if_icmp .eq 6, 3) := by decide +kernel
theorem dX5_bestAt_76 : decode cX5_bestAt 76 = .ok (.iload 4, 2) := by decide +kernel
theorem dX5_bestAt_78 : decode cX5_bestAt 78 = .ok (.istore_n 3, 1) := by decide +kernel
theorem dX5_bestAt_79 : decode cX5_bestAt 79 = .ok (.iinc 4 1, 3) := by decide +kernel
theorem dX5_bestAt_82 : decode cX5_bestAt 82 = .ok (.goto (-77), 3) := by decide +kernel
theorem dX5_bestAt_85 : decode cX5_bestAt 85 = .ok (.iload_n 3, 1) := by decide +kernel
theorem dX5_bestAt_86 : decode cX5_bestAt 86 = .ok (.ireturn, 1) := by decide +kernel
theorem dX5_nextThroat_0 : decode cX5_nextThroat 0 = .ok (.iconst (-1), 1) := by decide +kernel
theorem dX5_nextThroat_1 : decode cX5_nextThroat 1 = .ok (.istore_n 1, 1) := by decide +kernel
theorem dX5_nextThroat_2 : decode cX5_nextThroat 2 = .ok (.iconst 0, 1) := by decide +kernel
theorem dX5_nextThroat_3 : decode cX5_nextThroat 3 = .ok (.istore_n 2, 1) := by decide +kernel
theorem dX5_nextThroat_4 : decode cX5_nextThroat 4 = .ok (.iload_n 2, 1) := by decide +kernel
theorem dX5_nextThroat_5 : decode cX5_nextThroat 5 = .ok (.aload_n 0, 1) := by decide +kernel
theorem dX5_nextThroat_6 : decode cX5_nextThroat 6 = .ok (.getfield 88, 3) := by decide +kernel
theorem dX5_nextThroat_9 : decode cX5_nextThroat 9 = .ok (.if_icmp .ge 35, 3) := by decide +kernel
theorem dX5_nextThroat_12 : decode cX5_nextThroat 12 = .ok (.aload_n 0, 1) := by decide +kernel
theorem dX5_nextThroat_13 : decode cX5_nextThroat 13 = .ok (.getfield 152, 3) := by decide +kernel
theorem dX5_nextThroat_16 : decode cX5_nextThroat 16 = .ok (.ifCond .le 20, 3) := by decide +kernel
theorem dX5_nextThroat_19 : decode cX5_nextThroat 19 = .ok (.aload_n 0, 1) := by decide +kernel
theorem dX5_nextThroat_20 : decode cX5_nextThroat 20 = .ok (.getfield 46, 3) := by decide +kernel
theorem dX5_nextThroat_23 : decode cX5_nextThroat 23 = .ok (.iload_n 2, 1) := by decide +kernel
theorem dX5_nextThroat_24 : decode cX5_nextThroat 24 = .ok (.iaload, 1) := by decide +kernel
theorem dX5_nextThroat_25 : decode cX5_nextThroat 25 = .ok (.aload_n 0, 1) := by decide +kernel
theorem dX5_nextThroat_26 : decode cX5_nextThroat 26 = .ok (.getfield 152, 3) := by decide +kernel
theorem dX5_nextThroat_29 : decode cX5_nextThroat 29 = .ok (.if_icmp .ne 7, 3) := by decide +kernel
theorem dX5_nextThroat_32 : decode cX5_nextThroat 32 = .ok (.iload_n 2, 1) := by decide +kernel
theorem dX5_nextThroat_33 : decode cX5_nextThroat 33 = .ok (.goto 4, 3) := by decide +kernel
theorem dX5_nextThroat_36 : decode cX5_nextThroat 36 = .ok (.iload_n 1, 1) := by decide +kernel
theorem dX5_nextThroat_37 : decode cX5_nextThroat 37 = .ok (.istore_n 1, 1) := by decide +kernel
theorem dX5_nextThroat_38 : decode cX5_nextThroat 38 = .ok (.iinc 2 1, 3) := by decide +kernel
theorem dX5_nextThroat_41 : decode cX5_nextThroat 41 = .ok (.goto (-37), 3) := by decide +kernel
theorem dX5_nextThroat_44 : decode cX5_nextThroat 44 = .ok (.iconst (-1), 1) := by decide +kernel
theorem dX5_nextThroat_45 : decode cX5_nextThroat 45 = .ok (.istore_n 2, 1) := by decide +kernel
theorem dX5_nextThroat_46 : decode cX5_nextThroat 46 = .ok (.iload_n 1, 1) := by decide +kernel
theorem dX5_nextThroat_47 : decode cX5_nextThroat 47 = .ok (.ifCond .lt 44, 3) := by decide +kernel
theorem dX5_nextThroat_50 : decode cX5_nextThroat 50 = .ok (.aload_n 0, 1) := by decide +kernel
theorem dX5_nextThroat_51 : decode cX5_nextThroat 51 = .ok (.getfield 7, 3) := by decide +kernel
theorem dX5_nextThroat_54 : decode cX5_nextThroat 54 = .ok (.iload_n 1, 1) := by decide +kernel
theorem dX5_nextThroat_55 : decode cX5_nextThroat 55 = .ok (.iaload, 1) := by decide +kernel
theorem dX5_nextThroat_56 : decode cX5_nextThroat 56 = .ok (.iconst 1, 1) := by decide +kernel
theorem dX5_nextThroat_57 : decode cX5_nextThroat 57 = .ok (.if_icmp .eq 13, 3) := by decide +kernel
theorem dX5_nextThroat_60 : decode cX5_nextThroat 60 = .ok (.aload_n 0, 1) := by decide +kernel
theorem dX5_nextThroat_61 : decode cX5_nextThroat 61 = .ok (.getfield 7, 3) := by decide +kernel
theorem dX5_nextThroat_64 : decode cX5_nextThroat 64 = .ok (.iload_n 1, 1) := by decide +kernel
theorem dX5_nextThroat_65 : decode cX5_nextThroat 65 = .ok (.iaload, 1) := by decide +kernel
theorem dX5_nextThroat_66 : decode cX5_nextThroat 66 = .ok (.iconst 2, 1) := by decide +kernel
theorem dX5_nextThroat_67 : decode cX5_nextThroat 67 = .ok (.if_icmp .ne 24, 3) := by decide +kernel
theorem dX5_nextThroat_70 : decode cX5_nextThroat 70 = .ok (.aload_n 0, 1) := by decide +kernel
theorem dX5_nextThroat_71 : decode cX5_nextThroat 71 = .ok (.iload_n 1, 1) := by decide +kernel
theorem dX5_nextThroat_72 : decode cX5_nextThroat 72 = .ok (.aload_n 0, 1) := by decide +kernel
theorem dX5_nextThroat_73 : decode cX5_nextThroat 73 = .ok (.getfield 7, 3) := by decide +kernel
theorem dX5_nextThroat_76 : decode cX5_nextThroat 76 = .ok (.iload_n 1, 1) := by decide +kernel
theorem dX5_nextThroat_77 : decode cX5_nextThroat 77 = .ok (.iaload, 1) := by decide +kernel
theorem dX5_nextThroat_78 : decode cX5_nextThroat 78 = .ok (.iconst 2, 1) := by decide +kernel
theorem dX5_nextThroat_79 : decode cX5_nextThroat 79 = .ok (.if_icmp .ne 7, 3) := by decide +kernel
theorem dX5_nextThroat_82 : decode cX5_nextThroat 82 = .ok (.iconst 1, 1) := by decide +kernel
theorem dX5_nextThroat_83 : decode cX5_nextThroat 83 = .ok (.goto 4, 3) := by decide +kernel
theorem dX5_nextThroat_86 : decode cX5_nextThroat 86 = .ok (.iconst 0, 1) := by decide +kernel
theorem dX5_nextThroat_87 : decode cX5_nextThroat 87 = .ok (.invokevirtual 167, 3) := by decide +kernel
theorem dX5_nextThroat_90 : decode cX5_nextThroat 90 = .ok (.istore_n 2, 1) := by decide +kernel
theorem dX5_nextThroat_91 : decode cX5_nextThroat 91 = .ok (.iload_n 2, 1) := by decide +kernel
theorem dX5_nextThroat_92 : decode cX5_nextThroat 92 = .ok (.ifCond .lt 7, 3) := by decide +kernel
theorem dX5_nextThroat_95 : decode cX5_nextThroat 95 = .ok (.iload_n 2, 1) := by decide +kernel
theorem dX5_nextThroat_96 : decode cX5_nextThroat 96 = .ok (.goto 9, 3) := by decide +kernel
theorem dX5_nextThroat_99 : decode cX5_nextThroat 99 = .ok (.aload_n 0, 1) := by decide +kernel
theorem dX5_nextThroat_100 : decode cX5_nextThroat 100 = .ok (.iconst (-1), 1) := by decide +kernel
theorem dX5_nextThroat_101 : decode cX5_nextThroat 101 = .ok (.iconst 0, 1) := by decide +kernel
theorem dX5_nextThroat_102 : decode cX5_nextThroat 102 = .ok (.invokevirtual 167, 3) := by decide +kernel
theorem dX5_nextThroat_105 : decode cX5_nextThroat 105 = .ok (.ireturn, 1) := by decide +kernel
theorem dX5_open_0 : decode cX5_open 0 = .ok (.aload_n 0, 1) := by decide +kernel
theorem dX5_open_1 : decode cX5_open 1 = .ok (.aload_n 0, 1) := by decide +kernel
theorem dX5_open_2 : decode cX5_open 2 = .ok (.getfield 17, 3) := by decide +kernel
theorem dX5_open_5 : decode cX5_open 5 = .ok (.iload_n 1, 1) := by decide +kernel
theorem dX5_open_6 : decode cX5_open 6 = .ok (.iaload, 1) := by decide +kernel
theorem dX5_open_7 : decode cX5_open 7 = .ok (.invokevirtual 143, 3) := by decide +kernel
theorem dX5_open_10 : decode cX5_open 10 = .ok (.ifCond .eq 12, 3) := by decide +kernel
theorem dX5_open_13 : decode cX5_open 13 = .ok (.aload_n 0, 1) := by decide +kernel
theorem dX5_open_14 : decode cX5_open 14 = .ok (.getfield 20, 3) := by decide +kernel
theorem dX5_open_17 : decode cX5_open 17 = .ok (.iload_n 1, 1) := by decide +kernel
theorem dX5_open_18 : decode cX5_open 18 = .ok (.iaload, 1) := by decide +kernel
theorem dX5_open_19 : decode cX5_open 19 = .ok (.goto 9, 3) := by decide +kernel
theorem dX5_open_22 : decode cX5_open 22 = .ok (.aload_n 0, 1) := by decide +kernel
theorem dX5_open_23 : decode cX5_open 23 = .ok (.getfield 17, 3) := by decide +kernel
theorem dX5_open_26 : decode cX5_open 26 = .ok (.iload_n 1, 1) := by decide +kernel
theorem dX5_open_27 : decode cX5_open 27 = .ok (.iaload, 1) := by decide +kernel
theorem dX5_open_28 : decode cX5_open 28 = .ok (.istore_n 2, 1) := by decide +kernel
theorem dX5_open_29 : decode cX5_open 29 = .ok (.aload_n 0, 1) := by decide +kernel
theorem dX5_open_30 : decode cX5_open 30 = .ok (.dup, 1) := by decide +kernel
theorem dX5_open_31 : decode cX5_open 31 = .ok (.getfield 152, 3) := by decide +kernel
theorem dX5_open_34 : decode cX5_open 34 = .ok (.iconst 1, 1) := by decide +kernel
theorem dX5_open_35 : decode cX5_open 35 = .ok (.iadd, 1) := by decide +kernel
theorem dX5_open_36 : decode cX5_open 36 = .ok (.putfield 152, 3) := by decide +kernel
theorem dX5_open_39 : decode cX5_open 39 = .ok (.aload_n 0, 1) := by decide +kernel
theorem dX5_open_40 : decode cX5_open 40 = .ok (.getfield 43, 3) := by decide +kernel
theorem dX5_open_43 : decode cX5_open 43 = .ok (.aload_n 0, 1) := by decide +kernel
theorem dX5_open_44 : decode cX5_open 44 = .ok (.getfield 152, 3) := by decide +kernel
theorem dX5_open_47 : decode cX5_open 47 = .ok (.iload_n 1, 1) := by decide +kernel
theorem dX5_open_48 : decode cX5_open 48 = .ok (.iastore, 1) := by decide +kernel
theorem dX5_open_49 : decode cX5_open 49 = .ok (.aload_n 0, 1) := by decide +kernel
theorem dX5_open_50 : decode cX5_open 50 = .ok (.getfield 46, 3) := by decide +kernel
