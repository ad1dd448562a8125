theorem dX4_splice_15 : decode cX4_splice 15 = .ok (.ireturn, 1) := by decide +kernel
theorem dX4_splice_16 : decode cX4_splice 16 = .ok (.aload_n 0, 1) := by decide +kernel
theorem dX4_splice_17 : decode cX4_splice 17 = .ok (.getfield 18, 3) := by decide +kernel
theorem dX4_splice_20 : decode cX4_splice 20 = .ok (.iload_n 1, 1) := by decide +kernel
theorem dX4_splice_21 : decode cX4_splice 21 = .ok (.aaload, 1) := by decide +kernel
theorem dX4_splice_22 : decode cX4_splice 22 = .ok (.getfield 121, 3) := by decide +kernel
theorem dX4_splice_25 : decode cX4_splice 25 = .ok (.ifCond .eq 15, 3) := by decide +kernel
theorem dX4_splice_28 : decode cX4_splice 28 = .ok (.aload_n 0, 1) := by decide +kernel
theorem dX4_splice_29 : decode cX4_splice 29 = .ok (.getfield 18, 3) := by decide +kernel
theorem dX4_splice_32 : decode cX4_splice 32 = .ok (.iload_n 3, 1) := by decide +kernel
theorem dX4_splice_33 : decode cX4_splice 33 = .ok (.aaload, 1) := by decide +kernel
theorem dX4_splice_34 : decode cX4_splice 34 = .ok (.getfield 121, 3) := by decide +kernel
theorem dX4_splice_37 : decode cX4_splice 37 = .ok (.ifCond .ne 6, 3) := by decide +kernel
theorem dX4_splice_40 : decode cX4_splice 40 = .ok (.bipush (-3), 2) := by decide +kernel
theorem dX4_splice_42 : decode cX4_splice 42 = .ok (.ireturn, 1) := by decide +kernel
theorem dX4_splice_43 : decode cX4_splice 43 = .ok (.aload_n 0, 1) := by decide +kernel
theorem dX4_splice_44 : decode cX4_splice 44 = .ok (.getfield 18, 3) := by decide +kernel
theorem dX4_splice_47 : decode cX4_splice 47 = .ok (.iload_n 1, 1) := by decide +kernel
theorem dX4_splice_48 : decode cX4_splice 48 = .ok (.aaload, 1) := by decide +kernel
theorem dX4_splice_49 : decode cX4_splice 49 = .ok (.getfield 131, 3) := by decide +kernel
theorem dX4_splice_52 : decode cX4_splice 52 = .ok (.aload_n 0, 1) := by decide +kernel
theorem dX4_splice_53 : decode cX4_splice 53 = .ok (.getfield 18, 3) := by decide +kernel
theorem dX4_splice_56 : decode cX4_splice 56 = .ok (.iload_n 3, 1) := by decide +kernel
theorem dX4_splice_57 : decode cX4_splice 57 = .ok (.aaload, 1) := by decide +kernel
theorem dX4_splice_58 : decode cX4_splice 58 = .ok (.getfield 131, 3) := by decide +kernel
theorem dX4_splice_61 : decode cX4_splice 61 = .ok (.if_icmp .eq 6, 3) := by decide +kernel
theorem dX4_splice_64 : decode cX4_splice 64 = .ok (.bipush (-4), 2) := by decide +kernel
theorem dX4_splice_66 : decode cX4_splice 66 = .ok (.ireturn, 1) := by decide +kernel
theorem dX4_splice_67 : decode cX4_splice 67 = .ok (.aload_n 0, 1) := by decide +kernel
theorem dX4_splice_68 : decode cX4_splice 68 = .ok (.getfield 18, 3) := by decide +kernel
theorem dX4_splice_71 : decode cX4_splice 71 = .ok (.iload_n 1, 1) := by decide +kernel
theorem dX4_splice_72 : decode cX4_splice 72 = .ok (.aaload, 1) := by decide +kernel
theorem dX4_splice_73 : decode cX4_splice 73 = .ok (.iload_n 2, 1) := by decide +kernel
theorem dX4_splice_74 : decode cX4_splice 74 = .ok (.iload 5, 2) := by decide +kernel
theorem dX4_splice_76 : decode cX4_splice 76 = .ok (.invokevirtual 136, 3) := by decide +kernel
theorem dX4_splice_79 : decode cX4_splice 79 = .ok (.ifCond .eq 19, 3) := by decide +kernel
theorem dX4_splice_82 : decode cX4_splice 82 = .ok (.aload_n 0, 1) := by decide +kernel
theorem dX4_splice_83 : decode cX4_splice 83 = .ok (.getfield 18, 3) := by decide +kernel
theorem dX4_splice_86 : decode cX4_splice 86 = .ok (.iload_n 3, 1) := by decide +kernel
theorem dX4_splice_87 : decode cX4_splice 87 = .ok (.aaload, 1) := by decide +kernel
theorem dX4_splice_88 : decode cX4_splice 88 = .ok (.iload 4, 2) := by decide +kernel
theorem dX4_splice_90 : decode cX4_splice 90 = .ok (.iload 5, 2) := by decide +kernel
theorem dX4_splice_92 : decode cX4_splice 92 = .ok (.invokevirtual 136, 3) := by decide +kernel
theorem dX4_splice_95 : decode cX4_splice 95 = .ok (.ifCond .ne 5, 3) := by decide +kernel
theorem dX4_splice_98 : decode cX4_splice 98 = .ok (.iconst (-1), 1) := by decide +kernel
theorem dX4_splice_99 : decode cX4_splice 99 = .ok (.ireturn, 1) := by decide +kernel
theorem dX4_splice_100 : decode cX4_splice 100 = .ok (.aload_n 0, 1) := by decide +kernel
theorem dX4_splice_101 : decode cX4_splice 101 = .ok (.getfield 18, 3) := by decide +kernel
theorem dX4_splice_104 : decode cX4_splice 104 = .ok (.iload_n 1, 1) := by decide +kernel
theorem dX4_splice_105 : decode cX4_splice 105 = .ok (.aaload, 1) := by decide +kernel
theorem dX4_splice_106 : decode cX4_splice 106 = .ok (.iload_n 2, 1) := by decide +kernel
theorem dX4_splice_107 : decode cX4_splice 107 = .ok (.aload_n 0, 1) := by decide +kernel
theorem dX4_splice_108 : decode cX4_splice 108 = .ok (.getfield 18, 3) := by decide +kernel
theorem dX4_splice_111 : decode cX4_splice 111 = .ok (.iload_n 3, 1) := by decide +kernel
theorem dX4_splice_112 : decode cX4_splice 112 = .ok (.aaload, 1) := by decide +kernel
theorem dX4_splice_113 : decode cX4_splice 113 = .ok (.iload 4, 2) := by decide +kernel
theorem dX4_splice_115 : decode cX4_splice 115 = .ok (.iload 5, 2) := by decide +kernel
theorem dX4_splice_117 : decode cX4_splice 117 = .ok (.invokevirtual 140, 3) := by decide +kernel
theorem dX4_splice_120 : decode cX4_splice 120 = .ok (.iconst 1, 1) := by decide +kernel
theorem dX4_splice_121 : decode cX4_splice 121 = .ok (.ireturn, 1) := by decide +kernel
theorem dX4_lose_0 : decode cX4_lose 0 = .ok (.iload_n 1, 1) := by decide +kernel
theorem dX4_lose_1 : decode cX4_lose 1 = .ok (.invokestatic 114, 3) := by decide +kernel
theorem dX4_lose_4 : decode cX4_lose 4 = .ok (.ifCond .ne 5, 3) := by decide +kernel
theorem dX4_lose_7 : decode cX4_lose 7 = .ok (.iconst (-1), 1) := by decide +kernel
theorem dX4_lose_8 : decode cX4_lose 8 = .ok (.ireturn, 1) := by decide +kernel
theorem dX4_lose_9 : decode cX4_lose 9 = .ok (.aload_n 0, 1) := by decide +kernel
theorem dX4_lose_10 : decode cX4_lose 10 = .ok (.getfield 18, 3) := by decide +kernel
theorem dX4_lose_13 : decode cX4_lose 13 = .ok (.iload_n 1, 1) := by decide +kernel
theorem dX4_lose_14 : decode cX4_lose 14 = .ok (.aaload, 1) := by decide +kernel
theorem dX4_lose_15 : decode cX4_lose 15 = .ok (.getfield 121, 3) := by decide +kernel
theorem dX4_lose_18 : decode cX4_lose 18 = .ok (.ifCond .ne 6, 3) := by decide +kernel
theorem dX4_lose_21 : decode cX4_lose 21 = .ok (.bipush (-3), 2) := by decide +kernel
theorem dX4_lose_23 : decode cX4_lose 23 = .ok (.ireturn, 1) := by decide +kernel
theorem dX4_lose_24 : decode cX4_lose 24 = .ok (.aload_n 0, 1) := by decide +kernel
theorem dX4_lose_25 : decode cX4_lose 25 = .ok (.getfield 18, 3) := by decide +kernel
theorem dX4_lose_28 : decode cX4_lose 28 = .ok (.iload_n 1, 1) := by decide +kernel
theorem dX4_lose_29 : decode cX4_lose 29 = .ok (.aaload, 1) := by decide +kernel
theorem dX4_lose_30 : decode cX4_lose 30 = .ok (.iconst 0, 1) := by decide +kernel
theorem dX4_lose_31 : decode cX4_lose 31 = .ok (.putfield 121, 3) := by decide +kernel
theorem dX4_lose_34 : decode cX4_lose 34 = .ok (.iconst 1, 1) := by decide +kernel
theorem dX4_lose_35 : decode cX4_lose 35 = .ok (.ireturn, 1) := by decide +kernel
theorem dX4_told_0 : decode cX4_told 0 = .ok (.iload_n 1, 1) := by decide +kernel
theorem dX4_told_1 : decode cX4_told 1 = .ok (.invokestatic 114, 3) := by decide +kernel
theorem dX4_told_4 : decode cX4_told 4 = .ok (.ifCond .eq 28, 3) := by decide +kernel
theorem dX4_told_7 : decode cX4_told 7 = .ok (.aload_n 0, 1) := by decide +kernel
theorem dX4_told_8 : decode cX4_told 8 = .ok (.getfield 18, 3) := by decide +kernel
theorem dX4_told_11 : decode cX4_told 11 = .ok (.iload_n 1, 1) := by decide +kernel
theorem dX4_told_12 : decode cX4_told 12 = .ok (.aaload, 1) := by decide +kernel
theorem dX4_told_13 : decode cX4_told 13 = .ok (.getfield 121, 3) := by decide +kernel
theorem dX4_told_16 : decode cX4_told 16 = .ok (.ifCond .eq 16, 3) := by decide +kernel
theorem dX4_told_19 : decode cX4_told 19 = .ok (.aload_n 0, 1) := by decide +kernel
theorem dX4_told_20 : decode cX4_told 20 = .ok (.getfield 18, 3) := by decide +kernel
theorem dX4_told_23 : decode cX4_told 23 = .ok (.iload_n 1, 1) := by decide +kernel
theorem dX4_told_24 : decode cX4_told 24 = .ok (.aaload, 1) := by decide +kernel
theorem dX4_told_25 : decode cX4_told 25 = .ok (.iload_n 2, 1) := by decide +kernel
theorem dX4_told_26 : decode cX4_told 26 = .ok (.invokevirtual 124, 3) := by decide +kernel
theorem dX4_told_29 : decode cX4_told 29 = .ok (.ifCond .ne 7, 3) := by decide +kernel
theorem dX4_told_32 : decode cX4_told 32 = .ok (.ldc2_w 144, 3) := by decide +kernel
theorem dX4_told_35 : decode cX4_told 35 = .ok (.lreturn, 1) := by decide +kernel
theorem dX4_told_36 : decode cX4_told 36 = .ok (.aload_n 0, 1) := by decide +kernel
theorem dX4_told_37 : decode cX4_told 37 = .ok (.getfield 18, 3) := by decide +kernel
theorem dX4_told_40 : decode cX4_told 40 = .ok (.iload_n 1, 1) := by decide +kernel
theorem dX4_told_41 : decode cX4_told 41 = .ok (.aaload, 1) := by decide +kernel
theorem dX4_told_42 : decode cX4_told 42 = .ok (.getfield 146, 3) := by decide +kernel
theorem dX4_told_45 : decode cX4_told 45 = .ok (.iload_n 2, 1) := by decide +kernel
theorem dX4_told_46 : decode cX4_told 46 = .ok (.laload, 1) := by decide +kernel
theorem dX4_told_47 : decode cX4_told 47 = .ok (.lreturn, 1) := by decide +kernel
theorem dX4_pour_0 : decode cX4_pour 0 = .ok (.iload_n 1, 1) := by decide +kernel
theorem dX4_pour_1 : decode cX4_pour 1 = .ok (.invokestatic 114, 3) := by decide +kernel
theorem dX4_pour_4 : decode cX4_pour 4 = .ok (.ifCond .ne 5, 3) := by decide +kernel
theorem dX4_pour_7 : decode cX4_pour 7 = .ok (.iconst (-1), 1) := by decide +kernel
theorem dX4_pour_8 : decode cX4_pour 8 = .ok (.ireturn, 1) := by decide +kernel
theorem dX4_pour_9 : decode cX4_pour 9 = .ok (.aload_n 0, 1) := by decide +kernel
theorem dX4_pour_10 : decode cX4_pour 10 = .ok (.getfield 18, 3) := by decide +kernel
theorem dX4_pour_13 : decode cX4_pour 13 = .ok (.iload_n 1, 1) := by decide +kernel
theorem dX4_pour_14 : decode cX4_pour 14 = .ok (.aaload, 1) := by decide +kernel
theorem dX4_pour_15 : decode cX4_pour 15 = .ok (.getfield 121, 3) := by decide +kernel
theorem dX4_pour_18 : decode cX4_pour 18 = .ok (.ifCond .ne 6, 3) := by decide +kernel
theorem dX4_pour_21 : decode cX4_pour 21 = .ok (.bipush (-3), 2) := by decide +kernel
theorem dX4_pour_23 : decode cX4_pour 23 = .ok (.ireturn, 1) := by decide +kernel
theorem dX4_pour_24 : decode cX4_pour 24 = .ok (.aload_n 0, 1) := by decide +kernel
theorem dX4_pour_25 : decode cX4_pour 25 = .ok (.getfield 18, 3) := by decide +kernel
theorem dX4_pour_28 : decode cX4_pour 28 = .ok (.iload_n 1, 1) := by decide +kernel
theorem dX4_pour_29 : decode cX4_pour 29 = .ok (.aaload, 1) := by decide +kernel
theorem dX4_pour_30 : decode cX4_pour 30 = .ok (.iload_n 2, 1) := by decide +kernel
theorem dX4_pour_31 : decode cX4_pour 31 = .ok (.iload_n 3, 1) := by decide +kernel
theorem dX4_pour_32 : decode cX4_pour 32 = .ok (.invokevirtual 136, 3) := by decide +kernel
theorem dX4_pour_35 : decode cX4_pour 35 = .ok (.ifCond .eq 34, 3) := by decide +kernel
theorem dX4_pour_38 : decode cX4_pour 38 = .ok (.iload 4, 2) := by decide +kernel
theorem dX4_pour_40 : decode cX4_pour 40 = .ok (.ifCond .lt 29, 3) := by decide +kernel
theorem dX4_pour_43 : decode cX4_pour 43 = .ok (.iload 4, 2) := by decide +kernel
theorem dX4_pour_45 : decode cX4_pour 45 = .ok (.aload_n 0, 1) := by decide +kernel
theorem dX4_pour_46 : decode cX4_pour 46 = .ok (.getfield 10, 3) := by decide +kernel
theorem dX4_pour_49 : decode cX4_pour 49 = .ok (.getfield 62, 3) := by decide +kernel
theorem dX4_pour_52 : decode cX4_pour 52 = .ok (.if_icmp .gt 17, 3) := by decide +kernel
theorem dX4_pour_55 : decode cX4_pour 55 = .ok (.iload_n 3, 1) := by decide +kernel
theorem dX4_pour_56 : decode cX4_pour 56 = .ok (.aload_n 0, 1) := by decide +kernel
theorem dX4_pour_57 : decode cX4_pour 57 = .ok (.getfield 10, 3) := by decide +kernel
theorem dX4_pour_60 : decode cX4_pour 60 = .ok (.getfield 62, 3) := by decide +kernel
theorem dX4_pour_63 : decode cX4_pour 63 = .ok (.iload 4, 2) := by decide +kernel
theorem dX4_pour_65 : decode cX4_pour 65 = .ok (.isub, 1) := by decide +kernel
theorem dX4_pour_66 : decode cX4_pour 66 = .ok (.if_icmp .le 5, 3) := by decide +kernel
theorem dX4_pour_69 : decode cX4_pour 69 = .ok (.iconst (-1), 1) := by decide +kernel
theorem dX4_pour_70 : decode cX4_pour 70 = .ok (.ireturn, 1) := by decide +kernel
theorem dX4_pour_71 : decode cX4_pour 71 = .ok (.aload_n 0, 1) := by decide +kernel
theorem dX4_pour_72 : decode cX4_pour 72 = .ok (.getfield 27, 3) := by decide +kernel
theorem dX4_pour_75 : decode cX4_pour 75 = .ok (.iconst 0, 1) := by decide +kernel
theorem dX4_pour_76 : decode cX4_pour 76 = .ok (.putfield 50, 3) := by decide +kernel
theorem dX4_pour_79 : decode cX4_pour 79 = .ok (.iconst 0, 1) := by decide +kernel
theorem dX4_pour_80 : decode cX4_pour 80 = .ok (.istore 5, 2) := by decide +kernel
theorem dX4_pour_82 : decode cX4_pour 82 = .ok (.iload 5, 2) := by decide +kernel
theorem dX4_pour_84 : decode cX4_pour 84 = .ok (.iload_n 3, 1) := by decide +kernel
theorem dX4_pour_85 : decode cX4_pour 85 = .ok (.if_icmp .ge 28, 3) := by decide +kernel
theorem dX4_pour_88 : decode cX4_pour 88 = .ok (.aload_n 0, 1) := by decide +kernel
theorem dX4_pour_89 : decode cX4_pour 89 = .ok (.aload_n 0, 1) := by decide +kernel
theorem dX4_pour_90 : decode cX4_pour 90 = .ok (.getfield 18, 3) := by decide +kernel
theorem dX4_pour_93 : decode cX4_pour 93 = .ok (.iload_n 1, 1) := by decide +kernel
theorem dX4_pour_94 : decode cX4_pour 94 = .ok (.aaload, 1) := by decide +kernel
theorem dX4_pour_95 : decode cX4_pour 95 = .ok (.iload_n 2, 1) := by decide +kernel
theorem dX4_pour_96 : decode cX4_pour 96 = .ok (.iload 5, 2) := by decide +kernel
theorem dX4_pour_98 : decode cX4_pour 98 = .ok (.iadd, 1) := by decide +kernel
theorem dX4_pour_99 : decode cX4_pour 99 = .ok (.iload 4, 2) := by decide +kernel
theorem dX4_pour_101 : decode cX4_pour 101 = .ok (.iload 5, 2) := by decide +kernel
theorem dX4_pour_103 : decode cX4_pour 103 = .ok (.iadd, 1) := by decide +kernel
theorem dX4_pour_104 : decode cX4_pour 104 = .ok (.invokevirtual 150, 3) := by decide +kernel
theorem dX4_pour_107 : decode cX4_pour 107 = .ok (.iinc 5 1, 3) := by decide +kernel
theorem dX4_pour_110 : decode cX4_pour 110 = .ok (.goto (-28), 3) := by decide +kernel
theorem dX4_pour_113 : decode cX4_pour 113 = .ok (.iconst 1, 1) := by decide +kernel
theorem dX4_pour_114 : decode cX4_pour 114 = .ok (.ireturn, 1) := by decide +kernel
theorem dX4_begin_0 : decode cX4_begin 0 = .ok (.aload_n 0, 1) := by decide +kernel
theorem dX4_begin_1 : decode cX4_begin 1 = .ok (.getfield 27, 3) := by decide +kernel
theorem dX4_begin_4 : decode cX4_begin 4 = .ok (.invokevirtual 154, 3) := by decide +kernel
theorem dX4_begin_7 : decode cX4_begin 7 = .ok (.aload_n 0, 1) := by decide +kernel
theorem dX4_begin_8 : decode cX4_begin 8 = .ok (.getfield 27, 3) := by decide +kernel
theorem dX4_begin_11 : decode cX4_begin 11 = .ok (.invokevirtual 157, 3) := by decide +kernel
theorem dX4_begin_14 : decode cX4_begin 14 = .ok (.ireturn, 1) := by decide +kernel
theorem dX4_step_0 : decode cX4_step 0 = .ok (.aload_n 0, 1) := by decide +kernel
theorem dX4_step_1 : decode cX4_step 1 = .ok (.getfield 27, 3) := by decide +kernel
theorem dX4_step_4 : decode cX4_step 4 = .ok (.getfield 50, 3) := by decide +kernel
theorem dX4_step_7 : decode cX4_step 7 = .ok (.ifCond .ne 6, 3) := by decide +kernel
theorem dX4_step_10 : decode cX4_step 10 = .ok (.bipush (-6), 2) := by decide +kernel
theorem dX4_step_12 : decode cX4_step 12 = .ok (.ireturn, 1) := by decide +kernel
theorem dX4_step_13 : decode cX4_step 13 = .ok (.aload_n 0, 1) := by decide +kernel
theorem dX4_step_14 : decode cX4_step 14 = .ok (.getfield 27, 3) := by decide +kernel
theorem dX4_step_17 : decode cX4_step 17 = .ok (.invokevirtual 161, 3) := by decide +kernel
theorem dX4_step_20 : decode cX4_step 20 = .ok (.istore_n 1, 1) := by decide +kernel
theorem dX4_step_21 : decode cX4_step 21 = .ok (.iload_n 1, 1) := by decide +kernel
theorem dX4_step_22 : decode cX4_step 22 = .ok (.ifCond .ge 8, 3) := by decide +kernel
theorem dX4_step_25 : decode cX4_step 25 = .ok (.bipush (-7), 2) := by decide +kernel
theorem dX4_step_27 : decode cX4_step 27 = .ok (.goto 4, 3) := by decide +kernel
theorem dX4_step_30 : decode cX4_step 30 = .ok (.iload_n 1, 1) := by decide +kernel
theorem dX4_step_31 : decode cX4_step 31 = .ok (.ireturn, 1) := by decide +kernel
theorem dX4_run_0 : decode cX4_run 0 = .ok (.aload_n 0, 1) := by decide +kernel
theorem dX4_run_1 : decode cX4_run 1 = .ok (.getfield 27, 3) := by decide +kernel
theorem dX4_run_4 : decode cX4_run 4 = .ok (.getfield 50, 3) := by decide +kernel
theorem dX4_run_7 : decode cX4_run 7 = .ok (.ifCond .ne 6, 3) := by decide +kernel
theorem dX4_run_10 : decode cX4_run 10 = .ok (.bipush (-6), 2) := by decide +kernel
theorem dX4_run_12 : decode cX4_run 12 = .ok (.ireturn, 1) := by decide +kernel
theorem dX4_run_13 : decode cX4_run 13 = .ok (.iload_n 1, 1) := by decide +kernel
theorem dX4_run_14 : decode cX4_run 14 = .ok (.ifCond .lt 10, 3) := by decide +kernel
theorem dX4_run_17 : decode cX4_run 17 = .ok (.iload_n 1, 1) := by decide +kernel
theorem dX4_run_18 : decode cX4_run 18 = .ok (.sipush 200, 3) := by decide +kernel
theorem dX4_run_21 : decode cX4_run 21 = .ok (.if_icmp .le 5, 3) := by decide +kernel
theorem dX4_run_24 : decode cX4_run 24 = .ok (.iconst (-1), 1) := by decide +kernel
theorem dX4_run_25 : decode cX4_run 25 = .ok (.ireturn, 1) := by decide +kernel
theorem dX4_run_26 : decode cX4_run 26 = .ok (.aload_n 0, 1) := by decide +kernel
theorem dX4_run_27 : decode cX4_run 27 = .ok (.getfield 27, 3) := by decide +kernel
theorem dX4_run_30 : decode cX4_run 30 = .ok (.getfield 164, 3) := by decide +kernel
theorem dX4_run_33 : decode cX4_run 33 = .ok (.istore_n 2, 1) := by decide +kernel
theorem dX4_run_34 : decode cX4_run 34 = .ok (.iconst 0, 1) := by decide +kernel
theorem dX4_run_35 : decode cX4_run 35 = .ok (.istore_n 3, 1) := by decide +kernel
theorem dX4_run_36 : decode cX4_run 36 = .ok (.iload_n 3, 1) := by decide +kernel
theorem dX4_run_37 : decode cX4_run 37 = .ok (.iload_n 1, 1) := by decide +kernel
theorem dX4_run_38 : decode cX4_run 38 = .ok (.if_icmp .ge 22, 3) := by decide +kernel
theorem dX4_run_41 : decode cX4_run 41 = .ok (.aload_n 0, 1) := by decide +kernel
theorem dX4_run_42 : decode cX4_run 42 = .ok (.getfield 27, 3) := by decide +kernel
theorem dX4_run_45 : decode cX4_run 45 = .ok (.invokevirtual 161, 3) := by decide +kernel
theorem dX4_run_48 : decode cX4_run 48 = .ok (.ifCond .ge 6, 3) := by decide +kernel
theorem dX4_run_51 : decode cX4_run 51 = .ok (.goto 9, 3) := by decide +kernel
theorem dX4_run_54 : decode cX4_run 54 = .ok (.iinc 3 1, 3) := by decide +kernel
theorem dX4_run_57 : decode cX4_run 57 = .ok (.goto (-21), 3) := by decide +kernel
theorem dX4_run_60 : decode cX4_run 60 = .ok (.aload_n 0, 1) := by decide +kernel
theorem dX4_run_61 : decode cX4_run 61 = .ok (.getfield 27, 3) := by decide +kernel
theorem dX4_run_64 : decode cX4_run 64 = .ok (.getfield 164, 3) := by decide +kernel
theorem dX4_run_67 : decode cX4_run 67 = .ok (.iload_n 2, 1) := by decide +kernel
theorem dX4_run_68 : decode cX4_run 68 = .ok (.isub, 1) := by decide +kernel
theorem dX4_run_69 : decode cX4_run 69 = .ok (.ireturn, 1) := by decide +kernel
theorem dX4_undo_0 : decode cX4_undo 0 = .ok (.aload_n 0, 1) := by decide +kernel
theorem dX4_undo_1 : decode cX4_undo 1 = .ok (.getfield 27, 3) := by decide +kernel
theorem dX4_undo_4 : decode cX4_undo 4 = .ok (.getfield 50, 3) := by decide +kernel
theorem dX4_undo_7 : decode cX4_undo 7 = .ok (.ifCond .ne 6, 3) := by decide +kernel
theorem dX4_undo_10 : decode cX4_undo 10 = .ok (.bipush (-6), 2) := by decide +kernel
theorem dX4_undo_12 : decode cX4_undo 12 = .ok (.ireturn, 1) := by decide +kernel
theorem dX4_undo_13 : decode cX4_undo 13 = .ok (.iload_n 1, 1) := by decide +kernel
theorem dX4_undo_14 : decode cX4_undo 14 = .ok (.ifCond .lt 14, 3) := by decide +kernel
theorem dX4_undo_17 : decode cX4_undo 17 = .ok (.iload_n 1, 1) := by decide +kernel
theorem dX4_undo_18 : decode cX4_undo 18 = .ok (.aload_n 0, 1) := by decide +kernel
theorem dX4_undo_19 : decode cX4_undo 19 = .ok (.getfield 27, 3) := by decide +kernel
theorem dX4_undo_22 : decode cX4_undo 22 = .ok (.getfield 164, 3) := by decide +kernel
theorem dX4_undo_25 : decode cX4_undo 25 = .ok (.if_icmp .le 5, 3) := by decide +kernel
theorem dX4_undo_28 : decode cX4_undo 28 = .ok (.iconst (-1), 1) := by decide +kernel
theorem dX4_undo_29 : decode cX4_undo 29 = .ok (.ireturn, 1) := by decide +kernel
theorem dX4_undo_30 : decode cX4_undo 30 = .ok (.aload_n 0, 1) := by decide +kernel
theorem dX4_undo_31 : decode cX4_undo 31 = .ok (.getfield 27, 3) := by decide +kernel
theorem dX4_undo_34 : decode cX4_undo 34 = .ok (.aload_n 0, 1) := by decide +kernel
theorem dX4_undo_35 : decode cX4_undo 35 = .ok (.getfield 27, 3) := by decide +kernel
theorem dX4_undo_38 : decode cX4_undo 38 = .ok (.getfield 164, 3) := by decide +kernel
theorem dX4_undo_41 : decode cX4_undo 41 = .ok (.iload_n 1, 1) := by decide +kernel
theorem dX4_undo_42 : decode cX4_undo 42 = .ok (.isub, 1) := by decide +kernel
theorem dX4_undo_43 : decode cX4_undo 43 = .ok (.invokevirtual 167, 3) := by decide +kernel
theorem dX4_undo_46 : decode cX4_undo 46 = .ok (.aload_n 0, 1) := by decide +kernel
theorem dX4_undo_47 : decode cX4_undo 47 = .ok (.getfield 27, 3) := by decide +kernel
theorem dX4_undo_50 : decode cX4_undo 50 = .ok (.getfield 164, 3) := by decide +kernel
theorem dX4_undo_53 : decode cX4_undo 53 = .ok (.ireturn, 1) := by decide +kernel
theorem dX4_many_0 : decode cX4_many 0 = .ok (.iload_n 1, 1) := by decide +kernel
theorem dX4_many_1 : decode cX4_many 1 = .ok (.ifCond .lt 9, 3) := by decide +kernel
theorem dX4_many_4 : decode cX4_many 4 = .ok (.iload_n 1, 1) := by decide +kernel
theorem dX4_many_5 : decode cX4_many 5 = .ok (.bipush 8, 2) := by decide +kernel
theorem dX4_many_7 : decode cX4_many 7 = .ok (.if_icmp .le 5, 3) := by decide +kernel
theorem dX4_many_10 : decode cX4_many 10 = .ok (.iconst (-1), 1) := by decide +kernel
theorem dX4_many_11 : decode cX4_many 11 = .ok (.ireturn, 1) := by decide +kernel
theorem dX4_many_12 : decode cX4_many 12 = .ok (.iload_n 1, 1) := by decide +kernel
theorem dX4_many_13 : decode cX4_many 13 = .ok (.ifCond .ne 11, 3) := by decide +kernel
theorem dX4_many_16 : decode cX4_many 16 = .ok (.aload_n 0, 1) := by decide +kernel
theorem dX4_many_17 : decode cX4_many 17 = .ok (.getfield 10, 3) := by decide +kernel
theorem dX4_many_20 : decode cX4_many 20 = .ok (.getfield 46, 3) := by decide +kernel
theorem dX4_many_23 : decode cX4_many 23 = .ok (.ireturn, 1) := by decide +kernel
theorem dX4_many_24 : decode cX4_many 24 = .ok (.iload_n 1, 1) := by decide +kernel
theorem dX4_many_25 : decode cX4_many 25 = .ok (.iconst 1, 1) := by decide +kernel
theorem dX4_many_26 : decode cX4_many 26 = .ok (.if_icmp .ne 11, 3) := by decide +kernel
theorem dX4_many_29 : decode cX4_many 29 = .ok (.aload_n 0, 1) := by decide +kernel
theorem dX4_many_30 : decode cX4_many 30 = .ok (.getfield 10, 3) := by decide +kernel
theorem dX4_many_33 : decode cX4_many 33 = .ok (.getfield 62, 3) := by decide +kernel
theorem dX4_many_36 : decode cX4_many 36 = .ok (.ireturn, 1) := by decide +kernel
theorem dX4_many_37 : decode cX4_many 37 = .ok (.iload_n 1, 1) := by decide +kernel
theorem dX4_many_38 : decode cX4_many 38 = .ok (.bipush 8, 2) := by decide +kernel
theorem dX4_many_40 : decode cX4_many 40 = .ok (.if_icmp .ne 8, 3) := by decide +kernel
theorem dX4_many_43 : decode cX4_many 43 = .ok (.aload_n 0, 1) := by decide +kernel
theorem dX4_many_44 : decode cX4_many 44 = .ok (.getfield 171, 3) := by decide +kernel
theorem dX4_many_47 : decode cX4_many 47 = .ok (.ireturn, 1) := by decide +kernel
theorem dX4_many_48 : decode cX4_many 48 = .ok (.aload_n 0, 1) := by decide +kernel
theorem dX4_many_49 : decode cX4_many 49 = .ok (.getfield 27, 3) := by decide +kernel
theorem dX4_many_52 : decode cX4_many 52 = .ok (.getfield 50, 3) := by decide +kernel
theorem dX4_many_55 : decode cX4_many 55 = .ok (.ifCond .eq 11, 3) := by decide +kernel
theorem dX4_many_58 : decode cX4_many 58 = .ok (.aload_n 0, 1) := by decide +kernel
theorem dX4_many_59 : decode cX4_many 59 = .ok (.iload_n 1, 1) := by decide +kernel
theorem dX4_many_60 : decode cX4_many 60 = .ok (.invokevirtual 174, 3) := by decide +kernel
theorem dX4_many_63 : decode cX4_many 63 = .ok (.goto 5, 3) := by decide +kernel
theorem dX4_many_66 : decode cX4_many 66 = .ok (.bipush (-6), 2) := by decide +kernel
theorem dX4_many_68 : decode cX4_many 68 = .ok (.ireturn, 1) := by decide +kernel
theorem dX4_opened_0 : decode cX4_opened 0 = .ok (.aload_n 0, 1) := by decide +kernel
theorem dX4_opened_1 : decode cX4_opened 1 = .ok (.getfield 27, 3) := by decide +kernel
theorem dX4_opened_4 : decode cX4_opened 4 = .ok (.getfield 50, 3) := by decide +kernel
theorem dX4_opened_7 : decode cX4_opened 7 = .ok (.ifCond .eq 31, 3) := by decide +kernel
theorem dX4_opened_10 : decode cX4_opened 10 = .ok (.iload_n 1, 1) := by decide +kernel
theorem dX4_opened_11 : decode cX4_opened 11 = .ok (.iconst 1, 1) := by decide +kernel
theorem dX4_opened_12 : decode cX4_opened 12 = .ok (.if_icmp .lt 26, 3) := by decide +kernel
theorem dX4_opened_15 : decode cX4_opened 15 = .ok (.iload_n 1, 1) := by decide +kernel
theorem dX4_opened_16 : decode cX4_opened 16 = .ok (.aload_n 0, 1) := by decide +kernel
theorem dX4_opened_17 : decode cX4_opened 17 = .ok (.getfield 27, 3) := by decide +kernel
theorem dX4_opened_20 : decode cX4_opened 20 = .ok (.getfield 164, 3) := by decide +kernel
theorem dX4_opened_23 : decode cX4_opened 23 = .ok (.if_icmp .gt 15, 3) := by decide +kernel
theorem dX4_opened_26 : decode cX4_opened 26 = .ok (.aload_n 0, 1) := by decide +kernel
theorem dX4_opened_27 : decode cX4_opened 27 = .ok (.getfield 27, 3) := by decide +kernel
theorem dX4_opened_30 : decode cX4_opened 30 = .ok (.getfield 177, 3) := by decide +kernel
theorem dX4_opened_33 : decode cX4_opened 33 = .ok (.iload_n 1, 1) := by decide +kernel
theorem dX4_opened_34 : decode cX4_opened 34 = .ok (.iaload, 1) := by decide +kernel
theorem dX4_opened_35 : decode cX4_opened 35 = .ok (.goto 4, 3) := by decide +kernel
theorem dX4_opened_38 : decode cX4_opened 38 = .ok (.iconst (-1), 1) := by decide +kernel
theorem dX4_opened_39 : decode cX4_opened 39 = .ok (.ireturn, 1) := by decide +kernel
theorem dX4_now_0 : decode cX4_now 0 = .ok (.aload_n 0, 1) := by decide +kernel
theorem dX4_now_1 : decode cX4_now 1 = .ok (.getfield 27, 3) := by decide +kernel
theorem dX4_now_4 : decode cX4_now 4 = .ok (.getfield 50, 3) := by decide +kernel
theorem dX4_now_7 : decode cX4_now 7 = .ok (.ifCond .ne 6, 3) := by decide +kernel
theorem dX4_now_10 : decode cX4_now 10 = .ok (.bipush (-6), 2) := by decide +kernel
theorem dX4_now_12 : decode cX4_now 12 = .ok (.ireturn, 1) := by decide +kernel
theorem dX4_now_13 : decode cX4_now 13 = .ok (.aload_n 0, 1) := by decide +kernel
theorem dX4_now_14 : decode cX4_now 14 = .ok (.getfield 10, 3) := by decide +kernel
theorem dX4_now_17 : decode cX4_now 17 = .ok (.iload_n 1, 1) := by decide +kernel
theorem dX4_now_18 : decode cX4_now 18 = .ok (.invokevirtual 58, 3) := by decide +kernel
theorem dX4_now_21 : decode cX4_now 21 = .ok (.ifCond .ne 6, 3) := by decide +kernel
theorem dX4_now_24 : decode cX4_now 24 = .ok (.bipush (-2), 2) := by decide +kernel
theorem dX4_now_26 : decode cX4_now 26 = .ok (.ireturn, 1) := by decide +kernel
theorem dX4_now_27 : decode cX4_now 27 = .ok (.iload_n 2, 1) := by decide +kernel
theorem dX4_now_28 : decode cX4_now 28 = .ok (.tableswitch 72 0 3 #[32, 42, 52, 62], 32) := by decide +kernel
theorem dX4_now_60 : decode cX4_now 60 = .ok (.aload_n 0, 1) := by decide +kernel
theorem dX4_now_61 : decode cX4_now 61 = .ok (.getfield 27, 3) := by decide +kernel
theorem dX4_now_64 : decode cX4_now 64 = .ok (.getfield 180, 3) := by decide +kernel
theorem dX4_now_67 : decode cX4_now 67 = .ok (.iload_n 1, 1) := by decide +kernel
theorem dX4_now_68 : decode cX4_now 68 = .ok (.iaload, 1) := by decide +kernel
theorem dX4_now_69 : decode cX4_now 69 = .ok (.ireturn, 1) := by decide +kernel
theorem dX4_now_70 : decode cX4_now 70 = .ok (.aload_n 0, 1) := by decide +kernel
theorem dX4_now_71 : decode cX4_now 71 = .ok (.getfield 27, 3) := by decide +kernel
theorem dX4_now_74 : decode cX4_now 74 = .ok (.getfield 183, 3) := by decide +kernel
theorem dX4_now_77 : decode cX4_now 77 = .ok (.iload_n 1, 1) := by decide +kernel
theorem dX4_now_78 : decode cX4_now 78 = .ok (.iaload, 1) := by decide +kernel
theorem dX4_now_79 : decode cX4_now 79 = .ok (.ireturn, 1) := by decide +kernel
theorem dX4_now_80 : decode cX4_now 80 = .ok (.aload_n 0, 1) := by decide +kernel
theorem dX4_now_81 : decode cX4_now 81 = .ok (.getfield 27, 3) := by decide +kernel
theorem dX4_now_84 : decode cX4_now 84 = .ok (.getfield 186, 3) := by decide +kernel
theorem dX4_now_87 : decode cX4_now 87 = .ok (.iload_n 1, 1) := by decide +kernel
theorem dX4_now_88 : decode cX4_now 88 = .ok (.iaload, 1) := by decide +kernel
theorem dX4_now_89 : decode cX4_now 89 = .ok (.ireturn, 1) := by decide +kernel
theorem dX4_now_90 : decode cX4_now 90 = .ok (.aload_n 0, 1) := by decide +kernel
theorem dX4_now_91 : decode cX4_now 91 = .ok (.getfield 27, 3) := by decide +kernel
theorem dX4_now_94 : decode cX4_now 94 = .ok (.getfield 189, 3) := by decide +kernel
theorem dX4_now_97 : decode cX4_now 97 = .ok (.iload_n 1, 1) := by decide +kernel
theorem dX4_now_98 : decode cX4_now 98 = .ok (.iaload, 1) := by decide +kernel
theorem dX4_now_99 : decode cX4_now 99 = .ok (.ireturn, 1) := by decide +kernel
theorem dX4_now_100 : decode cX4_now 100 = .ok (.bipush (-2), 2) := by decide +kernel
theorem dX4_now_102 : decode cX4_now 102 = .ok (.ireturn, 1) := by decide +kernel
theorem dX4_front_0 : decode cX4_front 0 = .ok (.aload_n 0, 1) := by decide +kernel
theorem dX4_front_1 : decode cX4_front 1 = .ok (.getfield 27, 3) := by decide +kernel
theorem dX4_front_4 : decode cX4_front 4 = .ok (.getfield 50, 3) := by decide +kernel
theorem dX4_front_7 : decode cX4_front 7 = .ok (.ifCond .eq 18, 3) := by decide +kernel
theorem dX4_front_10 : decode cX4_front 10 = .ok (.iload_n 1, 1) := by decide +kernel
theorem dX4_front_11 : decode cX4_front 11 = .ok (.ifCond .lt 14, 3) := by decide +kernel
theorem dX4_front_14 : decode cX4_front 14 = .ok (.aload_n 0, 1) := by decide +kernel
theorem dX4_front_15 : decode cX4_front 15 = .ok (.getfield 27, 3) := by decide +kernel
theorem dX4_front_18 : decode cX4_front 18 = .ok (.iload_n 1, 1) := by decide +kernel
theorem dX4_front_19 : decode cX4_front 19 = .ok (.invokevirtual 192, 3) := by decide +kernel
theorem dX4_front_22 : decode cX4_front 22 = .ok (.goto 4, 3) := by decide +kernel
theorem dX4_front_25 : decode cX4_front 25 = .ok (.iconst (-1), 1) := by decide +kernel
theorem dX4_front_26 : decode cX4_front 26 = .ok (.ireturn, 1) := by decide +kernel
theorem dX4_lake_0 : decode cX4_lake 0 = .ok (.aload_n 0, 1) := by decide +kernel
theorem dX4_lake_1 : decode cX4_lake 1 = .ok (.getfield 27, 3) := by decide +kernel
theorem dX4_lake_4 : decode cX4_lake 4 = .ok (.getfield 50, 3) := by decide +kernel
theorem dX4_lake_7 : decode cX4_lake 7 = .ok (.ifCond .ne 6, 3) := by decide +kernel
theorem dX4_lake_10 : decode cX4_lake 10 = .ok (.bipush (-6), 2) := by decide +kernel
theorem dX4_lake_12 : decode cX4_lake 12 = .ok (.ireturn, 1) := by decide +kernel
theorem dX4_lake_13 : decode cX4_lake 13 = .ok (.iload_n 1, 1) := by decide +kernel
theorem dX4_lake_14 : decode cX4_lake 14 = .ok (.ifCond .lt 14, 3) := by decide +kernel
theorem dX4_lake_17 : decode cX4_lake 17 = .ok (.iload_n 1, 1) := by decide +kernel
theorem dX4_lake_18 : decode cX4_lake 18 = .ok (.aload_n 0, 1) := by decide +kernel
theorem dX4_lake_19 : decode cX4_lake 19 = .ok (.getfield 27, 3) := by decide +kernel
theorem dX4_lake_22 : decode cX4_lake 22 = .ok (.getfield 195, 3) := by decide +kernel
theorem dX4_lake_25 : decode cX4_lake 25 = .ok (.if_icmp .lt 6, 3) := by decide +kernel
theorem dX4_lake_28 : decode cX4_lake 28 = .ok (.bipush (-2), 2) := by decide +kernel
theorem dX4_lake_30 : decode cX4_lake 30 = .ok (.ireturn, 1) := by decide +kernel
theorem dX4_lake_31 : decode cX4_lake 31 = .ok (.iload_n 2, 1) := by decide +kernel
theorem dX4_lake_32 : decode cX4_lake 32 = .ok (.tableswitch 72 0 3 #[32, 42, 52, 62], 32) := by decide +kernel
theorem dX4_lake_64 : decode cX4_lake 64 = .ok (.aload_n 0, 1) := by decide +kernel
theorem dX4_lake_65 : decode cX4_lake 65 = .ok (.getfield 27, 3) := by decide +kernel
theorem dX4_lake_68 : decode cX4_lake 68 = .ok (.getfield 198, 3) := by decide +kernel
theorem dX4_lake_71 : decode cX4_lake 71 = .ok (.iload_n 1, 1) := by decide +kernel
theorem dX4_lake_72 : decode cX4_lake 72 = .ok (.iaload, 1) := by decide +kernel
theorem dX4_lake_73 : decode cX4_lake 73 = .ok (.ireturn, 1) := by decide +kernel
theorem dX4_lake_74 : decode cX4_lake 74 = .ok (.aload_n 0, 1) := by decide +kernel
theorem dX4_lake_75 : decode cX4_lake 75 = .ok (.getfield 27, 3) := by decide +kernel
theorem dX4_lake_78 : decode cX4_lake 78 = .ok (.getfield 201, 3) := by decide +kernel
theorem dX4_lake_81 : decode cX4_lake 81 = .ok (.iload_n 1, 1) := by decide +kernel
theorem dX4_lake_82 : decode cX4_lake 82 = .ok (.iaload, 1) := by decide +kernel
theorem dX4_lake_83 : decode cX4_lake 83 = .ok (.ireturn, 1) := by decide +kernel
theorem dX4_lake_84 : decode cX4_lake 84 = .ok (.aload_n 0, 1) := by decide +kernel
theorem dX4_lake_85 : decode cX4_lake 85 = .ok (.getfield 27, 3) := by decide +kernel
theorem dX4_lake_88 : decode cX4_lake 88 = .ok (.getfield 204, 3) := by decide +kernel
theorem dX4_lake_91 : decode cX4_lake 91 = .ok (.iload_n 1, 1) := by decide +kernel
theorem dX4_lake_92 : decode cX4_lake 92 = .ok (.iaload, 1) := by decide +kernel
theorem dX4_lake_93 : decode cX4_lake 93 = .ok (.ireturn, 1) := by decide +kernel
theorem dX4_lake_94 : decode cX4_lake 94 = .ok (.aload_n 0, 1) := by decide +kernel
theorem dX4_lake_95 : decode cX4_lake 95 = .ok (.getfield 27, 3) := by decide +kernel
theorem dX4_lake_98 : decode cX4_lake 98 = .ok (.getfield 207, 3) := by decide +kernel
theorem dX4_lake_101 : decode cX4_lake 101 = .ok (.iload_n 1, 1) := by decide +kernel
theorem dX4_lake_102 : decode cX4_lake 102 = .ok (.iaload, 1) := by decide +kernel
theorem dX4_lake_103 : decode cX4_lake 103 = .ok (.ireturn, 1) := by decide +kernel
theorem dX4_lake_104 : decode cX4_lake 104 = .ok (.bipush (-2), 2) := by decide +kernel
theorem dX4_lake_106 : decode cX4_lake 106 = .ok (.ireturn, 1) := by decide +kernel
theorem dX4_through_0 : decode cX4_through 0 = .ok (.aload_n 0, 1) := by decide +kernel
theorem dX4_through_1 : decode cX4_through 1 = .ok (.getfield 27, 3) := by decide +kernel
theorem dX4_through_4 : decode cX4_through 4 = .ok (.getfield 50, 3) := by decide +kernel
theorem dX4_through_7 : decode cX4_through 7 = .ok (.ifCond .eq 13, 3) := by decide +kernel
theorem dX4_through_10 : decode cX4_through 10 = .ok (.aload_n 0, 1) := by decide +kernel
theorem dX4_through_11 : decode cX4_through 11 = .ok (.getfield 27, 3) := by decide +kernel
theorem dX4_through_14 : decode cX4_through 14 = .ok (.invokevirtual 210, 3) := by decide +kernel
theorem dX4_through_17 : decode cX4_through 17 = .ok (.goto 5, 3) := by decide +kernel
theorem dX4_through_20 : decode cX4_through 20 = .ok (.bipush (-6), 2) := by decide +kernel
theorem dX4_through_22 : decode cX4_through 22 = .ok (.ireturn, 1) := by decide +kernel
theorem dX4_worst_0 : decode cX4_worst 0 = .ok (.aload_n 0, 1) := by decide +kernel
theorem dX4_worst_1 : decode cX4_worst 1 = .ok (.getfield 10, 3) := by decide +kernel
theorem dX4_worst_4 : decode cX4_worst 4 = .ok (.iload_n 1, 1) := by decide +kernel
theorem dX4_worst_5 : decode cX4_worst 5 = .ok (.invokevirtual 58, 3) := by decide +kernel
theorem dX4_worst_8 : decode cX4_worst 8 = .ok (.ifCond .ne 6, 3) := by decide +kernel
theorem dX4_worst_11 : decode cX4_worst 11 = .ok (.bipush (-2), 2) := by decide +kernel
theorem dX4_worst_13 : decode cX4_worst 13 = .ok (.ireturn, 1) := by decide +kernel
theorem dX4_worst_14 : decode cX4_worst 14 = .ok (.aload_n 0, 1) := by decide +kernel
theorem dX4_worst_15 : decode cX4_worst 15 = .ok (.getfield 37, 3) := by decide +kernel
theorem dX4_worst_18 : decode cX4_worst 18 = .ok (.invokevirtual 213, 3) := by decide +kernel
theorem dX4_worst_21 : decode cX4_worst 21 = .ok (.aload_n 0, 1) := by decide +kernel
theorem dX4_worst_22 : decode cX4_worst 22 = .ok (.getfield 37, 3) := by decide +kernel
theorem dX4_worst_25 : decode cX4_worst 25 = .ok (.getfield 216, 3) := by decide +kernel
theorem dX4_worst_28 : decode cX4_worst 28 = .ok (.iload_n 1, 1) := by decide +kernel
theorem dX4_worst_29 : decode cX4_worst 29 = .ok (.iaload, 1) := by decide +kernel
theorem dX4_worst_30 : decode cX4_worst 30 = .ok (.ifCond .ge 8, 3) := by decide +kernel
theorem dX4_worst_33 : decode cX4_worst 33 = .ok (.bipush (-8), 2) := by decide +kernel
theorem dX4_worst_35 : decode cX4_worst 35 = .ok (.goto 12, 3) := by decide +kernel
theorem dX4_worst_38 : decode cX4_worst 38 = .ok (.aload_n 0, 1) := by decide +kernel
theorem dX4_worst_39 : decode cX4_worst 39 = .ok (.getfield 37, 3) := by decide +kernel
theorem dX4_worst_42 : decode cX4_worst 42 = .ok (.getfield 219, 3) := by decide +kernel
theorem dX4_worst_45 : decode cX4_worst 45 = .ok (.iload_n 1, 1) := by decide +kernel
theorem dX4_worst_46 : decode cX4_worst 46 = .ok (.iaload, 1) := by decide +kernel
theorem dX4_worst_47 : decode cX4_worst 47 = .ok (.ireturn, 1) := by decide +kernel
theorem dX4_way_0 : decode cX4_way 0 = .ok (.aload_n 0, 1) := by decide +kernel
theorem dX4_way_1 : decode cX4_way 1 = .ok (.getfield 10, 3) := by decide +kernel
theorem dX4_way_4 : decode cX4_way 4 = .ok (.iload_n 1, 1) := by decide +kernel
theorem dX4_way_5 : decode cX4_way 5 = .ok (.invokevirtual 58, 3) := by decide +kernel
theorem dX4_way_8 : decode cX4_way 8 = .ok (.ifCond .ne 5, 3) := by decide +kernel
theorem dX4_way_11 : decode cX4_way 11 = .ok (.iconst (-1), 1) := by decide +kernel
theorem dX4_way_12 : decode cX4_way 12 = .ok (.ireturn, 1) := by decide +kernel
theorem dX4_way_13 : decode cX4_way 13 = .ok (.aload_n 0, 1) := by decide +kernel
theorem dX4_way_14 : decode cX4_way 14 = .ok (.getfield 37, 3) := by decide +kernel
theorem dX4_way_17 : decode cX4_way 17 = .ok (.invokevirtual 213, 3) := by decide +kernel
theorem dX4_way_20 : decode cX4_way 20 = .ok (.iload_n 2, 1) := by decide +kernel
theorem dX4_way_21 : decode cX4_way 21 = .ok (.ifCond .lt 28, 3) := by decide +kernel
theorem dX4_way_24 : decode cX4_way 24 = .ok (.iload_n 2, 1) := by decide +kernel
theorem dX4_way_25 : decode cX4_way 25 = .ok (.aload_n 0, 1) := by decide +kernel
theorem dX4_way_26 : decode cX4_way 26 = .ok (.getfield 37, 3) := by decide +kernel
theorem dX4_way_29 : decode cX4_way 29 = .ok (.getfield 216, 3) := by decide +kernel
theorem dX4_way_32 : decode cX4_way 32 = .ok (.iload_n 1, 1) := by decide +kernel
theorem dX4_way_33 : decode cX4_way 33 = .ok (.iaload, 1) := by decide +kernel
theorem dX4_way_34 : decode cX4_way 34 = .ok (.if_icmp .ge 15, 3) := by decide +kernel
theorem dX4_way_37 : decode cX4_way 37 = .ok (.aload_n 0, 1) := by decide +kernel
theorem dX4_way_38 : decode cX4_way 38 = .ok (.getfield 37, 3) := by decide +kernel
theorem dX4_way_41 : decode cX4_way 41 = .ok (.iload_n 1, 1) := by decide +kernel
theorem dX4_way_42 : decode cX4_way 42 = .ok (.iload_n 2, 1) := by decide +kernel
theorem dX4_way_43 : decode cX4_way 43 = .ok (.invokevirtual 222, 3) := by decide +kernel
theorem dX4_way_46 : decode cX4_way 46 = .ok (.goto 4, 3) := by decide +kernel
theorem dX4_way_49 : decode cX4_way 49 = .ok (.iconst (-1), 1) := by decide +kernel
theorem dX4_way_50 : decode cX4_way 50 = .ok (.ireturn, 1) := by decide +kernel
theorem dX4_join_0 : decode cX4_join 0 = .ok (.aload_n 0, 1) := by decide +kernel
theorem dX4_join_1 : decode cX4_join 1 = .ok (.getfield 10, 3) := by decide +kernel
theorem dX4_join_4 : decode cX4_join 4 = .ok (.iload_n 1, 1) := by decide +kernel
theorem dX4_join_5 : decode cX4_join 5 = .ok (.invokevirtual 58, 3) := by decide +kernel
theorem dX4_join_8 : decode cX4_join 8 = .ok (.ifCond .eq 14, 3) := by decide +kernel
theorem dX4_join_11 : decode cX4_join 11 = .ok (.aload_n 0, 1) := by decide +kernel
theorem dX4_join_12 : decode cX4_join 12 = .ok (.getfield 10, 3) := by decide +kernel
theorem dX4_join_15 : decode cX4_join 15 = .ok (.iload_n 2, 1) := by decide +kernel
theorem dX4_join_16 : decode cX4_join 16 = .ok (.invokevirtual 58, 3) := by decide +kernel
theorem dX4_join_19 : decode cX4_join 19 = .ok (.ifCond .ne 6, 3) := by decide +kernel
theorem dX4_join_22 : decode cX4_join 22 = .ok (.bipush (-2), 2) := by decide +kernel
theorem dX4_join_24 : decode cX4_join 24 = .ok (.ireturn, 1) := by decide +kernel
theorem dX4_join_25 : decode cX4_join 25 = .ok (.iload_n 1, 1) := by decide +kernel
theorem dX4_join_26 : decode cX4_join 26 = .ok (.iload_n 2, 1) := by decide +kernel
theorem dX4_join_27 : decode cX4_join 27 = .ok (.if_icmp .ne 7, 3) := by decide +kernel
theorem dX4_join_30 : decode cX4_join 30 = .ok (.iconst (-1), 1) := by decide +kernel
theorem dX4_join_31 : decode cX4_join 31 = .ok (.goto 12, 3) := by decide +kernel
theorem dX4_join_34 : decode cX4_join 34 = .ok (.aload_n 0, 1) := by decide +kernel
theorem dX4_join_35 : decode cX4_join 35 = .ok (.getfield 37, 3) := by decide +kernel
theorem dX4_join_38 : decode cX4_join 38 = .ok (.iload_n 1, 1) := by decide +kernel
theorem dX4_join_39 : decode cX4_join 39 = .ok (.iload_n 2, 1) := by decide +kernel
theorem dX4_join_40 : decode cX4_join 40 = .ok (.invokevirtual 225, 3) := by decide +kernel
theorem dX4_join_43 : decode cX4_join 43 = .ok (.ireturn, 1) := by decide +kernel
theorem dX4_tree_0 : decode cX4_tree 0 = .ok (.iload_n 1, 1) := by decide +kernel
theorem dX4_tree_1 : decode cX4_tree 1 = .ok (.ifCond .lt 14, 3) := by decide +kernel
theorem dX4_tree_4 : decode cX4_tree 4 = .ok (.aload_n 0, 1) := by decide +kernel
theorem dX4_tree_5 : decode cX4_tree 5 = .ok (.getfield 37, 3) := by decide +kernel
theorem dX4_tree_8 : decode cX4_tree 8 = .ok (.iload_n 1, 1) := by decide +kernel
theorem dX4_tree_9 : decode cX4_tree 9 = .ok (.invokevirtual 228, 3) := by decide +kernel
theorem dX4_tree_12 : decode cX4_tree 12 = .ok (.goto 4, 3) := by decide +kernel
theorem dX4_tree_15 : decode cX4_tree 15 = .ok (.iconst (-1), 1) := by decide +kernel
theorem dX4_tree_16 : decode cX4_tree 16 = .ok (.ireturn, 1) := by decide +kernel
theorem dX4_claim_0 : decode cX4_claim 0 = .ok (.aload_n 0, 1) := by decide +kernel
theorem dX4_claim_1 : decode cX4_claim 1 = .ok (.getfield 10, 3) := by decide +kernel
theorem dX4_claim_4 : decode cX4_claim 4 = .ok (.iload_n 1, 1) := by decide +kernel
theorem dX4_claim_5 : decode cX4_claim 5 = .ok (.invokevirtual 69, 3) := by decide +kernel
theorem dX4_claim_8 : decode cX4_claim 8 = .ok (.ifCond .ne 5, 3) := by decide +kernel
theorem dX4_claim_11 : decode cX4_claim 11 = .ok (.iconst (-1), 1) := by decide +kernel
theorem dX4_claim_12 : decode cX4_claim 12 = .ok (.ireturn, 1) := by decide +kernel
theorem dX4_claim_13 : decode cX4_claim 13 = .ok (.aload_n 0, 1) := by decide +kernel
theorem dX4_claim_14 : decode cX4_claim 14 = .ok (.getfield 171, 3) := by decide +kernel
theorem dX4_claim_17 : decode cX4_claim 17 = .ok (.sipush 200, 3) := by decide +kernel
theorem dX4_claim_20 : decode cX4_claim 20 = .ok (.if_icmp .lt 6, 3) := by decide +kernel
theorem dX4_claim_23 : decode cX4_claim 23 = .ok (.bipush (-2), 2) := by decide +kernel
theorem dX4_claim_25 : decode cX4_claim 25 = .ok (.ireturn, 1) := by decide +kernel
theorem dX4_claim_26 : decode cX4_claim 26 = .ok (.aload_n 0, 1) := by decide +kernel
theorem dX4_claim_27 : decode cX4_claim 27 = .ok (.getfield 41, 3) := by decide +kernel
theorem dX4_claim_30 : decode cX4_claim 30 = .ok (.aload_n 0, 1) := by decide +kernel
theorem dX4_claim_31 : decode cX4_claim 31 = .ok (.getfield 171, 3) := by decide +kernel
theorem dX4_claim_34 : decode cX4_claim 34 = .ok (.iload_n 1, 1) := by decide +kernel
theorem dX4_claim_35 : decode cX4_claim 35 = .ok (.iastore, 1) := by decide +kernel
theorem dX4_claim_36 : decode cX4_claim 36 = .ok (.aload_n 0, 1) := by decide +kernel
theorem dX4_claim_37 : decode cX4_claim 37 = .ok (.dup, 1) := by decide +kernel
theorem dX4_claim_38 : decode cX4_claim 38 = .ok (.getfield 171, 3) := by decide +kernel
theorem dX4_claim_41 : decode cX4_claim 41 = .ok (.iconst 1, 1) := by decide +kernel
theorem dX4_claim_42 : decode cX4_claim 42 = .ok (.iadd, 1) := by decide +kernel
theorem dX4_claim_43 : decode cX4_claim 43 = .ok (.putfield 171, 3) := by decide +kernel
theorem dX4_claim_46 : decode cX4_claim 46 = .ok (.aload_n 0, 1) := by decide +kernel
theorem dX4_claim_47 : decode cX4_claim 47 = .ok (.getfield 171, 3) := by decide +kernel
theorem dX4_claim_50 : decode cX4_claim 50 = .ok (.ireturn, 1) := by decide +kernel
theorem dX4_copy_0 : decode cX4_copy 0 = .ok (.aload_n 0, 1) := by decide +kernel
theorem dX4_copy_1 : decode cX4_copy 1 = .ok (.getfield 27, 3) := by decide +kernel
theorem dX4_copy_4 : decode cX4_copy 4 = .ok (.getfield 50, 3) := by decide +kernel
theorem dX4_copy_7 : decode cX4_copy 7 = .ok (.ifCond .ne 6, 3) := by decide +kernel
theorem dX4_copy_10 : decode cX4_copy 10 = .ok (.bipush (-6), 2) := by decide +kernel
theorem dX4_copy_12 : decode cX4_copy 12 = .ok (.ireturn, 1) := by decide +kernel
theorem dX4_copy_13 : decode cX4_copy 13 = .ok (.iconst 0, 1) := by decide +kernel
theorem dX4_copy_14 : decode cX4_copy 14 = .ok (.istore_n 1, 1) := by decide +kernel
theorem dX4_copy_15 : decode cX4_copy 15 = .ok (.iload_n 1, 1) := by decide +kernel
theorem dX4_copy_16 : decode cX4_copy 16 = .ok (.aload_n 0, 1) := by decide +kernel
theorem dX4_copy_17 : decode cX4_copy 17 = .ok (.getfield 27, 3) := by decide +kernel
theorem dX4_copy_20 : decode cX4_copy 20 = .ok (.getfield 164, 3) := by decide +kernel
theorem dX4_copy_23 : decode cX4_copy 23 = .ok (.if_icmp .ge 26, 3) := by decide +kernel
theorem dX4_copy_26 : decode cX4_copy 26 = .ok (.aload_n 0, 1) := by decide +kernel
theorem dX4_copy_27 : decode cX4_copy 27 = .ok (.getfield 41, 3) := by decide +kernel
theorem dX4_copy_30 : decode cX4_copy 30 = .ok (.iload_n 1, 1) := by decide +kernel
theorem dX4_copy_31 : decode cX4_copy 31 = .ok (.aload_n 0, 1) := by decide +kernel
theorem dX4_copy_32 : decode cX4_copy 32 = .ok (.getfield 27, 3) := by decide +kernel
theorem dX4_copy_35 : decode cX4_copy 35 = .ok (.getfield 177, 3) := by decide +kernel
theorem dX4_copy_38 : decode cX4_copy 38 = .ok (.iload_n 1, 1) := by decide +kernel
theorem dX4_copy_39 : decode cX4_copy 39 = .ok (.iconst 1, 1) := by decide +kernel
theorem dX4_copy_40 : decode cX4_copy 40 = .ok (.iadd, 1) := by decide +kernel
theorem dX4_copy_41 : decode cX4_copy 41 = .ok (.iaload, 1) := by decide +kernel
theorem dX4_copy_42 : decode cX4_copy 42 = .ok (.iastore, 1) := by decide +kernel
theorem dX4_copy_43 : decode cX4_copy 43 = .ok (.iinc 1 1, 3) := by decide +kernel
theorem dX4_copy_46 : decode cX4_copy 46 = .ok (.goto (-31), 3) := by decide +kernel
theorem dX4_copy_49 : decode cX4_copy 49 = .ok (.aload_n 0, 1) := by decide +kernel
theorem dX4_copy_50 : decode cX4_copy 50 = .ok (.aload_n 0, 1) := by decide +kernel
theorem dX4_copy_51 : decode cX4_copy 51 = .ok (.getfield 27, 3) := by decide +kernel
theorem dX4_copy_54 : decode cX4_copy 54 = .ok (.getfield 164, 3) := by decide +kernel
theorem dX4_copy_57 : decode cX4_copy 57 = .ok (.putfield 171, 3) := by decide +kernel
theorem dX4_copy_60 : decode cX4_copy 60 = .ok (.aload_n 0, 1) := by decide +kernel
theorem dX4_copy_61 : decode cX4_copy 61 = .ok (.getfield 171, 3) := by decide +kernel
theorem dX4_copy_64 : decode cX4_copy 64 = .ok (.ireturn, 1) := by decide +kernel
theorem dX4_alter_0 : decode cX4_alter 0 = .ok (.iload_n 1, 1) := by decide +kernel
theorem dX4_alter_1 : decode cX4_alter 1 = .ok (.ifCond .lt 22, 3) := by decide +kernel
theorem dX4_alter_4 : decode cX4_alter 4 = .ok (.iload_n 1, 1) := by decide +kernel
theorem dX4_alter_5 : decode cX4_alter 5 = .ok (.aload_n 0, 1) := by decide +kernel
theorem dX4_alter_6 : decode cX4_alter 6 = .ok (.getfield 171, 3) := by decide +kernel
theorem dX4_alter_9 : decode cX4_alter 9 = .ok (.if_icmp .ge 14, 3) := by decide +kernel
theorem dX4_alter_12 : decode cX4_alter 12 = .ok (.aload_n 0, 1) := by decide +kernel
theorem dX4_alter_13 : decode cX4_alter 13 = .ok (.getfield 10, 3) := by decide +kernel
theorem dX4_alter_16 : decode cX4_alter 16 = .ok (.iload_n 2, 1) := by decide +kernel
theorem dX4_alter_17 : decode cX4_alter 17 = .ok (.invokevirtual 69, 3) := by decide +kernel
theorem dX4_alter_20 : decode cX4_alter 20 = .ok (.ifCond .ne 5, 3) := by decide +kernel
theorem dX4_alter_23 : decode cX4_alter 23 = .ok (.iconst (-1), 1) := by decide +kernel
theorem dX4_alter_24 : decode cX4_alter 24 = .ok (.ireturn, 1) := by decide +kernel
theorem dX4_alter_25 : decode cX4_alter 25 = .ok (.aload_n 0, 1) := by decide +kernel
theorem dX4_alter_26 : decode cX4_alter 26 = .ok (.getfield 41, 3) := by decide +kernel
theorem dX4_alter_29 : decode cX4_alter 29 = .ok (.iload_n 1, 1) := by decide +kernel
theorem dX4_alter_30 : decode cX4_alter 30 = .ok (.iload_n 2, 1) := by decide +kernel
theorem dX4_alter_31 : decode cX4_alter 31 = .ok (.iastore, 1) := by decide +kernel
theorem dX4_alter_32 : decode cX4_alter 32 = .ok (.iconst 1, 1) := by decide +kernel
theorem dX4_alter_33 : decode cX4_alter 33 = .ok (.ireturn, 1) := by decide +kernel
theorem dX4_unclaim_0 : decode cX4_unclaim 0 = .ok (.aload_n 0, 1) := by decide +kernel
theorem dX4_unclaim_1 : decode cX4_unclaim 1 = .ok (.getfield 171, 3) := by decide +kernel
theorem dX4_unclaim_4 : decode cX4_unclaim 4 = .ok (.istore_n 1, 1) := by decide +kernel
theorem dX4_unclaim_5 : decode cX4_unclaim 5 = .ok (.aload_n 0, 1) := by decide +kernel
theorem dX4_unclaim_6 : decode cX4_unclaim 6 = .ok (.iconst 0, 1) := by decide +kernel
theorem dX4_unclaim_7 : decode cX4_unclaim 7 = .ok (.putfield 171, 3) := by decide +kernel
theorem dX4_unclaim_10 : decode cX4_unclaim 10 = .ok (.iload_n 1, 1) := by decide +kernel
theorem dX4_unclaim_11 : decode cX4_unclaim 11 = .ok (.ireturn, 1) := by decide +kernel
theorem dX4_check_0 : decode cX4_check 0 = .ok (.aload_n 0, 1) := by decide +kernel
theorem dX4_check_1 : decode cX4_check 1 = .ok (.getfield 31, 3) := by decide +kernel
theorem dX4_check_4 : decode cX4_check 4 = .ok (.invokevirtual 154, 3) := by decide +kernel
theorem dX4_check_7 : decode cX4_check 7 = .ok (.iconst 0, 1) := by decide +kernel
theorem dX4_check_8 : decode cX4_check 8 = .ok (.istore_n 1, 1) := by decide +kernel
theorem dX4_check_9 : decode cX4_check 9 = .ok (.iload_n 1, 1) := by decide +kernel
theorem dX4_check_10 : decode cX4_check 10 = .ok (.aload_n 0, 1) := by decide +kernel
theorem dX4_check_11 : decode cX4_check 11 = .ok (.getfield 171, 3) := by decide +kernel
theorem dX4_check_14 : decode cX4_check 14 = .ok (.if_icmp .ge 27, 3) := by decide +kernel
theorem dX4_check_17 : decode cX4_check 17 = .ok (.aload_n 0, 1) := by decide +kernel
theorem dX4_check_18 : decode cX4_check 18 = .ok (.getfield 31, 3) := by decide +kernel
theorem dX4_check_21 : decode cX4_check 21 = .ok (.invokevirtual 161, 3) := by decide +kernel
theorem dX4_check_24 : decode cX4_check 24 = .ok (.aload_n 0, 1) := by decide +kernel
theorem dX4_check_25 : decode cX4_check 25 = .ok (.getfield 41, 3) := by decide +kernel
theorem dX4_check_28 : decode cX4_check 28 = .ok (.iload_n 1, 1) := by decide +kernel
theorem dX4_check_29 : decode cX4_check 29 = .ok (.iaload, 1) := by decide +kernel
theorem dX4_check_30 : decode cX4_check 30 = .ok (.if_icmp .eq 5, 3) := by decide +kernel
theorem dX4_check_33 : decode cX4_check 33 = .ok (.iload_n 1, 1) := by decide +kernel
theorem dX4_check_34 : decode cX4_check 34 = .ok (.ireturn, 1) := by decide +kernel
theorem dX4_check_35 : decode cX4_check 35 = .ok (.iinc 1 1, 3) := by decide +kernel
theorem dX4_check_38 : decode cX4_check 38 = .ok (.goto (-29), 3) := by decide +kernel
theorem dX4_check_41 : decode cX4_check 41 = .ok (.iconst (-1), 1) := by decide +kernel
theorem dX4_check_42 : decode cX4_check 42 = .ok (.ireturn, 1) := by decide +kernel
theorem dX4_hasPlace_0 : decode cX4_hasPlace 0 = .ok (.iload_n 0, 1) := by decide +kernel
theorem dX4_hasPlace_1 : decode cX4_hasPlace 1 = .ok (.ifCond .lt 13, 3) := by decide +kernel
theorem dX4_hasPlace_4 : decode cX4_hasPlace 4 = .ok (.iload_n 0, 1) := by decide +kernel
theorem dX4_hasPlace_5 : decode cX4_hasPlace 5 = .ok (.bipush 6, 2) := by decide +kernel
theorem dX4_hasPlace_7 : decode cX4_hasPlace 7 = .ok (.if_icmp .ge 7, 3) := by decide +kernel
theorem dX4_hasPlace_10 : decode cX4_hasPlace 10 = .ok (.iconst 1, 1) := by decide +kernel
theorem dX4_hasPlace_11 : decode cX4_hasPlace 11 = .ok (.goto 4, 3) := by decide +kernel
theorem dX4_hasPlace_14 : decode cX4_hasPlace 14 = .ok (.iconst 0, 1) := by decide +kernel
theorem dX4_hasPlace_15 : decode cX4_hasPlace 15 = .ok (.ireturn, 1) := by decide +kernel
theorem dX4_mayHinder_0 : decode cX4_mayHinder 0 = .ok (.lload_n 0, 1) := by decide +kernel
theorem dX4_mayHinder_1 : decode cX4_mayHinder 1 = .ok (.lconst 0, 1) := by decide +kernel
theorem dX4_mayHinder_2 : decode cX4_mayHinder 2 = .ok (.lcmp, 1) := by decide +kernel
theorem dX4_mayHinder_3 : decode cX4_mayHinder 3 = .ok (.ifCond .lt 15, 3) := by decide +kernel
theorem dX4_mayHinder_6 : decode cX4_mayHinder 6 = .ok (.lload_n 0, 1) := by decide +kernel
theorem dX4_mayHinder_7 : decode cX4_mayHinder 7 = .ok (.ldc2_w 231, 3) := by decide +kernel
theorem dX4_mayHinder_10 : decode cX4_mayHinder 10 = .ok (.lcmp, 1) := by decide +kernel
theorem dX4_mayHinder_11 : decode cX4_mayHinder 11 = .ok (.ifCond .gt 7, 3) := by decide +kernel
theorem dX4_mayHinder_14 : decode cX4_mayHinder 14 = .ok (.iconst 1, 1) := by decide +kernel
theorem dX4_mayHinder_15 : decode cX4_mayHinder 15 = .ok (.goto 4, 3) := by decide +kernel
theorem dX4_mayHinder_18 : decode cX4_mayHinder 18 = .ok (.iconst 0, 1) := by decide +kernel
theorem dX4_mayHinder_19 : decode cX4_mayHinder 19 = .ok (.ireturn, 1) := by decide +kernel
theorem dX4_pourOne_0 : decode cX4_pourOne 0 = .ok (.aload_n 1, 1) := by decide +kernel
theorem dX4_pourOne_1 : decode cX4_pourOne 1 = .ok (.iload_n 2, 1) := by decide +kernel
theorem dX4_pourOne_2 : decode cX4_pourOne 2 = .ok (.invokevirtual 233, 3) := by decide +kernel
theorem dX4_pourOne_5 : decode cX4_pourOne 5 = .ok (.ifCond .ne 19, 3) := by decide +kernel
theorem dX4_pourOne_8 : decode cX4_pourOne 8 = .ok (.aload_n 1, 1) := by decide +kernel
theorem dX4_pourOne_9 : decode cX4_pourOne 9 = .ok (.getfield 146, 3) := by decide +kernel
theorem dX4_pourOne_12 : decode cX4_pourOne 12 = .ok (.iload_n 2, 1) := by decide +kernel
theorem dX4_pourOne_13 : decode cX4_pourOne 13 = .ok (.laload, 1) := by decide +kernel
theorem dX4_pourOne_14 : decode cX4_pourOne 14 = .ok (.invokestatic 72, 3) := by decide +kernel
theorem dX4_pourOne_17 : decode cX4_pourOne 17 = .ok (.ifCond .eq 7, 3) := by decide +kernel
theorem dX4_pourOne_20 : decode cX4_pourOne 20 = .ok (.iconst 1, 1) := by decide +kernel
theorem dX4_pourOne_21 : decode cX4_pourOne 21 = .ok (.goto 4, 3) := by decide +kernel
theorem dX4_pourOne_24 : decode cX4_pourOne 24 = .ok (.iconst 0, 1) := by decide +kernel
theorem dX4_pourOne_25 : decode cX4_pourOne 25 = .ok (.istore 4, 2) := by decide +kernel
theorem dX4_pourOne_27 : decode cX4_pourOne 27 = .ok (.aload_n 0, 1) := by decide +kernel
theorem dX4_pourOne_28 : decode cX4_pourOne 28 = .ok (.getfield 10, 3) := by decide +kernel
theorem dX4_pourOne_31 : decode cX4_pourOne 31 = .ok (.iload_n 3, 1) := by decide +kernel
theorem dX4_pourOne_32 : decode cX4_pourOne 32 = .ok (.iload 4, 2) := by decide +kernel
theorem dX4_pourOne_34 : decode cX4_pourOne 34 = .ok (.ifCond .eq 13, 3) := by decide +kernel
theorem dX4_pourOne_37 : decode cX4_pourOne 37 = .ok (.aload_n 1, 1) := by decide +kernel
theorem dX4_pourOne_38 : decode cX4_pourOne 38 = .ok (.getfield 146, 3) := by decide +kernel
theorem dX4_pourOne_41 : decode cX4_pourOne 41 = .ok (.iload_n 2, 1) := by decide +kernel
theorem dX4_pourOne_42 : decode cX4_pourOne 42 = .ok (.laload, 1) := by decide +kernel
theorem dX4_pourOne_43 : decode cX4_pourOne 43 = .ok (.l2i, 1) := by decide +kernel
theorem dX4_pourOne_44 : decode cX4_pourOne 44 = .ok (.goto 12, 3) := by decide +kernel
theorem dX4_pourOne_47 : decode cX4_pourOne 47 = .ok (.aload_n 0, 1) := by decide +kernel
theorem dX4_pourOne_48 : decode cX4_pourOne 48 = .ok (.getfield 10, 3) := by decide +kernel
theorem dX4_pourOne_51 : decode cX4_pourOne 51 = .ok (.getfield 83, 3) := by decide +kernel
theorem dX4_pourOne_54 : decode cX4_pourOne 54 = .ok (.iload_n 3, 1) := by decide +kernel
theorem dX4_pourOne_55 : decode cX4_pourOne 55 = .ok (.iaload, 1) := by decide +kernel
theorem dX4_pourOne_56 : decode cX4_pourOne 56 = .ok (.iload 4, 2) := by decide +kernel
theorem dX4_pourOne_58 : decode cX4_pourOne 58 = .ok (.invokevirtual 79, 3) := by decide +kernel
theorem dX4_pourOne_61 : decode cX4_pourOne 61 = .ok (.return_, 1) := by decide +kernel
theorem dX4_manyInRun_0 : decode cX4_manyInRun 0 = .ok (.iload_n 1, 1) := by decide +kernel
theorem dX4_manyInRun_1 : decode cX4_manyInRun 1 = .ok (.tableswitch 91 2 6 #[35, 43, 51, 59, 83], 35) := by decide +kernel
theorem dX4_manyInRun_36 : decode cX4_manyInRun 36 = .ok (.aload_n 0, 1) := by decide +kernel
theorem dX4_manyInRun_37 : decode cX4_manyInRun 37 = .ok (.getfield 27, 3) := by decide +kernel
theorem dX4_manyInRun_40 : decode cX4_manyInRun 40 = .ok (.getfield 164, 3) := by decide +kernel
theorem dX4_manyInRun_43 : decode cX4_manyInRun 43 = .ok (.ireturn, 1) := by decide +kernel
theorem dX4_manyInRun_44 : decode cX4_manyInRun 44 = .ok (.aload_n 0, 1) := by decide +kernel
theorem dX4_manyInRun_45 : decode cX4_manyInRun 45 = .ok (.getfield 27, 3) := by decide +kernel
theorem dX4_manyInRun_48 : decode cX4_manyInRun 48 = .ok (.invokevirtual 157, 3) := by decide +kernel
theorem dX4_manyInRun_51 : decode cX4_manyInRun 51 = .ok (.ireturn, 1) := by decide +kernel
theorem dX4_manyInRun_52 : decode cX4_manyInRun 52 = .ok (.aload_n 0, 1) := by decide +kernel
theorem dX4_manyInRun_53 : decode cX4_manyInRun 53 = .ok (.getfield 27, 3) := by decide +kernel
theorem dX4_manyInRun_56 : decode cX4_manyInRun 56 = .ok (.invokevirtual 236, 3) := by decide +kernel
theorem dX4_manyInRun_59 : decode cX4_manyInRun 59 = .ok (.ireturn, 1) := by decide +kernel
theorem dX4_manyInRun_60 : decode cX4_manyInRun 60 = .ok (.aload_n 0, 1) := by decide +kernel
theorem dX4_manyInRun_61 : decode cX4_manyInRun 61 = .ok (.getfield 10, 3) := by decide +kernel
theorem dX4_manyInRun_64 : decode cX4_manyInRun 64 = .ok (.getfield 46, 3) := by decide +kernel
theorem dX4_manyInRun_67 : decode cX4_manyInRun 67 = .ok (.aload_n 0, 1) := by decide +kernel
theorem dX4_manyInRun_68 : decode cX4_manyInRun 68 = .ok (.getfield 27, 3) := by decide +kernel
theorem dX4_manyInRun_71 : decode cX4_manyInRun 71 = .ok (.invokevirtual 157, 3) := by decide +kernel
theorem dX4_manyInRun_74 : decode cX4_manyInRun 74 = .ok (.isub, 1) := by decide +kernel
theorem dX4_manyInRun_75 : decode cX4_manyInRun 75 = .ok (.aload_n 0, 1) := by decide +kernel
theorem dX4_manyInRun_76 : decode cX4_manyInRun 76 = .ok (.getfield 27, 3) := by decide +kernel
theorem dX4_manyInRun_79 : decode cX4_manyInRun 79 = .ok (.invokevirtual 236, 3) := by decide +kernel
theorem dX4_manyInRun_82 : decode cX4_manyInRun 82 = .ok (.isub, 1) := by decide +kernel
theorem dX4_manyInRun_83 : decode cX4_manyInRun 83 = .ok (.ireturn, 1) := by decide +kernel
theorem dX4_manyInRun_84 : decode cX4_manyInRun 84 = .ok (.aload_n 0, 1) := by decide +kernel
theorem dX4_manyInRun_85 : decode cX4_manyInRun 85 = .ok (.getfield 27, 3) := by decide +kernel
theorem dX4_manyInRun_88 : decode cX4_manyInRun 88 = .ok (.getfield 195, 3) := by decide +kernel
theorem dX4_manyInRun_91 : decode cX4_manyInRun 91 = .ok (.ireturn, 1) := by decide +kernel
theorem dX4_manyInRun_92 : decode cX4_manyInRun 92 = .ok (.aload_n 0, 1) := by decide +kernel
theorem dX4_manyInRun_93 : decode cX4_manyInRun 93 = .ok (.getfield 27, 3) := by decide +kernel
theorem dX4_manyInRun_96 : decode cX4_manyInRun 96 = .ok (.invokevirtual 239, 3) := by decide +kernel
theorem dX4_manyInRun_99 : decode cX4_manyInRun 99 = .ok (.ireturn, 1) := by decide +kernel
theorem dX5_init_0 : decode cX5_init 0 = .ok (.aload_n 0, 1) := by decide +kernel
theorem dX5_init_1 : decode cX5_init 1 = .ok (.invokespecial 1, 3) := by decide +kernel
theorem dX5_init_4 : decode cX5_init 4 = .ok (.aload_n 0, 1) := by decide +kernel
theorem dX5_init_5 : decode cX5_init 5 = .ok (.bipush 120, 2) := by decide +kernel
theorem dX5_init_7 : decode cX5_init 7 = .ok (.newarray .int, 2) := by decide +kernel
theorem dX5_init_9 : decode cX5_init 9 = .ok (.putfield 7, 3) := by decide +kernel
theorem dX5_init_12 : decode cX5_init 12 = .ok (.aload_n 0, 1) := by decide +kernel
theorem dX5_init_13 : decode cX5_init 13 = .ok (.bipush 120, 2) := by decide +kernel
theorem dX5_init_15 : decode cX5_init 15 = .ok (.newarray .boolean, 2) := by decide +kernel
theorem dX5_init_17 : decode cX5_init 17 = .ok (.putfield 13, 3) := by decide +kernel
theorem dX5_init_20 : decode cX5_init 20 = .ok (.aload_n 0, 1) := by decide +kernel
theorem dX5_init_21 : decode cX5_init 21 = .ok (.sipush 300, 3) := by decide +kernel
theorem dX5_init_24 : decode cX5_init 24 = .ok (.newarray .int, 2) := by decide +kernel
theorem dX5_init_26 : decode cX5_init 26 = .ok (.putfield 17, 3) := by decide +kernel
theorem dX5_init_29 : decode cX5_init 29 = .ok (.aload_n 0, 1) := by decide +kernel
theorem dX5_init_30 : decode cX5_init 30 = .ok (.sipush 300, 3) := by decide +kernel
theorem dX5_init_33 : decode cX5_init 33 = .ok (.newarray .int, 2) := by decide +kernel
theorem dX5_init_35 : decode cX5_init 35 = .ok (.putfield 20, 3) := by decide +kernel
theorem dX5_init_38 : decode cX5_init 38 = .ok (.aload_n 0, 1) := by decide +kernel
theorem dX5_init_39 : decode cX5_init 39 = .ok (.sipush 300, 3) := by decide +kernel
theorem dX5_init_42 : decode cX5_init 42 = .ok (.newarray .int, 2) := by decide +kernel
theorem dX5_init_44 : decode cX5_init 44 = .ok (.putfield 23, 3) := by decide +kernel
theorem dX5_init_47 : decode cX5_init 47 = .ok (.aload_n 0, 1) := by decide +kernel
theorem dX5_init_48 : decode cX5_init 48 = .ok (.sipush 300, 3) := by decide +kernel
theorem dX5_init_51 : decode cX5_init 51 = .ok (.newarray .boolean, 2) := by decide +kernel
theorem dX5_init_53 : decode cX5_init 53 = .ok (.putfield 26, 3) := by decide +kernel
theorem dX5_init_56 : decode cX5_init 56 = .ok (.aload_n 0, 1) := by decide +kernel
theorem dX5_init_57 : decode cX5_init 57 = .ok (.bipush 6, 2) := by decide +kernel
theorem dX5_init_59 : decode cX5_init 59 = .ok (.newarray .int, 2) := by decide +kernel
theorem dX5_init_61 : decode cX5_init 61 = .ok (.putfield 29, 3) := by decide +kernel
theorem dX5_init_64 : decode cX5_init 64 = .ok (.aload_n 0, 1) := by decide +kernel
theorem dX5_init_65 : decode cX5_init 65 = .ok (.bipush 6, 2) := by decide +kernel
theorem dX5_init_67 : decode cX5_init 67 = .ok (.newarray .int, 2) := by decide +kernel
theorem dX5_init_69 : decode cX5_init 69 = .ok (.putfield 32, 3) := by decide +kernel
theorem dX5_init_72 : decode cX5_init 72 = .ok (.aload_n 0, 1) := by decide +kernel
theorem dX5_init_73 : decode cX5_init 73 = .ok (.sipush 360, 3) := by decide +kernel
theorem dX5_init_76 : decode cX5_init 76 = .ok (.newarray .long, 2) := by decide +kernel
theorem dX5_init_78 : decode cX5_init 78 = .ok (.putfield 35, 3) := by decide +kernel
theorem dX5_init_81 : decode cX5_init 81 = .ok (.aload_n 0, 1) := by decide +kernel
theorem dX5_init_82 : decode cX5_init 82 = .ok (.sipush 360, 3) := by decide +kernel
theorem dX5_init_85 : decode cX5_init 85 = .ok (.newarray .double, 2) := by decide +kernel
theorem dX5_init_87 : decode cX5_init 87 = .ok (.putfield 39, 3) := by decide +kernel
theorem dX5_init_90 : decode cX5_init 90 = .ok (.aload_n 0, 1) := by decide +kernel
theorem dX5_init_91 : decode cX5_init 91 = .ok (.bipush 121, 2) := by decide +kernel
theorem dX5_init_93 : decode cX5_init 93 = .ok (.newarray .int, 2) := by decide +kernel
theorem dX5_init_95 : decode cX5_init 95 = .ok (.putfield 43, 3) := by decide +kernel
theorem dX5_init_98 : decode cX5_init 98 = .ok (.aload_n 0, 1) := by decide +kernel
theorem dX5_init_99 : decode cX5_init 99 = .ok (.bipush 120, 2) := by decide +kernel
theorem dX5_init_101 : decode cX5_init 101 = .ok (.newarray .int, 2) := by decide +kernel
theorem dX5_init_103 : decode cX5_init 103 = .ok (.putfield 46, 3) := by decide +kernel
theorem dX5_init_106 : decode cX5_init 106 = .ok (.aload_n 0, 1) := by decide +kernel
theorem dX5_init_107 : decode cX5_init 107 = .ok (.bipush 120, 2) := by decide +kernel
theorem dX5_init_109 : decode cX5_init 109 = .ok (.newarray .int, 2) := by decide +kernel
theorem dX5_init_111 : decode cX5_init 111 = .ok (.putfield 49, 3) := by decide +kernel
theorem dX5_init_114 : decode cX5_init 114 = .ok (.aload_n 0, 1) := by decide +kernel
theorem dX5_init_115 : decode cX5_init 115 = .ok (.bipush 120, 2) := by decide +kernel
theorem dX5_init_117 : decode cX5_init 117 = .ok (.newarray .int, 2) := by decide +kernel
theorem dX5_init_119 : decode cX5_init 119 = .ok (.putfield 52, 3) := by decide +kernel
theorem dX5_init_122 : decode cX5_init 122 = .ok (.aload_n 0, 1) := by decide +kernel
theorem dX5_init_123 : decode cX5_init 123 = .ok (.sipush 200, 3) := by decide +kernel
theorem dX5_init_126 : decode cX5_init 126 = .ok (.newarray .int, 2) := by decide +kernel
theorem dX5_init_128 : decode cX5_init 128 = .ok (.putfield 55, 3) := by decide +kernel
theorem dX5_init_131 : decode cX5_init 131 = .ok (.aload_n 0, 1) := by decide +kernel
theorem dX5_init_132 : decode cX5_init 132 = .ok (.bipush 60, 2) := by decide +kernel
theorem dX5_init_134 : decode cX5_init 134 = .ok (.newarray .long, 2) := by decide +kernel
theorem dX5_init_136 : decode cX5_init 136 = .ok (.putfield 58, 3) := by decide +kernel
theorem dX5_init_139 : decode cX5_init 139 = .ok (.aload_n 0, 1) := by decide +kernel
theorem dX5_init_140 : decode cX5_init 140 = .ok (.bipush 60, 2) := by decide +kernel
theorem dX5_init_142 : decode cX5_init 142 = .ok (.newarray .double, 2) := by decide +kernel
theorem dX5_init_144 : decode cX5_init 144 = .ok (.putfield 61, 3) := by decide +kernel
theorem dX5_init_147 : decode cX5_init 147 = .ok (.aload_n 0, 1) := by decide +kernel
theorem dX5_init_148 : decode cX5_init 148 = .ok (.bipush 120, 2) := by decide +kernel
theorem dX5_init_150 : decode cX5_init 150 = .ok (.newarray .boolean, 2) := by decide +kernel
theorem dX5_init_152 : decode cX5_init 152 = .ok (.putfield 64, 3) := by decide +kernel
theorem dX5_init_155 : decode cX5_init 155 = .ok (.aload_n 0, 1) := by decide +kernel
theorem dX5_init_156 : decode cX5_init 156 = .ok (.bipush 120, 2) := by decide +kernel
theorem dX5_init_158 : decode cX5_init 158 = .ok (.newarray .int, 2) := by decide +kernel
theorem dX5_init_160 : decode cX5_init 160 = .ok (.putfield 67, 3) := by decide +kernel
theorem dX5_init_163 : decode cX5_init 163 = .ok (.aload_n 0, 1) := by decide +kernel
theorem dX5_init_164 : decode cX5_init 164 = .ok (.bipush 120, 2) := by decide +kernel
theorem dX5_init_166 : decode cX5_init 166 = .ok (.newarray .int, 2) := by decide +kernel
theorem dX5_init_168 : decode cX5_init 168 = .ok (.putfield 70, 3) := by decide +kernel
theorem dX5_init_171 : decode cX5_init 171 = .ok (.aload_n 0, 1) := by decide +kernel
theorem dX5_init_172 : decode cX5_init 172 = .ok (.bipush 120, 2) := by decide +kernel
theorem dX5_init_174 : decode cX5_init 174 = .ok (.newarray .int, 2) := by decide +kernel
theorem dX5_init_176 : decode cX5_init 176 = .ok (.putfield 73, 3) := by decide +kernel
theorem dX5_init_179 : decode cX5_init 179 = .ok (.aload_n 0, 1) := by decide +kernel
theorem dX5_init_180 : decode cX5_init 180 = .ok (.bipush 121, 2) := by decide +kernel
theorem dX5_init_182 : decode cX5_init 182 = .ok (.newarray .int, 2) := by decide +kernel
theorem dX5_init_184 : decode cX5_init 184 = .ok (.putfield 76, 3) := by decide +kernel
theorem dX5_init_187 : decode cX5_init 187 = .ok (.aload_n 0, 1) := by decide +kernel
theorem dX5_init_188 : decode cX5_init 188 = .ok (.bipush 120, 2) := by decide +kernel
theorem dX5_init_190 : decode cX5_init 190 = .ok (.newarray .int, 2) := by decide +kernel
theorem dX5_init_192 : decode cX5_init 192 = .ok (.putfield 79, 3) := by decide +kernel
theorem dX5_init_195 : decode cX5_init 195 = .ok (.aload_n 0, 1) := by decide +kernel
theorem dX5_init_196 : decode cX5_init 196 = .ok (.bipush 120, 2) := by decide +kernel
theorem dX5_init_198 : decode cX5_init 198 = .ok (.newarray .int, 2) := by decide +kernel
theorem dX5_init_200 : decode cX5_init 200 = .ok (.putfield 82, 3) := by decide +kernel
theorem dX5_init_203 : decode cX5_init 203 = .ok (.aload_n 0, 1) := by decide +kernel
theorem dX5_init_204 : decode cX5_init 204 = .ok (.bipush 120, 2) := by decide +kernel
theorem dX5_init_206 : decode cX5_init 206 = .ok (.newarray .int, 2) := by decide +kernel
theorem dX5_init_208 : decode cX5_init 208 = .ok (.putfield 85, 3) := by decide +kernel
theorem dX5_init_211 : decode cX5_init 211 = .ok (.iconst 0, 1) := by decide +kernel
theorem dX5_init_212 : decode cX5_init 212 = .ok (.istore_n 1, 1) := by decide +kernel
theorem dX5_init_213 : decode cX5_init 213 = .ok (.iload_n 1, 1) := by decide +kernel
theorem dX5_init_214 : decode cX5_init 214 = .ok (.bipush 6, 2) := by decide +kernel
theorem dX5_init_216 : decode cX5_init 216 = .ok (.if_icmp .ge 16, 3) := by decide +kernel
theorem dX5_init_219 : decode cX5_init 219 = .ok (.aload_n 0, 1) := by decide +kernel
theorem dX5_init_220 : decode cX5_init 220 = .ok (.getfield 32, 3) := by decide +kernel
theorem dX5_init_223 : decode cX5_init 223 = .ok (.iload_n 1, 1) := by decide +kernel
theorem dX5_init_224 : decode cX5_init 224 = .ok (.iconst (-1), 1) := by decide +kernel
theorem dX5_init_225 : decode cX5_init 225 = .ok (.iastore, 1) := by decide +kernel
theorem dX5_init_226 : decode cX5_init 226 = .ok (.iinc 1 1, 3) := by decide +kernel
theorem dX5_init_229 : decode cX5_init 229 = .ok (.goto (-16), 3) := by decide +kernel
theorem dX5_init_232 : decode cX5_init 232 = .ok (.return_, 1) := by decide +kernel
theorem dX5_isPore_0 : decode cX5_isPore 0 = .ok (.iload_n 1, 1) := by decide +kernel
theorem dX5_isPore_1 : decode cX5_isPore 1 = .ok (.ifCond .lt 15, 3) := by decide +kernel
theorem dX5_isPore_4 : decode cX5_isPore 4 = .ok (.iload_n 1, 1) := by decide +kernel
theorem dX5_isPore_5 : decode cX5_isPore 5 = .ok (.aload_n 0, 1) := by decide +kernel
theorem dX5_isPore_6 : decode cX5_isPore 6 = .ok (.getfield 88, 3) := by decide +kernel
theorem dX5_isPore_9 : decode cX5_isPore 9 = .ok (.if_icmp .ge 7, 3) := by decide +kernel
theorem dX5_isPore_12 : decode cX5_isPore 12 = .ok (.iconst 1, 1) := by decide +kernel
theorem dX5_isPore_13 : decode cX5_isPore 13 = .ok (.goto 4, 3) := by decide +kernel
theorem dX5_isPore_16 : decode cX5_isPore 16 = .ok (.iconst 0, 1) := by decide +kernel
theorem dX5_isPore_17 : decode cX5_isPore 17 = .ok (.ireturn, 1) := by decide +kernel
theorem dX5_isThroat_0 : decode cX5_isThroat 0 = .ok (.iload_n 1, 1) := by decide +kernel
theorem dX5_isThroat_1 : decode cX5_isThroat 1 = .ok (.ifCond .lt 15, 3) := by decide +kernel
theorem dX5_isThroat_4 : decode cX5_isThroat 4 = .ok (.iload_n 1, 1) := by decide +kernel
theorem dX5_isThroat_5 : decode cX5_isThroat 5 = .ok (.aload_n 0, 1) := by decide +kernel
theorem dX5_isThroat_6 : decode cX5_isThroat 6 = .ok (.getfield 92, 3) := by decide +kernel
theorem dX5_isThroat_9 : decode cX5_isThroat 9 = .ok (.if_icmp .ge 7, 3) := by decide +kernel
theorem dX5_isThroat_12 : decode cX5_isThroat 12 = .ok (.iconst 1, 1) := by decide +kernel
theorem dX5_isThroat_13 : decode cX5_isThroat 13 = .ok (.goto 4, 3) := by decide +kernel
theorem dX5_isThroat_16 : decode cX5_isThroat 16 = .ok (.iconst 0, 1) := by decide +kernel
theorem dX5_isThroat_17 : decode cX5_isThroat 17 = .ok (.ireturn, 1) := by decide +kernel
theorem dX5_pore_0 : decode cX5_pore 0 = .ok (.iload_n 1, 1) := by decide +kernel
theorem dX5_pore_1 : decode cX5_pore 1 = .ok (.ifCond .lt 8, 3) := by decide +kernel
theorem dX5_pore_4 : decode cX5_pore 4 = .ok (.iload_n 1, 1) := by decide +kernel
theorem dX5_pore_5 : decode cX5_pore 5 = .ok (.iconst 4, 1) := by decide +kernel
theorem dX5_pore_6 : decode cX5_pore 6 = .ok (.if_icmp .le 5, 3) := by decide +kernel
theorem dX5_pore_9 : decode cX5_pore 9 = .ok (.iconst (-1), 1) := by decide +kernel
theorem dX5_pore_10 : decode cX5_pore 10 = .ok (.ireturn, 1) := by decide +kernel
theorem dX5_pore_11 : decode cX5_pore 11 = .ok (.aload_n 0, 1) := by decide +kernel
theorem dX5_pore_12 : decode cX5_pore 12 = .ok (.getfield 88, 3) := by decide +kernel
theorem dX5_pore_15 : decode cX5_pore 15 = .ok (.bipush 120, 2) := by decide +kernel
theorem dX5_pore_17 : decode cX5_pore 17 = .ok (.if_icmp .ne 6, 3) := by decide +kernel
theorem dX5_pore_20 : decode cX5_pore 20 = .ok (.bipush (-2), 2) := by decide +kernel
theorem dX5_pore_22 : decode cX5_pore 22 = .ok (.ireturn, 1) := by decide +kernel
theorem dX5_pore_23 : decode cX5_pore 23 = .ok (.aload_n 0, 1) := by decide +kernel
theorem dX5_pore_24 : decode cX5_pore 24 = .ok (.getfield 7, 3) := by decide +kernel
theorem dX5_pore_27 : decode cX5_pore 27 = .ok (.aload_n 0, 1) := by decide +kernel
theorem dX5_pore_28 : decode cX5_pore 28 = .ok (.getfield 88, 3) := by decide +kernel
theorem dX5_pore_31 : decode cX5_pore 31 = .ok (.iload_n 1, 1) := by decide +kernel
theorem dX5_pore_32 : decode cX5_pore 32 = .ok (.iastore, 1) := by decide +kernel
theorem dX5_pore_33 : decode cX5_pore 33 = .ok (.aload_n 0, 1) := by decide +kernel
theorem dX5_pore_34 : decode cX5_pore 34 = .ok (.getfield 13, 3) := by decide +kernel
theorem dX5_pore_37 : decode cX5_pore 37 = .ok (.aload_n 0, 1) := by decide +kernel
theorem dX5_pore_38 : decode cX5_pore 38 = .ok (.getfield 88, 3) := by decide +kernel
theorem dX5_pore_41 : decode cX5_pore 41 = .ok (.iconst 0, 1) := by decide +kernel
theorem dX5_pore_42 : decode cX5_pore 42 = .ok (.bastore, 1) := by decide +kernel
theorem dX5_pore_43 : decode cX5_pore 43 = .ok (.aload_n 0, 1) := by decide +kernel
theorem dX5_pore_44 : decode cX5_pore 44 = .ok (.dup, 1) := by decide +kernel
theorem dX5_pore_45 : decode cX5_pore 45 = .ok (.getfield 88, 3) := by decide +kernel
theorem dX5_pore_48 : decode cX5_pore 48 = .ok (.iconst 1, 1) := by decide +kernel
theorem dX5_pore_49 : decode cX5_pore 49 = .ok (.iadd, 1) := by decide +kernel
theorem dX5_pore_50 : decode cX5_pore 50 = .ok (.putfield 88, 3) := by decide +kernel
theorem dX5_pore_53 : decode cX5_pore 53 = .ok (.aload_n 0, 1) := by decide +kernel
theorem dX5_pore_54 : decode cX5_pore 54 = .ok (.iconst 0, 1) := by decide +kernel
theorem dX5_pore_55 : decode cX5_pore 55 = .ok (.putfield 95, 3) := by decide +kernel
theorem dX5_pore_58 : decode cX5_pore 58 = .ok (.aload_n 0, 1) := by decide +kernel
theorem dX5_pore_59 : decode cX5_pore 59 = .ok (.getfield 88, 3) := by decide +kernel
theorem dX5_pore_62 : decode cX5_pore 62 = .ok (.iconst 1, 1) := by decide +kernel
theorem dX5_pore_63 : decode cX5_pore 63 = .ok (.isub, 1) := by decide +kernel
theorem dX5_pore_64 : decode cX5_pore 64 = .ok (.ireturn, 1) := by decide +kernel
theorem dX5_throat_0 : decode cX5_throat 0 = .ok (.aload_n 0, 1) := by decide +kernel
theorem dX5_throat_1 : decode cX5_throat 1 = .ok (.iload_n 1, 1) := by decide +kernel
theorem dX5_throat_2 : decode cX5_throat 2 = .ok (.invokevirtual 99, 3) := by decide +kernel
theorem dX5_throat_5 : decode cX5_throat 5 = .ok (.ifCond .eq 16, 3) := by decide +kernel
theorem dX5_throat_8 : decode cX5_throat 8 = .ok (.aload_n 0, 1) := by decide +kernel
theorem dX5_throat_9 : decode cX5_throat 9 = .ok (.iload_n 2, 1) := by decide +kernel
theorem dX5_throat_10 : decode cX5_throat 10 = .ok (.invokevirtual 99, 3) := by decide +kernel
theorem dX5_throat_13 : decode cX5_throat 13 = .ok (.ifCond .eq 8, 3) := by decide +kernel
theorem dX5_throat_16 : decode cX5_throat 16 = .ok (.iload_n 1, 1) := by decide +kernel
theorem dX5_throat_17 : decode cX5_throat 17 = .ok (.iload_n 2, 1) := by decide +kernel
theorem dX5_throat_18 : decode cX5_throat 18 = .ok (.if_icmp .ne 5, 3) := by decide +kernel
theorem dX5_throat_21 : decode cX5_throat 21 = .ok (.iconst (-1), 1) := by decide +kernel
theorem dX5_throat_22 : decode cX5_throat 22 = .ok (.ireturn, 1) := by decide +kernel
theorem dX5_throat_23 : decode cX5_throat 23 = .ok (.aload_n 0, 1) := by decide +kernel
theorem dX5_throat_24 : decode cX5_throat 24 = .ok (.getfield 92, 3) := by decide +kernel
theorem dX5_throat_27 : decode cX5_throat 27 = .ok (.sipush 300, 3) := by decide +kernel
theorem dX5_throat_30 : decode cX5_throat 30 = .ok (.if_icmp .ne 6, 3) := by decide +kernel
theorem dX5_throat_33 : decode cX5_throat 33 = .ok (.bipush (-2), 2) := by decide +kernel
theorem dX5_throat_35 : decode cX5_throat 35 = .ok (.ireturn, 1) := by decide +kernel
theorem dX5_throat_36 : decode cX5_throat 36 = .ok (.aload_n 0, 1) := by decide +kernel
theorem dX5_throat_37 : decode cX5_throat 37 = .ok (.getfield 17, 3) := by decide +kernel
theorem dX5_throat_40 : decode cX5_throat 40 = .ok (.aload_n 0, 1) := by decide +kernel
theorem dX5_throat_41 : decode cX5_throat 41 = .ok (.getfield 92, 3) := by decide +kernel
theorem dX5_throat_44 : decode cX5_throat 44 = .ok (.iload_n 1, 1) := by decide +kernel
theorem dX5_throat_45 : decode cX5_throat 45 = .ok (.iastore, 1) := by decide +kernel
theorem dX5_throat_46 : decode cX5_throat 46 = .ok (.aload_n 0, 1) := by decide +kernel
theorem dX5_throat_47 : decode cX5_throat 47 = .ok (.getfield 20, 3) := by decide +kernel
theorem dX5_throat_50 : decode cX5_throat 50 = .ok (.aload_n 0, 1) := by decide +kernel
theorem dX5_throat_51 : decode cX5_throat 51 = .ok (.getfield 92, 3) := by decide +kernel
theorem dX5_throat_54 : decode cX5_throat 54 = .ok (.iload_n 2, 1) := by decide +kernel
theorem dX5_throat_55 : decode cX5_throat 55 = .ok (.iastore, 1) := by decide +kernel
theorem dX5_throat_56 : decode cX5_throat 56 = .ok (.aload_n 0, 1) := by decide +kernel
theorem dX5_throat_57 : decode cX5_throat 57 = .ok (.getfield 23, 3) := by decide +kernel
theorem dX5_throat_60 : decode cX5_throat 60 = .ok (.aload_n 0, 1) := by decide +kernel
theorem dX5_throat_61 : decode cX5_throat 61 = .ok (.getfield 92, 3) := by decide +kernel
theorem dX5_throat_64 : decode cX5_throat 64 = .ok (.iconst 0, 1) := by decide +kernel
theorem dX5_throat_65 : decode cX5_throat 65 = .ok (.iastore, 1) := by decide +kernel
theorem dX5_throat_66 : decode cX5_throat 66 = .ok (.aload_n 0, 1) := by decide +kernel
theorem dX5_throat_67 : decode cX5_throat 67 = .ok (.getfield 26, 3) := by decide +kernel
theorem dX5_throat_70 : decode cX5_throat 70 = .ok (.aload_n 0, 1) := by decide +kernel
theorem dX5_throat_71 : decode cX5_throat 71 = .ok (.getfield 92, 3) := by decide +kernel
theorem dX5_throat_74 : decode cX5_throat 74 = .ok (.iconst 0, 1) := by decide +kernel
theorem dX5_throat_75 : decode cX5_throat 75 = .ok (.bastore, 1) := by decide +kernel
theorem dX5_throat_76 : decode cX5_throat 76 = .ok (.aload_n 0, 1) := by decide +kernel
theorem dX5_throat_77 : decode cX5_throat 77 = .ok (.dup, 1) := by decide +kernel
theorem dX5_throat_78 : decode cX5_throat 78 = .ok (.getfield 92, 3) := by decide +kernel
theorem dX5_throat_81 : decode cX5_throat 81 = .ok (.iconst 1, 1) := by decide +kernel
theorem dX5_throat_82 : decode cX5_throat 82 = .ok (.iadd, 1) := by decide +kernel
theorem dX5_throat_83 : decode cX5_throat 83 = .ok (.putfield 92, 3) := by decide +kernel
theorem dX5_throat_86 : decode cX5_throat 86 = .ok (.aload_n 0, 1) := by decide +kernel
theorem dX5_throat_87 : decode cX5_throat 87 = .ok (.iconst 0, 1) := by decide +kernel
theorem dX5_throat_88 : decode cX5_throat 88 = .ok (.putfield 95, 3) := by decide +kernel
theorem dX5_throat_91 : decode cX5_throat 91 = .ok (.aload_n 0, 1) := by decide +kernel
theorem dX5_throat_92 : decode cX5_throat 92 = .ok (.getfield 92, 3) := by decide +kernel
theorem dX5_throat_95 : decode cX5_throat 95 = .ok (.iconst 1, 1) := by decide +kernel
theorem dX5_throat_96 : decode cX5_throat 96 = .ok (.isub, 1) := by decide +kernel
theorem dX5_throat_97 : decode cX5_throat 97 = .ok (.ireturn, 1) := by decide +kernel
theorem dX5_hinder_0 : decode cX5_hinder 0 = .ok (.aload_n 0, 1) := by decide +kernel
theorem dX5_hinder_1 : decode cX5_hinder 1 = .ok (.iload_n 1, 1) := by decide +kernel
theorem dX5_hinder_2 : decode cX5_hinder 2 = .ok (.invokevirtual 103, 3) := by decide +kernel
theorem dX5_hinder_5 : decode cX5_hinder 5 = .ok (.ifCond .eq 13, 3) := by decide +kernel
theorem dX5_hinder_8 : decode cX5_hinder 8 = .ok (.iload_n 2, 1) := by decide +kernel
theorem dX5_hinder_9 : decode cX5_hinder 9 = .ok (.ifCond .lt 9, 3) := by decide +kernel
theorem dX5_hinder_12 : decode cX5_hinder 12 = .ok (.iload_n 2, 1) := by decide +kernel
theorem dX5_hinder_13 : decode cX5_hinder 13 = .ok (.ldc 106, 2) := by decide +kernel
theorem dX5_hinder_15 : decode cX5_hinder 15 = .ok (.if_icmp .le 5, 3) := by decide +kernel
theorem dX5_hinder_18 : decode cX5_hinder 18 = .ok (.iconst (-1), 1) := by decide +kernel
theorem dX5_hinder_19 : decode cX5_hinder 19 = .ok (.ireturn, 1) := by decide +kernel
theorem dX5_hinder_20 : decode cX5_hinder 20 = .ok (.aload_n 0, 1) := by decide +kernel
theorem dX5_hinder_21 : decode cX5_hinder 21 = .ok (.getfield 23, 3) := by decide +kernel
theorem dX5_hinder_24 : decode cX5_hinder 24 = .ok (.iload_n 1, 1) := by decide +kernel
theorem dX5_hinder_25 : decode cX5_hinder 25 = .ok (.iload_n 2, 1) := by decide +kernel
theorem dX5_hinder_26 : decode cX5_hinder 26 = .ok (.iastore, 1) := by decide +kernel
theorem dX5_hinder_27 : decode cX5_hinder 27 = .ok (.aload_n 0, 1) := by decide +kernel
theorem dX5_hinder_28 : decode cX5_hinder 28 = .ok (.iconst 0, 1) := by decide +kernel
theorem dX5_hinder_29 : decode cX5_hinder 29 = .ok (.putfield 95, 3) := by decide +kernel
theorem dX5_hinder_32 : decode cX5_hinder 32 = .ok (.iconst 1, 1) := by decide +kernel
theorem dX5_hinder_33 : decode cX5_hinder 33 = .ok (.ireturn, 1) := by decide +kernel
theorem dX5_shut_0 : decode cX5_shut 0 = .ok (.aload_n 0, 1) := by decide +kernel
theorem dX5_shut_1 : decode cX5_shut 1 = .ok (.iload_n 1, 1) := by decide +kernel
theorem dX5_shut_2 : decode cX5_shut 2 = .ok (.invokevirtual 103, 3) := by decide +kernel
theorem dX5_shut_5 : decode cX5_shut 5 = .ok (.ifCond .ne 5, 3) := by decide +kernel
theorem dX5_shut_8 : decode cX5_shut 8 = .ok (.iconst (-1), 1) := by decide +kernel
theorem dX5_shut_9 : decode cX5_shut 9 = .ok (.ireturn, 1) := by decide +kernel
theorem dX5_shut_10 : decode cX5_shut 10 = .ok (.aload_n 0, 1) := by decide +kernel
theorem dX5_shut_11 : decode cX5_shut 11 = .ok (.getfield 26, 3) := by decide +kernel
theorem dX5_shut_14 : decode cX5_shut 14 = .ok (.iload_n 1, 1) := by decide +kernel
theorem dX5_shut_15 : decode cX5_shut 15 = .ok (.baload, 1) := by decide +kernel
theorem dX5_shut_16 : decode cX5_shut 16 = .ok (.iload_n 2, 1) := by decide +kernel
theorem dX5_shut_17 : decode cX5_shut 17 = .ok (.if_icmp .ne 7, 3) := by decide +kernel
theorem dX5_shut_20 : decode cX5_shut 20 = .ok (.iconst 0, 1) := by decide +kernel
theorem dX5_shut_21 : decode cX5_shut 21 = .ok (.goto 4, 3) := by decide +kernel
theorem dX5_shut_24 : decode cX5_shut 24 = .ok (.iconst 1, 1) := by decide +kernel
theorem dX5_shut_25 : decode cX5_shut 25 = .ok (.istore_n 3, 1) := by decide +kernel
theorem dX5_shut_26 : decode cX5_shut 26 = .ok (.aload_n 0, 1) := by decide +kernel
theorem dX5_shut_27 : decode cX5_shut 27 = .ok (.getfield 26, 3) := by decide +kernel
theorem dX5_shut_30 : decode cX5_shut 30 = .ok (.iload_n 1, 1) := by decide +kernel
theorem dX5_shut_31 : decode cX5_shut 31 = .ok (.iload_n 2, 1) := by decide +kernel
theorem dX5_shut_32 : decode cX5_shut 32 = .ok (.bastore, 1) := by decide +kernel
theorem dX5_shut_33 : decode cX5_shut 33 = .ok (.aload_n 0, 1) := by decide +kernel
theorem dX5_shut_34 : decode cX5_shut 34 = .ok (.iconst 0, 1) := by decide +kernel
theorem dX5_shut_35 : decode cX5_shut 35 = .ok (.putfield 95, 3) := by decide +kernel
theorem dX5_shut_38 : decode cX5_shut 38 = .ok (.iload_n 3, 1) := by decide +kernel
theorem dX5_shut_39 : decode cX5_shut 39 = .ok (.ireturn, 1) := by decide +kernel
theorem dX5_inlet_0 : decode cX5_inlet 0 = .ok (.aload_n 0, 1) := by decide +kernel
theorem dX5_inlet_1 : decode cX5_inlet 1 = .ok (.iload_n 1, 1) := by decide +kernel
theorem dX5_inlet_2 : decode cX5_inlet 2 = .ok (.invokevirtual 99, 3) := by decide +kernel
theorem dX5_inlet_5 : decode cX5_inlet 5 = .ok (.ifCond .ne 5, 3) := by decide +kernel
theorem dX5_inlet_8 : decode cX5_inlet 8 = .ok (.iconst (-1), 1) := by decide +kernel
theorem dX5_inlet_9 : decode cX5_inlet 9 = .ok (.ireturn, 1) := by decide +kernel
theorem dX5_inlet_10 : decode cX5_inlet 10 = .ok (.aload_n 0, 1) := by decide +kernel
theorem dX5_inlet_11 : decode cX5_inlet 11 = .ok (.getfield 13, 3) := by decide +kernel
theorem dX5_inlet_14 : decode cX5_inlet 14 = .ok (.iload_n 1, 1) := by decide +kernel
theorem dX5_inlet_15 : decode cX5_inlet 15 = .ok (.baload, 1) := by decide +kernel
theorem dX5_inlet_16 : decode cX5_inlet 16 = .ok (.iload_n 2, 1) := by decide +kernel
theorem dX5_inlet_17 : decode cX5_inlet 17 = .ok (.if_icmp .ne 7, 3) := by decide +kernel
theorem dX5_inlet_20 : decode cX5_inlet 20 = .ok (.iconst 0, 1) := by decide +kernel
theorem dX5_inlet_21 : decode cX5_inlet 21 = .ok (.goto 4, 3) := by decide +kernel
theorem dX5_inlet_24 : decode cX5_inlet 24 = .ok (.iconst 1, 1) := by decide +kernel
theorem dX5_inlet_25 : decode cX5_inlet 25 = .ok (.istore_n 3, 1) := by decide +kernel
theorem dX5_inlet_26 : decode cX5_inlet 26 = .ok (.aload_n 0, 1) := by decide +kernel
theorem dX5_inlet_27 : decode cX5_inlet 27 = .ok (.getfield 13, 3) := by decide +kernel
theorem dX5_inlet_30 : decode cX5_inlet 30 = .ok (.iload_n 1, 1) := by decide +kernel
theorem dX5_inlet_31 : decode cX5_inlet 31 = .ok (.iload_n 2, 1) := by decide +kernel
theorem dX5_inlet_32 : decode cX5_inlet 32 = .ok (.bastore, 1) := by decide +kernel
theorem dX5_inlet_33 : decode cX5_inlet 33 = .ok (.aload_n 0, 1) := by decide +kernel
theorem dX5_inlet_34 : decode cX5_inlet 34 = .ok (.iconst 0, 1) := by decide +kernel
theorem dX5_inlet_35 : decode cX5_inlet 35 = .ok (.putfield 95, 3) := by decide +kernel
theorem dX5_inlet_38 : decode cX5_inlet 38 = .ok (.iload_n 3, 1) := by decide +kernel
theorem dX5_inlet_39 : decode cX5_inlet 39 = .ok (.ireturn, 1) := by decide +kernel
theorem dX5_trapping_0 : decode cX5_trapping 0 = .ok (.aload_n 0, 1) := by decide +kernel
theorem dX5_trapping_1 : decode cX5_trapping 1 = .ok (.getfield 107, 3) := by decide +kernel
theorem dX5_trapping_4 : decode cX5_trapping 4 = .ok (.iload_n 1, 1) := by decide +kernel
theorem dX5_trapping_5 : decode cX5_trapping 5 = .ok (.if_icmp .ne 7, 3) := by decide +kernel
theorem dX5_trapping_8 : decode cX5_trapping 8 = .ok (.iconst 0, 1) := by decide +kernel
theorem dX5_trapping_9 : decode cX5_trapping 9 = .ok (.goto 4, 3) := by decide +kernel
theorem dX5_trapping_12 : decode cX5_trapping 12 = .ok (.iconst 1, 1) := by decide +kernel
theorem dX5_trapping_13 : decode cX5_trapping 13 = .ok (.istore_n 2, 1) := by decide +kernel
theorem dX5_trapping_14 : decode cX5_trapping 14 = .ok (.aload_n 0, 1) := by decide +kernel
theorem dX5_trapping_15 : decode cX5_trapping 15 = .ok (.iload_n 1, 1) := by decide +kernel
theorem dX5_trapping_16 : decode cX5_trapping 16 = .ok (.putfield 107, 3) := by decide +kernel
theorem dX5_trapping_19 : decode cX5_trapping 19 = .ok (.aload_n 0, 1) := by decide +kernel
theorem dX5_trapping_20 : decode cX5_trapping 20 = .ok (.iconst 0, 1) := by decide +kernel
theorem dX5_trapping_21 : decode cX5_trapping 21 = .ok (.putfield 95, 3) := by decide +kernel
theorem dX5_trapping_24 : decode cX5_trapping 24 = .ok (.iload_n 2, 1) := by decide +kernel
theorem dX5_trapping_25 : decode cX5_trapping 25 = .ok (.ireturn, 1) := by decide +kernel
theorem dX5_isLess_0 : decode cX5_isLess 0 = .ok (.aload_n 0, 1) := by decide +kernel
theorem dX5_isLess_1 : decode cX5_isLess 1 = .ok (.getfield 23, 3) := by decide +kernel
theorem dX5_isLess_4 : decode cX5_isLess 4 = .ok (.iload_n 1, 1) := by decide +kernel
theorem dX5_isLess_5 : decode cX5_isLess 5 = .ok (.iaload, 1) := by decide +kernel
theorem dX5_isLess_6 : decode cX5_isLess 6 = .ok (.aload_n 0, 1) := by decide +kernel
theorem dX5_isLess_7 : decode cX5_isLess 7 = .ok (.getfield 23, 3) := by decide +kernel
theorem dX5_isLess_10 : decode cX5_isLess 10 = .ok (.iload_n 2, 1) := by decide +kernel
theorem dX5_isLess_11 : decode cX5_isLess 11 = .ok (.iaload, 1) := by decide +kernel
theorem dX5_isLess_12 : decode cX5_isLess 12 = .ok (.if_icmp .lt 23, 3) := by decide +kernel
theorem dX5_isLess_15 : decode cX5_isLess 15 = .ok (.aload_n 0, 1) := by decide +kernel
theorem dX5_isLess_16 : decode cX5_isLess 16 = .ok (.getfield 23, 3) := by decide +kernel
theorem dX5_isLess_19 : decode cX5_isLess 19 = .ok (.iload_n 1, 1) := by decide +kernel
theorem dX5_isLess_20 : decode cX5_isLess 20 = .ok (.iaload, 1) := by decide +kernel
theorem dX5_isLess_21 : decode cX5_isLess 21 = .ok (.aload_n 0, 1) := by decide +kernel
theorem dX5_isLess_22 : decode cX5_isLess 22 = .ok (.getfield 23, 3) := by decide +kernel
theorem dX5_isLess_25 : decode cX5_isLess 25 = .ok (.iload_n 2, 1) := by decide +kernel
theorem dX5_isLess_26 : decode cX5_isLess 26 = .ok (.iaload, 1) := by decide +kernel
theorem dX5_isLess_27 : decode cX5_isLess 27 = .ok (.if_icmp .ne 12, 3) := by decide +kernel
theorem dX5_isLess_30 : decode cX5_isLess 30 = .ok (.iload_n 1, 1) := by decide +kernel
theorem dX5_isLess_31 : decode cX5_isLess 31 = .ok (.iload_n 2, 1) := by decide +kernel
theorem dX5_isLess_32 : decode cX5_isLess 32 = .ok (.if_icmp .ge 7, 3) := by decide +kernel
theorem dX5_isLess_35 : decode cX5_isLess 35 = .ok (.iconst 1, 1) := by decide +kernel
theorem dX5_isLess_36 : decode cX5_isLess 36 = .ok (.goto 4, 3) := by decide +kernel
theorem dX5_isLess_39 : decode cX5_isLess 39 = .ok (.iconst 0, 1) := by decide +kernel
theorem dX5_isLess_40 : decode cX5_isLess 40 = .ok (.ireturn, 1) := by decide +kernel
theorem dX5_rank_0 : decode cX5_rank 0 = .ok (.iconst 0, 1) := by decide +kernel
theorem dX5_rank_1 : decode cX5_rank 1 = .ok (.istore_n 2, 1) := by decide +kernel
theorem dX5_rank_2 : decode cX5_rank 2 = .ok (.iconst 0, 1) := by decide +kernel
theorem dX5_rank_3 : decode cX5_rank 3 = .ok (.istore_n 3, 1) := by decide +kernel
theorem dX5_rank_4 : decode cX5_rank 4 = .ok (.iload_n 3, 1) := by decide +kernel
theorem dX5_rank_5 : decode cX5_rank 5 = .ok (.aload_n 0, 1) := by decide +kernel
theorem dX5_rank_6 : decode cX5_rank 6 = .ok (.getfield 92, 3) := by decide +kernel
theorem dX5_rank_9 : decode cX5_rank 9 = .ok (.if_icmp .ge 35, 3) := by decide +kernel
theorem dX5_rank_12 : decode cX5_rank 12 = .ok (.iload_n 2, 1) := by decide +kernel
theorem dX5_rank_13 : decode cX5_rank 13 = .ok (.aload_n 0, 1) := by decide +kernel
theorem dX5_rank_14 : decode cX5_rank 14 = .ok (.getfield 26, 3) := by decide +kernel
theorem dX5_rank_17 : decode cX5_rank 17 = .ok (.iload_n 3, 1) := by decide +kernel
theorem dX5_rank_18 : decode cX5_rank 18 = .ok (.baload, 1) := by decide +kernel
theorem dX5_rank_19 : decode cX5_rank 19 = .ok (.ifCond .ne 16, 3) := by decide +kernel
