theorem dX2_init_15 : decode cX2_init 15 = .ok (.newarray .boolean, 2) := by decide +kernel
theorem dX2_init_17 : decode cX2_init 17 = .ok (.putfield 15, 3) := by decide +kernel
theorem dX2_init_20 : decode cX2_init 20 = .ok (.aload_n 0, 1) := by decide +kernel
theorem dX2_init_21 : decode cX2_init 21 = .ok (.sipush 300, 3) := by decide +kernel
theorem dX2_init_24 : decode cX2_init 24 = .ok (.newarray .int, 2) := by decide +kernel
theorem dX2_init_26 : decode cX2_init 26 = .ok (.putfield 19, 3) := by decide +kernel
theorem dX2_init_29 : decode cX2_init 29 = .ok (.aload_n 0, 1) := by decide +kernel
theorem dX2_init_30 : decode cX2_init 30 = .ok (.sipush 300, 3) := by decide +kernel
theorem dX2_init_33 : decode cX2_init 33 = .ok (.newarray .int, 2) := by decide +kernel
theorem dX2_init_35 : decode cX2_init 35 = .ok (.putfield 22, 3) := by decide +kernel
theorem dX2_init_38 : decode cX2_init 38 = .ok (.aload_n 0, 1) := by decide +kernel
theorem dX2_init_39 : decode cX2_init 39 = .ok (.sipush 300, 3) := by decide +kernel
theorem dX2_init_42 : decode cX2_init 42 = .ok (.newarray .int, 2) := by decide +kernel
theorem dX2_init_44 : decode cX2_init 44 = .ok (.putfield 25, 3) := by decide +kernel
theorem dX2_init_47 : decode cX2_init 47 = .ok (.aload_n 0, 1) := by decide +kernel
theorem dX2_init_48 : decode cX2_init 48 = .ok (.sipush 300, 3) := by decide +kernel
theorem dX2_init_51 : decode cX2_init 51 = .ok (.newarray .int, 2) := by decide +kernel
theorem dX2_init_53 : decode cX2_init 53 = .ok (.putfield 28, 3) := by decide +kernel
theorem dX2_init_56 : decode cX2_init 56 = .ok (.aload_n 0, 1) := by decide +kernel
theorem dX2_init_57 : decode cX2_init 57 = .ok (.sipush 300, 3) := by decide +kernel
theorem dX2_init_60 : decode cX2_init 60 = .ok (.newarray .int, 2) := by decide +kernel
theorem dX2_init_62 : decode cX2_init 62 = .ok (.putfield 31, 3) := by decide +kernel
theorem dX2_init_65 : decode cX2_init 65 = .ok (.aload_n 0, 1) := by decide +kernel
theorem dX2_init_66 : decode cX2_init 66 = .ok (.bipush 121, 2) := by decide +kernel
theorem dX2_init_68 : decode cX2_init 68 = .ok (.newarray .int, 2) := by decide +kernel
theorem dX2_init_70 : decode cX2_init 70 = .ok (.putfield 34, 3) := by decide +kernel
theorem dX2_init_73 : decode cX2_init 73 = .ok (.aload_n 0, 1) := by decide +kernel
theorem dX2_init_74 : decode cX2_init 74 = .ok (.sipush 600, 3) := by decide +kernel
theorem dX2_init_77 : decode cX2_init 77 = .ok (.newarray .int, 2) := by decide +kernel
theorem dX2_init_79 : decode cX2_init 79 = .ok (.putfield 37, 3) := by decide +kernel
theorem dX2_init_82 : decode cX2_init 82 = .ok (.return_, 1) := by decide +kernel
theorem dX2_hasPore_0 : decode cX2_hasPore 0 = .ok (.iload_n 1, 1) := by decide +kernel
theorem dX2_hasPore_1 : decode cX2_hasPore 1 = .ok (.ifCond .lt 15, 3) := by decide +kernel
theorem dX2_hasPore_4 : decode cX2_hasPore 4 = .ok (.iload_n 1, 1) := by decide +kernel
theorem dX2_hasPore_5 : decode cX2_hasPore 5 = .ok (.aload_n 0, 1) := by decide +kernel
theorem dX2_hasPore_6 : decode cX2_hasPore 6 = .ok (.getfield 40, 3) := by decide +kernel
theorem dX2_hasPore_9 : decode cX2_hasPore 9 = .ok (.if_icmp .ge 7, 3) := by decide +kernel
theorem dX2_hasPore_12 : decode cX2_hasPore 12 = .ok (.iconst 1, 1) := by decide +kernel
theorem dX2_hasPore_13 : decode cX2_hasPore 13 = .ok (.goto 4, 3) := by decide +kernel
theorem dX2_hasPore_16 : decode cX2_hasPore 16 = .ok (.iconst 0, 1) := by decide +kernel
theorem dX2_hasPore_17 : decode cX2_hasPore 17 = .ok (.ireturn, 1) := by decide +kernel
theorem dX2_hasThroat_0 : decode cX2_hasThroat 0 = .ok (.iload_n 1, 1) := by decide +kernel
theorem dX2_hasThroat_1 : decode cX2_hasThroat 1 = .ok (.ifCond .lt 15, 3) := by decide +kernel
theorem dX2_hasThroat_4 : decode cX2_hasThroat 4 = .ok (.iload_n 1, 1) := by decide +kernel
theorem dX2_hasThroat_5 : decode cX2_hasThroat 5 = .ok (.aload_n 0, 1) := by decide +kernel
theorem dX2_hasThroat_6 : decode cX2_hasThroat 6 = .ok (.getfield 44, 3) := by decide +kernel
theorem dX2_hasThroat_9 : decode cX2_hasThroat 9 = .ok (.if_icmp .ge 7, 3) := by decide +kernel
theorem dX2_hasThroat_12 : decode cX2_hasThroat 12 = .ok (.iconst 1, 1) := by decide +kernel
theorem dX2_hasThroat_13 : decode cX2_hasThroat 13 = .ok (.goto 4, 3) := by decide +kernel
theorem dX2_hasThroat_16 : decode cX2_hasThroat 16 = .ok (.iconst 0, 1) := by decide +kernel
theorem dX2_hasThroat_17 : decode cX2_hasThroat 17 = .ok (.ireturn, 1) := by decide +kernel
theorem dX2_isOpen_0 : decode cX2_isOpen 0 = .ok (.aload_n 0, 1) := by decide +kernel
theorem dX2_isOpen_1 : decode cX2_isOpen 1 = .ok (.getfield 28, 3) := by decide +kernel
theorem dX2_isOpen_4 : decode cX2_isOpen 4 = .ok (.iload_n 1, 1) := by decide +kernel
theorem dX2_isOpen_5 : decode cX2_isOpen 5 = .ok (.iaload, 1) := by decide +kernel
theorem dX2_isOpen_6 : decode cX2_isOpen 6 = .ok (.ifCond .lt 7, 3) := by decide +kernel
theorem dX2_isOpen_9 : decode cX2_isOpen 9 = .ok (.iconst 1, 1) := by decide +kernel
theorem dX2_isOpen_10 : decode cX2_isOpen 10 = .ok (.goto 4, 3) := by decide +kernel
theorem dX2_isOpen_13 : decode cX2_isOpen 13 = .ok (.iconst 0, 1) := by decide +kernel
theorem dX2_isOpen_14 : decode cX2_isOpen 14 = .ok (.ireturn, 1) := by decide +kernel
theorem dX2_across_0 : decode cX2_across 0 = .ok (.aload_n 0, 1) := by decide +kernel
theorem dX2_across_1 : decode cX2_across 1 = .ok (.getfield 19, 3) := by decide +kernel
theorem dX2_across_4 : decode cX2_across 4 = .ok (.iload_n 1, 1) := by decide +kernel
theorem dX2_across_5 : decode cX2_across 5 = .ok (.iaload, 1) := by decide +kernel
theorem dX2_across_6 : decode cX2_across 6 = .ok (.iload_n 2, 1) := by decide +kernel
theorem dX2_across_7 : decode cX2_across 7 = .ok (.if_icmp .ne 12, 3) := by decide +kernel
theorem dX2_across_10 : decode cX2_across 10 = .ok (.aload_n 0, 1) := by decide +kernel
theorem dX2_across_11 : decode cX2_across 11 = .ok (.getfield 22, 3) := by decide +kernel
theorem dX2_across_14 : decode cX2_across 14 = .ok (.iload_n 1, 1) := by decide +kernel
theorem dX2_across_15 : decode cX2_across 15 = .ok (.iaload, 1) := by decide +kernel
theorem dX2_across_16 : decode cX2_across 16 = .ok (.goto 9, 3) := by decide +kernel
theorem dX2_across_19 : decode cX2_across 19 = .ok (.aload_n 0, 1) := by decide +kernel
theorem dX2_across_20 : decode cX2_across 20 = .ok (.getfield 19, 3) := by decide +kernel
theorem dX2_across_23 : decode cX2_across 23 = .ok (.iload_n 1, 1) := by decide +kernel
theorem dX2_across_24 : decode cX2_across 24 = .ok (.iaload, 1) := by decide +kernel
theorem dX2_across_25 : decode cX2_across 25 = .ok (.ireturn, 1) := by decide +kernel
theorem dX2_addPore_0 : decode cX2_addPore 0 = .ok (.aload_n 0, 1) := by decide +kernel
theorem dX2_addPore_1 : decode cX2_addPore 1 = .ok (.getfield 40, 3) := by decide +kernel
theorem dX2_addPore_4 : decode cX2_addPore 4 = .ok (.istore_n 2, 1) := by decide +kernel
theorem dX2_addPore_5 : decode cX2_addPore 5 = .ok (.aload_n 0, 1) := by decide +kernel
theorem dX2_addPore_6 : decode cX2_addPore 6 = .ok (.dup, 1) := by decide +kernel
theorem dX2_addPore_7 : decode cX2_addPore 7 = .ok (.getfield 40, 3) := by decide +kernel
theorem dX2_addPore_10 : decode cX2_addPore 10 = .ok (.iconst 1, 1) := by decide +kernel
theorem dX2_addPore_11 : decode cX2_addPore 11 = .ok (.iadd, 1) := by decide +kernel
theorem dX2_addPore_12 : decode cX2_addPore 12 = .ok (.putfield 40, 3) := by decide +kernel
theorem dX2_addPore_15 : decode cX2_addPore 15 = .ok (.aload_n 0, 1) := by decide +kernel
theorem dX2_addPore_16 : decode cX2_addPore 16 = .ok (.getfield 9, 3) := by decide +kernel
theorem dX2_addPore_19 : decode cX2_addPore 19 = .ok (.iload_n 2, 1) := by decide +kernel
theorem dX2_addPore_20 : decode cX2_addPore 20 = .ok (.iload_n 1, 1) := by decide +kernel
theorem dX2_addPore_21 : decode cX2_addPore 21 = .ok (.iastore, 1) := by decide +kernel
theorem dX2_addPore_22 : decode cX2_addPore 22 = .ok (.aload_n 0, 1) := by decide +kernel
theorem dX2_addPore_23 : decode cX2_addPore 23 = .ok (.getfield 34, 3) := by decide +kernel
theorem dX2_addPore_26 : decode cX2_addPore 26 = .ok (.aload_n 0, 1) := by decide +kernel
theorem dX2_addPore_27 : decode cX2_addPore 27 = .ok (.getfield 40, 3) := by decide +kernel
theorem dX2_addPore_30 : decode cX2_addPore 30 = .ok (.aload_n 0, 1) := by decide +kernel
theorem dX2_addPore_31 : decode cX2_addPore 31 = .ok (.getfield 34, 3) := by decide +kernel
theorem dX2_addPore_34 : decode cX2_addPore 34 = .ok (.iload_n 2, 1) := by decide +kernel
theorem dX2_addPore_35 : decode cX2_addPore 35 = .ok (.iaload, 1) := by decide +kernel
theorem dX2_addPore_36 : decode cX2_addPore 36 = .ok (.iastore, 1) := by decide +kernel
theorem dX2_addPore_37 : decode cX2_addPore 37 = .ok (.iload_n 2, 1) := by decide +kernel
theorem dX2_addPore_38 : decode cX2_addPore 38 = .ok (.ireturn, 1) := by decide +kernel
theorem dX2_addThroat_0 : decode cX2_addThroat 0 = .ok (.aload_n 0, 1) := by decide +kernel
theorem dX2_addThroat_1 : decode cX2_addThroat 1 = .ok (.getfield 44, 3) := by decide +kernel
theorem dX2_addThroat_4 : decode cX2_addThroat 4 = .ok (.istore_n 3, 1) := by decide +kernel
theorem dX2_addThroat_5 : decode cX2_addThroat 5 = .ok (.aload_n 0, 1) := by decide +kernel
theorem dX2_addThroat_6 : decode cX2_addThroat 6 = .ok (.dup, 1) := by decide +kernel
theorem dX2_addThroat_7 : decode cX2_addThroat 7 = .ok (.getfield 44, 3) := by decide +kernel
theorem dX2_addThroat_10 : decode cX2_addThroat 10 = .ok (.iconst 1, 1) := by decide +kernel
theorem dX2_addThroat_11 : decode cX2_addThroat 11 = .ok (.iadd, 1) := by decide +kernel
theorem dX2_addThroat_12 : decode cX2_addThroat 12 = .ok (.putfield 44, 3) := by decide +kernel
theorem dX2_addThroat_15 : decode cX2_addThroat 15 = .ok (.aload_n 0, 1) := by decide +kernel
theorem dX2_addThroat_16 : decode cX2_addThroat 16 = .ok (.getfield 19, 3) := by decide +kernel
theorem dX2_addThroat_19 : decode cX2_addThroat 19 = .ok (.iload_n 3, 1) := by decide +kernel
theorem dX2_addThroat_20 : decode cX2_addThroat 20 = .ok (.iload_n 1, 1) := by decide +kernel
theorem dX2_addThroat_21 : decode cX2_addThroat 21 = .ok (.iastore, 1) := by decide +kernel
theorem dX2_addThroat_22 : decode cX2_addThroat 22 = .ok (.aload_n 0, 1) := by decide +kernel
theorem dX2_addThroat_23 : decode cX2_addThroat 23 = .ok (.getfield 22, 3) := by decide +kernel
theorem dX2_addThroat_26 : decode cX2_addThroat 26 = .ok (.iload_n 3, 1) := by decide +kernel
theorem dX2_addThroat_27 : decode cX2_addThroat 27 = .ok (.iload_n 2, 1) := by decide +kernel
theorem dX2_addThroat_28 : decode cX2_addThroat 28 = .ok (.iastore, 1) := by decide +kernel
theorem dX2_addThroat_29 : decode cX2_addThroat 29 = .ok (.aload_n 0, 1) := by decide +kernel
theorem dX2_addThroat_30 : decode cX2_addThroat 30 = .ok (.iload_n 1, 1) := by decide +kernel
theorem dX2_addThroat_31 : decode cX2_addThroat 31 = .ok (.iload_n 3, 1) := by decide +kernel
theorem dX2_addThroat_32 : decode cX2_addThroat 32 = .ok (.invokevirtual 47, 3) := by decide +kernel
theorem dX2_addThroat_35 : decode cX2_addThroat 35 = .ok (.aload_n 0, 1) := by decide +kernel
theorem dX2_addThroat_36 : decode cX2_addThroat 36 = .ok (.iload_n 2, 1) := by decide +kernel
theorem dX2_addThroat_37 : decode cX2_addThroat 37 = .ok (.iload_n 3, 1) := by decide +kernel
theorem dX2_addThroat_38 : decode cX2_addThroat 38 = .ok (.invokevirtual 47, 3) := by decide +kernel
theorem dX2_addThroat_41 : decode cX2_addThroat 41 = .ok (.aload_n 0, 1) := by decide +kernel
theorem dX2_addThroat_42 : decode cX2_addThroat 42 = .ok (.iload_n 3, 1) := by decide +kernel
theorem dX2_addThroat_43 : decode cX2_addThroat 43 = .ok (.invokevirtual 51, 3) := by decide +kernel
theorem dX2_addThroat_46 : decode cX2_addThroat 46 = .ok (.iload_n 3, 1) := by decide +kernel
theorem dX2_addThroat_47 : decode cX2_addThroat 47 = .ok (.ireturn, 1) := by decide +kernel
theorem dX2_settle_0 : decode cX2_settle 0 = .ok (.aload_n 0, 1) := by decide +kernel
theorem dX2_settle_1 : decode cX2_settle 1 = .ok (.iload_n 1, 1) := by decide +kernel
theorem dX2_settle_2 : decode cX2_settle 2 = .ok (.invokevirtual 55, 3) := by decide +kernel
theorem dX2_settle_5 : decode cX2_settle 5 = .ok (.ifCond .eq 8, 3) := by decide +kernel
theorem dX2_settle_8 : decode cX2_settle 8 = .ok (.aload_n 0, 1) := by decide +kernel
theorem dX2_settle_9 : decode cX2_settle 9 = .ok (.iload_n 1, 1) := by decide +kernel
theorem dX2_settle_10 : decode cX2_settle 10 = .ok (.invokevirtual 59, 3) := by decide +kernel
theorem dX2_settle_13 : decode cX2_settle 13 = .ok (.aload_n 0, 1) := by decide +kernel
theorem dX2_settle_14 : decode cX2_settle 14 = .ok (.getfield 25, 3) := by decide +kernel
theorem dX2_settle_17 : decode cX2_settle 17 = .ok (.iload_n 1, 1) := by decide +kernel
theorem dX2_settle_18 : decode cX2_settle 18 = .ok (.iload_n 2, 1) := by decide +kernel
theorem dX2_settle_19 : decode cX2_settle 19 = .ok (.iastore, 1) := by decide +kernel
theorem dX2_settle_20 : decode cX2_settle 20 = .ok (.iload_n 3, 1) := by decide +kernel
theorem dX2_settle_21 : decode cX2_settle 21 = .ok (.ifCond .eq 8, 3) := by decide +kernel
theorem dX2_settle_24 : decode cX2_settle 24 = .ok (.aload_n 0, 1) := by decide +kernel
theorem dX2_settle_25 : decode cX2_settle 25 = .ok (.iload_n 1, 1) := by decide +kernel
theorem dX2_settle_26 : decode cX2_settle 26 = .ok (.invokevirtual 51, 3) := by decide +kernel
theorem dX2_settle_29 : decode cX2_settle 29 = .ok (.return_, 1) := by decide +kernel
theorem dX2_listAt_0 : decode cX2_listAt 0 = .ok (.aload_n 0, 1) := by decide +kernel
theorem dX2_listAt_1 : decode cX2_listAt 1 = .ok (.getfield 34, 3) := by decide +kernel
theorem dX2_listAt_4 : decode cX2_listAt 4 = .ok (.iload_n 1, 1) := by decide +kernel
theorem dX2_listAt_5 : decode cX2_listAt 5 = .ok (.iconst 1, 1) := by decide +kernel
theorem dX2_listAt_6 : decode cX2_listAt 6 = .ok (.iadd, 1) := by decide +kernel
theorem dX2_listAt_7 : decode cX2_listAt 7 = .ok (.iaload, 1) := by decide +kernel
theorem dX2_listAt_8 : decode cX2_listAt 8 = .ok (.istore_n 3, 1) := by decide +kernel
theorem dX2_listAt_9 : decode cX2_listAt 9 = .ok (.aload_n 0, 1) := by decide +kernel
theorem dX2_listAt_10 : decode cX2_listAt 10 = .ok (.getfield 34, 3) := by decide +kernel
theorem dX2_listAt_13 : decode cX2_listAt 13 = .ok (.aload_n 0, 1) := by decide +kernel
theorem dX2_listAt_14 : decode cX2_listAt 14 = .ok (.getfield 40, 3) := by decide +kernel
theorem dX2_listAt_17 : decode cX2_listAt 17 = .ok (.iaload, 1) := by decide +kernel
theorem dX2_listAt_18 : decode cX2_listAt 18 = .ok (.istore 4, 2) := by decide +kernel
theorem dX2_listAt_20 : decode cX2_listAt 20 = .ok (.iload 4, 2) := by decide +kernel
theorem dX2_listAt_22 : decode cX2_listAt 22 = .ok (.iload_n 3, 1) := by decide +kernel
theorem dX2_listAt_23 : decode cX2_listAt 23 = .ok (.if_icmp .le 25, 3) := by decide +kernel
theorem dX2_listAt_26 : decode cX2_listAt 26 = .ok (.aload_n 0, 1) := by decide +kernel
theorem dX2_listAt_27 : decode cX2_listAt 27 = .ok (.getfield 37, 3) := by decide +kernel
theorem dX2_listAt_30 : decode cX2_listAt 30 = .ok (.iload 4, 2) := by decide +kernel
theorem dX2_listAt_32 : decode cX2_listAt 32 = .ok (.aload_n 0, 1) := by decide +kernel
theorem dX2_listAt_33 : decode cX2_listAt 33 = .ok (.getfield 37, 3) := by decide +kernel
theorem dX2_listAt_36 : decode cX2_listAt 36 = .ok (.iload 4, 2) := by decide +kernel
theorem dX2_listAt_38 : decode cX2_listAt 38 = .ok (.iconst 1, 1) := by decide +kernel
theorem dX2_listAt_39 : decode cX2_listAt 39 = .ok (.isub, 1) := by decide +kernel
theorem dX2_listAt_40 : decode cX2_listAt 40 = .ok (.iaload, 1) := by decide +kernel
theorem dX2_listAt_41 : decode cX2_listAt 41 = .ok (.iastore, 1) := by decide +kernel
theorem dX2_listAt_42 : decode cX2_listAt 42 = .ok (.iinc 4 (-1), 3) := by decide +kernel
theorem dX2_listAt_45 : decode cX2_listAt 45 = .ok (.goto (-25), 3) := by decide +kernel
theorem dX2_listAt_48 : decode cX2_listAt 48 = .ok (.aload_n 0, 1) := by decide +kernel
theorem dX2_listAt_49 : decode cX2_listAt 49 = .ok (.getfield 37, 3) := by decide +kernel
theorem dX2_listAt_52 : decode cX2_listAt 52 = .ok (.iload_n 3, 1) := by decide +kernel
theorem dX2_listAt_53 : decode cX2_listAt 53 = .ok (.iload_n 2, 1) := by decide +kernel
theorem dX2_listAt_54 : decode cX2_listAt 54 = .ok (.iastore, 1) := by decide +kernel
theorem dX2_listAt_55 : decode cX2_listAt 55 = .ok (.iload_n 1, 1) := by decide +kernel
theorem dX2_listAt_56 : decode cX2_listAt 56 = .ok (.iconst 1, 1) := by decide +kernel
theorem dX2_listAt_57 : decode cX2_listAt 57 = .ok (.iadd, 1) := by decide +kernel
theorem dX2_listAt_58 : decode cX2_listAt 58 = .ok (.istore 4, 2) := by decide +kernel
theorem dX2_listAt_60 : decode cX2_listAt 60 = .ok (.iload 4, 2) := by decide +kernel
theorem dX2_listAt_62 : decode cX2_listAt 62 = .ok (.aload_n 0, 1) := by decide +kernel
theorem dX2_listAt_63 : decode cX2_listAt 63 = .ok (.getfield 40, 3) := by decide +kernel
theorem dX2_listAt_66 : decode cX2_listAt 66 = .ok (.if_icmp .gt 20, 3) := by decide +kernel
theorem dX2_listAt_69 : decode cX2_listAt 69 = .ok (.aload_n 0, 1) := by decide +kernel
theorem dX2_listAt_70 : decode cX2_listAt 70 = .ok (.getfield 34, 3) := by decide +kernel
theorem dX2_listAt_73 : decode cX2_listAt 73 = .ok (.iload 4, 2) := by decide +kernel
theorem dX2_listAt_75 : decode cX2_listAt 75 = .ok (.dup2, 1) := by decide +kernel
theorem dX2_listAt_76 : decode cX2_listAt 76 = .ok (.iaload, 1) := by decide +kernel
theorem dX2_listAt_77 : decode cX2_listAt 77 = .ok (.iconst 1, 1) := by decide +kernel
theorem dX2_listAt_78 : decode cX2_listAt 78 = .ok (.iadd, 1) := by decide +kernel
theorem dX2_listAt_79 : decode cX2_listAt 79 = .ok (.iastore, 1) := by decide +kernel
theorem dX2_listAt_80 : decode cX2_listAt 80 = .ok (.iinc 4 1, 3) := by decide +kernel
theorem dX2_listAt_83 : decode cX2_listAt 83 = .ok (.goto (-23), 3) := by decide +kernel
theorem dX2_listAt_86 : decode cX2_listAt 86 = .ok (.return_, 1) := by decide +kernel
theorem dX2_rankOut_0 : decode cX2_rankOut 0 = .ok (.aload_n 0, 1) := by decide +kernel
theorem dX2_rankOut_1 : decode cX2_rankOut 1 = .ok (.dup, 1) := by decide +kernel
theorem dX2_rankOut_2 : decode cX2_rankOut 2 = .ok (.getfield 62, 3) := by decide +kernel
theorem dX2_rankOut_5 : decode cX2_rankOut 5 = .ok (.iconst 1, 1) := by decide +kernel
theorem dX2_rankOut_6 : decode cX2_rankOut 6 = .ok (.isub, 1) := by decide +kernel
theorem dX2_rankOut_7 : decode cX2_rankOut 7 = .ok (.putfield 62, 3) := by decide +kernel
theorem dX2_rankOut_10 : decode cX2_rankOut 10 = .ok (.aload_n 0, 1) := by decide +kernel
theorem dX2_rankOut_11 : decode cX2_rankOut 11 = .ok (.getfield 28, 3) := by decide +kernel
theorem dX2_rankOut_14 : decode cX2_rankOut 14 = .ok (.iload_n 1, 1) := by decide +kernel
theorem dX2_rankOut_15 : decode cX2_rankOut 15 = .ok (.iaload, 1) := by decide +kernel
theorem dX2_rankOut_16 : decode cX2_rankOut 16 = .ok (.istore_n 2, 1) := by decide +kernel
theorem dX2_rankOut_17 : decode cX2_rankOut 17 = .ok (.iload_n 2, 1) := by decide +kernel
theorem dX2_rankOut_18 : decode cX2_rankOut 18 = .ok (.aload_n 0, 1) := by decide +kernel
theorem dX2_rankOut_19 : decode cX2_rankOut 19 = .ok (.getfield 62, 3) := by decide +kernel
theorem dX2_rankOut_22 : decode cX2_rankOut 22 = .ok (.if_icmp .ge 22, 3) := by decide +kernel
theorem dX2_rankOut_25 : decode cX2_rankOut 25 = .ok (.aload_n 0, 1) := by decide +kernel
theorem dX2_rankOut_26 : decode cX2_rankOut 26 = .ok (.aload_n 0, 1) := by decide +kernel
theorem dX2_rankOut_27 : decode cX2_rankOut 27 = .ok (.getfield 31, 3) := by decide +kernel
theorem dX2_rankOut_30 : decode cX2_rankOut 30 = .ok (.iload_n 2, 1) := by decide +kernel
theorem dX2_rankOut_31 : decode cX2_rankOut 31 = .ok (.iconst 1, 1) := by decide +kernel
theorem dX2_rankOut_32 : decode cX2_rankOut 32 = .ok (.iadd, 1) := by decide +kernel
theorem dX2_rankOut_33 : decode cX2_rankOut 33 = .ok (.iaload, 1) := by decide +kernel
theorem dX2_rankOut_34 : decode cX2_rankOut 34 = .ok (.iload_n 2, 1) := by decide +kernel
theorem dX2_rankOut_35 : decode cX2_rankOut 35 = .ok (.invokevirtual 65, 3) := by decide +kernel
theorem dX2_rankOut_38 : decode cX2_rankOut 38 = .ok (.iinc 2 1, 3) := by decide +kernel
theorem dX2_rankOut_41 : decode cX2_rankOut 41 = .ok (.goto (-24), 3) := by decide +kernel
theorem dX2_rankOut_44 : decode cX2_rankOut 44 = .ok (.aload_n 0, 1) := by decide +kernel
theorem dX2_rankOut_45 : decode cX2_rankOut 45 = .ok (.getfield 28, 3) := by decide +kernel
theorem dX2_rankOut_48 : decode cX2_rankOut 48 = .ok (.iload_n 1, 1) := by decide +kernel
theorem dX2_rankOut_49 : decode cX2_rankOut 49 = .ok (.bipush (-2), 2) := by decide +kernel
theorem dX2_rankOut_51 : decode cX2_rankOut 51 = .ok (.iastore, 1) := by decide +kernel
theorem dX2_rankOut_52 : decode cX2_rankOut 52 = .ok (.return_, 1) := by decide +kernel
theorem dX2_rankIn_0 : decode cX2_rankIn 0 = .ok (.aload_n 0, 1) := by decide +kernel
theorem dX2_rankIn_1 : decode cX2_rankIn 1 = .ok (.getfield 62, 3) := by decide +kernel
theorem dX2_rankIn_4 : decode cX2_rankIn 4 = .ok (.istore_n 2, 1) := by decide +kernel
theorem dX2_rankIn_5 : decode cX2_rankIn 5 = .ok (.iload_n 2, 1) := by decide +kernel
theorem dX2_rankIn_6 : decode cX2_rankIn 6 = .ok (.ifCond .le 38, 3) := by decide +kernel
theorem dX2_rankIn_9 : decode cX2_rankIn 9 = .ok (.aload_n 0, 1) := by decide +kernel
theorem dX2_rankIn_10 : decode cX2_rankIn 10 = .ok (.iload_n 1, 1) := by decide +kernel
theorem dX2_rankIn_11 : decode cX2_rankIn 11 = .ok (.aload_n 0, 1) := by decide +kernel
theorem dX2_rankIn_12 : decode cX2_rankIn 12 = .ok (.getfield 31, 3) := by decide +kernel
theorem dX2_rankIn_15 : decode cX2_rankIn 15 = .ok (.iload_n 2, 1) := by decide +kernel
theorem dX2_rankIn_16 : decode cX2_rankIn 16 = .ok (.iconst 1, 1) := by decide +kernel
theorem dX2_rankIn_17 : decode cX2_rankIn 17 = .ok (.isub, 1) := by decide +kernel
theorem dX2_rankIn_18 : decode cX2_rankIn 18 = .ok (.iaload, 1) := by decide +kernel
theorem dX2_rankIn_19 : decode cX2_rankIn 19 = .ok (.invokevirtual 68, 3) := by decide +kernel
theorem dX2_rankIn_22 : decode cX2_rankIn 22 = .ok (.ifCond .eq 22, 3) := by decide +kernel
theorem dX2_rankIn_25 : decode cX2_rankIn 25 = .ok (.aload_n 0, 1) := by decide +kernel
theorem dX2_rankIn_26 : decode cX2_rankIn 26 = .ok (.aload_n 0, 1) := by decide +kernel
theorem dX2_rankIn_27 : decode cX2_rankIn 27 = .ok (.getfield 31, 3) := by decide +kernel
theorem dX2_rankIn_30 : decode cX2_rankIn 30 = .ok (.iload_n 2, 1) := by decide +kernel
theorem dX2_rankIn_31 : decode cX2_rankIn 31 = .ok (.iconst 1, 1) := by decide +kernel
theorem dX2_rankIn_32 : decode cX2_rankIn 32 = .ok (.isub, 1) := by decide +kernel
theorem dX2_rankIn_33 : decode cX2_rankIn 33 = .ok (.iaload, 1) := by decide +kernel
theorem dX2_rankIn_34 : decode cX2_rankIn 34 = .ok (.iload_n 2, 1) := by decide +kernel
theorem dX2_rankIn_35 : decode cX2_rankIn 35 = .ok (.invokevirtual 65, 3) := by decide +kernel
theorem dX2_rankIn_38 : decode cX2_rankIn 38 = .ok (.iinc 2 (-1), 3) := by decide +kernel
theorem dX2_rankIn_41 : decode cX2_rankIn 41 = .ok (.goto (-36), 3) := by decide +kernel
theorem dX2_rankIn_44 : decode cX2_rankIn 44 = .ok (.aload_n 0, 1) := by decide +kernel
theorem dX2_rankIn_45 : decode cX2_rankIn 45 = .ok (.iload_n 1, 1) := by decide +kernel
theorem dX2_rankIn_46 : decode cX2_rankIn 46 = .ok (.iload_n 2, 1) := by decide +kernel
theorem dX2_rankIn_47 : decode cX2_rankIn 47 = .ok (.invokevirtual 65, 3) := by decide +kernel
theorem dX2_rankIn_50 : decode cX2_rankIn 50 = .ok (.aload_n 0, 1) := by decide +kernel
theorem dX2_rankIn_51 : decode cX2_rankIn 51 = .ok (.dup, 1) := by decide +kernel
theorem dX2_rankIn_52 : decode cX2_rankIn 52 = .ok (.getfield 62, 3) := by decide +kernel
theorem dX2_rankIn_55 : decode cX2_rankIn 55 = .ok (.iconst 1, 1) := by decide +kernel
theorem dX2_rankIn_56 : decode cX2_rankIn 56 = .ok (.iadd, 1) := by decide +kernel
theorem dX2_rankIn_57 : decode cX2_rankIn 57 = .ok (.putfield 62, 3) := by decide +kernel
theorem dX2_rankIn_60 : decode cX2_rankIn 60 = .ok (.return_, 1) := by decide +kernel
theorem dX2_place_0 : decode cX2_place 0 = .ok (.aload_n 0, 1) := by decide +kernel
theorem dX2_place_1 : decode cX2_place 1 = .ok (.getfield 31, 3) := by decide +kernel
theorem dX2_place_4 : decode cX2_place 4 = .ok (.iload_n 2, 1) := by decide +kernel
theorem dX2_place_5 : decode cX2_place 5 = .ok (.iload_n 1, 1) := by decide +kernel
theorem dX2_place_6 : decode cX2_place 6 = .ok (.iastore, 1) := by decide +kernel
theorem dX2_place_7 : decode cX2_place 7 = .ok (.aload_n 0, 1) := by decide +kernel
theorem dX2_place_8 : decode cX2_place 8 = .ok (.getfield 28, 3) := by decide +kernel
theorem dX2_place_11 : decode cX2_place 11 = .ok (.iload_n 1, 1) := by decide +kernel
theorem dX2_place_12 : decode cX2_place 12 = .ok (.iload_n 2, 1) := by decide +kernel
theorem dX2_place_13 : decode cX2_place 13 = .ok (.iastore, 1) := by decide +kernel
theorem dX2_place_14 : decode cX2_place 14 = .ok (.return_, 1) := by decide +kernel
theorem dX2_isAhead_0 : decode cX2_isAhead 0 = .ok (.aload_n 0, 1) := by decide +kernel
theorem dX2_isAhead_1 : decode cX2_isAhead 1 = .ok (.getfield 25, 3) := by decide +kernel
theorem dX2_isAhead_4 : decode cX2_isAhead 4 = .ok (.iload_n 1, 1) := by decide +kernel
theorem dX2_isAhead_5 : decode cX2_isAhead 5 = .ok (.iaload, 1) := by decide +kernel
theorem dX2_isAhead_6 : decode cX2_isAhead 6 = .ok (.aload_n 0, 1) := by decide +kernel
theorem dX2_isAhead_7 : decode cX2_isAhead 7 = .ok (.getfield 25, 3) := by decide +kernel
theorem dX2_isAhead_10 : decode cX2_isAhead 10 = .ok (.iload_n 2, 1) := by decide +kernel
theorem dX2_isAhead_11 : decode cX2_isAhead 11 = .ok (.iaload, 1) := by decide +kernel
theorem dX2_isAhead_12 : decode cX2_isAhead 12 = .ok (.if_icmp .lt 23, 3) := by decide +kernel
theorem dX2_isAhead_15 : decode cX2_isAhead 15 = .ok (.aload_n 0, 1) := by decide +kernel
theorem dX2_isAhead_16 : decode cX2_isAhead 16 = .ok (.getfield 25, 3) := by decide +kernel
theorem dX2_isAhead_19 : decode cX2_isAhead 19 = .ok (.iload_n 1, 1) := by decide +kernel
theorem dX2_isAhead_20 : decode cX2_isAhead 20 = .ok (.iaload, 1) := by decide +kernel
theorem dX2_isAhead_21 : decode cX2_isAhead 21 = .ok (.aload_n 0, 1) := by decide +kernel
theorem dX2_isAhead_22 : decode cX2_isAhead 22 = .ok (.getfield 25, 3) := by decide +kernel
theorem dX2_isAhead_25 : decode cX2_isAhead 25 = .ok (.iload_n 2, 1) := by decide +kernel
theorem dX2_isAhead_26 : decode cX2_isAhead 26 = .ok (.iaload, 1) := by decide +kernel
theorem dX2_isAhead_27 : decode cX2_isAhead 27 = .ok (.if_icmp .ne 12, 3) := by decide +kernel
theorem dX2_isAhead_30 : decode cX2_isAhead 30 = .ok (.iload_n 1, 1) := by decide +kernel
theorem dX2_isAhead_31 : decode cX2_isAhead 31 = .ok (.iload_n 2, 1) := by decide +kernel
theorem dX2_isAhead_32 : decode cX2_isAhead 32 = .ok (.if_icmp .ge 7, 3) := by decide +kernel
theorem dX2_isAhead_35 : decode cX2_isAhead 35 = .ok (.iconst 1, 1) := by decide +kernel
theorem dX2_isAhead_36 : decode cX2_isAhead 36 = .ok (.goto 4, 3) := by decide +kernel
theorem dX2_isAhead_39 : decode cX2_isAhead 39 = .ok (.iconst 0, 1) := by decide +kernel
theorem dX2_isAhead_40 : decode cX2_isAhead 40 = .ok (.ireturn, 1) := by decide +kernel
theorem dX3_init_0 : decode cX3_init 0 = .ok (.aload_n 0, 1) := by decide +kernel
theorem dX3_init_1 : decode cX3_init 1 = .ok (.invokespecial 3, 3) := by decide +kernel
theorem dX3_init_4 : decode cX3_init 4 = .ok (.aload_n 0, 1) := by decide +kernel
theorem dX3_init_5 : decode cX3_init 5 = .ok (.bipush 120, 2) := by decide +kernel
theorem dX3_init_7 : decode cX3_init 7 = .ok (.newarray .int, 2) := by decide +kernel
theorem dX3_init_9 : decode cX3_init 9 = .ok (.putfield 9, 3) := by decide +kernel
theorem dX3_init_12 : decode cX3_init 12 = .ok (.aload_n 0, 1) := by decide +kernel
theorem dX3_init_13 : decode cX3_init 13 = .ok (.bipush 120, 2) := by decide +kernel
theorem dX3_init_15 : decode cX3_init 15 = .ok (.newarray .int, 2) := by decide +kernel
theorem dX3_init_17 : decode cX3_init 17 = .ok (.putfield 15, 3) := by decide +kernel
theorem dX3_init_20 : decode cX3_init 20 = .ok (.aload_n 0, 1) := by decide +kernel
theorem dX3_init_21 : decode cX3_init 21 = .ok (.bipush 120, 2) := by decide +kernel
theorem dX3_init_23 : decode cX3_init 23 = .ok (.newarray .int, 2) := by decide +kernel
theorem dX3_init_25 : decode cX3_init 25 = .ok (.putfield 18, 3) := by decide +kernel
theorem dX3_init_28 : decode cX3_init 28 = .ok (.aload_n 0, 1) := by decide +kernel
theorem dX3_init_29 : decode cX3_init 29 = .ok (.bipush 120, 2) := by decide +kernel
theorem dX3_init_31 : decode cX3_init 31 = .ok (.newarray .int, 2) := by decide +kernel
theorem dX3_init_33 : decode cX3_init 33 = .ok (.putfield 21, 3) := by decide +kernel
theorem dX3_init_36 : decode cX3_init 36 = .ok (.aload_n 0, 1) := by decide +kernel
theorem dX3_init_37 : decode cX3_init 37 = .ok (.aload_n 1, 1) := by decide +kernel
theorem dX3_init_38 : decode cX3_init 38 = .ok (.putfield 24, 3) := by decide +kernel
theorem dX3_init_41 : decode cX3_init 41 = .ok (.return_, 1) := by decide +kernel
theorem dX3_flood_0 : decode cX3_flood 0 = .ok (.iconst 0, 1) := by decide +kernel
theorem dX3_flood_1 : decode cX3_flood 1 = .ok (.istore_n 1, 1) := by decide +kernel
theorem dX3_flood_2 : decode cX3_flood 2 = .ok (.iload_n 1, 1) := by decide +kernel
theorem dX3_flood_3 : decode cX3_flood 3 = .ok (.aload_n 0, 1) := by decide +kernel
theorem dX3_flood_4 : decode cX3_flood 4 = .ok (.getfield 24, 3) := by decide +kernel
theorem dX3_flood_7 : decode cX3_flood 7 = .ok (.getfield 28, 3) := by decide +kernel
theorem dX3_flood_10 : decode cX3_flood 10 = .ok (.if_icmp .ge 46, 3) := by decide +kernel
theorem dX3_flood_13 : decode cX3_flood 13 = .ok (.aload_n 0, 1) := by decide +kernel
theorem dX3_flood_14 : decode cX3_flood 14 = .ok (.getfield 9, 3) := by decide +kernel
theorem dX3_flood_17 : decode cX3_flood 17 = .ok (.iload_n 1, 1) := by decide +kernel
theorem dX3_flood_18 : decode cX3_flood 18 = .ok (.aload_n 0, 1) := by decide +kernel
theorem dX3_flood_19 : decode cX3_flood 19 = .ok (.getfield 24, 3) := by decide +kernel
theorem dX3_flood_22 : decode cX3_flood 22 = .ok (.getfield 34, 3) := by decide +kernel
theorem dX3_flood_25 : decode cX3_flood 25 = .ok (.iload_n 1, 1) := by decide +kernel
theorem dX3_flood_26 : decode cX3_flood 26 = .ok (.baload, 1) := by decide +kernel
theorem dX3_flood_27 : decode cX3_flood 27 = .ok (.ifCond .eq 7, 3) := by decide +kernel
theorem dX3_flood_30 : decode cX3_flood 30 = .ok (.iconst 0, 1) := by decide +kernel
theorem dX3_flood_31 : decode cX3_flood 31 = .ok (.goto 4, 3) := by decide +kernel
theorem dX3_flood_34 : decode cX3_flood 34 = .ok (.iconst (-1), 1) := by decide +kernel
theorem dX3_flood_35 : decode cX3_flood 35 = .ok (.iastore, 1) := by decide +kernel
theorem dX3_flood_36 : decode cX3_flood 36 = .ok (.aload_n 0, 1) := by decide +kernel
theorem dX3_flood_37 : decode cX3_flood 37 = .ok (.getfield 15, 3) := by decide +kernel
theorem dX3_flood_40 : decode cX3_flood 40 = .ok (.iload_n 1, 1) := by decide +kernel
theorem dX3_flood_41 : decode cX3_flood 41 = .ok (.iconst (-1), 1) := by decide +kernel
theorem dX3_flood_42 : decode cX3_flood 42 = .ok (.iastore, 1) := by decide +kernel
theorem dX3_flood_43 : decode cX3_flood 43 = .ok (.aload_n 0, 1) := by decide +kernel
theorem dX3_flood_44 : decode cX3_flood 44 = .ok (.getfield 18, 3) := by decide +kernel
theorem dX3_flood_47 : decode cX3_flood 47 = .ok (.iload_n 1, 1) := by decide +kernel
theorem dX3_flood_48 : decode cX3_flood 48 = .ok (.iconst (-1), 1) := by decide +kernel
theorem dX3_flood_49 : decode cX3_flood 49 = .ok (.iastore, 1) := by decide +kernel
theorem dX3_flood_50 : decode cX3_flood 50 = .ok (.iinc 1 1, 3) := by decide +kernel
theorem dX3_flood_53 : decode cX3_flood 53 = .ok (.goto (-51), 3) := by decide +kernel
theorem dX3_flood_56 : decode cX3_flood 56 = .ok (.iconst 0, 1) := by decide +kernel
theorem dX3_flood_57 : decode cX3_flood 57 = .ok (.istore_n 1, 1) := by decide +kernel
theorem dX3_flood_58 : decode cX3_flood 58 = .ok (.iload_n 1, 1) := by decide +kernel
theorem dX3_flood_59 : decode cX3_flood 59 = .ok (.aload_n 0, 1) := by decide +kernel
theorem dX3_flood_60 : decode cX3_flood 60 = .ok (.getfield 24, 3) := by decide +kernel
theorem dX3_flood_63 : decode cX3_flood 63 = .ok (.getfield 28, 3) := by decide +kernel
theorem dX3_flood_66 : decode cX3_flood 66 = .ok (.if_icmp .ge 19, 3) := by decide +kernel
theorem dX3_flood_69 : decode cX3_flood 69 = .ok (.aload_n 0, 1) := by decide +kernel
theorem dX3_flood_70 : decode cX3_flood 70 = .ok (.invokevirtual 38, 3) := by decide +kernel
theorem dX3_flood_73 : decode cX3_flood 73 = .ok (.ifCond .ne 6, 3) := by decide +kernel
theorem dX3_flood_76 : decode cX3_flood 76 = .ok (.goto 9, 3) := by decide +kernel
theorem dX3_flood_79 : decode cX3_flood 79 = .ok (.iinc 1 1, 3) := by decide +kernel
theorem dX3_flood_82 : decode cX3_flood 82 = .ok (.goto (-24), 3) := by decide +kernel
theorem dX3_flood_85 : decode cX3_flood 85 = .ok (.return_, 1) := by decide +kernel
theorem dX3_throatOnWay_0 : decode cX3_throatOnWay 0 = .ok (.iload_n 1, 1) := by decide +kernel
theorem dX3_throatOnWay_1 : decode cX3_throatOnWay 1 = .ok (.istore_n 3, 1) := by decide +kernel
theorem dX3_throatOnWay_2 : decode cX3_throatOnWay 2 = .ok (.aload_n 0, 1) := by decide +kernel
theorem dX3_throatOnWay_3 : decode cX3_throatOnWay 3 = .ok (.getfield 9, 3) := by decide +kernel
theorem dX3_throatOnWay_6 : decode cX3_throatOnWay 6 = .ok (.iload_n 1, 1) := by decide +kernel
theorem dX3_throatOnWay_7 : decode cX3_throatOnWay 7 = .ok (.iaload, 1) := by decide +kernel
theorem dX3_throatOnWay_8 : decode cX3_throatOnWay 8 = .ok (.iconst 1, 1) := by decide +kernel
theorem dX3_throatOnWay_9 : decode cX3_throatOnWay 9 = .ok (.isub, 1) := by decide +kernel
theorem dX3_throatOnWay_10 : decode cX3_throatOnWay 10 = .ok (.istore 4, 2) := by decide +kernel
theorem dX3_throatOnWay_12 : decode cX3_throatOnWay 12 = .ok (.iload 4, 2) := by decide +kernel
theorem dX3_throatOnWay_14 : decode cX3_throatOnWay 14 = .ok (.iload_n 2, 1) := by decide +kernel
theorem dX3_throatOnWay_15 : decode cX3_throatOnWay 15 = .ok (.if_icmp .le 24, 3) := by decide +kernel
theorem dX3_throatOnWay_18 : decode cX3_throatOnWay 18 = .ok (.aload_n 0, 1) := by decide +kernel
theorem dX3_throatOnWay_19 : decode cX3_throatOnWay 19 = .ok (.getfield 24, 3) := by decide +kernel
theorem dX3_throatOnWay_22 : decode cX3_throatOnWay 22 = .ok (.aload_n 0, 1) := by decide +kernel
theorem dX3_throatOnWay_23 : decode cX3_throatOnWay 23 = .ok (.getfield 18, 3) := by decide +kernel
theorem dX3_throatOnWay_26 : decode cX3_throatOnWay 26 = .ok (.iload_n 3, 1) := by decide +kernel
theorem dX3_throatOnWay_27 : decode cX3_throatOnWay 27 = .ok (.iaload, 1) := by decide +kernel
theorem dX3_throatOnWay_28 : decode cX3_throatOnWay 28 = .ok (.iload_n 3, 1) := by decide +kernel
theorem dX3_throatOnWay_29 : decode cX3_throatOnWay 29 = .ok (.invokevirtual 42, 3) := by decide +kernel
theorem dX3_throatOnWay_32 : decode cX3_throatOnWay 32 = .ok (.istore_n 3, 1) := by decide +kernel
theorem dX3_throatOnWay_33 : decode cX3_throatOnWay 33 = .ok (.iinc 4 (-1), 3) := by decide +kernel
theorem dX3_throatOnWay_36 : decode cX3_throatOnWay 36 = .ok (.goto (-24), 3) := by decide +kernel
theorem dX3_throatOnWay_39 : decode cX3_throatOnWay 39 = .ok (.aload_n 0, 1) := by decide +kernel
theorem dX3_throatOnWay_40 : decode cX3_throatOnWay 40 = .ok (.getfield 18, 3) := by decide +kernel
theorem dX3_throatOnWay_43 : decode cX3_throatOnWay 43 = .ok (.iload_n 3, 1) := by decide +kernel
theorem dX3_throatOnWay_44 : decode cX3_throatOnWay 44 = .ok (.iaload, 1) := by decide +kernel
theorem dX3_throatOnWay_45 : decode cX3_throatOnWay 45 = .ok (.ireturn, 1) := by decide +kernel
theorem dX3_rankJoining_0 : decode cX3_rankJoining 0 = .ok (.aload_n 0, 1) := by decide +kernel
theorem dX3_rankJoining_1 : decode cX3_rankJoining 1 = .ok (.invokevirtual 46, 3) := by decide +kernel
theorem dX3_rankJoining_4 : decode cX3_rankJoining 4 = .ok (.iconst 0, 1) := by decide +kernel
theorem dX3_rankJoining_5 : decode cX3_rankJoining 5 = .ok (.istore_n 3, 1) := by decide +kernel
theorem dX3_rankJoining_6 : decode cX3_rankJoining 6 = .ok (.iload_n 3, 1) := by decide +kernel
theorem dX3_rankJoining_7 : decode cX3_rankJoining 7 = .ok (.aload_n 0, 1) := by decide +kernel
theorem dX3_rankJoining_8 : decode cX3_rankJoining 8 = .ok (.getfield 24, 3) := by decide +kernel
theorem dX3_rankJoining_11 : decode cX3_rankJoining 11 = .ok (.getfield 49, 3) := by decide +kernel
theorem dX3_rankJoining_14 : decode cX3_rankJoining 14 = .ok (.if_icmp .ge 40, 3) := by decide +kernel
theorem dX3_rankJoining_17 : decode cX3_rankJoining 17 = .ok (.aload_n 0, 1) := by decide +kernel
theorem dX3_rankJoining_18 : decode cX3_rankJoining 18 = .ok (.aload_n 0, 1) := by decide +kernel
theorem dX3_rankJoining_19 : decode cX3_rankJoining 19 = .ok (.getfield 24, 3) := by decide +kernel
theorem dX3_rankJoining_22 : decode cX3_rankJoining 22 = .ok (.getfield 52, 3) := by decide +kernel
theorem dX3_rankJoining_25 : decode cX3_rankJoining 25 = .ok (.iload_n 3, 1) := by decide +kernel
theorem dX3_rankJoining_26 : decode cX3_rankJoining 26 = .ok (.iaload, 1) := by decide +kernel
theorem dX3_rankJoining_27 : decode cX3_rankJoining 27 = .ok (.invokevirtual 55, 3) := by decide +kernel
theorem dX3_rankJoining_30 : decode cX3_rankJoining 30 = .ok (.pop, 1) := by decide +kernel
theorem dX3_rankJoining_31 : decode cX3_rankJoining 31 = .ok (.aload_n 0, 1) := by decide +kernel
theorem dX3_rankJoining_32 : decode cX3_rankJoining 32 = .ok (.getfield 21, 3) := by decide +kernel
theorem dX3_rankJoining_35 : decode cX3_rankJoining 35 = .ok (.iload_n 1, 1) := by decide +kernel
theorem dX3_rankJoining_36 : decode cX3_rankJoining 36 = .ok (.iaload, 1) := by decide +kernel
theorem dX3_rankJoining_37 : decode cX3_rankJoining 37 = .ok (.aload_n 0, 1) := by decide +kernel
theorem dX3_rankJoining_38 : decode cX3_rankJoining 38 = .ok (.getfield 21, 3) := by decide +kernel
theorem dX3_rankJoining_41 : decode cX3_rankJoining 41 = .ok (.iload_n 2, 1) := by decide +kernel
theorem dX3_rankJoining_42 : decode cX3_rankJoining 42 = .ok (.iaload, 1) := by decide +kernel
theorem dX3_rankJoining_43 : decode cX3_rankJoining 43 = .ok (.if_icmp .ne 5, 3) := by decide +kernel
theorem dX3_rankJoining_46 : decode cX3_rankJoining 46 = .ok (.iload_n 3, 1) := by decide +kernel
theorem dX3_rankJoining_47 : decode cX3_rankJoining 47 = .ok (.ireturn, 1) := by decide +kernel
theorem dX3_rankJoining_48 : decode cX3_rankJoining 48 = .ok (.iinc 3 1, 3) := by decide +kernel
theorem dX3_rankJoining_51 : decode cX3_rankJoining 51 = .ok (.goto (-45), 3) := by decide +kernel
theorem dX3_rankJoining_54 : decode cX3_rankJoining 54 = .ok (.bipush (-8), 2) := by decide +kernel
theorem dX3_rankJoining_56 : decode cX3_rankJoining 56 = .ok (.ireturn, 1) := by decide +kernel
theorem dX3_branch_0 : decode cX3_branch 0 = .ok (.aload_n 0, 1) := by decide +kernel
theorem dX3_branch_1 : decode cX3_branch 1 = .ok (.invokevirtual 46, 3) := by decide +kernel
theorem dX3_branch_4 : decode cX3_branch 4 = .ok (.iconst 0, 1) := by decide +kernel
theorem dX3_branch_5 : decode cX3_branch 5 = .ok (.istore_n 2, 1) := by decide +kernel
theorem dX3_branch_6 : decode cX3_branch 6 = .ok (.iconst 0, 1) := by decide +kernel
theorem dX3_branch_7 : decode cX3_branch 7 = .ok (.istore_n 3, 1) := by decide +kernel
theorem dX3_branch_8 : decode cX3_branch 8 = .ok (.iload_n 3, 1) := by decide +kernel
theorem dX3_branch_9 : decode cX3_branch 9 = .ok (.aload_n 0, 1) := by decide +kernel
theorem dX3_branch_10 : decode cX3_branch 10 = .ok (.getfield 24, 3) := by decide +kernel
theorem dX3_branch_13 : decode cX3_branch 13 = .ok (.getfield 49, 3) := by decide +kernel
theorem dX3_branch_16 : decode cX3_branch 16 = .ok (.if_icmp .ge 43, 3) := by decide +kernel
theorem dX3_branch_19 : decode cX3_branch 19 = .ok (.aload_n 0, 1) := by decide +kernel
theorem dX3_branch_20 : decode cX3_branch 20 = .ok (.aload_n 0, 1) := by decide +kernel
theorem dX3_branch_21 : decode cX3_branch 21 = .ok (.getfield 24, 3) := by decide +kernel
theorem dX3_branch_24 : decode cX3_branch 24 = .ok (.getfield 52, 3) := by decide +kernel
theorem dX3_branch_27 : decode cX3_branch 27 = .ok (.iload_n 3, 1) := by decide +kernel
theorem dX3_branch_28 : decode cX3_branch 28 = .ok (.iaload, 1) := by decide +kernel
theorem dX3_branch_29 : decode cX3_branch 29 = .ok (.invokevirtual 55, 3) := by decide +kernel
theorem dX3_branch_32 : decode cX3_branch 32 = .ok (.ifCond .eq 21, 3) := by decide +kernel
theorem dX3_branch_35 : decode cX3_branch 35 = .ok (.iload_n 2, 1) := by decide +kernel
theorem dX3_branch_36 : decode cX3_branch 36 = .ok (.iload_n 1, 1) := by decide +kernel
theorem dX3_branch_37 : decode cX3_branch 37 = .ok (.if_icmp .ne 13, 3) := by decide +kernel
theorem dX3_branch_40 : decode cX3_branch 40 = .ok (.aload_n 0, 1) := by decide +kernel
theorem dX3_branch_41 : decode cX3_branch 41 = .ok (.getfield 24, 3) := by decide +kernel
theorem dX3_branch_44 : decode cX3_branch 44 = .ok (.getfield 52, 3) := by decide +kernel
theorem dX3_branch_47 : decode cX3_branch 47 = .ok (.iload_n 3, 1) := by decide +kernel
theorem dX3_branch_48 : decode cX3_branch 48 = .ok (.iaload, 1) := by decide +kernel
theorem dX3_branch_49 : decode cX3_branch 49 = .ok (.ireturn, 1) := by decide +kernel
theorem dX3_branch_50 : decode cX3_branch 50 = .ok (.iinc 2 1, 3) := by decide +kernel
theorem dX3_branch_53 : decode cX3_branch 53 = .ok (.iinc 3 1, 3) := by decide +kernel
theorem dX3_branch_56 : decode cX3_branch 56 = .ok (.goto (-48), 3) := by decide +kernel
theorem dX3_branch_59 : decode cX3_branch 59 = .ok (.iconst (-1), 1) := by decide +kernel
theorem dX3_branch_60 : decode cX3_branch 60 = .ok (.ireturn, 1) := by decide +kernel
theorem dX3_fillNext_0 : decode cX3_fillNext 0 = .ok (.iconst 0, 1) := by decide +kernel
theorem dX3_fillNext_1 : decode cX3_fillNext 1 = .ok (.istore_n 1, 1) := by decide +kernel
theorem dX3_fillNext_2 : decode cX3_fillNext 2 = .ok (.iload_n 1, 1) := by decide +kernel
theorem dX3_fillNext_3 : decode cX3_fillNext 3 = .ok (.aload_n 0, 1) := by decide +kernel
theorem dX3_fillNext_4 : decode cX3_fillNext 4 = .ok (.getfield 24, 3) := by decide +kernel
theorem dX3_fillNext_7 : decode cX3_fillNext 7 = .ok (.getfield 49, 3) := by decide +kernel
theorem dX3_fillNext_10 : decode cX3_fillNext 10 = .ok (.if_icmp .ge 94, 3) := by decide +kernel
theorem dX3_fillNext_13 : decode cX3_fillNext 13 = .ok (.aload_n 0, 1) := by decide +kernel
theorem dX3_fillNext_14 : decode cX3_fillNext 14 = .ok (.getfield 24, 3) := by decide +kernel
theorem dX3_fillNext_17 : decode cX3_fillNext 17 = .ok (.getfield 52, 3) := by decide +kernel
theorem dX3_fillNext_20 : decode cX3_fillNext 20 = .ok (.iload_n 1, 1) := by decide +kernel
theorem dX3_fillNext_21 : decode cX3_fillNext 21 = .ok (.iaload, 1) := by decide +kernel
theorem dX3_fillNext_22 : decode cX3_fillNext 22 = .ok (.istore_n 2, 1) := by decide +kernel
theorem dX3_fillNext_23 : decode cX3_fillNext 23 = .ok (.aload_n 0, 1) := by decide +kernel
theorem dX3_fillNext_24 : decode cX3_fillNext 24 = .ok (.getfield 24, 3) := by decide +kernel
theorem dX3_fillNext_27 : decode cX3_fillNext 27 = .ok (.getfield 59, 3) := by decide +kernel
theorem dX3_fillNext_30 : decode cX3_fillNext 30 = .ok (.iload_n 2, 1) := by decide +kernel
theorem dX3_fillNext_31 : decode cX3_fillNext 31 = .ok (.iaload, 1) := by decide +kernel
theorem dX3_fillNext_32 : decode cX3_fillNext 32 = .ok (.istore_n 3, 1) := by decide +kernel
theorem dX3_fillNext_33 : decode cX3_fillNext 33 = .ok (.aload_n 0, 1) := by decide +kernel
theorem dX3_fillNext_34 : decode cX3_fillNext 34 = .ok (.getfield 24, 3) := by decide +kernel
theorem dX3_fillNext_37 : decode cX3_fillNext 37 = .ok (.getfield 62, 3) := by decide +kernel
theorem dX3_fillNext_40 : decode cX3_fillNext 40 = .ok (.iload_n 2, 1) := by decide +kernel
theorem dX3_fillNext_41 : decode cX3_fillNext 41 = .ok (.iaload, 1) := by decide +kernel
theorem dX3_fillNext_42 : decode cX3_fillNext 42 = .ok (.istore 4, 2) := by decide +kernel
theorem dX3_fillNext_44 : decode cX3_fillNext 44 = .ok (.aload_n 0, 1) := by decide +kernel
theorem dX3_fillNext_45 : decode cX3_fillNext 45 = .ok (.getfield 9, 3) := by decide +kernel
theorem dX3_fillNext_48 : decode cX3_fillNext 48 = .ok (.iload_n 3, 1) := by decide +kernel
theorem dX3_fillNext_49 : decode cX3_fillNext 49 = .ok (.iaload, 1) := by decide +kernel
theorem dX3_fillNext_50 : decode cX3_fillNext 50 = .ok (.ifCond .lt 7, 3) := by decide +kernel
theorem dX3_fillNext_53 : decode cX3_fillNext 53 = .ok (.iconst 1, 1) := by decide +kernel
theorem dX3_fillNext_54 : decode cX3_fillNext 54 = .ok (.goto 4, 3) := by decide +kernel
theorem dX3_fillNext_57 : decode cX3_fillNext 57 = .ok (.iconst 0, 1) := by decide +kernel
theorem dX3_fillNext_58 : decode cX3_fillNext 58 = .ok (.aload_n 0, 1) := by decide +kernel
theorem dX3_fillNext_59 : decode cX3_fillNext 59 = .ok (.getfield 9, 3) := by decide +kernel
theorem dX3_fillNext_62 : decode cX3_fillNext 62 = .ok (.iload 4, 2) := by decide +kernel
theorem dX3_fillNext_64 : decode cX3_fillNext 64 = .ok (.iaload, 1) := by decide +kernel
theorem dX3_fillNext_65 : decode cX3_fillNext 65 = .ok (.ifCond .lt 7, 3) := by decide +kernel
theorem dX3_fillNext_68 : decode cX3_fillNext 68 = .ok (.iconst 1, 1) := by decide +kernel
theorem dX3_fillNext_69 : decode cX3_fillNext 69 = .ok (.goto 4, 3) := by decide +kernel
theorem dX3_fillNext_72 : decode cX3_fillNext 72 = .ok (.iconst 0, 1) := by decide +kernel
theorem dX3_fillNext_73 : decode cX3_fillNext 73 = .ok (.if_icmp .eq 25, 3) := by decide +kernel
theorem dX3_fillNext_76 : decode cX3_fillNext 76 = .ok (.aload_n 0, 1) := by decide +kernel
theorem dX3_fillNext_77 : decode cX3_fillNext 77 = .ok (.iload_n 2, 1) := by decide +kernel
theorem dX3_fillNext_78 : decode cX3_fillNext 78 = .ok (.aload_n 0, 1) := by decide +kernel
theorem dX3_fillNext_79 : decode cX3_fillNext 79 = .ok (.getfield 9, 3) := by decide +kernel
theorem dX3_fillNext_82 : decode cX3_fillNext 82 = .ok (.iload_n 3, 1) := by decide +kernel
theorem dX3_fillNext_83 : decode cX3_fillNext 83 = .ok (.iaload, 1) := by decide +kernel
theorem dX3_fillNext_84 : decode cX3_fillNext 84 = .ok (.ifCond .lt 7, 3) := by decide +kernel
theorem dX3_fillNext_87 : decode cX3_fillNext 87 = .ok (.iload_n 3, 1) := by decide +kernel
theorem dX3_fillNext_88 : decode cX3_fillNext 88 = .ok (.goto 5, 3) := by decide +kernel
theorem dX3_fillNext_91 : decode cX3_fillNext 91 = .ok (.iload 4, 2) := by decide +kernel
theorem dX3_fillNext_93 : decode cX3_fillNext 93 = .ok (.invokevirtual 65, 3) := by decide +kernel
theorem dX3_fillNext_96 : decode cX3_fillNext 96 = .ok (.iconst 1, 1) := by decide +kernel
theorem dX3_fillNext_97 : decode cX3_fillNext 97 = .ok (.ireturn, 1) := by decide +kernel
theorem dX3_fillNext_98 : decode cX3_fillNext 98 = .ok (.iinc 1 1, 3) := by decide +kernel
theorem dX3_fillNext_101 : decode cX3_fillNext 101 = .ok (.goto (-99), 3) := by decide +kernel
theorem dX3_fillNext_104 : decode cX3_fillNext 104 = .ok (.iconst 0, 1) := by decide +kernel
theorem dX3_fillNext_105 : decode cX3_fillNext 105 = .ok (.ireturn, 1) := by decide +kernel
theorem dX3_fill_0 : decode cX3_fill 0 = .ok (.aload_n 0, 1) := by decide +kernel
theorem dX3_fill_1 : decode cX3_fill 1 = .ok (.getfield 24, 3) := by decide +kernel
theorem dX3_fill_4 : decode cX3_fill 4 = .ok (.iload_n 1, 1) := by decide +kernel
theorem dX3_fill_5 : decode cX3_fill 5 = .ok (.iload_n 2, 1) := by decide +kernel
theorem dX3_fill_6 : decode cX3_fill 6 = .ok (.invokevirtual 42, 3) := by decide +kernel
theorem dX3_fill_9 : decode cX3_fill 9 = .ok (.istore_n 3, 1) := by decide +kernel
theorem dX3_fill_10 : decode cX3_fill 10 = .ok (.aload_n 0, 1) := by decide +kernel
theorem dX3_fill_11 : decode cX3_fill 11 = .ok (.getfield 9, 3) := by decide +kernel
theorem dX3_fill_14 : decode cX3_fill 14 = .ok (.iload_n 3, 1) := by decide +kernel
theorem dX3_fill_15 : decode cX3_fill 15 = .ok (.aload_n 0, 1) := by decide +kernel
theorem dX3_fill_16 : decode cX3_fill 16 = .ok (.getfield 9, 3) := by decide +kernel
theorem dX3_fill_19 : decode cX3_fill 19 = .ok (.iload_n 2, 1) := by decide +kernel
theorem dX3_fill_20 : decode cX3_fill 20 = .ok (.iaload, 1) := by decide +kernel
theorem dX3_fill_21 : decode cX3_fill 21 = .ok (.iconst 1, 1) := by decide +kernel
theorem dX3_fill_22 : decode cX3_fill 22 = .ok (.iadd, 1) := by decide +kernel
theorem dX3_fill_23 : decode cX3_fill 23 = .ok (.iastore, 1) := by decide +kernel
theorem dX3_fill_24 : decode cX3_fill 24 = .ok (.aload_n 0, 1) := by decide +kernel
theorem dX3_fill_25 : decode cX3_fill 25 = .ok (.getfield 15, 3) := by decide +kernel
theorem dX3_fill_28 : decode cX3_fill 28 = .ok (.iload_n 3, 1) := by decide +kernel
theorem dX3_fill_29 : decode cX3_fill 29 = .ok (.aload_n 0, 1) := by decide +kernel
theorem dX3_fill_30 : decode cX3_fill 30 = .ok (.getfield 15, 3) := by decide +kernel
theorem dX3_fill_33 : decode cX3_fill 33 = .ok (.iload_n 2, 1) := by decide +kernel
theorem dX3_fill_34 : decode cX3_fill 34 = .ok (.iaload, 1) := by decide +kernel
theorem dX3_fill_35 : decode cX3_fill 35 = .ok (.aload_n 0, 1) := by decide +kernel
theorem dX3_fill_36 : decode cX3_fill 36 = .ok (.getfield 24, 3) := by decide +kernel
theorem dX3_fill_39 : decode cX3_fill 39 = .ok (.getfield 69, 3) := by decide +kernel
theorem dX3_fill_42 : decode cX3_fill 42 = .ok (.iload_n 1, 1) := by decide +kernel
theorem dX3_fill_43 : decode cX3_fill 43 = .ok (.iaload, 1) := by decide +kernel
theorem dX3_fill_44 : decode cX3_fill 44 = .ok (.invokestatic 72, 3) := by decide +kernel
theorem dX3_fill_47 : decode cX3_fill 47 = .ok (.iastore, 1) := by decide +kernel
theorem dX3_fill_48 : decode cX3_fill 48 = .ok (.aload_n 0, 1) := by decide +kernel
theorem dX3_fill_49 : decode cX3_fill 49 = .ok (.getfield 18, 3) := by decide +kernel
theorem dX3_fill_52 : decode cX3_fill 52 = .ok (.iload_n 3, 1) := by decide +kernel
theorem dX3_fill_53 : decode cX3_fill 53 = .ok (.iload_n 1, 1) := by decide +kernel
theorem dX3_fill_54 : decode cX3_fill 54 = .ok (.iastore, 1) := by decide +kernel
theorem dX3_fill_55 : decode cX3_fill 55 = .ok (.return_, 1) := by decide +kernel
theorem dX3_stand_0 : decode cX3_stand 0 = .ok (.iconst 0, 1) := by decide +kernel
theorem dX3_stand_1 : decode cX3_stand 1 = .ok (.istore_n 1, 1) := by decide +kernel
theorem dX3_stand_2 : decode cX3_stand 2 = .ok (.iload_n 1, 1) := by decide +kernel
theorem dX3_stand_3 : decode cX3_stand 3 = .ok (.aload_n 0, 1) := by decide +kernel
theorem dX3_stand_4 : decode cX3_stand 4 = .ok (.getfield 24, 3) := by decide +kernel
theorem dX3_stand_7 : decode cX3_stand 7 = .ok (.getfield 28, 3) := by decide +kernel
theorem dX3_stand_10 : decode cX3_stand 10 = .ok (.if_icmp .ge 16, 3) := by decide +kernel
theorem dX3_stand_13 : decode cX3_stand 13 = .ok (.aload_n 0, 1) := by decide +kernel
theorem dX3_stand_14 : decode cX3_stand 14 = .ok (.getfield 21, 3) := by decide +kernel
theorem dX3_stand_17 : decode cX3_stand 17 = .ok (.iload_n 1, 1) := by decide +kernel
theorem dX3_stand_18 : decode cX3_stand 18 = .ok (.iload_n 1, 1) := by decide +kernel
theorem dX3_stand_19 : decode cX3_stand 19 = .ok (.iastore, 1) := by decide +kernel
theorem dX3_stand_20 : decode cX3_stand 20 = .ok (.iinc 1 1, 3) := by decide +kernel
theorem dX3_stand_23 : decode cX3_stand 23 = .ok (.goto (-21), 3) := by decide +kernel
theorem dX3_stand_26 : decode cX3_stand 26 = .ok (.return_, 1) := by decide +kernel
theorem dX3_unite_0 : decode cX3_unite 0 = .ok (.aload_n 0, 1) := by decide +kernel
theorem dX3_unite_1 : decode cX3_unite 1 = .ok (.getfield 21, 3) := by decide +kernel
theorem dX3_unite_4 : decode cX3_unite 4 = .ok (.aload_n 0, 1) := by decide +kernel
theorem dX3_unite_5 : decode cX3_unite 5 = .ok (.getfield 24, 3) := by decide +kernel
theorem dX3_unite_8 : decode cX3_unite 8 = .ok (.getfield 59, 3) := by decide +kernel
theorem dX3_unite_11 : decode cX3_unite 11 = .ok (.iload_n 1, 1) := by decide +kernel
theorem dX3_unite_12 : decode cX3_unite 12 = .ok (.iaload, 1) := by decide +kernel
theorem dX3_unite_13 : decode cX3_unite 13 = .ok (.iaload, 1) := by decide +kernel
theorem dX3_unite_14 : decode cX3_unite 14 = .ok (.istore_n 2, 1) := by decide +kernel
theorem dX3_unite_15 : decode cX3_unite 15 = .ok (.aload_n 0, 1) := by decide +kernel
theorem dX3_unite_16 : decode cX3_unite 16 = .ok (.getfield 21, 3) := by decide +kernel
theorem dX3_unite_19 : decode cX3_unite 19 = .ok (.aload_n 0, 1) := by decide +kernel
theorem dX3_unite_20 : decode cX3_unite 20 = .ok (.getfield 24, 3) := by decide +kernel
theorem dX3_unite_23 : decode cX3_unite 23 = .ok (.getfield 62, 3) := by decide +kernel
theorem dX3_unite_26 : decode cX3_unite 26 = .ok (.iload_n 1, 1) := by decide +kernel
theorem dX3_unite_27 : decode cX3_unite 27 = .ok (.iaload, 1) := by decide +kernel
theorem dX3_unite_28 : decode cX3_unite 28 = .ok (.iaload, 1) := by decide +kernel
theorem dX3_unite_29 : decode cX3_unite 29 = .ok (.istore_n 3, 1) := by decide +kernel
theorem dX3_unite_30 : decode cX3_unite 30 = .ok (.iload_n 2, 1) := by decide +kernel
theorem dX3_unite_31 : decode cX3_unite 31 = .ok (.iload_n 3, 1) := by decide +kernel
theorem dX3_unite_32 : decode cX3_unite 32 = .ok (.if_icmp .ne 5, 3) := by decide +kernel
theorem dX3_unite_35 : decode cX3_unite 35 = .ok (.iconst 0, 1) := by decide +kernel
theorem dX3_unite_36 : decode cX3_unite 36 = .ok (.ireturn, 1) := by decide +kernel
theorem dX3_unite_37 : decode cX3_unite 37 = .ok (.iconst 0, 1) := by decide +kernel
theorem dX3_unite_38 : decode cX3_unite 38 = .ok (.istore 4, 2) := by decide +kernel
theorem dX3_unite_40 : decode cX3_unite 40 = .ok (.iload 4, 2) := by decide +kernel
theorem dX3_unite_42 : decode cX3_unite 42 = .ok (.aload_n 0, 1) := by decide +kernel
theorem dX3_unite_43 : decode cX3_unite 43 = .ok (.getfield 24, 3) := by decide +kernel
theorem dX3_unite_46 : decode cX3_unite 46 = .ok (.getfield 28, 3) := by decide +kernel
theorem dX3_unite_49 : decode cX3_unite 49 = .ok (.if_icmp .ge 28, 3) := by decide +kernel
theorem dX3_unite_52 : decode cX3_unite 52 = .ok (.aload_n 0, 1) := by decide +kernel
theorem dX3_unite_53 : decode cX3_unite 53 = .ok (.getfield 21, 3) := by decide +kernel
theorem dX3_unite_56 : decode cX3_unite 56 = .ok (.iload 4, 2) := by decide +kernel
theorem dX3_unite_58 : decode cX3_unite 58 = .ok (.iaload, 1) := by decide +kernel
theorem dX3_unite_59 : decode cX3_unite 59 = .ok (.iload_n 3, 1) := by decide +kernel
theorem dX3_unite_60 : decode cX3_unite 60 = .ok (.if_icmp .ne 11, 3) := by decide +kernel
theorem dX3_unite_63 : decode cX3_unite 63 = .ok (.aload_n 0, 1) := by decide +kernel
theorem dX3_unite_64 : decode cX3_unite 64 = .ok (.getfield 21, 3) := by decide +kernel
theorem dX3_unite_67 : decode cX3_unite 67 = .ok (.iload 4, 2) := by decide +kernel
theorem dX3_unite_69 : decode cX3_unite 69 = .ok (.iload_n 2, 1) := by decide +kernel
theorem dX3_unite_70 : decode cX3_unite 70 = .ok (.iastore, 1) := by decide +kernel
theorem dX3_unite_71 : decode cX3_unite 71 = .ok (.iinc 4 1, 3) := by decide +kernel
theorem dX3_unite_74 : decode cX3_unite 74 = .ok (.goto (-34), 3) := by decide +kernel
theorem dX3_unite_77 : decode cX3_unite 77 = .ok (.iconst 1, 1) := by decide +kernel
theorem dX3_unite_78 : decode cX3_unite 78 = .ok (.ireturn, 1) := by decide +kernel
theorem dX4_init_0 : decode cX4_init 0 = .ok (.aload_n 0, 1) := by decide +kernel
theorem dX4_init_1 : decode cX4_init 1 = .ok (.invokespecial 1, 3) := by decide +kernel
theorem dX4_init_4 : decode cX4_init 4 = .ok (.aload_n 0, 1) := by decide +kernel
theorem dX4_init_5 : decode cX4_init 5 = .ok (.new 7, 3) := by decide +kernel
theorem dX4_init_8 : decode cX4_init 8 = .ok (.dup, 1) := by decide +kernel
theorem dX4_init_9 : decode cX4_init 9 = .ok (.invokespecial 9, 3) := by decide +kernel
theorem dX4_init_12 : decode cX4_init 12 = .ok (.putfield 10, 3) := by decide +kernel
theorem dX4_init_15 : decode cX4_init 15 = .ok (.aload_n 0, 1) := by decide +kernel
theorem dX4_init_16 : decode cX4_init 16 = .ok (.bipush 6, 2) := by decide +kernel
theorem dX4_init_18 : decode cX4_init 18 = .ok (.anewarray 16, 3) := by decide +kernel
theorem dX4_init_21 : decode cX4_init 21 = .ok (.putfield 18, 3) := by decide +kernel
theorem dX4_init_24 : decode cX4_init 24 = .ok (.aload_n 0, 1) := by decide +kernel
theorem dX4_init_25 : decode cX4_init 25 = .ok (.new 22, 3) := by decide +kernel
theorem dX4_init_28 : decode cX4_init 28 = .ok (.dup, 1) := by decide +kernel
theorem dX4_init_29 : decode cX4_init 29 = .ok (.aload_n 0, 1) := by decide +kernel
theorem dX4_init_30 : decode cX4_init 30 = .ok (.getfield 10, 3) := by decide +kernel
theorem dX4_init_33 : decode cX4_init 33 = .ok (.invokespecial 24, 3) := by decide +kernel
theorem dX4_init_36 : decode cX4_init 36 = .ok (.putfield 27, 3) := by decide +kernel
theorem dX4_init_39 : decode cX4_init 39 = .ok (.aload_n 0, 1) := by decide +kernel
theorem dX4_init_40 : decode cX4_init 40 = .ok (.new 22, 3) := by decide +kernel
theorem dX4_init_43 : decode cX4_init 43 = .ok (.dup, 1) := by decide +kernel
theorem dX4_init_44 : decode cX4_init 44 = .ok (.aload_n 0, 1) := by decide +kernel
theorem dX4_init_45 : decode cX4_init 45 = .ok (.getfield 10, 3) := by decide +kernel
theorem dX4_init_48 : decode cX4_init 48 = .ok (.invokespecial 24, 3) := by decide +kernel
theorem dX4_init_51 : decode cX4_init 51 = .ok (.putfield 31, 3) := by decide +kernel
theorem dX4_init_54 : decode cX4_init 54 = .ok (.aload_n 0, 1) := by decide +kernel
theorem dX4_init_55 : decode cX4_init 55 = .ok (.new 34, 3) := by decide +kernel
theorem dX4_init_58 : decode cX4_init 58 = .ok (.dup, 1) := by decide +kernel
theorem dX4_init_59 : decode cX4_init 59 = .ok (.aload_n 0, 1) := by decide +kernel
theorem dX4_init_60 : decode cX4_init 60 = .ok (.getfield 10, 3) := by decide +kernel
theorem dX4_init_63 : decode cX4_init 63 = .ok (.invokespecial 36, 3) := by decide +kernel
theorem dX4_init_66 : decode cX4_init 66 = .ok (.putfield 37, 3) := by decide +kernel
theorem dX4_init_69 : decode cX4_init 69 = .ok (.aload_n 0, 1) := by decide +kernel
theorem dX4_init_70 : decode cX4_init 70 = .ok (.sipush 200, 3) := by decide +kernel
theorem dX4_init_73 : decode cX4_init 73 = .ok (.newarray .int, 2) := by decide +kernel
theorem dX4_init_75 : decode cX4_init 75 = .ok (.putfield 41, 3) := by decide +kernel
theorem dX4_init_78 : decode cX4_init 78 = .ok (.iconst 0, 1) := by decide +kernel
theorem dX4_init_79 : decode cX4_init 79 = .ok (.istore_n 1, 1) := by decide +kernel
theorem dX4_init_80 : decode cX4_init 80 = .ok (.iload_n 1, 1) := by decide +kernel
theorem dX4_init_81 : decode cX4_init 81 = .ok (.bipush 6, 2) := by decide +kernel
theorem dX4_init_83 : decode cX4_init 83 = .ok (.if_icmp .ge 22, 3) := by decide +kernel
theorem dX4_init_86 : decode cX4_init 86 = .ok (.aload_n 0, 1) := by decide +kernel
theorem dX4_init_87 : decode cX4_init 87 = .ok (.getfield 18, 3) := by decide +kernel
theorem dX4_init_90 : decode cX4_init 90 = .ok (.iload_n 1, 1) := by decide +kernel
theorem dX4_init_91 : decode cX4_init 91 = .ok (.new 16, 3) := by decide +kernel
theorem dX4_init_94 : decode cX4_init 94 = .ok (.dup, 1) := by decide +kernel
theorem dX4_init_95 : decode cX4_init 95 = .ok (.invokespecial 45, 3) := by decide +kernel
theorem dX4_init_98 : decode cX4_init 98 = .ok (.aastore, 1) := by decide +kernel
theorem dX4_init_99 : decode cX4_init 99 = .ok (.iinc 1 1, 3) := by decide +kernel
theorem dX4_init_102 : decode cX4_init 102 = .ok (.goto (-22), 3) := by decide +kernel
theorem dX4_init_105 : decode cX4_init 105 = .ok (.return_, 1) := by decide +kernel
theorem dX4_pore_0 : decode cX4_pore 0 = .ok (.iload_n 1, 1) := by decide +kernel
theorem dX4_pore_1 : decode cX4_pore 1 = .ok (.ifCond .lt 8, 3) := by decide +kernel
theorem dX4_pore_4 : decode cX4_pore 4 = .ok (.iload_n 1, 1) := by decide +kernel
theorem dX4_pore_5 : decode cX4_pore 5 = .ok (.iconst 4, 1) := by decide +kernel
theorem dX4_pore_6 : decode cX4_pore 6 = .ok (.if_icmp .le 5, 3) := by decide +kernel
theorem dX4_pore_9 : decode cX4_pore 9 = .ok (.iconst (-1), 1) := by decide +kernel
theorem dX4_pore_10 : decode cX4_pore 10 = .ok (.ireturn, 1) := by decide +kernel
theorem dX4_pore_11 : decode cX4_pore 11 = .ok (.aload_n 0, 1) := by decide +kernel
theorem dX4_pore_12 : decode cX4_pore 12 = .ok (.getfield 10, 3) := by decide +kernel
theorem dX4_pore_15 : decode cX4_pore 15 = .ok (.getfield 46, 3) := by decide +kernel
theorem dX4_pore_18 : decode cX4_pore 18 = .ok (.bipush 120, 2) := by decide +kernel
theorem dX4_pore_20 : decode cX4_pore 20 = .ok (.if_icmp .lt 6, 3) := by decide +kernel
theorem dX4_pore_23 : decode cX4_pore 23 = .ok (.bipush (-2), 2) := by decide +kernel
theorem dX4_pore_25 : decode cX4_pore 25 = .ok (.ireturn, 1) := by decide +kernel
theorem dX4_pore_26 : decode cX4_pore 26 = .ok (.aload_n 0, 1) := by decide +kernel
theorem dX4_pore_27 : decode cX4_pore 27 = .ok (.getfield 27, 3) := by decide +kernel
theorem dX4_pore_30 : decode cX4_pore 30 = .ok (.iconst 0, 1) := by decide +kernel
theorem dX4_pore_31 : decode cX4_pore 31 = .ok (.putfield 50, 3) := by decide +kernel
theorem dX4_pore_34 : decode cX4_pore 34 = .ok (.aload_n 0, 1) := by decide +kernel
theorem dX4_pore_35 : decode cX4_pore 35 = .ok (.getfield 10, 3) := by decide +kernel
theorem dX4_pore_38 : decode cX4_pore 38 = .ok (.iload_n 1, 1) := by decide +kernel
theorem dX4_pore_39 : decode cX4_pore 39 = .ok (.invokevirtual 54, 3) := by decide +kernel
theorem dX4_pore_42 : decode cX4_pore 42 = .ok (.ireturn, 1) := by decide +kernel
theorem dX4_throat_0 : decode cX4_throat 0 = .ok (.aload_n 0, 1) := by decide +kernel
theorem dX4_throat_1 : decode cX4_throat 1 = .ok (.getfield 10, 3) := by decide +kernel
theorem dX4_throat_4 : decode cX4_throat 4 = .ok (.iload_n 1, 1) := by decide +kernel
theorem dX4_throat_5 : decode cX4_throat 5 = .ok (.invokevirtual 58, 3) := by decide +kernel
theorem dX4_throat_8 : decode cX4_throat 8 = .ok (.ifCond .eq 19, 3) := by decide +kernel
theorem dX4_throat_11 : decode cX4_throat 11 = .ok (.aload_n 0, 1) := by decide +kernel
theorem dX4_throat_12 : decode cX4_throat 12 = .ok (.getfield 10, 3) := by decide +kernel
theorem dX4_throat_15 : decode cX4_throat 15 = .ok (.iload_n 2, 1) := by decide +kernel
theorem dX4_throat_16 : decode cX4_throat 16 = .ok (.invokevirtual 58, 3) := by decide +kernel
theorem dX4_throat_19 : decode cX4_throat 19 = .ok (.ifCond .eq 8, 3) := by decide +kernel
theorem dX4_throat_22 : decode cX4_throat 22 = .ok (.iload_n 1, 1) := by decide +kernel
theorem dX4_throat_23 : decode cX4_throat 23 = .ok (.iload_n 2, 1) := by decide +kernel
theorem dX4_throat_24 : decode cX4_throat 24 = .ok (.if_icmp .ne 5, 3) := by decide +kernel
theorem dX4_throat_27 : decode cX4_throat 27 = .ok (.iconst (-1), 1) := by decide +kernel
theorem dX4_throat_28 : decode cX4_throat 28 = .ok (.ireturn, 1) := by decide +kernel
theorem dX4_throat_29 : decode cX4_throat 29 = .ok (.aload_n 0, 1) := by decide +kernel
theorem dX4_throat_30 : decode cX4_throat 30 = .ok (.getfield 10, 3) := by decide +kernel
theorem dX4_throat_33 : decode cX4_throat 33 = .ok (.getfield 62, 3) := by decide +kernel
theorem dX4_throat_36 : decode cX4_throat 36 = .ok (.sipush 300, 3) := by decide +kernel
theorem dX4_throat_39 : decode cX4_throat 39 = .ok (.if_icmp .lt 6, 3) := by decide +kernel
theorem dX4_throat_42 : decode cX4_throat 42 = .ok (.bipush (-2), 2) := by decide +kernel
theorem dX4_throat_44 : decode cX4_throat 44 = .ok (.ireturn, 1) := by decide +kernel
theorem dX4_throat_45 : decode cX4_throat 45 = .ok (.aload_n 0, 1) := by decide +kernel
theorem dX4_throat_46 : decode cX4_throat 46 = .ok (.getfield 27, 3) := by decide +kernel
theorem dX4_throat_49 : decode cX4_throat 49 = .ok (.iconst 0, 1) := by decide +kernel
theorem dX4_throat_50 : decode cX4_throat 50 = .ok (.putfield 50, 3) := by decide +kernel
theorem dX4_throat_53 : decode cX4_throat 53 = .ok (.aload_n 0, 1) := by decide +kernel
theorem dX4_throat_54 : decode cX4_throat 54 = .ok (.getfield 10, 3) := by decide +kernel
theorem dX4_throat_57 : decode cX4_throat 57 = .ok (.iload_n 1, 1) := by decide +kernel
theorem dX4_throat_58 : decode cX4_throat 58 = .ok (.iload_n 2, 1) := by decide +kernel
theorem dX4_throat_59 : decode cX4_throat 59 = .ok (.invokevirtual 65, 3) := by decide +kernel
theorem dX4_throat_62 : decode cX4_throat 62 = .ok (.ireturn, 1) := by decide +kernel
theorem dX4_hinder_0 : decode cX4_hinder 0 = .ok (.aload_n 0, 1) := by decide +kernel
theorem dX4_hinder_1 : decode cX4_hinder 1 = .ok (.getfield 10, 3) := by decide +kernel
theorem dX4_hinder_4 : decode cX4_hinder 4 = .ok (.iload_n 1, 1) := by decide +kernel
theorem dX4_hinder_5 : decode cX4_hinder 5 = .ok (.invokevirtual 69, 3) := by decide +kernel
theorem dX4_hinder_8 : decode cX4_hinder 8 = .ok (.ifCond .eq 11, 3) := by decide +kernel
theorem dX4_hinder_11 : decode cX4_hinder 11 = .ok (.iload_n 2, 1) := by decide +kernel
theorem dX4_hinder_12 : decode cX4_hinder 12 = .ok (.i2l, 1) := by decide +kernel
theorem dX4_hinder_13 : decode cX4_hinder 13 = .ok (.invokestatic 72, 3) := by decide +kernel
theorem dX4_hinder_16 : decode cX4_hinder 16 = .ok (.ifCond .ne 5, 3) := by decide +kernel
theorem dX4_hinder_19 : decode cX4_hinder 19 = .ok (.iconst (-1), 1) := by decide +kernel
theorem dX4_hinder_20 : decode cX4_hinder 20 = .ok (.ireturn, 1) := by decide +kernel
theorem dX4_hinder_21 : decode cX4_hinder 21 = .ok (.aload_n 0, 1) := by decide +kernel
theorem dX4_hinder_22 : decode cX4_hinder 22 = .ok (.getfield 27, 3) := by decide +kernel
theorem dX4_hinder_25 : decode cX4_hinder 25 = .ok (.iconst 0, 1) := by decide +kernel
theorem dX4_hinder_26 : decode cX4_hinder 26 = .ok (.putfield 50, 3) := by decide +kernel
theorem dX4_hinder_29 : decode cX4_hinder 29 = .ok (.aload_n 0, 1) := by decide +kernel
theorem dX4_hinder_30 : decode cX4_hinder 30 = .ok (.getfield 10, 3) := by decide +kernel
theorem dX4_hinder_33 : decode cX4_hinder 33 = .ok (.iload_n 1, 1) := by decide +kernel
theorem dX4_hinder_34 : decode cX4_hinder 34 = .ok (.iload_n 2, 1) := by decide +kernel
theorem dX4_hinder_35 : decode cX4_hinder 35 = .ok (.aload_n 0, 1) := by decide +kernel
theorem dX4_hinder_36 : decode cX4_hinder 36 = .ok (.getfield 10, 3) := by decide +kernel
theorem dX4_hinder_39 : decode cX4_hinder 39 = .ok (.iload_n 1, 1) := by decide +kernel
theorem dX4_hinder_40 : decode cX4_hinder 40 = .ok (.invokevirtual 76, 3) := by decide +kernel
theorem dX4_hinder_43 : decode cX4_hinder 43 = .ok (.invokevirtual 79, 3) := by decide +kernel
theorem dX4_hinder_46 : decode cX4_hinder 46 = .ok (.iconst 1, 1) := by decide +kernel
theorem dX4_hinder_47 : decode cX4_hinder 47 = .ok (.ireturn, 1) := by decide +kernel
theorem dX4_shut_0 : decode cX4_shut 0 = .ok (.aload_n 0, 1) := by decide +kernel
theorem dX4_shut_1 : decode cX4_shut 1 = .ok (.getfield 10, 3) := by decide +kernel
theorem dX4_shut_4 : decode cX4_shut 4 = .ok (.iload_n 1, 1) := by decide +kernel
theorem dX4_shut_5 : decode cX4_shut 5 = .ok (.invokevirtual 69, 3) := by decide +kernel
theorem dX4_shut_8 : decode cX4_shut 8 = .ok (.ifCond .ne 5, 3) := by decide +kernel
theorem dX4_shut_11 : decode cX4_shut 11 = .ok (.iconst (-1), 1) := by decide +kernel
theorem dX4_shut_12 : decode cX4_shut 12 = .ok (.ireturn, 1) := by decide +kernel
theorem dX4_shut_13 : decode cX4_shut 13 = .ok (.aload_n 0, 1) := by decide +kernel
theorem dX4_shut_14 : decode cX4_shut 14 = .ok (.getfield 27, 3) := by decide +kernel
theorem dX4_shut_17 : decode cX4_shut 17 = .ok (.iconst 0, 1) := by decide +kernel
theorem dX4_shut_18 : decode cX4_shut 18 = .ok (.putfield 50, 3) := by decide +kernel
theorem dX4_shut_21 : decode cX4_shut 21 = .ok (.aload_n 0, 1) := by decide +kernel
theorem dX4_shut_22 : decode cX4_shut 22 = .ok (.getfield 10, 3) := by decide +kernel
theorem dX4_shut_25 : decode cX4_shut 25 = .ok (.iload_n 1, 1) := by decide +kernel
theorem dX4_shut_26 : decode cX4_shut 26 = .ok (.invokevirtual 76, 3) := by decide +kernel
theorem dX4_shut_29 : decode cX4_shut 29 = .ok (.iload_n 2, 1) := by decide +kernel
theorem dX4_shut_30 : decode cX4_shut 30 = .ok (.if_icmp .eq 5, 3) := by decide +kernel
theorem dX4_shut_33 : decode cX4_shut 33 = .ok (.iconst 0, 1) := by decide +kernel
theorem dX4_shut_34 : decode cX4_shut 34 = .ok (.ireturn, 1) := by decide +kernel
theorem dX4_shut_35 : decode cX4_shut 35 = .ok (.aload_n 0, 1) := by decide +kernel
theorem dX4_shut_36 : decode cX4_shut 36 = .ok (.getfield 10, 3) := by decide +kernel
theorem dX4_shut_39 : decode cX4_shut 39 = .ok (.iload_n 1, 1) := by decide +kernel
theorem dX4_shut_40 : decode cX4_shut 40 = .ok (.aload_n 0, 1) := by decide +kernel
theorem dX4_shut_41 : decode cX4_shut 41 = .ok (.getfield 10, 3) := by decide +kernel
theorem dX4_shut_44 : decode cX4_shut 44 = .ok (.getfield 83, 3) := by decide +kernel
theorem dX4_shut_47 : decode cX4_shut 47 = .ok (.iload_n 1, 1) := by decide +kernel
theorem dX4_shut_48 : decode cX4_shut 48 = .ok (.iaload, 1) := by decide +kernel
theorem dX4_shut_49 : decode cX4_shut 49 = .ok (.iload_n 2, 1) := by decide +kernel
theorem dX4_shut_50 : decode cX4_shut 50 = .ok (.ifCond .ne 7, 3) := by decide +kernel
theorem dX4_shut_53 : decode cX4_shut 53 = .ok (.iconst 1, 1) := by decide +kernel
theorem dX4_shut_54 : decode cX4_shut 54 = .ok (.goto 4, 3) := by decide +kernel
theorem dX4_shut_57 : decode cX4_shut 57 = .ok (.iconst 0, 1) := by decide +kernel
theorem dX4_shut_58 : decode cX4_shut 58 = .ok (.invokevirtual 79, 3) := by decide +kernel
theorem dX4_shut_61 : decode cX4_shut 61 = .ok (.iconst 1, 1) := by decide +kernel
theorem dX4_shut_62 : decode cX4_shut 62 = .ok (.ireturn, 1) := by decide +kernel
theorem dX4_inlet_0 : decode cX4_inlet 0 = .ok (.aload_n 0, 1) := by decide +kernel
theorem dX4_inlet_1 : decode cX4_inlet 1 = .ok (.getfield 10, 3) := by decide +kernel
theorem dX4_inlet_4 : decode cX4_inlet 4 = .ok (.iload_n 1, 1) := by decide +kernel
theorem dX4_inlet_5 : decode cX4_inlet 5 = .ok (.invokevirtual 58, 3) := by decide +kernel
theorem dX4_inlet_8 : decode cX4_inlet 8 = .ok (.ifCond .ne 5, 3) := by decide +kernel
theorem dX4_inlet_11 : decode cX4_inlet 11 = .ok (.iconst (-1), 1) := by decide +kernel
theorem dX4_inlet_12 : decode cX4_inlet 12 = .ok (.ireturn, 1) := by decide +kernel
theorem dX4_inlet_13 : decode cX4_inlet 13 = .ok (.aload_n 0, 1) := by decide +kernel
theorem dX4_inlet_14 : decode cX4_inlet 14 = .ok (.getfield 27, 3) := by decide +kernel
theorem dX4_inlet_17 : decode cX4_inlet 17 = .ok (.iconst 0, 1) := by decide +kernel
theorem dX4_inlet_18 : decode cX4_inlet 18 = .ok (.putfield 50, 3) := by decide +kernel
theorem dX4_inlet_21 : decode cX4_inlet 21 = .ok (.aload_n 0, 1) := by decide +kernel
theorem dX4_inlet_22 : decode cX4_inlet 22 = .ok (.getfield 10, 3) := by decide +kernel
theorem dX4_inlet_25 : decode cX4_inlet 25 = .ok (.getfield 86, 3) := by decide +kernel
theorem dX4_inlet_28 : decode cX4_inlet 28 = .ok (.iload_n 1, 1) := by decide +kernel
theorem dX4_inlet_29 : decode cX4_inlet 29 = .ok (.baload, 1) := by decide +kernel
theorem dX4_inlet_30 : decode cX4_inlet 30 = .ok (.iload_n 2, 1) := by decide +kernel
theorem dX4_inlet_31 : decode cX4_inlet 31 = .ok (.if_icmp .ne 5, 3) := by decide +kernel
theorem dX4_inlet_34 : decode cX4_inlet 34 = .ok (.iconst 0, 1) := by decide +kernel
theorem dX4_inlet_35 : decode cX4_inlet 35 = .ok (.ireturn, 1) := by decide +kernel
theorem dX4_inlet_36 : decode cX4_inlet 36 = .ok (.aload_n 0, 1) := by decide +kernel
theorem dX4_inlet_37 : decode cX4_inlet 37 = .ok (.getfield 10, 3) := by decide +kernel
theorem dX4_inlet_40 : decode cX4_inlet 40 = .ok (.getfield 86, 3) := by decide +kernel
theorem dX4_inlet_43 : decode cX4_inlet 43 = .ok (.iload_n 1, 1) := by decide +kernel
theorem dX4_inlet_44 : decode cX4_inlet 44 = .ok (.iload_n 2, 1) := by decide +kernel
theorem dX4_inlet_45 : decode cX4_inlet 45 = .ok (.bastore, 1) := by decide +kernel
theorem dX4_inlet_46 : decode cX4_inlet 46 = .ok (.iconst 1, 1) := by decide +kernel
theorem dX4_inlet_47 : decode cX4_inlet 47 = .ok (.ireturn, 1) := by decide +kernel
theorem dX4_trapping_0 : decode cX4_trapping 0 = .ok (.aload_n 0, 1) := by decide +kernel
theorem dX4_trapping_1 : decode cX4_trapping 1 = .ok (.getfield 27, 3) := by decide +kernel
theorem dX4_trapping_4 : decode cX4_trapping 4 = .ok (.iconst 0, 1) := by decide +kernel
theorem dX4_trapping_5 : decode cX4_trapping 5 = .ok (.putfield 50, 3) := by decide +kernel
theorem dX4_trapping_8 : decode cX4_trapping 8 = .ok (.aload_n 0, 1) := by decide +kernel
theorem dX4_trapping_9 : decode cX4_trapping 9 = .ok (.getfield 10, 3) := by decide +kernel
theorem dX4_trapping_12 : decode cX4_trapping 12 = .ok (.getfield 90, 3) := by decide +kernel
theorem dX4_trapping_15 : decode cX4_trapping 15 = .ok (.iload_n 1, 1) := by decide +kernel
theorem dX4_trapping_16 : decode cX4_trapping 16 = .ok (.if_icmp .ne 5, 3) := by decide +kernel
theorem dX4_trapping_19 : decode cX4_trapping 19 = .ok (.iconst 0, 1) := by decide +kernel
theorem dX4_trapping_20 : decode cX4_trapping 20 = .ok (.ireturn, 1) := by decide +kernel
theorem dX4_trapping_21 : decode cX4_trapping 21 = .ok (.aload_n 0, 1) := by decide +kernel
theorem dX4_trapping_22 : decode cX4_trapping 22 = .ok (.getfield 10, 3) := by decide +kernel
theorem dX4_trapping_25 : decode cX4_trapping 25 = .ok (.iload_n 1, 1) := by decide +kernel
theorem dX4_trapping_26 : decode cX4_trapping 26 = .ok (.putfield 90, 3) := by decide +kernel
theorem dX4_trapping_29 : decode cX4_trapping 29 = .ok (.iconst 1, 1) := by decide +kernel
theorem dX4_trapping_30 : decode cX4_trapping 30 = .ok (.ireturn, 1) := by decide +kernel
theorem dX4_about_0 : decode cX4_about 0 = .ok (.aload_n 0, 1) := by decide +kernel
theorem dX4_about_1 : decode cX4_about 1 = .ok (.getfield 10, 3) := by decide +kernel
theorem dX4_about_4 : decode cX4_about 4 = .ok (.iload_n 1, 1) := by decide +kernel
theorem dX4_about_5 : decode cX4_about 5 = .ok (.invokevirtual 69, 3) := by decide +kernel
theorem dX4_about_8 : decode cX4_about 8 = .ok (.ifCond .ne 5, 3) := by decide +kernel
theorem dX4_about_11 : decode cX4_about 11 = .ok (.iconst (-1), 1) := by decide +kernel
theorem dX4_about_12 : decode cX4_about 12 = .ok (.ireturn, 1) := by decide +kernel
theorem dX4_about_13 : decode cX4_about 13 = .ok (.iload_n 2, 1) := by decide +kernel
theorem dX4_about_14 : decode cX4_about 14 = .ok (.tableswitch 91 0 4 #[34, 44, 54, 64, 81], 34) := by decide +kernel
theorem dX4_about_48 : decode cX4_about 48 = .ok (.aload_n 0, 1) := by decide +kernel
theorem dX4_about_49 : decode cX4_about 49 = .ok (.getfield 10, 3) := by decide +kernel
theorem dX4_about_52 : decode cX4_about 52 = .ok (.getfield 93, 3) := by decide +kernel
theorem dX4_about_55 : decode cX4_about 55 = .ok (.iload_n 1, 1) := by decide +kernel
theorem dX4_about_56 : decode cX4_about 56 = .ok (.iaload, 1) := by decide +kernel
theorem dX4_about_57 : decode cX4_about 57 = .ok (.ireturn, 1) := by decide +kernel
theorem dX4_about_58 : decode cX4_about 58 = .ok (.aload_n 0, 1) := by decide +kernel
theorem dX4_about_59 : decode cX4_about 59 = .ok (.getfield 10, 3) := by decide +kernel
theorem dX4_about_62 : decode cX4_about 62 = .ok (.getfield 96, 3) := by decide +kernel
theorem dX4_about_65 : decode cX4_about 65 = .ok (.iload_n 1, 1) := by decide +kernel
theorem dX4_about_66 : decode cX4_about 66 = .ok (.iaload, 1) := by decide +kernel
theorem dX4_about_67 : decode cX4_about 67 = .ok (.ireturn, 1) := by decide +kernel
theorem dX4_about_68 : decode cX4_about 68 = .ok (.aload_n 0, 1) := by decide +kernel
theorem dX4_about_69 : decode cX4_about 69 = .ok (.getfield 10, 3) := by decide +kernel
theorem dX4_about_72 : decode cX4_about 72 = .ok (.getfield 83, 3) := by decide +kernel
theorem dX4_about_75 : decode cX4_about 75 = .ok (.iload_n 1, 1) := by decide +kernel
theorem dX4_about_76 : decode cX4_about 76 = .ok (.iaload, 1) := by decide +kernel
theorem dX4_about_77 : decode cX4_about 77 = .ok (.ireturn, 1) := by decide +kernel
theorem dX4_about_78 : decode cX4_about 78 = .ok (.aload_n 0, 1) := by decide +kernel
theorem dX4_about_79 : decode cX4_about 79 = .ok (.getfield 10, 3) := by decide +kernel
theorem dX4_about_82 : decode cX4_about 82 = .ok (.iload_n 1, 1) := by decide +kernel
theorem dX4_about_83 : decode cX4_about 83 = .ok (.invokevirtual 76, 3) := by decide +kernel
theorem dX4_about_86 : decode cX4_about 86 = .ok (.ifCond .eq 7, 3) := by decide +kernel
theorem dX4_about_89 : decode cX4_about 89 = .ok (.iconst 1, 1) := by decide +kernel
theorem dX4_about_90 : decode cX4_about 90 = .ok (.goto 4, 3) := by decide +kernel
theorem dX4_about_93 : decode cX4_about 93 = .ok (.iconst 0, 1) := by decide +kernel
theorem dX4_about_94 : decode cX4_about 94 = .ok (.ireturn, 1) := by decide +kernel
theorem dX4_about_95 : decode cX4_about 95 = .ok (.aload_n 0, 1) := by decide +kernel
theorem dX4_about_96 : decode cX4_about 96 = .ok (.getfield 10, 3) := by decide +kernel
theorem dX4_about_99 : decode cX4_about 99 = .ok (.getfield 99, 3) := by decide +kernel
theorem dX4_about_102 : decode cX4_about 102 = .ok (.iload_n 1, 1) := by decide +kernel
theorem dX4_about_103 : decode cX4_about 103 = .ok (.iaload, 1) := by decide +kernel
theorem dX4_about_104 : decode cX4_about 104 = .ok (.ireturn, 1) := by decide +kernel
theorem dX4_about_105 : decode cX4_about 105 = .ok (.iconst (-1), 1) := by decide +kernel
theorem dX4_about_106 : decode cX4_about 106 = .ok (.ireturn, 1) := by decide +kernel
theorem dX4_of_0 : decode cX4_of 0 = .ok (.aload_n 0, 1) := by decide +kernel
theorem dX4_of_1 : decode cX4_of 1 = .ok (.getfield 10, 3) := by decide +kernel
theorem dX4_of_4 : decode cX4_of 4 = .ok (.iload_n 1, 1) := by decide +kernel
theorem dX4_of_5 : decode cX4_of 5 = .ok (.invokevirtual 58, 3) := by decide +kernel
theorem dX4_of_8 : decode cX4_of 8 = .ok (.ifCond .ne 5, 3) := by decide +kernel
theorem dX4_of_11 : decode cX4_of 11 = .ok (.iconst (-1), 1) := by decide +kernel
theorem dX4_of_12 : decode cX4_of 12 = .ok (.ireturn, 1) := by decide +kernel
theorem dX4_of_13 : decode cX4_of 13 = .ok (.iload_n 2, 1) := by decide +kernel
theorem dX4_of_14 : decode cX4_of 14 = .ok (.tableswitch 76 0 2 #[26, 36, 54], 26) := by decide +kernel
theorem dX4_of_40 : decode cX4_of 40 = .ok (.aload_n 0, 1) := by decide +kernel
theorem dX4_of_41 : decode cX4_of 41 = .ok (.getfield 10, 3) := by decide +kernel
theorem dX4_of_44 : decode cX4_of 44 = .ok (.getfield 102, 3) := by decide +kernel
theorem dX4_of_47 : decode cX4_of 47 = .ok (.iload_n 1, 1) := by decide +kernel
theorem dX4_of_48 : decode cX4_of 48 = .ok (.iaload, 1) := by decide +kernel
theorem dX4_of_49 : decode cX4_of 49 = .ok (.ireturn, 1) := by decide +kernel
theorem dX4_of_50 : decode cX4_of 50 = .ok (.aload_n 0, 1) := by decide +kernel
theorem dX4_of_51 : decode cX4_of 51 = .ok (.getfield 10, 3) := by decide +kernel
theorem dX4_of_54 : decode cX4_of 54 = .ok (.getfield 86, 3) := by decide +kernel
theorem dX4_of_57 : decode cX4_of 57 = .ok (.iload_n 1, 1) := by decide +kernel
theorem dX4_of_58 : decode cX4_of 58 = .ok (.baload, 1) := by decide +kernel
theorem dX4_of_59 : decode cX4_of 59 = .ok (.ifCond .eq 7, 3) := by decide +kernel
theorem dX4_of_62 : decode cX4_of 62 = .ok (.iconst 1, 1) := by decide +kernel
theorem dX4_of_63 : decode cX4_of 63 = .ok (.goto 4, 3) := by decide +kernel
theorem dX4_of_66 : decode cX4_of 66 = .ok (.iconst 0, 1) := by decide +kernel
theorem dX4_of_67 : decode cX4_of 67 = .ok (.ireturn, 1) := by decide +kernel
theorem dX4_of_68 : decode cX4_of 68 = .ok (.aload_n 0, 1) := by decide +kernel
theorem dX4_of_69 : decode cX4_of 69 = .ok (.getfield 10, 3) := by decide +kernel
theorem dX4_of_72 : decode cX4_of 72 = .ok (.getfield 105, 3) := by decide +kernel
theorem dX4_of_75 : decode cX4_of 75 = .ok (.iload_n 1, 1) := by decide +kernel
theorem dX4_of_76 : decode cX4_of 76 = .ok (.iconst 1, 1) := by decide +kernel
theorem dX4_of_77 : decode cX4_of 77 = .ok (.iadd, 1) := by decide +kernel
theorem dX4_of_78 : decode cX4_of 78 = .ok (.iaload, 1) := by decide +kernel
theorem dX4_of_79 : decode cX4_of 79 = .ok (.aload_n 0, 1) := by decide +kernel
theorem dX4_of_80 : decode cX4_of 80 = .ok (.getfield 10, 3) := by decide +kernel
theorem dX4_of_83 : decode cX4_of 83 = .ok (.getfield 105, 3) := by decide +kernel
theorem dX4_of_86 : decode cX4_of 86 = .ok (.iload_n 1, 1) := by decide +kernel
theorem dX4_of_87 : decode cX4_of 87 = .ok (.iaload, 1) := by decide +kernel
theorem dX4_of_88 : decode cX4_of 88 = .ok (.isub, 1) := by decide +kernel
theorem dX4_of_89 : decode cX4_of 89 = .ok (.ireturn, 1) := by decide +kernel
theorem dX4_of_90 : decode cX4_of 90 = .ok (.iconst (-1), 1) := by decide +kernel
theorem dX4_of_91 : decode cX4_of 91 = .ok (.ireturn, 1) := by decide +kernel
theorem dX4_ranked_0 : decode cX4_ranked 0 = .ok (.iload_n 1, 1) := by decide +kernel
theorem dX4_ranked_1 : decode cX4_ranked 1 = .ok (.ifCond .lt 26, 3) := by decide +kernel
theorem dX4_ranked_4 : decode cX4_ranked 4 = .ok (.iload_n 1, 1) := by decide +kernel
theorem dX4_ranked_5 : decode cX4_ranked 5 = .ok (.aload_n 0, 1) := by decide +kernel
theorem dX4_ranked_6 : decode cX4_ranked 6 = .ok (.getfield 10, 3) := by decide +kernel
theorem dX4_ranked_9 : decode cX4_ranked 9 = .ok (.getfield 108, 3) := by decide +kernel
theorem dX4_ranked_12 : decode cX4_ranked 12 = .ok (.if_icmp .ge 15, 3) := by decide +kernel
theorem dX4_ranked_15 : decode cX4_ranked 15 = .ok (.aload_n 0, 1) := by decide +kernel
theorem dX4_ranked_16 : decode cX4_ranked 16 = .ok (.getfield 10, 3) := by decide +kernel
theorem dX4_ranked_19 : decode cX4_ranked 19 = .ok (.getfield 111, 3) := by decide +kernel
theorem dX4_ranked_22 : decode cX4_ranked 22 = .ok (.iload_n 1, 1) := by decide +kernel
theorem dX4_ranked_23 : decode cX4_ranked 23 = .ok (.iaload, 1) := by decide +kernel
theorem dX4_ranked_24 : decode cX4_ranked 24 = .ok (.goto 4, 3) := by decide +kernel
theorem dX4_ranked_27 : decode cX4_ranked 27 = .ok (.iconst (-1), 1) := by decide +kernel
theorem dX4_ranked_28 : decode cX4_ranked 28 = .ok (.ireturn, 1) := by decide +kernel
theorem dX4_core_0 : decode cX4_core 0 = .ok (.iload_n 1, 1) := by decide +kernel
theorem dX4_core_1 : decode cX4_core 1 = .ok (.invokestatic 114, 3) := by decide +kernel
theorem dX4_core_4 : decode cX4_core 4 = .ok (.ifCond .eq 12, 3) := by decide +kernel
theorem dX4_core_7 : decode cX4_core 7 = .ok (.iload_n 2, 1) := by decide +kernel
theorem dX4_core_8 : decode cX4_core 8 = .ok (.ifCond .lt 8, 3) := by decide +kernel
theorem dX4_core_11 : decode cX4_core 11 = .ok (.iload_n 2, 1) := by decide +kernel
theorem dX4_core_12 : decode cX4_core 12 = .ok (.iconst 5, 1) := by decide +kernel
theorem dX4_core_13 : decode cX4_core 13 = .ok (.if_icmp .le 5, 3) := by decide +kernel
theorem dX4_core_16 : decode cX4_core 16 = .ok (.iconst (-1), 1) := by decide +kernel
theorem dX4_core_17 : decode cX4_core 17 = .ok (.ireturn, 1) := by decide +kernel
theorem dX4_core_18 : decode cX4_core 18 = .ok (.iload_n 3, 1) := by decide +kernel
theorem dX4_core_19 : decode cX4_core 19 = .ok (.ifCond .ge 6, 3) := by decide +kernel
theorem dX4_core_22 : decode cX4_core 22 = .ok (.bipush (-5), 2) := by decide +kernel
theorem dX4_core_24 : decode cX4_core 24 = .ok (.ireturn, 1) := by decide +kernel
theorem dX4_core_25 : decode cX4_core 25 = .ok (.iload_n 3, 1) := by decide +kernel
theorem dX4_core_26 : decode cX4_core 26 = .ok (.bipush 60, 2) := by decide +kernel
theorem dX4_core_28 : decode cX4_core 28 = .ok (.if_icmp .le 5, 3) := by decide +kernel
theorem dX4_core_31 : decode cX4_core 31 = .ok (.iconst (-1), 1) := by decide +kernel
theorem dX4_core_32 : decode cX4_core 32 = .ok (.ireturn, 1) := by decide +kernel
theorem dX4_core_33 : decode cX4_core 33 = .ok (.aload_n 0, 1) := by decide +kernel
theorem dX4_core_34 : decode cX4_core 34 = .ok (.getfield 18, 3) := by decide +kernel
theorem dX4_core_37 : decode cX4_core 37 = .ok (.iload_n 1, 1) := by decide +kernel
theorem dX4_core_38 : decode cX4_core 38 = .ok (.aaload, 1) := by decide +kernel
theorem dX4_core_39 : decode cX4_core 39 = .ok (.iload_n 2, 1) := by decide +kernel
theorem dX4_core_40 : decode cX4_core 40 = .ok (.iload_n 3, 1) := by decide +kernel
theorem dX4_core_41 : decode cX4_core 41 = .ok (.invokevirtual 117, 3) := by decide +kernel
theorem dX4_core_44 : decode cX4_core 44 = .ok (.iconst 1, 1) := by decide +kernel
theorem dX4_core_45 : decode cX4_core 45 = .ok (.ireturn, 1) := by decide +kernel
theorem dX4_cell_0 : decode cX4_cell 0 = .ok (.iload_n 1, 1) := by decide +kernel
theorem dX4_cell_1 : decode cX4_cell 1 = .ok (.invokestatic 114, 3) := by decide +kernel
theorem dX4_cell_4 : decode cX4_cell 4 = .ok (.ifCond .eq 15, 3) := by decide +kernel
theorem dX4_cell_7 : decode cX4_cell 7 = .ok (.iload 5, 2) := by decide +kernel
theorem dX4_cell_9 : decode cX4_cell 9 = .ok (.ifCond .lt 10, 3) := by decide +kernel
theorem dX4_cell_12 : decode cX4_cell 12 = .ok (.iload 5, 2) := by decide +kernel
theorem dX4_cell_14 : decode cX4_cell 14 = .ok (.bipush 30, 2) := by decide +kernel
theorem dX4_cell_16 : decode cX4_cell 16 = .ok (.if_icmp .le 5, 3) := by decide +kernel
theorem dX4_cell_19 : decode cX4_cell 19 = .ok (.iconst (-1), 1) := by decide +kernel
theorem dX4_cell_20 : decode cX4_cell 20 = .ok (.ireturn, 1) := by decide +kernel
theorem dX4_cell_21 : decode cX4_cell 21 = .ok (.aload_n 0, 1) := by decide +kernel
theorem dX4_cell_22 : decode cX4_cell 22 = .ok (.getfield 18, 3) := by decide +kernel
theorem dX4_cell_25 : decode cX4_cell 25 = .ok (.iload_n 1, 1) := by decide +kernel
theorem dX4_cell_26 : decode cX4_cell 26 = .ok (.aaload, 1) := by decide +kernel
theorem dX4_cell_27 : decode cX4_cell 27 = .ok (.getfield 121, 3) := by decide +kernel
theorem dX4_cell_30 : decode cX4_cell 30 = .ok (.ifCond .ne 6, 3) := by decide +kernel
theorem dX4_cell_33 : decode cX4_cell 33 = .ok (.bipush (-3), 2) := by decide +kernel
theorem dX4_cell_35 : decode cX4_cell 35 = .ok (.ireturn, 1) := by decide +kernel
theorem dX4_cell_36 : decode cX4_cell 36 = .ok (.aload_n 0, 1) := by decide +kernel
theorem dX4_cell_37 : decode cX4_cell 37 = .ok (.getfield 18, 3) := by decide +kernel
theorem dX4_cell_40 : decode cX4_cell 40 = .ok (.iload_n 1, 1) := by decide +kernel
theorem dX4_cell_41 : decode cX4_cell 41 = .ok (.aaload, 1) := by decide +kernel
theorem dX4_cell_42 : decode cX4_cell 42 = .ok (.iload_n 2, 1) := by decide +kernel
theorem dX4_cell_43 : decode cX4_cell 43 = .ok (.invokevirtual 124, 3) := by decide +kernel
theorem dX4_cell_46 : decode cX4_cell 46 = .ok (.ifCond .ne 5, 3) := by decide +kernel
theorem dX4_cell_49 : decode cX4_cell 49 = .ok (.iconst (-1), 1) := by decide +kernel
theorem dX4_cell_50 : decode cX4_cell 50 = .ok (.ireturn, 1) := by decide +kernel
theorem dX4_cell_51 : decode cX4_cell 51 = .ok (.aload_n 0, 1) := by decide +kernel
theorem dX4_cell_52 : decode cX4_cell 52 = .ok (.getfield 18, 3) := by decide +kernel
theorem dX4_cell_55 : decode cX4_cell 55 = .ok (.iload_n 1, 1) := by decide +kernel
theorem dX4_cell_56 : decode cX4_cell 56 = .ok (.aaload, 1) := by decide +kernel
theorem dX4_cell_57 : decode cX4_cell 57 = .ok (.iload_n 2, 1) := by decide +kernel
theorem dX4_cell_58 : decode cX4_cell 58 = .ok (.lload_n 3, 1) := by decide +kernel
theorem dX4_cell_59 : decode cX4_cell 59 = .ok (.iload 5, 2) := by decide +kernel
theorem dX4_cell_61 : decode cX4_cell 61 = .ok (.invokevirtual 127, 3) := by decide +kernel
theorem dX4_cell_64 : decode cX4_cell 64 = .ok (.iconst 1, 1) := by decide +kernel
theorem dX4_cell_65 : decode cX4_cell 65 = .ok (.ireturn, 1) := by decide +kernel
theorem dX4_wild_0 : decode cX4_wild 0 = .ok (.iload_n 1, 1) := by decide +kernel
theorem dX4_wild_1 : decode cX4_wild 1 = .ok (.invokestatic 114, 3) := by decide +kernel
theorem dX4_wild_4 : decode cX4_wild 4 = .ok (.ifCond .eq 12, 3) := by decide +kernel
theorem dX4_wild_7 : decode cX4_wild 7 = .ok (.iload_n 3, 1) := by decide +kernel
theorem dX4_wild_8 : decode cX4_wild 8 = .ok (.ifCond .lt 8, 3) := by decide +kernel
theorem dX4_wild_11 : decode cX4_wild 11 = .ok (.iload_n 3, 1) := by decide +kernel
theorem dX4_wild_12 : decode cX4_wild 12 = .ok (.iconst 3, 1) := by decide +kernel
theorem dX4_wild_13 : decode cX4_wild 13 = .ok (.if_icmp .le 5, 3) := by decide +kernel
theorem dX4_wild_16 : decode cX4_wild 16 = .ok (.iconst (-1), 1) := by decide +kernel
theorem dX4_wild_17 : decode cX4_wild 17 = .ok (.ireturn, 1) := by decide +kernel
theorem dX4_wild_18 : decode cX4_wild 18 = .ok (.aload_n 0, 1) := by decide +kernel
theorem dX4_wild_19 : decode cX4_wild 19 = .ok (.getfield 18, 3) := by decide +kernel
theorem dX4_wild_22 : decode cX4_wild 22 = .ok (.iload_n 1, 1) := by decide +kernel
theorem dX4_wild_23 : decode cX4_wild 23 = .ok (.aaload, 1) := by decide +kernel
theorem dX4_wild_24 : decode cX4_wild 24 = .ok (.getfield 121, 3) := by decide +kernel
theorem dX4_wild_27 : decode cX4_wild 27 = .ok (.ifCond .ne 6, 3) := by decide +kernel
theorem dX4_wild_30 : decode cX4_wild 30 = .ok (.bipush (-3), 2) := by decide +kernel
theorem dX4_wild_32 : decode cX4_wild 32 = .ok (.ireturn, 1) := by decide +kernel
theorem dX4_wild_33 : decode cX4_wild 33 = .ok (.aload_n 0, 1) := by decide +kernel
theorem dX4_wild_34 : decode cX4_wild 34 = .ok (.getfield 18, 3) := by decide +kernel
theorem dX4_wild_37 : decode cX4_wild 37 = .ok (.iload_n 1, 1) := by decide +kernel
theorem dX4_wild_38 : decode cX4_wild 38 = .ok (.aaload, 1) := by decide +kernel
theorem dX4_wild_39 : decode cX4_wild 39 = .ok (.getfield 131, 3) := by decide +kernel
theorem dX4_wild_42 : decode cX4_wild 42 = .ok (.iconst 4, 1) := by decide +kernel
theorem dX4_wild_43 : decode cX4_wild 43 = .ok (.if_icmp .eq 19, 3) := by decide +kernel
theorem dX4_wild_46 : decode cX4_wild 46 = .ok (.aload_n 0, 1) := by decide +kernel
theorem dX4_wild_47 : decode cX4_wild 47 = .ok (.getfield 18, 3) := by decide +kernel
theorem dX4_wild_50 : decode cX4_wild 50 = .ok (.iload_n 1, 1) := by decide +kernel
theorem dX4_wild_51 : decode cX4_wild 51 = .ok (.aaload, 1) := by decide +kernel
theorem dX4_wild_52 : decode cX4_wild 52 = .ok (.getfield 131, 3) := by decide +kernel
theorem dX4_wild_55 : decode cX4_wild 55 = .ok (.iconst 5, 1) := by decide +kernel
theorem dX4_wild_56 : decode cX4_wild 56 = .ok (.if_icmp .eq 6, 3) := by decide +kernel
theorem dX4_wild_59 : decode cX4_wild 59 = .ok (.bipush (-4), 2) := by decide +kernel
theorem dX4_wild_61 : decode cX4_wild 61 = .ok (.ireturn, 1) := by decide +kernel
theorem dX4_wild_62 : decode cX4_wild 62 = .ok (.aload_n 0, 1) := by decide +kernel
theorem dX4_wild_63 : decode cX4_wild 63 = .ok (.getfield 18, 3) := by decide +kernel
theorem dX4_wild_66 : decode cX4_wild 66 = .ok (.iload_n 1, 1) := by decide +kernel
theorem dX4_wild_67 : decode cX4_wild 67 = .ok (.aaload, 1) := by decide +kernel
theorem dX4_wild_68 : decode cX4_wild 68 = .ok (.iload_n 2, 1) := by decide +kernel
theorem dX4_wild_69 : decode cX4_wild 69 = .ok (.invokevirtual 124, 3) := by decide +kernel
theorem dX4_wild_72 : decode cX4_wild 72 = .ok (.ifCond .ne 5, 3) := by decide +kernel
theorem dX4_wild_75 : decode cX4_wild 75 = .ok (.iconst (-1), 1) := by decide +kernel
theorem dX4_wild_76 : decode cX4_wild 76 = .ok (.ireturn, 1) := by decide +kernel
theorem dX4_wild_77 : decode cX4_wild 77 = .ok (.aload_n 0, 1) := by decide +kernel
theorem dX4_wild_78 : decode cX4_wild 78 = .ok (.getfield 18, 3) := by decide +kernel
theorem dX4_wild_81 : decode cX4_wild 81 = .ok (.iload_n 1, 1) := by decide +kernel
theorem dX4_wild_82 : decode cX4_wild 82 = .ok (.aaload, 1) := by decide +kernel
theorem dX4_wild_83 : decode cX4_wild 83 = .ok (.iload_n 2, 1) := by decide +kernel
theorem dX4_wild_84 : decode cX4_wild 84 = .ok (.iload_n 3, 1) := by decide +kernel
theorem dX4_wild_85 : decode cX4_wild 85 = .ok (.invokevirtual 133, 3) := by decide +kernel
theorem dX4_wild_88 : decode cX4_wild 88 = .ok (.iconst 1, 1) := by decide +kernel
theorem dX4_wild_89 : decode cX4_wild 89 = .ok (.ireturn, 1) := by decide +kernel
theorem dX4_splice_0 : decode cX4_splice 0 = .ok (.iload_n 1, 1) := by decide +kernel
theorem dX4_splice_1 : decode cX4_splice 1 = .ok (.invokestatic 114, 3) := by decide +kernel
theorem dX4_splice_4 : decode cX4_splice 4 = .ok (.ifCond .eq 10, 3) := by decide +kernel
theorem dX4_splice_7 : decode cX4_splice 7 = .ok (.iload_n 3, 1) := by decide +kernel
theorem dX4_splice_8 : decode cX4_splice 8 = .ok (.invokestatic 114, 3) := by decide +kernel
theorem dX4_splice_11 : decode cX4_splice 11 = .ok (.ifCond .ne 5, 3) := by decide +kernel
theorem dX4_splice_14 : decode cX4_splice 14 = .ok (.iconst (-1), 1) := by decide +kernel
