theorem dX0_init_0 : decode cX0_init 0 = .ok (.aload_n 0, 1) := by decide +kernel
theorem dX0_init_1 : decode cX0_init 1 = .ok (.invokespecial 3, 3) := by decide +kernel
theorem dX0_init_4 : decode cX0_init 4 = .ok (.aload_n 0, 1) := by decide +kernel
theorem dX0_init_5 : decode cX0_init 5 = .ok (.bipush 60, 2) := by decide +kernel
theorem dX0_init_7 : decode cX0_init 7 = .ok (.newarray .long, 2) := by decide +kernel
theorem dX0_init_9 : decode cX0_init 9 = .ok (.putfield 9, 3) := by decide +kernel
theorem dX0_init_12 : decode cX0_init 12 = .ok (.aload_n 0, 1) := by decide +kernel
theorem dX0_init_13 : decode cX0_init 13 = .ok (.bipush 60, 2) := by decide +kernel
theorem dX0_init_15 : decode cX0_init 15 = .ok (.newarray .byte, 2) := by decide +kernel
theorem dX0_init_17 : decode cX0_init 17 = .ok (.putfield 15, 3) := by decide +kernel
theorem dX0_init_20 : decode cX0_init 20 = .ok (.return_, 1) := by decide +kernel
theorem dX0_renew_0 : decode cX0_renew 0 = .ok (.aload_n 0, 1) := by decide +kernel
theorem dX0_renew_1 : decode cX0_renew 1 = .ok (.iconst 1, 1) := by decide +kernel
theorem dX0_renew_2 : decode cX0_renew 2 = .ok (.putfield 19, 3) := by decide +kernel
theorem dX0_renew_5 : decode cX0_renew 5 = .ok (.aload_n 0, 1) := by decide +kernel
theorem dX0_renew_6 : decode cX0_renew 6 = .ok (.iload_n 1, 1) := by decide +kernel
theorem dX0_renew_7 : decode cX0_renew 7 = .ok (.putfield 23, 3) := by decide +kernel
theorem dX0_renew_10 : decode cX0_renew 10 = .ok (.aload_n 0, 1) := by decide +kernel
theorem dX0_renew_11 : decode cX0_renew 11 = .ok (.iload_n 2, 1) := by decide +kernel
theorem dX0_renew_12 : decode cX0_renew 12 = .ok (.putfield 27, 3) := by decide +kernel
theorem dX0_renew_15 : decode cX0_renew 15 = .ok (.iconst 0, 1) := by decide +kernel
theorem dX0_renew_16 : decode cX0_renew 16 = .ok (.istore_n 3, 1) := by decide +kernel
theorem dX0_renew_17 : decode cX0_renew 17 = .ok (.iload_n 3, 1) := by decide +kernel
theorem dX0_renew_18 : decode cX0_renew 18 = .ok (.iload_n 2, 1) := by decide +kernel
theorem dX0_renew_19 : decode cX0_renew 19 = .ok (.if_icmp .ge 23, 3) := by decide +kernel
theorem dX0_renew_22 : decode cX0_renew 22 = .ok (.aload_n 0, 1) := by decide +kernel
theorem dX0_renew_23 : decode cX0_renew 23 = .ok (.getfield 9, 3) := by decide +kernel
theorem dX0_renew_26 : decode cX0_renew 26 = .ok (.iload_n 3, 1) := by decide +kernel
theorem dX0_renew_27 : decode cX0_renew 27 = .ok (.lconst 0, 1) := by decide +kernel
theorem dX0_renew_28 : decode cX0_renew 28 = .ok (.lastore, 1) := by decide +kernel
theorem dX0_renew_29 : decode cX0_renew 29 = .ok (.aload_n 0, 1) := by decide +kernel
theorem dX0_renew_30 : decode cX0_renew 30 = .ok (.getfield 15, 3) := by decide +kernel
theorem dX0_renew_33 : decode cX0_renew 33 = .ok (.iload_n 3, 1) := by decide +kernel
theorem dX0_renew_34 : decode cX0_renew 34 = .ok (.iconst 0, 1) := by decide +kernel
theorem dX0_renew_35 : decode cX0_renew 35 = .ok (.bastore, 1) := by decide +kernel
theorem dX0_renew_36 : decode cX0_renew 36 = .ok (.iinc 3 1, 3) := by decide +kernel
theorem dX0_renew_39 : decode cX0_renew 39 = .ok (.goto (-22), 3) := by decide +kernel
theorem dX0_renew_42 : decode cX0_renew 42 = .ok (.return_, 1) := by decide +kernel
theorem dX0_hasNumber_0 : decode cX0_hasNumber 0 = .ok (.iload_n 1, 1) := by decide +kernel
theorem dX0_hasNumber_1 : decode cX0_hasNumber 1 = .ok (.ifCond .lt 15, 3) := by decide +kernel
theorem dX0_hasNumber_4 : decode cX0_hasNumber 4 = .ok (.iload_n 1, 1) := by decide +kernel
theorem dX0_hasNumber_5 : decode cX0_hasNumber 5 = .ok (.aload_n 0, 1) := by decide +kernel
theorem dX0_hasNumber_6 : decode cX0_hasNumber 6 = .ok (.getfield 27, 3) := by decide +kernel
theorem dX0_hasNumber_9 : decode cX0_hasNumber 9 = .ok (.if_icmp .ge 7, 3) := by decide +kernel
theorem dX0_hasNumber_12 : decode cX0_hasNumber 12 = .ok (.iconst 1, 1) := by decide +kernel
theorem dX0_hasNumber_13 : decode cX0_hasNumber 13 = .ok (.goto 4, 3) := by decide +kernel
theorem dX0_hasNumber_16 : decode cX0_hasNumber 16 = .ok (.iconst 0, 1) := by decide +kernel
theorem dX0_hasNumber_17 : decode cX0_hasNumber 17 = .ok (.ireturn, 1) := by decide +kernel
theorem dX0_isNoNumber_0 : decode cX0_isNoNumber 0 = .ok (.aload_n 0, 1) := by decide +kernel
theorem dX0_isNoNumber_1 : decode cX0_isNoNumber 1 = .ok (.getfield 15, 3) := by decide +kernel
theorem dX0_isNoNumber_4 : decode cX0_isNoNumber 4 = .ok (.iload_n 1, 1) := by decide +kernel
theorem dX0_isNoNumber_5 : decode cX0_isNoNumber 5 = .ok (.baload, 1) := by decide +kernel
theorem dX0_isNoNumber_6 : decode cX0_isNoNumber 6 = .ok (.ifCond .eq 7, 3) := by decide +kernel
theorem dX0_isNoNumber_9 : decode cX0_isNoNumber 9 = .ok (.iconst 1, 1) := by decide +kernel
theorem dX0_isNoNumber_10 : decode cX0_isNoNumber 10 = .ok (.goto 4, 3) := by decide +kernel
theorem dX0_isNoNumber_13 : decode cX0_isNoNumber 13 = .ok (.iconst 0, 1) := by decide +kernel
theorem dX0_isNoNumber_14 : decode cX0_isNoNumber 14 = .ok (.ireturn, 1) := by decide +kernel
theorem dX0_spans_0 : decode cX0_spans 0 = .ok (.iload_n 2, 1) := by decide +kernel
theorem dX0_spans_1 : decode cX0_spans 1 = .ok (.ifCond .lt 29, 3) := by decide +kernel
theorem dX0_spans_4 : decode cX0_spans 4 = .ok (.iload_n 1, 1) := by decide +kernel
theorem dX0_spans_5 : decode cX0_spans 5 = .ok (.ifCond .lt 25, 3) := by decide +kernel
theorem dX0_spans_8 : decode cX0_spans 8 = .ok (.iload_n 1, 1) := by decide +kernel
theorem dX0_spans_9 : decode cX0_spans 9 = .ok (.aload_n 0, 1) := by decide +kernel
theorem dX0_spans_10 : decode cX0_spans 10 = .ok (.getfield 27, 3) := by decide +kernel
theorem dX0_spans_13 : decode cX0_spans 13 = .ok (.if_icmp .gt 17, 3) := by decide +kernel
theorem dX0_spans_16 : decode cX0_spans 16 = .ok (.iload_n 2, 1) := by decide +kernel
theorem dX0_spans_17 : decode cX0_spans 17 = .ok (.aload_n 0, 1) := by decide +kernel
theorem dX0_spans_18 : decode cX0_spans 18 = .ok (.getfield 27, 3) := by decide +kernel
theorem dX0_spans_21 : decode cX0_spans 21 = .ok (.iload_n 1, 1) := by decide +kernel
theorem dX0_spans_22 : decode cX0_spans 22 = .ok (.isub, 1) := by decide +kernel
theorem dX0_spans_23 : decode cX0_spans 23 = .ok (.if_icmp .gt 7, 3) := by decide +kernel
theorem dX0_spans_26 : decode cX0_spans 26 = .ok (.iconst 1, 1) := by decide +kernel
theorem dX0_spans_27 : decode cX0_spans 27 = .ok (.goto 4, 3) := by decide +kernel
theorem dX0_spans_30 : decode cX0_spans 30 = .ok (.iconst 0, 1) := by decide +kernel
theorem dX0_spans_31 : decode cX0_spans 31 = .ok (.ireturn, 1) := by decide +kernel
theorem dX0_put_0 : decode cX0_put 0 = .ok (.aload_n 0, 1) := by decide +kernel
theorem dX0_put_1 : decode cX0_put 1 = .ok (.getfield 9, 3) := by decide +kernel
theorem dX0_put_4 : decode cX0_put 4 = .ok (.iload_n 1, 1) := by decide +kernel
theorem dX0_put_5 : decode cX0_put 5 = .ok (.aload_n 0, 1) := by decide +kernel
theorem dX0_put_6 : decode cX0_put 6 = .ok (.lload_n 2, 1) := by decide +kernel
theorem dX0_put_7 : decode cX0_put 7 = .ok (.iconst 1, 1) := by decide +kernel
theorem dX0_put_8 : decode cX0_put 8 = .ok (.iload 4, 2) := by decide +kernel
theorem dX0_put_10 : decode cX0_put 10 = .ok (.ishl, 1) := by decide +kernel
theorem dX0_put_11 : decode cX0_put 11 = .ok (.invokevirtual 30, 3) := by decide +kernel
theorem dX0_put_14 : decode cX0_put 14 = .ok (.lastore, 1) := by decide +kernel
theorem dX0_put_15 : decode cX0_put 15 = .ok (.aload_n 0, 1) := by decide +kernel
theorem dX0_put_16 : decode cX0_put 16 = .ok (.getfield 15, 3) := by decide +kernel
theorem dX0_put_19 : decode cX0_put 19 = .ok (.iload_n 1, 1) := by decide +kernel
theorem dX0_put_20 : decode cX0_put 20 = .ok (.iconst 0, 1) := by decide +kernel
theorem dX0_put_21 : decode cX0_put 21 = .ok (.bastore, 1) := by decide +kernel
theorem dX0_put_22 : decode cX0_put 22 = .ok (.return_, 1) := by decide +kernel
theorem dX0_putWild_0 : decode cX0_putWild 0 = .ok (.aload_n 0, 1) := by decide +kernel
theorem dX0_putWild_1 : decode cX0_putWild 1 = .ok (.getfield 15, 3) := by decide +kernel
theorem dX0_putWild_4 : decode cX0_putWild 4 = .ok (.iload_n 1, 1) := by decide +kernel
theorem dX0_putWild_5 : decode cX0_putWild 5 = .ok (.iload_n 2, 1) := by decide +kernel
theorem dX0_putWild_6 : decode cX0_putWild 6 = .ok (.ifCond .ne 7, 3) := by decide +kernel
theorem dX0_putWild_9 : decode cX0_putWild 9 = .ok (.iconst 1, 1) := by decide +kernel
theorem dX0_putWild_10 : decode cX0_putWild 10 = .ok (.goto 4, 3) := by decide +kernel
theorem dX0_putWild_13 : decode cX0_putWild 13 = .ok (.iconst 0, 1) := by decide +kernel
theorem dX0_putWild_14 : decode cX0_putWild 14 = .ok (.i2b, 1) := by decide +kernel
theorem dX0_putWild_15 : decode cX0_putWild 15 = .ok (.bastore, 1) := by decide +kernel
theorem dX0_putWild_16 : decode cX0_putWild 16 = .ok (.aload_n 0, 1) := by decide +kernel
theorem dX0_putWild_17 : decode cX0_putWild 17 = .ok (.getfield 9, 3) := by decide +kernel
theorem dX0_putWild_20 : decode cX0_putWild 20 = .ok (.iload_n 1, 1) := by decide +kernel
theorem dX0_putWild_21 : decode cX0_putWild 21 = .ok (.iload_n 2, 1) := by decide +kernel
theorem dX0_putWild_22 : decode cX0_putWild 22 = .ok (.iconst 1, 1) := by decide +kernel
theorem dX0_putWild_23 : decode cX0_putWild 23 = .ok (.if_icmp .ne 9, 3) := by decide +kernel
theorem dX0_putWild_26 : decode cX0_putWild 26 = .ok (.ldc2_w 34, 3) := by decide +kernel
theorem dX0_putWild_29 : decode cX0_putWild 29 = .ok (.goto 15, 3) := by decide +kernel
theorem dX0_putWild_32 : decode cX0_putWild 32 = .ok (.iload_n 2, 1) := by decide +kernel
theorem dX0_putWild_33 : decode cX0_putWild 33 = .ok (.iconst 2, 1) := by decide +kernel
theorem dX0_putWild_34 : decode cX0_putWild 34 = .ok (.if_icmp .ne 9, 3) := by decide +kernel
theorem dX0_putWild_37 : decode cX0_putWild 37 = .ok (.ldc2_w 36, 3) := by decide +kernel
theorem dX0_putWild_40 : decode cX0_putWild 40 = .ok (.goto 4, 3) := by decide +kernel
theorem dX0_putWild_43 : decode cX0_putWild 43 = .ok (.lconst 0, 1) := by decide +kernel
theorem dX0_putWild_44 : decode cX0_putWild 44 = .ok (.lastore, 1) := by decide +kernel
theorem dX0_putWild_45 : decode cX0_putWild 45 = .ok (.return_, 1) := by decide +kernel
theorem dX0_putFrom_0 : decode cX0_putFrom 0 = .ok (.aload_n 2, 1) := by decide +kernel
theorem dX0_putFrom_1 : decode cX0_putFrom 1 = .ok (.getfield 9, 3) := by decide +kernel
theorem dX0_putFrom_4 : decode cX0_putFrom 4 = .ok (.iload_n 3, 1) := by decide +kernel
theorem dX0_putFrom_5 : decode cX0_putFrom 5 = .ok (.aload_n 0, 1) := by decide +kernel
theorem dX0_putFrom_6 : decode cX0_putFrom 6 = .ok (.getfield 9, 3) := by decide +kernel
theorem dX0_putFrom_9 : decode cX0_putFrom 9 = .ok (.iload_n 1, 1) := by decide +kernel
theorem dX0_putFrom_10 : decode cX0_putFrom 10 = .ok (.iload 4, 2) := by decide +kernel
theorem dX0_putFrom_12 : decode cX0_putFrom 12 = .ok (.invokestatic 38, 3) := by decide +kernel
theorem dX0_putFrom_15 : decode cX0_putFrom 15 = .ok (.aload_n 2, 1) := by decide +kernel
theorem dX0_putFrom_16 : decode cX0_putFrom 16 = .ok (.getfield 15, 3) := by decide +kernel
theorem dX0_putFrom_19 : decode cX0_putFrom 19 = .ok (.iload_n 3, 1) := by decide +kernel
theorem dX0_putFrom_20 : decode cX0_putFrom 20 = .ok (.aload_n 0, 1) := by decide +kernel
theorem dX0_putFrom_21 : decode cX0_putFrom 21 = .ok (.getfield 15, 3) := by decide +kernel
theorem dX0_putFrom_24 : decode cX0_putFrom 24 = .ok (.iload_n 1, 1) := by decide +kernel
theorem dX0_putFrom_25 : decode cX0_putFrom 25 = .ok (.iload 4, 2) := by decide +kernel
theorem dX0_putFrom_27 : decode cX0_putFrom 27 = .ok (.invokestatic 38, 3) := by decide +kernel
theorem dX0_putFrom_30 : decode cX0_putFrom 30 = .ok (.return_, 1) := by decide +kernel
theorem dX0_wholeOf_0 : decode cX0_wholeOf 0 = .ok (.aload_n 0, 1) := by decide +kernel
theorem dX0_wholeOf_1 : decode cX0_wholeOf 1 = .ok (.getfield 23, 3) := by decide +kernel
theorem dX0_wholeOf_4 : decode cX0_wholeOf 4 = .ok (.tableswitch 68 0 5 #[40, 45, 50, 68, 54, 61], 40) := by decide +kernel
theorem dX0_wholeOf_44 : decode cX0_wholeOf 44 = .ok (.lload_n 1, 1) := by decide +kernel
theorem dX0_wholeOf_45 : decode cX0_wholeOf 45 = .ok (.l2i, 1) := by decide +kernel
theorem dX0_wholeOf_46 : decode cX0_wholeOf 46 = .ok (.i2b, 1) := by decide +kernel
theorem dX0_wholeOf_47 : decode cX0_wholeOf 47 = .ok (.i2l, 1) := by decide +kernel
theorem dX0_wholeOf_48 : decode cX0_wholeOf 48 = .ok (.lreturn, 1) := by decide +kernel
theorem dX0_wholeOf_49 : decode cX0_wholeOf 49 = .ok (.lload_n 1, 1) := by decide +kernel
theorem dX0_wholeOf_50 : decode cX0_wholeOf 50 = .ok (.l2i, 1) := by decide +kernel
theorem dX0_wholeOf_51 : decode cX0_wholeOf 51 = .ok (.i2s, 1) := by decide +kernel
theorem dX0_wholeOf_52 : decode cX0_wholeOf 52 = .ok (.i2l, 1) := by decide +kernel
theorem dX0_wholeOf_53 : decode cX0_wholeOf 53 = .ok (.lreturn, 1) := by decide +kernel
theorem dX0_wholeOf_54 : decode cX0_wholeOf 54 = .ok (.lload_n 1, 1) := by decide +kernel
theorem dX0_wholeOf_55 : decode cX0_wholeOf 55 = .ok (.l2i, 1) := by decide +kernel
theorem dX0_wholeOf_56 : decode cX0_wholeOf 56 = .ok (.i2l, 1) := by decide +kernel
theorem dX0_wholeOf_57 : decode cX0_wholeOf 57 = .ok (.lreturn, 1) := by decide +kernel
theorem dX0_wholeOf_58 : decode cX0_wholeOf 58 = .ok (.lload_n 1, 1) := by decide +kernel
theorem dX0_wholeOf_59 : decode cX0_wholeOf 59 = .ok (.l2f, 1) := by decide +kernel
theorem dX0_wholeOf_60 : decode cX0_wholeOf 60 = .ok (.iload_n 3, 1) := by decide +kernel
theorem dX0_wholeOf_61 : decode cX0_wholeOf 61 = .ok (.i2f, 1) := by decide +kernel
theorem dX0_wholeOf_62 : decode cX0_wholeOf 62 = .ok (.fdiv, 1) := by decide +kernel
theorem dX0_wholeOf_63 : decode cX0_wholeOf 63 = .ok (.f2l, 1) := by decide +kernel
theorem dX0_wholeOf_64 : decode cX0_wholeOf 64 = .ok (.lreturn, 1) := by decide +kernel
theorem dX0_wholeOf_65 : decode cX0_wholeOf 65 = .ok (.lload_n 1, 1) := by decide +kernel
theorem dX0_wholeOf_66 : decode cX0_wholeOf 66 = .ok (.l2d, 1) := by decide +kernel
theorem dX0_wholeOf_67 : decode cX0_wholeOf 67 = .ok (.iload_n 3, 1) := by decide +kernel
theorem dX0_wholeOf_68 : decode cX0_wholeOf 68 = .ok (.i2d, 1) := by decide +kernel
theorem dX0_wholeOf_69 : decode cX0_wholeOf 69 = .ok (.ddiv, 1) := by decide +kernel
theorem dX0_wholeOf_70 : decode cX0_wholeOf 70 = .ok (.d2l, 1) := by decide +kernel
theorem dX0_wholeOf_71 : decode cX0_wholeOf 71 = .ok (.lreturn, 1) := by decide +kernel
theorem dX0_wholeOf_72 : decode cX0_wholeOf 72 = .ok (.lload_n 1, 1) := by decide +kernel
theorem dX0_wholeOf_73 : decode cX0_wholeOf 73 = .ok (.lreturn, 1) := by decide +kernel
theorem dX1_init_0 : decode cX1_init 0 = .ok (.aload_n 0, 1) := by decide +kernel
theorem dX1_init_1 : decode cX1_init 1 = .ok (.invokespecial 3, 3) := by decide +kernel
theorem dX1_init_4 : decode cX1_init 4 = .ok (.aload_n 0, 1) := by decide +kernel
theorem dX1_init_5 : decode cX1_init 5 = .ok (.bipush 121, 2) := by decide +kernel
theorem dX1_init_7 : decode cX1_init 7 = .ok (.newarray .int, 2) := by decide +kernel
theorem dX1_init_9 : decode cX1_init 9 = .ok (.putfield 9, 3) := by decide +kernel
theorem dX1_init_12 : decode cX1_init 12 = .ok (.aload_n 0, 1) := by decide +kernel
theorem dX1_init_13 : decode cX1_init 13 = .ok (.bipush 121, 2) := by decide +kernel
theorem dX1_init_15 : decode cX1_init 15 = .ok (.newarray .int, 2) := by decide +kernel
theorem dX1_init_17 : decode cX1_init 17 = .ok (.putfield 15, 3) := by decide +kernel
theorem dX1_init_20 : decode cX1_init 20 = .ok (.aload_n 0, 1) := by decide +kernel
theorem dX1_init_21 : decode cX1_init 21 = .ok (.bipush 120, 2) := by decide +kernel
theorem dX1_init_23 : decode cX1_init 23 = .ok (.newarray .int, 2) := by decide +kernel
theorem dX1_init_25 : decode cX1_init 25 = .ok (.putfield 18, 3) := by decide +kernel
theorem dX1_init_28 : decode cX1_init 28 = .ok (.aload_n 0, 1) := by decide +kernel
theorem dX1_init_29 : decode cX1_init 29 = .ok (.bipush 120, 2) := by decide +kernel
theorem dX1_init_31 : decode cX1_init 31 = .ok (.newarray .int, 2) := by decide +kernel
theorem dX1_init_33 : decode cX1_init 33 = .ok (.putfield 21, 3) := by decide +kernel
theorem dX1_init_36 : decode cX1_init 36 = .ok (.aload_n 0, 1) := by decide +kernel
theorem dX1_init_37 : decode cX1_init 37 = .ok (.bipush 120, 2) := by decide +kernel
theorem dX1_init_39 : decode cX1_init 39 = .ok (.newarray .int, 2) := by decide +kernel
theorem dX1_init_41 : decode cX1_init 41 = .ok (.putfield 24, 3) := by decide +kernel
theorem dX1_init_44 : decode cX1_init 44 = .ok (.aload_n 0, 1) := by decide +kernel
theorem dX1_init_45 : decode cX1_init 45 = .ok (.bipush 120, 2) := by decide +kernel
theorem dX1_init_47 : decode cX1_init 47 = .ok (.newarray .int, 2) := by decide +kernel
theorem dX1_init_49 : decode cX1_init 49 = .ok (.putfield 27, 3) := by decide +kernel
theorem dX1_init_52 : decode cX1_init 52 = .ok (.aload_n 0, 1) := by decide +kernel
theorem dX1_init_53 : decode cX1_init 53 = .ok (.bipush 120, 2) := by decide +kernel
theorem dX1_init_55 : decode cX1_init 55 = .ok (.newarray .int, 2) := by decide +kernel
theorem dX1_init_57 : decode cX1_init 57 = .ok (.putfield 30, 3) := by decide +kernel
theorem dX1_init_60 : decode cX1_init 60 = .ok (.aload_n 0, 1) := by decide +kernel
theorem dX1_init_61 : decode cX1_init 61 = .ok (.bipush 120, 2) := by decide +kernel
theorem dX1_init_63 : decode cX1_init 63 = .ok (.newarray .int, 2) := by decide +kernel
theorem dX1_init_65 : decode cX1_init 65 = .ok (.putfield 33, 3) := by decide +kernel
theorem dX1_init_68 : decode cX1_init 68 = .ok (.aload_n 0, 1) := by decide +kernel
theorem dX1_init_69 : decode cX1_init 69 = .ok (.bipush 120, 2) := by decide +kernel
theorem dX1_init_71 : decode cX1_init 71 = .ok (.newarray .int, 2) := by decide +kernel
theorem dX1_init_73 : decode cX1_init 73 = .ok (.putfield 36, 3) := by decide +kernel
theorem dX1_init_76 : decode cX1_init 76 = .ok (.aload_n 0, 1) := by decide +kernel
theorem dX1_init_77 : decode cX1_init 77 = .ok (.bipush 120, 2) := by decide +kernel
theorem dX1_init_79 : decode cX1_init 79 = .ok (.newarray .int, 2) := by decide +kernel
theorem dX1_init_81 : decode cX1_init 81 = .ok (.putfield 39, 3) := by decide +kernel
theorem dX1_init_84 : decode cX1_init 84 = .ok (.aload_n 0, 1) := by decide +kernel
theorem dX1_init_85 : decode cX1_init 85 = .ok (.bipush 120, 2) := by decide +kernel
theorem dX1_init_87 : decode cX1_init 87 = .ok (.newarray .int, 2) := by decide +kernel
theorem dX1_init_89 : decode cX1_init 89 = .ok (.putfield 42, 3) := by decide +kernel
theorem dX1_init_92 : decode cX1_init 92 = .ok (.aload_n 0, 1) := by decide +kernel
theorem dX1_init_93 : decode cX1_init 93 = .ok (.bipush 120, 2) := by decide +kernel
theorem dX1_init_95 : decode cX1_init 95 = .ok (.newarray .boolean, 2) := by decide +kernel
theorem dX1_init_97 : decode cX1_init 97 = .ok (.putfield 45, 3) := by decide +kernel
theorem dX1_init_100 : decode cX1_init 100 = .ok (.aload_n 0, 1) := by decide +kernel
theorem dX1_init_101 : decode cX1_init 101 = .ok (.aload_n 1, 1) := by decide +kernel
theorem dX1_init_102 : decode cX1_init 102 = .ok (.putfield 49, 3) := by decide +kernel
theorem dX1_init_105 : decode cX1_init 105 = .ok (.return_, 1) := by decide +kernel
theorem dX1_start_0 : decode cX1_start 0 = .ok (.aload_n 0, 1) := by decide +kernel
theorem dX1_start_1 : decode cX1_start 1 = .ok (.iconst 1, 1) := by decide +kernel
theorem dX1_start_2 : decode cX1_start 2 = .ok (.putfield 53, 3) := by decide +kernel
theorem dX1_start_5 : decode cX1_start 5 = .ok (.aload_n 0, 1) := by decide +kernel
theorem dX1_start_6 : decode cX1_start 6 = .ok (.iconst 0, 1) := by decide +kernel
theorem dX1_start_7 : decode cX1_start 7 = .ok (.putfield 57, 3) := by decide +kernel
theorem dX1_start_10 : decode cX1_start 10 = .ok (.aload_n 0, 1) := by decide +kernel
theorem dX1_start_11 : decode cX1_start 11 = .ok (.iconst 0, 1) := by decide +kernel
theorem dX1_start_12 : decode cX1_start 12 = .ok (.putfield 61, 3) := by decide +kernel
theorem dX1_start_15 : decode cX1_start 15 = .ok (.iconst 0, 1) := by decide +kernel
theorem dX1_start_16 : decode cX1_start 16 = .ok (.istore_n 1, 1) := by decide +kernel
theorem dX1_start_17 : decode cX1_start 17 = .ok (.iload_n 1, 1) := by decide +kernel
theorem dX1_start_18 : decode cX1_start 18 = .ok (.aload_n 0, 1) := by decide +kernel
theorem dX1_start_19 : decode cX1_start 19 = .ok (.getfield 49, 3) := by decide +kernel
theorem dX1_start_22 : decode cX1_start 22 = .ok (.getfield 64, 3) := by decide +kernel
theorem dX1_start_25 : decode cX1_start 25 = .ok (.if_icmp .ge 53, 3) := by decide +kernel
theorem dX1_start_28 : decode cX1_start 28 = .ok (.aload_n 0, 1) := by decide +kernel
theorem dX1_start_29 : decode cX1_start 29 = .ok (.getfield 18, 3) := by decide +kernel
theorem dX1_start_32 : decode cX1_start 32 = .ok (.iload_n 1, 1) := by decide +kernel
theorem dX1_start_33 : decode cX1_start 33 = .ok (.aload_n 0, 1) := by decide +kernel
theorem dX1_start_34 : decode cX1_start 34 = .ok (.getfield 49, 3) := by decide +kernel
theorem dX1_start_37 : decode cX1_start 37 = .ok (.getfield 69, 3) := by decide +kernel
theorem dX1_start_40 : decode cX1_start 40 = .ok (.iload_n 1, 1) := by decide +kernel
theorem dX1_start_41 : decode cX1_start 41 = .ok (.baload, 1) := by decide +kernel
theorem dX1_start_42 : decode cX1_start 42 = .ok (.ifCond .eq 7, 3) := by decide +kernel
theorem dX1_start_45 : decode cX1_start 45 = .ok (.iconst 0, 1) := by decide +kernel
theorem dX1_start_46 : decode cX1_start 46 = .ok (.goto 4, 3) := by decide +kernel
theorem dX1_start_49 : decode cX1_start 49 = .ok (.iconst (-1), 1) := by decide +kernel
theorem dX1_start_50 : decode cX1_start 50 = .ok (.iastore, 1) := by decide +kernel
theorem dX1_start_51 : decode cX1_start 51 = .ok (.aload_n 0, 1) := by decide +kernel
theorem dX1_start_52 : decode cX1_start 52 = .ok (.getfield 21, 3) := by decide +kernel
theorem dX1_start_55 : decode cX1_start 55 = .ok (.iload_n 1, 1) := by decide +kernel
theorem dX1_start_56 : decode cX1_start 56 = .ok (.iconst (-1), 1) := by decide +kernel
theorem dX1_start_57 : decode cX1_start 57 = .ok (.iastore, 1) := by decide +kernel
theorem dX1_start_58 : decode cX1_start 58 = .ok (.aload_n 0, 1) := by decide +kernel
theorem dX1_start_59 : decode cX1_start 59 = .ok (.getfield 24, 3) := by decide +kernel
theorem dX1_start_62 : decode cX1_start 62 = .ok (.iload_n 1, 1) := by decide +kernel
theorem dX1_start_63 : decode cX1_start 63 = .ok (.iconst (-1), 1) := by decide +kernel
theorem dX1_start_64 : decode cX1_start 64 = .ok (.iastore, 1) := by decide +kernel
theorem dX1_start_65 : decode cX1_start 65 = .ok (.aload_n 0, 1) := by decide +kernel
theorem dX1_start_66 : decode cX1_start 66 = .ok (.getfield 27, 3) := by decide +kernel
theorem dX1_start_69 : decode cX1_start 69 = .ok (.iload_n 1, 1) := by decide +kernel
theorem dX1_start_70 : decode cX1_start 70 = .ok (.iconst (-1), 1) := by decide +kernel
theorem dX1_start_71 : decode cX1_start 71 = .ok (.iastore, 1) := by decide +kernel
theorem dX1_start_72 : decode cX1_start 72 = .ok (.iinc 1 1, 3) := by decide +kernel
theorem dX1_start_75 : decode cX1_start 75 = .ok (.goto (-58), 3) := by decide +kernel
theorem dX1_start_78 : decode cX1_start 78 = .ok (.aload_n 0, 1) := by decide +kernel
theorem dX1_start_79 : decode cX1_start 79 = .ok (.invokevirtual 72, 3) := by decide +kernel
theorem dX1_start_82 : decode cX1_start 82 = .ok (.return_, 1) := by decide +kernel
theorem dX1_advance_0 : decode cX1_advance 0 = .ok (.aload_n 0, 1) := by decide +kernel
theorem dX1_advance_1 : decode cX1_advance 1 = .ok (.invokevirtual 75, 3) := by decide +kernel
theorem dX1_advance_4 : decode cX1_advance 4 = .ok (.istore_n 1, 1) := by decide +kernel
theorem dX1_advance_5 : decode cX1_advance 5 = .ok (.iload_n 1, 1) := by decide +kernel
theorem dX1_advance_6 : decode cX1_advance 6 = .ok (.ifCond .ge 5, 3) := by decide +kernel
theorem dX1_advance_9 : decode cX1_advance 9 = .ok (.iconst (-1), 1) := by decide +kernel
theorem dX1_advance_10 : decode cX1_advance 10 = .ok (.ireturn, 1) := by decide +kernel
theorem dX1_advance_11 : decode cX1_advance 11 = .ok (.aload_n 0, 1) := by decide +kernel
theorem dX1_advance_12 : decode cX1_advance 12 = .ok (.getfield 49, 3) := by decide +kernel
theorem dX1_advance_15 : decode cX1_advance 15 = .ok (.getfield 79, 3) := by decide +kernel
theorem dX1_advance_18 : decode cX1_advance 18 = .ok (.iload_n 1, 1) := by decide +kernel
theorem dX1_advance_19 : decode cX1_advance 19 = .ok (.iaload, 1) := by decide +kernel
theorem dX1_advance_20 : decode cX1_advance 20 = .ok (.istore_n 2, 1) := by decide +kernel
theorem dX1_advance_21 : decode cX1_advance 21 = .ok (.aload_n 0, 1) := by decide +kernel
theorem dX1_advance_22 : decode cX1_advance 22 = .ok (.getfield 18, 3) := by decide +kernel
theorem dX1_advance_25 : decode cX1_advance 25 = .ok (.iload_n 2, 1) := by decide +kernel
theorem dX1_advance_26 : decode cX1_advance 26 = .ok (.iaload, 1) := by decide +kernel
theorem dX1_advance_27 : decode cX1_advance 27 = .ok (.ifCond .lt 13, 3) := by decide +kernel
theorem dX1_advance_30 : decode cX1_advance 30 = .ok (.aload_n 0, 1) := by decide +kernel
theorem dX1_advance_31 : decode cX1_advance 31 = .ok (.getfield 49, 3) := by decide +kernel
theorem dX1_advance_34 : decode cX1_advance 34 = .ok (.getfield 82, 3) := by decide +kernel
theorem dX1_advance_37 : decode cX1_advance 37 = .ok (.iload_n 1, 1) := by decide +kernel
theorem dX1_advance_38 : decode cX1_advance 38 = .ok (.iaload, 1) := by decide +kernel
theorem dX1_advance_39 : decode cX1_advance 39 = .ok (.istore_n 2, 1) := by decide +kernel
theorem dX1_advance_40 : decode cX1_advance 40 = .ok (.aload_n 0, 1) := by decide +kernel
theorem dX1_advance_41 : decode cX1_advance 41 = .ok (.dup, 1) := by decide +kernel
theorem dX1_advance_42 : decode cX1_advance 42 = .ok (.getfield 57, 3) := by decide +kernel
theorem dX1_advance_45 : decode cX1_advance 45 = .ok (.iconst 1, 1) := by decide +kernel
theorem dX1_advance_46 : decode cX1_advance 46 = .ok (.iadd, 1) := by decide +kernel
theorem dX1_advance_47 : decode cX1_advance 47 = .ok (.putfield 57, 3) := by decide +kernel
theorem dX1_advance_50 : decode cX1_advance 50 = .ok (.aload_n 0, 1) := by decide +kernel
theorem dX1_advance_51 : decode cX1_advance 51 = .ok (.getfield 9, 3) := by decide +kernel
theorem dX1_advance_54 : decode cX1_advance 54 = .ok (.aload_n 0, 1) := by decide +kernel
theorem dX1_advance_55 : decode cX1_advance 55 = .ok (.getfield 57, 3) := by decide +kernel
theorem dX1_advance_58 : decode cX1_advance 58 = .ok (.iload_n 1, 1) := by decide +kernel
theorem dX1_advance_59 : decode cX1_advance 59 = .ok (.iastore, 1) := by decide +kernel
theorem dX1_advance_60 : decode cX1_advance 60 = .ok (.aload_n 0, 1) := by decide +kernel
theorem dX1_advance_61 : decode cX1_advance 61 = .ok (.getfield 15, 3) := by decide +kernel
theorem dX1_advance_64 : decode cX1_advance 64 = .ok (.aload_n 0, 1) := by decide +kernel
theorem dX1_advance_65 : decode cX1_advance 65 = .ok (.getfield 57, 3) := by decide +kernel
theorem dX1_advance_68 : decode cX1_advance 68 = .ok (.iload_n 2, 1) := by decide +kernel
theorem dX1_advance_69 : decode cX1_advance 69 = .ok (.iastore, 1) := by decide +kernel
theorem dX1_advance_70 : decode cX1_advance 70 = .ok (.aload_n 0, 1) := by decide +kernel
theorem dX1_advance_71 : decode cX1_advance 71 = .ok (.getfield 18, 3) := by decide +kernel
theorem dX1_advance_74 : decode cX1_advance 74 = .ok (.iload_n 2, 1) := by decide +kernel
theorem dX1_advance_75 : decode cX1_advance 75 = .ok (.aload_n 0, 1) := by decide +kernel
theorem dX1_advance_76 : decode cX1_advance 76 = .ok (.getfield 57, 3) := by decide +kernel
theorem dX1_advance_79 : decode cX1_advance 79 = .ok (.iastore, 1) := by decide +kernel
theorem dX1_advance_80 : decode cX1_advance 80 = .ok (.aload_n 0, 1) := by decide +kernel
theorem dX1_advance_81 : decode cX1_advance 81 = .ok (.getfield 21, 3) := by decide +kernel
theorem dX1_advance_84 : decode cX1_advance 84 = .ok (.iload_n 2, 1) := by decide +kernel
theorem dX1_advance_85 : decode cX1_advance 85 = .ok (.iload_n 1, 1) := by decide +kernel
theorem dX1_advance_86 : decode cX1_advance 86 = .ok (.iastore, 1) := by decide +kernel
theorem dX1_advance_87 : decode cX1_advance 87 = .ok (.aload_n 0, 1) := by decide +kernel
theorem dX1_advance_88 : decode cX1_advance 88 = .ok (.invokevirtual 72, 3) := by decide +kernel
theorem dX1_advance_91 : decode cX1_advance 91 = .ok (.iload_n 1, 1) := by decide +kernel
theorem dX1_advance_92 : decode cX1_advance 92 = .ok (.ireturn, 1) := by decide +kernel
theorem dX1_takeBackTo_0 : decode cX1_takeBackTo 0 = .ok (.aload_n 0, 1) := by decide +kernel
theorem dX1_takeBackTo_1 : decode cX1_takeBackTo 1 = .ok (.iload_n 1, 1) := by decide +kernel
theorem dX1_takeBackTo_2 : decode cX1_takeBackTo 2 = .ok (.putfield 57, 3) := by decide +kernel
theorem dX1_takeBackTo_5 : decode cX1_takeBackTo 5 = .ok (.iconst 0, 1) := by decide +kernel
theorem dX1_takeBackTo_6 : decode cX1_takeBackTo 6 = .ok (.istore_n 2, 1) := by decide +kernel
theorem dX1_takeBackTo_7 : decode cX1_takeBackTo 7 = .ok (.iload_n 2, 1) := by decide +kernel
theorem dX1_takeBackTo_8 : decode cX1_takeBackTo 8 = .ok (.aload_n 0, 1) := by decide +kernel
theorem dX1_takeBackTo_9 : decode cX1_takeBackTo 9 = .ok (.getfield 49, 3) := by decide +kernel
theorem dX1_takeBackTo_12 : decode cX1_takeBackTo 12 = .ok (.getfield 64, 3) := by decide +kernel
theorem dX1_takeBackTo_15 : decode cX1_takeBackTo 15 = .ok (.if_icmp .ge 57, 3) := by decide +kernel
theorem dX1_takeBackTo_18 : decode cX1_takeBackTo 18 = .ok (.aload_n 0, 1) := by decide +kernel
theorem dX1_takeBackTo_19 : decode cX1_takeBackTo 19 = .ok (.getfield 18, 3) := by decide +kernel
theorem dX1_takeBackTo_22 : decode cX1_takeBackTo 22 = .ok (.iload_n 2, 1) := by decide +kernel
theorem dX1_takeBackTo_23 : decode cX1_takeBackTo 23 = .ok (.iaload, 1) := by decide +kernel
theorem dX1_takeBackTo_24 : decode cX1_takeBackTo 24 = .ok (.iload_n 1, 1) := by decide +kernel
theorem dX1_takeBackTo_25 : decode cX1_takeBackTo 25 = .ok (.if_icmp .le 17, 3) := by decide +kernel
theorem dX1_takeBackTo_28 : decode cX1_takeBackTo 28 = .ok (.aload_n 0, 1) := by decide +kernel
theorem dX1_takeBackTo_29 : decode cX1_takeBackTo 29 = .ok (.getfield 18, 3) := by decide +kernel
theorem dX1_takeBackTo_32 : decode cX1_takeBackTo 32 = .ok (.iload_n 2, 1) := by decide +kernel
theorem dX1_takeBackTo_33 : decode cX1_takeBackTo 33 = .ok (.iconst (-1), 1) := by decide +kernel
theorem dX1_takeBackTo_34 : decode cX1_takeBackTo 34 = .ok (.iastore, 1) := by decide +kernel
theorem dX1_takeBackTo_35 : decode cX1_takeBackTo 35 = .ok (.aload_n 0, 1) := by decide +kernel
theorem dX1_takeBackTo_36 : decode cX1_takeBackTo 36 = .ok (.getfield 21, 3) := by decide +kernel
theorem dX1_takeBackTo_39 : decode cX1_takeBackTo 39 = .ok (.iload_n 2, 1) := by decide +kernel
theorem dX1_takeBackTo_40 : decode cX1_takeBackTo 40 = .ok (.iconst (-1), 1) := by decide +kernel
theorem dX1_takeBackTo_41 : decode cX1_takeBackTo 41 = .ok (.iastore, 1) := by decide +kernel
theorem dX1_takeBackTo_42 : decode cX1_takeBackTo 42 = .ok (.aload_n 0, 1) := by decide +kernel
theorem dX1_takeBackTo_43 : decode cX1_takeBackTo 43 = .ok (.getfield 24, 3) := by decide +kernel
theorem dX1_takeBackTo_46 : decode cX1_takeBackTo 46 = .ok (.iload_n 2, 1) := by decide +kernel
theorem dX1_takeBackTo_47 : decode cX1_takeBackTo 47 = .ok (.iaload, 1) := by decide +kernel
theorem dX1_takeBackTo_48 : decode cX1_takeBackTo 48 = .ok (.iload_n 1, 1) := by decide +kernel
theorem dX1_takeBackTo_49 : decode cX1_takeBackTo 49 = .ok (.if_icmp .le 17, 3) := by decide +kernel
theorem dX1_takeBackTo_52 : decode cX1_takeBackTo 52 = .ok (.aload_n 0, 1) := by decide +kernel
theorem dX1_takeBackTo_53 : decode cX1_takeBackTo 53 = .ok (.getfield 24, 3) := by decide +kernel
theorem dX1_takeBackTo_56 : decode cX1_takeBackTo 56 = .ok (.iload_n 2, 1) := by decide +kernel
theorem dX1_takeBackTo_57 : decode cX1_takeBackTo 57 = .ok (.iconst (-1), 1) := by decide +kernel
theorem dX1_takeBackTo_58 : decode cX1_takeBackTo 58 = .ok (.iastore, 1) := by decide +kernel
theorem dX1_takeBackTo_59 : decode cX1_takeBackTo 59 = .ok (.aload_n 0, 1) := by decide +kernel
theorem dX1_takeBackTo_60 : decode cX1_takeBackTo 60 = .ok (.getfield 27, 3) := by decide +kernel
theorem dX1_takeBackTo_63 : decode cX1_takeBackTo 63 = .ok (.iload_n 2, 1) := by decide +kernel
theorem dX1_takeBackTo_64 : decode cX1_takeBackTo 64 = .ok (.iconst (-1), 1) := by decide +kernel
theorem dX1_takeBackTo_65 : decode cX1_takeBackTo 65 = .ok (.iastore, 1) := by decide +kernel
theorem dX1_takeBackTo_66 : decode cX1_takeBackTo 66 = .ok (.iinc 2 1, 3) := by decide +kernel
theorem dX1_takeBackTo_69 : decode cX1_takeBackTo 69 = .ok (.goto (-62), 3) := by decide +kernel
theorem dX1_takeBackTo_72 : decode cX1_takeBackTo 72 = .ok (.aload_n 0, 1) := by decide +kernel
theorem dX1_takeBackTo_73 : decode cX1_takeBackTo 73 = .ok (.getfield 61, 3) := by decide +kernel
theorem dX1_takeBackTo_76 : decode cX1_takeBackTo 76 = .ok (.ifCond .le 31, 3) := by decide +kernel
theorem dX1_takeBackTo_79 : decode cX1_takeBackTo 79 = .ok (.aload_n 0, 1) := by decide +kernel
theorem dX1_takeBackTo_80 : decode cX1_takeBackTo 80 = .ok (.getfield 30, 3) := by decide +kernel
theorem dX1_takeBackTo_83 : decode cX1_takeBackTo 83 = .ok (.aload_n 0, 1) := by decide +kernel
theorem dX1_takeBackTo_84 : decode cX1_takeBackTo 84 = .ok (.getfield 61, 3) := by decide +kernel
theorem dX1_takeBackTo_87 : decode cX1_takeBackTo 87 = .ok (.iconst 1, 1) := by decide +kernel
theorem dX1_takeBackTo_88 : decode cX1_takeBackTo 88 = .ok (.isub, 1) := by decide +kernel
theorem dX1_takeBackTo_89 : decode cX1_takeBackTo 89 = .ok (.iaload, 1) := by decide +kernel
theorem dX1_takeBackTo_90 : decode cX1_takeBackTo 90 = .ok (.iload_n 1, 1) := by decide +kernel
theorem dX1_takeBackTo_91 : decode cX1_takeBackTo 91 = .ok (.if_icmp .le 16, 3) := by decide +kernel
theorem dX1_takeBackTo_94 : decode cX1_takeBackTo 94 = .ok (.aload_n 0, 1) := by decide +kernel
theorem dX1_takeBackTo_95 : decode cX1_takeBackTo 95 = .ok (.dup, 1) := by decide +kernel
theorem dX1_takeBackTo_96 : decode cX1_takeBackTo 96 = .ok (.getfield 61, 3) := by decide +kernel
theorem dX1_takeBackTo_99 : decode cX1_takeBackTo 99 = .ok (.iconst 1, 1) := by decide +kernel
theorem dX1_takeBackTo_100 : decode cX1_takeBackTo 100 = .ok (.isub, 1) := by decide +kernel
theorem dX1_takeBackTo_101 : decode cX1_takeBackTo 101 = .ok (.putfield 61, 3) := by decide +kernel
theorem dX1_takeBackTo_104 : decode cX1_takeBackTo 104 = .ok (.goto (-32), 3) := by decide +kernel
theorem dX1_takeBackTo_107 : decode cX1_takeBackTo 107 = .ok (.return_, 1) := by decide +kernel
theorem dX1_candidate_0 : decode cX1_candidate 0 = .ok (.iconst 0, 1) := by decide +kernel
theorem dX1_candidate_1 : decode cX1_candidate 1 = .ok (.istore_n 2, 1) := by decide +kernel
theorem dX1_candidate_2 : decode cX1_candidate 2 = .ok (.iconst 0, 1) := by decide +kernel
theorem dX1_candidate_3 : decode cX1_candidate 3 = .ok (.istore_n 3, 1) := by decide +kernel
theorem dX1_candidate_4 : decode cX1_candidate 4 = .ok (.iload_n 3, 1) := by decide +kernel
theorem dX1_candidate_5 : decode cX1_candidate 5 = .ok (.aload_n 0, 1) := by decide +kernel
theorem dX1_candidate_6 : decode cX1_candidate 6 = .ok (.getfield 49, 3) := by decide +kernel
theorem dX1_candidate_9 : decode cX1_candidate 9 = .ok (.getfield 85, 3) := by decide +kernel
theorem dX1_candidate_12 : decode cX1_candidate 12 = .ok (.if_icmp .ge 43, 3) := by decide +kernel
theorem dX1_candidate_15 : decode cX1_candidate 15 = .ok (.aload_n 0, 1) := by decide +kernel
theorem dX1_candidate_16 : decode cX1_candidate 16 = .ok (.aload_n 0, 1) := by decide +kernel
theorem dX1_candidate_17 : decode cX1_candidate 17 = .ok (.getfield 49, 3) := by decide +kernel
theorem dX1_candidate_20 : decode cX1_candidate 20 = .ok (.getfield 88, 3) := by decide +kernel
theorem dX1_candidate_23 : decode cX1_candidate 23 = .ok (.iload_n 3, 1) := by decide +kernel
theorem dX1_candidate_24 : decode cX1_candidate 24 = .ok (.iaload, 1) := by decide +kernel
theorem dX1_candidate_25 : decode cX1_candidate 25 = .ok (.invokevirtual 91, 3) := by decide +kernel
theorem dX1_candidate_28 : decode cX1_candidate 28 = .ok (.ifCond .eq 21, 3) := by decide +kernel
theorem dX1_candidate_31 : decode cX1_candidate 31 = .ok (.iload_n 2, 1) := by decide +kernel
theorem dX1_candidate_32 : decode cX1_candidate 32 = .ok (.iload_n 1, 1) := by decide +kernel
theorem dX1_candidate_33 : decode cX1_candidate 33 = .ok (.if_icmp .ne 13, 3) := by decide +kernel
theorem dX1_candidate_36 : decode cX1_candidate 36 = .ok (.aload_n 0, 1) := by decide +kernel
theorem dX1_candidate_37 : decode cX1_candidate 37 = .ok (.getfield 49, 3) := by decide +kernel
theorem dX1_candidate_40 : decode cX1_candidate 40 = .ok (.getfield 88, 3) := by decide +kernel
theorem dX1_candidate_43 : decode cX1_candidate 43 = .ok (.iload_n 3, 1) := by decide +kernel
theorem dX1_candidate_44 : decode cX1_candidate 44 = .ok (.iaload, 1) := by decide +kernel
theorem dX1_candidate_45 : decode cX1_candidate 45 = .ok (.ireturn, 1) := by decide +kernel
theorem dX1_candidate_46 : decode cX1_candidate 46 = .ok (.iinc 2 1, 3) := by decide +kernel
theorem dX1_candidate_49 : decode cX1_candidate 49 = .ok (.iinc 3 1, 3) := by decide +kernel
theorem dX1_candidate_52 : decode cX1_candidate 52 = .ok (.goto (-48), 3) := by decide +kernel
theorem dX1_candidate_55 : decode cX1_candidate 55 = .ok (.iconst (-1), 1) := by decide +kernel
theorem dX1_candidate_56 : decode cX1_candidate 56 = .ok (.ireturn, 1) := by decide +kernel
theorem dX1_countCandidates_0 : decode cX1_countCandidates 0 = .ok (.iconst 0, 1) := by decide +kernel
theorem dX1_countCandidates_1 : decode cX1_countCandidates 1 = .ok (.istore_n 1, 1) := by decide +kernel
theorem dX1_countCandidates_2 : decode cX1_countCandidates 2 = .ok (.iconst 0, 1) := by decide +kernel
theorem dX1_countCandidates_3 : decode cX1_countCandidates 3 = .ok (.istore_n 2, 1) := by decide +kernel
theorem dX1_countCandidates_4 : decode cX1_countCandidates 4 = .ok (.iload_n 2, 1) := by decide +kernel
theorem dX1_countCandidates_5 : decode cX1_countCandidates 5 = .ok (.aload_n 0, 1) := by decide +kernel
theorem dX1_countCandidates_6 : decode cX1_countCandidates 6 = .ok (.getfield 49, 3) := by decide +kernel
theorem dX1_countCandidates_9 : decode cX1_countCandidates 9 = .ok (.getfield 85, 3) := by decide +kernel
theorem dX1_countCandidates_12 : decode cX1_countCandidates 12 = .ok (.if_icmp .ge 33, 3) := by decide +kernel
theorem dX1_countCandidates_15 : decode cX1_countCandidates 15 = .ok (.iload_n 1, 1) := by decide +kernel
theorem dX1_countCandidates_16 : decode cX1_countCandidates 16 = .ok (.aload_n 0, 1) := by decide +kernel
theorem dX1_countCandidates_17 : decode cX1_countCandidates 17 = .ok (.aload_n 0, 1) := by decide +kernel
theorem dX1_countCandidates_18 : decode cX1_countCandidates 18 = .ok (.getfield 49, 3) := by decide +kernel
theorem dX1_countCandidates_21 : decode cX1_countCandidates 21 = .ok (.getfield 88, 3) := by decide +kernel
theorem dX1_countCandidates_24 : decode cX1_countCandidates 24 = .ok (.iload_n 2, 1) := by decide +kernel
theorem dX1_countCandidates_25 : decode cX1_countCandidates 25 = .ok (.iaload, 1) := by decide +kernel
theorem dX1_countCandidates_26 : decode cX1_countCandidates 26 = .ok (.invokevirtual 91, 3) := by decide +kernel
theorem dX1_countCandidates_29 : decode cX1_countCandidates 29 = .ok (.ifCond .eq 7, 3) := by decide +kernel
theorem dX1_countCandidates_32 : decode cX1_countCandidates 32 = .ok (.iconst 1, 1) := by decide +kernel
theorem dX1_countCandidates_33 : decode cX1_countCandidates 33 = .ok (.goto 4, 3) := by decide +kernel
theorem dX1_countCandidates_36 : decode cX1_countCandidates 36 = .ok (.iconst 0, 1) := by decide +kernel
theorem dX1_countCandidates_37 : decode cX1_countCandidates 37 = .ok (.iadd, 1) := by decide +kernel
theorem dX1_countCandidates_38 : decode cX1_countCandidates 38 = .ok (.istore_n 1, 1) := by decide +kernel
theorem dX1_countCandidates_39 : decode cX1_countCandidates 39 = .ok (.iinc 2 1, 3) := by decide +kernel
theorem dX1_countCandidates_42 : decode cX1_countCandidates 42 = .ok (.goto (-38), 3) := by decide +kernel
theorem dX1_countCandidates_45 : decode cX1_countCandidates 45 = .ok (.iload_n 1, 1) := by decide +kernel
theorem dX1_countCandidates_46 : decode cX1_countCandidates 46 = .ok (.ireturn, 1) := by decide +kernel
theorem dX1_countFilled_0 : decode cX1_countFilled 0 = .ok (.iconst 0, 1) := by decide +kernel
theorem dX1_countFilled_1 : decode cX1_countFilled 1 = .ok (.istore_n 1, 1) := by decide +kernel
theorem dX1_countFilled_2 : decode cX1_countFilled 2 = .ok (.iconst 0, 1) := by decide +kernel
theorem dX1_countFilled_3 : decode cX1_countFilled 3 = .ok (.istore_n 2, 1) := by decide +kernel
theorem dX1_countFilled_4 : decode cX1_countFilled 4 = .ok (.iload_n 2, 1) := by decide +kernel
theorem dX1_countFilled_5 : decode cX1_countFilled 5 = .ok (.aload_n 0, 1) := by decide +kernel
theorem dX1_countFilled_6 : decode cX1_countFilled 6 = .ok (.getfield 49, 3) := by decide +kernel
theorem dX1_countFilled_9 : decode cX1_countFilled 9 = .ok (.getfield 64, 3) := by decide +kernel
theorem dX1_countFilled_12 : decode cX1_countFilled 12 = .ok (.if_icmp .ge 26, 3) := by decide +kernel
theorem dX1_countFilled_15 : decode cX1_countFilled 15 = .ok (.iload_n 1, 1) := by decide +kernel
theorem dX1_countFilled_16 : decode cX1_countFilled 16 = .ok (.aload_n 0, 1) := by decide +kernel
theorem dX1_countFilled_17 : decode cX1_countFilled 17 = .ok (.getfield 18, 3) := by decide +kernel
theorem dX1_countFilled_20 : decode cX1_countFilled 20 = .ok (.iload_n 2, 1) := by decide +kernel
theorem dX1_countFilled_21 : decode cX1_countFilled 21 = .ok (.iaload, 1) := by decide +kernel
theorem dX1_countFilled_22 : decode cX1_countFilled 22 = .ok (.ifCond .lt 7, 3) := by decide +kernel
theorem dX1_countFilled_25 : decode cX1_countFilled 25 = .ok (.iconst 1, 1) := by decide +kernel
theorem dX1_countFilled_26 : decode cX1_countFilled 26 = .ok (.goto 4, 3) := by decide +kernel
theorem dX1_countFilled_29 : decode cX1_countFilled 29 = .ok (.iconst 0, 1) := by decide +kernel
theorem dX1_countFilled_30 : decode cX1_countFilled 30 = .ok (.iadd, 1) := by decide +kernel
theorem dX1_countFilled_31 : decode cX1_countFilled 31 = .ok (.istore_n 1, 1) := by decide +kernel
theorem dX1_countFilled_32 : decode cX1_countFilled 32 = .ok (.iinc 2 1, 3) := by decide +kernel
theorem dX1_countFilled_35 : decode cX1_countFilled 35 = .ok (.goto (-31), 3) := by decide +kernel
theorem dX1_countFilled_38 : decode cX1_countFilled 38 = .ok (.iload_n 1, 1) := by decide +kernel
theorem dX1_countFilled_39 : decode cX1_countFilled 39 = .ok (.ireturn, 1) := by decide +kernel
theorem dX1_countCut_0 : decode cX1_countCut 0 = .ok (.iconst 0, 1) := by decide +kernel
theorem dX1_countCut_1 : decode cX1_countCut 1 = .ok (.istore_n 1, 1) := by decide +kernel
theorem dX1_countCut_2 : decode cX1_countCut 2 = .ok (.iconst 0, 1) := by decide +kernel
theorem dX1_countCut_3 : decode cX1_countCut 3 = .ok (.istore_n 2, 1) := by decide +kernel
theorem dX1_countCut_4 : decode cX1_countCut 4 = .ok (.iload_n 2, 1) := by decide +kernel
theorem dX1_countCut_5 : decode cX1_countCut 5 = .ok (.aload_n 0, 1) := by decide +kernel
theorem dX1_countCut_6 : decode cX1_countCut 6 = .ok (.getfield 49, 3) := by decide +kernel
theorem dX1_countCut_9 : decode cX1_countCut 9 = .ok (.getfield 64, 3) := by decide +kernel
theorem dX1_countCut_12 : decode cX1_countCut 12 = .ok (.if_icmp .ge 26, 3) := by decide +kernel
theorem dX1_countCut_15 : decode cX1_countCut 15 = .ok (.iload_n 1, 1) := by decide +kernel
theorem dX1_countCut_16 : decode cX1_countCut 16 = .ok (.aload_n 0, 1) := by decide +kernel
theorem dX1_countCut_17 : decode cX1_countCut 17 = .ok (.getfield 24, 3) := by decide +kernel
theorem dX1_countCut_20 : decode cX1_countCut 20 = .ok (.iload_n 2, 1) := by decide +kernel
theorem dX1_countCut_21 : decode cX1_countCut 21 = .ok (.iaload, 1) := by decide +kernel
theorem dX1_countCut_22 : decode cX1_countCut 22 = .ok (.ifCond .lt 7, 3) := by decide +kernel
theorem dX1_countCut_25 : decode cX1_countCut 25 = .ok (.iconst 1, 1) := by decide +kernel
theorem dX1_countCut_26 : decode cX1_countCut 26 = .ok (.goto 4, 3) := by decide +kernel
theorem dX1_countCut_29 : decode cX1_countCut 29 = .ok (.iconst 0, 1) := by decide +kernel
theorem dX1_countCut_30 : decode cX1_countCut 30 = .ok (.iadd, 1) := by decide +kernel
theorem dX1_countCut_31 : decode cX1_countCut 31 = .ok (.istore_n 1, 1) := by decide +kernel
theorem dX1_countCut_32 : decode cX1_countCut 32 = .ok (.iinc 2 1, 3) := by decide +kernel
theorem dX1_countCut_35 : decode cX1_countCut 35 = .ok (.goto (-31), 3) := by decide +kernel
theorem dX1_countCut_38 : decode cX1_countCut 38 = .ok (.iload_n 1, 1) := by decide +kernel
theorem dX1_countCut_39 : decode cX1_countCut 39 = .ok (.ireturn, 1) := by decide +kernel
theorem dX1_firstOutletStep_0 : decode cX1_firstOutletStep 0 = .ok (.iconst (-1), 1) := by decide +kernel
theorem dX1_firstOutletStep_1 : decode cX1_firstOutletStep 1 = .ok (.istore_n 1, 1) := by decide +kernel
theorem dX1_firstOutletStep_2 : decode cX1_firstOutletStep 2 = .ok (.iconst 0, 1) := by decide +kernel
theorem dX1_firstOutletStep_3 : decode cX1_firstOutletStep 3 = .ok (.istore_n 2, 1) := by decide +kernel
theorem dX1_firstOutletStep_4 : decode cX1_firstOutletStep 4 = .ok (.iload_n 2, 1) := by decide +kernel
theorem dX1_firstOutletStep_5 : decode cX1_firstOutletStep 5 = .ok (.aload_n 0, 1) := by decide +kernel
theorem dX1_firstOutletStep_6 : decode cX1_firstOutletStep 6 = .ok (.getfield 49, 3) := by decide +kernel
theorem dX1_firstOutletStep_9 : decode cX1_firstOutletStep 9 = .ok (.getfield 64, 3) := by decide +kernel
theorem dX1_firstOutletStep_12 : decode cX1_firstOutletStep 12 = .ok (.if_icmp .ge 62, 3) := by decide +kernel
theorem dX1_firstOutletStep_15 : decode cX1_firstOutletStep 15 = .ok (.aload_n 0, 1) := by decide +kernel
theorem dX1_firstOutletStep_16 : decode cX1_firstOutletStep 16 = .ok (.getfield 49, 3) := by decide +kernel
theorem dX1_firstOutletStep_19 : decode cX1_firstOutletStep 19 = .ok (.getfield 95, 3) := by decide +kernel
theorem dX1_firstOutletStep_22 : decode cX1_firstOutletStep 22 = .ok (.iload_n 2, 1) := by decide +kernel
theorem dX1_firstOutletStep_23 : decode cX1_firstOutletStep 23 = .ok (.iaload, 1) := by decide +kernel
theorem dX1_firstOutletStep_24 : decode cX1_firstOutletStep 24 = .ok (.iconst 4, 1) := by decide +kernel
theorem dX1_firstOutletStep_25 : decode cX1_firstOutletStep 25 = .ok (.if_icmp .ne 16, 3) := by decide +kernel
theorem dX1_firstOutletStep_28 : decode cX1_firstOutletStep 28 = .ok (.aload_n 0, 1) := by decide +kernel
theorem dX1_firstOutletStep_29 : decode cX1_firstOutletStep 29 = .ok (.getfield 18, 3) := by decide +kernel
theorem dX1_firstOutletStep_32 : decode cX1_firstOutletStep 32 = .ok (.iload_n 2, 1) := by decide +kernel
theorem dX1_firstOutletStep_33 : decode cX1_firstOutletStep 33 = .ok (.iaload, 1) := by decide +kernel
theorem dX1_firstOutletStep_34 : decode cX1_firstOutletStep 34 = .ok (.ifCond .lt 7, 3) := by decide +kernel
theorem dX1_firstOutletStep_37 : decode cX1_firstOutletStep 37 = .ok (.iconst 1, 1) := by decide +kernel
theorem dX1_firstOutletStep_38 : decode cX1_firstOutletStep 38 = .ok (.goto 4, 3) := by decide +kernel
theorem dX1_firstOutletStep_41 : decode cX1_firstOutletStep 41 = .ok (.iconst 0, 1) := by decide +kernel
theorem dX1_firstOutletStep_42 : decode cX1_firstOutletStep 42 = .ok (.istore_n 3, 1) := by decide +kernel
theorem dX1_firstOutletStep_43 : decode cX1_firstOutletStep 43 = .ok (.iload_n 3, 1) := by decide +kernel
theorem dX1_firstOutletStep_44 : decode cX1_firstOutletStep 44 = .ok (.ifCond .eq 24, 3) := by decide +kernel
theorem dX1_firstOutletStep_47 : decode cX1_firstOutletStep 47 = .ok (.iload_n 1, 1) := by decide +kernel
theorem dX1_firstOutletStep_48 : decode cX1_firstOutletStep 48 = .ok (.ifCond .lt 13, 3) := by decide +kernel
theorem dX1_firstOutletStep_51 : decode cX1_firstOutletStep 51 = .ok (.aload_n 0, 1) := by decide +kernel
theorem dX1_firstOutletStep_52 : decode cX1_firstOutletStep 52 = .ok (.getfield 18, 3) := by decide +kernel
theorem dX1_firstOutletStep_55 : decode cX1_firstOutletStep 55 = .ok (.iload_n 2, 1) := by decide +kernel
theorem dX1_firstOutletStep_56 : decode cX1_firstOutletStep 56 = .ok (.iaload, 1) := by decide +kernel
theorem dX1_firstOutletStep_57 : decode cX1_firstOutletStep 57 = .ok (.iload_n 1, 1) := by decide +kernel
theorem dX1_firstOutletStep_58 : decode cX1_firstOutletStep 58 = .ok (.if_icmp .ge 10, 3) := by decide +kernel
theorem dX1_firstOutletStep_61 : decode cX1_firstOutletStep 61 = .ok (.aload_n 0, 1) := by decide +kernel
theorem dX1_firstOutletStep_62 : decode cX1_firstOutletStep 62 = .ok (.getfield 18, 3) := by decide +kernel
theorem dX1_firstOutletStep_65 : decode cX1_firstOutletStep 65 = .ok (.iload_n 2, 1) := by decide +kernel
theorem dX1_firstOutletStep_66 : decode cX1_firstOutletStep 66 = .ok (.iaload, 1) := by decide +kernel
theorem dX1_firstOutletStep_67 : decode cX1_firstOutletStep 67 = .ok (.istore_n 1, 1) := by decide +kernel
theorem dX1_firstOutletStep_68 : decode cX1_firstOutletStep 68 = .ok (.iinc 2 1, 3) := by decide +kernel
theorem dX1_firstOutletStep_71 : decode cX1_firstOutletStep 71 = .ok (.goto (-67), 3) := by decide +kernel
theorem dX1_firstOutletStep_74 : decode cX1_firstOutletStep 74 = .ok (.iload_n 1, 1) := by decide +kernel
theorem dX1_firstOutletStep_75 : decode cX1_firstOutletStep 75 = .ok (.ireturn, 1) := by decide +kernel
theorem dX1_nextThroat_0 : decode cX1_nextThroat 0 = .ok (.aload_n 0, 1) := by decide +kernel
theorem dX1_nextThroat_1 : decode cX1_nextThroat 1 = .ok (.getfield 57, 3) := by decide +kernel
theorem dX1_nextThroat_4 : decode cX1_nextThroat 4 = .ok (.ifCond .le 19, 3) := by decide +kernel
theorem dX1_nextThroat_7 : decode cX1_nextThroat 7 = .ok (.aload_n 0, 1) := by decide +kernel
theorem dX1_nextThroat_8 : decode cX1_nextThroat 8 = .ok (.aload_n 0, 1) := by decide +kernel
theorem dX1_nextThroat_9 : decode cX1_nextThroat 9 = .ok (.getfield 15, 3) := by decide +kernel
theorem dX1_nextThroat_12 : decode cX1_nextThroat 12 = .ok (.aload_n 0, 1) := by decide +kernel
theorem dX1_nextThroat_13 : decode cX1_nextThroat 13 = .ok (.getfield 57, 3) := by decide +kernel
theorem dX1_nextThroat_16 : decode cX1_nextThroat 16 = .ok (.iaload, 1) := by decide +kernel
theorem dX1_nextThroat_17 : decode cX1_nextThroat 17 = .ok (.invokevirtual 98, 3) := by decide +kernel
theorem dX1_nextThroat_20 : decode cX1_nextThroat 20 = .ok (.goto 4, 3) := by decide +kernel
theorem dX1_nextThroat_23 : decode cX1_nextThroat 23 = .ok (.iconst (-1), 1) := by decide +kernel
theorem dX1_nextThroat_24 : decode cX1_nextThroat 24 = .ok (.istore_n 1, 1) := by decide +kernel
theorem dX1_nextThroat_25 : decode cX1_nextThroat 25 = .ok (.iload_n 1, 1) := by decide +kernel
theorem dX1_nextThroat_26 : decode cX1_nextThroat 26 = .ok (.ifCond .lt 7, 3) := by decide +kernel
theorem dX1_nextThroat_29 : decode cX1_nextThroat 29 = .ok (.iload_n 1, 1) := by decide +kernel
theorem dX1_nextThroat_30 : decode cX1_nextThroat 30 = .ok (.goto 8, 3) := by decide +kernel
theorem dX1_nextThroat_33 : decode cX1_nextThroat 33 = .ok (.aload_n 0, 1) := by decide +kernel
theorem dX1_nextThroat_34 : decode cX1_nextThroat 34 = .ok (.iconst 0, 1) := by decide +kernel
theorem dX1_nextThroat_35 : decode cX1_nextThroat 35 = .ok (.invokevirtual 102, 3) := by decide +kernel
theorem dX1_nextThroat_38 : decode cX1_nextThroat 38 = .ok (.ireturn, 1) := by decide +kernel
theorem dX1_preferredAt_0 : decode cX1_preferredAt 0 = .ok (.aload_n 0, 1) := by decide +kernel
theorem dX1_preferredAt_1 : decode cX1_preferredAt 1 = .ok (.getfield 49, 3) := by decide +kernel
theorem dX1_preferredAt_4 : decode cX1_preferredAt 4 = .ok (.getfield 95, 3) := by decide +kernel
theorem dX1_preferredAt_7 : decode cX1_preferredAt 7 = .ok (.iload_n 1, 1) := by decide +kernel
theorem dX1_preferredAt_8 : decode cX1_preferredAt 8 = .ok (.iaload, 1) := by decide +kernel
theorem dX1_preferredAt_9 : decode cX1_preferredAt 9 = .ok (.iconst 2, 1) := by decide +kernel
theorem dX1_preferredAt_10 : decode cX1_preferredAt 10 = .ok (.if_icmp .ne 7, 3) := by decide +kernel
theorem dX1_preferredAt_13 : decode cX1_preferredAt 13 = .ok (.iconst 1, 1) := by decide +kernel
theorem dX1_preferredAt_14 : decode cX1_preferredAt 14 = .ok (.goto 4, 3) := by decide +kernel
theorem dX1_preferredAt_17 : decode cX1_preferredAt 17 = .ok (.iconst 0, 1) := by decide +kernel
theorem dX1_preferredAt_18 : decode cX1_preferredAt 18 = .ok (.istore_n 2, 1) := by decide +kernel
theorem dX1_preferredAt_19 : decode cX1_preferredAt 19 = .ok (.iload_n 2, 1) := by decide +kernel
theorem dX1_preferredAt_20 : decode cX1_preferredAt 20 = .ok (.ifCond .ne 18, 3) := by decide +kernel
theorem dX1_preferredAt_23 : decode cX1_preferredAt 23 = .ok (.aload_n 0, 1) := by decide +kernel
theorem dX1_preferredAt_24 : decode cX1_preferredAt 24 = .ok (.getfield 49, 3) := by decide +kernel
theorem dX1_preferredAt_27 : decode cX1_preferredAt 27 = .ok (.getfield 95, 3) := by decide +kernel
theorem dX1_preferredAt_30 : decode cX1_preferredAt 30 = .ok (.iload_n 1, 1) := by decide +kernel
theorem dX1_preferredAt_31 : decode cX1_preferredAt 31 = .ok (.iaload, 1) := by decide +kernel
theorem dX1_preferredAt_32 : decode cX1_preferredAt 32 = .ok (.iconst 1, 1) := by decide +kernel
theorem dX1_preferredAt_33 : decode cX1_preferredAt 33 = .ok (.if_icmp .eq 5, 3) := by decide +kernel
theorem dX1_preferredAt_36 : decode cX1_preferredAt 36 = .ok (.iconst (-1), 1) := by decide +kernel
theorem dX1_preferredAt_37 : decode cX1_preferredAt 37 = .ok (.ireturn, 1) := by decide +kernel
theorem dX1_preferredAt_38 : decode cX1_preferredAt 38 = .ok (.iconst (-1), 1) := by decide +kernel
theorem dX1_preferredAt_39 : decode cX1_preferredAt 39 = .ok (.istore_n 3, 1) := by decide +kernel
theorem dX1_preferredAt_40 : decode cX1_preferredAt 40 = .ok (.aload_n 0, 1) := by decide +kernel
theorem dX1_preferredAt_41 : decode cX1_preferredAt 41 = .ok (.getfield 49, 3) := by decide +kernel
theorem dX1_preferredAt_44 : decode cX1_preferredAt 44 = .ok (.getfield 105, 3) := by decide +kernel
theorem dX1_preferredAt_47 : decode cX1_preferredAt 47 = .ok (.iload_n 1, 1) := by decide +kernel
theorem dX1_preferredAt_48 : decode cX1_preferredAt 48 = .ok (.iaload, 1) := by decide +kernel
theorem dX1_preferredAt_49 : decode cX1_preferredAt 49 = .ok (.istore 4, 2) := by decide +kernel
theorem dX1_preferredAt_51 : decode cX1_preferredAt 51 = .ok (.iload 4, 2) := by decide +kernel
theorem dX1_preferredAt_53 : decode cX1_preferredAt 53 = .ok (.aload_n 0, 1) := by decide +kernel
theorem dX1_preferredAt_54 : decode cX1_preferredAt 54 = .ok (.getfield 49, 3) := by decide +kernel
theorem dX1_preferredAt_57 : decode cX1_preferredAt 57 = .ok (.getfield 105, 3) := by decide +kernel
theorem dX1_preferredAt_60 : decode cX1_preferredAt 60 = .ok (.iload_n 1, 1) := by decide +kernel
theorem dX1_preferredAt_61 : decode cX1_preferredAt 61 = .ok (.iconst 1, 1) := by decide +kernel
theorem dX1_preferredAt_62 : decode cX1_preferredAt 62 = .ok (.iadd, 1) := by decide +kernel
theorem dX1_preferredAt_63 : decode cX1_preferredAt 63 = .ok (.iaload, 1) := by decide +kernel
theorem dX1_preferredAt_64 : decode cX1_preferredAt 64 = .ok (.if_icmp .ge 60, 3) := by decide +kernel
theorem dX1_preferredAt_67 : decode cX1_preferredAt 67 = .ok (.aload_n 0, 1) := by decide +kernel
theorem dX1_preferredAt_68 : decode cX1_preferredAt 68 = .ok (.getfield 49, 3) := by decide +kernel
theorem dX1_preferredAt_71 : decode cX1_preferredAt 71 = .ok (.getfield 108, 3) := by decide +kernel
theorem dX1_preferredAt_74 : decode cX1_preferredAt 74 = .ok (.iload 4, 2) := by decide +kernel
theorem dX1_preferredAt_76 : decode cX1_preferredAt 76 = .ok (.iaload, 1) := by decide +kernel
theorem dX1_preferredAt_77 : decode cX1_preferredAt 77 = .ok (.istore 5, 2) := by decide +kernel
theorem dX1_preferredAt_79 : decode cX1_preferredAt 79 = .ok (.aload_n 0, 1) := by decide +kernel
theorem dX1_preferredAt_80 : decode cX1_preferredAt 80 = .ok (.getfield 49, 3) := by decide +kernel
theorem dX1_preferredAt_83 : decode cX1_preferredAt 83 = .ok (.iload 5, 2) := by decide +kernel
theorem dX1_preferredAt_85 : decode cX1_preferredAt 85 = .ok (.invokevirtual 111, 3) := by decide +kernel
theorem dX1_preferredAt_88 : decode cX1_preferredAt 88 = .ok (.ifCond .eq 30, 3) := by decide +kernel
theorem dX1_preferredAt_91 : decode cX1_preferredAt 91 = .ok (.aload_n 0, 1) := by decide +kernel
theorem dX1_preferredAt_92 : decode cX1_preferredAt 92 = .ok (.iload 5, 2) := by decide +kernel
theorem dX1_preferredAt_94 : decode cX1_preferredAt 94 = .ok (.invokevirtual 91, 3) := by decide +kernel
theorem dX1_preferredAt_97 : decode cX1_preferredAt 97 = .ok (.ifCond .eq 21, 3) := by decide +kernel
theorem dX1_preferredAt_100 : decode cX1_preferredAt 100 = .ok (.iload_n 3, 1) := by decide +kernel
theorem dX1_preferredAt_101 : decode cX1_preferredAt 101 = .ok (.ifCond .lt 14, 3) := by decide +kernel
theorem dX1_preferredAt_104 : decode cX1_preferredAt 104 = .ok (.aload_n 0, 1) := by decide +kernel
theorem dX1_preferredAt_105 : decode cX1_preferredAt 105 = .ok (.iload 5, 2) := by decide +kernel
theorem dX1_preferredAt_107 : decode cX1_preferredAt 107 = .ok (.iload_n 3, 1) := by decide +kernel
theorem dX1_preferredAt_108 : decode cX1_preferredAt 108 = .ok (.iload_n 2, 1) := by decide +kernel
theorem dX1_preferredAt_109 : decode cX1_preferredAt 109 = .ok (.invokevirtual 114, 3) := by decide +kernel
theorem dX1_preferredAt_112 : decode cX1_preferredAt 112 = .ok (.ifCond .eq 6, 3) := by decide +kernel
theorem dX1_preferredAt_115 : decode cX1_preferredAt 115 = .ok (.iload 5, 2) := by decide +kernel
theorem dX1_preferredAt_117 : decode cX1_preferredAt 117 = .ok (.istore_n 3, 1) := by decide +kernel
theorem dX1_preferredAt_118 : decode cX1_preferredAt 118 = .ok (.iinc 4 1, 3) := by decide +kernel
theorem dX1_preferredAt_121 : decode cX1_preferredAt 121 = .ok (.goto (-70), 3) := by decide +kernel
theorem dX1_preferredAt_124 : decode cX1_preferredAt 124 = .ok (.iload_n 3, 1) := by decide +kernel
theorem dX1_preferredAt_125 : decode cX1_preferredAt 125 = .ok (.ireturn, 1) := by decide +kernel
theorem dX1_isPreferred_0 : decode cX1_isPreferred 0 = .ok (.iload_n 3, 1) := by decide +kernel
theorem dX1_isPreferred_1 : decode cX1_isPreferred 1 = .ok (.ifCond .eq 32, 3) := by decide +kernel
theorem dX1_isPreferred_4 : decode cX1_isPreferred 4 = .ok (.aload_n 0, 1) := by decide +kernel
theorem dX1_isPreferred_5 : decode cX1_isPreferred 5 = .ok (.getfield 49, 3) := by decide +kernel
theorem dX1_isPreferred_8 : decode cX1_isPreferred 8 = .ok (.getfield 118, 3) := by decide +kernel
theorem dX1_isPreferred_11 : decode cX1_isPreferred 11 = .ok (.iload_n 1, 1) := by decide +kernel
theorem dX1_isPreferred_12 : decode cX1_isPreferred 12 = .ok (.iaload, 1) := by decide +kernel
theorem dX1_isPreferred_13 : decode cX1_isPreferred 13 = .ok (.aload_n 0, 1) := by decide +kernel
theorem dX1_isPreferred_14 : decode cX1_isPreferred 14 = .ok (.getfield 49, 3) := by decide +kernel
theorem dX1_isPreferred_17 : decode cX1_isPreferred 17 = .ok (.getfield 118, 3) := by decide +kernel
theorem dX1_isPreferred_20 : decode cX1_isPreferred 20 = .ok (.iload_n 2, 1) := by decide +kernel
theorem dX1_isPreferred_21 : decode cX1_isPreferred 21 = .ok (.iaload, 1) := by decide +kernel
theorem dX1_isPreferred_22 : decode cX1_isPreferred 22 = .ok (.if_icmp .le 7, 3) := by decide +kernel
theorem dX1_isPreferred_25 : decode cX1_isPreferred 25 = .ok (.iconst 1, 1) := by decide +kernel
theorem dX1_isPreferred_26 : decode cX1_isPreferred 26 = .ok (.goto 33, 3) := by decide +kernel
theorem dX1_isPreferred_29 : decode cX1_isPreferred 29 = .ok (.iconst 0, 1) := by decide +kernel
theorem dX1_isPreferred_30 : decode cX1_isPreferred 30 = .ok (.goto 29, 3) := by decide +kernel
theorem dX1_isPreferred_33 : decode cX1_isPreferred 33 = .ok (.aload_n 0, 1) := by decide +kernel
theorem dX1_isPreferred_34 : decode cX1_isPreferred 34 = .ok (.getfield 49, 3) := by decide +kernel
theorem dX1_isPreferred_37 : decode cX1_isPreferred 37 = .ok (.getfield 118, 3) := by decide +kernel
theorem dX1_isPreferred_40 : decode cX1_isPreferred 40 = .ok (.iload_n 1, 1) := by decide +kernel
theorem dX1_isPreferred_41 : decode cX1_isPreferred 41 = .ok (.iaload, 1) := by decide +kernel
theorem dX1_isPreferred_42 : decode cX1_isPreferred 42 = .ok (.aload_n 0, 1) := by decide +kernel
theorem dX1_isPreferred_43 : decode cX1_isPreferred 43 = .ok (.getfield 49, 3) := by decide +kernel
theorem dX1_isPreferred_46 : decode cX1_isPreferred 46 = .ok (.getfield 118, 3) := by decide +kernel
theorem dX1_isPreferred_49 : decode cX1_isPreferred 49 = .ok (.iload_n 2, 1) := by decide +kernel
theorem dX1_isPreferred_50 : decode cX1_isPreferred 50 = .ok (.iaload, 1) := by decide +kernel
theorem dX1_isPreferred_51 : decode cX1_isPreferred 51 = .ok (.if_icmp .ge 7, 3) := by decide +kernel
theorem dX1_isPreferred_54 : decode cX1_isPreferred 54 = .ok (.iconst 1, 1) := by decide +kernel
theorem dX1_isPreferred_55 : decode cX1_isPreferred 55 = .ok (.goto 4, 3) := by decide +kernel
theorem dX1_isPreferred_58 : decode cX1_isPreferred 58 = .ok (.iconst 0, 1) := by decide +kernel
theorem dX1_isPreferred_59 : decode cX1_isPreferred 59 = .ok (.ireturn, 1) := by decide +kernel
theorem dX1_isCandidate_0 : decode cX1_isCandidate 0 = .ok (.aload_n 0, 1) := by decide +kernel
theorem dX1_isCandidate_1 : decode cX1_isCandidate 1 = .ok (.aload_n 0, 1) := by decide +kernel
theorem dX1_isCandidate_2 : decode cX1_isCandidate 2 = .ok (.getfield 49, 3) := by decide +kernel
theorem dX1_isCandidate_5 : decode cX1_isCandidate 5 = .ok (.getfield 79, 3) := by decide +kernel
theorem dX1_isCandidate_8 : decode cX1_isCandidate 8 = .ok (.iload_n 1, 1) := by decide +kernel
theorem dX1_isCandidate_9 : decode cX1_isCandidate 9 = .ok (.iaload, 1) := by decide +kernel
theorem dX1_isCandidate_10 : decode cX1_isCandidate 10 = .ok (.aload_n 0, 1) := by decide +kernel
theorem dX1_isCandidate_11 : decode cX1_isCandidate 11 = .ok (.getfield 49, 3) := by decide +kernel
theorem dX1_isCandidate_14 : decode cX1_isCandidate 14 = .ok (.getfield 82, 3) := by decide +kernel
theorem dX1_isCandidate_17 : decode cX1_isCandidate 17 = .ok (.iload_n 1, 1) := by decide +kernel
theorem dX1_isCandidate_18 : decode cX1_isCandidate 18 = .ok (.iaload, 1) := by decide +kernel
theorem dX1_isCandidate_19 : decode cX1_isCandidate 19 = .ok (.invokevirtual 121, 3) := by decide +kernel
theorem dX1_isCandidate_22 : decode cX1_isCandidate 22 = .ok (.ifCond .ne 28, 3) := by decide +kernel
theorem dX1_isCandidate_25 : decode cX1_isCandidate 25 = .ok (.aload_n 0, 1) := by decide +kernel
theorem dX1_isCandidate_26 : decode cX1_isCandidate 26 = .ok (.aload_n 0, 1) := by decide +kernel
theorem dX1_isCandidate_27 : decode cX1_isCandidate 27 = .ok (.getfield 49, 3) := by decide +kernel
theorem dX1_isCandidate_30 : decode cX1_isCandidate 30 = .ok (.getfield 82, 3) := by decide +kernel
theorem dX1_isCandidate_33 : decode cX1_isCandidate 33 = .ok (.iload_n 1, 1) := by decide +kernel
theorem dX1_isCandidate_34 : decode cX1_isCandidate 34 = .ok (.iaload, 1) := by decide +kernel
theorem dX1_isCandidate_35 : decode cX1_isCandidate 35 = .ok (.aload_n 0, 1) := by decide +kernel
theorem dX1_isCandidate_36 : decode cX1_isCandidate 36 = .ok (.getfield 49, 3) := by decide +kernel
theorem dX1_isCandidate_39 : decode cX1_isCandidate 39 = .ok (.getfield 79, 3) := by decide +kernel
theorem dX1_isCandidate_42 : decode cX1_isCandidate 42 = .ok (.iload_n 1, 1) := by decide +kernel
theorem dX1_isCandidate_43 : decode cX1_isCandidate 43 = .ok (.iaload, 1) := by decide +kernel
theorem dX1_isCandidate_44 : decode cX1_isCandidate 44 = .ok (.invokevirtual 121, 3) := by decide +kernel
theorem dX1_isCandidate_47 : decode cX1_isCandidate 47 = .ok (.ifCond .eq 7, 3) := by decide +kernel
theorem dX1_isCandidate_50 : decode cX1_isCandidate 50 = .ok (.iconst 1, 1) := by decide +kernel
theorem dX1_isCandidate_51 : decode cX1_isCandidate 51 = .ok (.goto 4, 3) := by decide +kernel
theorem dX1_isCandidate_54 : decode cX1_isCandidate 54 = .ok (.iconst 0, 1) := by decide +kernel
theorem dX1_isCandidate_55 : decode cX1_isCandidate 55 = .ok (.ireturn, 1) := by decide +kernel
theorem dX1_leads_0 : decode cX1_leads 0 = .ok (.aload_n 0, 1) := by decide +kernel
theorem dX1_leads_1 : decode cX1_leads 1 = .ok (.getfield 18, 3) := by decide +kernel
theorem dX1_leads_4 : decode cX1_leads 4 = .ok (.iload_n 1, 1) := by decide +kernel
theorem dX1_leads_5 : decode cX1_leads 5 = .ok (.iaload, 1) := by decide +kernel
theorem dX1_leads_6 : decode cX1_leads 6 = .ok (.ifCond .lt 38, 3) := by decide +kernel
theorem dX1_leads_9 : decode cX1_leads 9 = .ok (.aload_n 0, 1) := by decide +kernel
theorem dX1_leads_10 : decode cX1_leads 10 = .ok (.getfield 49, 3) := by decide +kernel
theorem dX1_leads_13 : decode cX1_leads 13 = .ok (.getfield 95, 3) := by decide +kernel
theorem dX1_leads_16 : decode cX1_leads 16 = .ok (.iload_n 1, 1) := by decide +kernel
theorem dX1_leads_17 : decode cX1_leads 17 = .ok (.iaload, 1) := by decide +kernel
theorem dX1_leads_18 : decode cX1_leads 18 = .ok (.iconst 3, 1) := by decide +kernel
theorem dX1_leads_19 : decode cX1_leads 19 = .ok (.if_icmp .eq 25, 3) := by decide +kernel
theorem dX1_leads_22 : decode cX1_leads 22 = .ok (.aload_n 0, 1) := by decide +kernel
theorem dX1_leads_23 : decode cX1_leads 23 = .ok (.getfield 18, 3) := by decide +kernel
theorem dX1_leads_26 : decode cX1_leads 26 = .ok (.iload_n 2, 1) := by decide +kernel
theorem dX1_leads_27 : decode cX1_leads 27 = .ok (.iaload, 1) := by decide +kernel
theorem dX1_leads_28 : decode cX1_leads 28 = .ok (.ifCond .ge 16, 3) := by decide +kernel
theorem dX1_leads_31 : decode cX1_leads 31 = .ok (.aload_n 0, 1) := by decide +kernel
theorem dX1_leads_32 : decode cX1_leads 32 = .ok (.getfield 24, 3) := by decide +kernel
theorem dX1_leads_35 : decode cX1_leads 35 = .ok (.iload_n 2, 1) := by decide +kernel
theorem dX1_leads_36 : decode cX1_leads 36 = .ok (.iaload, 1) := by decide +kernel
theorem dX1_leads_37 : decode cX1_leads 37 = .ok (.ifCond .ge 7, 3) := by decide +kernel
theorem dX1_leads_40 : decode cX1_leads 40 = .ok (.iconst 1, 1) := by decide +kernel
theorem dX1_leads_41 : decode cX1_leads 41 = .ok (.goto 4, 3) := by decide +kernel
theorem dX1_leads_44 : decode cX1_leads 44 = .ok (.iconst 0, 1) := by decide +kernel
theorem dX1_leads_45 : decode cX1_leads 45 = .ok (.ireturn, 1) := by decide +kernel
theorem dX1_cutOff_0 : decode cX1_cutOff 0 = .ok (.aload_n 0, 1) := by decide +kernel
theorem dX1_cutOff_1 : decode cX1_cutOff 1 = .ok (.getfield 49, 3) := by decide +kernel
theorem dX1_cutOff_4 : decode cX1_cutOff 4 = .ok (.getfield 125, 3) := by decide +kernel
theorem dX1_cutOff_7 : decode cX1_cutOff 7 = .ok (.ifCond .ne 4, 3) := by decide +kernel
theorem dX1_cutOff_10 : decode cX1_cutOff 10 = .ok (.return_, 1) := by decide +kernel
theorem dX1_cutOff_11 : decode cX1_cutOff 11 = .ok (.aload_n 0, 1) := by decide +kernel
theorem dX1_cutOff_12 : decode cX1_cutOff 12 = .ok (.invokevirtual 128, 3) := by decide +kernel
theorem dX1_cutOff_15 : decode cX1_cutOff 15 = .ok (.iconst 0, 1) := by decide +kernel
theorem dX1_cutOff_16 : decode cX1_cutOff 16 = .ok (.istore_n 1, 1) := by decide +kernel
theorem dX1_cutOff_17 : decode cX1_cutOff 17 = .ok (.iload_n 1, 1) := by decide +kernel
theorem dX1_cutOff_18 : decode cX1_cutOff 18 = .ok (.aload_n 0, 1) := by decide +kernel
theorem dX1_cutOff_19 : decode cX1_cutOff 19 = .ok (.getfield 49, 3) := by decide +kernel
theorem dX1_cutOff_22 : decode cX1_cutOff 22 = .ok (.getfield 64, 3) := by decide +kernel
theorem dX1_cutOff_25 : decode cX1_cutOff 25 = .ok (.if_icmp .ge 46, 3) := by decide +kernel
theorem dX1_cutOff_28 : decode cX1_cutOff 28 = .ok (.aload_n 0, 1) := by decide +kernel
theorem dX1_cutOff_29 : decode cX1_cutOff 29 = .ok (.getfield 18, 3) := by decide +kernel
theorem dX1_cutOff_32 : decode cX1_cutOff 32 = .ok (.iload_n 1, 1) := by decide +kernel
theorem dX1_cutOff_33 : decode cX1_cutOff 33 = .ok (.iaload, 1) := by decide +kernel
theorem dX1_cutOff_34 : decode cX1_cutOff 34 = .ok (.ifCond .ge 31, 3) := by decide +kernel
theorem dX1_cutOff_37 : decode cX1_cutOff 37 = .ok (.aload_n 0, 1) := by decide +kernel
theorem dX1_cutOff_38 : decode cX1_cutOff 38 = .ok (.getfield 24, 3) := by decide +kernel
theorem dX1_cutOff_41 : decode cX1_cutOff 41 = .ok (.iload_n 1, 1) := by decide +kernel
theorem dX1_cutOff_42 : decode cX1_cutOff 42 = .ok (.iaload, 1) := by decide +kernel
theorem dX1_cutOff_43 : decode cX1_cutOff 43 = .ok (.ifCond .ge 22, 3) := by decide +kernel
theorem dX1_cutOff_46 : decode cX1_cutOff 46 = .ok (.aload_n 0, 1) := by decide +kernel
theorem dX1_cutOff_47 : decode cX1_cutOff 47 = .ok (.getfield 45, 3) := by decide +kernel
theorem dX1_cutOff_50 : decode cX1_cutOff 50 = .ok (.iload_n 1, 1) := by decide +kernel
theorem dX1_cutOff_51 : decode cX1_cutOff 51 = .ok (.baload, 1) := by decide +kernel
theorem dX1_cutOff_52 : decode cX1_cutOff 52 = .ok (.ifCond .ne 13, 3) := by decide +kernel
theorem dX1_cutOff_55 : decode cX1_cutOff 55 = .ok (.aload_n 0, 1) := by decide +kernel
theorem dX1_cutOff_56 : decode cX1_cutOff 56 = .ok (.getfield 24, 3) := by decide +kernel
theorem dX1_cutOff_59 : decode cX1_cutOff 59 = .ok (.iload_n 1, 1) := by decide +kernel
theorem dX1_cutOff_60 : decode cX1_cutOff 60 = .ok (.aload_n 0, 1) := by decide +kernel
theorem dX1_cutOff_61 : decode cX1_cutOff 61 = .ok (.getfield 57, 3) := by decide +kernel
theorem dX1_cutOff_64 : decode cX1_cutOff 64 = .ok (.iastore, 1) := by decide +kernel
theorem dX1_cutOff_65 : decode cX1_cutOff 65 = .ok (.iinc 1 1, 3) := by decide +kernel
theorem dX1_cutOff_68 : decode cX1_cutOff 68 = .ok (.goto (-51), 3) := by decide +kernel
theorem dX1_cutOff_71 : decode cX1_cutOff 71 = .ok (.iconst 0, 1) := by decide +kernel
theorem dX1_cutOff_72 : decode cX1_cutOff 72 = .ok (.istore_n 1, 1) := by decide +kernel
theorem dX1_cutOff_73 : decode cX1_cutOff 73 = .ok (.iload_n 1, 1) := by decide +kernel
theorem dX1_cutOff_74 : decode cX1_cutOff 74 = .ok (.aload_n 0, 1) := by decide +kernel
theorem dX1_cutOff_75 : decode cX1_cutOff 75 = .ok (.getfield 49, 3) := by decide +kernel
theorem dX1_cutOff_78 : decode cX1_cutOff 78 = .ok (.getfield 64, 3) := by decide +kernel
theorem dX1_cutOff_81 : decode cX1_cutOff 81 = .ok (.if_icmp .ge 36, 3) := by decide +kernel
theorem dX1_cutOff_84 : decode cX1_cutOff 84 = .ok (.aload_n 0, 1) := by decide +kernel
theorem dX1_cutOff_85 : decode cX1_cutOff 85 = .ok (.getfield 24, 3) := by decide +kernel
theorem dX1_cutOff_88 : decode cX1_cutOff 88 = .ok (.iload_n 1, 1) := by decide +kernel
theorem dX1_cutOff_89 : decode cX1_cutOff 89 = .ok (.iaload, 1) := by decide +kernel
theorem dX1_cutOff_90 : decode cX1_cutOff 90 = .ok (.aload_n 0, 1) := by decide +kernel
theorem dX1_cutOff_91 : decode cX1_cutOff 91 = .ok (.getfield 57, 3) := by decide +kernel
theorem dX1_cutOff_94 : decode cX1_cutOff 94 = .ok (.if_icmp .ne 17, 3) := by decide +kernel
theorem dX1_cutOff_97 : decode cX1_cutOff 97 = .ok (.aload_n 0, 1) := by decide +kernel
theorem dX1_cutOff_98 : decode cX1_cutOff 98 = .ok (.getfield 27, 3) := by decide +kernel
theorem dX1_cutOff_101 : decode cX1_cutOff 101 = .ok (.iload_n 1, 1) := by decide +kernel
theorem dX1_cutOff_102 : decode cX1_cutOff 102 = .ok (.iaload, 1) := by decide +kernel
theorem dX1_cutOff_103 : decode cX1_cutOff 103 = .ok (.ifCond .ge 8, 3) := by decide +kernel
theorem dX1_cutOff_106 : decode cX1_cutOff 106 = .ok (.aload_n 0, 1) := by decide +kernel
theorem dX1_cutOff_107 : decode cX1_cutOff 107 = .ok (.iload_n 1, 1) := by decide +kernel
theorem dX1_cutOff_108 : decode cX1_cutOff 108 = .ok (.invokevirtual 131, 3) := by decide +kernel
theorem dX1_cutOff_111 : decode cX1_cutOff 111 = .ok (.iinc 1 1, 3) := by decide +kernel
theorem dX1_cutOff_114 : decode cX1_cutOff 114 = .ok (.goto (-41), 3) := by decide +kernel
theorem dX1_cutOff_117 : decode cX1_cutOff 117 = .ok (.return_, 1) := by decide +kernel
theorem dX1_reachFromOutlets_0 : decode cX1_reachFromOutlets 0 = .ok (.iconst 0, 1) := by decide +kernel
theorem dX1_reachFromOutlets_1 : decode cX1_reachFromOutlets 1 = .ok (.istore_n 1, 1) := by decide +kernel
theorem dX1_reachFromOutlets_2 : decode cX1_reachFromOutlets 2 = .ok (.iconst 0, 1) := by decide +kernel
theorem dX1_reachFromOutlets_3 : decode cX1_reachFromOutlets 3 = .ok (.istore_n 2, 1) := by decide +kernel
theorem dX1_reachFromOutlets_4 : decode cX1_reachFromOutlets 4 = .ok (.iload_n 2, 1) := by decide +kernel
theorem dX1_reachFromOutlets_5 : decode cX1_reachFromOutlets 5 = .ok (.aload_n 0, 1) := by decide +kernel
theorem dX1_reachFromOutlets_6 : decode cX1_reachFromOutlets 6 = .ok (.getfield 49, 3) := by decide +kernel
theorem dX1_reachFromOutlets_9 : decode cX1_reachFromOutlets 9 = .ok (.getfield 64, 3) := by decide +kernel
theorem dX1_reachFromOutlets_12 : decode cX1_reachFromOutlets 12 = .ok (.if_icmp .ge 61, 3) := by decide +kernel
theorem dX1_reachFromOutlets_15 : decode cX1_reachFromOutlets 15 = .ok (.aload_n 0, 1) := by decide +kernel
theorem dX1_reachFromOutlets_16 : decode cX1_reachFromOutlets 16 = .ok (.getfield 45, 3) := by decide +kernel
theorem dX1_reachFromOutlets_19 : decode cX1_reachFromOutlets 19 = .ok (.iload_n 2, 1) := by decide +kernel
theorem dX1_reachFromOutlets_20 : decode cX1_reachFromOutlets 20 = .ok (.aload_n 0, 1) := by decide +kernel
theorem dX1_reachFromOutlets_21 : decode cX1_reachFromOutlets 21 = .ok (.getfield 49, 3) := by decide +kernel
theorem dX1_reachFromOutlets_24 : decode cX1_reachFromOutlets 24 = .ok (.getfield 95, 3) := by decide +kernel
theorem dX1_reachFromOutlets_27 : decode cX1_reachFromOutlets 27 = .ok (.iload_n 2, 1) := by decide +kernel
theorem dX1_reachFromOutlets_28 : decode cX1_reachFromOutlets 28 = .ok (.iaload, 1) := by decide +kernel
theorem dX1_reachFromOutlets_29 : decode cX1_reachFromOutlets 29 = .ok (.iconst 4, 1) := by decide +kernel
theorem dX1_reachFromOutlets_30 : decode cX1_reachFromOutlets 30 = .ok (.if_icmp .ne 16, 3) := by decide +kernel
theorem dX1_reachFromOutlets_33 : decode cX1_reachFromOutlets 33 = .ok (.aload_n 0, 1) := by decide +kernel
theorem dX1_reachFromOutlets_34 : decode cX1_reachFromOutlets 34 = .ok (.getfield 18, 3) := by decide +kernel
theorem dX1_reachFromOutlets_37 : decode cX1_reachFromOutlets 37 = .ok (.iload_n 2, 1) := by decide +kernel
theorem dX1_reachFromOutlets_38 : decode cX1_reachFromOutlets 38 = .ok (.iaload, 1) := by decide +kernel
theorem dX1_reachFromOutlets_39 : decode cX1_reachFromOutlets 39 = .ok (.ifCond .ge 7, 3) := by decide +kernel
theorem dX1_reachFromOutlets_42 : decode cX1_reachFromOutlets 42 = .ok (.iconst 1, 1) := by decide +kernel
theorem dX1_reachFromOutlets_43 : decode cX1_reachFromOutlets 43 = .ok (.goto 4, 3) := by decide +kernel
theorem dX1_reachFromOutlets_46 : decode cX1_reachFromOutlets 46 = .ok (.iconst 0, 1) := by decide +kernel
theorem dX1_reachFromOutlets_47 : decode cX1_reachFromOutlets 47 = .ok (.bastore, 1) := by decide +kernel
theorem dX1_reachFromOutlets_48 : decode cX1_reachFromOutlets 48 = .ok (.aload_n 0, 1) := by decide +kernel
theorem dX1_reachFromOutlets_49 : decode cX1_reachFromOutlets 49 = .ok (.getfield 45, 3) := by decide +kernel
theorem dX1_reachFromOutlets_52 : decode cX1_reachFromOutlets 52 = .ok (.iload_n 2, 1) := by decide +kernel
theorem dX1_reachFromOutlets_53 : decode cX1_reachFromOutlets 53 = .ok (.baload, 1) := by decide +kernel
theorem dX1_reachFromOutlets_54 : decode cX1_reachFromOutlets 54 = .ok (.ifCond .eq 13, 3) := by decide +kernel
theorem dX1_reachFromOutlets_57 : decode cX1_reachFromOutlets 57 = .ok (.aload_n 0, 1) := by decide +kernel
theorem dX1_reachFromOutlets_58 : decode cX1_reachFromOutlets 58 = .ok (.getfield 42, 3) := by decide +kernel
theorem dX1_reachFromOutlets_61 : decode cX1_reachFromOutlets 61 = .ok (.iload_n 1, 1) := by decide +kernel
theorem dX1_reachFromOutlets_62 : decode cX1_reachFromOutlets 62 = .ok (.iload_n 2, 1) := by decide +kernel
theorem dX1_reachFromOutlets_63 : decode cX1_reachFromOutlets 63 = .ok (.iastore, 1) := by decide +kernel
theorem dX1_reachFromOutlets_64 : decode cX1_reachFromOutlets 64 = .ok (.iinc 1 1, 3) := by decide +kernel
theorem dX1_reachFromOutlets_67 : decode cX1_reachFromOutlets 67 = .ok (.iinc 2 1, 3) := by decide +kernel
theorem dX1_reachFromOutlets_70 : decode cX1_reachFromOutlets 70 = .ok (.goto (-66), 3) := by decide +kernel
theorem dX1_reachFromOutlets_73 : decode cX1_reachFromOutlets 73 = .ok (.iconst 0, 1) := by decide +kernel
theorem dX1_reachFromOutlets_74 : decode cX1_reachFromOutlets 74 = .ok (.istore_n 2, 1) := by decide +kernel
theorem dX1_reachFromOutlets_75 : decode cX1_reachFromOutlets 75 = .ok (.iload_n 2, 1) := by decide +kernel
theorem dX1_reachFromOutlets_76 : decode cX1_reachFromOutlets 76 = .ok (.iload_n 1, 1) := by decide +kernel
theorem dX1_reachFromOutlets_77 : decode cX1_reachFromOutlets 77 = .ok (.if_icmp .ge 27, 3) := by decide +kernel
theorem dX1_reachFromOutlets_80 : decode cX1_reachFromOutlets 80 = .ok (.iload_n 2, 1) := by decide +kernel
theorem dX1_reachFromOutlets_81 : decode cX1_reachFromOutlets 81 = .ok (.bipush 120, 2) := by decide +kernel
theorem dX1_reachFromOutlets_83 : decode cX1_reachFromOutlets 83 = .ok (.if_icmp .ge 21, 3) := by decide +kernel
theorem dX1_reachFromOutlets_86 : decode cX1_reachFromOutlets 86 = .ok (.aload_n 0, 1) := by decide +kernel
theorem dX1_reachFromOutlets_87 : decode cX1_reachFromOutlets 87 = .ok (.aload_n 0, 1) := by decide +kernel
theorem dX1_reachFromOutlets_88 : decode cX1_reachFromOutlets 88 = .ok (.getfield 42, 3) := by decide +kernel
theorem dX1_reachFromOutlets_91 : decode cX1_reachFromOutlets 91 = .ok (.iload_n 2, 1) := by decide +kernel
theorem dX1_reachFromOutlets_92 : decode cX1_reachFromOutlets 92 = .ok (.iaload, 1) := by decide +kernel
theorem dX1_reachFromOutlets_93 : decode cX1_reachFromOutlets 93 = .ok (.iload_n 1, 1) := by decide +kernel
theorem dX1_reachFromOutlets_94 : decode cX1_reachFromOutlets 94 = .ok (.invokevirtual 135, 3) := by decide +kernel
theorem dX1_reachFromOutlets_97 : decode cX1_reachFromOutlets 97 = .ok (.istore_n 1, 1) := by decide +kernel
theorem dX1_reachFromOutlets_98 : decode cX1_reachFromOutlets 98 = .ok (.iinc 2 1, 3) := by decide +kernel
theorem dX1_reachFromOutlets_101 : decode cX1_reachFromOutlets 101 = .ok (.goto (-26), 3) := by decide +kernel
theorem dX1_reachFromOutlets_104 : decode cX1_reachFromOutlets 104 = .ok (.return_, 1) := by decide +kernel
theorem dX1_reachAround_0 : decode cX1_reachAround 0 = .ok (.iload_n 2, 1) := by decide +kernel
theorem dX1_reachAround_1 : decode cX1_reachAround 1 = .ok (.istore_n 3, 1) := by decide +kernel
theorem dX1_reachAround_2 : decode cX1_reachAround 2 = .ok (.aload_n 0, 1) := by decide +kernel
theorem dX1_reachAround_3 : decode cX1_reachAround 3 = .ok (.getfield 49, 3) := by decide +kernel
theorem dX1_reachAround_6 : decode cX1_reachAround 6 = .ok (.getfield 105, 3) := by decide +kernel
theorem dX1_reachAround_9 : decode cX1_reachAround 9 = .ok (.iload_n 1, 1) := by decide +kernel
theorem dX1_reachAround_10 : decode cX1_reachAround 10 = .ok (.iaload, 1) := by decide +kernel
theorem dX1_reachAround_11 : decode cX1_reachAround 11 = .ok (.istore 4, 2) := by decide +kernel
theorem dX1_reachAround_13 : decode cX1_reachAround 13 = .ok (.iload 4, 2) := by decide +kernel
theorem dX1_reachAround_15 : decode cX1_reachAround 15 = .ok (.aload_n 0, 1) := by decide +kernel
theorem dX1_reachAround_16 : decode cX1_reachAround 16 = .ok (.getfield 49, 3) := by decide +kernel
theorem dX1_reachAround_19 : decode cX1_reachAround 19 = .ok (.getfield 105, 3) := by decide +kernel
theorem dX1_reachAround_22 : decode cX1_reachAround 22 = .ok (.iload_n 1, 1) := by decide +kernel
theorem dX1_reachAround_23 : decode cX1_reachAround 23 = .ok (.iconst 1, 1) := by decide +kernel
theorem dX1_reachAround_24 : decode cX1_reachAround 24 = .ok (.iadd, 1) := by decide +kernel
theorem dX1_reachAround_25 : decode cX1_reachAround 25 = .ok (.iaload, 1) := by decide +kernel
theorem dX1_reachAround_26 : decode cX1_reachAround 26 = .ok (.if_icmp .ge 88, 3) := by decide +kernel
theorem dX1_reachAround_29 : decode cX1_reachAround 29 = .ok (.aload_n 0, 1) := by decide +kernel
theorem dX1_reachAround_30 : decode cX1_reachAround 30 = .ok (.getfield 49, 3) := by decide +kernel
theorem dX1_reachAround_33 : decode cX1_reachAround 33 = .ok (.aload_n 0, 1) := by decide +kernel
theorem dX1_reachAround_34 : decode cX1_reachAround 34 = .ok (.getfield 49, 3) := by decide +kernel
theorem dX1_reachAround_37 : decode cX1_reachAround 37 = .ok (.getfield 108, 3) := by decide +kernel
theorem dX1_reachAround_40 : decode cX1_reachAround 40 = .ok (.iload 4, 2) := by decide +kernel
theorem dX1_reachAround_42 : decode cX1_reachAround 42 = .ok (.iaload, 1) := by decide +kernel
theorem dX1_reachAround_43 : decode cX1_reachAround 43 = .ok (.iload_n 1, 1) := by decide +kernel
theorem dX1_reachAround_44 : decode cX1_reachAround 44 = .ok (.invokevirtual 139, 3) := by decide +kernel
theorem dX1_reachAround_47 : decode cX1_reachAround 47 = .ok (.istore 5, 2) := by decide +kernel
theorem dX1_reachAround_49 : decode cX1_reachAround 49 = .ok (.aload_n 0, 1) := by decide +kernel
theorem dX1_reachAround_50 : decode cX1_reachAround 50 = .ok (.getfield 49, 3) := by decide +kernel
theorem dX1_reachAround_53 : decode cX1_reachAround 53 = .ok (.aload_n 0, 1) := by decide +kernel
theorem dX1_reachAround_54 : decode cX1_reachAround 54 = .ok (.getfield 49, 3) := by decide +kernel
theorem dX1_reachAround_57 : decode cX1_reachAround 57 = .ok (.getfield 108, 3) := by decide +kernel
theorem dX1_reachAround_60 : decode cX1_reachAround 60 = .ok (.iload 4, 2) := by decide +kernel
theorem dX1_reachAround_62 : decode cX1_reachAround 62 = .ok (.iaload, 1) := by decide +kernel
theorem dX1_reachAround_63 : decode cX1_reachAround 63 = .ok (.invokevirtual 111, 3) := by decide +kernel
theorem dX1_reachAround_66 : decode cX1_reachAround 66 = .ok (.ifCond .eq 42, 3) := by decide +kernel
theorem dX1_reachAround_69 : decode cX1_reachAround 69 = .ok (.aload_n 0, 1) := by decide +kernel
theorem dX1_reachAround_70 : decode cX1_reachAround 70 = .ok (.getfield 18, 3) := by decide +kernel
theorem dX1_reachAround_73 : decode cX1_reachAround 73 = .ok (.iload 5, 2) := by decide +kernel
theorem dX1_reachAround_75 : decode cX1_reachAround 75 = .ok (.iaload, 1) := by decide +kernel
theorem dX1_reachAround_76 : decode cX1_reachAround 76 = .ok (.ifCond .ge 32, 3) := by decide +kernel
theorem dX1_reachAround_79 : decode cX1_reachAround 79 = .ok (.aload_n 0, 1) := by decide +kernel
theorem dX1_reachAround_80 : decode cX1_reachAround 80 = .ok (.getfield 45, 3) := by decide +kernel
theorem dX1_reachAround_83 : decode cX1_reachAround 83 = .ok (.iload 5, 2) := by decide +kernel
theorem dX1_reachAround_85 : decode cX1_reachAround 85 = .ok (.baload, 1) := by decide +kernel
theorem dX1_reachAround_86 : decode cX1_reachAround 86 = .ok (.ifCond .ne 22, 3) := by decide +kernel
theorem dX1_reachAround_89 : decode cX1_reachAround 89 = .ok (.aload_n 0, 1) := by decide +kernel
theorem dX1_reachAround_90 : decode cX1_reachAround 90 = .ok (.getfield 45, 3) := by decide +kernel
theorem dX1_reachAround_93 : decode cX1_reachAround 93 = .ok (.iload 5, 2) := by decide +kernel
theorem dX1_reachAround_95 : decode cX1_reachAround 95 = .ok (.iconst 1, 1) := by decide +kernel
theorem dX1_reachAround_96 : decode cX1_reachAround 96 = .ok (.bastore, 1) := by decide +kernel
theorem dX1_reachAround_97 : decode cX1_reachAround 97 = .ok (.aload_n 0, 1) := by decide +kernel
theorem dX1_reachAround_98 : decode cX1_reachAround 98 = .ok (.getfield 42, 3) := by decide +kernel
theorem dX1_reachAround_101 : decode cX1_reachAround 101 = .ok (.iload_n 3, 1) := by decide +kernel
theorem dX1_reachAround_102 : decode cX1_reachAround 102 = .ok (.iload 5, 2) := by decide +kernel
theorem dX1_reachAround_104 : decode cX1_reachAround 104 = .ok (.iastore, 1) := by decide +kernel
theorem dX1_reachAround_105 : decode cX1_reachAround 105 = .ok (.iinc 3 1, 3) := by decide +kernel
theorem dX1_reachAround_108 : decode cX1_reachAround 108 = .ok (.iinc 4 1, 3) := by decide +kernel
theorem dX1_reachAround_111 : decode cX1_reachAround 111 = .ok (.goto (-98), 3) := by decide +kernel
theorem dX1_reachAround_114 : decode cX1_reachAround 114 = .ok (.iload_n 3, 1) := by decide +kernel
theorem dX1_reachAround_115 : decode cX1_reachAround 115 = .ok (.ireturn, 1) := by decide +kernel
theorem dX1_addLake_0 : decode cX1_addLake 0 = .ok (.aload_n 0, 1) := by decide +kernel
theorem dX1_addLake_1 : decode cX1_addLake 1 = .ok (.getfield 27, 3) := by decide +kernel
theorem dX1_addLake_4 : decode cX1_addLake 4 = .ok (.iload_n 1, 1) := by decide +kernel
theorem dX1_addLake_5 : decode cX1_addLake 5 = .ok (.aload_n 0, 1) := by decide +kernel
theorem dX1_addLake_6 : decode cX1_addLake 6 = .ok (.getfield 61, 3) := by decide +kernel
theorem dX1_addLake_9 : decode cX1_addLake 9 = .ok (.iastore, 1) := by decide +kernel
theorem dX1_addLake_10 : decode cX1_addLake 10 = .ok (.aload_n 0, 1) := by decide +kernel
theorem dX1_addLake_11 : decode cX1_addLake 11 = .ok (.getfield 42, 3) := by decide +kernel
theorem dX1_addLake_14 : decode cX1_addLake 14 = .ok (.iconst 0, 1) := by decide +kernel
theorem dX1_addLake_15 : decode cX1_addLake 15 = .ok (.iload_n 1, 1) := by decide +kernel
theorem dX1_addLake_16 : decode cX1_addLake 16 = .ok (.iastore, 1) := by decide +kernel
theorem dX1_addLake_17 : decode cX1_addLake 17 = .ok (.iconst 1, 1) := by decide +kernel
theorem dX1_addLake_18 : decode cX1_addLake 18 = .ok (.istore_n 2, 1) := by decide +kernel
theorem dX1_addLake_19 : decode cX1_addLake 19 = .ok (.iconst 0, 1) := by decide +kernel
theorem dX1_addLake_20 : decode cX1_addLake 20 = .ok (.istore_n 3, 1) := by decide +kernel
theorem dX1_addLake_21 : decode cX1_addLake 21 = .ok (.iload_n 3, 1) := by decide +kernel
theorem dX1_addLake_22 : decode cX1_addLake 22 = .ok (.iload_n 2, 1) := by decide +kernel
theorem dX1_addLake_23 : decode cX1_addLake 23 = .ok (.if_icmp .ge 27, 3) := by decide +kernel
theorem dX1_addLake_26 : decode cX1_addLake 26 = .ok (.iload_n 3, 1) := by decide +kernel
theorem dX1_addLake_27 : decode cX1_addLake 27 = .ok (.bipush 120, 2) := by decide +kernel
theorem dX1_addLake_29 : decode cX1_addLake 29 = .ok (.if_icmp .ge 21, 3) := by decide +kernel
theorem dX1_addLake_32 : decode cX1_addLake 32 = .ok (.aload_n 0, 1) := by decide +kernel
theorem dX1_addLake_33 : decode cX1_addLake 33 = .ok (.aload_n 0, 1) := by decide +kernel
theorem dX1_addLake_34 : decode cX1_addLake 34 = .ok (.getfield 42, 3) := by decide +kernel
theorem dX1_addLake_37 : decode cX1_addLake 37 = .ok (.iload_n 3, 1) := by decide +kernel
theorem dX1_addLake_38 : decode cX1_addLake 38 = .ok (.iaload, 1) := by decide +kernel
theorem dX1_addLake_39 : decode cX1_addLake 39 = .ok (.iload_n 2, 1) := by decide +kernel
theorem dX1_addLake_40 : decode cX1_addLake 40 = .ok (.invokevirtual 142, 3) := by decide +kernel
theorem dX1_addLake_43 : decode cX1_addLake 43 = .ok (.istore_n 2, 1) := by decide +kernel
theorem dX1_addLake_44 : decode cX1_addLake 44 = .ok (.iinc 3 1, 3) := by decide +kernel
theorem dX1_addLake_47 : decode cX1_addLake 47 = .ok (.goto (-26), 3) := by decide +kernel
theorem dX1_addLake_50 : decode cX1_addLake 50 = .ok (.aload_n 0, 1) := by decide +kernel
theorem dX1_addLake_51 : decode cX1_addLake 51 = .ok (.getfield 30, 3) := by decide +kernel
theorem dX1_addLake_54 : decode cX1_addLake 54 = .ok (.aload_n 0, 1) := by decide +kernel
theorem dX1_addLake_55 : decode cX1_addLake 55 = .ok (.getfield 61, 3) := by decide +kernel
theorem dX1_addLake_58 : decode cX1_addLake 58 = .ok (.aload_n 0, 1) := by decide +kernel
theorem dX1_addLake_59 : decode cX1_addLake 59 = .ok (.getfield 57, 3) := by decide +kernel
theorem dX1_addLake_62 : decode cX1_addLake 62 = .ok (.iastore, 1) := by decide +kernel
theorem dX1_addLake_63 : decode cX1_addLake 63 = .ok (.aload_n 0, 1) := by decide +kernel
theorem dX1_addLake_64 : decode cX1_addLake 64 = .ok (.getfield 33, 3) := by decide +kernel
theorem dX1_addLake_67 : decode cX1_addLake 67 = .ok (.aload_n 0, 1) := by decide +kernel
theorem dX1_addLake_68 : decode cX1_addLake 68 = .ok (.getfield 61, 3) := by decide +kernel
theorem dX1_addLake_71 : decode cX1_addLake 71 = .ok (.iload_n 2, 1) := by decide +kernel
theorem dX1_addLake_72 : decode cX1_addLake 72 = .ok (.iastore, 1) := by decide +kernel
theorem dX1_addLake_73 : decode cX1_addLake 73 = .ok (.aload_n 0, 1) := by decide +kernel
theorem dX1_addLake_74 : decode cX1_addLake 74 = .ok (.getfield 36, 3) := by decide +kernel
theorem dX1_addLake_77 : decode cX1_addLake 77 = .ok (.aload_n 0, 1) := by decide +kernel
theorem dX1_addLake_78 : decode cX1_addLake 78 = .ok (.getfield 61, 3) := by decide +kernel
theorem dX1_addLake_81 : decode cX1_addLake 81 = .ok (.iload_n 1, 1) := by decide +kernel
theorem dX1_addLake_82 : decode cX1_addLake 82 = .ok (.iastore, 1) := by decide +kernel
theorem dX1_addLake_83 : decode cX1_addLake 83 = .ok (.aload_n 0, 1) := by decide +kernel
theorem dX1_addLake_84 : decode cX1_addLake 84 = .ok (.getfield 39, 3) := by decide +kernel
theorem dX1_addLake_87 : decode cX1_addLake 87 = .ok (.aload_n 0, 1) := by decide +kernel
theorem dX1_addLake_88 : decode cX1_addLake 88 = .ok (.getfield 61, 3) := by decide +kernel
theorem dX1_addLake_91 : decode cX1_addLake 91 = .ok (.aload_n 0, 1) := by decide +kernel
theorem dX1_addLake_92 : decode cX1_addLake 92 = .ok (.invokevirtual 145, 3) := by decide +kernel
theorem dX1_addLake_95 : decode cX1_addLake 95 = .ok (.iastore, 1) := by decide +kernel
theorem dX1_addLake_96 : decode cX1_addLake 96 = .ok (.aload_n 0, 1) := by decide +kernel
theorem dX1_addLake_97 : decode cX1_addLake 97 = .ok (.dup, 1) := by decide +kernel
theorem dX1_addLake_98 : decode cX1_addLake 98 = .ok (.getfield 61, 3) := by decide +kernel
theorem dX1_addLake_101 : decode cX1_addLake 101 = .ok (.iconst 1, 1) := by decide +kernel
theorem dX1_addLake_102 : decode cX1_addLake 102 = .ok (.iadd, 1) := by decide +kernel
theorem dX1_addLake_103 : decode cX1_addLake 103 = .ok (.putfield 61, 3) := by decide +kernel
theorem dX1_addLake_106 : decode cX1_addLake 106 = .ok (.return_, 1) := by decide +kernel
theorem dX1_drownAround_0 : decode cX1_drownAround 0 = .ok (.iload_n 2, 1) := by decide +kernel
theorem dX1_drownAround_1 : decode cX1_drownAround 1 = .ok (.istore_n 3, 1) := by decide +kernel
theorem dX1_drownAround_2 : decode cX1_drownAround 2 = .ok (.aload_n 0, 1) := by decide +kernel
theorem dX1_drownAround_3 : decode cX1_drownAround 3 = .ok (.getfield 49, 3) := by decide +kernel
theorem dX1_drownAround_6 : decode cX1_drownAround 6 = .ok (.getfield 105, 3) := by decide +kernel
theorem dX1_drownAround_9 : decode cX1_drownAround 9 = .ok (.iload_n 1, 1) := by decide +kernel
theorem dX1_drownAround_10 : decode cX1_drownAround 10 = .ok (.iaload, 1) := by decide +kernel
theorem dX1_drownAround_11 : decode cX1_drownAround 11 = .ok (.istore 4, 2) := by decide +kernel
theorem dX1_drownAround_13 : decode cX1_drownAround 13 = .ok (.iload 4, 2) := by decide +kernel
theorem dX1_drownAround_15 : decode cX1_drownAround 15 = .ok (.aload_n 0, 1) := by decide +kernel
theorem dX1_drownAround_16 : decode cX1_drownAround 16 = .ok (.getfield 49, 3) := by decide +kernel
theorem dX1_drownAround_19 : decode cX1_drownAround 19 = .ok (.getfield 105, 3) := by decide +kernel
theorem dX1_drownAround_22 : decode cX1_drownAround 22 = .ok (.iload_n 1, 1) := by decide +kernel
theorem dX1_drownAround_23 : decode cX1_drownAround 23 = .ok (.iconst 1, 1) := by decide +kernel
theorem dX1_drownAround_24 : decode cX1_drownAround 24 = .ok (.iadd, 1) := by decide +kernel
theorem dX1_drownAround_25 : decode cX1_drownAround 25 = .ok (.iaload, 1) := by decide +kernel
theorem dX1_drownAround_26 : decode cX1_drownAround 26 = .ok (.if_icmp .ge 95, 3) := by decide +kernel
theorem dX1_drownAround_29 : decode cX1_drownAround 29 = .ok (.aload_n 0, 1) := by decide +kernel
theorem dX1_drownAround_30 : decode cX1_drownAround 30 = .ok (.getfield 49, 3) := by decide +kernel
theorem dX1_drownAround_33 : decode cX1_drownAround 33 = .ok (.aload_n 0, 1) := by decide +kernel
theorem dX1_drownAround_34 : decode cX1_drownAround 34 = .ok (.getfield 49, 3) := by decide +kernel
theorem dX1_drownAround_37 : decode cX1_drownAround 37 = .ok (.getfield 108, 3) := by decide +kernel
theorem dX1_drownAround_40 : decode cX1_drownAround 40 = .ok (.iload 4, 2) := by decide +kernel
theorem dX1_drownAround_42 : decode cX1_drownAround 42 = .ok (.iaload, 1) := by decide +kernel
theorem dX1_drownAround_43 : decode cX1_drownAround 43 = .ok (.iload_n 1, 1) := by decide +kernel
theorem dX1_drownAround_44 : decode cX1_drownAround 44 = .ok (.invokevirtual 139, 3) := by decide +kernel
theorem dX1_drownAround_47 : decode cX1_drownAround 47 = .ok (.istore 5, 2) := by decide +kernel
theorem dX1_drownAround_49 : decode cX1_drownAround 49 = .ok (.aload_n 0, 1) := by decide +kernel
theorem dX1_drownAround_50 : decode cX1_drownAround 50 = .ok (.getfield 49, 3) := by decide +kernel
theorem dX1_drownAround_53 : decode cX1_drownAround 53 = .ok (.aload_n 0, 1) := by decide +kernel
theorem dX1_drownAround_54 : decode cX1_drownAround 54 = .ok (.getfield 49, 3) := by decide +kernel
theorem dX1_drownAround_57 : decode cX1_drownAround 57 = .ok (.getfield 108, 3) := by decide +kernel
theorem dX1_drownAround_60 : decode cX1_drownAround 60 = .ok (.iload 4, 2) := by decide +kernel
theorem dX1_drownAround_62 : decode cX1_drownAround 62 = .ok (.iaload, 1) := by decide +kernel
theorem dX1_drownAround_63 : decode cX1_drownAround 63 = .ok (.invokevirtual 111, 3) := by decide +kernel
theorem dX1_drownAround_66 : decode cX1_drownAround 66 = .ok (.ifCond .eq 49, 3) := by decide +kernel
theorem dX1_drownAround_69 : decode cX1_drownAround 69 = .ok (.aload_n 0, 1) := by decide +kernel
theorem dX1_drownAround_70 : decode cX1_drownAround 70 = .ok (.getfield 24, 3) := by decide +kernel
theorem dX1_drownAround_73 : decode cX1_drownAround 73 = .ok (.iload 5, 2) := by decide +kernel
theorem dX1_drownAround_75 : decode cX1_drownAround 75 = .ok (.iaload, 1) := by decide +kernel
theorem dX1_drownAround_76 : decode cX1_drownAround 76 = .ok (.aload_n 0, 1) := by decide +kernel
theorem dX1_drownAround_77 : decode cX1_drownAround 77 = .ok (.getfield 57, 3) := by decide +kernel
theorem dX1_drownAround_80 : decode cX1_drownAround 80 = .ok (.if_icmp .ne 35, 3) := by decide +kernel
theorem dX1_drownAround_83 : decode cX1_drownAround 83 = .ok (.aload_n 0, 1) := by decide +kernel
theorem dX1_drownAround_84 : decode cX1_drownAround 84 = .ok (.getfield 27, 3) := by decide +kernel
theorem dX1_drownAround_87 : decode cX1_drownAround 87 = .ok (.iload 5, 2) := by decide +kernel
theorem dX1_drownAround_89 : decode cX1_drownAround 89 = .ok (.iaload, 1) := by decide +kernel
theorem dX1_drownAround_90 : decode cX1_drownAround 90 = .ok (.ifCond .ge 25, 3) := by decide +kernel
theorem dX1_drownAround_93 : decode cX1_drownAround 93 = .ok (.aload_n 0, 1) := by decide +kernel
theorem dX1_drownAround_94 : decode cX1_drownAround 94 = .ok (.getfield 27, 3) := by decide +kernel
theorem dX1_drownAround_97 : decode cX1_drownAround 97 = .ok (.iload 5, 2) := by decide +kernel
theorem dX1_drownAround_99 : decode cX1_drownAround 99 = .ok (.aload_n 0, 1) := by decide +kernel
theorem dX1_drownAround_100 : decode cX1_drownAround 100 = .ok (.getfield 61, 3) := by decide +kernel
theorem dX1_drownAround_103 : decode cX1_drownAround 103 = .ok (.iastore, 1) := by decide +kernel
theorem dX1_drownAround_104 : decode cX1_drownAround 104 = .ok (.aload_n 0, 1) := by decide +kernel
theorem dX1_drownAround_105 : decode cX1_drownAround 105 = .ok (.getfield 42, 3) := by decide +kernel
theorem dX1_drownAround_108 : decode cX1_drownAround 108 = .ok (.iload_n 3, 1) := by decide +kernel
theorem dX1_drownAround_109 : decode cX1_drownAround 109 = .ok (.iload 5, 2) := by decide +kernel
theorem dX1_drownAround_111 : decode cX1_drownAround 111 = .ok (.iastore, 1) := by decide +kernel
theorem dX1_drownAround_112 : decode cX1_drownAround 112 = .ok (.iinc 3 1, 3) := by decide +kernel
theorem dX1_drownAround_115 : decode cX1_drownAround 115 = .ok (.iinc 4 1, 3) := by decide +kernel
theorem dX1_drownAround_118 : decode cX1_drownAround 118 = .ok (.goto (-105), 3) := by decide +kernel
theorem dX1_drownAround_121 : decode cX1_drownAround 121 = .ok (.iload_n 3, 1) := by decide +kernel
theorem dX1_drownAround_122 : decode cX1_drownAround 122 = .ok (.ireturn, 1) := by decide +kernel
theorem dX1_greatestRankOpened_0 : decode cX1_greatestRankOpened 0 = .ok (.iconst (-1), 1) := by decide +kernel
theorem dX1_greatestRankOpened_1 : decode cX1_greatestRankOpened 1 = .ok (.istore_n 1, 1) := by decide +kernel
theorem dX1_greatestRankOpened_2 : decode cX1_greatestRankOpened 2 = .ok (.iconst 1, 1) := by decide +kernel
theorem dX1_greatestRankOpened_3 : decode cX1_greatestRankOpened 3 = .ok (.istore_n 2, 1) := by decide +kernel
theorem dX1_greatestRankOpened_4 : decode cX1_greatestRankOpened 4 = .ok (.iload_n 2, 1) := by decide +kernel
theorem dX1_greatestRankOpened_5 : decode cX1_greatestRankOpened 5 = .ok (.aload_n 0, 1) := by decide +kernel
theorem dX1_greatestRankOpened_6 : decode cX1_greatestRankOpened 6 = .ok (.getfield 57, 3) := by decide +kernel
theorem dX1_greatestRankOpened_9 : decode cX1_greatestRankOpened 9 = .ok (.if_icmp .gt 28, 3) := by decide +kernel
theorem dX1_greatestRankOpened_12 : decode cX1_greatestRankOpened 12 = .ok (.iload_n 1, 1) := by decide +kernel
theorem dX1_greatestRankOpened_13 : decode cX1_greatestRankOpened 13 = .ok (.aload_n 0, 1) := by decide +kernel
theorem dX1_greatestRankOpened_14 : decode cX1_greatestRankOpened 14 = .ok (.getfield 49, 3) := by decide +kernel
theorem dX1_greatestRankOpened_17 : decode cX1_greatestRankOpened 17 = .ok (.getfield 118, 3) := by decide +kernel
theorem dX1_greatestRankOpened_20 : decode cX1_greatestRankOpened 20 = .ok (.aload_n 0, 1) := by decide +kernel
theorem dX1_greatestRankOpened_21 : decode cX1_greatestRankOpened 21 = .ok (.getfield 9, 3) := by decide +kernel
theorem dX1_greatestRankOpened_24 : decode cX1_greatestRankOpened 24 = .ok (.iload_n 2, 1) := by decide +kernel
theorem dX1_greatestRankOpened_25 : decode cX1_greatestRankOpened 25 = .ok (.iaload, 1) := by decide +kernel
theorem dX1_greatestRankOpened_26 : decode cX1_greatestRankOpened 26 = .ok (.iaload, 1) := by decide +kernel
theorem dX1_greatestRankOpened_27 : decode cX1_greatestRankOpened 27 = .ok (.invokestatic 148, 3) := by decide +kernel
theorem dX1_greatestRankOpened_30 : decode cX1_greatestRankOpened 30 = .ok (.istore_n 1, 1) := by decide +kernel
theorem dX1_greatestRankOpened_31 : decode cX1_greatestRankOpened 31 = .ok (.iinc 2 1, 3) := by decide +kernel
theorem dX1_greatestRankOpened_34 : decode cX1_greatestRankOpened 34 = .ok (.goto (-30), 3) := by decide +kernel
theorem dX1_greatestRankOpened_37 : decode cX1_greatestRankOpened 37 = .ok (.iload_n 1, 1) := by decide +kernel
theorem dX1_greatestRankOpened_38 : decode cX1_greatestRankOpened 38 = .ok (.ireturn, 1) := by decide +kernel
theorem dX2_init_0 : decode cX2_init 0 = .ok (.aload_n 0, 1) := by decide +kernel
theorem dX2_init_1 : decode cX2_init 1 = .ok (.invokespecial 3, 3) := by decide +kernel
theorem dX2_init_4 : decode cX2_init 4 = .ok (.aload_n 0, 1) := by decide +kernel
theorem dX2_init_5 : decode cX2_init 5 = .ok (.bipush 120, 2) := by decide +kernel
theorem dX2_init_7 : decode cX2_init 7 = .ok (.newarray .int, 2) := by decide +kernel
theorem dX2_init_9 : decode cX2_init 9 = .ok (.putfield 9, 3) := by decide +kernel
theorem dX2_init_12 : decode cX2_init 12 = .ok (.aload_n 0, 1) := by decide +kernel
theorem dX2_init_13 : decode cX2_init 13 = .ok (.bipush 120, 2) := by decide +kernel
