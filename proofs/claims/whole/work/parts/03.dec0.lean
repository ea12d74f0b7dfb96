theorem dX0_init_0 : decode cX0_init 0 = .ok (.aload_n 0, 1) := by decide +kernel
theorem dX0_init_1 : decode cX0_init 1 = .ok (.invokespecial 3, 3) := by decide +kernel
theorem dX0_init_4 : decode cX0_init 4 = .ok (.aload_n 0, 1) := by decide +kernel
theorem dX0_init_5 : decode cX0_init 5 = .ok (.bipush 12, 2) := by decide +kernel
theorem dX0_init_7 : decode cX0_init 7 = .ok (.newarray .long, 2) := by decide +kernel
theorem dX0_init_9 : decode cX0_init 9 = .ok (.putfield 9, 3) := by decide +kernel
theorem dX0_init_12 : decode cX0_init 12 = .ok (.aload_n 0, 1) := by decide +kernel
theorem dX0_init_13 : decode cX0_init 13 = .ok (.bipush 12, 2) := by decide +kernel
theorem dX0_init_15 : decode cX0_init 15 = .ok (.newarray .int, 2) := by decide +kernel
theorem dX0_init_17 : decode cX0_init 17 = .ok (.putfield 15, 3) := by decide +kernel
theorem dX0_init_20 : decode cX0_init 20 = .ok (.return_, 1) := by decide +kernel
theorem dX0_renew_0 : decode cX0_renew 0 = .ok (.aload_n 0, 1) := by decide +kernel
theorem dX0_renew_1 : decode cX0_renew 1 = .ok (.iload_n 1, 1) := by decide +kernel
theorem dX0_renew_2 : decode cX0_renew 2 = .ok (.putfield 19, 3) := by decide +kernel
theorem dX0_renew_5 : decode cX0_renew 5 = .ok (.aload_n 0, 1) := by decide +kernel
theorem dX0_renew_6 : decode cX0_renew 6 = .ok (.iload_n 2, 1) := by decide +kernel
theorem dX0_renew_7 : decode cX0_renew 7 = .ok (.putfield 23, 3) := by decide +kernel
theorem dX0_renew_10 : decode cX0_renew 10 = .ok (.iconst 0, 1) := by decide +kernel
theorem dX0_renew_11 : decode cX0_renew 11 = .ok (.istore_n 3, 1) := by decide +kernel
theorem dX0_renew_12 : decode cX0_renew 12 = .ok (.iload_n 3, 1) := by decide +kernel
theorem dX0_renew_13 : decode cX0_renew 13 = .ok (.bipush 12, 2) := by decide +kernel
theorem dX0_renew_15 : decode cX0_renew 15 = .ok (.if_icmp .ge 24, 3) := by decide +kernel
theorem dX0_renew_18 : decode cX0_renew 18 = .ok (.aload_n 0, 1) := by decide +kernel
theorem dX0_renew_19 : decode cX0_renew 19 = .ok (.getfield 9, 3) := by decide +kernel
theorem dX0_renew_22 : decode cX0_renew 22 = .ok (.iload_n 3, 1) := by decide +kernel
theorem dX0_renew_23 : decode cX0_renew 23 = .ok (.lconst 0, 1) := by decide +kernel
theorem dX0_renew_24 : decode cX0_renew 24 = .ok (.lastore, 1) := by decide +kernel
theorem dX0_renew_25 : decode cX0_renew 25 = .ok (.aload_n 0, 1) := by decide +kernel
theorem dX0_renew_26 : decode cX0_renew 26 = .ok (.getfield 15, 3) := by decide +kernel
theorem dX0_renew_29 : decode cX0_renew 29 = .ok (.iload_n 3, 1) := by decide +kernel
theorem dX0_renew_30 : decode cX0_renew 30 = .ok (.bipush 64, 2) := by decide +kernel
theorem dX0_renew_32 : decode cX0_renew 32 = .ok (.iastore, 1) := by decide +kernel
theorem dX0_renew_33 : decode cX0_renew 33 = .ok (.iinc 3 1, 3) := by decide +kernel
theorem dX0_renew_36 : decode cX0_renew 36 = .ok (.goto (-24), 3) := by decide +kernel
theorem dX0_renew_39 : decode cX0_renew 39 = .ok (.return_, 1) := by decide +kernel
theorem dX0_kindTaken_0 : decode cX0_kindTaken 0 = .ok (.aload_n 0, 1) := by decide +kernel
theorem dX0_kindTaken_1 : decode cX0_kindTaken 1 = .ok (.getfield 19, 3) := by decide +kernel
theorem dX0_kindTaken_4 : decode cX0_kindTaken 4 = .ok (.iconst 4, 1) := by decide +kernel
theorem dX0_kindTaken_5 : decode cX0_kindTaken 5 = .ok (.if_icmp .ge 7, 3) := by decide +kernel
theorem dX0_kindTaken_8 : decode cX0_kindTaken 8 = .ok (.iconst 0, 1) := by decide +kernel
theorem dX0_kindTaken_9 : decode cX0_kindTaken 9 = .ok (.goto 9, 3) := by decide +kernel
theorem dX0_kindTaken_12 : decode cX0_kindTaken 12 = .ok (.aload_n 0, 1) := by decide +kernel
theorem dX0_kindTaken_13 : decode cX0_kindTaken 13 = .ok (.getfield 19, 3) := by decide +kernel
theorem dX0_kindTaken_16 : decode cX0_kindTaken 16 = .ok (.iconst 4, 1) := by decide +kernel
theorem dX0_kindTaken_17 : decode cX0_kindTaken 17 = .ok (.isub, 1) := by decide +kernel
theorem dX0_kindTaken_18 : decode cX0_kindTaken 18 = .ok (.ireturn, 1) := by decide +kernel
theorem dX0_hasRun_0 : decode cX0_hasRun 0 = .ok (.iload_n 1, 1) := by decide +kernel
theorem dX0_hasRun_1 : decode cX0_hasRun 1 = .ok (.ifCond .lt 25, 3) := by decide +kernel
theorem dX0_hasRun_4 : decode cX0_hasRun 4 = .ok (.iload_n 2, 1) := by decide +kernel
theorem dX0_hasRun_5 : decode cX0_hasRun 5 = .ok (.ifCond .lt 21, 3) := by decide +kernel
theorem dX0_hasRun_8 : decode cX0_hasRun 8 = .ok (.iload_n 1, 1) := by decide +kernel
theorem dX0_hasRun_9 : decode cX0_hasRun 9 = .ok (.i2l, 1) := by decide +kernel
theorem dX0_hasRun_10 : decode cX0_hasRun 10 = .ok (.iload_n 2, 1) := by decide +kernel
theorem dX0_hasRun_11 : decode cX0_hasRun 11 = .ok (.i2l, 1) := by decide +kernel
theorem dX0_hasRun_12 : decode cX0_hasRun 12 = .ok (.ladd, 1) := by decide +kernel
theorem dX0_hasRun_13 : decode cX0_hasRun 13 = .ok (.aload_n 0, 1) := by decide +kernel
theorem dX0_hasRun_14 : decode cX0_hasRun 14 = .ok (.getfield 23, 3) := by decide +kernel
theorem dX0_hasRun_17 : decode cX0_hasRun 17 = .ok (.i2l, 1) := by decide +kernel
theorem dX0_hasRun_18 : decode cX0_hasRun 18 = .ok (.lcmp, 1) := by decide +kernel
theorem dX0_hasRun_19 : decode cX0_hasRun 19 = .ok (.ifCond .gt 7, 3) := by decide +kernel
theorem dX0_hasRun_22 : decode cX0_hasRun 22 = .ok (.iconst 1, 1) := by decide +kernel
theorem dX0_hasRun_23 : decode cX0_hasRun 23 = .ok (.goto 4, 3) := by decide +kernel
theorem dX0_hasRun_26 : decode cX0_hasRun 26 = .ok (.iconst 0, 1) := by decide +kernel
theorem dX0_hasRun_27 : decode cX0_hasRun 27 = .ok (.ireturn, 1) := by decide +kernel
theorem dX0_keep_0 : decode cX0_keep 0 = .ok (.aload_n 0, 1) := by decide +kernel
theorem dX0_keep_1 : decode cX0_keep 1 = .ok (.getfield 9, 3) := by decide +kernel
theorem dX0_keep_4 : decode cX0_keep 4 = .ok (.iload_n 1, 1) := by decide +kernel
theorem dX0_keep_5 : decode cX0_keep 5 = .ok (.aload_n 0, 1) := by decide +kernel
theorem dX0_keep_6 : decode cX0_keep 6 = .ok (.lload_n 2, 1) := by decide +kernel
theorem dX0_keep_7 : decode cX0_keep 7 = .ok (.invokevirtual 26, 3) := by decide +kernel
theorem dX0_keep_10 : decode cX0_keep 10 = .ok (.lastore, 1) := by decide +kernel
theorem dX0_keep_11 : decode cX0_keep 11 = .ok (.aload_n 0, 1) := by decide +kernel
theorem dX0_keep_12 : decode cX0_keep 12 = .ok (.getfield 15, 3) := by decide +kernel
theorem dX0_keep_15 : decode cX0_keep 15 = .ok (.iload_n 1, 1) := by decide +kernel
theorem dX0_keep_16 : decode cX0_keep 16 = .ok (.aload_n 0, 1) := by decide +kernel
theorem dX0_keep_17 : decode cX0_keep 17 = .ok (.getfield 19, 3) := by decide +kernel
theorem dX0_keep_20 : decode cX0_keep 20 = .ok (.iconst 4, 1) := by decide +kernel
theorem dX0_keep_21 : decode cX0_keep 21 = .ok (.if_icmp .ge 11, 3) := by decide +kernel
theorem dX0_keep_24 : decode cX0_keep 24 = .ok (.iload 4, 2) := by decide +kernel
theorem dX0_keep_26 : decode cX0_keep 26 = .ok (.invokestatic 30, 3) := by decide +kernel
theorem dX0_keep_29 : decode cX0_keep 29 = .ok (.goto 5, 3) := by decide +kernel
theorem dX0_keep_32 : decode cX0_keep 32 = .ok (.iload 4, 2) := by decide +kernel
theorem dX0_keep_34 : decode cX0_keep 34 = .ok (.iastore, 1) := by decide +kernel
theorem dX0_keep_35 : decode cX0_keep 35 = .ok (.return_, 1) := by decide +kernel
theorem dX0_narrowed_0 : decode cX0_narrowed 0 = .ok (.aload_n 0, 1) := by decide +kernel
theorem dX0_narrowed_1 : decode cX0_narrowed 1 = .ok (.getfield 19, 3) := by decide +kernel
theorem dX0_narrowed_4 : decode cX0_narrowed 4 = .ok (.tableswitch 51 0 3 #[32, 36, 41, 46], 32) := by decide +kernel
theorem dX0_narrowed_36 : decode cX0_narrowed 36 = .ok (.lload_n 1, 1) := by decide +kernel
theorem dX0_narrowed_37 : decode cX0_narrowed 37 = .ok (.lconst 1, 1) := by decide +kernel
theorem dX0_narrowed_38 : decode cX0_narrowed 38 = .ok (.land, 1) := by decide +kernel
theorem dX0_narrowed_39 : decode cX0_narrowed 39 = .ok (.lreturn, 1) := by decide +kernel
theorem dX0_narrowed_40 : decode cX0_narrowed 40 = .ok (.lload_n 1, 1) := by decide +kernel
theorem dX0_narrowed_41 : decode cX0_narrowed 41 = .ok (.l2i, 1) := by decide +kernel
theorem dX0_narrowed_42 : decode cX0_narrowed 42 = .ok (.i2b, 1) := by decide +kernel
theorem dX0_narrowed_43 : decode cX0_narrowed 43 = .ok (.i2l, 1) := by decide +kernel
theorem dX0_narrowed_44 : decode cX0_narrowed 44 = .ok (.lreturn, 1) := by decide +kernel
theorem dX0_narrowed_45 : decode cX0_narrowed 45 = .ok (.lload_n 1, 1) := by decide +kernel
theorem dX0_narrowed_46 : decode cX0_narrowed 46 = .ok (.l2i, 1) := by decide +kernel
theorem dX0_narrowed_47 : decode cX0_narrowed 47 = .ok (.i2c, 1) := by decide +kernel
theorem dX0_narrowed_48 : decode cX0_narrowed 48 = .ok (.i2l, 1) := by decide +kernel
theorem dX0_narrowed_49 : decode cX0_narrowed 49 = .ok (.lreturn, 1) := by decide +kernel
theorem dX0_narrowed_50 : decode cX0_narrowed 50 = .ok (.lload_n 1, 1) := by decide +kernel
theorem dX0_narrowed_51 : decode cX0_narrowed 51 = .ok (.l2i, 1) := by decide +kernel
theorem dX0_narrowed_52 : decode cX0_narrowed 52 = .ok (.i2s, 1) := by decide +kernel
theorem dX0_narrowed_53 : decode cX0_narrowed 53 = .ok (.i2l, 1) := by decide +kernel
theorem dX0_narrowed_54 : decode cX0_narrowed 54 = .ok (.lreturn, 1) := by decide +kernel
theorem dX0_narrowed_55 : decode cX0_narrowed 55 = .ok (.lload_n 1, 1) := by decide +kernel
theorem dX0_narrowed_56 : decode cX0_narrowed 56 = .ok (.lreturn, 1) := by decide +kernel
theorem dX1_withOneNan_0 : decode cX1_withOneNan 0 = .ok (.aload_n 0, 1) := by decide +kernel
theorem dX1_withOneNan_1 : decode cX1_withOneNan 1 = .ok (.lload_n 1, 1) := by decide +kernel
theorem dX1_withOneNan_2 : decode cX1_withOneNan 2 = .ok (.invokevirtual 51, 3) := by decide +kernel
theorem dX1_withOneNan_5 : decode cX1_withOneNan 5 = .ok (.ifCond .eq 10, 3) := by decide +kernel
theorem dX1_withOneNan_8 : decode cX1_withOneNan 8 = .ok (.aload_n 0, 1) := by decide +kernel
theorem dX1_withOneNan_9 : decode cX1_withOneNan 9 = .ok (.getfield 48, 3) := by decide +kernel
theorem dX1_withOneNan_12 : decode cX1_withOneNan 12 = .ok (.goto 4, 3) := by decide +kernel
theorem dX1_withOneNan_15 : decode cX1_withOneNan 15 = .ok (.lload_n 1, 1) := by decide +kernel
theorem dX1_withOneNan_16 : decode cX1_withOneNan 16 = .ok (.lreturn, 1) := by decide +kernel
theorem dX1_negated_0 : decode cX1_negated 0 = .ok (.aload_n 0, 1) := by decide +kernel
theorem dX1_negated_1 : decode cX1_negated 1 = .ok (.lload_n 1, 1) := by decide +kernel
theorem dX1_negated_2 : decode cX1_negated 2 = .ok (.invokevirtual 51, 3) := by decide +kernel
theorem dX1_negated_5 : decode cX1_negated 5 = .ok (.ifCond .eq 10, 3) := by decide +kernel
theorem dX1_negated_8 : decode cX1_negated 8 = .ok (.aload_n 0, 1) := by decide +kernel
theorem dX1_negated_9 : decode cX1_negated 9 = .ok (.getfield 48, 3) := by decide +kernel
theorem dX1_negated_12 : decode cX1_negated 12 = .ok (.goto 9, 3) := by decide +kernel
theorem dX1_negated_15 : decode cX1_negated 15 = .ok (.lload_n 1, 1) := by decide +kernel
theorem dX1_negated_16 : decode cX1_negated 16 = .ok (.aload_n 0, 1) := by decide +kernel
theorem dX1_negated_17 : decode cX1_negated 17 = .ok (.getfield 36, 3) := by decide +kernel
theorem dX1_negated_20 : decode cX1_negated 20 = .ok (.lxor, 1) := by decide +kernel
theorem dX1_negated_21 : decode cX1_negated 21 = .ok (.lreturn, 1) := by decide +kernel
theorem dX1_magnitude_0 : decode cX1_magnitude 0 = .ok (.lload_n 1, 1) := by decide +kernel
theorem dX1_magnitude_1 : decode cX1_magnitude 1 = .ok (.aload_n 0, 1) := by decide +kernel
theorem dX1_magnitude_2 : decode cX1_magnitude 2 = .ok (.getfield 36, 3) := by decide +kernel
theorem dX1_magnitude_5 : decode cX1_magnitude 5 = .ok (.ldc2_w 40, 3) := by decide +kernel
theorem dX1_magnitude_8 : decode cX1_magnitude 8 = .ok (.lxor, 1) := by decide +kernel
theorem dX1_magnitude_9 : decode cX1_magnitude 9 = .ok (.land, 1) := by decide +kernel
theorem dX1_magnitude_10 : decode cX1_magnitude 10 = .ok (.lreturn, 1) := by decide +kernel
theorem dX1_least_0 : decode cX1_least 0 = .ok (.aload_n 0, 1) := by decide +kernel
theorem dX1_least_1 : decode cX1_least 1 = .ok (.lload_n 1, 1) := by decide +kernel
theorem dX1_least_2 : decode cX1_least 2 = .ok (.invokevirtual 51, 3) := by decide +kernel
theorem dX1_least_5 : decode cX1_least 5 = .ok (.ifCond .ne 11, 3) := by decide +kernel
theorem dX1_least_8 : decode cX1_least 8 = .ok (.aload_n 0, 1) := by decide +kernel
theorem dX1_least_9 : decode cX1_least 9 = .ok (.lload_n 3, 1) := by decide +kernel
theorem dX1_least_10 : decode cX1_least 10 = .ok (.invokevirtual 51, 3) := by decide +kernel
theorem dX1_least_13 : decode cX1_least 13 = .ok (.ifCond .eq 8, 3) := by decide +kernel
theorem dX1_least_16 : decode cX1_least 16 = .ok (.aload_n 0, 1) := by decide +kernel
theorem dX1_least_17 : decode cX1_least 17 = .ok (.getfield 48, 3) := by decide +kernel
theorem dX1_least_20 : decode cX1_least 20 = .ok (.lreturn, 1) := by decide +kernel
theorem dX1_least_21 : decode cX1_least 21 = .ok (.aload_n 0, 1) := by decide +kernel
theorem dX1_least_22 : decode cX1_least 22 = .ok (.lload_n 1, 1) := by decide +kernel
theorem dX1_least_23 : decode cX1_least 23 = .ok (.invokevirtual 55, 3) := by decide +kernel
theorem dX1_least_26 : decode cX1_least 26 = .ok (.aload_n 0, 1) := by decide +kernel
theorem dX1_least_27 : decode cX1_least 27 = .ok (.lload_n 3, 1) := by decide +kernel
theorem dX1_least_28 : decode cX1_least 28 = .ok (.invokevirtual 55, 3) := by decide +kernel
theorem dX1_least_31 : decode cX1_least 31 = .ok (.lcmp, 1) := by decide +kernel
theorem dX1_least_32 : decode cX1_least 32 = .ok (.ifCond .ne 9, 3) := by decide +kernel
theorem dX1_least_35 : decode cX1_least 35 = .ok (.lload_n 1, 1) := by decide +kernel
theorem dX1_least_36 : decode cX1_least 36 = .ok (.lload_n 3, 1) := by decide +kernel
theorem dX1_least_37 : decode cX1_least 37 = .ok (.lor, 1) := by decide +kernel
theorem dX1_least_38 : decode cX1_least 38 = .ok (.goto 22, 3) := by decide +kernel
theorem dX1_least_41 : decode cX1_least 41 = .ok (.aload_n 0, 1) := by decide +kernel
theorem dX1_least_42 : decode cX1_least 42 = .ok (.lload_n 1, 1) := by decide +kernel
theorem dX1_least_43 : decode cX1_least 43 = .ok (.invokevirtual 55, 3) := by decide +kernel
theorem dX1_least_46 : decode cX1_least 46 = .ok (.aload_n 0, 1) := by decide +kernel
theorem dX1_least_47 : decode cX1_least 47 = .ok (.lload_n 3, 1) := by decide +kernel
theorem dX1_least_48 : decode cX1_least 48 = .ok (.invokevirtual 55, 3) := by decide +kernel
theorem dX1_least_51 : decode cX1_least 51 = .ok (.lcmp, 1) := by decide +kernel
theorem dX1_least_52 : decode cX1_least 52 = .ok (.ifCond .ge 7, 3) := by decide +kernel
theorem dX1_least_55 : decode cX1_least 55 = .ok (.lload_n 1, 1) := by decide +kernel
theorem dX1_least_56 : decode cX1_least 56 = .ok (.goto 4, 3) := by decide +kernel
theorem dX1_least_59 : decode cX1_least 59 = .ok (.lload_n 3, 1) := by decide +kernel
theorem dX1_least_60 : decode cX1_least 60 = .ok (.lreturn, 1) := by decide +kernel
theorem dX1_greatest_0 : decode cX1_greatest 0 = .ok (.aload_n 0, 1) := by decide +kernel
theorem dX1_greatest_1 : decode cX1_greatest 1 = .ok (.lload_n 1, 1) := by decide +kernel
theorem dX1_greatest_2 : decode cX1_greatest 2 = .ok (.invokevirtual 51, 3) := by decide +kernel
theorem dX1_greatest_5 : decode cX1_greatest 5 = .ok (.ifCond .ne 11, 3) := by decide +kernel
theorem dX1_greatest_8 : decode cX1_greatest 8 = .ok (.aload_n 0, 1) := by decide +kernel
theorem dX1_greatest_9 : decode cX1_greatest 9 = .ok (.lload_n 3, 1) := by decide +kernel
theorem dX1_greatest_10 : decode cX1_greatest 10 = .ok (.invokevirtual 51, 3) := by decide +kernel
theorem dX1_greatest_13 : decode cX1_greatest 13 = .ok (.ifCond .eq 8, 3) := by decide +kernel
theorem dX1_greatest_16 : decode cX1_greatest 16 = .ok (.aload_n 0, 1) := by decide +kernel
theorem dX1_greatest_17 : decode cX1_greatest 17 = .ok (.getfield 48, 3) := by decide +kernel
theorem dX1_greatest_20 : decode cX1_greatest 20 = .ok (.lreturn, 1) := by decide +kernel
theorem dX1_greatest_21 : decode cX1_greatest 21 = .ok (.aload_n 0, 1) := by decide +kernel
theorem dX1_greatest_22 : decode cX1_greatest 22 = .ok (.lload_n 1, 1) := by decide +kernel
theorem dX1_greatest_23 : decode cX1_greatest 23 = .ok (.invokevirtual 55, 3) := by decide +kernel
theorem dX1_greatest_26 : decode cX1_greatest 26 = .ok (.aload_n 0, 1) := by decide +kernel
theorem dX1_greatest_27 : decode cX1_greatest 27 = .ok (.lload_n 3, 1) := by decide +kernel
theorem dX1_greatest_28 : decode cX1_greatest 28 = .ok (.invokevirtual 55, 3) := by decide +kernel
theorem dX1_greatest_31 : decode cX1_greatest 31 = .ok (.lcmp, 1) := by decide +kernel
theorem dX1_greatest_32 : decode cX1_greatest 32 = .ok (.ifCond .ne 9, 3) := by decide +kernel
theorem dX1_greatest_35 : decode cX1_greatest 35 = .ok (.lload_n 1, 1) := by decide +kernel
theorem dX1_greatest_36 : decode cX1_greatest 36 = .ok (.lload_n 3, 1) := by decide +kernel
theorem dX1_greatest_37 : decode cX1_greatest 37 = .ok (.land, 1) := by decide +kernel
theorem dX1_greatest_38 : decode cX1_greatest 38 = .ok (.goto 22, 3) := by decide +kernel
theorem dX1_greatest_41 : decode cX1_greatest 41 = .ok (.aload_n 0, 1) := by decide +kernel
theorem dX1_greatest_42 : decode cX1_greatest 42 = .ok (.lload_n 1, 1) := by decide +kernel
theorem dX1_greatest_43 : decode cX1_greatest 43 = .ok (.invokevirtual 55, 3) := by decide +kernel
theorem dX1_greatest_46 : decode cX1_greatest 46 = .ok (.aload_n 0, 1) := by decide +kernel
theorem dX1_greatest_47 : decode cX1_greatest 47 = .ok (.lload_n 3, 1) := by decide +kernel
theorem dX1_greatest_48 : decode cX1_greatest 48 = .ok (.invokevirtual 55, 3) := by decide +kernel
theorem dX1_greatest_51 : decode cX1_greatest 51 = .ok (.lcmp, 1) := by decide +kernel
theorem dX1_greatest_52 : decode cX1_greatest 52 = .ok (.ifCond .le 7, 3) := by decide +kernel
theorem dX1_greatest_55 : decode cX1_greatest 55 = .ok (.lload_n 1, 1) := by decide +kernel
theorem dX1_greatest_56 : decode cX1_greatest 56 = .ok (.goto 4, 3) := by decide +kernel
theorem dX1_greatest_59 : decode cX1_greatest 59 = .ok (.lload_n 3, 1) := by decide +kernel
theorem dX1_greatest_60 : decode cX1_greatest 60 = .ok (.lreturn, 1) := by decide +kernel
theorem dX1_compared_0 : decode cX1_compared 0 = .ok (.aload_n 0, 1) := by decide +kernel
theorem dX1_compared_1 : decode cX1_compared 1 = .ok (.lload_n 1, 1) := by decide +kernel
theorem dX1_compared_2 : decode cX1_compared 2 = .ok (.invokevirtual 51, 3) := by decide +kernel
theorem dX1_compared_5 : decode cX1_compared 5 = .ok (.ifCond .ne 11, 3) := by decide +kernel
theorem dX1_compared_8 : decode cX1_compared 8 = .ok (.aload_n 0, 1) := by decide +kernel
theorem dX1_compared_9 : decode cX1_compared 9 = .ok (.lload_n 3, 1) := by decide +kernel
theorem dX1_compared_10 : decode cX1_compared 10 = .ok (.invokevirtual 51, 3) := by decide +kernel
theorem dX1_compared_13 : decode cX1_compared 13 = .ok (.ifCond .eq 8, 3) := by decide +kernel
theorem dX1_compared_16 : decode cX1_compared 16 = .ok (.iload 5, 2) := by decide +kernel
theorem dX1_compared_18 : decode cX1_compared 18 = .ok (.goto 16, 3) := by decide +kernel
theorem dX1_compared_21 : decode cX1_compared 21 = .ok (.aload_n 0, 1) := by decide +kernel
theorem dX1_compared_22 : decode cX1_compared 22 = .ok (.lload_n 1, 1) := by decide +kernel
theorem dX1_compared_23 : decode cX1_compared 23 = .ok (.invokevirtual 55, 3) := by decide +kernel
theorem dX1_compared_26 : decode cX1_compared 26 = .ok (.aload_n 0, 1) := by decide +kernel
theorem dX1_compared_27 : decode cX1_compared 27 = .ok (.lload_n 3, 1) := by decide +kernel
theorem dX1_compared_28 : decode cX1_compared 28 = .ok (.invokevirtual 55, 3) := by decide +kernel
theorem dX1_compared_31 : decode cX1_compared 31 = .ok (.invokestatic 59, 3) := by decide +kernel
theorem dX1_compared_34 : decode cX1_compared 34 = .ok (.ireturn, 1) := by decide +kernel
theorem dX1_ofWhole_0 : decode cX1_ofWhole 0 = .ok (.lload_n 1, 1) := by decide +kernel
theorem dX1_ofWhole_1 : decode cX1_ofWhole 1 = .ok (.lconst 0, 1) := by decide +kernel
theorem dX1_ofWhole_2 : decode cX1_ofWhole 2 = .ok (.lcmp, 1) := by decide +kernel
theorem dX1_ofWhole_3 : decode cX1_ofWhole 3 = .ok (.ifCond .ne 5, 3) := by decide +kernel
theorem dX1_ofWhole_6 : decode cX1_ofWhole 6 = .ok (.lconst 0, 1) := by decide +kernel
theorem dX1_ofWhole_7 : decode cX1_ofWhole 7 = .ok (.lreturn, 1) := by decide +kernel
theorem dX1_ofWhole_8 : decode cX1_ofWhole 8 = .ok (.lload_n 1, 1) := by decide +kernel
theorem dX1_ofWhole_9 : decode cX1_ofWhole 9 = .ok (.ldc2_w 65, 3) := by decide +kernel
theorem dX1_ofWhole_12 : decode cX1_ofWhole 12 = .ok (.lcmp, 1) := by decide +kernel
theorem dX1_ofWhole_13 : decode cX1_ofWhole 13 = .ok (.ifCond .ne 13, 3) := by decide +kernel
theorem dX1_ofWhole_16 : decode cX1_ofWhole 16 = .ok (.aload_n 0, 1) := by decide +kernel
theorem dX1_ofWhole_17 : decode cX1_ofWhole 17 = .ok (.iconst 1, 1) := by decide +kernel
theorem dX1_ofWhole_18 : decode cX1_ofWhole 18 = .ok (.iconst 1, 1) := by decide +kernel
theorem dX1_ofWhole_19 : decode cX1_ofWhole 19 = .ok (.ldc2_w 67, 3) := by decide +kernel
theorem dX1_ofWhole_22 : decode cX1_ofWhole 22 = .ok (.invokevirtual 69, 3) := by decide +kernel
theorem dX1_ofWhole_25 : decode cX1_ofWhole 25 = .ok (.lreturn, 1) := by decide +kernel
theorem dX1_ofWhole_26 : decode cX1_ofWhole 26 = .ok (.aload_n 0, 1) := by decide +kernel
theorem dX1_ofWhole_27 : decode cX1_ofWhole 27 = .ok (.lload_n 1, 1) := by decide +kernel
theorem dX1_ofWhole_28 : decode cX1_ofWhole 28 = .ok (.lconst 0, 1) := by decide +kernel
theorem dX1_ofWhole_29 : decode cX1_ofWhole 29 = .ok (.lcmp, 1) := by decide +kernel
theorem dX1_ofWhole_30 : decode cX1_ofWhole 30 = .ok (.ifCond .ge 7, 3) := by decide +kernel
theorem dX1_ofWhole_33 : decode cX1_ofWhole 33 = .ok (.iconst 1, 1) := by decide +kernel
theorem dX1_ofWhole_34 : decode cX1_ofWhole 34 = .ok (.goto 4, 3) := by decide +kernel
theorem dX1_ofWhole_37 : decode cX1_ofWhole 37 = .ok (.iconst 0, 1) := by decide +kernel
theorem dX1_ofWhole_38 : decode cX1_ofWhole 38 = .ok (.iconst 0, 1) := by decide +kernel
theorem dX1_ofWhole_39 : decode cX1_ofWhole 39 = .ok (.lload_n 1, 1) := by decide +kernel
theorem dX1_ofWhole_40 : decode cX1_ofWhole 40 = .ok (.invokestatic 73, 3) := by decide +kernel
theorem dX1_ofWhole_43 : decode cX1_ofWhole 43 = .ok (.invokevirtual 69, 3) := by decide +kernel
theorem dX1_ofWhole_46 : decode cX1_ofWhole 46 = .ok (.lreturn, 1) := by decide +kernel
theorem dX1_ofOther_0 : decode cX1_ofOther 0 = .ok (.aload_n 1, 1) := by decide +kernel
theorem dX1_ofOther_1 : decode cX1_ofOther 1 = .ok (.lload_n 2, 1) := by decide +kernel
theorem dX1_ofOther_2 : decode cX1_ofOther 2 = .ok (.invokevirtual 51, 3) := by decide +kernel
theorem dX1_ofOther_5 : decode cX1_ofOther 5 = .ok (.ifCond .eq 8, 3) := by decide +kernel
theorem dX1_ofOther_8 : decode cX1_ofOther 8 = .ok (.aload_n 0, 1) := by decide +kernel
theorem dX1_ofOther_9 : decode cX1_ofOther 9 = .ok (.getfield 48, 3) := by decide +kernel
theorem dX1_ofOther_12 : decode cX1_ofOther 12 = .ok (.lreturn, 1) := by decide +kernel
theorem dX1_ofOther_13 : decode cX1_ofOther 13 = .ok (.aload_n 1, 1) := by decide +kernel
theorem dX1_ofOther_14 : decode cX1_ofOther 14 = .ok (.lload_n 2, 1) := by decide +kernel
theorem dX1_ofOther_15 : decode cX1_ofOther 15 = .ok (.invokevirtual 78, 3) := by decide +kernel
theorem dX1_ofOther_18 : decode cX1_ofOther 18 = .ok (.ifCond .eq 17, 3) := by decide +kernel
theorem dX1_ofOther_21 : decode cX1_ofOther 21 = .ok (.aload_n 0, 1) := by decide +kernel
theorem dX1_ofOther_22 : decode cX1_ofOther 22 = .ok (.aload_n 1, 1) := by decide +kernel
theorem dX1_ofOther_23 : decode cX1_ofOther 23 = .ok (.lload_n 2, 1) := by decide +kernel
theorem dX1_ofOther_24 : decode cX1_ofOther 24 = .ok (.invokevirtual 81, 3) := by decide +kernel
theorem dX1_ofOther_27 : decode cX1_ofOther 27 = .ok (.aload_n 0, 1) := by decide +kernel
theorem dX1_ofOther_28 : decode cX1_ofOther 28 = .ok (.getfield 45, 3) := by decide +kernel
theorem dX1_ofOther_31 : decode cX1_ofOther 31 = .ok (.invokevirtual 84, 3) := by decide +kernel
theorem dX1_ofOther_34 : decode cX1_ofOther 34 = .ok (.lreturn, 1) := by decide +kernel
theorem dX1_ofOther_35 : decode cX1_ofOther 35 = .ok (.aload_n 1, 1) := by decide +kernel
theorem dX1_ofOther_36 : decode cX1_ofOther 36 = .ok (.lload_n 2, 1) := by decide +kernel
theorem dX1_ofOther_37 : decode cX1_ofOther 37 = .ok (.invokevirtual 88, 3) := by decide +kernel
theorem dX1_ofOther_40 : decode cX1_ofOther 40 = .ok (.ifCond .eq 14, 3) := by decide +kernel
theorem dX1_ofOther_43 : decode cX1_ofOther 43 = .ok (.aload_n 0, 1) := by decide +kernel
theorem dX1_ofOther_44 : decode cX1_ofOther 44 = .ok (.aload_n 1, 1) := by decide +kernel
theorem dX1_ofOther_45 : decode cX1_ofOther 45 = .ok (.lload_n 2, 1) := by decide +kernel
theorem dX1_ofOther_46 : decode cX1_ofOther 46 = .ok (.invokevirtual 81, 3) := by decide +kernel
theorem dX1_ofOther_49 : decode cX1_ofOther 49 = .ok (.lconst 0, 1) := by decide +kernel
theorem dX1_ofOther_50 : decode cX1_ofOther 50 = .ok (.invokevirtual 84, 3) := by decide +kernel
theorem dX1_ofOther_53 : decode cX1_ofOther 53 = .ok (.lreturn, 1) := by decide +kernel
theorem dX1_ofOther_54 : decode cX1_ofOther 54 = .ok (.aload_n 0, 1) := by decide +kernel
theorem dX1_ofOther_55 : decode cX1_ofOther 55 = .ok (.aload_n 1, 1) := by decide +kernel
theorem dX1_ofOther_56 : decode cX1_ofOther 56 = .ok (.lload_n 2, 1) := by decide +kernel
theorem dX1_ofOther_57 : decode cX1_ofOther 57 = .ok (.invokevirtual 81, 3) := by decide +kernel
theorem dX1_ofOther_60 : decode cX1_ofOther 60 = .ok (.aload_n 1, 1) := by decide +kernel
theorem dX1_ofOther_61 : decode cX1_ofOther 61 = .ok (.lload_n 2, 1) := by decide +kernel
theorem dX1_ofOther_62 : decode cX1_ofOther 62 = .ok (.invokevirtual 91, 3) := by decide +kernel
theorem dX1_ofOther_65 : decode cX1_ofOther 65 = .ok (.aload_n 1, 1) := by decide +kernel
theorem dX1_ofOther_66 : decode cX1_ofOther 66 = .ok (.lload_n 2, 1) := by decide +kernel
theorem dX1_ofOther_67 : decode cX1_ofOther 67 = .ok (.invokevirtual 95, 3) := by decide +kernel
theorem dX1_ofOther_70 : decode cX1_ofOther 70 = .ok (.invokevirtual 69, 3) := by decide +kernel
theorem dX1_ofOther_73 : decode cX1_ofOther 73 = .ok (.lreturn, 1) := by decide +kernel
theorem dX1_truncated_0 : decode cX1_truncated 0 = .ok (.aload_n 0, 1) := by decide +kernel
theorem dX1_truncated_1 : decode cX1_truncated 1 = .ok (.lload_n 1, 1) := by decide +kernel
theorem dX1_truncated_2 : decode cX1_truncated 2 = .ok (.invokevirtual 51, 3) := by decide +kernel
theorem dX1_truncated_5 : decode cX1_truncated 5 = .ok (.ifCond .ne 11, 3) := by decide +kernel
theorem dX1_truncated_8 : decode cX1_truncated 8 = .ok (.aload_n 0, 1) := by decide +kernel
theorem dX1_truncated_9 : decode cX1_truncated 9 = .ok (.lload_n 1, 1) := by decide +kernel
theorem dX1_truncated_10 : decode cX1_truncated 10 = .ok (.invokevirtual 88, 3) := by decide +kernel
theorem dX1_truncated_13 : decode cX1_truncated 13 = .ok (.ifCond .eq 5, 3) := by decide +kernel
theorem dX1_truncated_16 : decode cX1_truncated 16 = .ok (.lconst 0, 1) := by decide +kernel
theorem dX1_truncated_17 : decode cX1_truncated 17 = .ok (.lreturn, 1) := by decide +kernel
theorem dX1_truncated_18 : decode cX1_truncated 18 = .ok (.aload_n 0, 1) := by decide +kernel
theorem dX1_truncated_19 : decode cX1_truncated 19 = .ok (.lload_n 1, 1) := by decide +kernel
theorem dX1_truncated_20 : decode cX1_truncated 20 = .ok (.invokevirtual 91, 3) := by decide +kernel
theorem dX1_truncated_23 : decode cX1_truncated 23 = .ok (.istore_n 3, 1) := by decide +kernel
theorem dX1_truncated_24 : decode cX1_truncated 24 = .ok (.aload_n 0, 1) := by decide +kernel
theorem dX1_truncated_25 : decode cX1_truncated 25 = .ok (.lload_n 1, 1) := by decide +kernel
theorem dX1_truncated_26 : decode cX1_truncated 26 = .ok (.invokevirtual 78, 3) := by decide +kernel
theorem dX1_truncated_29 : decode cX1_truncated 29 = .ok (.ifCond .ne 9, 3) := by decide +kernel
theorem dX1_truncated_32 : decode cX1_truncated 32 = .ok (.iload_n 3, 1) := by decide +kernel
theorem dX1_truncated_33 : decode cX1_truncated 33 = .ok (.bipush 10, 2) := by decide +kernel
theorem dX1_truncated_35 : decode cX1_truncated 35 = .ok (.if_icmp .le 21, 3) := by decide +kernel
theorem dX1_truncated_38 : decode cX1_truncated 38 = .ok (.aload_n 0, 1) := by decide +kernel
theorem dX1_truncated_39 : decode cX1_truncated 39 = .ok (.lload_n 1, 1) := by decide +kernel
theorem dX1_truncated_40 : decode cX1_truncated 40 = .ok (.invokevirtual 81, 3) := by decide +kernel
theorem dX1_truncated_43 : decode cX1_truncated 43 = .ok (.ifCond .eq 9, 3) := by decide +kernel
theorem dX1_truncated_46 : decode cX1_truncated 46 = .ok (.ldc2_w 65, 3) := by decide +kernel
theorem dX1_truncated_49 : decode cX1_truncated 49 = .ok (.goto 6, 3) := by decide +kernel
theorem dX1_truncated_52 : decode cX1_truncated 52 = .ok (.ldc2_w 98, 3) := by decide +kernel
theorem dX1_truncated_55 : decode cX1_truncated 55 = .ok (.lreturn, 1) := by decide +kernel
theorem dX1_truncated_56 : decode cX1_truncated 56 = .ok (.iload_n 3, 1) := by decide +kernel
theorem dX1_truncated_57 : decode cX1_truncated 57 = .ok (.bipush (-53), 2) := by decide +kernel
theorem dX1_truncated_59 : decode cX1_truncated 59 = .ok (.if_icmp .gt 5, 3) := by decide +kernel
theorem dX1_truncated_62 : decode cX1_truncated 62 = .ok (.lconst 0, 1) := by decide +kernel
theorem dX1_truncated_63 : decode cX1_truncated 63 = .ok (.lreturn, 1) := by decide +kernel
theorem dX1_truncated_64 : decode cX1_truncated 64 = .ok (.iload_n 3, 1) := by decide +kernel
theorem dX1_truncated_65 : decode cX1_truncated 65 = .ok (.ifCond .ge 14, 3) := by decide +kernel
theorem dX1_truncated_68 : decode cX1_truncated 68 = .ok (.aload_n 0, 1) := by decide +kernel
theorem dX1_truncated_69 : decode cX1_truncated 69 = .ok (.lload_n 1, 1) := by decide +kernel
theorem dX1_truncated_70 : decode cX1_truncated 70 = .ok (.invokevirtual 95, 3) := by decide +kernel
theorem dX1_truncated_73 : decode cX1_truncated 73 = .ok (.iload_n 3, 1) := by decide +kernel
theorem dX1_truncated_74 : decode cX1_truncated 74 = .ok (.ineg, 1) := by decide +kernel
theorem dX1_truncated_75 : decode cX1_truncated 75 = .ok (.lushr, 1) := by decide +kernel
theorem dX1_truncated_76 : decode cX1_truncated 76 = .ok (.goto 10, 3) := by decide +kernel
theorem dX1_truncated_79 : decode cX1_truncated 79 = .ok (.aload_n 0, 1) := by decide +kernel
theorem dX1_truncated_80 : decode cX1_truncated 80 = .ok (.lload_n 1, 1) := by decide +kernel
theorem dX1_truncated_81 : decode cX1_truncated 81 = .ok (.invokevirtual 95, 3) := by decide +kernel
theorem dX1_truncated_84 : decode cX1_truncated 84 = .ok (.iload_n 3, 1) := by decide +kernel
theorem dX1_truncated_85 : decode cX1_truncated 85 = .ok (.lshl, 1) := by decide +kernel
theorem dX1_truncated_86 : decode cX1_truncated 86 = .ok (.lstore 4, 2) := by decide +kernel
theorem dX1_truncated_88 : decode cX1_truncated 88 = .ok (.aload_n 0, 1) := by decide +kernel
theorem dX1_truncated_89 : decode cX1_truncated 89 = .ok (.lload_n 1, 1) := by decide +kernel
theorem dX1_truncated_90 : decode cX1_truncated 90 = .ok (.invokevirtual 81, 3) := by decide +kernel
theorem dX1_truncated_93 : decode cX1_truncated 93 = .ok (.ifCond .eq 9, 3) := by decide +kernel
theorem dX1_truncated_96 : decode cX1_truncated 96 = .ok (.lload 4, 2) := by decide +kernel
theorem dX1_truncated_98 : decode cX1_truncated 98 = .ok (.lneg, 1) := by decide +kernel
theorem dX1_truncated_99 : decode cX1_truncated 99 = .ok (.goto 5, 3) := by decide +kernel
theorem dX1_truncated_102 : decode cX1_truncated 102 = .ok (.lload 4, 2) := by decide +kernel
theorem dX1_truncated_104 : decode cX1_truncated 104 = .ok (.lreturn, 1) := by decide +kernel
theorem dX1_sum_0 : decode cX1_sum 0 = .ok (.aload_n 0, 1) := by decide +kernel
theorem dX1_sum_1 : decode cX1_sum 1 = .ok (.lload_n 1, 1) := by decide +kernel
theorem dX1_sum_2 : decode cX1_sum 2 = .ok (.invokevirtual 51, 3) := by decide +kernel
theorem dX1_sum_5 : decode cX1_sum 5 = .ok (.ifCond .ne 11, 3) := by decide +kernel
theorem dX1_sum_8 : decode cX1_sum 8 = .ok (.aload_n 0, 1) := by decide +kernel
theorem dX1_sum_9 : decode cX1_sum 9 = .ok (.lload_n 3, 1) := by decide +kernel
theorem dX1_sum_10 : decode cX1_sum 10 = .ok (.invokevirtual 51, 3) := by decide +kernel
theorem dX1_sum_13 : decode cX1_sum 13 = .ok (.ifCond .eq 8, 3) := by decide +kernel
theorem dX1_sum_16 : decode cX1_sum 16 = .ok (.aload_n 0, 1) := by decide +kernel
theorem dX1_sum_17 : decode cX1_sum 17 = .ok (.getfield 48, 3) := by decide +kernel
theorem dX1_sum_20 : decode cX1_sum 20 = .ok (.lreturn, 1) := by decide +kernel
theorem dX1_sum_21 : decode cX1_sum 21 = .ok (.aload_n 0, 1) := by decide +kernel
theorem dX1_sum_22 : decode cX1_sum 22 = .ok (.lload_n 1, 1) := by decide +kernel
theorem dX1_sum_23 : decode cX1_sum 23 = .ok (.invokevirtual 78, 3) := by decide +kernel
theorem dX1_sum_26 : decode cX1_sum 26 = .ok (.ifCond .eq 26, 3) := by decide +kernel
theorem dX1_sum_29 : decode cX1_sum 29 = .ok (.aload_n 0, 1) := by decide +kernel
theorem dX1_sum_30 : decode cX1_sum 30 = .ok (.lload_n 3, 1) := by decide +kernel
theorem dX1_sum_31 : decode cX1_sum 31 = .ok (.invokevirtual 78, 3) := by decide +kernel
theorem dX1_sum_34 : decode cX1_sum 34 = .ok (.ifCond .eq 16, 3) := by decide +kernel
theorem dX1_sum_37 : decode cX1_sum 37 = .ok (.lload_n 1, 1) := by decide +kernel
theorem dX1_sum_38 : decode cX1_sum 38 = .ok (.lload_n 3, 1) := by decide +kernel
theorem dX1_sum_39 : decode cX1_sum 39 = .ok (.lcmp, 1) := by decide +kernel
theorem dX1_sum_40 : decode cX1_sum 40 = .ok (.ifCond .eq 10, 3) := by decide +kernel
theorem dX1_sum_43 : decode cX1_sum 43 = .ok (.aload_n 0, 1) := by decide +kernel
theorem dX1_sum_44 : decode cX1_sum 44 = .ok (.getfield 48, 3) := by decide +kernel
theorem dX1_sum_47 : decode cX1_sum 47 = .ok (.goto 4, 3) := by decide +kernel
theorem dX1_sum_50 : decode cX1_sum 50 = .ok (.lload_n 1, 1) := by decide +kernel
theorem dX1_sum_51 : decode cX1_sum 51 = .ok (.lreturn, 1) := by decide +kernel
theorem dX1_sum_52 : decode cX1_sum 52 = .ok (.aload_n 0, 1) := by decide +kernel
theorem dX1_sum_53 : decode cX1_sum 53 = .ok (.lload_n 3, 1) := by decide +kernel
theorem dX1_sum_54 : decode cX1_sum 54 = .ok (.invokevirtual 78, 3) := by decide +kernel
theorem dX1_sum_57 : decode cX1_sum 57 = .ok (.ifCond .eq 5, 3) := by decide +kernel
theorem dX1_sum_60 : decode cX1_sum 60 = .ok (.lload_n 3, 1) := by decide +kernel
theorem dX1_sum_61 : decode cX1_sum 61 = .ok (.lreturn, 1) := by decide +kernel
theorem dX1_sum_62 : decode cX1_sum 62 = .ok (.aload_n 0, 1) := by decide +kernel
theorem dX1_sum_63 : decode cX1_sum 63 = .ok (.lload_n 1, 1) := by decide +kernel
theorem dX1_sum_64 : decode cX1_sum 64 = .ok (.invokevirtual 88, 3) := by decide +kernel
theorem dX1_sum_67 : decode cX1_sum 67 = .ok (.ifCond .eq 19, 3) := by decide +kernel
theorem dX1_sum_70 : decode cX1_sum 70 = .ok (.aload_n 0, 1) := by decide +kernel
theorem dX1_sum_71 : decode cX1_sum 71 = .ok (.lload_n 3, 1) := by decide +kernel
theorem dX1_sum_72 : decode cX1_sum 72 = .ok (.invokevirtual 88, 3) := by decide +kernel
theorem dX1_sum_75 : decode cX1_sum 75 = .ok (.ifCond .eq 9, 3) := by decide +kernel
theorem dX1_sum_78 : decode cX1_sum 78 = .ok (.lload_n 1, 1) := by decide +kernel
theorem dX1_sum_79 : decode cX1_sum 79 = .ok (.lload_n 3, 1) := by decide +kernel
theorem dX1_sum_80 : decode cX1_sum 80 = .ok (.land, 1) := by decide +kernel
theorem dX1_sum_81 : decode cX1_sum 81 = .ok (.goto 4, 3) := by decide +kernel
theorem dX1_sum_84 : decode cX1_sum 84 = .ok (.lload_n 3, 1) := by decide +kernel
theorem dX1_sum_85 : decode cX1_sum 85 = .ok (.lreturn, 1) := by decide +kernel
theorem dX1_sum_86 : decode cX1_sum 86 = .ok (.aload_n 0, 1) := by decide +kernel
theorem dX1_sum_87 : decode cX1_sum 87 = .ok (.lload_n 3, 1) := by decide +kernel
theorem dX1_sum_88 : decode cX1_sum 88 = .ok (.invokevirtual 88, 3) := by decide +kernel
theorem dX1_sum_91 : decode cX1_sum 91 = .ok (.ifCond .eq 5, 3) := by decide +kernel
theorem dX1_sum_94 : decode cX1_sum 94 = .ok (.lload_n 1, 1) := by decide +kernel
theorem dX1_sum_95 : decode cX1_sum 95 = .ok (.lreturn, 1) := by decide +kernel
theorem dX1_sum_96 : decode cX1_sum 96 = .ok (.aload_n 0, 1) := by decide +kernel
theorem dX1_sum_97 : decode cX1_sum 97 = .ok (.lload_n 1, 1) := by decide +kernel
theorem dX1_sum_98 : decode cX1_sum 98 = .ok (.invokevirtual 91, 3) := by decide +kernel
theorem dX1_sum_101 : decode cX1_sum 101 = .ok (.aload_n 0, 1) := by decide +kernel
theorem dX1_sum_102 : decode cX1_sum 102 = .ok (.lload_n 3, 1) := by decide +kernel
theorem dX1_sum_103 : decode cX1_sum 103 = .ok (.invokevirtual 91, 3) := by decide +kernel
theorem dX1_sum_106 : decode cX1_sum 106 = .ok (.if_icmp .lt 12, 3) := by decide +kernel
theorem dX1_sum_109 : decode cX1_sum 109 = .ok (.aload_n 0, 1) := by decide +kernel
theorem dX1_sum_110 : decode cX1_sum 110 = .ok (.lload_n 1, 1) := by decide +kernel
theorem dX1_sum_111 : decode cX1_sum 111 = .ok (.lload_n 3, 1) := by decide +kernel
theorem dX1_sum_112 : decode cX1_sum 112 = .ok (.invokevirtual 100, 3) := by decide +kernel
theorem dX1_sum_115 : decode cX1_sum 115 = .ok (.goto 9, 3) := by decide +kernel
theorem dX1_sum_118 : decode cX1_sum 118 = .ok (.aload_n 0, 1) := by decide +kernel
theorem dX1_sum_119 : decode cX1_sum 119 = .ok (.lload_n 3, 1) := by decide +kernel
theorem dX1_sum_120 : decode cX1_sum 120 = .ok (.lload_n 1, 1) := by decide +kernel
theorem dX1_sum_121 : decode cX1_sum 121 = .ok (.invokevirtual 100, 3) := by decide +kernel
theorem dX1_sum_124 : decode cX1_sum 124 = .ok (.lreturn, 1) := by decide +kernel
theorem dX1_sumInOrder_0 : decode cX1_sumInOrder 0 = .ok (.aload_n 0, 1) := by decide +kernel
theorem dX1_sumInOrder_1 : decode cX1_sumInOrder 1 = .ok (.lload_n 1, 1) := by decide +kernel
theorem dX1_sumInOrder_2 : decode cX1_sumInOrder 2 = .ok (.invokevirtual 91, 3) := by decide +kernel
theorem dX1_sumInOrder_5 : decode cX1_sumInOrder 5 = .ok (.istore 5, 2) := by decide +kernel
theorem dX1_sumInOrder_7 : decode cX1_sumInOrder 7 = .ok (.aload_n 0, 1) := by decide +kernel
theorem dX1_sumInOrder_8 : decode cX1_sumInOrder 8 = .ok (.lload_n 1, 1) := by decide +kernel
theorem dX1_sumInOrder_9 : decode cX1_sumInOrder 9 = .ok (.invokevirtual 95, 3) := by decide +kernel
theorem dX1_sumInOrder_12 : decode cX1_sumInOrder 12 = .ok (.bipush 9, 2) := by decide +kernel
theorem dX1_sumInOrder_14 : decode cX1_sumInOrder 14 = .ok (.lshl, 1) := by decide +kernel
theorem dX1_sumInOrder_15 : decode cX1_sumInOrder 15 = .ok (.lstore 6, 2) := by decide +kernel
theorem dX1_sumInOrder_17 : decode cX1_sumInOrder 17 = .ok (.aload_n 0, 1) := by decide +kernel
theorem dX1_sumInOrder_18 : decode cX1_sumInOrder 18 = .ok (.lload_n 3, 1) := by decide +kernel
theorem dX1_sumInOrder_19 : decode cX1_sumInOrder 19 = .ok (.invokevirtual 95, 3) := by decide +kernel
theorem dX1_sumInOrder_22 : decode cX1_sumInOrder 22 = .ok (.bipush 9, 2) := by decide +kernel
theorem dX1_sumInOrder_24 : decode cX1_sumInOrder 24 = .ok (.lshl, 1) := by decide +kernel
theorem dX1_sumInOrder_25 : decode cX1_sumInOrder 25 = .ok (.iload 5, 2) := by decide +kernel
theorem dX1_sumInOrder_27 : decode cX1_sumInOrder 27 = .ok (.aload_n 0, 1) := by decide +kernel
theorem dX1_sumInOrder_28 : decode cX1_sumInOrder 28 = .ok (.lload_n 3, 1) := by decide +kernel
theorem dX1_sumInOrder_29 : decode cX1_sumInOrder 29 = .ok (.invokevirtual 91, 3) := by decide +kernel
theorem dX1_sumInOrder_32 : decode cX1_sumInOrder 32 = .ok (.isub, 1) := by decide +kernel
theorem dX1_sumInOrder_33 : decode cX1_sumInOrder 33 = .ok (.invokestatic 104, 3) := by decide +kernel
theorem dX1_sumInOrder_36 : decode cX1_sumInOrder 36 = .ok (.lstore 8, 2) := by decide +kernel
theorem dX1_sumInOrder_38 : decode cX1_sumInOrder 38 = .ok (.aload_n 0, 1) := by decide +kernel
theorem dX1_sumInOrder_39 : decode cX1_sumInOrder 39 = .ok (.lload_n 1, 1) := by decide +kernel
theorem dX1_sumInOrder_40 : decode cX1_sumInOrder 40 = .ok (.invokevirtual 81, 3) := by decide +kernel
theorem dX1_sumInOrder_43 : decode cX1_sumInOrder 43 = .ok (.aload_n 0, 1) := by decide +kernel
theorem dX1_sumInOrder_44 : decode cX1_sumInOrder 44 = .ok (.lload_n 3, 1) := by decide +kernel
theorem dX1_sumInOrder_45 : decode cX1_sumInOrder 45 = .ok (.invokevirtual 81, 3) := by decide +kernel
theorem dX1_sumInOrder_48 : decode cX1_sumInOrder 48 = .ok (.if_icmp .ne 23, 3) := by decide +kernel
theorem dX1_sumInOrder_51 : decode cX1_sumInOrder 51 = .ok (.aload_n 0, 1) := by decide +kernel
theorem dX1_sumInOrder_52 : decode cX1_sumInOrder 52 = .ok (.aload_n 0, 1) := by decide +kernel
theorem dX1_sumInOrder_53 : decode cX1_sumInOrder 53 = .ok (.lload_n 1, 1) := by decide +kernel
theorem dX1_sumInOrder_54 : decode cX1_sumInOrder 54 = .ok (.invokevirtual 81, 3) := by decide +kernel
theorem dX1_sumInOrder_57 : decode cX1_sumInOrder 57 = .ok (.iload 5, 2) := by decide +kernel
theorem dX1_sumInOrder_59 : decode cX1_sumInOrder 59 = .ok (.bipush 9, 2) := by decide +kernel
theorem dX1_sumInOrder_61 : decode cX1_sumInOrder 61 = .ok (.isub, 1) := by decide +kernel
theorem dX1_sumInOrder_62 : decode cX1_sumInOrder 62 = .ok (.lload 6, 2) := by decide +kernel
theorem dX1_sumInOrder_64 : decode cX1_sumInOrder 64 = .ok (.lload 8, 2) := by decide +kernel
theorem dX1_sumInOrder_66 : decode cX1_sumInOrder 66 = .ok (.ladd, 1) := by decide +kernel
theorem dX1_sumInOrder_67 : decode cX1_sumInOrder 67 = .ok (.invokevirtual 69, 3) := by decide +kernel
theorem dX1_sumInOrder_70 : decode cX1_sumInOrder 70 = .ok (.lreturn, 1) := by decide +kernel
theorem dX1_sumInOrder_71 : decode cX1_sumInOrder 71 = .ok (.lload 6, 2) := by decide +kernel
theorem dX1_sumInOrder_73 : decode cX1_sumInOrder 73 = .ok (.lload 8, 2) := by decide +kernel
theorem dX1_sumInOrder_75 : decode cX1_sumInOrder 75 = .ok (.lsub, 1) := by decide +kernel
theorem dX1_sumInOrder_76 : decode cX1_sumInOrder 76 = .ok (.lstore 10, 2) := by decide +kernel
theorem dX1_sumInOrder_78 : decode cX1_sumInOrder 78 = .ok (.lload 10, 2) := by decide +kernel
theorem dX1_sumInOrder_80 : decode cX1_sumInOrder 80 = .ok (.lconst 0, 1) := by decide +kernel
theorem dX1_sumInOrder_81 : decode cX1_sumInOrder 81 = .ok (.lcmp, 1) := by decide +kernel
theorem dX1_sumInOrder_82 : decode cX1_sumInOrder 82 = .ok (.ifCond .ne 5, 3) := by decide +kernel
theorem dX1_sumInOrder_85 : decode cX1_sumInOrder 85 = .ok (.lconst 0, 1) := by decide +kernel
theorem dX1_sumInOrder_86 : decode cX1_sumInOrder 86 = .ok (.lreturn, 1) := by decide +kernel
theorem dX1_sumInOrder_87 : decode cX1_sumInOrder 87 = .ok (.lload 10, 2) := by decide +kernel
theorem dX1_sumInOrder_89 : decode cX1_sumInOrder 89 = .ok (.lconst 0, 1) := by decide +kernel
theorem dX1_sumInOrder_90 : decode cX1_sumInOrder 90 = .ok (.lcmp, 1) := by decide +kernel
theorem dX1_sumInOrder_91 : decode cX1_sumInOrder 91 = .ok (.ifCond .le 11, 3) := by decide +kernel
theorem dX1_sumInOrder_94 : decode cX1_sumInOrder 94 = .ok (.aload_n 0, 1) := by decide +kernel
theorem dX1_sumInOrder_95 : decode cX1_sumInOrder 95 = .ok (.lload_n 1, 1) := by decide +kernel
theorem dX1_sumInOrder_96 : decode cX1_sumInOrder 96 = .ok (.invokevirtual 81, 3) := by decide +kernel
theorem dX1_sumInOrder_99 : decode cX1_sumInOrder 99 = .ok (.goto 8, 3) := by decide +kernel
theorem dX1_sumInOrder_102 : decode cX1_sumInOrder 102 = .ok (.aload_n 0, 1) := by decide +kernel
theorem dX1_sumInOrder_103 : decode cX1_sumInOrder 103 = .ok (.lload_n 3, 1) := by decide +kernel
theorem dX1_sumInOrder_104 : decode cX1_sumInOrder 104 = .ok (.invokevirtual 81, 3) := by decide +kernel
theorem dX1_sumInOrder_107 : decode cX1_sumInOrder 107 = .ok (.istore 12, 2) := by decide +kernel
theorem dX1_sumInOrder_109 : decode cX1_sumInOrder 109 = .ok (.aload_n 0, 1) := by decide +kernel
theorem dX1_sumInOrder_110 : decode cX1_sumInOrder 110 = .ok (.iload 12, 2) := by decide +kernel
theorem dX1_sumInOrder_112 : decode cX1_sumInOrder 112 = .ok (.iload 5, 2) := by decide +kernel
theorem dX1_sumInOrder_114 : decode cX1_sumInOrder 114 = .ok (.bipush 9, 2) := by decide +kernel
theorem dX1_sumInOrder_116 : decode cX1_sumInOrder 116 = .ok (.isub, 1) := by decide +kernel
theorem dX1_sumInOrder_117 : decode cX1_sumInOrder 117 = .ok (.lload 10, 2) := by decide +kernel
theorem dX1_sumInOrder_119 : decode cX1_sumInOrder 119 = .ok (.invokestatic 73, 3) := by decide +kernel
theorem dX1_sumInOrder_122 : decode cX1_sumInOrder 122 = .ok (.invokevirtual 69, 3) := by decide +kernel
theorem dX1_sumInOrder_125 : decode cX1_sumInOrder 125 = .ok (.lreturn, 1) := by decide +kernel
theorem dX1_product_0 : decode cX1_product 0 = .ok (.aload_n 0, 1) := by decide +kernel
theorem dX1_product_1 : decode cX1_product 1 = .ok (.lload_n 1, 1) := by decide +kernel
theorem dX1_product_2 : decode cX1_product 2 = .ok (.invokevirtual 51, 3) := by decide +kernel
theorem dX1_product_5 : decode cX1_product 5 = .ok (.ifCond .ne 11, 3) := by decide +kernel
theorem dX1_product_8 : decode cX1_product 8 = .ok (.aload_n 0, 1) := by decide +kernel
theorem dX1_product_9 : decode cX1_product 9 = .ok (.lload_n 3, 1) := by decide +kernel
theorem dX1_product_10 : decode cX1_product 10 = .ok (.invokevirtual 51, 3) := by decide +kernel
theorem dX1_product_13 : decode cX1_product 13 = .ok (.ifCond .eq 8, 3) := by decide +kernel
theorem dX1_product_16 : decode cX1_product 16 = .ok (.aload_n 0, 1) := by decide +kernel
theorem dX1_product_17 : decode cX1_product 17 = .ok (.getfield 48, 3) := by decide +kernel
theorem dX1_product_20 : decode cX1_product 20 = .ok (.lreturn, 1) := by decide +kernel
theorem dX1_product_21 : decode cX1_product 21 = .ok (.aload_n 0, 1) := by decide +kernel
theorem dX1_product_22 : decode cX1_product 22 = .ok (.lload_n 1, 1) := by decide +kernel
theorem dX1_product_23 : decode cX1_product 23 = .ok (.invokevirtual 81, 3) := by decide +kernel
theorem dX1_product_26 : decode cX1_product 26 = .ok (.aload_n 0, 1) := by decide +kernel
theorem dX1_product_27 : decode cX1_product 27 = .ok (.lload_n 3, 1) := by decide +kernel
theorem dX1_product_28 : decode cX1_product 28 = .ok (.invokevirtual 81, 3) := by decide +kernel
theorem dX1_product_31 : decode cX1_product 31 = .ok (.if_icmp .eq 7, 3) := by decide +kernel
theorem dX1_product_34 : decode cX1_product 34 = .ok (.iconst 1, 1) := by decide +kernel
theorem dX1_product_35 : decode cX1_product 35 = .ok (.goto 4, 3) := by decide +kernel
theorem dX1_product_38 : decode cX1_product 38 = .ok (.iconst 0, 1) := by decide +kernel
theorem dX1_product_39 : decode cX1_product 39 = .ok (.istore 5, 2) := by decide +kernel
theorem dX1_product_41 : decode cX1_product 41 = .ok (.aload_n 0, 1) := by decide +kernel
theorem dX1_product_42 : decode cX1_product 42 = .ok (.lload_n 1, 1) := by decide +kernel
theorem dX1_product_43 : decode cX1_product 43 = .ok (.invokevirtual 88, 3) := by decide +kernel
theorem dX1_product_46 : decode cX1_product 46 = .ok (.ifCond .ne 11, 3) := by decide +kernel
theorem dX1_product_49 : decode cX1_product 49 = .ok (.aload_n 0, 1) := by decide +kernel
theorem dX1_product_50 : decode cX1_product 50 = .ok (.lload_n 3, 1) := by decide +kernel
theorem dX1_product_51 : decode cX1_product 51 = .ok (.invokevirtual 88, 3) := by decide +kernel
theorem dX1_product_54 : decode cX1_product 54 = .ok (.ifCond .eq 7, 3) := by decide +kernel
theorem dX1_product_57 : decode cX1_product 57 = .ok (.iconst 1, 1) := by decide +kernel
theorem dX1_product_58 : decode cX1_product 58 = .ok (.goto 4, 3) := by decide +kernel
theorem dX1_product_61 : decode cX1_product 61 = .ok (.iconst 0, 1) := by decide +kernel
theorem dX1_product_62 : decode cX1_product 62 = .ok (.istore 6, 2) := by decide +kernel
theorem dX1_product_64 : decode cX1_product 64 = .ok (.aload_n 0, 1) := by decide +kernel
theorem dX1_product_65 : decode cX1_product 65 = .ok (.lload_n 1, 1) := by decide +kernel
theorem dX1_product_66 : decode cX1_product 66 = .ok (.invokevirtual 78, 3) := by decide +kernel
theorem dX1_product_69 : decode cX1_product 69 = .ok (.ifCond .ne 11, 3) := by decide +kernel
theorem dX1_product_72 : decode cX1_product 72 = .ok (.aload_n 0, 1) := by decide +kernel
theorem dX1_product_73 : decode cX1_product 73 = .ok (.lload_n 3, 1) := by decide +kernel
theorem dX1_product_74 : decode cX1_product 74 = .ok (.invokevirtual 78, 3) := by decide +kernel
theorem dX1_product_77 : decode cX1_product 77 = .ok (.ifCond .eq 26, 3) := by decide +kernel
theorem dX1_product_80 : decode cX1_product 80 = .ok (.iload 6, 2) := by decide +kernel
theorem dX1_product_82 : decode cX1_product 82 = .ok (.ifCond .eq 10, 3) := by decide +kernel
theorem dX1_product_85 : decode cX1_product 85 = .ok (.aload_n 0, 1) := by decide +kernel
theorem dX1_product_86 : decode cX1_product 86 = .ok (.getfield 48, 3) := by decide +kernel
theorem dX1_product_89 : decode cX1_product 89 = .ok (.goto 13, 3) := by decide +kernel
theorem dX1_product_92 : decode cX1_product 92 = .ok (.aload_n 0, 1) := by decide +kernel
theorem dX1_product_93 : decode cX1_product 93 = .ok (.iload 5, 2) := by decide +kernel
theorem dX1_product_95 : decode cX1_product 95 = .ok (.aload_n 0, 1) := by decide +kernel
theorem dX1_product_96 : decode cX1_product 96 = .ok (.getfield 45, 3) := by decide +kernel
theorem dX1_product_99 : decode cX1_product 99 = .ok (.invokevirtual 84, 3) := by decide +kernel
theorem dX1_product_102 : decode cX1_product 102 = .ok (.lreturn, 1) := by decide +kernel
theorem dX1_product_103 : decode cX1_product 103 = .ok (.iload 6, 2) := by decide +kernel
theorem dX1_product_105 : decode cX1_product 105 = .ok (.ifCond .eq 11, 3) := by decide +kernel
theorem dX1_product_108 : decode cX1_product 108 = .ok (.aload_n 0, 1) := by decide +kernel
theorem dX1_product_109 : decode cX1_product 109 = .ok (.iload 5, 2) := by decide +kernel
theorem dX1_product_111 : decode cX1_product 111 = .ok (.lconst 0, 1) := by decide +kernel
theorem dX1_product_112 : decode cX1_product 112 = .ok (.invokevirtual 84, 3) := by decide +kernel
theorem dX1_product_115 : decode cX1_product 115 = .ok (.lreturn, 1) := by decide +kernel
theorem dX1_product_116 : decode cX1_product 116 = .ok (.aload_n 0, 1) := by decide +kernel
theorem dX1_product_117 : decode cX1_product 117 = .ok (.lload_n 1, 1) := by decide +kernel
theorem dX1_product_118 : decode cX1_product 118 = .ok (.invokevirtual 91, 3) := by decide +kernel
theorem dX1_product_121 : decode cX1_product 121 = .ok (.aload_n 0, 1) := by decide +kernel
theorem dX1_product_122 : decode cX1_product 122 = .ok (.lload_n 3, 1) := by decide +kernel
theorem dX1_product_123 : decode cX1_product 123 = .ok (.invokevirtual 91, 3) := by decide +kernel
theorem dX1_product_126 : decode cX1_product 126 = .ok (.iadd, 1) := by decide +kernel
theorem dX1_product_127 : decode cX1_product 127 = .ok (.bipush 44, 2) := by decide +kernel
theorem dX1_product_129 : decode cX1_product 129 = .ok (.iadd, 1) := by decide +kernel
theorem dX1_product_130 : decode cX1_product 130 = .ok (.istore 7, 2) := by decide +kernel
theorem dX1_product_132 : decode cX1_product 132 = .ok (.aload_n 0, 1) := by decide +kernel
theorem dX1_product_133 : decode cX1_product 133 = .ok (.iload 5, 2) := by decide +kernel
theorem dX1_product_135 : decode cX1_product 135 = .ok (.iload 7, 2) := by decide +kernel
theorem dX1_product_137 : decode cX1_product 137 = .ok (.aload_n 0, 1) := by decide +kernel
theorem dX1_product_138 : decode cX1_product 138 = .ok (.lload_n 1, 1) := by decide +kernel
theorem dX1_product_139 : decode cX1_product 139 = .ok (.invokevirtual 95, 3) := by decide +kernel
theorem dX1_product_142 : decode cX1_product 142 = .ok (.aload_n 0, 1) := by decide +kernel
theorem dX1_product_143 : decode cX1_product 143 = .ok (.lload_n 3, 1) := by decide +kernel
theorem dX1_product_144 : decode cX1_product 144 = .ok (.invokevirtual 95, 3) := by decide +kernel
theorem dX1_product_147 : decode cX1_product 147 = .ok (.invokestatic 108, 3) := by decide +kernel
theorem dX1_product_150 : decode cX1_product 150 = .ok (.invokevirtual 69, 3) := by decide +kernel
theorem dX1_product_153 : decode cX1_product 153 = .ok (.lreturn, 1) := by decide +kernel
theorem dX1_quotient_0 : decode cX1_quotient 0 = .ok (.aload_n 0, 1) := by decide +kernel
theorem dX1_quotient_1 : decode cX1_quotient 1 = .ok (.lload_n 1, 1) := by decide +kernel
theorem dX1_quotient_2 : decode cX1_quotient 2 = .ok (.invokevirtual 51, 3) := by decide +kernel
theorem dX1_quotient_5 : decode cX1_quotient 5 = .ok (.ifCond .ne 43, 3) := by decide +kernel
theorem dX1_quotient_8 : decode cX1_quotient 8 = .ok (.aload_n 0, 1) := by decide +kernel
theorem dX1_quotient_9 : decode cX1_quotient 9 = .ok (.lload_n 3, 1) := by decide +kernel
theorem dX1_quotient_10 : decode cX1_quotient 10 = .ok (.invokevirtual 51, 3) := by decide +kernel
theorem dX1_quotient_13 : decode cX1_quotient 13 = .ok (.ifCond .ne 35, 3) := by decide +kernel
theorem dX1_quotient_16 : decode cX1_quotient 16 = .ok (.aload_n 0, 1) := by decide +kernel
theorem dX1_quotient_17 : decode cX1_quotient 17 = .ok (.lload_n 1, 1) := by decide +kernel
theorem dX1_quotient_18 : decode cX1_quotient 18 = .ok (.invokevirtual 78, 3) := by decide +kernel
theorem dX1_quotient_21 : decode cX1_quotient 21 = .ok (.ifCond .eq 11, 3) := by decide +kernel
theorem dX1_quotient_24 : decode cX1_quotient 24 = .ok (.aload_n 0, 1) := by decide +kernel
theorem dX1_quotient_25 : decode cX1_quotient 25 = .ok (.lload_n 3, 1) := by decide +kernel
theorem dX1_quotient_26 : decode cX1_quotient 26 = .ok (.invokevirtual 78, 3) := by decide +kernel
theorem dX1_quotient_29 : decode cX1_quotient 29 = .ok (.ifCond .ne 19, 3) := by decide +kernel
theorem dX1_quotient_32 : decode cX1_quotient 32 = .ok (.aload_n 0, 1) := by decide +kernel
theorem dX1_quotient_33 : decode cX1_quotient 33 = .ok (.lload_n 1, 1) := by decide +kernel
theorem dX1_quotient_34 : decode cX1_quotient 34 = .ok (.invokevirtual 88, 3) := by decide +kernel
theorem dX1_quotient_37 : decode cX1_quotient 37 = .ok (.ifCond .eq 16, 3) := by decide +kernel
theorem dX1_quotient_40 : decode cX1_quotient 40 = .ok (.aload_n 0, 1) := by decide +kernel
theorem dX1_quotient_41 : decode cX1_quotient 41 = .ok (.lload_n 3, 1) := by decide +kernel
theorem dX1_quotient_42 : decode cX1_quotient 42 = .ok (.invokevirtual 88, 3) := by decide +kernel
theorem dX1_quotient_45 : decode cX1_quotient 45 = .ok (.ifCond .eq 8, 3) := by decide +kernel
theorem dX1_quotient_48 : decode cX1_quotient 48 = .ok (.aload_n 0, 1) := by decide +kernel
theorem dX1_quotient_49 : decode cX1_quotient 49 = .ok (.getfield 48, 3) := by decide +kernel
theorem dX1_quotient_52 : decode cX1_quotient 52 = .ok (.lreturn, 1) := by decide +kernel
theorem dX1_quotient_53 : decode cX1_quotient 53 = .ok (.aload_n 0, 1) := by decide +kernel
theorem dX1_quotient_54 : decode cX1_quotient 54 = .ok (.lload_n 1, 1) := by decide +kernel
theorem dX1_quotient_55 : decode cX1_quotient 55 = .ok (.invokevirtual 81, 3) := by decide +kernel
theorem dX1_quotient_58 : decode cX1_quotient 58 = .ok (.aload_n 0, 1) := by decide +kernel
theorem dX1_quotient_59 : decode cX1_quotient 59 = .ok (.lload_n 3, 1) := by decide +kernel
theorem dX1_quotient_60 : decode cX1_quotient 60 = .ok (.invokevirtual 81, 3) := by decide +kernel
theorem dX1_quotient_63 : decode cX1_quotient 63 = .ok (.if_icmp .eq 7, 3) := by decide +kernel
theorem dX1_quotient_66 : decode cX1_quotient 66 = .ok (.iconst 1, 1) := by decide +kernel
theorem dX1_quotient_67 : decode cX1_quotient 67 = .ok (.goto 4, 3) := by decide +kernel
theorem dX1_quotient_70 : decode cX1_quotient 70 = .ok (.iconst 0, 1) := by decide +kernel
theorem dX1_quotient_71 : decode cX1_quotient 71 = .ok (.istore 5, 2) := by decide +kernel
theorem dX1_quotient_73 : decode cX1_quotient 73 = .ok (.aload_n 0, 1) := by decide +kernel
theorem dX1_quotient_74 : decode cX1_quotient 74 = .ok (.lload_n 1, 1) := by decide +kernel
theorem dX1_quotient_75 : decode cX1_quotient 75 = .ok (.invokevirtual 78, 3) := by decide +kernel
theorem dX1_quotient_78 : decode cX1_quotient 78 = .ok (.ifCond .ne 11, 3) := by decide +kernel
theorem dX1_quotient_81 : decode cX1_quotient 81 = .ok (.aload_n 0, 1) := by decide +kernel
theorem dX1_quotient_82 : decode cX1_quotient 82 = .ok (.lload_n 3, 1) := by decide +kernel
theorem dX1_quotient_83 : decode cX1_quotient 83 = .ok (.invokevirtual 88, 3) := by decide +kernel
theorem dX1_quotient_86 : decode cX1_quotient 86 = .ok (.ifCond .eq 14, 3) := by decide +kernel
theorem dX1_quotient_89 : decode cX1_quotient 89 = .ok (.aload_n 0, 1) := by decide +kernel
theorem dX1_quotient_90 : decode cX1_quotient 90 = .ok (.iload 5, 2) := by decide +kernel
theorem dX1_quotient_92 : decode cX1_quotient 92 = .ok (.aload_n 0, 1) := by decide +kernel
theorem dX1_quotient_93 : decode cX1_quotient 93 = .ok (.getfield 45, 3) := by decide +kernel
theorem dX1_quotient_96 : decode cX1_quotient 96 = .ok (.invokevirtual 84, 3) := by decide +kernel
theorem dX1_quotient_99 : decode cX1_quotient 99 = .ok (.lreturn, 1) := by decide +kernel
theorem dX1_quotient_100 : decode cX1_quotient 100 = .ok (.aload_n 0, 1) := by decide +kernel
theorem dX1_quotient_101 : decode cX1_quotient 101 = .ok (.lload_n 1, 1) := by decide +kernel
theorem dX1_quotient_102 : decode cX1_quotient 102 = .ok (.invokevirtual 88, 3) := by decide +kernel
theorem dX1_quotient_105 : decode cX1_quotient 105 = .ok (.ifCond .ne 11, 3) := by decide +kernel
theorem dX1_quotient_108 : decode cX1_quotient 108 = .ok (.aload_n 0, 1) := by decide +kernel
theorem dX1_quotient_109 : decode cX1_quotient 109 = .ok (.lload_n 3, 1) := by decide +kernel
theorem dX1_quotient_110 : decode cX1_quotient 110 = .ok (.invokevirtual 78, 3) := by decide +kernel
theorem dX1_quotient_113 : decode cX1_quotient 113 = .ok (.ifCond .eq 11, 3) := by decide +kernel
theorem dX1_quotient_116 : decode cX1_quotient 116 = .ok (.aload_n 0, 1) := by decide +kernel
theorem dX1_quotient_117 : decode cX1_quotient 117 = .ok (.iload 5, 2) := by decide +kernel
theorem dX1_quotient_119 : decode cX1_quotient 119 = .ok (.lconst 0, 1) := by decide +kernel
theorem dX1_quotient_120 : decode cX1_quotient 120 = .ok (.invokevirtual 84, 3) := by decide +kernel
theorem dX1_quotient_123 : decode cX1_quotient 123 = .ok (.lreturn, 1) := by decide +kernel
theorem dX1_quotient_124 : decode cX1_quotient 124 = .ok (.aload_n 0, 1) := by decide +kernel
theorem dX1_quotient_125 : decode cX1_quotient 125 = .ok (.lload_n 1, 1) := by decide +kernel
theorem dX1_quotient_126 : decode cX1_quotient 126 = .ok (.invokevirtual 91, 3) := by decide +kernel
theorem dX1_quotient_129 : decode cX1_quotient 129 = .ok (.aload_n 0, 1) := by decide +kernel
theorem dX1_quotient_130 : decode cX1_quotient 130 = .ok (.lload_n 3, 1) := by decide +kernel
theorem dX1_quotient_131 : decode cX1_quotient 131 = .ok (.invokevirtual 91, 3) := by decide +kernel
theorem dX1_quotient_134 : decode cX1_quotient 134 = .ok (.isub, 1) := by decide +kernel
theorem dX1_quotient_135 : decode cX1_quotient 135 = .ok (.bipush 60, 2) := by decide +kernel
theorem dX1_quotient_137 : decode cX1_quotient 137 = .ok (.isub, 1) := by decide +kernel
theorem dX1_quotient_138 : decode cX1_quotient 138 = .ok (.istore 6, 2) := by decide +kernel
theorem dX1_quotient_140 : decode cX1_quotient 140 = .ok (.aload_n 0, 1) := by decide +kernel
theorem dX1_quotient_141 : decode cX1_quotient 141 = .ok (.iload 5, 2) := by decide +kernel
theorem dX1_quotient_143 : decode cX1_quotient 143 = .ok (.iload 6, 2) := by decide +kernel
theorem dX1_quotient_145 : decode cX1_quotient 145 = .ok (.aload_n 0, 1) := by decide +kernel
theorem dX1_quotient_146 : decode cX1_quotient 146 = .ok (.lload_n 1, 1) := by decide +kernel
theorem dX1_quotient_147 : decode cX1_quotient 147 = .ok (.invokevirtual 95, 3) := by decide +kernel
theorem dX1_quotient_150 : decode cX1_quotient 150 = .ok (.aload_n 0, 1) := by decide +kernel
theorem dX1_quotient_151 : decode cX1_quotient 151 = .ok (.lload_n 3, 1) := by decide +kernel
theorem dX1_quotient_152 : decode cX1_quotient 152 = .ok (.invokevirtual 95, 3) := by decide +kernel
theorem dX1_quotient_155 : decode cX1_quotient 155 = .ok (.invokestatic 111, 3) := by decide +kernel
theorem dX1_quotient_158 : decode cX1_quotient 158 = .ok (.invokevirtual 69, 3) := by decide +kernel
theorem dX1_quotient_161 : decode cX1_quotient 161 = .ok (.lreturn, 1) := by decide +kernel
theorem dX1_remainder_0 : decode cX1_remainder 0 = .ok (.aload_n 0, 1) := by decide +kernel
theorem dX1_remainder_1 : decode cX1_remainder 1 = .ok (.lload_n 1, 1) := by decide +kernel
theorem dX1_remainder_2 : decode cX1_remainder 2 = .ok (.invokevirtual 51, 3) := by decide +kernel
theorem dX1_remainder_5 : decode cX1_remainder 5 = .ok (.ifCond .ne 27, 3) := by decide +kernel
theorem dX1_remainder_8 : decode cX1_remainder 8 = .ok (.aload_n 0, 1) := by decide +kernel
theorem dX1_remainder_9 : decode cX1_remainder 9 = .ok (.lload_n 3, 1) := by decide +kernel
theorem dX1_remainder_10 : decode cX1_remainder 10 = .ok (.invokevirtual 51, 3) := by decide +kernel
theorem dX1_remainder_13 : decode cX1_remainder 13 = .ok (.ifCond .ne 19, 3) := by decide +kernel
theorem dX1_remainder_16 : decode cX1_remainder 16 = .ok (.aload_n 0, 1) := by decide +kernel
theorem dX1_remainder_17 : decode cX1_remainder 17 = .ok (.lload_n 1, 1) := by decide +kernel
theorem dX1_remainder_18 : decode cX1_remainder 18 = .ok (.invokevirtual 78, 3) := by decide +kernel
theorem dX1_remainder_21 : decode cX1_remainder 21 = .ok (.ifCond .ne 11, 3) := by decide +kernel
theorem dX1_remainder_24 : decode cX1_remainder 24 = .ok (.aload_n 0, 1) := by decide +kernel
theorem dX1_remainder_25 : decode cX1_remainder 25 = .ok (.lload_n 3, 1) := by decide +kernel
theorem dX1_remainder_26 : decode cX1_remainder 26 = .ok (.invokevirtual 88, 3) := by decide +kernel
theorem dX1_remainder_29 : decode cX1_remainder 29 = .ok (.ifCond .eq 8, 3) := by decide +kernel
theorem dX1_remainder_32 : decode cX1_remainder 32 = .ok (.aload_n 0, 1) := by decide +kernel
theorem dX1_remainder_33 : decode cX1_remainder 33 = .ok (.getfield 48, 3) := by decide +kernel
theorem dX1_remainder_36 : decode cX1_remainder 36 = .ok (.lreturn, 1) := by decide +kernel
theorem dX1_remainder_37 : decode cX1_remainder 37 = .ok (.aload_n 0, 1) := by decide +kernel
theorem dX1_remainder_38 : decode cX1_remainder 38 = .ok (.lload_n 1, 1) := by decide +kernel
theorem dX1_remainder_39 : decode cX1_remainder 39 = .ok (.invokevirtual 88, 3) := by decide +kernel
theorem dX1_remainder_42 : decode cX1_remainder 42 = .ok (.ifCond .ne 24, 3) := by decide +kernel
theorem dX1_remainder_45 : decode cX1_remainder 45 = .ok (.aload_n 0, 1) := by decide +kernel
theorem dX1_remainder_46 : decode cX1_remainder 46 = .ok (.lload_n 3, 1) := by decide +kernel
theorem dX1_remainder_47 : decode cX1_remainder 47 = .ok (.invokevirtual 78, 3) := by decide +kernel
theorem dX1_remainder_50 : decode cX1_remainder 50 = .ok (.ifCond .ne 16, 3) := by decide +kernel
theorem dX1_remainder_53 : decode cX1_remainder 53 = .ok (.aload_n 0, 1) := by decide +kernel
theorem dX1_remainder_54 : decode cX1_remainder 54 = .ok (.lload_n 1, 1) := by decide +kernel
theorem dX1_remainder_55 : decode cX1_remainder 55 = .ok (.invokevirtual 91, 3) := by decide +kernel
theorem dX1_remainder_58 : decode cX1_remainder 58 = .ok (.aload_n 0, 1) := by decide +kernel
theorem dX1_remainder_59 : decode cX1_remainder 59 = .ok (.lload_n 3, 1) := by decide +kernel
theorem dX1_remainder_60 : decode cX1_remainder 60 = .ok (.invokevirtual 91, 3) := by decide +kernel
theorem dX1_remainder_63 : decode cX1_remainder 63 = .ok (.if_icmp .ge 5, 3) := by decide +kernel
theorem dX1_remainder_66 : decode cX1_remainder 66 = .ok (.lload_n 1, 1) := by decide +kernel
theorem dX1_remainder_67 : decode cX1_remainder 67 = .ok (.lreturn, 1) := by decide +kernel
theorem dX1_remainder_68 : decode cX1_remainder 68 = .ok (.aload_n 0, 1) := by decide +kernel
theorem dX1_remainder_69 : decode cX1_remainder 69 = .ok (.lload_n 1, 1) := by decide +kernel
theorem dX1_remainder_70 : decode cX1_remainder 70 = .ok (.invokevirtual 95, 3) := by decide +kernel
theorem dX1_remainder_73 : decode cX1_remainder 73 = .ok (.aload_n 0, 1) := by decide +kernel
theorem dX1_remainder_74 : decode cX1_remainder 74 = .ok (.lload_n 3, 1) := by decide +kernel
theorem dX1_remainder_75 : decode cX1_remainder 75 = .ok (.invokevirtual 95, 3) := by decide +kernel
theorem dX1_remainder_78 : decode cX1_remainder 78 = .ok (.aload_n 0, 1) := by decide +kernel
theorem dX1_remainder_79 : decode cX1_remainder 79 = .ok (.lload_n 1, 1) := by decide +kernel
theorem dX1_remainder_80 : decode cX1_remainder 80 = .ok (.invokevirtual 91, 3) := by decide +kernel
theorem dX1_remainder_83 : decode cX1_remainder 83 = .ok (.aload_n 0, 1) := by decide +kernel
theorem dX1_remainder_84 : decode cX1_remainder 84 = .ok (.lload_n 3, 1) := by decide +kernel
theorem dX1_remainder_85 : decode cX1_remainder 85 = .ok (.invokevirtual 91, 3) := by decide +kernel
theorem dX1_remainder_88 : decode cX1_remainder 88 = .ok (.isub, 1) := by decide +kernel
theorem dX1_remainder_89 : decode cX1_remainder 89 = .ok (.invokestatic 114, 3) := by decide +kernel
theorem dX1_remainder_92 : decode cX1_remainder 92 = .ok (.lstore 5, 2) := by decide +kernel
theorem dX1_remainder_94 : decode cX1_remainder 94 = .ok (.lload 5, 2) := by decide +kernel
theorem dX1_remainder_96 : decode cX1_remainder 96 = .ok (.lconst 0, 1) := by decide +kernel
theorem dX1_remainder_97 : decode cX1_remainder 97 = .ok (.lcmp, 1) := by decide +kernel
theorem dX1_remainder_98 : decode cX1_remainder 98 = .ok (.ifCond .ne 16, 3) := by decide +kernel
theorem dX1_remainder_101 : decode cX1_remainder 101 = .ok (.aload_n 0, 1) := by decide +kernel
theorem dX1_remainder_102 : decode cX1_remainder 102 = .ok (.aload_n 0, 1) := by decide +kernel
theorem dX1_remainder_103 : decode cX1_remainder 103 = .ok (.lload_n 1, 1) := by decide +kernel
theorem dX1_remainder_104 : decode cX1_remainder 104 = .ok (.invokevirtual 81, 3) := by decide +kernel
theorem dX1_remainder_107 : decode cX1_remainder 107 = .ok (.lconst 0, 1) := by decide +kernel
theorem dX1_remainder_108 : decode cX1_remainder 108 = .ok (.invokevirtual 84, 3) := by decide +kernel
theorem dX1_remainder_111 : decode cX1_remainder 111 = .ok (.goto 19, 3) := by decide +kernel
theorem dX1_remainder_114 : decode cX1_remainder 114 = .ok (.aload_n 0, 1) := by decide +kernel
theorem dX1_remainder_115 : decode cX1_remainder 115 = .ok (.aload_n 0, 1) := by decide +kernel
theorem dX1_remainder_116 : decode cX1_remainder 116 = .ok (.lload_n 1, 1) := by decide +kernel
theorem dX1_remainder_117 : decode cX1_remainder 117 = .ok (.invokevirtual 81, 3) := by decide +kernel
theorem dX1_remainder_120 : decode cX1_remainder 120 = .ok (.aload_n 0, 1) := by decide +kernel
theorem dX1_remainder_121 : decode cX1_remainder 121 = .ok (.lload_n 3, 1) := by decide +kernel
theorem dX1_remainder_122 : decode cX1_remainder 122 = .ok (.invokevirtual 91, 3) := by decide +kernel
theorem dX1_remainder_125 : decode cX1_remainder 125 = .ok (.lload 5, 2) := by decide +kernel
theorem dX1_remainder_127 : decode cX1_remainder 127 = .ok (.invokevirtual 69, 3) := by decide +kernel
theorem dX1_remainder_130 : decode cX1_remainder 130 = .ok (.lreturn, 1) := by decide +kernel
theorem dX1_isNan_0 : decode cX1_isNan 0 = .ok (.aload_n 0, 1) := by decide +kernel
theorem dX1_isNan_1 : decode cX1_isNan 1 = .ok (.lload_n 1, 1) := by decide +kernel
theorem dX1_isNan_2 : decode cX1_isNan 2 = .ok (.invokevirtual 118, 3) := by decide +kernel
theorem dX1_isNan_5 : decode cX1_isNan 5 = .ok (.aload_n 0, 1) := by decide +kernel
theorem dX1_isNan_6 : decode cX1_isNan 6 = .ok (.getfield 45, 3) := by decide +kernel
theorem dX1_isNan_9 : decode cX1_isNan 9 = .ok (.lcmp, 1) := by decide +kernel
theorem dX1_isNan_10 : decode cX1_isNan 10 = .ok (.ifCond .le 7, 3) := by decide +kernel
theorem dX1_isNan_13 : decode cX1_isNan 13 = .ok (.iconst 1, 1) := by decide +kernel
theorem dX1_isNan_14 : decode cX1_isNan 14 = .ok (.goto 4, 3) := by decide +kernel
theorem dX1_isNan_17 : decode cX1_isNan 17 = .ok (.iconst 0, 1) := by decide +kernel
theorem dX1_isNan_18 : decode cX1_isNan 18 = .ok (.ireturn, 1) := by decide +kernel
theorem dX1_isInfinite_0 : decode cX1_isInfinite 0 = .ok (.aload_n 0, 1) := by decide +kernel
theorem dX1_isInfinite_1 : decode cX1_isInfinite 1 = .ok (.lload_n 1, 1) := by decide +kernel
theorem dX1_isInfinite_2 : decode cX1_isInfinite 2 = .ok (.invokevirtual 118, 3) := by decide +kernel
theorem dX1_isInfinite_5 : decode cX1_isInfinite 5 = .ok (.aload_n 0, 1) := by decide +kernel
theorem dX1_isInfinite_6 : decode cX1_isInfinite 6 = .ok (.getfield 45, 3) := by decide +kernel
theorem dX1_isInfinite_9 : decode cX1_isInfinite 9 = .ok (.lcmp, 1) := by decide +kernel
theorem dX1_isInfinite_10 : decode cX1_isInfinite 10 = .ok (.ifCond .ne 7, 3) := by decide +kernel
theorem dX1_isInfinite_13 : decode cX1_isInfinite 13 = .ok (.iconst 1, 1) := by decide +kernel
theorem dX1_isInfinite_14 : decode cX1_isInfinite 14 = .ok (.goto 4, 3) := by decide +kernel
theorem dX1_isInfinite_17 : decode cX1_isInfinite 17 = .ok (.iconst 0, 1) := by decide +kernel
theorem dX1_isInfinite_18 : decode cX1_isInfinite 18 = .ok (.ireturn, 1) := by decide +kernel
theorem dX1_isZero_0 : decode cX1_isZero 0 = .ok (.aload_n 0, 1) := by decide +kernel
theorem dX1_isZero_1 : decode cX1_isZero 1 = .ok (.lload_n 1, 1) := by decide +kernel
theorem dX1_isZero_2 : decode cX1_isZero 2 = .ok (.invokevirtual 118, 3) := by decide +kernel
theorem dX1_isZero_5 : decode cX1_isZero 5 = .ok (.lconst 0, 1) := by decide +kernel
theorem dX1_isZero_6 : decode cX1_isZero 6 = .ok (.lcmp, 1) := by decide +kernel
theorem dX1_isZero_7 : decode cX1_isZero 7 = .ok (.ifCond .ne 7, 3) := by decide +kernel
theorem dX1_isZero_10 : decode cX1_isZero 10 = .ok (.iconst 1, 1) := by decide +kernel
theorem dX1_isZero_11 : decode cX1_isZero 11 = .ok (.goto 4, 3) := by decide +kernel
theorem dX1_isZero_14 : decode cX1_isZero 14 = .ok (.iconst 0, 1) := by decide +kernel
theorem dX1_isZero_15 : decode cX1_isZero 15 = .ok (.ireturn, 1) := by decide +kernel
theorem dX1_isNegative_0 : decode cX1_isNegative 0 = .ok (.lload_n 1, 1) := by decide +kernel
theorem dX1_isNegative_1 : decode cX1_isNegative 1 = .ok (.aload_n 0, 1) := by decide +kernel
theorem dX1_isNegative_2 : decode cX1_isNegative 2 = .ok (.getfield 36, 3) := by decide +kernel
theorem dX1_isNegative_5 : decode cX1_isNegative 5 = .ok (.land, 1) := by decide +kernel
theorem dX1_isNegative_6 : decode cX1_isNegative 6 = .ok (.lconst 0, 1) := by decide +kernel
theorem dX1_isNegative_7 : decode cX1_isNegative 7 = .ok (.lcmp, 1) := by decide +kernel
theorem dX1_isNegative_8 : decode cX1_isNegative 8 = .ok (.ifCond .eq 7, 3) := by decide +kernel
theorem dX1_isNegative_11 : decode cX1_isNegative 11 = .ok (.iconst 1, 1) := by decide +kernel
theorem dX1_isNegative_12 : decode cX1_isNegative 12 = .ok (.goto 4, 3) := by decide +kernel
theorem dX1_isNegative_15 : decode cX1_isNegative 15 = .ok (.iconst 0, 1) := by decide +kernel
theorem dX1_isNegative_16 : decode cX1_isNegative 16 = .ok (.ireturn, 1) := by decide +kernel
theorem dX1_signed_0 : decode cX1_signed 0 = .ok (.iload_n 1, 1) := by decide +kernel
theorem dX1_signed_1 : decode cX1_signed 1 = .ok (.ifCond .eq 12, 3) := by decide +kernel
theorem dX1_signed_4 : decode cX1_signed 4 = .ok (.lload_n 2, 1) := by decide +kernel
theorem dX1_signed_5 : decode cX1_signed 5 = .ok (.aload_n 0, 1) := by decide +kernel
theorem dX1_signed_6 : decode cX1_signed 6 = .ok (.getfield 36, 3) := by decide +kernel
theorem dX1_signed_9 : decode cX1_signed 9 = .ok (.lor, 1) := by decide +kernel
theorem dX1_signed_10 : decode cX1_signed 10 = .ok (.goto 4, 3) := by decide +kernel
theorem dX1_signed_13 : decode cX1_signed 13 = .ok (.lload_n 2, 1) := by decide +kernel
theorem dX1_signed_14 : decode cX1_signed 14 = .ok (.lreturn, 1) := by decide +kernel
theorem dX1_order_0 : decode cX1_order 0 = .ok (.aload_n 0, 1) := by decide +kernel
theorem dX1_order_1 : decode cX1_order 1 = .ok (.lload_n 1, 1) := by decide +kernel
theorem dX1_order_2 : decode cX1_order 2 = .ok (.invokevirtual 81, 3) := by decide +kernel
theorem dX1_order_5 : decode cX1_order 5 = .ok (.ifCond .eq 12, 3) := by decide +kernel
theorem dX1_order_8 : decode cX1_order 8 = .ok (.aload_n 0, 1) := by decide +kernel
theorem dX1_order_9 : decode cX1_order 9 = .ok (.lload_n 1, 1) := by decide +kernel
theorem dX1_order_10 : decode cX1_order 10 = .ok (.invokevirtual 118, 3) := by decide +kernel
theorem dX1_order_13 : decode cX1_order 13 = .ok (.lneg, 1) := by decide +kernel
theorem dX1_order_14 : decode cX1_order 14 = .ok (.goto 4, 3) := by decide +kernel
theorem dX1_order_17 : decode cX1_order 17 = .ok (.lload_n 1, 1) := by decide +kernel
theorem dX1_order_18 : decode cX1_order 18 = .ok (.lreturn, 1) := by decide +kernel
theorem dX1_exponent_0 : decode cX1_exponent 0 = .ok (.aload_n 0, 1) := by decide +kernel
theorem dX1_exponent_1 : decode cX1_exponent 1 = .ok (.lload_n 1, 1) := by decide +kernel
theorem dX1_exponent_2 : decode cX1_exponent 2 = .ok (.invokevirtual 118, 3) := by decide +kernel
theorem dX1_exponent_5 : decode cX1_exponent 5 = .ok (.aload_n 0, 1) := by decide +kernel
theorem dX1_exponent_6 : decode cX1_exponent 6 = .ok (.getfield 29, 3) := by decide +kernel
theorem dX1_exponent_9 : decode cX1_exponent 9 = .ok (.lushr, 1) := by decide +kernel
theorem dX1_exponent_10 : decode cX1_exponent 10 = .ok (.l2i, 1) := by decide +kernel
theorem dX1_exponent_11 : decode cX1_exponent 11 = .ok (.istore_n 3, 1) := by decide +kernel
theorem dX1_exponent_12 : decode cX1_exponent 12 = .ok (.aload_n 0, 1) := by decide +kernel
theorem dX1_exponent_13 : decode cX1_exponent 13 = .ok (.getfield 33, 3) := by decide +kernel
theorem dX1_exponent_16 : decode cX1_exponent 16 = .ok (.iload_n 3, 1) := by decide +kernel
theorem dX1_exponent_17 : decode cX1_exponent 17 = .ok (.iconst 1, 1) := by decide +kernel
theorem dX1_exponent_18 : decode cX1_exponent 18 = .ok (.isub, 1) := by decide +kernel
theorem dX1_exponent_19 : decode cX1_exponent 19 = .ok (.iconst 0, 1) := by decide +kernel
theorem dX1_exponent_20 : decode cX1_exponent 20 = .ok (.invokestatic 121, 3) := by decide +kernel
theorem dX1_exponent_23 : decode cX1_exponent 23 = .ok (.iadd, 1) := by decide +kernel
theorem dX1_exponent_24 : decode cX1_exponent 24 = .ok (.aload_n 0, 1) := by decide +kernel
theorem dX1_exponent_25 : decode cX1_exponent 25 = .ok (.lload_n 1, 1) := by decide +kernel
theorem dX1_exponent_26 : decode cX1_exponent 26 = .ok (.invokevirtual 125, 3) := by decide +kernel
theorem dX1_exponent_29 : decode cX1_exponent 29 = .ok (.invokestatic 128, 3) := by decide +kernel
theorem dX1_exponent_32 : decode cX1_exponent 32 = .ok (.isub, 1) := by decide +kernel
theorem dX1_exponent_33 : decode cX1_exponent 33 = .ok (.ireturn, 1) := by decide +kernel
theorem dX1_significand_0 : decode cX1_significand 0 = .ok (.aload_n 0, 1) := by decide +kernel
theorem dX1_significand_1 : decode cX1_significand 1 = .ok (.lload_n 1, 1) := by decide +kernel
theorem dX1_significand_2 : decode cX1_significand 2 = .ok (.invokevirtual 125, 3) := by decide +kernel
theorem dX1_significand_5 : decode cX1_significand 5 = .ok (.lstore_n 3, 1) := by decide +kernel
theorem dX1_significand_6 : decode cX1_significand 6 = .ok (.lload_n 3, 1) := by decide +kernel
theorem dX1_significand_7 : decode cX1_significand 7 = .ok (.lload_n 3, 1) := by decide +kernel
theorem dX1_significand_8 : decode cX1_significand 8 = .ok (.invokestatic 128, 3) := by decide +kernel
theorem dX1_significand_11 : decode cX1_significand 11 = .ok (.lshl, 1) := by decide +kernel
theorem dX1_significand_12 : decode cX1_significand 12 = .ok (.lreturn, 1) := by decide +kernel
theorem dX1_unscaled_0 : decode cX1_unscaled 0 = .ok (.lconst 1, 1) := by decide +kernel
theorem dX1_unscaled_1 : decode cX1_unscaled 1 = .ok (.aload_n 0, 1) := by decide +kernel
theorem dX1_unscaled_2 : decode cX1_unscaled 2 = .ok (.getfield 29, 3) := by decide +kernel
theorem dX1_unscaled_5 : decode cX1_unscaled 5 = .ok (.lshl, 1) := by decide +kernel
theorem dX1_unscaled_6 : decode cX1_unscaled 6 = .ok (.lstore_n 3, 1) := by decide +kernel
theorem dX1_unscaled_7 : decode cX1_unscaled 7 = .ok (.lload_n 1, 1) := by decide +kernel
theorem dX1_unscaled_8 : decode cX1_unscaled 8 = .ok (.lload_n 3, 1) := by decide +kernel
theorem dX1_unscaled_9 : decode cX1_unscaled 9 = .ok (.lconst 1, 1) := by decide +kernel
theorem dX1_unscaled_10 : decode cX1_unscaled 10 = .ok (.lsub, 1) := by decide +kernel
theorem dX1_unscaled_11 : decode cX1_unscaled 11 = .ok (.land, 1) := by decide +kernel
theorem dX1_unscaled_12 : decode cX1_unscaled 12 = .ok (.lstore 5, 2) := by decide +kernel
theorem dX1_unscaled_14 : decode cX1_unscaled 14 = .ok (.aload_n 0, 1) := by decide +kernel
theorem dX1_unscaled_15 : decode cX1_unscaled 15 = .ok (.lload_n 1, 1) := by decide +kernel
theorem dX1_unscaled_16 : decode cX1_unscaled 16 = .ok (.invokevirtual 118, 3) := by decide +kernel
theorem dX1_unscaled_19 : decode cX1_unscaled 19 = .ok (.lload_n 3, 1) := by decide +kernel
theorem dX1_unscaled_20 : decode cX1_unscaled 20 = .ok (.lcmp, 1) := by decide +kernel
theorem dX1_unscaled_21 : decode cX1_unscaled 21 = .ok (.ifCond .ge 8, 3) := by decide +kernel
theorem dX1_unscaled_24 : decode cX1_unscaled 24 = .ok (.lload 5, 2) := by decide +kernel
theorem dX1_unscaled_26 : decode cX1_unscaled 26 = .ok (.goto 7, 3) := by decide +kernel
theorem dX1_unscaled_29 : decode cX1_unscaled 29 = .ok (.lload 5, 2) := by decide +kernel
theorem dX1_unscaled_31 : decode cX1_unscaled 31 = .ok (.lload_n 3, 1) := by decide +kernel
theorem dX1_unscaled_32 : decode cX1_unscaled 32 = .ok (.lor, 1) := by decide +kernel
theorem dX1_unscaled_33 : decode cX1_unscaled 33 = .ok (.lreturn, 1) := by decide +kernel
theorem dX1_placesUp_0 : decode cX1_placesUp 0 = .ok (.lload_n 0, 1) := by decide +kernel
theorem dX1_placesUp_1 : decode cX1_placesUp 1 = .ok (.invokestatic 131, 3) := by decide +kernel
theorem dX1_placesUp_4 : decode cX1_placesUp 4 = .ok (.bipush 11, 2) := by decide +kernel
theorem dX1_placesUp_6 : decode cX1_placesUp 6 = .ok (.isub, 1) := by decide +kernel
theorem dX1_placesUp_7 : decode cX1_placesUp 7 = .ok (.iconst 0, 1) := by decide +kernel
theorem dX1_placesUp_8 : decode cX1_placesUp 8 = .ok (.invokestatic 121, 3) := by decide +kernel
theorem dX1_placesUp_11 : decode cX1_placesUp 11 = .ok (.ireturn, 1) := by decide +kernel
theorem dX1_rounded_0 : decode cX1_rounded 0 = .ok (.bipush 63, 2) := by decide +kernel
theorem dX1_rounded_2 : decode cX1_rounded 2 = .ok (.aload_n 0, 1) := by decide +kernel
theorem dX1_rounded_3 : decode cX1_rounded 3 = .ok (.getfield 29, 3) := by decide +kernel
theorem dX1_rounded_6 : decode cX1_rounded 6 = .ok (.isub, 1) := by decide +kernel
theorem dX1_rounded_7 : decode cX1_rounded 7 = .ok (.lload_n 3, 1) := by decide +kernel
theorem dX1_rounded_8 : decode cX1_rounded 8 = .ok (.invokestatic 131, 3) := by decide +kernel
theorem dX1_rounded_11 : decode cX1_rounded 11 = .ok (.isub, 1) := by decide +kernel
theorem dX1_rounded_12 : decode cX1_rounded 12 = .ok (.istore 5, 2) := by decide +kernel
theorem dX1_rounded_14 : decode cX1_rounded 14 = .ok (.iload 5, 2) := by decide +kernel
theorem dX1_rounded_16 : decode cX1_rounded 16 = .ok (.aload_n 0, 1) := by decide +kernel
theorem dX1_rounded_17 : decode cX1_rounded 17 = .ok (.getfield 33, 3) := by decide +kernel
theorem dX1_rounded_20 : decode cX1_rounded 20 = .ok (.iload_n 2, 1) := by decide +kernel
theorem dX1_rounded_21 : decode cX1_rounded 21 = .ok (.isub, 1) := by decide +kernel
theorem dX1_rounded_22 : decode cX1_rounded 22 = .ok (.invokestatic 121, 3) := by decide +kernel
theorem dX1_rounded_25 : decode cX1_rounded 25 = .ok (.istore 6, 2) := by decide +kernel
theorem dX1_rounded_27 : decode cX1_rounded 27 = .ok (.iload_n 2, 1) := by decide +kernel
theorem dX1_rounded_28 : decode cX1_rounded 28 = .ok (.iload 6, 2) := by decide +kernel
theorem dX1_rounded_30 : decode cX1_rounded 30 = .ok (.iadd, 1) := by decide +kernel
theorem dX1_rounded_31 : decode cX1_rounded 31 = .ok (.aload_n 0, 1) := by decide +kernel
theorem dX1_rounded_32 : decode cX1_rounded 32 = .ok (.getfield 33, 3) := by decide +kernel
theorem dX1_rounded_35 : decode cX1_rounded 35 = .ok (.isub, 1) := by decide +kernel
theorem dX1_rounded_36 : decode cX1_rounded 36 = .ok (.istore 7, 2) := by decide +kernel
theorem dX1_rounded_38 : decode cX1_rounded 38 = .ok (.iload 7, 2) := by decide +kernel
theorem dX1_rounded_40 : decode cX1_rounded 40 = .ok (.aload_n 0, 1) := by decide +kernel
theorem dX1_rounded_41 : decode cX1_rounded 41 = .ok (.getfield 42, 3) := by decide +kernel
theorem dX1_rounded_44 : decode cX1_rounded 44 = .ok (.iconst 1, 1) := by decide +kernel
theorem dX1_rounded_45 : decode cX1_rounded 45 = .ok (.isub, 1) := by decide +kernel
theorem dX1_rounded_46 : decode cX1_rounded 46 = .ok (.if_icmp .lt 13, 3) := by decide +kernel
theorem dX1_rounded_49 : decode cX1_rounded 49 = .ok (.aload_n 0, 1) := by decide +kernel
theorem dX1_rounded_50 : decode cX1_rounded 50 = .ok (.iload_n 1, 1) := by decide +kernel
theorem dX1_rounded_51 : decode cX1_rounded 51 = .ok (.aload_n 0, 1) := by decide +kernel
theorem dX1_rounded_52 : decode cX1_rounded 52 = .ok (.getfield 45, 3) := by decide +kernel
theorem dX1_rounded_55 : decode cX1_rounded 55 = .ok (.invokevirtual 84, 3) := by decide +kernel
theorem dX1_rounded_58 : decode cX1_rounded 58 = .ok (.lreturn, 1) := by decide +kernel
theorem dX1_rounded_59 : decode cX1_rounded 59 = .ok (.iload 6, 2) := by decide +kernel
theorem dX1_rounded_61 : decode cX1_rounded 61 = .ok (.ifCond .le 12, 3) := by decide +kernel
theorem dX1_rounded_64 : decode cX1_rounded 64 = .ok (.lload_n 3, 1) := by decide +kernel
theorem dX1_rounded_65 : decode cX1_rounded 65 = .ok (.iload 6, 2) := by decide +kernel
theorem dX1_rounded_67 : decode cX1_rounded 67 = .ok (.invokestatic 134, 3) := by decide +kernel
theorem dX1_rounded_70 : decode cX1_rounded 70 = .ok (.goto 8, 3) := by decide +kernel
theorem dX1_rounded_73 : decode cX1_rounded 73 = .ok (.lload_n 3, 1) := by decide +kernel
theorem dX1_rounded_74 : decode cX1_rounded 74 = .ok (.iload 6, 2) := by decide +kernel
theorem dX1_rounded_76 : decode cX1_rounded 76 = .ok (.ineg, 1) := by decide +kernel
theorem dX1_rounded_77 : decode cX1_rounded 77 = .ok (.lshl, 1) := by decide +kernel
theorem dX1_rounded_78 : decode cX1_rounded 78 = .ok (.lstore 8, 2) := by decide +kernel
theorem dX1_rounded_80 : decode cX1_rounded 80 = .ok (.aload_n 0, 1) := by decide +kernel
theorem dX1_rounded_81 : decode cX1_rounded 81 = .ok (.iload_n 1, 1) := by decide +kernel
theorem dX1_rounded_82 : decode cX1_rounded 82 = .ok (.iload 7, 2) := by decide +kernel
theorem dX1_rounded_84 : decode cX1_rounded 84 = .ok (.i2l, 1) := by decide +kernel
theorem dX1_rounded_85 : decode cX1_rounded 85 = .ok (.aload_n 0, 1) := by decide +kernel
theorem dX1_rounded_86 : decode cX1_rounded 86 = .ok (.getfield 29, 3) := by decide +kernel
theorem dX1_rounded_89 : decode cX1_rounded 89 = .ok (.lshl, 1) := by decide +kernel
theorem dX1_rounded_90 : decode cX1_rounded 90 = .ok (.lload 8, 2) := by decide +kernel
theorem dX1_rounded_92 : decode cX1_rounded 92 = .ok (.ladd, 1) := by decide +kernel
theorem dX1_rounded_93 : decode cX1_rounded 93 = .ok (.invokevirtual 84, 3) := by decide +kernel
theorem dX1_rounded_96 : decode cX1_rounded 96 = .ok (.lreturn, 1) := by decide +kernel
theorem dX1_shiftedToEven_0 : decode cX1_shiftedToEven 0 = .ok (.iload_n 2, 1) := by decide +kernel
theorem dX1_shiftedToEven_1 : decode cX1_shiftedToEven 1 = .ok (.bipush 63, 2) := by decide +kernel
theorem dX1_shiftedToEven_3 : decode cX1_shiftedToEven 3 = .ok (.if_icmp .le 5, 3) := by decide +kernel
theorem dX1_shiftedToEven_6 : decode cX1_shiftedToEven 6 = .ok (.lconst 0, 1) := by decide +kernel
theorem dX1_shiftedToEven_7 : decode cX1_shiftedToEven 7 = .ok (.lreturn, 1) := by decide +kernel
theorem dX1_shiftedToEven_8 : decode cX1_shiftedToEven 8 = .ok (.lload_n 0, 1) := by decide +kernel
theorem dX1_shiftedToEven_9 : decode cX1_shiftedToEven 9 = .ok (.iload_n 2, 1) := by decide +kernel
theorem dX1_shiftedToEven_10 : decode cX1_shiftedToEven 10 = .ok (.lushr, 1) := by decide +kernel
theorem dX1_shiftedToEven_11 : decode cX1_shiftedToEven 11 = .ok (.lstore_n 3, 1) := by decide +kernel
theorem dX1_shiftedToEven_12 : decode cX1_shiftedToEven 12 = .ok (.lload_n 0, 1) := by decide +kernel
theorem dX1_shiftedToEven_13 : decode cX1_shiftedToEven 13 = .ok (.lload_n 3, 1) := by decide +kernel
theorem dX1_shiftedToEven_14 : decode cX1_shiftedToEven 14 = .ok (.iload_n 2, 1) := by decide +kernel
theorem dX1_shiftedToEven_15 : decode cX1_shiftedToEven 15 = .ok (.lshl, 1) := by decide +kernel
theorem dX1_shiftedToEven_16 : decode cX1_shiftedToEven 16 = .ok (.lsub, 1) := by decide +kernel
theorem dX1_shiftedToEven_17 : decode cX1_shiftedToEven 17 = .ok (.lstore 5, 2) := by decide +kernel
theorem dX1_shiftedToEven_19 : decode cX1_shiftedToEven 19 = .ok (.lconst 1, 1) := by decide +kernel
theorem dX1_shiftedToEven_20 : decode cX1_shiftedToEven 20 = .ok (.iload_n 2, 1) := by decide +kernel
theorem dX1_shiftedToEven_21 : decode cX1_shiftedToEven 21 = .ok (.iconst 1, 1) := by decide +kernel
theorem dX1_shiftedToEven_22 : decode cX1_shiftedToEven 22 = .ok (.isub, 1) := by decide +kernel
theorem dX1_shiftedToEven_23 : decode cX1_shiftedToEven 23 = .ok (.lshl, 1) := by decide +kernel
theorem dX1_shiftedToEven_24 : decode cX1_shiftedToEven 24 = .ok (.lstore 7, 2) := by decide +kernel
theorem dX1_shiftedToEven_26 : decode cX1_shiftedToEven 26 = .ok (.lload 5, 2) := by decide +kernel
theorem dX1_shiftedToEven_28 : decode cX1_shiftedToEven 28 = .ok (.lload 7, 2) := by decide +kernel
theorem dX1_shiftedToEven_30 : decode cX1_shiftedToEven 30 = .ok (.lcmp, 1) := by decide +kernel
theorem dX1_shiftedToEven_31 : decode cX1_shiftedToEven 31 = .ok (.ifCond .gt 19, 3) := by decide +kernel
theorem dX1_shiftedToEven_34 : decode cX1_shiftedToEven 34 = .ok (.lload 5, 2) := by decide +kernel
theorem dX1_shiftedToEven_36 : decode cX1_shiftedToEven 36 = .ok (.lload 7, 2) := by decide +kernel
theorem dX1_shiftedToEven_38 : decode cX1_shiftedToEven 38 = .ok (.lcmp, 1) := by decide +kernel
theorem dX1_shiftedToEven_39 : decode cX1_shiftedToEven 39 = .ok (.ifCond .ne 15, 3) := by decide +kernel
theorem dX1_shiftedToEven_42 : decode cX1_shiftedToEven 42 = .ok (.lload_n 3, 1) := by decide +kernel
theorem dX1_shiftedToEven_43 : decode cX1_shiftedToEven 43 = .ok (.lconst 1, 1) := by decide +kernel
theorem dX1_shiftedToEven_44 : decode cX1_shiftedToEven 44 = .ok (.land, 1) := by decide +kernel
theorem dX1_shiftedToEven_45 : decode cX1_shiftedToEven 45 = .ok (.lconst 1, 1) := by decide +kernel
theorem dX1_shiftedToEven_46 : decode cX1_shiftedToEven 46 = .ok (.lcmp, 1) := by decide +kernel
theorem dX1_shiftedToEven_47 : decode cX1_shiftedToEven 47 = .ok (.ifCond .ne 7, 3) := by decide +kernel
theorem dX1_shiftedToEven_50 : decode cX1_shiftedToEven 50 = .ok (.iconst 1, 1) := by decide +kernel
theorem dX1_shiftedToEven_51 : decode cX1_shiftedToEven 51 = .ok (.goto 4, 3) := by decide +kernel
theorem dX1_shiftedToEven_54 : decode cX1_shiftedToEven 54 = .ok (.iconst 0, 1) := by decide +kernel
theorem dX1_shiftedToEven_55 : decode cX1_shiftedToEven 55 = .ok (.istore 9, 2) := by decide +kernel
theorem dX1_shiftedToEven_57 : decode cX1_shiftedToEven 57 = .ok (.iload 9, 2) := by decide +kernel
theorem dX1_shiftedToEven_59 : decode cX1_shiftedToEven 59 = .ok (.ifCond .eq 9, 3) := by decide +kernel
theorem dX1_shiftedToEven_62 : decode cX1_shiftedToEven 62 = .ok (.lload_n 3, 1) := by decide +kernel
theorem dX1_shiftedToEven_63 : decode cX1_shiftedToEven 63 = .ok (.lconst 1, 1) := by decide +kernel
theorem dX1_shiftedToEven_64 : decode cX1_shiftedToEven 64 = .ok (.ladd, 1) := by decide +kernel
theorem dX1_shiftedToEven_65 : decode cX1_shiftedToEven 65 = .ok (.goto 4, 3) := by decide +kernel
theorem dX1_shiftedToEven_68 : decode cX1_shiftedToEven 68 = .ok (.lload_n 3, 1) := by decide +kernel
theorem dX1_shiftedToEven_69 : decode cX1_shiftedToEven 69 = .ok (.lreturn, 1) := by decide +kernel
theorem dX1_shiftedDown_0 : decode cX1_shiftedDown 0 = .ok (.iload_n 2, 1) := by decide +kernel
theorem dX1_shiftedDown_1 : decode cX1_shiftedDown 1 = .ok (.bipush 62, 2) := by decide +kernel
theorem dX1_shiftedDown_3 : decode cX1_shiftedDown 3 = .ok (.if_icmp .le 5, 3) := by decide +kernel
theorem dX1_shiftedDown_6 : decode cX1_shiftedDown 6 = .ok (.lconst 1, 1) := by decide +kernel
theorem dX1_shiftedDown_7 : decode cX1_shiftedDown 7 = .ok (.lreturn, 1) := by decide +kernel
theorem dX1_shiftedDown_8 : decode cX1_shiftedDown 8 = .ok (.lload_n 0, 1) := by decide +kernel
theorem dX1_shiftedDown_9 : decode cX1_shiftedDown 9 = .ok (.iload_n 2, 1) := by decide +kernel
theorem dX1_shiftedDown_10 : decode cX1_shiftedDown 10 = .ok (.lushr, 1) := by decide +kernel
theorem dX1_shiftedDown_11 : decode cX1_shiftedDown 11 = .ok (.lstore_n 3, 1) := by decide +kernel
theorem dX1_shiftedDown_12 : decode cX1_shiftedDown 12 = .ok (.lload_n 3, 1) := by decide +kernel
theorem dX1_shiftedDown_13 : decode cX1_shiftedDown 13 = .ok (.iload_n 2, 1) := by decide +kernel
theorem dX1_shiftedDown_14 : decode cX1_shiftedDown 14 = .ok (.lshl, 1) := by decide +kernel
theorem dX1_shiftedDown_15 : decode cX1_shiftedDown 15 = .ok (.lload_n 0, 1) := by decide +kernel
theorem dX1_shiftedDown_16 : decode cX1_shiftedDown 16 = .ok (.lcmp, 1) := by decide +kernel
theorem dX1_shiftedDown_17 : decode cX1_shiftedDown 17 = .ok (.ifCond .ne 7, 3) := by decide +kernel
theorem dX1_shiftedDown_20 : decode cX1_shiftedDown 20 = .ok (.lload_n 3, 1) := by decide +kernel
theorem dX1_shiftedDown_21 : decode cX1_shiftedDown 21 = .ok (.goto 6, 3) := by decide +kernel
theorem dX1_shiftedDown_24 : decode cX1_shiftedDown 24 = .ok (.lload_n 3, 1) := by decide +kernel
theorem dX1_shiftedDown_25 : decode cX1_shiftedDown 25 = .ok (.lconst 1, 1) := by decide +kernel
theorem dX1_shiftedDown_26 : decode cX1_shiftedDown 26 = .ok (.lor, 1) := by decide +kernel
theorem dX1_shiftedDown_27 : decode cX1_shiftedDown 27 = .ok (.lreturn, 1) := by decide +kernel
theorem dX1_highProduct_0 : decode cX1_highProduct 0 = .ok (.lload_n 0, 1) := by decide +kernel
theorem dX1_highProduct_1 : decode cX1_highProduct 1 = .ok (.bipush 27, 2) := by decide +kernel
theorem dX1_highProduct_3 : decode cX1_highProduct 3 = .ok (.lushr, 1) := by decide +kernel
theorem dX1_highProduct_4 : decode cX1_highProduct 4 = .ok (.lstore 4, 2) := by decide +kernel
theorem dX1_highProduct_6 : decode cX1_highProduct 6 = .ok (.lload_n 0, 1) := by decide +kernel
theorem dX1_highProduct_7 : decode cX1_highProduct 7 = .ok (.ldc2_w 137, 3) := by decide +kernel
theorem dX1_highProduct_10 : decode cX1_highProduct 10 = .ok (.land, 1) := by decide +kernel
theorem dX1_highProduct_11 : decode cX1_highProduct 11 = .ok (.lstore 6, 2) := by decide +kernel
theorem dX1_highProduct_13 : decode cX1_highProduct 13 = .ok (.lload_n 2, 1) := by decide +kernel
theorem dX1_highProduct_14 : decode cX1_highProduct 14 = .ok (.bipush 27, 2) := by decide +kernel
theorem dX1_highProduct_16 : decode cX1_highProduct 16 = .ok (.lushr, 1) := by decide +kernel
theorem dX1_highProduct_17 : decode cX1_highProduct 17 = .ok (.lstore 8, 2) := by decide +kernel
theorem dX1_highProduct_19 : decode cX1_highProduct 19 = .ok (.lload_n 2, 1) := by decide +kernel
theorem dX1_highProduct_20 : decode cX1_highProduct 20 = .ok (.ldc2_w 137, 3) := by decide +kernel
theorem dX1_highProduct_23 : decode cX1_highProduct 23 = .ok (.land, 1) := by decide +kernel
theorem dX1_highProduct_24 : decode cX1_highProduct 24 = .ok (.lstore 10, 2) := by decide +kernel
theorem dX1_highProduct_26 : decode cX1_highProduct 26 = .ok (.lload 4, 2) := by decide +kernel
theorem dX1_highProduct_28 : decode cX1_highProduct 28 = .ok (.lload 10, 2) := by decide +kernel
theorem dX1_highProduct_30 : decode cX1_highProduct 30 = .ok (.lmul, 1) := by decide +kernel
theorem dX1_highProduct_31 : decode cX1_highProduct 31 = .ok (.lload 6, 2) := by decide +kernel
theorem dX1_highProduct_33 : decode cX1_highProduct 33 = .ok (.lload 8, 2) := by decide +kernel
theorem dX1_highProduct_35 : decode cX1_highProduct 35 = .ok (.lmul, 1) := by decide +kernel
theorem dX1_highProduct_36 : decode cX1_highProduct 36 = .ok (.ladd, 1) := by decide +kernel
theorem dX1_highProduct_37 : decode cX1_highProduct 37 = .ok (.lstore 12, 2) := by decide +kernel
theorem dX1_highProduct_39 : decode cX1_highProduct 39 = .ok (.lload 6, 2) := by decide +kernel
theorem dX1_highProduct_41 : decode cX1_highProduct 41 = .ok (.lload 10, 2) := by decide +kernel
theorem dX1_highProduct_43 : decode cX1_highProduct 43 = .ok (.lmul, 1) := by decide +kernel
theorem dX1_highProduct_44 : decode cX1_highProduct 44 = .ok (.lload 12, 2) := by decide +kernel
theorem dX1_highProduct_46 : decode cX1_highProduct 46 = .ok (.ldc2_w 137, 3) := by decide +kernel
theorem dX1_highProduct_49 : decode cX1_highProduct 49 = .ok (.land, 1) := by decide +kernel
theorem dX1_highProduct_50 : decode cX1_highProduct 50 = .ok (.bipush 27, 2) := by decide +kernel
theorem dX1_highProduct_52 : decode cX1_highProduct 52 = .ok (.lshl, 1) := by decide +kernel
theorem dX1_highProduct_53 : decode cX1_highProduct 53 = .ok (.ladd, 1) := by decide +kernel
theorem dX1_highProduct_54 : decode cX1_highProduct 54 = .ok (.lstore 14, 2) := by decide +kernel
theorem dX1_highProduct_56 : decode cX1_highProduct 56 = .ok (.lload 4, 2) := by decide +kernel
theorem dX1_highProduct_58 : decode cX1_highProduct 58 = .ok (.lload 8, 2) := by decide +kernel
theorem dX1_highProduct_60 : decode cX1_highProduct 60 = .ok (.lmul, 1) := by decide +kernel
theorem dX1_highProduct_61 : decode cX1_highProduct 61 = .ok (.lload 12, 2) := by decide +kernel
theorem dX1_highProduct_63 : decode cX1_highProduct 63 = .ok (.bipush 27, 2) := by decide +kernel
theorem dX1_highProduct_65 : decode cX1_highProduct 65 = .ok (.lushr, 1) := by decide +kernel
theorem dX1_highProduct_66 : decode cX1_highProduct 66 = .ok (.ladd, 1) := by decide +kernel
theorem dX1_highProduct_67 : decode cX1_highProduct 67 = .ok (.lstore 16, 2) := by decide +kernel
theorem dX1_highProduct_69 : decode cX1_highProduct 69 = .ok (.lload 16, 2) := by decide +kernel
theorem dX1_highProduct_71 : decode cX1_highProduct 71 = .ok (.bipush 10, 2) := by decide +kernel
theorem dX1_highProduct_73 : decode cX1_highProduct 73 = .ok (.lshl, 1) := by decide +kernel
theorem dX1_highProduct_74 : decode cX1_highProduct 74 = .ok (.lload 14, 2) := by decide +kernel
theorem dX1_highProduct_76 : decode cX1_highProduct 76 = .ok (.bipush 44, 2) := by decide +kernel
theorem dX1_highProduct_78 : decode cX1_highProduct 78 = .ok (.invokestatic 104, 3) := by decide +kernel
theorem dX1_highProduct_81 : decode cX1_highProduct 81 = .ok (.ladd, 1) := by decide +kernel
theorem dX1_highProduct_82 : decode cX1_highProduct 82 = .ok (.lreturn, 1) := by decide +kernel
theorem dX1_longQuotient_0 : decode cX1_longQuotient 0 = .ok (.lload_n 2, 1) := by decide +kernel
theorem dX1_longQuotient_1 : decode cX1_longQuotient 1 = .ok (.lconst 0, 1) := by decide +kernel
theorem dX1_longQuotient_2 : decode cX1_longQuotient 2 = .ok (.lcmp, 1) := by decide +kernel
theorem dX1_longQuotient_3 : decode cX1_longQuotient 3 = .ok (.ifCond .ne 5, 3) := by decide +kernel
theorem dX1_longQuotient_6 : decode cX1_longQuotient 6 = .ok (.lconst 0, 1) := by decide +kernel
theorem dX1_longQuotient_7 : decode cX1_longQuotient 7 = .ok (.lreturn, 1) := by decide +kernel
theorem dX1_longQuotient_8 : decode cX1_longQuotient 8 = .ok (.lload_n 0, 1) := by decide +kernel
theorem dX1_longQuotient_9 : decode cX1_longQuotient 9 = .ok (.lload_n 2, 1) := by decide +kernel
theorem dX1_longQuotient_10 : decode cX1_longQuotient 10 = .ok (.ldiv, 1) := by decide +kernel
theorem dX1_longQuotient_11 : decode cX1_longQuotient 11 = .ok (.lstore 4, 2) := by decide +kernel
theorem dX1_longQuotient_13 : decode cX1_longQuotient 13 = .ok (.lload_n 0, 1) := by decide +kernel
theorem dX1_longQuotient_14 : decode cX1_longQuotient 14 = .ok (.lload_n 2, 1) := by decide +kernel
theorem dX1_longQuotient_15 : decode cX1_longQuotient 15 = .ok (.lrem, 1) := by decide +kernel
theorem dX1_longQuotient_16 : decode cX1_longQuotient 16 = .ok (.lstore 6, 2) := by decide +kernel
theorem dX1_longQuotient_18 : decode cX1_longQuotient 18 = .ok (.iconst 0, 1) := by decide +kernel
theorem dX1_longQuotient_19 : decode cX1_longQuotient 19 = .ok (.istore 8, 2) := by decide +kernel
theorem dX1_longQuotient_21 : decode cX1_longQuotient 21 = .ok (.iload 8, 2) := by decide +kernel
theorem dX1_longQuotient_23 : decode cX1_longQuotient 23 = .ok (.bipush 6, 2) := by decide +kernel
theorem dX1_longQuotient_25 : decode cX1_longQuotient 25 = .ok (.if_icmp .ge 34, 3) := by decide +kernel
theorem dX1_longQuotient_28 : decode cX1_longQuotient 28 = .ok (.lload 6, 2) := by decide +kernel
theorem dX1_longQuotient_30 : decode cX1_longQuotient 30 = .ok (.bipush 10, 2) := by decide +kernel
theorem dX1_longQuotient_32 : decode cX1_longQuotient 32 = .ok (.lshl, 1) := by decide +kernel
theorem dX1_longQuotient_33 : decode cX1_longQuotient 33 = .ok (.lstore 6, 2) := by decide +kernel
theorem dX1_longQuotient_35 : decode cX1_longQuotient 35 = .ok (.lload 4, 2) := by decide +kernel
theorem dX1_longQuotient_37 : decode cX1_longQuotient 37 = .ok (.bipush 10, 2) := by decide +kernel
theorem dX1_longQuotient_39 : decode cX1_longQuotient 39 = .ok (.lshl, 1) := by decide +kernel
theorem dX1_longQuotient_40 : decode cX1_longQuotient 40 = .ok (.lload 6, 2) := by decide +kernel
theorem dX1_longQuotient_42 : decode cX1_longQuotient 42 = .ok (.lload_n 2, 1) := by decide +kernel
theorem dX1_longQuotient_43 : decode cX1_longQuotient 43 = .ok (.ldiv, 1) := by decide +kernel
theorem dX1_longQuotient_44 : decode cX1_longQuotient 44 = .ok (.ladd, 1) := by decide +kernel
theorem dX1_longQuotient_45 : decode cX1_longQuotient 45 = .ok (.lstore 4, 2) := by decide +kernel
theorem dX1_longQuotient_47 : decode cX1_longQuotient 47 = .ok (.lload 6, 2) := by decide +kernel
theorem dX1_longQuotient_49 : decode cX1_longQuotient 49 = .ok (.lload_n 2, 1) := by decide +kernel
theorem dX1_longQuotient_50 : decode cX1_longQuotient 50 = .ok (.lrem, 1) := by decide +kernel
theorem dX1_longQuotient_51 : decode cX1_longQuotient 51 = .ok (.lstore 6, 2) := by decide +kernel
theorem dX1_longQuotient_53 : decode cX1_longQuotient 53 = .ok (.iinc 8 1, 3) := by decide +kernel
theorem dX1_longQuotient_56 : decode cX1_longQuotient 56 = .ok (.goto (-35), 3) := by decide +kernel
theorem dX1_longQuotient_59 : decode cX1_longQuotient 59 = .ok (.lload 6, 2) := by decide +kernel
theorem dX1_longQuotient_61 : decode cX1_longQuotient 61 = .ok (.lconst 0, 1) := by decide +kernel
theorem dX1_longQuotient_62 : decode cX1_longQuotient 62 = .ok (.lcmp, 1) := by decide +kernel
theorem dX1_longQuotient_63 : decode cX1_longQuotient 63 = .ok (.ifCond .ne 8, 3) := by decide +kernel
theorem dX1_longQuotient_66 : decode cX1_longQuotient 66 = .ok (.lload 4, 2) := by decide +kernel
theorem dX1_longQuotient_68 : decode cX1_longQuotient 68 = .ok (.goto 7, 3) := by decide +kernel
theorem dX1_longQuotient_71 : decode cX1_longQuotient 71 = .ok (.lload 4, 2) := by decide +kernel
theorem dX1_longQuotient_73 : decode cX1_longQuotient 73 = .ok (.lconst 1, 1) := by decide +kernel
theorem dX1_longQuotient_74 : decode cX1_longQuotient 74 = .ok (.lor, 1) := by decide +kernel
theorem dX1_longQuotient_75 : decode cX1_longQuotient 75 = .ok (.lreturn, 1) := by decide +kernel
theorem dX1_longRemainder_0 : decode cX1_longRemainder 0 = .ok (.lload_n 2, 1) := by decide +kernel
theorem dX1_longRemainder_1 : decode cX1_longRemainder 1 = .ok (.lconst 0, 1) := by decide +kernel
theorem dX1_longRemainder_2 : decode cX1_longRemainder 2 = .ok (.lcmp, 1) := by decide +kernel
theorem dX1_longRemainder_3 : decode cX1_longRemainder 3 = .ok (.ifCond .ne 5, 3) := by decide +kernel
theorem dX1_longRemainder_6 : decode cX1_longRemainder 6 = .ok (.lconst 0, 1) := by decide +kernel
theorem dX1_longRemainder_7 : decode cX1_longRemainder 7 = .ok (.lreturn, 1) := by decide +kernel
theorem dX1_longRemainder_8 : decode cX1_longRemainder 8 = .ok (.lload_n 0, 1) := by decide +kernel
theorem dX1_longRemainder_9 : decode cX1_longRemainder 9 = .ok (.lload_n 2, 1) := by decide +kernel
theorem dX1_longRemainder_10 : decode cX1_longRemainder 10 = .ok (.lrem, 1) := by decide +kernel
theorem dX1_longRemainder_11 : decode cX1_longRemainder 11 = .ok (.lstore 5, 2) := by decide +kernel
theorem dX1_longRemainder_13 : decode cX1_longRemainder 13 = .ok (.iload 4, 2) := by decide +kernel
theorem dX1_longRemainder_15 : decode cX1_longRemainder 15 = .ok (.istore 7, 2) := by decide +kernel
theorem dX1_longRemainder_17 : decode cX1_longRemainder 17 = .ok (.iload 7, 2) := by decide +kernel
theorem dX1_longRemainder_19 : decode cX1_longRemainder 19 = .ok (.ifCond .le 23, 3) := by decide +kernel
theorem dX1_longRemainder_22 : decode cX1_longRemainder 22 = .ok (.lload 5, 2) := by decide +kernel
theorem dX1_longRemainder_24 : decode cX1_longRemainder 24 = .ok (.bipush 10, 2) := by decide +kernel
theorem dX1_longRemainder_26 : decode cX1_longRemainder 26 = .ok (.iload 7, 2) := by decide +kernel
theorem dX1_longRemainder_28 : decode cX1_longRemainder 28 = .ok (.invokestatic 139, 3) := by decide +kernel
theorem dX1_longRemainder_31 : decode cX1_longRemainder 31 = .ok (.lshl, 1) := by decide +kernel
theorem dX1_longRemainder_32 : decode cX1_longRemainder 32 = .ok (.lload_n 2, 1) := by decide +kernel
theorem dX1_longRemainder_33 : decode cX1_longRemainder 33 = .ok (.lrem, 1) := by decide +kernel
theorem dX1_longRemainder_34 : decode cX1_longRemainder 34 = .ok (.lstore 5, 2) := by decide +kernel
theorem dX1_longRemainder_36 : decode cX1_longRemainder 36 = .ok (.iinc 7 (-10), 3) := by decide +kernel
theorem dX1_longRemainder_39 : decode cX1_longRemainder 39 = .ok (.goto (-22), 3) := by decide +kernel
theorem dX1_longRemainder_42 : decode cX1_longRemainder 42 = .ok (.lload 5, 2) := by decide +kernel
theorem dX1_longRemainder_44 : decode cX1_longRemainder 44 = .ok (.lreturn, 1) := by decide +kernel
theorem dX2_init_0 : decode cX2_init 0 = .ok (.aload_n 0, 1) := by decide +kernel
theorem dX2_init_1 : decode cX2_init 1 = .ok (.invokespecial 3, 3) := by decide +kernel
theorem dX2_init_4 : decode cX2_init 4 = .ok (.aload_n 0, 1) := by decide +kernel
theorem dX2_init_5 : decode cX2_init 5 = .ok (.bipush 48, 2) := by decide +kernel
theorem dX2_init_7 : decode cX2_init 7 = .ok (.newarray .int, 2) := by decide +kernel
theorem dX2_init_9 : decode cX2_init 9 = .ok (.putfield 11, 3) := by decide +kernel
theorem dX2_init_12 : decode cX2_init 12 = .ok (.return_, 1) := by decide +kernel
theorem dX2_add_0 : decode cX2_add 0 = .ok (.aload_n 0, 1) := by decide +kernel
theorem dX2_add_1 : decode cX2_add 1 = .ok (.getfield 15, 3) := by decide +kernel
theorem dX2_add_4 : decode cX2_add 4 = .ok (.invokestatic 19, 3) := by decide +kernel
theorem dX2_add_7 : decode cX2_add 7 = .ok (.istore 4, 2) := by decide +kernel
theorem dX2_add_9 : decode cX2_add 9 = .ok (.aload_n 0, 1) := by decide +kernel
theorem dX2_add_10 : decode cX2_add 10 = .ok (.getfield 11, 3) := by decide +kernel
theorem dX2_add_13 : decode cX2_add 13 = .ok (.iload 4, 2) := by decide +kernel
theorem dX2_add_15 : decode cX2_add 15 = .ok (.iload_n 1, 1) := by decide +kernel
theorem dX2_add_16 : decode cX2_add 16 = .ok (.iastore, 1) := by decide +kernel
theorem dX2_add_17 : decode cX2_add 17 = .ok (.aload_n 0, 1) := by decide +kernel
theorem dX2_add_18 : decode cX2_add 18 = .ok (.getfield 11, 3) := by decide +kernel
theorem dX2_add_21 : decode cX2_add 21 = .ok (.iload 4, 2) := by decide +kernel
theorem dX2_add_23 : decode cX2_add 23 = .ok (.iconst 1, 1) := by decide +kernel
theorem dX2_add_24 : decode cX2_add 24 = .ok (.iadd, 1) := by decide +kernel
theorem dX2_add_25 : decode cX2_add 25 = .ok (.iload_n 2, 1) := by decide +kernel
theorem dX2_add_26 : decode cX2_add 26 = .ok (.iastore, 1) := by decide +kernel
theorem dX2_add_27 : decode cX2_add 27 = .ok (.aload_n 0, 1) := by decide +kernel
theorem dX2_add_28 : decode cX2_add 28 = .ok (.getfield 11, 3) := by decide +kernel
theorem dX2_add_31 : decode cX2_add 31 = .ok (.iload 4, 2) := by decide +kernel
theorem dX2_add_33 : decode cX2_add 33 = .ok (.iconst 2, 1) := by decide +kernel
theorem dX2_add_34 : decode cX2_add 34 = .ok (.iadd, 1) := by decide +kernel
theorem dX2_add_35 : decode cX2_add 35 = .ok (.iload_n 3, 1) := by decide +kernel
theorem dX2_add_36 : decode cX2_add 36 = .ok (.iastore, 1) := by decide +kernel
theorem dX2_add_37 : decode cX2_add 37 = .ok (.aload_n 0, 1) := by decide +kernel
theorem dX2_add_38 : decode cX2_add 38 = .ok (.dup, 1) := by decide +kernel
theorem dX2_add_39 : decode cX2_add 39 = .ok (.getfield 15, 3) := by decide +kernel
theorem dX2_add_42 : decode cX2_add 42 = .ok (.iconst 1, 1) := by decide +kernel
theorem dX2_add_43 : decode cX2_add 43 = .ok (.iadd, 1) := by decide +kernel
theorem dX2_add_44 : decode cX2_add 44 = .ok (.putfield 15, 3) := by decide +kernel
theorem dX2_add_47 : decode cX2_add 47 = .ok (.return_, 1) := by decide +kernel
theorem dX2_told_0 : decode cX2_told 0 = .ok (.iload_n 1, 1) := by decide +kernel
theorem dX2_told_1 : decode cX2_told 1 = .ok (.ifCond .lt 26, 3) := by decide +kernel
theorem dX2_told_4 : decode cX2_told 4 = .ok (.iload_n 1, 1) := by decide +kernel
theorem dX2_told_5 : decode cX2_told 5 = .ok (.bipush 16, 2) := by decide +kernel
theorem dX2_told_7 : decode cX2_told 7 = .ok (.if_icmp .ge 20, 3) := by decide +kernel
theorem dX2_told_10 : decode cX2_told 10 = .ok (.iload_n 1, 1) := by decide +kernel
theorem dX2_told_11 : decode cX2_told 11 = .ok (.aload_n 0, 1) := by decide +kernel
theorem dX2_told_12 : decode cX2_told 12 = .ok (.getfield 15, 3) := by decide +kernel
theorem dX2_told_15 : decode cX2_told 15 = .ok (.if_icmp .ge 12, 3) := by decide +kernel
theorem dX2_told_18 : decode cX2_told 18 = .ok (.iload_n 2, 1) := by decide +kernel
theorem dX2_told_19 : decode cX2_told 19 = .ok (.i2l, 1) := by decide +kernel
theorem dX2_told_20 : decode cX2_told 20 = .ok (.iconst 3, 1) := by decide +kernel
theorem dX2_told_21 : decode cX2_told 21 = .ok (.invokestatic 23, 3) := by decide +kernel
theorem dX2_told_24 : decode cX2_told 24 = .ok (.ifCond .ne 7, 3) := by decide +kernel
theorem dX2_told_27 : decode cX2_told 27 = .ok (.ldc2_w 27, 3) := by decide +kernel
theorem dX2_told_30 : decode cX2_told 30 = .ok (.lreturn, 1) := by decide +kernel
theorem dX2_told_31 : decode cX2_told 31 = .ok (.aload_n 0, 1) := by decide +kernel
theorem dX2_told_32 : decode cX2_told 32 = .ok (.getfield 11, 3) := by decide +kernel
theorem dX2_told_35 : decode cX2_told 35 = .ok (.aload_n 0, 1) := by decide +kernel
theorem dX2_told_36 : decode cX2_told 36 = .ok (.getfield 15, 3) := by decide +kernel
theorem dX2_told_39 : decode cX2_told 39 = .ok (.iconst 1, 1) := by decide +kernel
theorem dX2_told_40 : decode cX2_told 40 = .ok (.isub, 1) := by decide +kernel
theorem dX2_told_41 : decode cX2_told 41 = .ok (.iload_n 1, 1) := by decide +kernel
theorem dX2_told_42 : decode cX2_told 42 = .ok (.isub, 1) := by decide +kernel
theorem dX2_told_43 : decode cX2_told 43 = .ok (.invokestatic 19, 3) := by decide +kernel
theorem dX2_told_46 : decode cX2_told 46 = .ok (.iload_n 2, 1) := by decide +kernel
theorem dX2_told_47 : decode cX2_told 47 = .ok (.iadd, 1) := by decide +kernel
theorem dX2_told_48 : decode cX2_told 48 = .ok (.iaload, 1) := by decide +kernel
theorem dX2_told_49 : decode cX2_told 49 = .ok (.i2l, 1) := by decide +kernel
theorem dX2_told_50 : decode cX2_told 50 = .ok (.lreturn, 1) := by decide +kernel
theorem dX2_startOf_0 : decode cX2_startOf 0 = .ok (.iload_n 0, 1) := by decide +kernel
theorem dX2_startOf_1 : decode cX2_startOf 1 = .ok (.bipush 15, 2) := by decide +kernel
theorem dX2_startOf_3 : decode cX2_startOf 3 = .ok (.iand, 1) := by decide +kernel
theorem dX2_startOf_4 : decode cX2_startOf 4 = .ok (.iconst 3, 1) := by decide +kernel
theorem dX2_startOf_5 : decode cX2_startOf 5 = .ok (.imul, 1) := by decide +kernel
theorem dX2_startOf_6 : decode cX2_startOf 6 = .ok (.ireturn, 1) := by decide +kernel
theorem dX3_takes_0 : decode cX3_takes 0 = .ok (.iload_n 0, 1) := by decide +kernel
theorem dX3_takes_1 : decode cX3_takes 1 = .ok (.bipush 20, 2) := by decide +kernel
theorem dX3_takes_3 : decode cX3_takes 3 = .ok (.if_icmp .lt 9, 3) := by decide +kernel
theorem dX3_takes_6 : decode cX3_takes 6 = .ok (.iload_n 0, 1) := by decide +kernel
theorem dX3_takes_7 : decode cX3_takes 7 = .ok (.bipush 34, 2) := by decide +kernel
theorem dX3_takes_9 : decode cX3_takes 9 = .ok (.if_icmp .le 5, 3) := by decide +kernel
theorem dX3_takes_12 : decode cX3_takes 12 = .ok (.iconst 0, 1) := by decide +kernel
theorem dX3_takes_13 : decode cX3_takes 13 = .ok (.ireturn, 1) := by decide +kernel
theorem dX3_takes_14 : decode cX3_takes 14 = .ok (.iload_n 0, 1) := by decide +kernel
theorem dX3_takes_15 : decode cX3_takes 15 = .ok (.bipush 27, 2) := by decide +kernel
theorem dX3_takes_17 : decode cX3_takes 17 = .ok (.if_icmp .lt 26, 3) := by decide +kernel
theorem dX3_takes_20 : decode cX3_takes 20 = .ok (.iload_n 0, 1) := by decide +kernel
theorem dX3_takes_21 : decode cX3_takes 21 = .ok (.bipush 29, 2) := by decide +kernel
theorem dX3_takes_23 : decode cX3_takes 23 = .ok (.if_icmp .gt 20, 3) := by decide +kernel
theorem dX3_takes_26 : decode cX3_takes 26 = .ok (.iload_n 1, 1) := by decide +kernel
theorem dX3_takes_27 : decode cX3_takes 27 = .ok (.invokestatic 11, 3) := by decide +kernel
theorem dX3_takes_30 : decode cX3_takes 30 = .ok (.ifCond .ne 11, 3) := by decide +kernel
theorem dX3_takes_33 : decode cX3_takes 33 = .ok (.iload_n 2, 1) := by decide +kernel
theorem dX3_takes_34 : decode cX3_takes 34 = .ok (.ifCond .ne 7, 3) := by decide +kernel
theorem dX3_takes_37 : decode cX3_takes 37 = .ok (.iconst 1, 1) := by decide +kernel
theorem dX3_takes_38 : decode cX3_takes 38 = .ok (.goto 4, 3) := by decide +kernel
theorem dX3_takes_41 : decode cX3_takes 41 = .ok (.iconst 0, 1) := by decide +kernel
theorem dX3_takes_42 : decode cX3_takes 42 = .ok (.ireturn, 1) := by decide +kernel
theorem dX3_takes_43 : decode cX3_takes 43 = .ok (.iload_n 1, 1) := by decide +kernel
theorem dX3_takes_44 : decode cX3_takes 44 = .ok (.iload_n 2, 1) := by decide +kernel
theorem dX3_takes_45 : decode cX3_takes 45 = .ok (.if_icmp .eq 5, 3) := by decide +kernel
theorem dX3_takes_48 : decode cX3_takes 48 = .ok (.iconst 0, 1) := by decide +kernel
theorem dX3_takes_49 : decode cX3_takes 49 = .ok (.ireturn, 1) := by decide +kernel
theorem dX3_takes_50 : decode cX3_takes 50 = .ok (.iload_n 0, 1) := by decide +kernel
theorem dX3_takes_51 : decode cX3_takes 51 = .ok (.bipush 30, 2) := by decide +kernel
theorem dX3_takes_53 : decode cX3_takes 53 = .ok (.if_icmp .lt 22, 3) := by decide +kernel
theorem dX3_takes_56 : decode cX3_takes 56 = .ok (.iload_n 0, 1) := by decide +kernel
theorem dX3_takes_57 : decode cX3_takes 57 = .ok (.bipush 32, 2) := by decide +kernel
theorem dX3_takes_59 : decode cX3_takes 59 = .ok (.if_icmp .gt 16, 3) := by decide +kernel
theorem dX3_takes_62 : decode cX3_takes 62 = .ok (.iload_n 1, 1) := by decide +kernel
theorem dX3_takes_63 : decode cX3_takes 63 = .ok (.invokestatic 11, 3) := by decide +kernel
theorem dX3_takes_66 : decode cX3_takes 66 = .ok (.ifCond .ne 7, 3) := by decide +kernel
theorem dX3_takes_69 : decode cX3_takes 69 = .ok (.iconst 1, 1) := by decide +kernel
theorem dX3_takes_70 : decode cX3_takes 70 = .ok (.goto 4, 3) := by decide +kernel
theorem dX3_takes_73 : decode cX3_takes 73 = .ok (.iconst 0, 1) := by decide +kernel
theorem dX3_takes_74 : decode cX3_takes 74 = .ok (.ireturn, 1) := by decide +kernel
theorem dX3_takes_75 : decode cX3_takes 75 = .ok (.iload_n 0, 1) := by decide +kernel
theorem dX3_takes_76 : decode cX3_takes 76 = .ok (.bipush 33, 2) := by decide +kernel
theorem dX3_takes_78 : decode cX3_takes 78 = .ok (.if_icmp .lt 7, 3) := by decide +kernel
theorem dX3_takes_81 : decode cX3_takes 81 = .ok (.iload_n 1, 1) := by decide +kernel
theorem dX3_takes_82 : decode cX3_takes 82 = .ok (.ifCond .eq 7, 3) := by decide +kernel
theorem dX3_takes_85 : decode cX3_takes 85 = .ok (.iconst 1, 1) := by decide +kernel
theorem dX3_takes_86 : decode cX3_takes 86 = .ok (.goto 4, 3) := by decide +kernel
theorem dX3_takes_89 : decode cX3_takes 89 = .ok (.iconst 0, 1) := by decide +kernel
theorem dX3_takes_90 : decode cX3_takes 90 = .ok (.ireturn, 1) := by decide +kernel
theorem dX3_divides_0 : decode cX3_divides 0 = .ok (.iload_n 0, 1) := by decide +kernel
theorem dX3_divides_1 : decode cX3_divides 1 = .ok (.bipush 23, 2) := by decide +kernel
theorem dX3_divides_3 : decode cX3_divides 3 = .ok (.if_icmp .eq 9, 3) := by decide +kernel
theorem dX3_divides_6 : decode cX3_divides 6 = .ok (.iload_n 0, 1) := by decide +kernel
theorem dX3_divides_7 : decode cX3_divides 7 = .ok (.bipush 24, 2) := by decide +kernel
theorem dX3_divides_9 : decode cX3_divides 9 = .ok (.if_icmp .ne 7, 3) := by decide +kernel
theorem dX3_divides_12 : decode cX3_divides 12 = .ok (.iconst 1, 1) := by decide +kernel
theorem dX3_divides_13 : decode cX3_divides 13 = .ok (.goto 4, 3) := by decide +kernel
theorem dX3_divides_16 : decode cX3_divides 16 = .ok (.iconst 0, 1) := by decide +kernel
theorem dX3_divides_17 : decode cX3_divides 17 = .ok (.ireturn, 1) := by decide +kernel
theorem dX3_calculates_0 : decode cX3_calculates 0 = .ok (.iload_n 0, 1) := by decide +kernel
theorem dX3_calculates_1 : decode cX3_calculates 1 = .ok (.bipush 20, 2) := by decide +kernel
theorem dX3_calculates_3 : decode cX3_calculates 3 = .ok (.if_icmp .lt 13, 3) := by decide +kernel
theorem dX3_calculates_6 : decode cX3_calculates 6 = .ok (.iload_n 0, 1) := by decide +kernel
theorem dX3_calculates_7 : decode cX3_calculates 7 = .ok (.bipush 24, 2) := by decide +kernel
theorem dX3_calculates_9 : decode cX3_calculates 9 = .ok (.if_icmp .gt 7, 3) := by decide +kernel
theorem dX3_calculates_12 : decode cX3_calculates 12 = .ok (.iconst 1, 1) := by decide +kernel
theorem dX3_calculates_13 : decode cX3_calculates 13 = .ok (.goto 4, 3) := by decide +kernel
theorem dX3_calculates_16 : decode cX3_calculates 16 = .ok (.iconst 0, 1) := by decide +kernel
theorem dX3_calculates_17 : decode cX3_calculates 17 = .ok (.ireturn, 1) := by decide +kernel
theorem dX3_mixes_0 : decode cX3_mixes 0 = .ok (.iload_n 0, 1) := by decide +kernel
theorem dX3_mixes_1 : decode cX3_mixes 1 = .ok (.bipush 22, 2) := by decide +kernel
theorem dX3_mixes_3 : decode cX3_mixes 3 = .ok (.if_icmp .eq 10, 3) := by decide +kernel
theorem dX3_mixes_6 : decode cX3_mixes 6 = .ok (.iload_n 0, 1) := by decide +kernel
theorem dX3_mixes_7 : decode cX3_mixes 7 = .ok (.invokestatic 15, 3) := by decide +kernel
theorem dX3_mixes_10 : decode cX3_mixes 10 = .ok (.ifCond .eq 7, 3) := by decide +kernel
theorem dX3_mixes_13 : decode cX3_mixes 13 = .ok (.iconst 1, 1) := by decide +kernel
theorem dX3_mixes_14 : decode cX3_mixes 14 = .ok (.goto 4, 3) := by decide +kernel
theorem dX3_mixes_17 : decode cX3_mixes 17 = .ok (.iconst 0, 1) := by decide +kernel
theorem dX3_mixes_18 : decode cX3_mixes 18 = .ok (.ireturn, 1) := by decide +kernel
theorem dX3_resultKind_0 : decode cX3_resultKind 0 = .ok (.iload_n 0, 1) := by decide +kernel
theorem dX3_resultKind_1 : decode cX3_resultKind 1 = .ok (.bipush 33, 2) := by decide +kernel
theorem dX3_resultKind_3 : decode cX3_resultKind 3 = .ok (.if_icmp .lt 7, 3) := by decide +kernel
theorem dX3_resultKind_6 : decode cX3_resultKind 6 = .ok (.iconst 0, 1) := by decide +kernel
theorem dX3_resultKind_7 : decode cX3_resultKind 7 = .ok (.goto 4, 3) := by decide +kernel
theorem dX3_resultKind_10 : decode cX3_resultKind 10 = .ok (.iload_n 1, 1) := by decide +kernel
theorem dX3_resultKind_11 : decode cX3_resultKind 11 = .ok (.ireturn, 1) := by decide +kernel
theorem dX3_wholeResult_0 : decode cX3_wholeResult 0 = .ok (.iload_n 0, 1) := by decide +kernel
theorem dX3_wholeResult_1 : decode cX3_wholeResult 1 = .ok (.bipush 27, 2) := by decide +kernel
theorem dX3_wholeResult_3 : decode cX3_wholeResult 3 = .ok (.if_icmp .ge 13, 3) := by decide +kernel
theorem dX3_wholeResult_6 : decode cX3_wholeResult 6 = .ok (.iload_n 0, 1) := by decide +kernel
theorem dX3_wholeResult_7 : decode cX3_wholeResult 7 = .ok (.lload_n 2, 1) := by decide +kernel
theorem dX3_wholeResult_8 : decode cX3_wholeResult 8 = .ok (.lload 4, 2) := by decide +kernel
theorem dX3_wholeResult_10 : decode cX3_wholeResult 10 = .ok (.invokestatic 18, 3) := by decide +kernel
theorem dX3_wholeResult_13 : decode cX3_wholeResult 13 = .ok (.goto 11, 3) := by decide +kernel
theorem dX3_wholeResult_16 : decode cX3_wholeResult 16 = .ok (.iload_n 0, 1) := by decide +kernel
theorem dX3_wholeResult_17 : decode cX3_wholeResult 17 = .ok (.iload_n 1, 1) := by decide +kernel
theorem dX3_wholeResult_18 : decode cX3_wholeResult 18 = .ok (.lload_n 2, 1) := by decide +kernel
theorem dX3_wholeResult_19 : decode cX3_wholeResult 19 = .ok (.lload 4, 2) := by decide +kernel
theorem dX3_wholeResult_21 : decode cX3_wholeResult 21 = .ok (.invokestatic 22, 3) := by decide +kernel
theorem dX3_wholeResult_24 : decode cX3_wholeResult 24 = .ok (.lstore 6, 2) := by decide +kernel
theorem dX3_wholeResult_26 : decode cX3_wholeResult 26 = .ok (.iload_n 1, 1) := by decide +kernel
theorem dX3_wholeResult_27 : decode cX3_wholeResult 27 = .ok (.ifCond .ne 10, 3) := by decide +kernel
theorem dX3_wholeResult_30 : decode cX3_wholeResult 30 = .ok (.lload 6, 2) := by decide +kernel
theorem dX3_wholeResult_32 : decode cX3_wholeResult 32 = .ok (.l2i, 1) := by decide +kernel
theorem dX3_wholeResult_33 : decode cX3_wholeResult 33 = .ok (.i2l, 1) := by decide +kernel
theorem dX3_wholeResult_34 : decode cX3_wholeResult 34 = .ok (.goto 5, 3) := by decide +kernel
theorem dX3_wholeResult_37 : decode cX3_wholeResult 37 = .ok (.lload 6, 2) := by decide +kernel
theorem dX3_wholeResult_39 : decode cX3_wholeResult 39 = .ok (.lreturn, 1) := by decide +kernel
theorem dX3_calculated_0 : decode cX3_calculated 0 = .ok (.iload_n 0, 1) := by decide +kernel
theorem dX3_calculated_1 : decode cX3_calculated 1 = .ok (.tableswitch 85 20 25 #[39, 43, 47, 51, 65, 79], 39) := by decide +kernel
theorem dX3_calculated_40 : decode cX3_calculated 40 = .ok (.lload_n 1, 1) := by decide +kernel
theorem dX3_calculated_41 : decode cX3_calculated 41 = .ok (.lload_n 3, 1) := by decide +kernel
theorem dX3_calculated_42 : decode cX3_calculated 42 = .ok (.ladd, 1) := by decide +kernel
theorem dX3_calculated_43 : decode cX3_calculated 43 = .ok (.lreturn, 1) := by decide +kernel
theorem dX3_calculated_44 : decode cX3_calculated 44 = .ok (.lload_n 1, 1) := by decide +kernel
theorem dX3_calculated_45 : decode cX3_calculated 45 = .ok (.lload_n 3, 1) := by decide +kernel
theorem dX3_calculated_46 : decode cX3_calculated 46 = .ok (.lsub, 1) := by decide +kernel
theorem dX3_calculated_47 : decode cX3_calculated 47 = .ok (.lreturn, 1) := by decide +kernel
theorem dX3_calculated_48 : decode cX3_calculated 48 = .ok (.lload_n 1, 1) := by decide +kernel
theorem dX3_calculated_49 : decode cX3_calculated 49 = .ok (.lload_n 3, 1) := by decide +kernel
theorem dX3_calculated_50 : decode cX3_calculated 50 = .ok (.lmul, 1) := by decide +kernel
theorem dX3_calculated_51 : decode cX3_calculated 51 = .ok (.lreturn, 1) := by decide +kernel
theorem dX3_calculated_52 : decode cX3_calculated 52 = .ok (.lload_n 3, 1) := by decide +kernel
theorem dX3_calculated_53 : decode cX3_calculated 53 = .ok (.lconst 0, 1) := by decide +kernel
theorem dX3_calculated_54 : decode cX3_calculated 54 = .ok (.lcmp, 1) := by decide +kernel
theorem dX3_calculated_55 : decode cX3_calculated 55 = .ok (.ifCond .ne 7, 3) := by decide +kernel
theorem dX3_calculated_58 : decode cX3_calculated 58 = .ok (.lconst 0, 1) := by decide +kernel
theorem dX3_calculated_59 : decode cX3_calculated 59 = .ok (.goto 6, 3) := by decide +kernel
theorem dX3_calculated_62 : decode cX3_calculated 62 = .ok (.lload_n 1, 1) := by decide +kernel
theorem dX3_calculated_63 : decode cX3_calculated 63 = .ok (.lload_n 3, 1) := by decide +kernel
theorem dX3_calculated_64 : decode cX3_calculated 64 = .ok (.ldiv, 1) := by decide +kernel
theorem dX3_calculated_65 : decode cX3_calculated 65 = .ok (.lreturn, 1) := by decide +kernel
theorem dX3_calculated_66 : decode cX3_calculated 66 = .ok (.lload_n 3, 1) := by decide +kernel
theorem dX3_calculated_67 : decode cX3_calculated 67 = .ok (.lconst 0, 1) := by decide +kernel
theorem dX3_calculated_68 : decode cX3_calculated 68 = .ok (.lcmp, 1) := by decide +kernel
theorem dX3_calculated_69 : decode cX3_calculated 69 = .ok (.ifCond .ne 7, 3) := by decide +kernel
theorem dX3_calculated_72 : decode cX3_calculated 72 = .ok (.lconst 0, 1) := by decide +kernel
theorem dX3_calculated_73 : decode cX3_calculated 73 = .ok (.goto 6, 3) := by decide +kernel
theorem dX3_calculated_76 : decode cX3_calculated 76 = .ok (.lload_n 1, 1) := by decide +kernel
theorem dX3_calculated_77 : decode cX3_calculated 77 = .ok (.lload_n 3, 1) := by decide +kernel
theorem dX3_calculated_78 : decode cX3_calculated 78 = .ok (.lrem, 1) := by decide +kernel
theorem dX3_calculated_79 : decode cX3_calculated 79 = .ok (.lreturn, 1) := by decide +kernel
theorem dX3_calculated_80 : decode cX3_calculated 80 = .ok (.lload_n 1, 1) := by decide +kernel
theorem dX3_calculated_81 : decode cX3_calculated 81 = .ok (.lload_n 3, 1) := by decide +kernel
theorem dX3_calculated_82 : decode cX3_calculated 82 = .ok (.invokestatic 26, 3) := by decide +kernel
theorem dX3_calculated_85 : decode cX3_calculated 85 = .ok (.lreturn, 1) := by decide +kernel
theorem dX3_calculated_86 : decode cX3_calculated 86 = .ok (.lload_n 1, 1) := by decide +kernel
theorem dX3_calculated_87 : decode cX3_calculated 87 = .ok (.lload_n 3, 1) := by decide +kernel
theorem dX3_calculated_88 : decode cX3_calculated 88 = .ok (.invokestatic 32, 3) := by decide +kernel
theorem dX3_calculated_91 : decode cX3_calculated 91 = .ok (.lreturn, 1) := by decide +kernel
theorem dX3_combined_0 : decode cX3_combined 0 = .ok (.lload 4, 2) := by decide +kernel
theorem dX3_combined_2 : decode cX3_combined 2 = .ok (.l2i, 1) := by decide +kernel
theorem dX3_combined_3 : decode cX3_combined 3 = .ok (.iload_n 1, 1) := by decide +kernel
theorem dX3_combined_4 : decode cX3_combined 4 = .ok (.ifCond .ne 8, 3) := by decide +kernel
theorem dX3_combined_7 : decode cX3_combined 7 = .ok (.bipush 31, 2) := by decide +kernel
theorem dX3_combined_9 : decode cX3_combined 9 = .ok (.goto 5, 3) := by decide +kernel
theorem dX3_combined_12 : decode cX3_combined 12 = .ok (.bipush 63, 2) := by decide +kernel
theorem dX3_combined_14 : decode cX3_combined 14 = .ok (.iand, 1) := by decide +kernel
theorem dX3_combined_15 : decode cX3_combined 15 = .ok (.istore 6, 2) := by decide +kernel
theorem dX3_combined_17 : decode cX3_combined 17 = .ok (.iload_n 0, 1) := by decide +kernel
theorem dX3_combined_18 : decode cX3_combined 18 = .ok (.tableswitch 80 27 32 #[38, 43, 48, 65, 70, 75], 38) := by decide +kernel
theorem dX3_combined_56 : decode cX3_combined 56 = .ok (.lload_n 2, 1) := by decide +kernel
theorem dX3_combined_57 : decode cX3_combined 57 = .ok (.iload 6, 2) := by decide +kernel
theorem dX3_combined_59 : decode cX3_combined 59 = .ok (.lshl, 1) := by decide +kernel
theorem dX3_combined_60 : decode cX3_combined 60 = .ok (.lreturn, 1) := by decide +kernel
theorem dX3_combined_61 : decode cX3_combined 61 = .ok (.lload_n 2, 1) := by decide +kernel
theorem dX3_combined_62 : decode cX3_combined 62 = .ok (.iload 6, 2) := by decide +kernel
theorem dX3_combined_64 : decode cX3_combined 64 = .ok (.lshr, 1) := by decide +kernel
theorem dX3_combined_65 : decode cX3_combined 65 = .ok (.lreturn, 1) := by decide +kernel
theorem dX3_combined_66 : decode cX3_combined 66 = .ok (.iload_n 1, 1) := by decide +kernel
theorem dX3_combined_67 : decode cX3_combined 67 = .ok (.ifCond .ne 11, 3) := by decide +kernel
theorem dX3_combined_70 : decode cX3_combined 70 = .ok (.lload_n 2, 1) := by decide +kernel
theorem dX3_combined_71 : decode cX3_combined 71 = .ok (.ldc2_w 35, 3) := by decide +kernel
theorem dX3_combined_74 : decode cX3_combined 74 = .ok (.land, 1) := by decide +kernel
theorem dX3_combined_75 : decode cX3_combined 75 = .ok (.goto 4, 3) := by decide +kernel
theorem dX3_combined_78 : decode cX3_combined 78 = .ok (.lload_n 2, 1) := by decide +kernel
theorem dX3_combined_79 : decode cX3_combined 79 = .ok (.iload 6, 2) := by decide +kernel
theorem dX3_combined_81 : decode cX3_combined 81 = .ok (.lushr, 1) := by decide +kernel
theorem dX3_combined_82 : decode cX3_combined 82 = .ok (.lreturn, 1) := by decide +kernel
theorem dX3_combined_83 : decode cX3_combined 83 = .ok (.lload_n 2, 1) := by decide +kernel
theorem dX3_combined_84 : decode cX3_combined 84 = .ok (.lload 4, 2) := by decide +kernel
theorem dX3_combined_86 : decode cX3_combined 86 = .ok (.land, 1) := by decide +kernel
theorem dX3_combined_87 : decode cX3_combined 87 = .ok (.lreturn, 1) := by decide +kernel
theorem dX3_combined_88 : decode cX3_combined 88 = .ok (.lload_n 2, 1) := by decide +kernel
theorem dX3_combined_89 : decode cX3_combined 89 = .ok (.lload 4, 2) := by decide +kernel
theorem dX3_combined_91 : decode cX3_combined 91 = .ok (.lor, 1) := by decide +kernel
theorem dX3_combined_92 : decode cX3_combined 92 = .ok (.lreturn, 1) := by decide +kernel
theorem dX3_combined_93 : decode cX3_combined 93 = .ok (.lload_n 2, 1) := by decide +kernel
theorem dX3_combined_94 : decode cX3_combined 94 = .ok (.lload 4, 2) := by decide +kernel
theorem dX3_combined_96 : decode cX3_combined 96 = .ok (.lxor, 1) := by decide +kernel
theorem dX3_combined_97 : decode cX3_combined 97 = .ok (.lreturn, 1) := by decide +kernel
theorem dX3_combined_98 : decode cX3_combined 98 = .ok (.lload_n 2, 1) := by decide +kernel
theorem dX3_combined_99 : decode cX3_combined 99 = .ok (.lload 4, 2) := by decide +kernel
theorem dX3_combined_101 : decode cX3_combined 101 = .ok (.invokestatic 37, 3) := by decide +kernel
theorem dX3_combined_104 : decode cX3_combined 104 = .ok (.i2l, 1) := by decide +kernel
theorem dX3_combined_105 : decode cX3_combined 105 = .ok (.lreturn, 1) := by decide +kernel
theorem dX3_floatingResult_0 : decode cX3_floatingResult 0 = .ok (.iload_n 0, 1) := by decide +kernel
theorem dX3_floatingResult_1 : decode cX3_floatingResult 1 = .ok (.tableswitch 141 20 33 #[71, 79, 91, 99, 107, 115, 123, 141, 141, 141, 141, 141, 141, 131], 71) := by decide +kernel
theorem dX3_floatingResult_72 : decode cX3_floatingResult 72 = .ok (.aload_n 1, 1) := by decide +kernel
theorem dX3_floatingResult_73 : decode cX3_floatingResult 73 = .ok (.lload_n 2, 1) := by decide +kernel
theorem dX3_floatingResult_74 : decode cX3_floatingResult 74 = .ok (.lload 4, 2) := by decide +kernel
theorem dX3_floatingResult_76 : decode cX3_floatingResult 76 = .ok (.invokevirtual 43, 3) := by decide +kernel
theorem dX3_floatingResult_79 : decode cX3_floatingResult 79 = .ok (.lreturn, 1) := by decide +kernel
theorem dX3_floatingResult_80 : decode cX3_floatingResult 80 = .ok (.aload_n 1, 1) := by decide +kernel
theorem dX3_floatingResult_81 : decode cX3_floatingResult 81 = .ok (.lload_n 2, 1) := by decide +kernel
theorem dX3_floatingResult_82 : decode cX3_floatingResult 82 = .ok (.aload_n 1, 1) := by decide +kernel
theorem dX3_floatingResult_83 : decode cX3_floatingResult 83 = .ok (.lload 4, 2) := by decide +kernel
theorem dX3_floatingResult_85 : decode cX3_floatingResult 85 = .ok (.invokevirtual 48, 3) := by decide +kernel
theorem dX3_floatingResult_88 : decode cX3_floatingResult 88 = .ok (.invokevirtual 43, 3) := by decide +kernel
theorem dX3_floatingResult_91 : decode cX3_floatingResult 91 = .ok (.lreturn, 1) := by decide +kernel
theorem dX3_floatingResult_92 : decode cX3_floatingResult 92 = .ok (.aload_n 1, 1) := by decide +kernel
theorem dX3_floatingResult_93 : decode cX3_floatingResult 93 = .ok (.lload_n 2, 1) := by decide +kernel
theorem dX3_floatingResult_94 : decode cX3_floatingResult 94 = .ok (.lload 4, 2) := by decide +kernel
theorem dX3_floatingResult_96 : decode cX3_floatingResult 96 = .ok (.invokevirtual 52, 3) := by decide +kernel
theorem dX3_floatingResult_99 : decode cX3_floatingResult 99 = .ok (.lreturn, 1) := by decide +kernel
theorem dX3_floatingResult_100 : decode cX3_floatingResult 100 = .ok (.aload_n 1, 1) := by decide +kernel
theorem dX3_floatingResult_101 : decode cX3_floatingResult 101 = .ok (.lload_n 2, 1) := by decide +kernel
theorem dX3_floatingResult_102 : decode cX3_floatingResult 102 = .ok (.lload 4, 2) := by decide +kernel
theorem dX3_floatingResult_104 : decode cX3_floatingResult 104 = .ok (.invokevirtual 55, 3) := by decide +kernel
theorem dX3_floatingResult_107 : decode cX3_floatingResult 107 = .ok (.lreturn, 1) := by decide +kernel
theorem dX3_floatingResult_108 : decode cX3_floatingResult 108 = .ok (.aload_n 1, 1) := by decide +kernel
theorem dX3_floatingResult_109 : decode cX3_floatingResult 109 = .ok (.lload_n 2, 1) := by decide +kernel
theorem dX3_floatingResult_110 : decode cX3_floatingResult 110 = .ok (.lload 4, 2) := by decide +kernel
theorem dX3_floatingResult_112 : decode cX3_floatingResult 112 = .ok (.invokevirtual 58, 3) := by decide +kernel
theorem dX3_floatingResult_115 : decode cX3_floatingResult 115 = .ok (.lreturn, 1) := by decide +kernel
theorem dX3_floatingResult_116 : decode cX3_floatingResult 116 = .ok (.aload_n 1, 1) := by decide +kernel
theorem dX3_floatingResult_117 : decode cX3_floatingResult 117 = .ok (.lload_n 2, 1) := by decide +kernel
theorem dX3_floatingResult_118 : decode cX3_floatingResult 118 = .ok (.lload 4, 2) := by decide +kernel
theorem dX3_floatingResult_120 : decode cX3_floatingResult 120 = .ok (.invokevirtual 61, 3) := by decide +kernel
theorem dX3_floatingResult_123 : decode cX3_floatingResult 123 = .ok (.lreturn, 1) := by decide +kernel
theorem dX3_floatingResult_124 : decode cX3_floatingResult 124 = .ok (.aload_n 1, 1) := by decide +kernel
theorem dX3_floatingResult_125 : decode cX3_floatingResult 125 = .ok (.lload_n 2, 1) := by decide +kernel
theorem dX3_floatingResult_126 : decode cX3_floatingResult 126 = .ok (.lload 4, 2) := by decide +kernel
theorem dX3_floatingResult_128 : decode cX3_floatingResult 128 = .ok (.invokevirtual 64, 3) := by decide +kernel
theorem dX3_floatingResult_131 : decode cX3_floatingResult 131 = .ok (.lreturn, 1) := by decide +kernel
theorem dX3_floatingResult_132 : decode cX3_floatingResult 132 = .ok (.aload_n 1, 1) := by decide +kernel
theorem dX3_floatingResult_133 : decode cX3_floatingResult 133 = .ok (.lload_n 2, 1) := by decide +kernel
theorem dX3_floatingResult_134 : decode cX3_floatingResult 134 = .ok (.lload 4, 2) := by decide +kernel
theorem dX3_floatingResult_136 : decode cX3_floatingResult 136 = .ok (.iconst (-1), 1) := by decide +kernel
theorem dX3_floatingResult_137 : decode cX3_floatingResult 137 = .ok (.invokevirtual 67, 3) := by decide +kernel
theorem dX3_floatingResult_140 : decode cX3_floatingResult 140 = .ok (.i2l, 1) := by decide +kernel
theorem dX3_floatingResult_141 : decode cX3_floatingResult 141 = .ok (.lreturn, 1) := by decide +kernel
theorem dX3_floatingResult_142 : decode cX3_floatingResult 142 = .ok (.aload_n 1, 1) := by decide +kernel
theorem dX3_floatingResult_143 : decode cX3_floatingResult 143 = .ok (.lload_n 2, 1) := by decide +kernel
theorem dX3_floatingResult_144 : decode cX3_floatingResult 144 = .ok (.lload 4, 2) := by decide +kernel
theorem dX3_floatingResult_146 : decode cX3_floatingResult 146 = .ok (.iconst 1, 1) := by decide +kernel
theorem dX3_floatingResult_147 : decode cX3_floatingResult 147 = .ok (.invokevirtual 67, 3) := by decide +kernel
theorem dX3_floatingResult_150 : decode cX3_floatingResult 150 = .ok (.i2l, 1) := by decide +kernel
theorem dX3_floatingResult_151 : decode cX3_floatingResult 151 = .ok (.lreturn, 1) := by decide +kernel
theorem dX4_takes_0 : decode cX4_takes 0 = .ok (.iload_n 0, 1) := by decide +kernel
theorem dX4_takes_1 : decode cX4_takes 1 = .ok (.i2l, 1) := by decide +kernel
theorem dX4_takes_2 : decode cX4_takes 2 = .ok (.bipush 15, 2) := by decide +kernel
theorem dX4_takes_4 : decode cX4_takes 4 = .ok (.invokestatic 11, 3) := by decide +kernel
theorem dX4_takes_7 : decode cX4_takes 7 = .ok (.ifCond .eq 18, 3) := by decide +kernel
theorem dX4_takes_10 : decode cX4_takes 10 = .ok (.getstatic 15, 3) := by decide +kernel
theorem dX4_takes_13 : decode cX4_takes 13 = .ok (.iload_n 0, 1) := by decide +kernel
theorem dX4_takes_14 : decode cX4_takes 14 = .ok (.iaload, 1) := by decide +kernel
theorem dX4_takes_15 : decode cX4_takes 15 = .ok (.iload_n 1, 1) := by decide +kernel
theorem dX4_takes_16 : decode cX4_takes 16 = .ok (.if_icmp .ne 7, 3) := by decide +kernel
theorem dX4_takes_19 : decode cX4_takes 19 = .ok (.iconst 1, 1) := by decide +kernel
theorem dX4_takes_20 : decode cX4_takes 20 = .ok (.goto 4, 3) := by decide +kernel
theorem dX4_takes_23 : decode cX4_takes 23 = .ok (.iconst 0, 1) := by decide +kernel
theorem dX4_takes_24 : decode cX4_takes 24 = .ok (.ireturn, 1) := by decide +kernel
theorem dX4_takes_25 : decode cX4_takes 25 = .ok (.iload_n 0, 1) := by decide +kernel
theorem dX4_takes_26 : decode cX4_takes 26 = .ok (.tableswitch 50 15 18 #[30, 30, 32, 37], 30) := by decide +kernel
theorem dX4_takes_56 : decode cX4_takes 56 = .ok (.iconst 1, 1) := by decide +kernel
theorem dX4_takes_57 : decode cX4_takes 57 = .ok (.ireturn, 1) := by decide +kernel
theorem dX4_takes_58 : decode cX4_takes 58 = .ok (.iload_n 1, 1) := by decide +kernel
theorem dX4_takes_59 : decode cX4_takes 59 = .ok (.invokestatic 19, 3) := by decide +kernel
theorem dX4_takes_62 : decode cX4_takes 62 = .ok (.ireturn, 1) := by decide +kernel
theorem dX4_takes_63 : decode cX4_takes 63 = .ok (.iload_n 1, 1) := by decide +kernel
theorem dX4_takes_64 : decode cX4_takes 64 = .ok (.invokestatic 19, 3) := by decide +kernel
theorem dX4_takes_67 : decode cX4_takes 67 = .ok (.ifCond .ne 7, 3) := by decide +kernel
theorem dX4_takes_70 : decode cX4_takes 70 = .ok (.iconst 1, 1) := by decide +kernel
theorem dX4_takes_71 : decode cX4_takes 71 = .ok (.goto 4, 3) := by decide +kernel
theorem dX4_takes_74 : decode cX4_takes 74 = .ok (.iconst 0, 1) := by decide +kernel
theorem dX4_takes_75 : decode cX4_takes 75 = .ok (.ireturn, 1) := by decide +kernel
theorem dX4_takes_76 : decode cX4_takes 76 = .ok (.iconst 0, 1) := by decide +kernel
theorem dX4_takes_77 : decode cX4_takes 77 = .ok (.ireturn, 1) := by decide +kernel
theorem dX4_rounds_0 : decode cX4_rounds 0 = .ok (.iload_n 0, 1) := by decide +kernel
theorem dX4_rounds_1 : decode cX4_rounds 1 = .ok (.iconst 1, 1) := by decide +kernel
theorem dX4_rounds_2 : decode cX4_rounds 2 = .ok (.if_icmp .eq 19, 3) := by decide +kernel
theorem dX4_rounds_5 : decode cX4_rounds 5 = .ok (.iload_n 0, 1) := by decide +kernel
theorem dX4_rounds_6 : decode cX4_rounds 6 = .ok (.iconst 4, 1) := by decide +kernel
theorem dX4_rounds_7 : decode cX4_rounds 7 = .ok (.if_icmp .eq 14, 3) := by decide +kernel
theorem dX4_rounds_10 : decode cX4_rounds 10 = .ok (.iload_n 0, 1) := by decide +kernel
theorem dX4_rounds_11 : decode cX4_rounds 11 = .ok (.iconst 5, 1) := by decide +kernel
theorem dX4_rounds_12 : decode cX4_rounds 12 = .ok (.if_icmp .eq 9, 3) := by decide +kernel
theorem dX4_rounds_15 : decode cX4_rounds 15 = .ok (.iload_n 0, 1) := by decide +kernel
theorem dX4_rounds_16 : decode cX4_rounds 16 = .ok (.bipush 11, 2) := by decide +kernel
theorem dX4_rounds_18 : decode cX4_rounds 18 = .ok (.if_icmp .ne 7, 3) := by decide +kernel
theorem dX4_rounds_21 : decode cX4_rounds 21 = .ok (.iconst 1, 1) := by decide +kernel
theorem dX4_rounds_22 : decode cX4_rounds 22 = .ok (.goto 4, 3) := by decide +kernel
theorem dX4_rounds_25 : decode cX4_rounds 25 = .ok (.iconst 0, 1) := by decide +kernel
theorem dX4_rounds_26 : decode cX4_rounds 26 = .ok (.ireturn, 1) := by decide +kernel
theorem dX4_resultKind_0 : decode cX4_resultKind 0 = .ok (.iload_n 0, 1) := by decide +kernel
theorem dX4_resultKind_1 : decode cX4_resultKind 1 = .ok (.i2l, 1) := by decide +kernel
theorem dX4_resultKind_2 : decode cX4_resultKind 2 = .ok (.bipush 15, 2) := by decide +kernel
theorem dX4_resultKind_4 : decode cX4_resultKind 4 = .ok (.invokestatic 11, 3) := by decide +kernel
theorem dX4_resultKind_7 : decode cX4_resultKind 7 = .ok (.ifCond .eq 9, 3) := by decide +kernel
theorem dX4_resultKind_10 : decode cX4_resultKind 10 = .ok (.getstatic 23, 3) := by decide +kernel
theorem dX4_resultKind_13 : decode cX4_resultKind 13 = .ok (.iload_n 0, 1) := by decide +kernel
theorem dX4_resultKind_14 : decode cX4_resultKind 14 = .ok (.iaload, 1) := by decide +kernel
theorem dX4_resultKind_15 : decode cX4_resultKind 15 = .ok (.ireturn, 1) := by decide +kernel
theorem dX4_resultKind_16 : decode cX4_resultKind 16 = .ok (.iload_n 0, 1) := by decide +kernel
theorem dX4_resultKind_17 : decode cX4_resultKind 17 = .ok (.bipush 17, 2) := by decide +kernel
theorem dX4_resultKind_19 : decode cX4_resultKind 19 = .ok (.if_icmp .ne 14, 3) := by decide +kernel
theorem dX4_resultKind_22 : decode cX4_resultKind 22 = .ok (.iload_n 1, 1) := by decide +kernel
theorem dX4_resultKind_23 : decode cX4_resultKind 23 = .ok (.iconst 2, 1) := by decide +kernel
theorem dX4_resultKind_24 : decode cX4_resultKind 24 = .ok (.if_icmp .ne 7, 3) := by decide +kernel
theorem dX4_resultKind_27 : decode cX4_resultKind 27 = .ok (.iconst 0, 1) := by decide +kernel
theorem dX4_resultKind_28 : decode cX4_resultKind 28 = .ok (.goto 4, 3) := by decide +kernel
theorem dX4_resultKind_31 : decode cX4_resultKind 31 = .ok (.iconst 1, 1) := by decide +kernel
theorem dX4_resultKind_32 : decode cX4_resultKind 32 = .ok (.ireturn, 1) := by decide +kernel
theorem dX4_resultKind_33 : decode cX4_resultKind 33 = .ok (.iload_n 0, 1) := by decide +kernel
theorem dX4_resultKind_34 : decode cX4_resultKind 34 = .ok (.bipush 18, 2) := by decide +kernel
theorem dX4_resultKind_36 : decode cX4_resultKind 36 = .ok (.if_icmp .ne 13, 3) := by decide +kernel
theorem dX4_resultKind_39 : decode cX4_resultKind 39 = .ok (.iload_n 1, 1) := by decide +kernel
theorem dX4_resultKind_40 : decode cX4_resultKind 40 = .ok (.ifCond .ne 7, 3) := by decide +kernel
theorem dX4_resultKind_43 : decode cX4_resultKind 43 = .ok (.iconst 2, 1) := by decide +kernel
theorem dX4_resultKind_44 : decode cX4_resultKind 44 = .ok (.goto 4, 3) := by decide +kernel
theorem dX4_resultKind_47 : decode cX4_resultKind 47 = .ok (.iconst 3, 1) := by decide +kernel
theorem dX4_resultKind_48 : decode cX4_resultKind 48 = .ok (.ireturn, 1) := by decide +kernel
theorem dX4_resultKind_49 : decode cX4_resultKind 49 = .ok (.iload_n 1, 1) := by decide +kernel
theorem dX4_resultKind_50 : decode cX4_resultKind 50 = .ok (.ireturn, 1) := by decide +kernel
theorem dX4_result_0 : decode cX4_result 0 = .ok (.iload_n 0, 1) := by decide +kernel
theorem dX4_result_1 : decode cX4_result 1 = .ok (.tableswitch 236 0 17 #[87, 93, 101, 89, 93, 101, 109, 120, 128, 139, 150, 158, 169, 174, 179, 184, 209, 87], 87) := by decide +kernel
theorem dX4_result_88 : decode cX4_result 88 = .ok (.lload_n 2, 1) := by decide +kernel
theorem dX4_result_89 : decode cX4_result 89 = .ok (.lreturn, 1) := by decide +kernel
theorem dX4_result_90 : decode cX4_result 90 = .ok (.lload_n 2, 1) := by decide +kernel
theorem dX4_result_91 : decode cX4_result 91 = .ok (.l2i, 1) := by decide +kernel
theorem dX4_result_92 : decode cX4_result 92 = .ok (.i2l, 1) := by decide +kernel
theorem dX4_result_93 : decode cX4_result 93 = .ok (.lreturn, 1) := by decide +kernel
theorem dX4_result_94 : decode cX4_result 94 = .ok (.getstatic 26, 3) := by decide +kernel
theorem dX4_result_97 : decode cX4_result 97 = .ok (.lload_n 2, 1) := by decide +kernel
theorem dX4_result_98 : decode cX4_result 98 = .ok (.invokevirtual 32, 3) := by decide +kernel
theorem dX4_result_101 : decode cX4_result 101 = .ok (.lreturn, 1) := by decide +kernel
theorem dX4_result_102 : decode cX4_result 102 = .ok (.getstatic 36, 3) := by decide +kernel
theorem dX4_result_105 : decode cX4_result 105 = .ok (.lload_n 2, 1) := by decide +kernel
theorem dX4_result_106 : decode cX4_result 106 = .ok (.invokevirtual 32, 3) := by decide +kernel
theorem dX4_result_109 : decode cX4_result 109 = .ok (.lreturn, 1) := by decide +kernel
theorem dX4_result_110 : decode cX4_result 110 = .ok (.getstatic 26, 3) := by decide +kernel
theorem dX4_result_113 : decode cX4_result 113 = .ok (.lload_n 2, 1) := by decide +kernel
theorem dX4_result_114 : decode cX4_result 114 = .ok (.invokevirtual 39, 3) := by decide +kernel
theorem dX4_result_117 : decode cX4_result 117 = .ok (.invokestatic 42, 3) := by decide +kernel
theorem dX4_result_120 : decode cX4_result 120 = .ok (.lreturn, 1) := by decide +kernel
theorem dX4_result_121 : decode cX4_result 121 = .ok (.getstatic 26, 3) := by decide +kernel
theorem dX4_result_124 : decode cX4_result 124 = .ok (.lload_n 2, 1) := by decide +kernel
theorem dX4_result_125 : decode cX4_result 125 = .ok (.invokevirtual 39, 3) := by decide +kernel
theorem dX4_result_128 : decode cX4_result 128 = .ok (.lreturn, 1) := by decide +kernel
theorem dX4_result_129 : decode cX4_result 129 = .ok (.getstatic 36, 3) := by decide +kernel
theorem dX4_result_132 : decode cX4_result 132 = .ok (.getstatic 26, 3) := by decide +kernel
theorem dX4_result_135 : decode cX4_result 135 = .ok (.lload_n 2, 1) := by decide +kernel
theorem dX4_result_136 : decode cX4_result 136 = .ok (.invokevirtual 45, 3) := by decide +kernel
theorem dX4_result_139 : decode cX4_result 139 = .ok (.lreturn, 1) := by decide +kernel
theorem dX4_result_140 : decode cX4_result 140 = .ok (.getstatic 36, 3) := by decide +kernel
theorem dX4_result_143 : decode cX4_result 143 = .ok (.lload_n 2, 1) := by decide +kernel
theorem dX4_result_144 : decode cX4_result 144 = .ok (.invokevirtual 39, 3) := by decide +kernel
theorem dX4_result_147 : decode cX4_result 147 = .ok (.invokestatic 42, 3) := by decide +kernel
theorem dX4_result_150 : decode cX4_result 150 = .ok (.lreturn, 1) := by decide +kernel
theorem dX4_result_151 : decode cX4_result 151 = .ok (.getstatic 36, 3) := by decide +kernel
theorem dX4_result_154 : decode cX4_result 154 = .ok (.lload_n 2, 1) := by decide +kernel
theorem dX4_result_155 : decode cX4_result 155 = .ok (.invokevirtual 39, 3) := by decide +kernel
theorem dX4_result_158 : decode cX4_result 158 = .ok (.lreturn, 1) := by decide +kernel
theorem dX4_result_159 : decode cX4_result 159 = .ok (.getstatic 26, 3) := by decide +kernel
theorem dX4_result_162 : decode cX4_result 162 = .ok (.getstatic 36, 3) := by decide +kernel
theorem dX4_result_165 : decode cX4_result 165 = .ok (.lload_n 2, 1) := by decide +kernel
theorem dX4_result_166 : decode cX4_result 166 = .ok (.invokevirtual 45, 3) := by decide +kernel
theorem dX4_result_169 : decode cX4_result 169 = .ok (.lreturn, 1) := by decide +kernel
theorem dX4_result_170 : decode cX4_result 170 = .ok (.lload_n 2, 1) := by decide +kernel
theorem dX4_result_171 : decode cX4_result 171 = .ok (.l2i, 1) := by decide +kernel
theorem dX4_result_172 : decode cX4_result 172 = .ok (.i2b, 1) := by decide +kernel
theorem dX4_result_173 : decode cX4_result 173 = .ok (.i2l, 1) := by decide +kernel
theorem dX4_result_174 : decode cX4_result 174 = .ok (.lreturn, 1) := by decide +kernel
theorem dX4_result_175 : decode cX4_result 175 = .ok (.lload_n 2, 1) := by decide +kernel
theorem dX4_result_176 : decode cX4_result 176 = .ok (.l2i, 1) := by decide +kernel
theorem dX4_result_177 : decode cX4_result 177 = .ok (.i2c, 1) := by decide +kernel
theorem dX4_result_178 : decode cX4_result 178 = .ok (.i2l, 1) := by decide +kernel
theorem dX4_result_179 : decode cX4_result 179 = .ok (.lreturn, 1) := by decide +kernel
theorem dX4_result_180 : decode cX4_result 180 = .ok (.lload_n 2, 1) := by decide +kernel
theorem dX4_result_181 : decode cX4_result 181 = .ok (.l2i, 1) := by decide +kernel
theorem dX4_result_182 : decode cX4_result 182 = .ok (.i2s, 1) := by decide +kernel
theorem dX4_result_183 : decode cX4_result 183 = .ok (.i2l, 1) := by decide +kernel
theorem dX4_result_184 : decode cX4_result 184 = .ok (.lreturn, 1) := by decide +kernel
theorem dX4_result_185 : decode cX4_result 185 = .ok (.iload_n 1, 1) := by decide +kernel
theorem dX4_result_186 : decode cX4_result 186 = .ok (.invokestatic 19, 3) := by decide +kernel
theorem dX4_result_189 : decode cX4_result 189 = .ok (.ifCond .eq 14, 3) := by decide +kernel
theorem dX4_result_192 : decode cX4_result 192 = .ok (.iload_n 1, 1) := by decide +kernel
theorem dX4_result_193 : decode cX4_result 193 = .ok (.invokestatic 49, 3) := by decide +kernel
theorem dX4_result_196 : decode cX4_result 196 = .ok (.lload_n 2, 1) := by decide +kernel
theorem dX4_result_197 : decode cX4_result 197 = .ok (.invokevirtual 53, 3) := by decide +kernel
theorem dX4_result_200 : decode cX4_result 200 = .ok (.goto 9, 3) := by decide +kernel
theorem dX4_result_203 : decode cX4_result 203 = .ok (.iload_n 1, 1) := by decide +kernel
theorem dX4_result_204 : decode cX4_result 204 = .ok (.lload_n 2, 1) := by decide +kernel
theorem dX4_result_205 : decode cX4_result 205 = .ok (.lneg, 1) := by decide +kernel
theorem dX4_result_206 : decode cX4_result 206 = .ok (.invokestatic 56, 3) := by decide +kernel
theorem dX4_result_209 : decode cX4_result 209 = .ok (.lreturn, 1) := by decide +kernel
theorem dX4_result_210 : decode cX4_result 210 = .ok (.iload_n 1, 1) := by decide +kernel
theorem dX4_result_211 : decode cX4_result 211 = .ok (.invokestatic 19, 3) := by decide +kernel
theorem dX4_result_214 : decode cX4_result 214 = .ok (.ifCond .eq 14, 3) := by decide +kernel
theorem dX4_result_217 : decode cX4_result 217 = .ok (.iload_n 1, 1) := by decide +kernel
theorem dX4_result_218 : decode cX4_result 218 = .ok (.invokestatic 49, 3) := by decide +kernel
theorem dX4_result_221 : decode cX4_result 221 = .ok (.lload_n 2, 1) := by decide +kernel
theorem dX4_result_222 : decode cX4_result 222 = .ok (.invokevirtual 60, 3) := by decide +kernel
theorem dX4_result_225 : decode cX4_result 225 = .ok (.goto 11, 3) := by decide +kernel
theorem dX4_result_228 : decode cX4_result 228 = .ok (.iload_n 1, 1) := by decide +kernel
theorem dX4_result_229 : decode cX4_result 229 = .ok (.lload_n 2, 1) := by decide +kernel
theorem dX4_result_230 : decode cX4_result 230 = .ok (.invokestatic 63, 3) := by decide +kernel
theorem dX4_result_233 : decode cX4_result 233 = .ok (.invokestatic 56, 3) := by decide +kernel
theorem dX4_result_236 : decode cX4_result 236 = .ok (.lreturn, 1) := by decide +kernel
theorem dX4_result_237 : decode cX4_result 237 = .ok (.iload_n 0, 1) := by decide +kernel
theorem dX4_result_238 : decode cX4_result 238 = .ok (.iload_n 1, 1) := by decide +kernel
theorem dX4_result_239 : decode cX4_result 239 = .ok (.invokestatic 68, 3) := by decide +kernel
theorem dX4_result_242 : decode cX4_result 242 = .ok (.lload_n 2, 1) := by decide +kernel
theorem dX4_result_243 : decode cX4_result 243 = .ok (.invokestatic 56, 3) := by decide +kernel
theorem dX4_result_246 : decode cX4_result 246 = .ok (.lreturn, 1) := by decide +kernel
theorem dX4_nearestInt_0 : decode cX4_nearestInt 0 = .ok (.ldc2_w 72, 3) := by decide +kernel
theorem dX4_nearestInt_3 : decode cX4_nearestInt 3 = .ok (.ldc2_w 74, 3) := by decide +kernel
theorem dX4_nearestInt_6 : decode cX4_nearestInt 6 = .ok (.lload_n 0, 1) := by decide +kernel
theorem dX4_nearestInt_7 : decode cX4_nearestInt 7 = .ok (.invokestatic 76, 3) := by decide +kernel
theorem dX4_nearestInt_10 : decode cX4_nearestInt 10 = .ok (.invokestatic 80, 3) := by decide +kernel
theorem dX4_nearestInt_13 : decode cX4_nearestInt 13 = .ok (.lreturn, 1) := by decide +kernel
theorem dX5_init_0 : decode cX5_init 0 = .ok (.aload_n 0, 1) := by decide +kernel
theorem dX5_init_1 : decode cX5_init 1 = .ok (.invokespecial 1, 3) := by decide +kernel
theorem dX5_init_4 : decode cX5_init 4 = .ok (.aload_n 0, 1) := by decide +kernel
theorem dX5_init_5 : decode cX5_init 5 = .ok (.bipush 8, 2) := by decide +kernel
theorem dX5_init_7 : decode cX5_init 7 = .ok (.newarray .int, 2) := by decide +kernel
theorem dX5_init_9 : decode cX5_init 9 = .ok (.putfield 9, 3) := by decide +kernel
theorem dX5_init_12 : decode cX5_init 12 = .ok (.aload_n 0, 1) := by decide +kernel
theorem dX5_init_13 : decode cX5_init 13 = .ok (.bipush 8, 2) := by decide +kernel
theorem dX5_init_15 : decode cX5_init 15 = .ok (.newarray .long, 2) := by decide +kernel
theorem dX5_init_17 : decode cX5_init 17 = .ok (.putfield 13, 3) := by decide +kernel
theorem dX5_init_20 : decode cX5_init 20 = .ok (.aload_n 0, 1) := by decide +kernel
theorem dX5_init_21 : decode cX5_init 21 = .ok (.bipush 8, 2) := by decide +kernel
theorem dX5_init_23 : decode cX5_init 23 = .ok (.newarray .int, 2) := by decide +kernel
theorem dX5_init_25 : decode cX5_init 25 = .ok (.putfield 17, 3) := by decide +kernel
theorem dX5_init_28 : decode cX5_init 28 = .ok (.aload_n 0, 1) := by decide +kernel
theorem dX5_init_29 : decode cX5_init 29 = .ok (.iconst 4, 1) := by decide +kernel
theorem dX5_init_30 : decode cX5_init 30 = .ok (.anewarray 20, 3) := by decide +kernel
theorem dX5_init_33 : decode cX5_init 33 = .ok (.putfield 22, 3) := by decide +kernel
theorem dX5_init_36 : decode cX5_init 36 = .ok (.aload_n 0, 1) := by decide +kernel
theorem dX5_init_37 : decode cX5_init 37 = .ok (.iconst 4, 1) := by decide +kernel
theorem dX5_init_38 : decode cX5_init 38 = .ok (.anewarray 20, 3) := by decide +kernel
theorem dX5_init_41 : decode cX5_init 41 = .ok (.putfield 26, 3) := by decide +kernel
theorem dX5_init_44 : decode cX5_init 44 = .ok (.aload_n 0, 1) := by decide +kernel
theorem dX5_init_45 : decode cX5_init 45 = .ok (.new 29, 3) := by decide +kernel
theorem dX5_init_48 : decode cX5_init 48 = .ok (.dup, 1) := by decide +kernel
theorem dX5_init_49 : decode cX5_init 49 = .ok (.invokespecial 31, 3) := by decide +kernel
theorem dX5_init_52 : decode cX5_init 52 = .ok (.putfield 32, 3) := by decide +kernel
theorem dX5_init_55 : decode cX5_init 55 = .ok (.aload_n 0, 1) := by decide +kernel
theorem dX5_init_56 : decode cX5_init 56 = .ok (.new 29, 3) := by decide +kernel
theorem dX5_init_59 : decode cX5_init 59 = .ok (.dup, 1) := by decide +kernel
theorem dX5_init_60 : decode cX5_init 60 = .ok (.invokespecial 31, 3) := by decide +kernel
theorem dX5_init_63 : decode cX5_init 63 = .ok (.putfield 36, 3) := by decide +kernel
theorem dX5_init_66 : decode cX5_init 66 = .ok (.iconst 0, 1) := by decide +kernel
theorem dX5_init_67 : decode cX5_init 67 = .ok (.istore_n 1, 1) := by decide +kernel
theorem dX5_init_68 : decode cX5_init 68 = .ok (.iload_n 1, 1) := by decide +kernel
theorem dX5_init_69 : decode cX5_init 69 = .ok (.bipush 8, 2) := by decide +kernel
theorem dX5_init_71 : decode cX5_init 71 = .ok (.if_icmp .ge 17, 3) := by decide +kernel
theorem dX5_init_74 : decode cX5_init 74 = .ok (.aload_n 0, 1) := by decide +kernel
theorem dX5_init_75 : decode cX5_init 75 = .ok (.getfield 17, 3) := by decide +kernel
theorem dX5_init_78 : decode cX5_init 78 = .ok (.iload_n 1, 1) := by decide +kernel
theorem dX5_init_79 : decode cX5_init 79 = .ok (.bipush 64, 2) := by decide +kernel
theorem dX5_init_81 : decode cX5_init 81 = .ok (.iastore, 1) := by decide +kernel
theorem dX5_init_82 : decode cX5_init 82 = .ok (.iinc 1 1, 3) := by decide +kernel
theorem dX5_init_85 : decode cX5_init 85 = .ok (.goto (-17), 3) := by decide +kernel
theorem dX5_init_88 : decode cX5_init 88 = .ok (.iconst 0, 1) := by decide +kernel
theorem dX5_init_89 : decode cX5_init 89 = .ok (.istore_n 1, 1) := by decide +kernel
theorem dX5_init_90 : decode cX5_init 90 = .ok (.iload_n 1, 1) := by decide +kernel
theorem dX5_init_91 : decode cX5_init 91 = .ok (.iconst 4, 1) := by decide +kernel
theorem dX5_init_92 : decode cX5_init 92 = .ok (.if_icmp .ge 22, 3) := by decide +kernel
theorem dX5_init_95 : decode cX5_init 95 = .ok (.aload_n 0, 1) := by decide +kernel
theorem dX5_init_96 : decode cX5_init 96 = .ok (.getfield 26, 3) := by decide +kernel
theorem dX5_init_99 : decode cX5_init 99 = .ok (.iload_n 1, 1) := by decide +kernel
theorem dX5_init_100 : decode cX5_init 100 = .ok (.new 20, 3) := by decide +kernel
theorem dX5_init_103 : decode cX5_init 103 = .ok (.dup, 1) := by decide +kernel
theorem dX5_init_104 : decode cX5_init 104 = .ok (.invokespecial 39, 3) := by decide +kernel
theorem dX5_init_107 : decode cX5_init 107 = .ok (.aastore, 1) := by decide +kernel
theorem dX5_init_108 : decode cX5_init 108 = .ok (.iinc 1 1, 3) := by decide +kernel
theorem dX5_init_111 : decode cX5_init 111 = .ok (.goto (-21), 3) := by decide +kernel
theorem dX5_init_114 : decode cX5_init 114 = .ok (.return_, 1) := by decide +kernel
theorem dX5_constant_0 : decode cX5_constant 0 = .ok (.iload_n 1, 1) := by decide +kernel
theorem dX5_constant_1 : decode cX5_constant 1 = .ok (.i2l, 1) := by decide +kernel
theorem dX5_constant_2 : decode cX5_constant 2 = .ok (.bipush 8, 2) := by decide +kernel
theorem dX5_constant_4 : decode cX5_constant 4 = .ok (.invokestatic 40, 3) := by decide +kernel
theorem dX5_constant_7 : decode cX5_constant 7 = .ok (.ifCond .eq 12, 3) := by decide +kernel
theorem dX5_constant_10 : decode cX5_constant 10 = .ok (.iload_n 2, 1) := by decide +kernel
theorem dX5_constant_11 : decode cX5_constant 11 = .ok (.i2l, 1) := by decide +kernel
theorem dX5_constant_12 : decode cX5_constant 12 = .ok (.iconst 4, 1) := by decide +kernel
theorem dX5_constant_13 : decode cX5_constant 13 = .ok (.invokestatic 40, 3) := by decide +kernel
theorem dX5_constant_16 : decode cX5_constant 16 = .ok (.ifCond .ne 5, 3) := by decide +kernel
theorem dX5_constant_19 : decode cX5_constant 19 = .ok (.iconst (-1), 1) := by decide +kernel
theorem dX5_constant_20 : decode cX5_constant 20 = .ok (.ireturn, 1) := by decide +kernel
theorem dX5_constant_21 : decode cX5_constant 21 = .ok (.aload_n 0, 1) := by decide +kernel
theorem dX5_constant_22 : decode cX5_constant 22 = .ok (.iload_n 1, 1) := by decide +kernel
theorem dX5_constant_23 : decode cX5_constant 23 = .ok (.iload_n 2, 1) := by decide +kernel
theorem dX5_constant_24 : decode cX5_constant 24 = .ok (.iload_n 2, 1) := by decide +kernel
theorem dX5_constant_25 : decode cX5_constant 25 = .ok (.lload_n 3, 1) := by decide +kernel
theorem dX5_constant_26 : decode cX5_constant 26 = .ok (.invokestatic 44, 3) := by decide +kernel
theorem dX5_constant_29 : decode cX5_constant 29 = .ok (.bipush 64, 2) := by decide +kernel
theorem dX5_constant_31 : decode cX5_constant 31 = .ok (.invokevirtual 48, 3) := by decide +kernel
theorem dX5_constant_34 : decode cX5_constant 34 = .ok (.iconst 0, 1) := by decide +kernel
theorem dX5_constant_35 : decode cX5_constant 35 = .ok (.ireturn, 1) := by decide +kernel
theorem dX5_input_0 : decode cX5_input 0 = .ok (.iload_n 1, 1) := by decide +kernel
theorem dX5_input_1 : decode cX5_input 1 = .ok (.i2l, 1) := by decide +kernel
theorem dX5_input_2 : decode cX5_input 2 = .ok (.bipush 8, 2) := by decide +kernel
theorem dX5_input_4 : decode cX5_input 4 = .ok (.invokestatic 40, 3) := by decide +kernel
theorem dX5_input_7 : decode cX5_input 7 = .ok (.ifCond .eq 23, 3) := by decide +kernel
theorem dX5_input_10 : decode cX5_input 10 = .ok (.iload_n 2, 1) := by decide +kernel
theorem dX5_input_11 : decode cX5_input 11 = .ok (.i2l, 1) := by decide +kernel
theorem dX5_input_12 : decode cX5_input 12 = .ok (.iconst 4, 1) := by decide +kernel
theorem dX5_input_13 : decode cX5_input 13 = .ok (.invokestatic 40, 3) := by decide +kernel
theorem dX5_input_16 : decode cX5_input 16 = .ok (.ifCond .eq 14, 3) := by decide +kernel
theorem dX5_input_19 : decode cX5_input 19 = .ok (.iload 5, 2) := by decide +kernel
theorem dX5_input_21 : decode cX5_input 21 = .ok (.i2l, 1) := by decide +kernel
theorem dX5_input_22 : decode cX5_input 22 = .ok (.bipush 6, 2) := by decide +kernel
theorem dX5_input_24 : decode cX5_input 24 = .ok (.invokestatic 40, 3) := by decide +kernel
theorem dX5_input_27 : decode cX5_input 27 = .ok (.ifCond .ne 5, 3) := by decide +kernel
theorem dX5_input_30 : decode cX5_input 30 = .ok (.iconst (-1), 1) := by decide +kernel
theorem dX5_input_31 : decode cX5_input 31 = .ok (.ireturn, 1) := by decide +kernel
theorem dX5_input_32 : decode cX5_input 32 = .ok (.aload_n 0, 1) := by decide +kernel
theorem dX5_input_33 : decode cX5_input 33 = .ok (.iload_n 1, 1) := by decide +kernel
theorem dX5_input_34 : decode cX5_input 34 = .ok (.iload_n 2, 1) := by decide +kernel
theorem dX5_input_35 : decode cX5_input 35 = .ok (.iload_n 2, 1) := by decide +kernel
theorem dX5_input_36 : decode cX5_input 36 = .ok (.lload_n 3, 1) := by decide +kernel
theorem dX5_input_37 : decode cX5_input 37 = .ok (.invokestatic 44, 3) := by decide +kernel
theorem dX5_input_40 : decode cX5_input 40 = .ok (.bipush 64, 2) := by decide +kernel
theorem dX5_input_42 : decode cX5_input 42 = .ok (.iconst 1, 1) := by decide +kernel
theorem dX5_input_43 : decode cX5_input 43 = .ok (.iload 5, 2) := by decide +kernel
theorem dX5_input_45 : decode cX5_input 45 = .ok (.ishl, 1) := by decide +kernel
theorem dX5_input_46 : decode cX5_input 46 = .ok (.iadd, 1) := by decide +kernel
theorem dX5_input_47 : decode cX5_input 47 = .ok (.invokevirtual 48, 3) := by decide +kernel
theorem dX5_input_50 : decode cX5_input 50 = .ok (.iconst 0, 1) := by decide +kernel
theorem dX5_input_51 : decode cX5_input 51 = .ok (.ireturn, 1) := by decide +kernel
theorem dX5_one_0 : decode cX5_one 0 = .ok (.iload_n 2, 1) := by decide +kernel
theorem dX5_one_1 : decode cX5_one 1 = .ok (.i2l, 1) := by decide +kernel
theorem dX5_one_2 : decode cX5_one 2 = .ok (.bipush 8, 2) := by decide +kernel
theorem dX5_one_4 : decode cX5_one 4 = .ok (.invokestatic 40, 3) := by decide +kernel
theorem dX5_one_7 : decode cX5_one 7 = .ok (.ifCond .eq 26, 3) := by decide +kernel
theorem dX5_one_10 : decode cX5_one 10 = .ok (.iload_n 3, 1) := by decide +kernel
theorem dX5_one_11 : decode cX5_one 11 = .ok (.i2l, 1) := by decide +kernel
theorem dX5_one_12 : decode cX5_one 12 = .ok (.bipush 8, 2) := by decide +kernel
theorem dX5_one_14 : decode cX5_one 14 = .ok (.invokestatic 40, 3) := by decide +kernel
theorem dX5_one_17 : decode cX5_one 17 = .ok (.ifCond .eq 16, 3) := by decide +kernel
theorem dX5_one_20 : decode cX5_one 20 = .ok (.iload_n 1, 1) := by decide +kernel
theorem dX5_one_21 : decode cX5_one 21 = .ok (.aload_n 0, 1) := by decide +kernel
theorem dX5_one_22 : decode cX5_one 22 = .ok (.getfield 9, 3) := by decide +kernel
theorem dX5_one_25 : decode cX5_one 25 = .ok (.iload_n 3, 1) := by decide +kernel
theorem dX5_one_26 : decode cX5_one 26 = .ok (.iaload, 1) := by decide +kernel
theorem dX5_one_27 : decode cX5_one 27 = .ok (.invokestatic 52, 3) := by decide +kernel
theorem dX5_one_30 : decode cX5_one 30 = .ok (.ifCond .ne 5, 3) := by decide +kernel
theorem dX5_one_33 : decode cX5_one 33 = .ok (.iconst (-1), 1) := by decide +kernel
theorem dX5_one_34 : decode cX5_one 34 = .ok (.ireturn, 1) := by decide +kernel
theorem dX5_one_35 : decode cX5_one 35 = .ok (.iload_n 1, 1) := by decide +kernel
theorem dX5_one_36 : decode cX5_one 36 = .ok (.invokestatic 58, 3) := by decide +kernel
theorem dX5_one_39 : decode cX5_one 39 = .ok (.ifCond .eq 15, 3) := by decide +kernel
theorem dX5_one_42 : decode cX5_one 42 = .ok (.aload_n 0, 1) := by decide +kernel
theorem dX5_one_43 : decode cX5_one 43 = .ok (.getfield 17, 3) := by decide +kernel
theorem dX5_one_46 : decode cX5_one 46 = .ok (.iload_n 3, 1) := by decide +kernel
theorem dX5_one_47 : decode cX5_one 47 = .ok (.iaload, 1) := by decide +kernel
theorem dX5_one_48 : decode cX5_one 48 = .ok (.invokestatic 62, 3) := by decide +kernel
theorem dX5_one_51 : decode cX5_one 51 = .ok (.goto 9, 3) := by decide +kernel
theorem dX5_one_54 : decode cX5_one 54 = .ok (.aload_n 0, 1) := by decide +kernel
theorem dX5_one_55 : decode cX5_one 55 = .ok (.getfield 17, 3) := by decide +kernel
theorem dX5_one_58 : decode cX5_one 58 = .ok (.iload_n 3, 1) := by decide +kernel
theorem dX5_one_59 : decode cX5_one 59 = .ok (.iaload, 1) := by decide +kernel
theorem dX5_one_60 : decode cX5_one 60 = .ok (.istore 4, 2) := by decide +kernel
theorem dX5_one_62 : decode cX5_one 62 = .ok (.aload_n 0, 1) := by decide +kernel
theorem dX5_one_63 : decode cX5_one 63 = .ok (.iload_n 2, 1) := by decide +kernel
theorem dX5_one_64 : decode cX5_one 64 = .ok (.iload_n 1, 1) := by decide +kernel
theorem dX5_one_65 : decode cX5_one 65 = .ok (.aload_n 0, 1) := by decide +kernel
theorem dX5_one_66 : decode cX5_one 66 = .ok (.getfield 9, 3) := by decide +kernel
theorem dX5_one_69 : decode cX5_one 69 = .ok (.iload_n 3, 1) := by decide +kernel
theorem dX5_one_70 : decode cX5_one 70 = .ok (.iaload, 1) := by decide +kernel
theorem dX5_one_71 : decode cX5_one 71 = .ok (.invokestatic 66, 3) := by decide +kernel
theorem dX5_one_74 : decode cX5_one 74 = .ok (.iload_n 1, 1) := by decide +kernel
theorem dX5_one_75 : decode cX5_one 75 = .ok (.aload_n 0, 1) := by decide +kernel
theorem dX5_one_76 : decode cX5_one 76 = .ok (.getfield 9, 3) := by decide +kernel
theorem dX5_one_79 : decode cX5_one 79 = .ok (.iload_n 3, 1) := by decide +kernel
theorem dX5_one_80 : decode cX5_one 80 = .ok (.iaload, 1) := by decide +kernel
theorem dX5_one_81 : decode cX5_one 81 = .ok (.aload_n 0, 1) := by decide +kernel
theorem dX5_one_82 : decode cX5_one 82 = .ok (.getfield 13, 3) := by decide +kernel
theorem dX5_one_85 : decode cX5_one 85 = .ok (.iload_n 3, 1) := by decide +kernel
theorem dX5_one_86 : decode cX5_one 86 = .ok (.laload, 1) := by decide +kernel
theorem dX5_one_87 : decode cX5_one 87 = .ok (.invokestatic 70, 3) := by decide +kernel
theorem dX5_one_90 : decode cX5_one 90 = .ok (.iload 4, 2) := by decide +kernel
theorem dX5_one_92 : decode cX5_one 92 = .ok (.invokevirtual 48, 3) := by decide +kernel
theorem dX5_one_95 : decode cX5_one 95 = .ok (.iconst 0, 1) := by decide +kernel
theorem dX5_one_96 : decode cX5_one 96 = .ok (.ireturn, 1) := by decide +kernel
theorem dX5_two_0 : decode cX5_two 0 = .ok (.iload_n 2, 1) := by decide +kernel
theorem dX5_two_1 : decode cX5_two 1 = .ok (.i2l, 1) := by decide +kernel
theorem dX5_two_2 : decode cX5_two 2 = .ok (.bipush 8, 2) := by decide +kernel
theorem dX5_two_4 : decode cX5_two 4 = .ok (.invokestatic 40, 3) := by decide +kernel
theorem dX5_two_7 : decode cX5_two 7 = .ok (.ifCond .eq 24, 3) := by decide +kernel
theorem dX5_two_10 : decode cX5_two 10 = .ok (.iload_n 3, 1) := by decide +kernel
theorem dX5_two_11 : decode cX5_two 11 = .ok (.i2l, 1) := by decide +kernel
theorem dX5_two_12 : decode cX5_two 12 = .ok (.bipush 8, 2) := by decide +kernel
theorem dX5_two_14 : decode cX5_two 14 = .ok (.invokestatic 40, 3) := by decide +kernel
theorem dX5_two_17 : decode cX5_two 17 = .ok (.ifCond .eq 14, 3) := by decide +kernel
theorem dX5_two_20 : decode cX5_two 20 = .ok (.iload 4, 2) := by decide +kernel
theorem dX5_two_22 : decode cX5_two 22 = .ok (.i2l, 1) := by decide +kernel
theorem dX5_two_23 : decode cX5_two 23 = .ok (.bipush 8, 2) := by decide +kernel
theorem dX5_two_25 : decode cX5_two 25 = .ok (.invokestatic 40, 3) := by decide +kernel
theorem dX5_two_28 : decode cX5_two 28 = .ok (.ifCond .ne 5, 3) := by decide +kernel
theorem dX5_two_31 : decode cX5_two 31 = .ok (.iconst (-1), 1) := by decide +kernel
theorem dX5_two_32 : decode cX5_two 32 = .ok (.ireturn, 1) := by decide +kernel
theorem dX5_two_33 : decode cX5_two 33 = .ok (.aload_n 0, 1) := by decide +kernel
theorem dX5_two_34 : decode cX5_two 34 = .ok (.getfield 9, 3) := by decide +kernel
theorem dX5_two_37 : decode cX5_two 37 = .ok (.iload_n 3, 1) := by decide +kernel
theorem dX5_two_38 : decode cX5_two 38 = .ok (.iaload, 1) := by decide +kernel
theorem dX5_two_39 : decode cX5_two 39 = .ok (.istore 5, 2) := by decide +kernel
theorem dX5_two_41 : decode cX5_two 41 = .ok (.iload_n 1, 1) := by decide +kernel
theorem dX5_two_42 : decode cX5_two 42 = .ok (.iload 5, 2) := by decide +kernel
theorem dX5_two_44 : decode cX5_two 44 = .ok (.aload_n 0, 1) := by decide +kernel
theorem dX5_two_45 : decode cX5_two 45 = .ok (.getfield 9, 3) := by decide +kernel
theorem dX5_two_48 : decode cX5_two 48 = .ok (.iload 4, 2) := by decide +kernel
theorem dX5_two_50 : decode cX5_two 50 = .ok (.iaload, 1) := by decide +kernel
theorem dX5_two_51 : decode cX5_two 51 = .ok (.invokestatic 74, 3) := by decide +kernel
