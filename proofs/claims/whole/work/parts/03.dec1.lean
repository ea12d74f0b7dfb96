theorem dX5_two_54 : decode cX5_two 54 = .ok (.ifCond .ne 5, 3) := by decide +kernel
theorem dX5_two_57 : decode cX5_two 57 = .ok (.iconst (-1), 1) := by decide +kernel
theorem dX5_two_58 : decode cX5_two 58 = .ok (.ireturn, 1) := by decide +kernel
theorem dX5_two_59 : decode cX5_two 59 = .ok (.iload_n 1, 1) := by decide +kernel
theorem dX5_two_60 : decode cX5_two 60 = .ok (.invokestatic 79, 3) := by decide +kernel
theorem dX5_two_63 : decode cX5_two 63 = .ok (.ifCond .eq 30, 3) := by decide +kernel
theorem dX5_two_66 : decode cX5_two 66 = .ok (.iload 5, 2) := by decide +kernel
theorem dX5_two_68 : decode cX5_two 68 = .ok (.invokestatic 82, 3) := by decide +kernel
theorem dX5_two_71 : decode cX5_two 71 = .ok (.ifCond .ne 22, 3) := by decide +kernel
theorem dX5_two_74 : decode cX5_two 74 = .ok (.aload_n 0, 1) := by decide +kernel
theorem dX5_two_75 : decode cX5_two 75 = .ok (.getfield 13, 3) := by decide +kernel
theorem dX5_two_78 : decode cX5_two 78 = .ok (.iload 4, 2) := by decide +kernel
theorem dX5_two_80 : decode cX5_two 80 = .ok (.laload, 1) := by decide +kernel
theorem dX5_two_81 : decode cX5_two 81 = .ok (.lconst 0, 1) := by decide +kernel
theorem dX5_two_82 : decode cX5_two 82 = .ok (.lcmp, 1) := by decide +kernel
theorem dX5_two_83 : decode cX5_two 83 = .ok (.ifCond .ne 10, 3) := by decide +kernel
theorem dX5_two_86 : decode cX5_two 86 = .ok (.aload_n 0, 1) := by decide +kernel
theorem dX5_two_87 : decode cX5_two 87 = .ok (.bipush (-2), 2) := by decide +kernel
theorem dX5_two_89 : decode cX5_two 89 = .ok (.invokevirtual 85, 3) := by decide +kernel
theorem dX5_two_92 : decode cX5_two 92 = .ok (.ireturn, 1) := by decide +kernel
theorem dX5_two_93 : decode cX5_two 93 = .ok (.iload 5, 2) := by decide +kernel
theorem dX5_two_95 : decode cX5_two 95 = .ok (.invokestatic 82, 3) := by decide +kernel
theorem dX5_two_98 : decode cX5_two 98 = .ok (.ifCond .eq 28, 3) := by decide +kernel
theorem dX5_two_101 : decode cX5_two 101 = .ok (.iload_n 1, 1) := by decide +kernel
theorem dX5_two_102 : decode cX5_two 102 = .ok (.iload 5, 2) := by decide +kernel
theorem dX5_two_104 : decode cX5_two 104 = .ok (.invokestatic 88, 3) := by decide +kernel
theorem dX5_two_107 : decode cX5_two 107 = .ok (.aload_n 0, 1) := by decide +kernel
theorem dX5_two_108 : decode cX5_two 108 = .ok (.getfield 13, 3) := by decide +kernel
theorem dX5_two_111 : decode cX5_two 111 = .ok (.iload_n 3, 1) := by decide +kernel
theorem dX5_two_112 : decode cX5_two 112 = .ok (.laload, 1) := by decide +kernel
theorem dX5_two_113 : decode cX5_two 113 = .ok (.aload_n 0, 1) := by decide +kernel
theorem dX5_two_114 : decode cX5_two 114 = .ok (.getfield 13, 3) := by decide +kernel
theorem dX5_two_117 : decode cX5_two 117 = .ok (.iload 4, 2) := by decide +kernel
theorem dX5_two_119 : decode cX5_two 119 = .ok (.laload, 1) := by decide +kernel
theorem dX5_two_120 : decode cX5_two 120 = .ok (.invokestatic 92, 3) := by decide +kernel
theorem dX5_two_123 : decode cX5_two 123 = .ok (.goto 22, 3) := by decide +kernel
theorem dX5_two_126 : decode cX5_two 126 = .ok (.iload_n 1, 1) := by decide +kernel
theorem dX5_two_127 : decode cX5_two 127 = .ok (.iload 5, 2) := by decide +kernel
theorem dX5_two_129 : decode cX5_two 129 = .ok (.aload_n 0, 1) := by decide +kernel
theorem dX5_two_130 : decode cX5_two 130 = .ok (.getfield 13, 3) := by decide +kernel
theorem dX5_two_133 : decode cX5_two 133 = .ok (.iload_n 3, 1) := by decide +kernel
theorem dX5_two_134 : decode cX5_two 134 = .ok (.laload, 1) := by decide +kernel
theorem dX5_two_135 : decode cX5_two 135 = .ok (.aload_n 0, 1) := by decide +kernel
theorem dX5_two_136 : decode cX5_two 136 = .ok (.getfield 13, 3) := by decide +kernel
theorem dX5_two_139 : decode cX5_two 139 = .ok (.iload 4, 2) := by decide +kernel
theorem dX5_two_141 : decode cX5_two 141 = .ok (.laload, 1) := by decide +kernel
theorem dX5_two_142 : decode cX5_two 142 = .ok (.invokestatic 96, 3) := by decide +kernel
theorem dX5_two_145 : decode cX5_two 145 = .ok (.lstore 6, 2) := by decide +kernel
theorem dX5_two_147 : decode cX5_two 147 = .ok (.aload_n 0, 1) := by decide +kernel
theorem dX5_two_148 : decode cX5_two 148 = .ok (.iload_n 2, 1) := by decide +kernel
theorem dX5_two_149 : decode cX5_two 149 = .ok (.iload_n 1, 1) := by decide +kernel
theorem dX5_two_150 : decode cX5_two 150 = .ok (.iload 5, 2) := by decide +kernel
theorem dX5_two_152 : decode cX5_two 152 = .ok (.invokestatic 100, 3) := by decide +kernel
theorem dX5_two_155 : decode cX5_two 155 = .ok (.lload 6, 2) := by decide +kernel
theorem dX5_two_157 : decode cX5_two 157 = .ok (.aload_n 0, 1) := by decide +kernel
theorem dX5_two_158 : decode cX5_two 158 = .ok (.iload_n 1, 1) := by decide +kernel
theorem dX5_two_159 : decode cX5_two 159 = .ok (.iload_n 3, 1) := by decide +kernel
theorem dX5_two_160 : decode cX5_two 160 = .ok (.iload 4, 2) := by decide +kernel
theorem dX5_two_162 : decode cX5_two 162 = .ok (.invokevirtual 101, 3) := by decide +kernel
theorem dX5_two_165 : decode cX5_two 165 = .ok (.invokevirtual 48, 3) := by decide +kernel
theorem dX5_two_168 : decode cX5_two 168 = .ok (.iconst 0, 1) := by decide +kernel
theorem dX5_two_169 : decode cX5_two 169 = .ok (.ireturn, 1) := by decide +kernel
theorem dX5_move_0 : decode cX5_move 0 = .ok (.iload_n 1, 1) := by decide +kernel
theorem dX5_move_1 : decode cX5_move 1 = .ok (.i2l, 1) := by decide +kernel
theorem dX5_move_2 : decode cX5_move 2 = .ok (.bipush 8, 2) := by decide +kernel
theorem dX5_move_4 : decode cX5_move 4 = .ok (.invokestatic 40, 3) := by decide +kernel
theorem dX5_move_7 : decode cX5_move 7 = .ok (.ifCond .eq 13, 3) := by decide +kernel
theorem dX5_move_10 : decode cX5_move 10 = .ok (.iload_n 2, 1) := by decide +kernel
theorem dX5_move_11 : decode cX5_move 11 = .ok (.i2l, 1) := by decide +kernel
theorem dX5_move_12 : decode cX5_move 12 = .ok (.bipush 8, 2) := by decide +kernel
theorem dX5_move_14 : decode cX5_move 14 = .ok (.invokestatic 40, 3) := by decide +kernel
theorem dX5_move_17 : decode cX5_move 17 = .ok (.ifCond .ne 5, 3) := by decide +kernel
theorem dX5_move_20 : decode cX5_move 20 = .ok (.iconst (-1), 1) := by decide +kernel
theorem dX5_move_21 : decode cX5_move 21 = .ok (.ireturn, 1) := by decide +kernel
theorem dX5_move_22 : decode cX5_move 22 = .ok (.aload_n 0, 1) := by decide +kernel
theorem dX5_move_23 : decode cX5_move 23 = .ok (.iload_n 1, 1) := by decide +kernel
theorem dX5_move_24 : decode cX5_move 24 = .ok (.aload_n 0, 1) := by decide +kernel
theorem dX5_move_25 : decode cX5_move 25 = .ok (.getfield 9, 3) := by decide +kernel
theorem dX5_move_28 : decode cX5_move 28 = .ok (.iload_n 2, 1) := by decide +kernel
theorem dX5_move_29 : decode cX5_move 29 = .ok (.iaload, 1) := by decide +kernel
theorem dX5_move_30 : decode cX5_move 30 = .ok (.aload_n 0, 1) := by decide +kernel
theorem dX5_move_31 : decode cX5_move 31 = .ok (.getfield 13, 3) := by decide +kernel
theorem dX5_move_34 : decode cX5_move 34 = .ok (.iload_n 2, 1) := by decide +kernel
theorem dX5_move_35 : decode cX5_move 35 = .ok (.laload, 1) := by decide +kernel
theorem dX5_move_36 : decode cX5_move 36 = .ok (.aload_n 0, 1) := by decide +kernel
theorem dX5_move_37 : decode cX5_move 37 = .ok (.getfield 17, 3) := by decide +kernel
theorem dX5_move_40 : decode cX5_move 40 = .ok (.iload_n 2, 1) := by decide +kernel
theorem dX5_move_41 : decode cX5_move 41 = .ok (.iaload, 1) := by decide +kernel
theorem dX5_move_42 : decode cX5_move 42 = .ok (.invokevirtual 48, 3) := by decide +kernel
theorem dX5_move_45 : decode cX5_move 45 = .ok (.iconst 0, 1) := by decide +kernel
theorem dX5_move_46 : decode cX5_move 46 = .ok (.ireturn, 1) := by decide +kernel
theorem dX5_array_0 : decode cX5_array 0 = .ok (.iload_n 1, 1) := by decide +kernel
theorem dX5_array_1 : decode cX5_array 1 = .ok (.i2l, 1) := by decide +kernel
theorem dX5_array_2 : decode cX5_array 2 = .ok (.iconst 4, 1) := by decide +kernel
theorem dX5_array_3 : decode cX5_array 3 = .ok (.invokestatic 40, 3) := by decide +kernel
theorem dX5_array_6 : decode cX5_array 6 = .ok (.ifCond .eq 34, 3) := by decide +kernel
theorem dX5_array_9 : decode cX5_array 9 = .ok (.iload_n 2, 1) := by decide +kernel
theorem dX5_array_10 : decode cX5_array 10 = .ok (.i2l, 1) := by decide +kernel
theorem dX5_array_11 : decode cX5_array 11 = .ok (.bipush 8, 2) := by decide +kernel
theorem dX5_array_13 : decode cX5_array 13 = .ok (.invokestatic 40, 3) := by decide +kernel
theorem dX5_array_16 : decode cX5_array 16 = .ok (.ifCond .eq 24, 3) := by decide +kernel
theorem dX5_array_19 : decode cX5_array 19 = .ok (.aload_n 0, 1) := by decide +kernel
theorem dX5_array_20 : decode cX5_array 20 = .ok (.iload_n 3, 1) := by decide +kernel
theorem dX5_array_21 : decode cX5_array 21 = .ok (.invokevirtual 105, 3) := by decide +kernel
theorem dX5_array_24 : decode cX5_array 24 = .ok (.ifCond .eq 16, 3) := by decide +kernel
theorem dX5_array_27 : decode cX5_array 27 = .ok (.aload_n 0, 1) := by decide +kernel
theorem dX5_array_28 : decode cX5_array 28 = .ok (.getfield 13, 3) := by decide +kernel
theorem dX5_array_31 : decode cX5_array 31 = .ok (.iload_n 3, 1) := by decide +kernel
theorem dX5_array_32 : decode cX5_array 32 = .ok (.laload, 1) := by decide +kernel
theorem dX5_array_33 : decode cX5_array 33 = .ok (.ldc2_w 108, 3) := by decide +kernel
theorem dX5_array_36 : decode cX5_array 36 = .ok (.lcmp, 1) := by decide +kernel
theorem dX5_array_37 : decode cX5_array 37 = .ok (.ifCond .le 5, 3) := by decide +kernel
theorem dX5_array_40 : decode cX5_array 40 = .ok (.iconst (-1), 1) := by decide +kernel
theorem dX5_array_41 : decode cX5_array 41 = .ok (.ireturn, 1) := by decide +kernel
theorem dX5_array_42 : decode cX5_array 42 = .ok (.aload_n 0, 1) := by decide +kernel
theorem dX5_array_43 : decode cX5_array 43 = .ok (.getfield 13, 3) := by decide +kernel
theorem dX5_array_46 : decode cX5_array 46 = .ok (.iload_n 3, 1) := by decide +kernel
theorem dX5_array_47 : decode cX5_array 47 = .ok (.laload, 1) := by decide +kernel
theorem dX5_array_48 : decode cX5_array 48 = .ok (.lconst 0, 1) := by decide +kernel
theorem dX5_array_49 : decode cX5_array 49 = .ok (.lcmp, 1) := by decide +kernel
theorem dX5_array_50 : decode cX5_array 50 = .ok (.ifCond .ge 10, 3) := by decide +kernel
theorem dX5_array_53 : decode cX5_array 53 = .ok (.aload_n 0, 1) := by decide +kernel
theorem dX5_array_54 : decode cX5_array 54 = .ok (.bipush (-5), 2) := by decide +kernel
theorem dX5_array_56 : decode cX5_array 56 = .ok (.invokevirtual 85, 3) := by decide +kernel
theorem dX5_array_59 : decode cX5_array 59 = .ok (.ireturn, 1) := by decide +kernel
theorem dX5_array_60 : decode cX5_array 60 = .ok (.aload_n 0, 1) := by decide +kernel
theorem dX5_array_61 : decode cX5_array 61 = .ok (.iload_n 3, 1) := by decide +kernel
theorem dX5_array_62 : decode cX5_array 62 = .ok (.bipush 40, 2) := by decide +kernel
theorem dX5_array_64 : decode cX5_array 64 = .ok (.invokevirtual 110, 3) := by decide +kernel
theorem dX5_array_67 : decode cX5_array 67 = .ok (.aload_n 0, 1) := by decide +kernel
theorem dX5_array_68 : decode cX5_array 68 = .ok (.getfield 22, 3) := by decide +kernel
theorem dX5_array_71 : decode cX5_array 71 = .ok (.iload_n 1, 1) := by decide +kernel
theorem dX5_array_72 : decode cX5_array 72 = .ok (.aconst_null, 1) := by decide +kernel
theorem dX5_array_73 : decode cX5_array 73 = .ok (.aastore, 1) := by decide +kernel
theorem dX5_array_74 : decode cX5_array 74 = .ok (.aload_n 0, 1) := by decide +kernel
theorem dX5_array_75 : decode cX5_array 75 = .ok (.invokevirtual 114, 3) := by decide +kernel
theorem dX5_array_78 : decode cX5_array 78 = .ok (.astore 4, 2) := by decide +kernel
theorem dX5_array_80 : decode cX5_array 80 = .ok (.aload 4, 2) := by decide +kernel
theorem dX5_array_82 : decode cX5_array 82 = .ok (.iload_n 2, 1) := by decide +kernel
theorem dX5_array_83 : decode cX5_array 83 = .ok (.aload_n 0, 1) := by decide +kernel
theorem dX5_array_84 : decode cX5_array 84 = .ok (.getfield 13, 3) := by decide +kernel
theorem dX5_array_87 : decode cX5_array 87 = .ok (.iload_n 3, 1) := by decide +kernel
theorem dX5_array_88 : decode cX5_array 88 = .ok (.laload, 1) := by decide +kernel
theorem dX5_array_89 : decode cX5_array 89 = .ok (.l2i, 1) := by decide +kernel
theorem dX5_array_90 : decode cX5_array 90 = .ok (.invokevirtual 118, 3) := by decide +kernel
theorem dX5_array_93 : decode cX5_array 93 = .ok (.aload_n 0, 1) := by decide +kernel
theorem dX5_array_94 : decode cX5_array 94 = .ok (.getfield 22, 3) := by decide +kernel
theorem dX5_array_97 : decode cX5_array 97 = .ok (.iload_n 1, 1) := by decide +kernel
theorem dX5_array_98 : decode cX5_array 98 = .ok (.aload 4, 2) := by decide +kernel
theorem dX5_array_100 : decode cX5_array 100 = .ok (.aastore, 1) := by decide +kernel
theorem dX5_array_101 : decode cX5_array 101 = .ok (.iconst 0, 1) := by decide +kernel
theorem dX5_array_102 : decode cX5_array 102 = .ok (.ireturn, 1) := by decide +kernel
theorem dX5_drop_0 : decode cX5_drop 0 = .ok (.iload_n 1, 1) := by decide +kernel
theorem dX5_drop_1 : decode cX5_drop 1 = .ok (.i2l, 1) := by decide +kernel
theorem dX5_drop_2 : decode cX5_drop 2 = .ok (.iconst 4, 1) := by decide +kernel
theorem dX5_drop_3 : decode cX5_drop 3 = .ok (.invokestatic 40, 3) := by decide +kernel
theorem dX5_drop_6 : decode cX5_drop 6 = .ok (.ifCond .ne 5, 3) := by decide +kernel
theorem dX5_drop_9 : decode cX5_drop 9 = .ok (.iconst (-1), 1) := by decide +kernel
theorem dX5_drop_10 : decode cX5_drop 10 = .ok (.ireturn, 1) := by decide +kernel
theorem dX5_drop_11 : decode cX5_drop 11 = .ok (.aload_n 0, 1) := by decide +kernel
theorem dX5_drop_12 : decode cX5_drop 12 = .ok (.getfield 22, 3) := by decide +kernel
theorem dX5_drop_15 : decode cX5_drop 15 = .ok (.iload_n 1, 1) := by decide +kernel
theorem dX5_drop_16 : decode cX5_drop 16 = .ok (.aconst_null, 1) := by decide +kernel
theorem dX5_drop_17 : decode cX5_drop 17 = .ok (.aastore, 1) := by decide +kernel
theorem dX5_drop_18 : decode cX5_drop 18 = .ok (.iconst 0, 1) := by decide +kernel
theorem dX5_drop_19 : decode cX5_drop 19 = .ok (.ireturn, 1) := by decide +kernel
theorem dX5_share_0 : decode cX5_share 0 = .ok (.iload_n 1, 1) := by decide +kernel
theorem dX5_share_1 : decode cX5_share 1 = .ok (.i2l, 1) := by decide +kernel
theorem dX5_share_2 : decode cX5_share 2 = .ok (.iconst 4, 1) := by decide +kernel
theorem dX5_share_3 : decode cX5_share 3 = .ok (.invokestatic 40, 3) := by decide +kernel
theorem dX5_share_6 : decode cX5_share 6 = .ok (.ifCond .eq 12, 3) := by decide +kernel
theorem dX5_share_9 : decode cX5_share 9 = .ok (.iload_n 2, 1) := by decide +kernel
theorem dX5_share_10 : decode cX5_share 10 = .ok (.i2l, 1) := by decide +kernel
theorem dX5_share_11 : decode cX5_share 11 = .ok (.iconst 4, 1) := by decide +kernel
theorem dX5_share_12 : decode cX5_share 12 = .ok (.invokestatic 40, 3) := by decide +kernel
theorem dX5_share_15 : decode cX5_share 15 = .ok (.ifCond .ne 5, 3) := by decide +kernel
theorem dX5_share_18 : decode cX5_share 18 = .ok (.iconst (-1), 1) := by decide +kernel
theorem dX5_share_19 : decode cX5_share 19 = .ok (.ireturn, 1) := by decide +kernel
theorem dX5_share_20 : decode cX5_share 20 = .ok (.aload_n 0, 1) := by decide +kernel
theorem dX5_share_21 : decode cX5_share 21 = .ok (.getfield 22, 3) := by decide +kernel
theorem dX5_share_24 : decode cX5_share 24 = .ok (.iload_n 1, 1) := by decide +kernel
theorem dX5_share_25 : decode cX5_share 25 = .ok (.aload_n 0, 1) := by decide +kernel
theorem dX5_share_26 : decode cX5_share 26 = .ok (.getfield 22, 3) := by decide +kernel
theorem dX5_share_29 : decode cX5_share 29 = .ok (.iload_n 2, 1) := by decide +kernel
theorem dX5_share_30 : decode cX5_share 30 = .ok (.aaload, 1) := by decide +kernel
theorem dX5_share_31 : decode cX5_share 31 = .ok (.aastore, 1) := by decide +kernel
theorem dX5_share_32 : decode cX5_share 32 = .ok (.iconst 0, 1) := by decide +kernel
theorem dX5_share_33 : decode cX5_share 33 = .ok (.ireturn, 1) := by decide +kernel
theorem dX5_load_0 : decode cX5_load 0 = .ok (.iload_n 1, 1) := by decide +kernel
theorem dX5_load_1 : decode cX5_load 1 = .ok (.i2l, 1) := by decide +kernel
theorem dX5_load_2 : decode cX5_load 2 = .ok (.bipush 8, 2) := by decide +kernel
theorem dX5_load_4 : decode cX5_load 4 = .ok (.invokestatic 40, 3) := by decide +kernel
theorem dX5_load_7 : decode cX5_load 7 = .ok (.ifCond .eq 20, 3) := by decide +kernel
theorem dX5_load_10 : decode cX5_load 10 = .ok (.iload_n 2, 1) := by decide +kernel
theorem dX5_load_11 : decode cX5_load 11 = .ok (.i2l, 1) := by decide +kernel
theorem dX5_load_12 : decode cX5_load 12 = .ok (.iconst 4, 1) := by decide +kernel
theorem dX5_load_13 : decode cX5_load 13 = .ok (.invokestatic 40, 3) := by decide +kernel
theorem dX5_load_16 : decode cX5_load 16 = .ok (.ifCond .eq 11, 3) := by decide +kernel
theorem dX5_load_19 : decode cX5_load 19 = .ok (.aload_n 0, 1) := by decide +kernel
theorem dX5_load_20 : decode cX5_load 20 = .ok (.iload_n 3, 1) := by decide +kernel
theorem dX5_load_21 : decode cX5_load 21 = .ok (.invokevirtual 105, 3) := by decide +kernel
theorem dX5_load_24 : decode cX5_load 24 = .ok (.ifCond .ne 5, 3) := by decide +kernel
theorem dX5_load_27 : decode cX5_load 27 = .ok (.iconst (-1), 1) := by decide +kernel
theorem dX5_load_28 : decode cX5_load 28 = .ok (.ireturn, 1) := by decide +kernel
theorem dX5_load_29 : decode cX5_load 29 = .ok (.aload_n 0, 1) := by decide +kernel
theorem dX5_load_30 : decode cX5_load 30 = .ok (.getfield 22, 3) := by decide +kernel
theorem dX5_load_33 : decode cX5_load 33 = .ok (.iload_n 2, 1) := by decide +kernel
theorem dX5_load_34 : decode cX5_load 34 = .ok (.aaload, 1) := by decide +kernel
theorem dX5_load_35 : decode cX5_load 35 = .ok (.astore 4, 2) := by decide +kernel
theorem dX5_load_37 : decode cX5_load 37 = .ok (.aload 4, 2) := by decide +kernel
theorem dX5_load_39 : decode cX5_load 39 = .ok (.ifnonnull 10, 3) := by decide +kernel
theorem dX5_load_42 : decode cX5_load 42 = .ok (.aload_n 0, 1) := by decide +kernel
theorem dX5_load_43 : decode cX5_load 43 = .ok (.bipush (-3), 2) := by decide +kernel
theorem dX5_load_45 : decode cX5_load 45 = .ok (.invokevirtual 85, 3) := by decide +kernel
theorem dX5_load_48 : decode cX5_load 48 = .ok (.ireturn, 1) := by decide +kernel
theorem dX5_load_49 : decode cX5_load 49 = .ok (.aload_n 0, 1) := by decide +kernel
theorem dX5_load_50 : decode cX5_load 50 = .ok (.getfield 13, 3) := by decide +kernel
theorem dX5_load_53 : decode cX5_load 53 = .ok (.iload_n 3, 1) := by decide +kernel
theorem dX5_load_54 : decode cX5_load 54 = .ok (.laload, 1) := by decide +kernel
theorem dX5_load_55 : decode cX5_load 55 = .ok (.aload 4, 2) := by decide +kernel
theorem dX5_load_57 : decode cX5_load 57 = .ok (.getfield 121, 3) := by decide +kernel
theorem dX5_load_60 : decode cX5_load 60 = .ok (.invokestatic 40, 3) := by decide +kernel
theorem dX5_load_63 : decode cX5_load 63 = .ok (.ifCond .ne 10, 3) := by decide +kernel
theorem dX5_load_66 : decode cX5_load 66 = .ok (.aload_n 0, 1) := by decide +kernel
theorem dX5_load_67 : decode cX5_load 67 = .ok (.bipush (-4), 2) := by decide +kernel
theorem dX5_load_69 : decode cX5_load 69 = .ok (.invokevirtual 85, 3) := by decide +kernel
theorem dX5_load_72 : decode cX5_load 72 = .ok (.ireturn, 1) := by decide +kernel
theorem dX5_load_73 : decode cX5_load 73 = .ok (.aload_n 0, 1) := by decide +kernel
theorem dX5_load_74 : decode cX5_load 74 = .ok (.getfield 13, 3) := by decide +kernel
theorem dX5_load_77 : decode cX5_load 77 = .ok (.iload_n 3, 1) := by decide +kernel
theorem dX5_load_78 : decode cX5_load 78 = .ok (.laload, 1) := by decide +kernel
theorem dX5_load_79 : decode cX5_load 79 = .ok (.l2i, 1) := by decide +kernel
theorem dX5_load_80 : decode cX5_load 80 = .ok (.istore 5, 2) := by decide +kernel
theorem dX5_load_82 : decode cX5_load 82 = .ok (.aload_n 0, 1) := by decide +kernel
theorem dX5_load_83 : decode cX5_load 83 = .ok (.iload_n 3, 1) := by decide +kernel
theorem dX5_load_84 : decode cX5_load 84 = .ok (.bipush 41, 2) := by decide +kernel
theorem dX5_load_86 : decode cX5_load 86 = .ok (.invokevirtual 110, 3) := by decide +kernel
theorem dX5_load_89 : decode cX5_load 89 = .ok (.aload_n 0, 1) := by decide +kernel
theorem dX5_load_90 : decode cX5_load 90 = .ok (.iload_n 1, 1) := by decide +kernel
theorem dX5_load_91 : decode cX5_load 91 = .ok (.aload 4, 2) := by decide +kernel
theorem dX5_load_93 : decode cX5_load 93 = .ok (.invokevirtual 125, 3) := by decide +kernel
theorem dX5_load_96 : decode cX5_load 96 = .ok (.aload 4, 2) := by decide +kernel
theorem dX5_load_98 : decode cX5_load 98 = .ok (.getfield 129, 3) := by decide +kernel
theorem dX5_load_101 : decode cX5_load 101 = .ok (.iload 5, 2) := by decide +kernel
theorem dX5_load_103 : decode cX5_load 103 = .ok (.laload, 1) := by decide +kernel
theorem dX5_load_104 : decode cX5_load 104 = .ok (.aload 4, 2) := by decide +kernel
theorem dX5_load_106 : decode cX5_load 106 = .ok (.getfield 130, 3) := by decide +kernel
theorem dX5_load_109 : decode cX5_load 109 = .ok (.iload 5, 2) := by decide +kernel
theorem dX5_load_111 : decode cX5_load 111 = .ok (.iaload, 1) := by decide +kernel
theorem dX5_load_112 : decode cX5_load 112 = .ok (.invokevirtual 48, 3) := by decide +kernel
theorem dX5_load_115 : decode cX5_load 115 = .ok (.iconst 0, 1) := by decide +kernel
theorem dX5_load_116 : decode cX5_load 116 = .ok (.ireturn, 1) := by decide +kernel
theorem dX5_store_0 : decode cX5_store 0 = .ok (.iload_n 1, 1) := by decide +kernel
theorem dX5_store_1 : decode cX5_store 1 = .ok (.i2l, 1) := by decide +kernel
theorem dX5_store_2 : decode cX5_store 2 = .ok (.iconst 4, 1) := by decide +kernel
theorem dX5_store_3 : decode cX5_store 3 = .ok (.invokestatic 40, 3) := by decide +kernel
theorem dX5_store_6 : decode cX5_store 6 = .ok (.ifCond .eq 21, 3) := by decide +kernel
theorem dX5_store_9 : decode cX5_store 9 = .ok (.aload_n 0, 1) := by decide +kernel
theorem dX5_store_10 : decode cX5_store 10 = .ok (.iload_n 2, 1) := by decide +kernel
theorem dX5_store_11 : decode cX5_store 11 = .ok (.invokevirtual 105, 3) := by decide +kernel
theorem dX5_store_14 : decode cX5_store 14 = .ok (.ifCond .eq 13, 3) := by decide +kernel
theorem dX5_store_17 : decode cX5_store 17 = .ok (.iload_n 3, 1) := by decide +kernel
theorem dX5_store_18 : decode cX5_store 18 = .ok (.i2l, 1) := by decide +kernel
theorem dX5_store_19 : decode cX5_store 19 = .ok (.bipush 8, 2) := by decide +kernel
theorem dX5_store_21 : decode cX5_store 21 = .ok (.invokestatic 40, 3) := by decide +kernel
theorem dX5_store_24 : decode cX5_store 24 = .ok (.ifCond .ne 5, 3) := by decide +kernel
theorem dX5_store_27 : decode cX5_store 27 = .ok (.iconst (-1), 1) := by decide +kernel
theorem dX5_store_28 : decode cX5_store 28 = .ok (.ireturn, 1) := by decide +kernel
theorem dX5_store_29 : decode cX5_store 29 = .ok (.aload_n 0, 1) := by decide +kernel
theorem dX5_store_30 : decode cX5_store 30 = .ok (.getfield 22, 3) := by decide +kernel
theorem dX5_store_33 : decode cX5_store 33 = .ok (.iload_n 1, 1) := by decide +kernel
theorem dX5_store_34 : decode cX5_store 34 = .ok (.aaload, 1) := by decide +kernel
theorem dX5_store_35 : decode cX5_store 35 = .ok (.astore 4, 2) := by decide +kernel
theorem dX5_store_37 : decode cX5_store 37 = .ok (.aload 4, 2) := by decide +kernel
theorem dX5_store_39 : decode cX5_store 39 = .ok (.ifnonnull 10, 3) := by decide +kernel
theorem dX5_store_42 : decode cX5_store 42 = .ok (.aload_n 0, 1) := by decide +kernel
theorem dX5_store_43 : decode cX5_store 43 = .ok (.bipush (-3), 2) := by decide +kernel
theorem dX5_store_45 : decode cX5_store 45 = .ok (.invokevirtual 85, 3) := by decide +kernel
theorem dX5_store_48 : decode cX5_store 48 = .ok (.ireturn, 1) := by decide +kernel
theorem dX5_store_49 : decode cX5_store 49 = .ok (.aload 4, 2) := by decide +kernel
theorem dX5_store_51 : decode cX5_store 51 = .ok (.invokevirtual 125, 3) := by decide +kernel
theorem dX5_store_54 : decode cX5_store 54 = .ok (.aload_n 0, 1) := by decide +kernel
theorem dX5_store_55 : decode cX5_store 55 = .ok (.getfield 9, 3) := by decide +kernel
theorem dX5_store_58 : decode cX5_store 58 = .ok (.iload_n 3, 1) := by decide +kernel
theorem dX5_store_59 : decode cX5_store 59 = .ok (.iaload, 1) := by decide +kernel
theorem dX5_store_60 : decode cX5_store 60 = .ok (.if_icmp .eq 10, 3) := by decide +kernel
theorem dX5_store_63 : decode cX5_store 63 = .ok (.aload_n 0, 1) := by decide +kernel
theorem dX5_store_64 : decode cX5_store 64 = .ok (.bipush (-6), 2) := by decide +kernel
theorem dX5_store_66 : decode cX5_store 66 = .ok (.invokevirtual 85, 3) := by decide +kernel
theorem dX5_store_69 : decode cX5_store 69 = .ok (.ireturn, 1) := by decide +kernel
theorem dX5_store_70 : decode cX5_store 70 = .ok (.aload_n 0, 1) := by decide +kernel
theorem dX5_store_71 : decode cX5_store 71 = .ok (.getfield 13, 3) := by decide +kernel
theorem dX5_store_74 : decode cX5_store 74 = .ok (.iload_n 2, 1) := by decide +kernel
theorem dX5_store_75 : decode cX5_store 75 = .ok (.laload, 1) := by decide +kernel
theorem dX5_store_76 : decode cX5_store 76 = .ok (.aload 4, 2) := by decide +kernel
theorem dX5_store_78 : decode cX5_store 78 = .ok (.getfield 121, 3) := by decide +kernel
theorem dX5_store_81 : decode cX5_store 81 = .ok (.invokestatic 40, 3) := by decide +kernel
theorem dX5_store_84 : decode cX5_store 84 = .ok (.ifCond .ne 10, 3) := by decide +kernel
theorem dX5_store_87 : decode cX5_store 87 = .ok (.aload_n 0, 1) := by decide +kernel
theorem dX5_store_88 : decode cX5_store 88 = .ok (.bipush (-4), 2) := by decide +kernel
theorem dX5_store_90 : decode cX5_store 90 = .ok (.invokevirtual 85, 3) := by decide +kernel
theorem dX5_store_93 : decode cX5_store 93 = .ok (.ireturn, 1) := by decide +kernel
theorem dX5_store_94 : decode cX5_store 94 = .ok (.aload 4, 2) := by decide +kernel
theorem dX5_store_96 : decode cX5_store 96 = .ok (.aload_n 0, 1) := by decide +kernel
theorem dX5_store_97 : decode cX5_store 97 = .ok (.getfield 13, 3) := by decide +kernel
theorem dX5_store_100 : decode cX5_store 100 = .ok (.iload_n 2, 1) := by decide +kernel
theorem dX5_store_101 : decode cX5_store 101 = .ok (.laload, 1) := by decide +kernel
theorem dX5_store_102 : decode cX5_store 102 = .ok (.l2i, 1) := by decide +kernel
theorem dX5_store_103 : decode cX5_store 103 = .ok (.aload_n 0, 1) := by decide +kernel
theorem dX5_store_104 : decode cX5_store 104 = .ok (.getfield 13, 3) := by decide +kernel
theorem dX5_store_107 : decode cX5_store 107 = .ok (.iload_n 3, 1) := by decide +kernel
theorem dX5_store_108 : decode cX5_store 108 = .ok (.laload, 1) := by decide +kernel
theorem dX5_store_109 : decode cX5_store 109 = .ok (.aload_n 0, 1) := by decide +kernel
theorem dX5_store_110 : decode cX5_store 110 = .ok (.getfield 17, 3) := by decide +kernel
theorem dX5_store_113 : decode cX5_store 113 = .ok (.iload_n 3, 1) := by decide +kernel
theorem dX5_store_114 : decode cX5_store 114 = .ok (.iaload, 1) := by decide +kernel
theorem dX5_store_115 : decode cX5_store 115 = .ok (.invokevirtual 131, 3) := by decide +kernel
theorem dX5_store_118 : decode cX5_store 118 = .ok (.aload_n 0, 1) := by decide +kernel
theorem dX5_store_119 : decode cX5_store 119 = .ok (.iload_n 2, 1) := by decide +kernel
theorem dX5_store_120 : decode cX5_store 120 = .ok (.bipush 42, 2) := by decide +kernel
theorem dX5_store_122 : decode cX5_store 122 = .ok (.invokevirtual 110, 3) := by decide +kernel
theorem dX5_store_125 : decode cX5_store 125 = .ok (.iconst 0, 1) := by decide +kernel
theorem dX5_store_126 : decode cX5_store 126 = .ok (.ireturn, 1) := by decide +kernel
theorem dX5_length_0 : decode cX5_length 0 = .ok (.iload_n 1, 1) := by decide +kernel
theorem dX5_length_1 : decode cX5_length 1 = .ok (.i2l, 1) := by decide +kernel
theorem dX5_length_2 : decode cX5_length 2 = .ok (.bipush 8, 2) := by decide +kernel
theorem dX5_length_4 : decode cX5_length 4 = .ok (.invokestatic 40, 3) := by decide +kernel
theorem dX5_length_7 : decode cX5_length 7 = .ok (.ifCond .eq 12, 3) := by decide +kernel
theorem dX5_length_10 : decode cX5_length 10 = .ok (.iload_n 2, 1) := by decide +kernel
theorem dX5_length_11 : decode cX5_length 11 = .ok (.i2l, 1) := by decide +kernel
theorem dX5_length_12 : decode cX5_length 12 = .ok (.iconst 4, 1) := by decide +kernel
theorem dX5_length_13 : decode cX5_length 13 = .ok (.invokestatic 40, 3) := by decide +kernel
theorem dX5_length_16 : decode cX5_length 16 = .ok (.ifCond .ne 5, 3) := by decide +kernel
theorem dX5_length_19 : decode cX5_length 19 = .ok (.iconst (-1), 1) := by decide +kernel
theorem dX5_length_20 : decode cX5_length 20 = .ok (.ireturn, 1) := by decide +kernel
theorem dX5_length_21 : decode cX5_length 21 = .ok (.aload_n 0, 1) := by decide +kernel
theorem dX5_length_22 : decode cX5_length 22 = .ok (.getfield 22, 3) := by decide +kernel
theorem dX5_length_25 : decode cX5_length 25 = .ok (.iload_n 2, 1) := by decide +kernel
theorem dX5_length_26 : decode cX5_length 26 = .ok (.aaload, 1) := by decide +kernel
theorem dX5_length_27 : decode cX5_length 27 = .ok (.astore_n 3, 1) := by decide +kernel
theorem dX5_length_28 : decode cX5_length 28 = .ok (.aload_n 3, 1) := by decide +kernel
theorem dX5_length_29 : decode cX5_length 29 = .ok (.ifnonnull 10, 3) := by decide +kernel
theorem dX5_length_32 : decode cX5_length 32 = .ok (.aload_n 0, 1) := by decide +kernel
theorem dX5_length_33 : decode cX5_length 33 = .ok (.bipush (-3), 2) := by decide +kernel
theorem dX5_length_35 : decode cX5_length 35 = .ok (.invokevirtual 85, 3) := by decide +kernel
theorem dX5_length_38 : decode cX5_length 38 = .ok (.ireturn, 1) := by decide +kernel
theorem dX5_length_39 : decode cX5_length 39 = .ok (.aload_n 0, 1) := by decide +kernel
theorem dX5_length_40 : decode cX5_length 40 = .ok (.iload_n 1, 1) := by decide +kernel
theorem dX5_length_41 : decode cX5_length 41 = .ok (.iconst 0, 1) := by decide +kernel
theorem dX5_length_42 : decode cX5_length 42 = .ok (.aload_n 3, 1) := by decide +kernel
theorem dX5_length_43 : decode cX5_length 43 = .ok (.getfield 121, 3) := by decide +kernel
theorem dX5_length_46 : decode cX5_length 46 = .ok (.i2l, 1) := by decide +kernel
theorem dX5_length_47 : decode cX5_length 47 = .ok (.bipush 64, 2) := by decide +kernel
theorem dX5_length_49 : decode cX5_length 49 = .ok (.invokevirtual 48, 3) := by decide +kernel
theorem dX5_length_52 : decode cX5_length 52 = .ok (.iconst 0, 1) := by decide +kernel
theorem dX5_length_53 : decode cX5_length 53 = .ok (.ireturn, 1) := by decide +kernel
theorem dX5_copy_0 : decode cX5_copy 0 = .ok (.iload_n 1, 1) := by decide +kernel
theorem dX5_copy_1 : decode cX5_copy 1 = .ok (.i2l, 1) := by decide +kernel
theorem dX5_copy_2 : decode cX5_copy 2 = .ok (.iconst 4, 1) := by decide +kernel
theorem dX5_copy_3 : decode cX5_copy 3 = .ok (.invokestatic 40, 3) := by decide +kernel
theorem dX5_copy_6 : decode cX5_copy 6 = .ok (.ifCond .eq 12, 3) := by decide +kernel
theorem dX5_copy_9 : decode cX5_copy 9 = .ok (.iload_n 3, 1) := by decide +kernel
theorem dX5_copy_10 : decode cX5_copy 10 = .ok (.i2l, 1) := by decide +kernel
theorem dX5_copy_11 : decode cX5_copy 11 = .ok (.iconst 4, 1) := by decide +kernel
theorem dX5_copy_12 : decode cX5_copy 12 = .ok (.invokestatic 40, 3) := by decide +kernel
theorem dX5_copy_15 : decode cX5_copy 15 = .ok (.ifCond .ne 5, 3) := by decide +kernel
theorem dX5_copy_18 : decode cX5_copy 18 = .ok (.iconst (-1), 1) := by decide +kernel
theorem dX5_copy_19 : decode cX5_copy 19 = .ok (.ireturn, 1) := by decide +kernel
theorem dX5_copy_20 : decode cX5_copy 20 = .ok (.aload_n 0, 1) := by decide +kernel
theorem dX5_copy_21 : decode cX5_copy 21 = .ok (.getfield 22, 3) := by decide +kernel
theorem dX5_copy_24 : decode cX5_copy 24 = .ok (.iload_n 1, 1) := by decide +kernel
theorem dX5_copy_25 : decode cX5_copy 25 = .ok (.aaload, 1) := by decide +kernel
theorem dX5_copy_26 : decode cX5_copy 26 = .ok (.astore 6, 2) := by decide +kernel
theorem dX5_copy_28 : decode cX5_copy 28 = .ok (.aload_n 0, 1) := by decide +kernel
theorem dX5_copy_29 : decode cX5_copy 29 = .ok (.getfield 22, 3) := by decide +kernel
theorem dX5_copy_32 : decode cX5_copy 32 = .ok (.iload_n 3, 1) := by decide +kernel
theorem dX5_copy_33 : decode cX5_copy 33 = .ok (.aaload, 1) := by decide +kernel
theorem dX5_copy_34 : decode cX5_copy 34 = .ok (.astore 7, 2) := by decide +kernel
theorem dX5_copy_36 : decode cX5_copy 36 = .ok (.aload 6, 2) := by decide +kernel
theorem dX5_copy_38 : decode cX5_copy 38 = .ok (.ifnull 8, 3) := by decide +kernel
theorem dX5_copy_41 : decode cX5_copy 41 = .ok (.aload 7, 2) := by decide +kernel
theorem dX5_copy_43 : decode cX5_copy 43 = .ok (.ifnonnull 10, 3) := by decide +kernel
theorem dX5_copy_46 : decode cX5_copy 46 = .ok (.aload_n 0, 1) := by decide +kernel
theorem dX5_copy_47 : decode cX5_copy 47 = .ok (.bipush (-3), 2) := by decide +kernel
theorem dX5_copy_49 : decode cX5_copy 49 = .ok (.invokevirtual 85, 3) := by decide +kernel
theorem dX5_copy_52 : decode cX5_copy 52 = .ok (.ireturn, 1) := by decide +kernel
theorem dX5_copy_53 : decode cX5_copy 53 = .ok (.aload 6, 2) := by decide +kernel
theorem dX5_copy_55 : decode cX5_copy 55 = .ok (.getfield 135, 3) := by decide +kernel
theorem dX5_copy_58 : decode cX5_copy 58 = .ok (.aload 7, 2) := by decide +kernel
theorem dX5_copy_60 : decode cX5_copy 60 = .ok (.getfield 135, 3) := by decide +kernel
theorem dX5_copy_63 : decode cX5_copy 63 = .ok (.if_icmp .eq 10, 3) := by decide +kernel
theorem dX5_copy_66 : decode cX5_copy 66 = .ok (.aload_n 0, 1) := by decide +kernel
theorem dX5_copy_67 : decode cX5_copy 67 = .ok (.bipush (-6), 2) := by decide +kernel
theorem dX5_copy_69 : decode cX5_copy 69 = .ok (.invokevirtual 85, 3) := by decide +kernel
theorem dX5_copy_72 : decode cX5_copy 72 = .ok (.ireturn, 1) := by decide +kernel
theorem dX5_copy_73 : decode cX5_copy 73 = .ok (.aload 6, 2) := by decide +kernel
theorem dX5_copy_75 : decode cX5_copy 75 = .ok (.iload_n 2, 1) := by decide +kernel
theorem dX5_copy_76 : decode cX5_copy 76 = .ok (.iload 5, 2) := by decide +kernel
theorem dX5_copy_78 : decode cX5_copy 78 = .ok (.invokevirtual 138, 3) := by decide +kernel
theorem dX5_copy_81 : decode cX5_copy 81 = .ok (.ifCond .eq 15, 3) := by decide +kernel
theorem dX5_copy_84 : decode cX5_copy 84 = .ok (.aload 7, 2) := by decide +kernel
theorem dX5_copy_86 : decode cX5_copy 86 = .ok (.iload 4, 2) := by decide +kernel
theorem dX5_copy_88 : decode cX5_copy 88 = .ok (.iload 5, 2) := by decide +kernel
theorem dX5_copy_90 : decode cX5_copy 90 = .ok (.invokevirtual 138, 3) := by decide +kernel
theorem dX5_copy_93 : decode cX5_copy 93 = .ok (.ifCond .ne 10, 3) := by decide +kernel
theorem dX5_copy_96 : decode cX5_copy 96 = .ok (.aload_n 0, 1) := by decide +kernel
theorem dX5_copy_97 : decode cX5_copy 97 = .ok (.bipush (-4), 2) := by decide +kernel
theorem dX5_copy_99 : decode cX5_copy 99 = .ok (.invokevirtual 85, 3) := by decide +kernel
theorem dX5_copy_102 : decode cX5_copy 102 = .ok (.ireturn, 1) := by decide +kernel
theorem dX5_copy_103 : decode cX5_copy 103 = .ok (.aload 6, 2) := by decide +kernel
theorem dX5_copy_105 : decode cX5_copy 105 = .ok (.getfield 129, 3) := by decide +kernel
theorem dX5_copy_108 : decode cX5_copy 108 = .ok (.iload_n 2, 1) := by decide +kernel
theorem dX5_copy_109 : decode cX5_copy 109 = .ok (.aload 7, 2) := by decide +kernel
theorem dX5_copy_111 : decode cX5_copy 111 = .ok (.getfield 129, 3) := by decide +kernel
theorem dX5_copy_114 : decode cX5_copy 114 = .ok (.iload 4, 2) := by decide +kernel
theorem dX5_copy_116 : decode cX5_copy 116 = .ok (.iload 5, 2) := by decide +kernel
theorem dX5_copy_118 : decode cX5_copy 118 = .ok (.invokestatic 141, 3) := by decide +kernel
theorem dX5_copy_121 : decode cX5_copy 121 = .ok (.aload 6, 2) := by decide +kernel
theorem dX5_copy_123 : decode cX5_copy 123 = .ok (.getfield 130, 3) := by decide +kernel
theorem dX5_copy_126 : decode cX5_copy 126 = .ok (.iload_n 2, 1) := by decide +kernel
theorem dX5_copy_127 : decode cX5_copy 127 = .ok (.aload 7, 2) := by decide +kernel
theorem dX5_copy_129 : decode cX5_copy 129 = .ok (.getfield 130, 3) := by decide +kernel
theorem dX5_copy_132 : decode cX5_copy 132 = .ok (.iload 4, 2) := by decide +kernel
theorem dX5_copy_134 : decode cX5_copy 134 = .ok (.iload 5, 2) := by decide +kernel
theorem dX5_copy_136 : decode cX5_copy 136 = .ok (.invokestatic 141, 3) := by decide +kernel
theorem dX5_copy_139 : decode cX5_copy 139 = .ok (.iconst 0, 1) := by decide +kernel
theorem dX5_copy_140 : decode cX5_copy 140 = .ok (.ireturn, 1) := by decide +kernel
theorem dX5_branch_0 : decode cX5_branch 0 = .ok (.iload_n 1, 1) := by decide +kernel
theorem dX5_branch_1 : decode cX5_branch 1 = .ok (.i2l, 1) := by decide +kernel
theorem dX5_branch_2 : decode cX5_branch 2 = .ok (.bipush 6, 2) := by decide +kernel
theorem dX5_branch_4 : decode cX5_branch 4 = .ok (.invokestatic 40, 3) := by decide +kernel
theorem dX5_branch_7 : decode cX5_branch 7 = .ok (.ifCond .eq 19, 3) := by decide +kernel
theorem dX5_branch_10 : decode cX5_branch 10 = .ok (.aload_n 0, 1) := by decide +kernel
theorem dX5_branch_11 : decode cX5_branch 11 = .ok (.iload_n 2, 1) := by decide +kernel
theorem dX5_branch_12 : decode cX5_branch 12 = .ok (.invokevirtual 105, 3) := by decide +kernel
theorem dX5_branch_15 : decode cX5_branch 15 = .ok (.ifCond .eq 11, 3) := by decide +kernel
theorem dX5_branch_18 : decode cX5_branch 18 = .ok (.aload_n 0, 1) := by decide +kernel
theorem dX5_branch_19 : decode cX5_branch 19 = .ok (.iload_n 3, 1) := by decide +kernel
theorem dX5_branch_20 : decode cX5_branch 20 = .ok (.invokevirtual 105, 3) := by decide +kernel
theorem dX5_branch_23 : decode cX5_branch 23 = .ok (.ifCond .ne 5, 3) := by decide +kernel
theorem dX5_branch_26 : decode cX5_branch 26 = .ok (.iconst (-1), 1) := by decide +kernel
theorem dX5_branch_27 : decode cX5_branch 27 = .ok (.ireturn, 1) := by decide +kernel
theorem dX5_branch_28 : decode cX5_branch 28 = .ok (.iload_n 1, 1) := by decide +kernel
theorem dX5_branch_29 : decode cX5_branch 29 = .ok (.aload_n 0, 1) := by decide +kernel
theorem dX5_branch_30 : decode cX5_branch 30 = .ok (.getfield 13, 3) := by decide +kernel
theorem dX5_branch_33 : decode cX5_branch 33 = .ok (.iload_n 2, 1) := by decide +kernel
theorem dX5_branch_34 : decode cX5_branch 34 = .ok (.laload, 1) := by decide +kernel
theorem dX5_branch_35 : decode cX5_branch 35 = .ok (.aload_n 0, 1) := by decide +kernel
theorem dX5_branch_36 : decode cX5_branch 36 = .ok (.getfield 13, 3) := by decide +kernel
theorem dX5_branch_39 : decode cX5_branch 39 = .ok (.iload_n 3, 1) := by decide +kernel
theorem dX5_branch_40 : decode cX5_branch 40 = .ok (.laload, 1) := by decide +kernel
theorem dX5_branch_41 : decode cX5_branch 41 = .ok (.invokestatic 147, 3) := by decide +kernel
theorem dX5_branch_44 : decode cX5_branch 44 = .ok (.ifCond .eq 7, 3) := by decide +kernel
theorem dX5_branch_47 : decode cX5_branch 47 = .ok (.iconst 1, 1) := by decide +kernel
theorem dX5_branch_48 : decode cX5_branch 48 = .ok (.goto 4, 3) := by decide +kernel
theorem dX5_branch_51 : decode cX5_branch 51 = .ok (.iconst 0, 1) := by decide +kernel
theorem dX5_branch_52 : decode cX5_branch 52 = .ok (.istore 4, 2) := by decide +kernel
theorem dX5_branch_54 : decode cX5_branch 54 = .ok (.aload_n 0, 1) := by decide +kernel
theorem dX5_branch_55 : decode cX5_branch 55 = .ok (.getfield 17, 3) := by decide +kernel
theorem dX5_branch_58 : decode cX5_branch 58 = .ok (.iload_n 2, 1) := by decide +kernel
theorem dX5_branch_59 : decode cX5_branch 59 = .ok (.iaload, 1) := by decide +kernel
theorem dX5_branch_60 : decode cX5_branch 60 = .ok (.aload_n 0, 1) := by decide +kernel
theorem dX5_branch_61 : decode cX5_branch 61 = .ok (.getfield 17, 3) := by decide +kernel
theorem dX5_branch_64 : decode cX5_branch 64 = .ok (.iload_n 3, 1) := by decide +kernel
theorem dX5_branch_65 : decode cX5_branch 65 = .ok (.iaload, 1) := by decide +kernel
theorem dX5_branch_66 : decode cX5_branch 66 = .ok (.invokestatic 151, 3) := by decide +kernel
theorem dX5_branch_69 : decode cX5_branch 69 = .ok (.istore 5, 2) := by decide +kernel
theorem dX5_branch_71 : decode cX5_branch 71 = .ok (.iload 5, 2) := by decide +kernel
theorem dX5_branch_73 : decode cX5_branch 73 = .ok (.bipush 63, 2) := by decide +kernel
theorem dX5_branch_75 : decode cX5_branch 75 = .ok (.iand, 1) := by decide +kernel
theorem dX5_branch_76 : decode cX5_branch 76 = .ok (.ifCond .eq 30, 3) := by decide +kernel
theorem dX5_branch_79 : decode cX5_branch 79 = .ok (.aload_n 0, 1) := by decide +kernel
theorem dX5_branch_80 : decode cX5_branch 80 = .ok (.getfield 36, 3) := by decide +kernel
theorem dX5_branch_83 : decode cX5_branch 83 = .ok (.iload 4, 2) := by decide +kernel
theorem dX5_branch_85 : decode cX5_branch 85 = .ok (.iload 5, 2) := by decide +kernel
theorem dX5_branch_87 : decode cX5_branch 87 = .ok (.bipush 63, 2) := by decide +kernel
theorem dX5_branch_89 : decode cX5_branch 89 = .ok (.iand, 1) := by decide +kernel
theorem dX5_branch_90 : decode cX5_branch 90 = .ok (.iload 5, 2) := by decide +kernel
theorem dX5_branch_92 : decode cX5_branch 92 = .ok (.bipush 64, 2) := by decide +kernel
theorem dX5_branch_94 : decode cX5_branch 94 = .ok (.iand, 1) := by decide +kernel
theorem dX5_branch_95 : decode cX5_branch 95 = .ok (.ifCond .eq 7, 3) := by decide +kernel
theorem dX5_branch_98 : decode cX5_branch 98 = .ok (.iconst 1, 1) := by decide +kernel
theorem dX5_branch_99 : decode cX5_branch 99 = .ok (.goto 4, 3) := by decide +kernel
theorem dX5_branch_102 : decode cX5_branch 102 = .ok (.iconst 0, 1) := by decide +kernel
theorem dX5_branch_103 : decode cX5_branch 103 = .ok (.invokevirtual 154, 3) := by decide +kernel
theorem dX5_branch_106 : decode cX5_branch 106 = .ok (.iload 4, 2) := by decide +kernel
theorem dX5_branch_108 : decode cX5_branch 108 = .ok (.ireturn, 1) := by decide +kernel
theorem dX5_kind_0 : decode cX5_kind 0 = .ok (.iload_n 1, 1) := by decide +kernel
theorem dX5_kind_1 : decode cX5_kind 1 = .ok (.i2l, 1) := by decide +kernel
theorem dX5_kind_2 : decode cX5_kind 2 = .ok (.bipush 8, 2) := by decide +kernel
theorem dX5_kind_4 : decode cX5_kind 4 = .ok (.invokestatic 40, 3) := by decide +kernel
theorem dX5_kind_7 : decode cX5_kind 7 = .ok (.ifCond .eq 12, 3) := by decide +kernel
theorem dX5_kind_10 : decode cX5_kind 10 = .ok (.aload_n 0, 1) := by decide +kernel
theorem dX5_kind_11 : decode cX5_kind 11 = .ok (.getfield 9, 3) := by decide +kernel
theorem dX5_kind_14 : decode cX5_kind 14 = .ok (.iload_n 1, 1) := by decide +kernel
theorem dX5_kind_15 : decode cX5_kind 15 = .ok (.iaload, 1) := by decide +kernel
theorem dX5_kind_16 : decode cX5_kind 16 = .ok (.goto 4, 3) := by decide +kernel
theorem dX5_kind_19 : decode cX5_kind 19 = .ok (.iconst (-1), 1) := by decide +kernel
theorem dX5_kind_20 : decode cX5_kind 20 = .ok (.ireturn, 1) := by decide +kernel
theorem dX5_bits_0 : decode cX5_bits 0 = .ok (.iload_n 1, 1) := by decide +kernel
theorem dX5_bits_1 : decode cX5_bits 1 = .ok (.i2l, 1) := by decide +kernel
theorem dX5_bits_2 : decode cX5_bits 2 = .ok (.bipush 8, 2) := by decide +kernel
theorem dX5_bits_4 : decode cX5_bits 4 = .ok (.invokestatic 40, 3) := by decide +kernel
theorem dX5_bits_7 : decode cX5_bits 7 = .ok (.ifCond .eq 12, 3) := by decide +kernel
theorem dX5_bits_10 : decode cX5_bits 10 = .ok (.aload_n 0, 1) := by decide +kernel
theorem dX5_bits_11 : decode cX5_bits 11 = .ok (.getfield 13, 3) := by decide +kernel
theorem dX5_bits_14 : decode cX5_bits 14 = .ok (.iload_n 1, 1) := by decide +kernel
theorem dX5_bits_15 : decode cX5_bits 15 = .ok (.laload, 1) := by decide +kernel
theorem dX5_bits_16 : decode cX5_bits 16 = .ok (.goto 6, 3) := by decide +kernel
theorem dX5_bits_19 : decode cX5_bits 19 = .ok (.ldc2_w 158, 3) := by decide +kernel
theorem dX5_bits_22 : decode cX5_bits 22 = .ok (.lreturn, 1) := by decide +kernel
theorem dX5_shadow_0 : decode cX5_shadow 0 = .ok (.iload_n 1, 1) := by decide +kernel
theorem dX5_shadow_1 : decode cX5_shadow 1 = .ok (.i2l, 1) := by decide +kernel
theorem dX5_shadow_2 : decode cX5_shadow 2 = .ok (.bipush 8, 2) := by decide +kernel
theorem dX5_shadow_4 : decode cX5_shadow 4 = .ok (.invokestatic 40, 3) := by decide +kernel
theorem dX5_shadow_7 : decode cX5_shadow 7 = .ok (.ifCond .eq 12, 3) := by decide +kernel
theorem dX5_shadow_10 : decode cX5_shadow 10 = .ok (.aload_n 0, 1) := by decide +kernel
theorem dX5_shadow_11 : decode cX5_shadow 11 = .ok (.getfield 17, 3) := by decide +kernel
theorem dX5_shadow_14 : decode cX5_shadow 14 = .ok (.iload_n 1, 1) := by decide +kernel
theorem dX5_shadow_15 : decode cX5_shadow 15 = .ok (.iaload, 1) := by decide +kernel
theorem dX5_shadow_16 : decode cX5_shadow 16 = .ok (.goto 4, 3) := by decide +kernel
theorem dX5_shadow_19 : decode cX5_shadow 19 = .ok (.iconst (-1), 1) := by decide +kernel
theorem dX5_shadow_20 : decode cX5_shadow 20 = .ok (.ireturn, 1) := by decide +kernel
theorem dX5_cell_0 : decode cX5_cell 0 = .ok (.iload_n 1, 1) := by decide +kernel
theorem dX5_cell_1 : decode cX5_cell 1 = .ok (.i2l, 1) := by decide +kernel
theorem dX5_cell_2 : decode cX5_cell 2 = .ok (.iconst 4, 1) := by decide +kernel
theorem dX5_cell_3 : decode cX5_cell 3 = .ok (.invokestatic 40, 3) := by decide +kernel
theorem dX5_cell_6 : decode cX5_cell 6 = .ok (.ifCond .eq 12, 3) := by decide +kernel
theorem dX5_cell_9 : decode cX5_cell 9 = .ok (.aload_n 0, 1) := by decide +kernel
theorem dX5_cell_10 : decode cX5_cell 10 = .ok (.getfield 22, 3) := by decide +kernel
theorem dX5_cell_13 : decode cX5_cell 13 = .ok (.iload_n 1, 1) := by decide +kernel
theorem dX5_cell_14 : decode cX5_cell 14 = .ok (.aaload, 1) := by decide +kernel
theorem dX5_cell_15 : decode cX5_cell 15 = .ok (.ifnonnull 7, 3) := by decide +kernel
theorem dX5_cell_18 : decode cX5_cell 18 = .ok (.ldc2_w 158, 3) := by decide +kernel
theorem dX5_cell_21 : decode cX5_cell 21 = .ok (.lreturn, 1) := by decide +kernel
theorem dX5_cell_22 : decode cX5_cell 22 = .ok (.aload_n 0, 1) := by decide +kernel
theorem dX5_cell_23 : decode cX5_cell 23 = .ok (.getfield 22, 3) := by decide +kernel
theorem dX5_cell_26 : decode cX5_cell 26 = .ok (.iload_n 1, 1) := by decide +kernel
theorem dX5_cell_27 : decode cX5_cell 27 = .ok (.aaload, 1) := by decide +kernel
theorem dX5_cell_28 : decode cX5_cell 28 = .ok (.astore 4, 2) := by decide +kernel
theorem dX5_cell_30 : decode cX5_cell 30 = .ok (.iload_n 3, 1) := by decide +kernel
theorem dX5_cell_31 : decode cX5_cell 31 = .ok (.iconst 2, 1) := by decide +kernel
theorem dX5_cell_32 : decode cX5_cell 32 = .ok (.if_icmp .ne 10, 3) := by decide +kernel
theorem dX5_cell_35 : decode cX5_cell 35 = .ok (.aload 4, 2) := by decide +kernel
theorem dX5_cell_37 : decode cX5_cell 37 = .ok (.getfield 135, 3) := by decide +kernel
theorem dX5_cell_40 : decode cX5_cell 40 = .ok (.i2l, 1) := by decide +kernel
theorem dX5_cell_41 : decode cX5_cell 41 = .ok (.lreturn, 1) := by decide +kernel
theorem dX5_cell_42 : decode cX5_cell 42 = .ok (.iload_n 2, 1) := by decide +kernel
theorem dX5_cell_43 : decode cX5_cell 43 = .ok (.i2l, 1) := by decide +kernel
theorem dX5_cell_44 : decode cX5_cell 44 = .ok (.aload 4, 2) := by decide +kernel
theorem dX5_cell_46 : decode cX5_cell 46 = .ok (.getfield 121, 3) := by decide +kernel
theorem dX5_cell_49 : decode cX5_cell 49 = .ok (.invokestatic 40, 3) := by decide +kernel
theorem dX5_cell_52 : decode cX5_cell 52 = .ok (.ifCond .eq 12, 3) := by decide +kernel
theorem dX5_cell_55 : decode cX5_cell 55 = .ok (.iload_n 3, 1) := by decide +kernel
theorem dX5_cell_56 : decode cX5_cell 56 = .ok (.i2l, 1) := by decide +kernel
theorem dX5_cell_57 : decode cX5_cell 57 = .ok (.iconst 2, 1) := by decide +kernel
theorem dX5_cell_58 : decode cX5_cell 58 = .ok (.invokestatic 40, 3) := by decide +kernel
theorem dX5_cell_61 : decode cX5_cell 61 = .ok (.ifCond .ne 7, 3) := by decide +kernel
theorem dX5_cell_64 : decode cX5_cell 64 = .ok (.ldc2_w 158, 3) := by decide +kernel
theorem dX5_cell_67 : decode cX5_cell 67 = .ok (.lreturn, 1) := by decide +kernel
theorem dX5_cell_68 : decode cX5_cell 68 = .ok (.iload_n 3, 1) := by decide +kernel
theorem dX5_cell_69 : decode cX5_cell 69 = .ok (.ifCond .ne 13, 3) := by decide +kernel
theorem dX5_cell_72 : decode cX5_cell 72 = .ok (.aload 4, 2) := by decide +kernel
theorem dX5_cell_74 : decode cX5_cell 74 = .ok (.getfield 129, 3) := by decide +kernel
theorem dX5_cell_77 : decode cX5_cell 77 = .ok (.iload_n 2, 1) := by decide +kernel
theorem dX5_cell_78 : decode cX5_cell 78 = .ok (.laload, 1) := by decide +kernel
theorem dX5_cell_79 : decode cX5_cell 79 = .ok (.goto 11, 3) := by decide +kernel
theorem dX5_cell_82 : decode cX5_cell 82 = .ok (.aload 4, 2) := by decide +kernel
theorem dX5_cell_84 : decode cX5_cell 84 = .ok (.getfield 130, 3) := by decide +kernel
theorem dX5_cell_87 : decode cX5_cell 87 = .ok (.iload_n 2, 1) := by decide +kernel
theorem dX5_cell_88 : decode cX5_cell 88 = .ok (.iaload, 1) := by decide +kernel
theorem dX5_cell_89 : decode cX5_cell 89 = .ok (.i2l, 1) := by decide +kernel
theorem dX5_cell_90 : decode cX5_cell 90 = .ok (.lreturn, 1) := by decide +kernel
theorem dX5_pin_0 : decode cX5_pin 0 = .ok (.iload_n 2, 1) := by decide +kernel
theorem dX5_pin_1 : decode cX5_pin 1 = .ok (.i2l, 1) := by decide +kernel
theorem dX5_pin_2 : decode cX5_pin 2 = .ok (.iconst 2, 1) := by decide +kernel
theorem dX5_pin_3 : decode cX5_pin 3 = .ok (.invokestatic 40, 3) := by decide +kernel
theorem dX5_pin_6 : decode cX5_pin 6 = .ok (.ifCond .eq 15, 3) := by decide +kernel
theorem dX5_pin_9 : decode cX5_pin 9 = .ok (.aload_n 0, 1) := by decide +kernel
theorem dX5_pin_10 : decode cX5_pin 10 = .ok (.getfield 32, 3) := by decide +kernel
theorem dX5_pin_13 : decode cX5_pin 13 = .ok (.iload_n 1, 1) := by decide +kernel
theorem dX5_pin_14 : decode cX5_pin 14 = .ok (.iload_n 2, 1) := by decide +kernel
theorem dX5_pin_15 : decode cX5_pin 15 = .ok (.invokevirtual 160, 3) := by decide +kernel
theorem dX5_pin_18 : decode cX5_pin 18 = .ok (.goto 6, 3) := by decide +kernel
theorem dX5_pin_21 : decode cX5_pin 21 = .ok (.ldc2_w 158, 3) := by decide +kernel
theorem dX5_pin_24 : decode cX5_pin 24 = .ok (.lreturn, 1) := by decide +kernel
theorem dX5_way_0 : decode cX5_way 0 = .ok (.iload_n 2, 1) := by decide +kernel
theorem dX5_way_1 : decode cX5_way 1 = .ok (.i2l, 1) := by decide +kernel
theorem dX5_way_2 : decode cX5_way 2 = .ok (.iconst 3, 1) := by decide +kernel
theorem dX5_way_3 : decode cX5_way 3 = .ok (.invokestatic 40, 3) := by decide +kernel
theorem dX5_way_6 : decode cX5_way 6 = .ok (.ifCond .eq 15, 3) := by decide +kernel
theorem dX5_way_9 : decode cX5_way 9 = .ok (.aload_n 0, 1) := by decide +kernel
theorem dX5_way_10 : decode cX5_way 10 = .ok (.getfield 36, 3) := by decide +kernel
theorem dX5_way_13 : decode cX5_way 13 = .ok (.iload_n 1, 1) := by decide +kernel
theorem dX5_way_14 : decode cX5_way 14 = .ok (.iload_n 2, 1) := by decide +kernel
theorem dX5_way_15 : decode cX5_way 15 = .ok (.invokevirtual 160, 3) := by decide +kernel
theorem dX5_way_18 : decode cX5_way 18 = .ok (.goto 6, 3) := by decide +kernel
theorem dX5_way_21 : decode cX5_way 21 = .ok (.ldc2_w 158, 3) := by decide +kernel
theorem dX5_way_24 : decode cX5_way 24 = .ok (.lreturn, 1) := by decide +kernel
theorem dX5_count_0 : decode cX5_count 0 = .ok (.iload_n 1, 1) := by decide +kernel
theorem dX5_count_1 : decode cX5_count 1 = .ok (.tableswitch 57 0 3 #[31, 39, 47, 52], 31) := by decide +kernel
theorem dX5_count_32 : decode cX5_count 32 = .ok (.aload_n 0, 1) := by decide +kernel
theorem dX5_count_33 : decode cX5_count 33 = .ok (.getfield 32, 3) := by decide +kernel
theorem dX5_count_36 : decode cX5_count 36 = .ok (.getfield 164, 3) := by decide +kernel
theorem dX5_count_39 : decode cX5_count 39 = .ok (.ireturn, 1) := by decide +kernel
theorem dX5_count_40 : decode cX5_count 40 = .ok (.aload_n 0, 1) := by decide +kernel
theorem dX5_count_41 : decode cX5_count 41 = .ok (.getfield 36, 3) := by decide +kernel
theorem dX5_count_44 : decode cX5_count 44 = .ok (.getfield 164, 3) := by decide +kernel
theorem dX5_count_47 : decode cX5_count 47 = .ok (.ireturn, 1) := by decide +kernel
theorem dX5_count_48 : decode cX5_count 48 = .ok (.aload_n 0, 1) := by decide +kernel
theorem dX5_count_49 : decode cX5_count 49 = .ok (.getfield 167, 3) := by decide +kernel
theorem dX5_count_52 : decode cX5_count 52 = .ok (.ireturn, 1) := by decide +kernel
theorem dX5_count_53 : decode cX5_count 53 = .ok (.aload_n 0, 1) := by decide +kernel
theorem dX5_count_54 : decode cX5_count 54 = .ok (.invokevirtual 170, 3) := by decide +kernel
theorem dX5_count_57 : decode cX5_count 57 = .ok (.ireturn, 1) := by decide +kernel
theorem dX5_count_58 : decode cX5_count 58 = .ok (.iconst (-1), 1) := by decide +kernel
theorem dX5_count_59 : decode cX5_count 59 = .ok (.ireturn, 1) := by decide +kernel
theorem dX5_isBelow_0 : decode cX5_isBelow 0 = .ok (.lload_n 0, 1) := by decide +kernel
theorem dX5_isBelow_1 : decode cX5_isBelow 1 = .ok (.lconst 0, 1) := by decide +kernel
theorem dX5_isBelow_2 : decode cX5_isBelow 2 = .ok (.lcmp, 1) := by decide +kernel
theorem dX5_isBelow_3 : decode cX5_isBelow 3 = .ok (.ifCond .lt 14, 3) := by decide +kernel
theorem dX5_isBelow_6 : decode cX5_isBelow 6 = .ok (.lload_n 0, 1) := by decide +kernel
theorem dX5_isBelow_7 : decode cX5_isBelow 7 = .ok (.iload_n 2, 1) := by decide +kernel
theorem dX5_isBelow_8 : decode cX5_isBelow 8 = .ok (.i2l, 1) := by decide +kernel
theorem dX5_isBelow_9 : decode cX5_isBelow 9 = .ok (.lcmp, 1) := by decide +kernel
theorem dX5_isBelow_10 : decode cX5_isBelow 10 = .ok (.ifCond .ge 7, 3) := by decide +kernel
theorem dX5_isBelow_13 : decode cX5_isBelow 13 = .ok (.iconst 1, 1) := by decide +kernel
theorem dX5_isBelow_14 : decode cX5_isBelow 14 = .ok (.goto 4, 3) := by decide +kernel
theorem dX5_isBelow_17 : decode cX5_isBelow 17 = .ok (.iconst 0, 1) := by decide +kernel
theorem dX5_isBelow_18 : decode cX5_isBelow 18 = .ok (.ireturn, 1) := by decide +kernel
theorem dX5_isFloating_0 : decode cX5_isFloating 0 = .ok (.iload_n 0, 1) := by decide +kernel
theorem dX5_isFloating_1 : decode cX5_isFloating 1 = .ok (.iconst 2, 1) := by decide +kernel
theorem dX5_isFloating_2 : decode cX5_isFloating 2 = .ok (.if_icmp .eq 8, 3) := by decide +kernel
theorem dX5_isFloating_5 : decode cX5_isFloating 5 = .ok (.iload_n 0, 1) := by decide +kernel
theorem dX5_isFloating_6 : decode cX5_isFloating 6 = .ok (.iconst 3, 1) := by decide +kernel
theorem dX5_isFloating_7 : decode cX5_isFloating 7 = .ok (.if_icmp .ne 7, 3) := by decide +kernel
theorem dX5_isFloating_10 : decode cX5_isFloating 10 = .ok (.iconst 1, 1) := by decide +kernel
theorem dX5_isFloating_11 : decode cX5_isFloating 11 = .ok (.goto 4, 3) := by decide +kernel
theorem dX5_isFloating_14 : decode cX5_isFloating 14 = .ok (.iconst 0, 1) := by decide +kernel
theorem dX5_isFloating_15 : decode cX5_isFloating 15 = .ok (.ireturn, 1) := by decide +kernel
theorem dX5_formatOf_0 : decode cX5_formatOf 0 = .ok (.iload_n 0, 1) := by decide +kernel
theorem dX5_formatOf_1 : decode cX5_formatOf 1 = .ok (.iconst 2, 1) := by decide +kernel
theorem dX5_formatOf_2 : decode cX5_formatOf 2 = .ok (.if_icmp .ne 9, 3) := by decide +kernel
theorem dX5_formatOf_5 : decode cX5_formatOf 5 = .ok (.getstatic 173, 3) := by decide +kernel
theorem dX5_formatOf_8 : decode cX5_formatOf 8 = .ok (.goto 6, 3) := by decide +kernel
theorem dX5_formatOf_11 : decode cX5_formatOf 11 = .ok (.getstatic 179, 3) := by decide +kernel
theorem dX5_formatOf_14 : decode cX5_formatOf 14 = .ok (.areturn, 1) := by decide +kernel
theorem dX5_held_0 : decode cX5_held 0 = .ok (.iload_n 0, 1) := by decide +kernel
theorem dX5_held_1 : decode cX5_held 1 = .ok (.ifCond .ne 7, 3) := by decide +kernel
theorem dX5_held_4 : decode cX5_held 4 = .ok (.lload_n 1, 1) := by decide +kernel
theorem dX5_held_5 : decode cX5_held 5 = .ok (.l2i, 1) := by decide +kernel
theorem dX5_held_6 : decode cX5_held 6 = .ok (.i2l, 1) := by decide +kernel
theorem dX5_held_7 : decode cX5_held 7 = .ok (.lreturn, 1) := by decide +kernel
theorem dX5_held_8 : decode cX5_held 8 = .ok (.iload_n 0, 1) := by decide +kernel
theorem dX5_held_9 : decode cX5_held 9 = .ok (.iconst 2, 1) := by decide +kernel
theorem dX5_held_10 : decode cX5_held 10 = .ok (.if_icmp .ne 13, 3) := by decide +kernel
theorem dX5_held_13 : decode cX5_held 13 = .ok (.getstatic 173, 3) := by decide +kernel
theorem dX5_held_16 : decode cX5_held 16 = .ok (.lload_n 1, 1) := by decide +kernel
theorem dX5_held_17 : decode cX5_held 17 = .ok (.l2i, 1) := by decide +kernel
theorem dX5_held_18 : decode cX5_held 18 = .ok (.i2l, 1) := by decide +kernel
theorem dX5_held_19 : decode cX5_held 19 = .ok (.invokevirtual 182, 3) := by decide +kernel
theorem dX5_held_22 : decode cX5_held 22 = .ok (.lreturn, 1) := by decide +kernel
theorem dX5_held_23 : decode cX5_held 23 = .ok (.iload_n 0, 1) := by decide +kernel
theorem dX5_held_24 : decode cX5_held 24 = .ok (.iconst 3, 1) := by decide +kernel
theorem dX5_held_25 : decode cX5_held 25 = .ok (.if_icmp .ne 13, 3) := by decide +kernel
theorem dX5_held_28 : decode cX5_held 28 = .ok (.getstatic 179, 3) := by decide +kernel
theorem dX5_held_31 : decode cX5_held 31 = .ok (.lload_n 1, 1) := by decide +kernel
theorem dX5_held_32 : decode cX5_held 32 = .ok (.invokevirtual 182, 3) := by decide +kernel
theorem dX5_held_35 : decode cX5_held 35 = .ok (.goto 4, 3) := by decide +kernel
theorem dX5_held_38 : decode cX5_held 38 = .ok (.lload_n 1, 1) := by decide +kernel
theorem dX5_held_39 : decode cX5_held 39 = .ok (.lreturn, 1) := by decide +kernel
theorem dX5_joined_0 : decode cX5_joined 0 = .ok (.iload_n 0, 1) := by decide +kernel
theorem dX5_joined_1 : decode cX5_joined 1 = .ok (.iload_n 1, 1) := by decide +kernel
theorem dX5_joined_2 : decode cX5_joined 2 = .ok (.ior, 1) := by decide +kernel
theorem dX5_joined_3 : decode cX5_joined 3 = .ok (.bipush 63, 2) := by decide +kernel
theorem dX5_joined_5 : decode cX5_joined 5 = .ok (.iand, 1) := by decide +kernel
theorem dX5_joined_6 : decode cX5_joined 6 = .ok (.iload_n 0, 1) := by decide +kernel
theorem dX5_joined_7 : decode cX5_joined 7 = .ok (.iload_n 1, 1) := by decide +kernel
theorem dX5_joined_8 : decode cX5_joined 8 = .ok (.iand, 1) := by decide +kernel
theorem dX5_joined_9 : decode cX5_joined 9 = .ok (.bipush 64, 2) := by decide +kernel
theorem dX5_joined_11 : decode cX5_joined 11 = .ok (.iand, 1) := by decide +kernel
theorem dX5_joined_12 : decode cX5_joined 12 = .ok (.ior, 1) := by decide +kernel
theorem dX5_joined_13 : decode cX5_joined 13 = .ok (.ireturn, 1) := by decide +kernel
theorem dX5_inexact_0 : decode cX5_inexact 0 = .ok (.iload_n 0, 1) := by decide +kernel
theorem dX5_inexact_1 : decode cX5_inexact 1 = .ok (.bipush 63, 2) := by decide +kernel
theorem dX5_inexact_3 : decode cX5_inexact 3 = .ok (.iand, 1) := by decide +kernel
theorem dX5_inexact_4 : decode cX5_inexact 4 = .ok (.istore_n 1, 1) := by decide +kernel
theorem dX5_inexact_5 : decode cX5_inexact 5 = .ok (.iload_n 1, 1) := by decide +kernel
theorem dX5_inexact_6 : decode cX5_inexact 6 = .ok (.ifCond .ne 8, 3) := by decide +kernel
theorem dX5_inexact_9 : decode cX5_inexact 9 = .ok (.bipush 64, 2) := by decide +kernel
theorem dX5_inexact_11 : decode cX5_inexact 11 = .ok (.goto 4, 3) := by decide +kernel
theorem dX5_inexact_14 : decode cX5_inexact 14 = .ok (.iload_n 1, 1) := by decide +kernel
theorem dX5_inexact_15 : decode cX5_inexact 15 = .ok (.ireturn, 1) := by decide +kernel
theorem dX5_isSo_0 : decode cX5_isSo 0 = .ok (.iload_n 0, 1) := by decide +kernel
theorem dX5_isSo_1 : decode cX5_isSo 1 = .ok (.tableswitch 95 0 4 #[35, 47, 59, 71, 83], 35) := by decide +kernel
theorem dX5_isSo_36 : decode cX5_isSo 36 = .ok (.lload_n 1, 1) := by decide +kernel
theorem dX5_isSo_37 : decode cX5_isSo 37 = .ok (.lload_n 3, 1) := by decide +kernel
theorem dX5_isSo_38 : decode cX5_isSo 38 = .ok (.lcmp, 1) := by decide +kernel
theorem dX5_isSo_39 : decode cX5_isSo 39 = .ok (.ifCond .ne 7, 3) := by decide +kernel
theorem dX5_isSo_42 : decode cX5_isSo 42 = .ok (.iconst 1, 1) := by decide +kernel
theorem dX5_isSo_43 : decode cX5_isSo 43 = .ok (.goto 4, 3) := by decide +kernel
theorem dX5_isSo_46 : decode cX5_isSo 46 = .ok (.iconst 0, 1) := by decide +kernel
theorem dX5_isSo_47 : decode cX5_isSo 47 = .ok (.ireturn, 1) := by decide +kernel
theorem dX5_isSo_48 : decode cX5_isSo 48 = .ok (.lload_n 1, 1) := by decide +kernel
theorem dX5_isSo_49 : decode cX5_isSo 49 = .ok (.lload_n 3, 1) := by decide +kernel
theorem dX5_isSo_50 : decode cX5_isSo 50 = .ok (.lcmp, 1) := by decide +kernel
theorem dX5_isSo_51 : decode cX5_isSo 51 = .ok (.ifCond .eq 7, 3) := by decide +kernel
theorem dX5_isSo_54 : decode cX5_isSo 54 = .ok (.iconst 1, 1) := by decide +kernel
theorem dX5_isSo_55 : decode cX5_isSo 55 = .ok (.goto 4, 3) := by decide +kernel
theorem dX5_isSo_58 : decode cX5_isSo 58 = .ok (.iconst 0, 1) := by decide +kernel
theorem dX5_isSo_59 : decode cX5_isSo 59 = .ok (.ireturn, 1) := by decide +kernel
theorem dX5_isSo_60 : decode cX5_isSo 60 = .ok (.lload_n 1, 1) := by decide +kernel
theorem dX5_isSo_61 : decode cX5_isSo 61 = .ok (.lload_n 3, 1) := by decide +kernel
theorem dX5_isSo_62 : decode cX5_isSo 62 = .ok (.lcmp, 1) := by decide +kernel
theorem dX5_isSo_63 : decode cX5_isSo 63 = .ok (.ifCond .ge 7, 3) := by decide +kernel
theorem dX5_isSo_66 : decode cX5_isSo 66 = .ok (.iconst 1, 1) := by decide +kernel
theorem dX5_isSo_67 : decode cX5_isSo 67 = .ok (.goto 4, 3) := by decide +kernel
theorem dX5_isSo_70 : decode cX5_isSo 70 = .ok (.iconst 0, 1) := by decide +kernel
theorem dX5_isSo_71 : decode cX5_isSo 71 = .ok (.ireturn, 1) := by decide +kernel
theorem dX5_isSo_72 : decode cX5_isSo 72 = .ok (.lload_n 1, 1) := by decide +kernel
theorem dX5_isSo_73 : decode cX5_isSo 73 = .ok (.lload_n 3, 1) := by decide +kernel
theorem dX5_isSo_74 : decode cX5_isSo 74 = .ok (.lcmp, 1) := by decide +kernel
theorem dX5_isSo_75 : decode cX5_isSo 75 = .ok (.ifCond .lt 7, 3) := by decide +kernel
theorem dX5_isSo_78 : decode cX5_isSo 78 = .ok (.iconst 1, 1) := by decide +kernel
theorem dX5_isSo_79 : decode cX5_isSo 79 = .ok (.goto 4, 3) := by decide +kernel
theorem dX5_isSo_82 : decode cX5_isSo 82 = .ok (.iconst 0, 1) := by decide +kernel
theorem dX5_isSo_83 : decode cX5_isSo 83 = .ok (.ireturn, 1) := by decide +kernel
theorem dX5_isSo_84 : decode cX5_isSo 84 = .ok (.lload_n 1, 1) := by decide +kernel
theorem dX5_isSo_85 : decode cX5_isSo 85 = .ok (.lload_n 3, 1) := by decide +kernel
theorem dX5_isSo_86 : decode cX5_isSo 86 = .ok (.lcmp, 1) := by decide +kernel
theorem dX5_isSo_87 : decode cX5_isSo 87 = .ok (.ifCond .le 7, 3) := by decide +kernel
theorem dX5_isSo_90 : decode cX5_isSo 90 = .ok (.iconst 1, 1) := by decide +kernel
theorem dX5_isSo_91 : decode cX5_isSo 91 = .ok (.goto 4, 3) := by decide +kernel
theorem dX5_isSo_94 : decode cX5_isSo 94 = .ok (.iconst 0, 1) := by decide +kernel
theorem dX5_isSo_95 : decode cX5_isSo 95 = .ok (.ireturn, 1) := by decide +kernel
theorem dX5_isSo_96 : decode cX5_isSo 96 = .ok (.lload_n 1, 1) := by decide +kernel
theorem dX5_isSo_97 : decode cX5_isSo 97 = .ok (.lload_n 3, 1) := by decide +kernel
theorem dX5_isSo_98 : decode cX5_isSo 98 = .ok (.lcmp, 1) := by decide +kernel
theorem dX5_isSo_99 : decode cX5_isSo 99 = .ok (.ifCond .gt 7, 3) := by decide +kernel
theorem dX5_isSo_102 : decode cX5_isSo 102 = .ok (.iconst 1, 1) := by decide +kernel
theorem dX5_isSo_103 : decode cX5_isSo 103 = .ok (.goto 4, 3) := by decide +kernel
theorem dX5_isSo_106 : decode cX5_isSo 106 = .ok (.iconst 0, 1) := by decide +kernel
theorem dX5_isSo_107 : decode cX5_isSo 107 = .ok (.ireturn, 1) := by decide +kernel
theorem dX5_isInt_0 : decode cX5_isInt 0 = .ok (.iload_n 1, 1) := by decide +kernel
theorem dX5_isInt_1 : decode cX5_isInt 1 = .ok (.i2l, 1) := by decide +kernel
theorem dX5_isInt_2 : decode cX5_isInt 2 = .ok (.bipush 8, 2) := by decide +kernel
theorem dX5_isInt_4 : decode cX5_isInt 4 = .ok (.invokestatic 40, 3) := by decide +kernel
theorem dX5_isInt_7 : decode cX5_isInt 7 = .ok (.ifCond .eq 16, 3) := by decide +kernel
theorem dX5_isInt_10 : decode cX5_isInt 10 = .ok (.aload_n 0, 1) := by decide +kernel
theorem dX5_isInt_11 : decode cX5_isInt 11 = .ok (.getfield 9, 3) := by decide +kernel
theorem dX5_isInt_14 : decode cX5_isInt 14 = .ok (.iload_n 1, 1) := by decide +kernel
theorem dX5_isInt_15 : decode cX5_isInt 15 = .ok (.iaload, 1) := by decide +kernel
theorem dX5_isInt_16 : decode cX5_isInt 16 = .ok (.ifCond .ne 7, 3) := by decide +kernel
theorem dX5_isInt_19 : decode cX5_isInt 19 = .ok (.iconst 1, 1) := by decide +kernel
theorem dX5_isInt_20 : decode cX5_isInt 20 = .ok (.goto 4, 3) := by decide +kernel
theorem dX5_isInt_23 : decode cX5_isInt 23 = .ok (.iconst 0, 1) := by decide +kernel
theorem dX5_isInt_24 : decode cX5_isInt 24 = .ok (.ireturn, 1) := by decide +kernel
theorem dX5_put_0 : decode cX5_put 0 = .ok (.aload_n 0, 1) := by decide +kernel
theorem dX5_put_1 : decode cX5_put 1 = .ok (.getfield 9, 3) := by decide +kernel
theorem dX5_put_4 : decode cX5_put 4 = .ok (.iload_n 1, 1) := by decide +kernel
theorem dX5_put_5 : decode cX5_put 5 = .ok (.iload_n 2, 1) := by decide +kernel
theorem dX5_put_6 : decode cX5_put 6 = .ok (.iastore, 1) := by decide +kernel
theorem dX5_put_7 : decode cX5_put 7 = .ok (.aload_n 0, 1) := by decide +kernel
theorem dX5_put_8 : decode cX5_put 8 = .ok (.getfield 13, 3) := by decide +kernel
theorem dX5_put_11 : decode cX5_put 11 = .ok (.iload_n 1, 1) := by decide +kernel
theorem dX5_put_12 : decode cX5_put 12 = .ok (.lload_n 3, 1) := by decide +kernel
theorem dX5_put_13 : decode cX5_put 13 = .ok (.lastore, 1) := by decide +kernel
theorem dX5_put_14 : decode cX5_put 14 = .ok (.aload_n 0, 1) := by decide +kernel
theorem dX5_put_15 : decode cX5_put 15 = .ok (.getfield 17, 3) := by decide +kernel
theorem dX5_put_18 : decode cX5_put 18 = .ok (.iload_n 1, 1) := by decide +kernel
theorem dX5_put_19 : decode cX5_put 19 = .ok (.iload 5, 2) := by decide +kernel
theorem dX5_put_21 : decode cX5_put 21 = .ok (.iastore, 1) := by decide +kernel
theorem dX5_put_22 : decode cX5_put 22 = .ok (.return_, 1) := by decide +kernel
theorem dX5_failed_0 : decode cX5_failed 0 = .ok (.aload_n 0, 1) := by decide +kernel
theorem dX5_failed_1 : decode cX5_failed 1 = .ok (.dup, 1) := by decide +kernel
theorem dX5_failed_2 : decode cX5_failed 2 = .ok (.getfield 167, 3) := by decide +kernel
theorem dX5_failed_5 : decode cX5_failed 5 = .ok (.iconst 1, 1) := by decide +kernel
theorem dX5_failed_6 : decode cX5_failed 6 = .ok (.iadd, 1) := by decide +kernel
theorem dX5_failed_7 : decode cX5_failed 7 = .ok (.putfield 167, 3) := by decide +kernel
theorem dX5_failed_10 : decode cX5_failed 10 = .ok (.iload_n 1, 1) := by decide +kernel
theorem dX5_failed_11 : decode cX5_failed 11 = .ok (.ireturn, 1) := by decide +kernel
theorem dX5_giveUp_0 : decode cX5_giveUp 0 = .ok (.aload_n 0, 1) := by decide +kernel
theorem dX5_giveUp_1 : decode cX5_giveUp 1 = .ok (.getfield 17, 3) := by decide +kernel
theorem dX5_giveUp_4 : decode cX5_giveUp 4 = .ok (.iload_n 1, 1) := by decide +kernel
theorem dX5_giveUp_5 : decode cX5_giveUp 5 = .ok (.iaload, 1) := by decide +kernel
theorem dX5_giveUp_6 : decode cX5_giveUp 6 = .ok (.bipush 63, 2) := by decide +kernel
theorem dX5_giveUp_8 : decode cX5_giveUp 8 = .ok (.iand, 1) := by decide +kernel
theorem dX5_giveUp_9 : decode cX5_giveUp 9 = .ok (.istore_n 3, 1) := by decide +kernel
theorem dX5_giveUp_10 : decode cX5_giveUp 10 = .ok (.iload_n 3, 1) := by decide +kernel
theorem dX5_giveUp_11 : decode cX5_giveUp 11 = .ok (.ifCond .eq 21, 3) := by decide +kernel
theorem dX5_giveUp_14 : decode cX5_giveUp 14 = .ok (.aload_n 0, 1) := by decide +kernel
theorem dX5_giveUp_15 : decode cX5_giveUp 15 = .ok (.getfield 32, 3) := by decide +kernel
theorem dX5_giveUp_18 : decode cX5_giveUp 18 = .ok (.iload_n 2, 1) := by decide +kernel
theorem dX5_giveUp_19 : decode cX5_giveUp 19 = .ok (.iload_n 3, 1) := by decide +kernel
theorem dX5_giveUp_20 : decode cX5_giveUp 20 = .ok (.iconst 0, 1) := by decide +kernel
theorem dX5_giveUp_21 : decode cX5_giveUp 21 = .ok (.invokevirtual 154, 3) := by decide +kernel
theorem dX5_giveUp_24 : decode cX5_giveUp 24 = .ok (.aload_n 0, 1) := by decide +kernel
theorem dX5_giveUp_25 : decode cX5_giveUp 25 = .ok (.getfield 17, 3) := by decide +kernel
theorem dX5_giveUp_28 : decode cX5_giveUp 28 = .ok (.iload_n 1, 1) := by decide +kernel
theorem dX5_giveUp_29 : decode cX5_giveUp 29 = .ok (.bipush 64, 2) := by decide +kernel
theorem dX5_giveUp_31 : decode cX5_giveUp 31 = .ok (.iastore, 1) := by decide +kernel
theorem dX5_giveUp_32 : decode cX5_giveUp 32 = .ok (.return_, 1) := by decide +kernel
theorem dX5_shadowOfTwo_0 : decode cX5_shadowOfTwo 0 = .ok (.aload_n 0, 1) := by decide +kernel
theorem dX5_shadowOfTwo_1 : decode cX5_shadowOfTwo 1 = .ok (.getfield 9, 3) := by decide +kernel
theorem dX5_shadowOfTwo_4 : decode cX5_shadowOfTwo 4 = .ok (.iload_n 2, 1) := by decide +kernel
theorem dX5_shadowOfTwo_5 : decode cX5_shadowOfTwo 5 = .ok (.iaload, 1) := by decide +kernel
theorem dX5_shadowOfTwo_6 : decode cX5_shadowOfTwo 6 = .ok (.invokestatic 82, 3) := by decide +kernel
theorem dX5_shadowOfTwo_9 : decode cX5_shadowOfTwo 9 = .ok (.ifCond .eq 25, 3) := by decide +kernel
theorem dX5_shadowOfTwo_12 : decode cX5_shadowOfTwo 12 = .ok (.iload_n 1, 1) := by decide +kernel
theorem dX5_shadowOfTwo_13 : decode cX5_shadowOfTwo 13 = .ok (.invokestatic 186, 3) := by decide +kernel
theorem dX5_shadowOfTwo_16 : decode cX5_shadowOfTwo 16 = .ok (.ifCond .eq 18, 3) := by decide +kernel
theorem dX5_shadowOfTwo_19 : decode cX5_shadowOfTwo 19 = .ok (.aload_n 0, 1) := by decide +kernel
theorem dX5_shadowOfTwo_20 : decode cX5_shadowOfTwo 20 = .ok (.iload_n 2, 1) := by decide +kernel
theorem dX5_shadowOfTwo_21 : decode cX5_shadowOfTwo 21 = .ok (.iload_n 1, 1) := by decide +kernel
theorem dX5_shadowOfTwo_22 : decode cX5_shadowOfTwo 22 = .ok (.invokevirtual 110, 3) := by decide +kernel
theorem dX5_shadowOfTwo_25 : decode cX5_shadowOfTwo 25 = .ok (.aload_n 0, 1) := by decide +kernel
theorem dX5_shadowOfTwo_26 : decode cX5_shadowOfTwo 26 = .ok (.iload_n 3, 1) := by decide +kernel
theorem dX5_shadowOfTwo_27 : decode cX5_shadowOfTwo 27 = .ok (.iload_n 1, 1) := by decide +kernel
theorem dX5_shadowOfTwo_28 : decode cX5_shadowOfTwo 28 = .ok (.invokevirtual 110, 3) := by decide +kernel
theorem dX5_shadowOfTwo_31 : decode cX5_shadowOfTwo 31 = .ok (.bipush 64, 2) := by decide +kernel
theorem dX5_shadowOfTwo_33 : decode cX5_shadowOfTwo 33 = .ok (.ireturn, 1) := by decide +kernel
theorem dX5_shadowOfTwo_34 : decode cX5_shadowOfTwo 34 = .ok (.aload_n 0, 1) := by decide +kernel
theorem dX5_shadowOfTwo_35 : decode cX5_shadowOfTwo 35 = .ok (.getfield 17, 3) := by decide +kernel
theorem dX5_shadowOfTwo_38 : decode cX5_shadowOfTwo 38 = .ok (.iload_n 2, 1) := by decide +kernel
theorem dX5_shadowOfTwo_39 : decode cX5_shadowOfTwo 39 = .ok (.iaload, 1) := by decide +kernel
theorem dX5_shadowOfTwo_40 : decode cX5_shadowOfTwo 40 = .ok (.aload_n 0, 1) := by decide +kernel
theorem dX5_shadowOfTwo_41 : decode cX5_shadowOfTwo 41 = .ok (.getfield 17, 3) := by decide +kernel
theorem dX5_shadowOfTwo_44 : decode cX5_shadowOfTwo 44 = .ok (.iload_n 3, 1) := by decide +kernel
theorem dX5_shadowOfTwo_45 : decode cX5_shadowOfTwo 45 = .ok (.iaload, 1) := by decide +kernel
theorem dX5_shadowOfTwo_46 : decode cX5_shadowOfTwo 46 = .ok (.invokestatic 151, 3) := by decide +kernel
theorem dX5_shadowOfTwo_49 : decode cX5_shadowOfTwo 49 = .ok (.istore 4, 2) := by decide +kernel
theorem dX5_shadowOfTwo_51 : decode cX5_shadowOfTwo 51 = .ok (.aload_n 0, 1) := by decide +kernel
theorem dX5_shadowOfTwo_52 : decode cX5_shadowOfTwo 52 = .ok (.getfield 17, 3) := by decide +kernel
theorem dX5_shadowOfTwo_55 : decode cX5_shadowOfTwo 55 = .ok (.iload_n 2, 1) := by decide +kernel
theorem dX5_shadowOfTwo_56 : decode cX5_shadowOfTwo 56 = .ok (.iaload, 1) := by decide +kernel
theorem dX5_shadowOfTwo_57 : decode cX5_shadowOfTwo 57 = .ok (.bipush 63, 2) := by decide +kernel
theorem dX5_shadowOfTwo_59 : decode cX5_shadowOfTwo 59 = .ok (.iand, 1) := by decide +kernel
theorem dX5_shadowOfTwo_60 : decode cX5_shadowOfTwo 60 = .ok (.ifCond .eq 19, 3) := by decide +kernel
theorem dX5_shadowOfTwo_63 : decode cX5_shadowOfTwo 63 = .ok (.aload_n 0, 1) := by decide +kernel
theorem dX5_shadowOfTwo_64 : decode cX5_shadowOfTwo 64 = .ok (.getfield 17, 3) := by decide +kernel
theorem dX5_shadowOfTwo_67 : decode cX5_shadowOfTwo 67 = .ok (.iload_n 3, 1) := by decide +kernel
theorem dX5_shadowOfTwo_68 : decode cX5_shadowOfTwo 68 = .ok (.iaload, 1) := by decide +kernel
theorem dX5_shadowOfTwo_69 : decode cX5_shadowOfTwo 69 = .ok (.bipush 63, 2) := by decide +kernel
theorem dX5_shadowOfTwo_71 : decode cX5_shadowOfTwo 71 = .ok (.iand, 1) := by decide +kernel
theorem dX5_shadowOfTwo_72 : decode cX5_shadowOfTwo 72 = .ok (.ifCond .eq 7, 3) := by decide +kernel
theorem dX5_shadowOfTwo_75 : decode cX5_shadowOfTwo 75 = .ok (.iconst 1, 1) := by decide +kernel
theorem dX5_shadowOfTwo_76 : decode cX5_shadowOfTwo 76 = .ok (.goto 4, 3) := by decide +kernel
theorem dX5_shadowOfTwo_79 : decode cX5_shadowOfTwo 79 = .ok (.iconst 0, 1) := by decide +kernel
theorem dX5_shadowOfTwo_80 : decode cX5_shadowOfTwo 80 = .ok (.istore 5, 2) := by decide +kernel
theorem dX5_shadowOfTwo_82 : decode cX5_shadowOfTwo 82 = .ok (.iload 5, 2) := by decide +kernel
theorem dX5_shadowOfTwo_84 : decode cX5_shadowOfTwo 84 = .ok (.ifCond .eq 18, 3) := by decide +kernel
theorem dX5_shadowOfTwo_87 : decode cX5_shadowOfTwo 87 = .ok (.iload_n 1, 1) := by decide +kernel
theorem dX5_shadowOfTwo_88 : decode cX5_shadowOfTwo 88 = .ok (.invokestatic 189, 3) := by decide +kernel
theorem dX5_shadowOfTwo_91 : decode cX5_shadowOfTwo 91 = .ok (.ifCond .eq 11, 3) := by decide +kernel
theorem dX5_shadowOfTwo_94 : decode cX5_shadowOfTwo 94 = .ok (.iload 4, 2) := by decide +kernel
theorem dX5_shadowOfTwo_96 : decode cX5_shadowOfTwo 96 = .ok (.invokestatic 62, 3) := by decide +kernel
theorem dX5_shadowOfTwo_99 : decode cX5_shadowOfTwo 99 = .ok (.goto 5, 3) := by decide +kernel
theorem dX5_shadowOfTwo_102 : decode cX5_shadowOfTwo 102 = .ok (.iload 4, 2) := by decide +kernel
theorem dX5_shadowOfTwo_104 : decode cX5_shadowOfTwo 104 = .ok (.ireturn, 1) := by decide +kernel
theorem dX5_dependentRegisters_0 : decode cX5_dependentRegisters 0 = .ok (.iconst 0, 1) := by decide +kernel
theorem dX5_dependentRegisters_1 : decode cX5_dependentRegisters 1 = .ok (.istore_n 1, 1) := by decide +kernel
theorem dX5_dependentRegisters_2 : decode cX5_dependentRegisters 2 = .ok (.iconst 0, 1) := by decide +kernel
theorem dX5_dependentRegisters_3 : decode cX5_dependentRegisters 3 = .ok (.istore_n 2, 1) := by decide +kernel
theorem dX5_dependentRegisters_4 : decode cX5_dependentRegisters 4 = .ok (.iload_n 2, 1) := by decide +kernel
theorem dX5_dependentRegisters_5 : decode cX5_dependentRegisters 5 = .ok (.bipush 8, 2) := by decide +kernel
theorem dX5_dependentRegisters_7 : decode cX5_dependentRegisters 7 = .ok (.if_icmp .ge 24, 3) := by decide +kernel
theorem dX5_dependentRegisters_10 : decode cX5_dependentRegisters 10 = .ok (.aload_n 0, 1) := by decide +kernel
theorem dX5_dependentRegisters_11 : decode cX5_dependentRegisters 11 = .ok (.getfield 17, 3) := by decide +kernel
theorem dX5_dependentRegisters_14 : decode cX5_dependentRegisters 14 = .ok (.iload_n 2, 1) := by decide +kernel
theorem dX5_dependentRegisters_15 : decode cX5_dependentRegisters 15 = .ok (.iaload, 1) := by decide +kernel
theorem dX5_dependentRegisters_16 : decode cX5_dependentRegisters 16 = .ok (.bipush 63, 2) := by decide +kernel
theorem dX5_dependentRegisters_18 : decode cX5_dependentRegisters 18 = .ok (.iand, 1) := by decide +kernel
theorem dX5_dependentRegisters_19 : decode cX5_dependentRegisters 19 = .ok (.ifCond .eq 6, 3) := by decide +kernel
theorem dX5_dependentRegisters_22 : decode cX5_dependentRegisters 22 = .ok (.iinc 1 1, 3) := by decide +kernel
theorem dX5_dependentRegisters_25 : decode cX5_dependentRegisters 25 = .ok (.iinc 2 1, 3) := by decide +kernel
theorem dX5_dependentRegisters_28 : decode cX5_dependentRegisters 28 = .ok (.goto (-24), 3) := by decide +kernel
theorem dX5_dependentRegisters_31 : decode cX5_dependentRegisters 31 = .ok (.iload_n 1, 1) := by decide +kernel
theorem dX5_dependentRegisters_32 : decode cX5_dependentRegisters 32 = .ok (.ireturn, 1) := by decide +kernel
theorem dX5_unheld_0 : decode cX5_unheld 0 = .ok (.aload_n 0, 1) := by decide +kernel
theorem dX5_unheld_1 : decode cX5_unheld 1 = .ok (.getfield 26, 3) := by decide +kernel
theorem dX5_unheld_4 : decode cX5_unheld 4 = .ok (.iconst 0, 1) := by decide +kernel
theorem dX5_unheld_5 : decode cX5_unheld 5 = .ok (.aaload, 1) := by decide +kernel
theorem dX5_unheld_6 : decode cX5_unheld 6 = .ok (.astore_n 1, 1) := by decide +kernel
theorem dX5_unheld_7 : decode cX5_unheld 7 = .ok (.iconst 1, 1) := by decide +kernel
theorem dX5_unheld_8 : decode cX5_unheld 8 = .ok (.istore_n 2, 1) := by decide +kernel
theorem dX5_unheld_9 : decode cX5_unheld 9 = .ok (.iload_n 2, 1) := by decide +kernel
theorem dX5_unheld_10 : decode cX5_unheld 10 = .ok (.iconst 4, 1) := by decide +kernel
theorem dX5_unheld_11 : decode cX5_unheld 11 = .ok (.if_icmp .ge 29, 3) := by decide +kernel
theorem dX5_unheld_14 : decode cX5_unheld 14 = .ok (.aload_n 0, 1) := by decide +kernel
theorem dX5_unheld_15 : decode cX5_unheld 15 = .ok (.aload_n 0, 1) := by decide +kernel
theorem dX5_unheld_16 : decode cX5_unheld 16 = .ok (.getfield 26, 3) := by decide +kernel
theorem dX5_unheld_19 : decode cX5_unheld 19 = .ok (.iload_n 2, 1) := by decide +kernel
theorem dX5_unheld_20 : decode cX5_unheld 20 = .ok (.aaload, 1) := by decide +kernel
theorem dX5_unheld_21 : decode cX5_unheld 21 = .ok (.invokevirtual 192, 3) := by decide +kernel
theorem dX5_unheld_24 : decode cX5_unheld 24 = .ok (.ifCond .ne 10, 3) := by decide +kernel
theorem dX5_unheld_27 : decode cX5_unheld 27 = .ok (.aload_n 0, 1) := by decide +kernel
theorem dX5_unheld_28 : decode cX5_unheld 28 = .ok (.getfield 26, 3) := by decide +kernel
theorem dX5_unheld_31 : decode cX5_unheld 31 = .ok (.iload_n 2, 1) := by decide +kernel
theorem dX5_unheld_32 : decode cX5_unheld 32 = .ok (.aaload, 1) := by decide +kernel
theorem dX5_unheld_33 : decode cX5_unheld 33 = .ok (.astore_n 1, 1) := by decide +kernel
theorem dX5_unheld_34 : decode cX5_unheld 34 = .ok (.iinc 2 1, 3) := by decide +kernel
theorem dX5_unheld_37 : decode cX5_unheld 37 = .ok (.goto (-28), 3) := by decide +kernel
theorem dX5_unheld_40 : decode cX5_unheld 40 = .ok (.aload_n 1, 1) := by decide +kernel
theorem dX5_unheld_41 : decode cX5_unheld 41 = .ok (.areturn, 1) := by decide +kernel
theorem dX5_isHeld_0 : decode cX5_isHeld 0 = .ok (.iconst 0, 1) := by decide +kernel
theorem dX5_isHeld_1 : decode cX5_isHeld 1 = .ok (.istore_n 2, 1) := by decide +kernel
theorem dX5_isHeld_2 : decode cX5_isHeld 2 = .ok (.iload_n 2, 1) := by decide +kernel
theorem dX5_isHeld_3 : decode cX5_isHeld 3 = .ok (.iconst 4, 1) := by decide +kernel
theorem dX5_isHeld_4 : decode cX5_isHeld 4 = .ok (.if_icmp .ge 21, 3) := by decide +kernel
theorem dX5_isHeld_7 : decode cX5_isHeld 7 = .ok (.aload_n 0, 1) := by decide +kernel
theorem dX5_isHeld_8 : decode cX5_isHeld 8 = .ok (.getfield 22, 3) := by decide +kernel
theorem dX5_isHeld_11 : decode cX5_isHeld 11 = .ok (.iload_n 2, 1) := by decide +kernel
theorem dX5_isHeld_12 : decode cX5_isHeld 12 = .ok (.aaload, 1) := by decide +kernel
theorem dX5_isHeld_13 : decode cX5_isHeld 13 = .ok (.aload_n 1, 1) := by decide +kernel
theorem dX5_isHeld_14 : decode cX5_isHeld 14 = .ok (.if_acmp .ne 5, 3) := by decide +kernel
theorem dX5_isHeld_17 : decode cX5_isHeld 17 = .ok (.iconst 1, 1) := by decide +kernel
theorem dX5_isHeld_18 : decode cX5_isHeld 18 = .ok (.ireturn, 1) := by decide +kernel
theorem dX5_isHeld_19 : decode cX5_isHeld 19 = .ok (.iinc 2 1, 3) := by decide +kernel
theorem dX5_isHeld_22 : decode cX5_isHeld 22 = .ok (.goto (-20), 3) := by decide +kernel
theorem dX5_isHeld_25 : decode cX5_isHeld 25 = .ok (.iconst 0, 1) := by decide +kernel
theorem dX5_isHeld_26 : decode cX5_isHeld 26 = .ok (.ireturn, 1) := by decide +kernel
theorem dX6_init_0 : decode cX6_init 0 = .ok (.aload_n 0, 1) := by decide +kernel
theorem dX6_init_1 : decode cX6_init 1 = .ok (.invokespecial 1, 3) := by decide +kernel
theorem dX6_init_4 : decode cX6_init 4 = .ok (.aload_n 0, 1) := by decide +kernel
theorem dX6_init_5 : decode cX6_init 5 = .ok (.bipush 8, 2) := by decide +kernel
theorem dX6_init_7 : decode cX6_init 7 = .ok (.newarray .int, 2) := by decide +kernel
theorem dX6_init_9 : decode cX6_init 9 = .ok (.putfield 7, 3) := by decide +kernel
theorem dX6_init_12 : decode cX6_init 12 = .ok (.aload_n 0, 1) := by decide +kernel
theorem dX6_init_13 : decode cX6_init 13 = .ok (.bipush 56, 2) := by decide +kernel
theorem dX6_init_15 : decode cX6_init 15 = .ok (.newarray .int, 2) := by decide +kernel
theorem dX6_init_17 : decode cX6_init 17 = .ok (.putfield 13, 3) := by decide +kernel
theorem dX6_init_20 : decode cX6_init 20 = .ok (.aload_n 0, 1) := by decide +kernel
theorem dX6_init_21 : decode cX6_init 21 = .ok (.bipush 56, 2) := by decide +kernel
theorem dX6_init_23 : decode cX6_init 23 = .ok (.newarray .long, 2) := by decide +kernel
theorem dX6_init_25 : decode cX6_init 25 = .ok (.putfield 16, 3) := by decide +kernel
theorem dX6_init_28 : decode cX6_init 28 = .ok (.aload_n 0, 1) := by decide +kernel
theorem dX6_init_29 : decode cX6_init 29 = .ok (.bipush 56, 2) := by decide +kernel
theorem dX6_init_31 : decode cX6_init 31 = .ok (.newarray .boolean, 2) := by decide +kernel
theorem dX6_init_33 : decode cX6_init 33 = .ok (.putfield 20, 3) := by decide +kernel
theorem dX6_init_36 : decode cX6_init 36 = .ok (.aload_n 0, 1) := by decide +kernel
theorem dX6_init_37 : decode cX6_init 37 = .ok (.iconst 4, 1) := by decide +kernel
theorem dX6_init_38 : decode cX6_init 38 = .ok (.newarray .int, 2) := by decide +kernel
theorem dX6_init_40 : decode cX6_init 40 = .ok (.putfield 24, 3) := by decide +kernel
theorem dX6_init_43 : decode cX6_init 43 = .ok (.aload_n 0, 1) := by decide +kernel
theorem dX6_init_44 : decode cX6_init 44 = .ok (.iconst 4, 1) := by decide +kernel
theorem dX6_init_45 : decode cX6_init 45 = .ok (.newarray .int, 2) := by decide +kernel
theorem dX6_init_47 : decode cX6_init 47 = .ok (.putfield 27, 3) := by decide +kernel
theorem dX6_init_50 : decode cX6_init 50 = .ok (.aload_n 0, 1) := by decide +kernel
theorem dX6_init_51 : decode cX6_init 51 = .ok (.iconst 4, 1) := by decide +kernel
theorem dX6_init_52 : decode cX6_init 52 = .ok (.newarray .int, 2) := by decide +kernel
theorem dX6_init_54 : decode cX6_init 54 = .ok (.putfield 30, 3) := by decide +kernel
theorem dX6_init_57 : decode cX6_init 57 = .ok (.aload_n 0, 1) := by decide +kernel
theorem dX6_init_58 : decode cX6_init 58 = .ok (.bipush 16, 2) := by decide +kernel
theorem dX6_init_60 : decode cX6_init 60 = .ok (.newarray .int, 2) := by decide +kernel
theorem dX6_init_62 : decode cX6_init 62 = .ok (.putfield 33, 3) := by decide +kernel
theorem dX6_init_65 : decode cX6_init 65 = .ok (.aload_n 0, 1) := by decide +kernel
theorem dX6_init_66 : decode cX6_init 66 = .ok (.bipush 16, 2) := by decide +kernel
theorem dX6_init_68 : decode cX6_init 68 = .ok (.newarray .int, 2) := by decide +kernel
theorem dX6_init_70 : decode cX6_init 70 = .ok (.putfield 36, 3) := by decide +kernel
theorem dX6_init_73 : decode cX6_init 73 = .ok (.aload_n 0, 1) := by decide +kernel
theorem dX6_init_74 : decode cX6_init 74 = .ok (.bipush 16, 2) := by decide +kernel
theorem dX6_init_76 : decode cX6_init 76 = .ok (.newarray .int, 2) := by decide +kernel
theorem dX6_init_78 : decode cX6_init 78 = .ok (.putfield 39, 3) := by decide +kernel
theorem dX6_init_81 : decode cX6_init 81 = .ok (.aload_n 0, 1) := by decide +kernel
theorem dX6_init_82 : decode cX6_init 82 = .ok (.bipush 16, 2) := by decide +kernel
theorem dX6_init_84 : decode cX6_init 84 = .ok (.newarray .int, 2) := by decide +kernel
theorem dX6_init_86 : decode cX6_init 86 = .ok (.putfield 42, 3) := by decide +kernel
theorem dX6_init_89 : decode cX6_init 89 = .ok (.aload_n 0, 1) := by decide +kernel
theorem dX6_init_90 : decode cX6_init 90 = .ok (.bipush 16, 2) := by decide +kernel
theorem dX6_init_92 : decode cX6_init 92 = .ok (.newarray .int, 2) := by decide +kernel
theorem dX6_init_94 : decode cX6_init 94 = .ok (.putfield 45, 3) := by decide +kernel
theorem dX6_init_97 : decode cX6_init 97 = .ok (.aload_n 0, 1) := by decide +kernel
theorem dX6_init_98 : decode cX6_init 98 = .ok (.iconst 0, 1) := by decide +kernel
theorem dX6_init_99 : decode cX6_init 99 = .ok (.putfield 48, 3) := by decide +kernel
theorem dX6_init_102 : decode cX6_init 102 = .ok (.aload_n 0, 1) := by decide +kernel
theorem dX6_init_103 : decode cX6_init 103 = .ok (.iconst 0, 1) := by decide +kernel
theorem dX6_init_104 : decode cX6_init 104 = .ok (.putfield 52, 3) := by decide +kernel
theorem dX6_init_107 : decode cX6_init 107 = .ok (.aload_n 0, 1) := by decide +kernel
theorem dX6_init_108 : decode cX6_init 108 = .ok (.iconst 0, 1) := by decide +kernel
theorem dX6_init_109 : decode cX6_init 109 = .ok (.putfield 55, 3) := by decide +kernel
theorem dX6_init_112 : decode cX6_init 112 = .ok (.aload_n 0, 1) := by decide +kernel
theorem dX6_init_113 : decode cX6_init 113 = .ok (.bipush 24, 2) := by decide +kernel
theorem dX6_init_115 : decode cX6_init 115 = .ok (.newarray .int, 2) := by decide +kernel
theorem dX6_init_117 : decode cX6_init 117 = .ok (.putfield 58, 3) := by decide +kernel
theorem dX6_init_120 : decode cX6_init 120 = .ok (.aload_n 0, 1) := by decide +kernel
theorem dX6_init_121 : decode cX6_init 121 = .ok (.bipush 12, 2) := by decide +kernel
theorem dX6_init_123 : decode cX6_init 123 = .ok (.newarray .long, 2) := by decide +kernel
theorem dX6_init_125 : decode cX6_init 125 = .ok (.putfield 61, 3) := by decide +kernel
theorem dX6_init_128 : decode cX6_init 128 = .ok (.aload_n 0, 1) := by decide +kernel
theorem dX6_init_129 : decode cX6_init 129 = .ok (.iconst 2, 1) := by decide +kernel
theorem dX6_init_130 : decode cX6_init 130 = .ok (.newarray .int, 2) := by decide +kernel
theorem dX6_init_132 : decode cX6_init 132 = .ok (.putfield 64, 3) := by decide +kernel
theorem dX6_init_135 : decode cX6_init 135 = .ok (.aload_n 0, 1) := by decide +kernel
theorem dX6_init_136 : decode cX6_init 136 = .ok (.iconst 2, 1) := by decide +kernel
theorem dX6_init_137 : decode cX6_init 137 = .ok (.newarray .int, 2) := by decide +kernel
theorem dX6_init_139 : decode cX6_init 139 = .ok (.putfield 67, 3) := by decide +kernel
theorem dX6_init_142 : decode cX6_init 142 = .ok (.aload_n 0, 1) := by decide +kernel
theorem dX6_init_143 : decode cX6_init 143 = .ok (.iconst 2, 1) := by decide +kernel
theorem dX6_init_144 : decode cX6_init 144 = .ok (.newarray .boolean, 2) := by decide +kernel
theorem dX6_init_146 : decode cX6_init 146 = .ok (.putfield 70, 3) := by decide +kernel
theorem dX6_init_149 : decode cX6_init 149 = .ok (.aload_n 0, 1) := by decide +kernel
theorem dX6_init_150 : decode cX6_init 150 = .ok (.iconst 2, 1) := by decide +kernel
theorem dX6_init_151 : decode cX6_init 151 = .ok (.newarray .long, 2) := by decide +kernel
theorem dX6_init_153 : decode cX6_init 153 = .ok (.putfield 73, 3) := by decide +kernel
theorem dX6_init_156 : decode cX6_init 156 = .ok (.iconst 0, 1) := by decide +kernel
theorem dX6_init_157 : decode cX6_init 157 = .ok (.istore_n 1, 1) := by decide +kernel
theorem dX6_init_158 : decode cX6_init 158 = .ok (.iload_n 1, 1) := by decide +kernel
theorem dX6_init_159 : decode cX6_init 159 = .ok (.iconst 4, 1) := by decide +kernel
theorem dX6_init_160 : decode cX6_init 160 = .ok (.if_icmp .ge 16, 3) := by decide +kernel
theorem dX6_init_163 : decode cX6_init 163 = .ok (.aload_n 0, 1) := by decide +kernel
theorem dX6_init_164 : decode cX6_init 164 = .ok (.getfield 24, 3) := by decide +kernel
theorem dX6_init_167 : decode cX6_init 167 = .ok (.iload_n 1, 1) := by decide +kernel
theorem dX6_init_168 : decode cX6_init 168 = .ok (.iconst (-1), 1) := by decide +kernel
theorem dX6_init_169 : decode cX6_init 169 = .ok (.iastore, 1) := by decide +kernel
theorem dX6_init_170 : decode cX6_init 170 = .ok (.iinc 1 1, 3) := by decide +kernel
theorem dX6_init_173 : decode cX6_init 173 = .ok (.goto (-15), 3) := by decide +kernel
theorem dX6_init_176 : decode cX6_init 176 = .ok (.iconst 0, 1) := by decide +kernel
theorem dX6_init_177 : decode cX6_init 177 = .ok (.istore_n 1, 1) := by decide +kernel
theorem dX6_init_178 : decode cX6_init 178 = .ok (.iload_n 1, 1) := by decide +kernel
theorem dX6_init_179 : decode cX6_init 179 = .ok (.bipush 56, 2) := by decide +kernel
theorem dX6_init_181 : decode cX6_init 181 = .ok (.if_icmp .ge 16, 3) := by decide +kernel
theorem dX6_init_184 : decode cX6_init 184 = .ok (.aload_n 0, 1) := by decide +kernel
theorem dX6_init_185 : decode cX6_init 185 = .ok (.getfield 20, 3) := by decide +kernel
theorem dX6_init_188 : decode cX6_init 188 = .ok (.iload_n 1, 1) := by decide +kernel
theorem dX6_init_189 : decode cX6_init 189 = .ok (.iconst 1, 1) := by decide +kernel
theorem dX6_init_190 : decode cX6_init 190 = .ok (.bastore, 1) := by decide +kernel
theorem dX6_init_191 : decode cX6_init 191 = .ok (.iinc 1 1, 3) := by decide +kernel
theorem dX6_init_194 : decode cX6_init 194 = .ok (.goto (-16), 3) := by decide +kernel
theorem dX6_init_197 : decode cX6_init 197 = .ok (.return_, 1) := by decide +kernel
theorem dX6_out_0 : decode cX6_out 0 = .ok (.iload_n 1, 1) := by decide +kernel
theorem dX6_out_1 : decode cX6_out 1 = .ok (.ifCond .lt 8, 3) := by decide +kernel
theorem dX6_out_4 : decode cX6_out 4 = .ok (.iload_n 1, 1) := by decide +kernel
theorem dX6_out_5 : decode cX6_out 5 = .ok (.iload_n 2, 1) := by decide +kernel
theorem dX6_out_6 : decode cX6_out 6 = .ok (.if_icmp .lt 7, 3) := by decide +kernel
theorem dX6_out_9 : decode cX6_out 9 = .ok (.iconst 1, 1) := by decide +kernel
theorem dX6_out_10 : decode cX6_out 10 = .ok (.goto 4, 3) := by decide +kernel
theorem dX6_out_13 : decode cX6_out 13 = .ok (.iconst 0, 1) := by decide +kernel
theorem dX6_out_14 : decode cX6_out 14 = .ok (.ireturn, 1) := by decide +kernel
theorem dX6_places_0 : decode cX6_places 0 = .ok (.iload_n 1, 1) := by decide +kernel
theorem dX6_places_1 : decode cX6_places 1 = .ok (.ifCond .eq 8, 3) := by decide +kernel
theorem dX6_places_4 : decode cX6_places 4 = .ok (.bipush 53, 2) := by decide +kernel
theorem dX6_places_6 : decode cX6_places 6 = .ok (.goto 5, 3) := by decide +kernel
theorem dX6_places_9 : decode cX6_places 9 = .ok (.bipush 24, 2) := by decide +kernel
theorem dX6_places_11 : decode cX6_places 11 = .ok (.ireturn, 1) := by decide +kernel
theorem dX6_least_0 : decode cX6_least 0 = .ok (.iload_n 1, 1) := by decide +kernel
theorem dX6_least_1 : decode cX6_least 1 = .ok (.ifCond .eq 9, 3) := by decide +kernel
theorem dX6_least_4 : decode cX6_least 4 = .ok (.sipush (-1074), 3) := by decide +kernel
theorem dX6_least_7 : decode cX6_least 7 = .ok (.goto 6, 3) := by decide +kernel
theorem dX6_least_10 : decode cX6_least 10 = .ok (.sipush (-149), 3) := by decide +kernel
theorem dX6_least_13 : decode cX6_least 13 = .ok (.ireturn, 1) := by decide +kernel
theorem dX6_none_0 : decode cX6_none 0 = .ok (.iload_n 1, 1) := by decide +kernel
theorem dX6_none_1 : decode cX6_none 1 = .ok (.ifCond .eq 9, 3) := by decide +kernel
theorem dX6_none_4 : decode cX6_none 4 = .ok (.ldc2_w 76, 3) := by decide +kernel
theorem dX6_none_7 : decode cX6_none 7 = .ok (.goto 6, 3) := by decide +kernel
theorem dX6_none_10 : decode cX6_none 10 = .ok (.ldc2_w 78, 3) := by decide +kernel
theorem dX6_none_13 : decode cX6_none 13 = .ok (.lreturn, 1) := by decide +kernel
theorem dX6_infinite_0 : decode cX6_infinite 0 = .ok (.iload_n 1, 1) := by decide +kernel
theorem dX6_infinite_1 : decode cX6_infinite 1 = .ok (.ifCond .eq 9, 3) := by decide +kernel
theorem dX6_infinite_4 : decode cX6_infinite 4 = .ok (.ldc2_w 80, 3) := by decide +kernel
theorem dX6_infinite_7 : decode cX6_infinite 7 = .ok (.goto 6, 3) := by decide +kernel
theorem dX6_infinite_10 : decode cX6_infinite 10 = .ok (.ldc2_w 82, 3) := by decide +kernel
theorem dX6_infinite_13 : decode cX6_infinite 13 = .ok (.lreturn, 1) := by decide +kernel
theorem dX6_signed_0 : decode cX6_signed 0 = .ok (.iload_n 1, 1) := by decide +kernel
theorem dX6_signed_1 : decode cX6_signed 1 = .ok (.ifCond .eq 17, 3) := by decide +kernel
theorem dX6_signed_4 : decode cX6_signed 4 = .ok (.iload_n 2, 1) := by decide +kernel
theorem dX6_signed_5 : decode cX6_signed 5 = .ok (.ifCond .eq 11, 3) := by decide +kernel
theorem dX6_signed_8 : decode cX6_signed 8 = .ok (.lload_n 3, 1) := by decide +kernel
theorem dX6_signed_9 : decode cX6_signed 9 = .ok (.ldc2_w 84, 3) := by decide +kernel
theorem dX6_signed_12 : decode cX6_signed 12 = .ok (.lor, 1) := by decide +kernel
theorem dX6_signed_13 : decode cX6_signed 13 = .ok (.goto 4, 3) := by decide +kernel
theorem dX6_signed_16 : decode cX6_signed 16 = .ok (.lload_n 3, 1) := by decide +kernel
theorem dX6_signed_17 : decode cX6_signed 17 = .ok (.lreturn, 1) := by decide +kernel
theorem dX6_signed_18 : decode cX6_signed 18 = .ok (.iload_n 2, 1) := by decide +kernel
theorem dX6_signed_19 : decode cX6_signed 19 = .ok (.ifCond .eq 13, 3) := by decide +kernel
theorem dX6_signed_22 : decode cX6_signed 22 = .ok (.lload_n 3, 1) := by decide +kernel
theorem dX6_signed_23 : decode cX6_signed 23 = .ok (.ldc2_w 86, 3) := by decide +kernel
theorem dX6_signed_26 : decode cX6_signed 26 = .ok (.lor, 1) := by decide +kernel
theorem dX6_signed_27 : decode cX6_signed 27 = .ok (.l2i, 1) := by decide +kernel
theorem dX6_signed_28 : decode cX6_signed 28 = .ok (.i2l, 1) := by decide +kernel
theorem dX6_signed_29 : decode cX6_signed 29 = .ok (.goto 4, 3) := by decide +kernel
theorem dX6_signed_32 : decode cX6_signed 32 = .ok (.lload_n 3, 1) := by decide +kernel
theorem dX6_signed_33 : decode cX6_signed 33 = .ok (.lreturn, 1) := by decide +kernel
theorem dX6_lengthOf_0 : decode cX6_lengthOf 0 = .ok (.iconst 0, 1) := by decide +kernel
theorem dX6_lengthOf_1 : decode cX6_lengthOf 1 = .ok (.istore_n 3, 1) := by decide +kernel
theorem dX6_lengthOf_2 : decode cX6_lengthOf 2 = .ok (.lload_n 1, 1) := by decide +kernel
theorem dX6_lengthOf_3 : decode cX6_lengthOf 3 = .ok (.lstore 4, 2) := by decide +kernel
theorem dX6_lengthOf_5 : decode cX6_lengthOf 5 = .ok (.lload 4, 2) := by decide +kernel
theorem dX6_lengthOf_7 : decode cX6_lengthOf 7 = .ok (.lconst 0, 1) := by decide +kernel
theorem dX6_lengthOf_8 : decode cX6_lengthOf 8 = .ok (.lcmp, 1) := by decide +kernel
theorem dX6_lengthOf_9 : decode cX6_lengthOf 9 = .ok (.ifCond .le 15, 3) := by decide +kernel
theorem dX6_lengthOf_12 : decode cX6_lengthOf 12 = .ok (.iinc 3 1, 3) := by decide +kernel
theorem dX6_lengthOf_15 : decode cX6_lengthOf 15 = .ok (.lload 4, 2) := by decide +kernel
theorem dX6_lengthOf_17 : decode cX6_lengthOf 17 = .ok (.iconst 1, 1) := by decide +kernel
theorem dX6_lengthOf_18 : decode cX6_lengthOf 18 = .ok (.lshr, 1) := by decide +kernel
theorem dX6_lengthOf_19 : decode cX6_lengthOf 19 = .ok (.lstore 4, 2) := by decide +kernel
theorem dX6_lengthOf_21 : decode cX6_lengthOf 21 = .ok (.goto (-16), 3) := by decide +kernel
theorem dX6_lengthOf_24 : decode cX6_lengthOf 24 = .ok (.iload_n 3, 1) := by decide +kernel
theorem dX6_lengthOf_25 : decode cX6_lengthOf 25 = .ok (.ireturn, 1) := by decide +kernel
theorem dX6_take_0 : decode cX6_take 0 = .ok (.aload_n 0, 1) := by decide +kernel
theorem dX6_take_1 : decode cX6_take 1 = .ok (.iload 4, 2) := by decide +kernel
theorem dX6_take_3 : decode cX6_take 3 = .ok (.invokevirtual 88, 3) := by decide +kernel
theorem dX6_take_6 : decode cX6_take 6 = .ok (.iconst 1, 1) := by decide +kernel
theorem dX6_take_7 : decode cX6_take 7 = .ok (.isub, 1) := by decide +kernel
theorem dX6_take_8 : decode cX6_take 8 = .ok (.istore 5, 2) := by decide +kernel
theorem dX6_take_10 : decode cX6_take 10 = .ok (.iload 4, 2) := by decide +kernel
theorem dX6_take_12 : decode cX6_take 12 = .ok (.ifCond .eq 11, 3) := by decide +kernel
theorem dX6_take_15 : decode cX6_take 15 = .ok (.lload_n 2, 1) := by decide +kernel
theorem dX6_take_16 : decode cX6_take 16 = .ok (.ldc2_w 92, 3) := by decide +kernel
theorem dX6_take_19 : decode cX6_take 19 = .ok (.land, 1) := by decide +kernel
theorem dX6_take_20 : decode cX6_take 20 = .ok (.goto 8, 3) := by decide +kernel
theorem dX6_take_23 : decode cX6_take 23 = .ok (.lload_n 2, 1) := by decide +kernel
theorem dX6_take_24 : decode cX6_take 24 = .ok (.ldc2_w 94, 3) := by decide +kernel
theorem dX6_take_27 : decode cX6_take 27 = .ok (.land, 1) := by decide +kernel
theorem dX6_take_28 : decode cX6_take 28 = .ok (.lstore 6, 2) := by decide +kernel
theorem dX6_take_30 : decode cX6_take 30 = .ok (.lload 6, 2) := by decide +kernel
theorem dX6_take_32 : decode cX6_take 32 = .ok (.lconst 1, 1) := by decide +kernel
theorem dX6_take_33 : decode cX6_take 33 = .ok (.iload 5, 2) := by decide +kernel
theorem dX6_take_35 : decode cX6_take 35 = .ok (.lshl, 1) := by decide +kernel
theorem dX6_take_36 : decode cX6_take 36 = .ok (.lconst 1, 1) := by decide +kernel
theorem dX6_take_37 : decode cX6_take 37 = .ok (.lsub, 1) := by decide +kernel
theorem dX6_take_38 : decode cX6_take 38 = .ok (.land, 1) := by decide +kernel
theorem dX6_take_39 : decode cX6_take 39 = .ok (.lstore 8, 2) := by decide +kernel
theorem dX6_take_41 : decode cX6_take 41 = .ok (.lload 6, 2) := by decide +kernel
theorem dX6_take_43 : decode cX6_take 43 = .ok (.iload 5, 2) := by decide +kernel
theorem dX6_take_45 : decode cX6_take 45 = .ok (.lshr, 1) := by decide +kernel
theorem dX6_take_46 : decode cX6_take 46 = .ok (.l2i, 1) := by decide +kernel
theorem dX6_take_47 : decode cX6_take 47 = .ok (.istore 10, 2) := by decide +kernel
theorem dX6_take_49 : decode cX6_take 49 = .ok (.aload_n 0, 1) := by decide +kernel
theorem dX6_take_50 : decode cX6_take 50 = .ok (.getfield 70, 3) := by decide +kernel
theorem dX6_take_53 : decode cX6_take 53 = .ok (.iload_n 1, 1) := by decide +kernel
theorem dX6_take_54 : decode cX6_take 54 = .ok (.lload_n 2, 1) := by decide +kernel
theorem dX6_take_55 : decode cX6_take 55 = .ok (.lconst 0, 1) := by decide +kernel
theorem dX6_take_56 : decode cX6_take 56 = .ok (.lcmp, 1) := by decide +kernel
theorem dX6_take_57 : decode cX6_take 57 = .ok (.ifCond .ge 7, 3) := by decide +kernel
theorem dX6_take_60 : decode cX6_take 60 = .ok (.iconst 1, 1) := by decide +kernel
theorem dX6_take_61 : decode cX6_take 61 = .ok (.goto 4, 3) := by decide +kernel
theorem dX6_take_64 : decode cX6_take 64 = .ok (.iconst 0, 1) := by decide +kernel
theorem dX6_take_65 : decode cX6_take 65 = .ok (.bastore, 1) := by decide +kernel
theorem dX6_take_66 : decode cX6_take 66 = .ok (.aload_n 0, 1) := by decide +kernel
theorem dX6_take_67 : decode cX6_take 67 = .ok (.getfield 64, 3) := by decide +kernel
theorem dX6_take_70 : decode cX6_take 70 = .ok (.iload_n 1, 1) := by decide +kernel
theorem dX6_take_71 : decode cX6_take 71 = .ok (.iload 10, 2) := by decide +kernel
theorem dX6_take_73 : decode cX6_take 73 = .ok (.iload 4, 2) := by decide +kernel
theorem dX6_take_75 : decode cX6_take 75 = .ok (.ifCond .eq 9, 3) := by decide +kernel
theorem dX6_take_78 : decode cX6_take 78 = .ok (.sipush 2047, 3) := by decide +kernel
theorem dX6_take_81 : decode cX6_take 81 = .ok (.goto 6, 3) := by decide +kernel
theorem dX6_take_84 : decode cX6_take 84 = .ok (.sipush 255, 3) := by decide +kernel
theorem dX6_take_87 : decode cX6_take 87 = .ok (.if_icmp .ne 18, 3) := by decide +kernel
theorem dX6_take_90 : decode cX6_take 90 = .ok (.lload 8, 2) := by decide +kernel
theorem dX6_take_92 : decode cX6_take 92 = .ok (.lconst 0, 1) := by decide +kernel
theorem dX6_take_93 : decode cX6_take 93 = .ok (.lcmp, 1) := by decide +kernel
theorem dX6_take_94 : decode cX6_take 94 = .ok (.ifCond .ne 7, 3) := by decide +kernel
theorem dX6_take_97 : decode cX6_take 97 = .ok (.iconst 2, 1) := by decide +kernel
theorem dX6_take_98 : decode cX6_take 98 = .ok (.goto 19, 3) := by decide +kernel
theorem dX6_take_101 : decode cX6_take 101 = .ok (.iconst 3, 1) := by decide +kernel
theorem dX6_take_102 : decode cX6_take 102 = .ok (.goto 15, 3) := by decide +kernel
theorem dX6_take_105 : decode cX6_take 105 = .ok (.lload 6, 2) := by decide +kernel
theorem dX6_take_107 : decode cX6_take 107 = .ok (.lconst 0, 1) := by decide +kernel
theorem dX6_take_108 : decode cX6_take 108 = .ok (.lcmp, 1) := by decide +kernel
theorem dX6_take_109 : decode cX6_take 109 = .ok (.ifCond .ne 7, 3) := by decide +kernel
theorem dX6_take_112 : decode cX6_take 112 = .ok (.iconst 0, 1) := by decide +kernel
theorem dX6_take_113 : decode cX6_take 113 = .ok (.goto 4, 3) := by decide +kernel
theorem dX6_take_116 : decode cX6_take 116 = .ok (.iconst 1, 1) := by decide +kernel
theorem dX6_take_117 : decode cX6_take 117 = .ok (.iastore, 1) := by decide +kernel
theorem dX6_take_118 : decode cX6_take 118 = .ok (.aload_n 0, 1) := by decide +kernel
theorem dX6_take_119 : decode cX6_take 119 = .ok (.getfield 73, 3) := by decide +kernel
theorem dX6_take_122 : decode cX6_take 122 = .ok (.iload_n 1, 1) := by decide +kernel
theorem dX6_take_123 : decode cX6_take 123 = .ok (.iload 10, 2) := by decide +kernel
theorem dX6_take_125 : decode cX6_take 125 = .ok (.ifCond .ne 8, 3) := by decide +kernel
theorem dX6_take_128 : decode cX6_take 128 = .ok (.lload 8, 2) := by decide +kernel
theorem dX6_take_130 : decode cX6_take 130 = .ok (.goto 10, 3) := by decide +kernel
theorem dX6_take_133 : decode cX6_take 133 = .ok (.lload 8, 2) := by decide +kernel
theorem dX6_take_135 : decode cX6_take 135 = .ok (.lconst 1, 1) := by decide +kernel
theorem dX6_take_136 : decode cX6_take 136 = .ok (.iload 5, 2) := by decide +kernel
theorem dX6_take_138 : decode cX6_take 138 = .ok (.lshl, 1) := by decide +kernel
theorem dX6_take_139 : decode cX6_take 139 = .ok (.lor, 1) := by decide +kernel
theorem dX6_take_140 : decode cX6_take 140 = .ok (.lastore, 1) := by decide +kernel
theorem dX6_take_141 : decode cX6_take 141 = .ok (.aload_n 0, 1) := by decide +kernel
theorem dX6_take_142 : decode cX6_take 142 = .ok (.getfield 67, 3) := by decide +kernel
theorem dX6_take_145 : decode cX6_take 145 = .ok (.iload_n 1, 1) := by decide +kernel
theorem dX6_take_146 : decode cX6_take 146 = .ok (.aload_n 0, 1) := by decide +kernel
theorem dX6_take_147 : decode cX6_take 147 = .ok (.iload 4, 2) := by decide +kernel
theorem dX6_take_149 : decode cX6_take 149 = .ok (.invokevirtual 96, 3) := by decide +kernel
theorem dX6_take_152 : decode cX6_take 152 = .ok (.iload 10, 2) := by decide +kernel
theorem dX6_take_154 : decode cX6_take 154 = .ok (.ifCond .ne 7, 3) := by decide +kernel
theorem dX6_take_157 : decode cX6_take 157 = .ok (.iconst 0, 1) := by decide +kernel
theorem dX6_take_158 : decode cX6_take 158 = .ok (.goto 7, 3) := by decide +kernel
theorem dX6_take_161 : decode cX6_take 161 = .ok (.iload 10, 2) := by decide +kernel
theorem dX6_take_163 : decode cX6_take 163 = .ok (.iconst 1, 1) := by decide +kernel
theorem dX6_take_164 : decode cX6_take 164 = .ok (.isub, 1) := by decide +kernel
theorem dX6_take_165 : decode cX6_take 165 = .ok (.iadd, 1) := by decide +kernel
theorem dX6_take_166 : decode cX6_take 166 = .ok (.iastore, 1) := by decide +kernel
theorem dX6_take_167 : decode cX6_take 167 = .ok (.return_, 1) := by decide +kernel
theorem dX6_spread_0 : decode cX6_spread 0 = .ok (.bipush 61, 2) := by decide +kernel
theorem dX6_spread_2 : decode cX6_spread 2 = .ok (.aload_n 0, 1) := by decide +kernel
theorem dX6_spread_3 : decode cX6_spread 3 = .ok (.aload_n 0, 1) := by decide +kernel
theorem dX6_spread_4 : decode cX6_spread 4 = .ok (.getfield 73, 3) := by decide +kernel
theorem dX6_spread_7 : decode cX6_spread 7 = .ok (.iload_n 1, 1) := by decide +kernel
theorem dX6_spread_8 : decode cX6_spread 8 = .ok (.laload, 1) := by decide +kernel
theorem dX6_spread_9 : decode cX6_spread 9 = .ok (.invokevirtual 99, 3) := by decide +kernel
theorem dX6_spread_12 : decode cX6_spread 12 = .ok (.isub, 1) := by decide +kernel
theorem dX6_spread_13 : decode cX6_spread 13 = .ok (.istore_n 2, 1) := by decide +kernel
theorem dX6_spread_14 : decode cX6_spread 14 = .ok (.aload_n 0, 1) := by decide +kernel
theorem dX6_spread_15 : decode cX6_spread 15 = .ok (.getfield 73, 3) := by decide +kernel
theorem dX6_spread_18 : decode cX6_spread 18 = .ok (.iload_n 1, 1) := by decide +kernel
theorem dX6_spread_19 : decode cX6_spread 19 = .ok (.dup2, 1) := by decide +kernel
theorem dX6_spread_20 : decode cX6_spread 20 = .ok (.laload, 1) := by decide +kernel
theorem dX6_spread_21 : decode cX6_spread 21 = .ok (.iload_n 2, 1) := by decide +kernel
theorem dX6_spread_22 : decode cX6_spread 22 = .ok (.lshl, 1) := by decide +kernel
theorem dX6_spread_23 : decode cX6_spread 23 = .ok (.lastore, 1) := by decide +kernel
theorem dX6_spread_24 : decode cX6_spread 24 = .ok (.aload_n 0, 1) := by decide +kernel
theorem dX6_spread_25 : decode cX6_spread 25 = .ok (.getfield 67, 3) := by decide +kernel
theorem dX6_spread_28 : decode cX6_spread 28 = .ok (.iload_n 1, 1) := by decide +kernel
theorem dX6_spread_29 : decode cX6_spread 29 = .ok (.dup2, 1) := by decide +kernel
theorem dX6_spread_30 : decode cX6_spread 30 = .ok (.iaload, 1) := by decide +kernel
theorem dX6_spread_31 : decode cX6_spread 31 = .ok (.iload_n 2, 1) := by decide +kernel
theorem dX6_spread_32 : decode cX6_spread 32 = .ok (.isub, 1) := by decide +kernel
theorem dX6_spread_33 : decode cX6_spread 33 = .ok (.iastore, 1) := by decide +kernel
theorem dX6_spread_34 : decode cX6_spread 34 = .ok (.return_, 1) := by decide +kernel
theorem dX6_round_0 : decode cX6_round 0 = .ok (.aload_n 0, 1) := by decide +kernel
theorem dX6_round_1 : decode cX6_round 1 = .ok (.iload_n 1, 1) := by decide +kernel
theorem dX6_round_2 : decode cX6_round 2 = .ok (.invokevirtual 88, 3) := by decide +kernel
theorem dX6_round_5 : decode cX6_round 5 = .ok (.istore 7, 2) := by decide +kernel
theorem dX6_round_7 : decode cX6_round 7 = .ok (.aload_n 0, 1) := by decide +kernel
theorem dX6_round_8 : decode cX6_round 8 = .ok (.lload_n 3, 1) := by decide +kernel
theorem dX6_round_9 : decode cX6_round 9 = .ok (.invokevirtual 99, 3) := by decide +kernel
theorem dX6_round_12 : decode cX6_round 12 = .ok (.iload 5, 2) := by decide +kernel
theorem dX6_round_14 : decode cX6_round 14 = .ok (.iadd, 1) := by decide +kernel
theorem dX6_round_15 : decode cX6_round 15 = .ok (.iload 7, 2) := by decide +kernel
theorem dX6_round_17 : decode cX6_round 17 = .ok (.isub, 1) := by decide +kernel
theorem dX6_round_18 : decode cX6_round 18 = .ok (.istore 8, 2) := by decide +kernel
theorem dX6_round_20 : decode cX6_round 20 = .ok (.iload 8, 2) := by decide +kernel
theorem dX6_round_22 : decode cX6_round 22 = .ok (.aload_n 0, 1) := by decide +kernel
theorem dX6_round_23 : decode cX6_round 23 = .ok (.iload_n 1, 1) := by decide +kernel
theorem dX6_round_24 : decode cX6_round 24 = .ok (.invokevirtual 96, 3) := by decide +kernel
theorem dX6_round_27 : decode cX6_round 27 = .ok (.if_icmp .ge 10, 3) := by decide +kernel
theorem dX6_round_30 : decode cX6_round 30 = .ok (.aload_n 0, 1) := by decide +kernel
theorem dX6_round_31 : decode cX6_round 31 = .ok (.iload_n 1, 1) := by decide +kernel
theorem dX6_round_32 : decode cX6_round 32 = .ok (.invokevirtual 96, 3) := by decide +kernel
theorem dX6_round_35 : decode cX6_round 35 = .ok (.istore 8, 2) := by decide +kernel
theorem dX6_round_37 : decode cX6_round 37 = .ok (.iload 8, 2) := by decide +kernel
theorem dX6_round_39 : decode cX6_round 39 = .ok (.iload 5, 2) := by decide +kernel
theorem dX6_round_41 : decode cX6_round 41 = .ok (.isub, 1) := by decide +kernel
theorem dX6_round_42 : decode cX6_round 42 = .ok (.istore 9, 2) := by decide +kernel
theorem dX6_round_44 : decode cX6_round 44 = .ok (.iload 9, 2) := by decide +kernel
theorem dX6_round_46 : decode cX6_round 46 = .ok (.ifCond .gt 11, 3) := by decide +kernel
theorem dX6_round_49 : decode cX6_round 49 = .ok (.lload_n 3, 1) := by decide +kernel
theorem dX6_round_50 : decode cX6_round 50 = .ok (.iload 9, 2) := by decide +kernel
theorem dX6_round_52 : decode cX6_round 52 = .ok (.ineg, 1) := by decide +kernel
theorem dX6_round_53 : decode cX6_round 53 = .ok (.lshl, 1) := by decide +kernel
theorem dX6_round_54 : decode cX6_round 54 = .ok (.goto 18, 3) := by decide +kernel
theorem dX6_round_57 : decode cX6_round 57 = .ok (.iload 9, 2) := by decide +kernel
theorem dX6_round_59 : decode cX6_round 59 = .ok (.bipush 62, 2) := by decide +kernel
theorem dX6_round_61 : decode cX6_round 61 = .ok (.if_icmp .le 7, 3) := by decide +kernel
theorem dX6_round_64 : decode cX6_round 64 = .ok (.lconst 0, 1) := by decide +kernel
theorem dX6_round_65 : decode cX6_round 65 = .ok (.goto 7, 3) := by decide +kernel
theorem dX6_round_68 : decode cX6_round 68 = .ok (.lload_n 3, 1) := by decide +kernel
theorem dX6_round_69 : decode cX6_round 69 = .ok (.iload 9, 2) := by decide +kernel
theorem dX6_round_71 : decode cX6_round 71 = .ok (.lshr, 1) := by decide +kernel
theorem dX6_round_72 : decode cX6_round 72 = .ok (.lstore 10, 2) := by decide +kernel
theorem dX6_round_74 : decode cX6_round 74 = .ok (.iload 9, 2) := by decide +kernel
theorem dX6_round_76 : decode cX6_round 76 = .ok (.ifCond .le 63, 3) := by decide +kernel
theorem dX6_round_79 : decode cX6_round 79 = .ok (.iload 9, 2) := by decide +kernel
theorem dX6_round_81 : decode cX6_round 81 = .ok (.bipush 63, 2) := by decide +kernel
theorem dX6_round_83 : decode cX6_round 83 = .ok (.if_icmp .ge 56, 3) := by decide +kernel
theorem dX6_round_86 : decode cX6_round 86 = .ok (.lload_n 3, 1) := by decide +kernel
theorem dX6_round_87 : decode cX6_round 87 = .ok (.lload 10, 2) := by decide +kernel
theorem dX6_round_89 : decode cX6_round 89 = .ok (.iload 9, 2) := by decide +kernel
theorem dX6_round_91 : decode cX6_round 91 = .ok (.lshl, 1) := by decide +kernel
theorem dX6_round_92 : decode cX6_round 92 = .ok (.lsub, 1) := by decide +kernel
theorem dX6_round_93 : decode cX6_round 93 = .ok (.lstore 12, 2) := by decide +kernel
theorem dX6_round_95 : decode cX6_round 95 = .ok (.lconst 1, 1) := by decide +kernel
theorem dX6_round_96 : decode cX6_round 96 = .ok (.iload 9, 2) := by decide +kernel
theorem dX6_round_98 : decode cX6_round 98 = .ok (.iconst 1, 1) := by decide +kernel
theorem dX6_round_99 : decode cX6_round 99 = .ok (.isub, 1) := by decide +kernel
theorem dX6_round_100 : decode cX6_round 100 = .ok (.lshl, 1) := by decide +kernel
theorem dX6_round_101 : decode cX6_round 101 = .ok (.lstore 14, 2) := by decide +kernel
theorem dX6_round_103 : decode cX6_round 103 = .ok (.lload 12, 2) := by decide +kernel
theorem dX6_round_105 : decode cX6_round 105 = .ok (.lload 14, 2) := by decide +kernel
theorem dX6_round_107 : decode cX6_round 107 = .ok (.lcmp, 1) := by decide +kernel
theorem dX6_round_108 : decode cX6_round 108 = .ok (.ifCond .gt 25, 3) := by decide +kernel
theorem dX6_round_111 : decode cX6_round 111 = .ok (.lload 12, 2) := by decide +kernel
theorem dX6_round_113 : decode cX6_round 113 = .ok (.lload 14, 2) := by decide +kernel
theorem dX6_round_115 : decode cX6_round 115 = .ok (.lcmp, 1) := by decide +kernel
theorem dX6_round_116 : decode cX6_round 116 = .ok (.ifCond .ne 23, 3) := by decide +kernel
theorem dX6_round_119 : decode cX6_round 119 = .ok (.iload 6, 2) := by decide +kernel
theorem dX6_round_121 : decode cX6_round 121 = .ok (.ifCond .ne 12, 3) := by decide +kernel
theorem dX6_round_124 : decode cX6_round 124 = .ok (.lload 10, 2) := by decide +kernel
theorem dX6_round_126 : decode cX6_round 126 = .ok (.lconst 1, 1) := by decide +kernel
theorem dX6_round_127 : decode cX6_round 127 = .ok (.land, 1) := by decide +kernel
theorem dX6_round_128 : decode cX6_round 128 = .ok (.lconst 1, 1) := by decide +kernel
theorem dX6_round_129 : decode cX6_round 129 = .ok (.lcmp, 1) := by decide +kernel
theorem dX6_round_130 : decode cX6_round 130 = .ok (.ifCond .ne 9, 3) := by decide +kernel
theorem dX6_round_133 : decode cX6_round 133 = .ok (.lload 10, 2) := by decide +kernel
theorem dX6_round_135 : decode cX6_round 135 = .ok (.lconst 1, 1) := by decide +kernel
theorem dX6_round_136 : decode cX6_round 136 = .ok (.ladd, 1) := by decide +kernel
theorem dX6_round_137 : decode cX6_round 137 = .ok (.lstore 10, 2) := by decide +kernel
theorem dX6_round_139 : decode cX6_round 139 = .ok (.lload 10, 2) := by decide +kernel
theorem dX6_round_141 : decode cX6_round 141 = .ok (.lconst 1, 1) := by decide +kernel
theorem dX6_round_142 : decode cX6_round 142 = .ok (.iload 7, 2) := by decide +kernel
theorem dX6_round_144 : decode cX6_round 144 = .ok (.lshl, 1) := by decide +kernel
theorem dX6_round_145 : decode cX6_round 145 = .ok (.lcmp, 1) := by decide +kernel
theorem dX6_round_146 : decode cX6_round 146 = .ok (.ifCond .ne 12, 3) := by decide +kernel
theorem dX6_round_149 : decode cX6_round 149 = .ok (.lload 10, 2) := by decide +kernel
theorem dX6_round_151 : decode cX6_round 151 = .ok (.iconst 1, 1) := by decide +kernel
theorem dX6_round_152 : decode cX6_round 152 = .ok (.lshr, 1) := by decide +kernel
theorem dX6_round_153 : decode cX6_round 153 = .ok (.lstore 10, 2) := by decide +kernel
theorem dX6_round_155 : decode cX6_round 155 = .ok (.iinc 8 1, 3) := by decide +kernel
theorem dX6_round_158 : decode cX6_round 158 = .ok (.iload 8, 2) := by decide +kernel
theorem dX6_round_160 : decode cX6_round 160 = .ok (.iload 7, 2) := by decide +kernel
theorem dX6_round_162 : decode cX6_round 162 = .ok (.iadd, 1) := by decide +kernel
theorem dX6_round_163 : decode cX6_round 163 = .ok (.iload_n 1, 1) := by decide +kernel
theorem dX6_round_164 : decode cX6_round 164 = .ok (.ifCond .eq 9, 3) := by decide +kernel
theorem dX6_round_167 : decode cX6_round 167 = .ok (.sipush 1024, 3) := by decide +kernel
theorem dX6_round_170 : decode cX6_round 170 = .ok (.goto 6, 3) := by decide +kernel
theorem dX6_round_173 : decode cX6_round 173 = .ok (.sipush 128, 3) := by decide +kernel
theorem dX6_round_176 : decode cX6_round 176 = .ok (.if_icmp .le 15, 3) := by decide +kernel
theorem dX6_round_179 : decode cX6_round 179 = .ok (.aload_n 0, 1) := by decide +kernel
theorem dX6_round_180 : decode cX6_round 180 = .ok (.iload_n 1, 1) := by decide +kernel
theorem dX6_round_181 : decode cX6_round 181 = .ok (.iload_n 2, 1) := by decide +kernel
theorem dX6_round_182 : decode cX6_round 182 = .ok (.aload_n 0, 1) := by decide +kernel
theorem dX6_round_183 : decode cX6_round 183 = .ok (.iload_n 1, 1) := by decide +kernel
theorem dX6_round_184 : decode cX6_round 184 = .ok (.invokevirtual 103, 3) := by decide +kernel
theorem dX6_round_187 : decode cX6_round 187 = .ok (.invokevirtual 107, 3) := by decide +kernel
theorem dX6_round_190 : decode cX6_round 190 = .ok (.lreturn, 1) := by decide +kernel
theorem dX6_round_191 : decode cX6_round 191 = .ok (.lload 10, 2) := by decide +kernel
theorem dX6_round_193 : decode cX6_round 193 = .ok (.lconst 1, 1) := by decide +kernel
theorem dX6_round_194 : decode cX6_round 194 = .ok (.iload 7, 2) := by decide +kernel
theorem dX6_round_196 : decode cX6_round 196 = .ok (.iconst 1, 1) := by decide +kernel
theorem dX6_round_197 : decode cX6_round 197 = .ok (.isub, 1) := by decide +kernel
theorem dX6_round_198 : decode cX6_round 198 = .ok (.lshl, 1) := by decide +kernel
theorem dX6_round_199 : decode cX6_round 199 = .ok (.lcmp, 1) := by decide +kernel
theorem dX6_round_200 : decode cX6_round 200 = .ok (.ifCond .ge 7, 3) := by decide +kernel
theorem dX6_round_203 : decode cX6_round 203 = .ok (.lconst 0, 1) := by decide +kernel
theorem dX6_round_204 : decode cX6_round 204 = .ok (.goto 14, 3) := by decide +kernel
theorem dX6_round_207 : decode cX6_round 207 = .ok (.iload 8, 2) := by decide +kernel
theorem dX6_round_209 : decode cX6_round 209 = .ok (.aload_n 0, 1) := by decide +kernel
theorem dX6_round_210 : decode cX6_round 210 = .ok (.iload_n 1, 1) := by decide +kernel
theorem dX6_round_211 : decode cX6_round 211 = .ok (.invokevirtual 96, 3) := by decide +kernel
theorem dX6_round_214 : decode cX6_round 214 = .ok (.isub, 1) := by decide +kernel
theorem dX6_round_215 : decode cX6_round 215 = .ok (.iconst 1, 1) := by decide +kernel
theorem dX6_round_216 : decode cX6_round 216 = .ok (.iadd, 1) := by decide +kernel
theorem dX6_round_217 : decode cX6_round 217 = .ok (.i2l, 1) := by decide +kernel
theorem dX6_round_218 : decode cX6_round 218 = .ok (.lstore 12, 2) := by decide +kernel
theorem dX6_round_220 : decode cX6_round 220 = .ok (.aload_n 0, 1) := by decide +kernel
theorem dX6_round_221 : decode cX6_round 221 = .ok (.iload_n 1, 1) := by decide +kernel
theorem dX6_round_222 : decode cX6_round 222 = .ok (.iload_n 2, 1) := by decide +kernel
theorem dX6_round_223 : decode cX6_round 223 = .ok (.lload 12, 2) := by decide +kernel
theorem dX6_round_225 : decode cX6_round 225 = .ok (.lconst 0, 1) := by decide +kernel
theorem dX6_round_226 : decode cX6_round 226 = .ok (.lcmp, 1) := by decide +kernel
theorem dX6_round_227 : decode cX6_round 227 = .ok (.ifCond .ne 8, 3) := by decide +kernel
theorem dX6_round_230 : decode cX6_round 230 = .ok (.lload 10, 2) := by decide +kernel
theorem dX6_round_232 : decode cX6_round 232 = .ok (.goto 20, 3) := by decide +kernel
theorem dX6_round_235 : decode cX6_round 235 = .ok (.lload 12, 2) := by decide +kernel
theorem dX6_round_237 : decode cX6_round 237 = .ok (.iload 7, 2) := by decide +kernel
theorem dX6_round_239 : decode cX6_round 239 = .ok (.iconst 1, 1) := by decide +kernel
theorem dX6_round_240 : decode cX6_round 240 = .ok (.isub, 1) := by decide +kernel
theorem dX6_round_241 : decode cX6_round 241 = .ok (.lshl, 1) := by decide +kernel
theorem dX6_round_242 : decode cX6_round 242 = .ok (.lload 10, 2) := by decide +kernel
theorem dX6_round_244 : decode cX6_round 244 = .ok (.lconst 1, 1) := by decide +kernel
theorem dX6_round_245 : decode cX6_round 245 = .ok (.iload 7, 2) := by decide +kernel
theorem dX6_round_247 : decode cX6_round 247 = .ok (.iconst 1, 1) := by decide +kernel
theorem dX6_round_248 : decode cX6_round 248 = .ok (.isub, 1) := by decide +kernel
theorem dX6_round_249 : decode cX6_round 249 = .ok (.lshl, 1) := by decide +kernel
theorem dX6_round_250 : decode cX6_round 250 = .ok (.lsub, 1) := by decide +kernel
theorem dX6_round_251 : decode cX6_round 251 = .ok (.ladd, 1) := by decide +kernel
theorem dX6_round_252 : decode cX6_round 252 = .ok (.invokevirtual 107, 3) := by decide +kernel
theorem dX6_round_255 : decode cX6_round 255 = .ok (.lreturn, 1) := by decide +kernel
theorem dX6_sum_0 : decode cX6_sum 0 = .ok (.aload_n 0, 1) := by decide +kernel
theorem dX6_sum_1 : decode cX6_sum 1 = .ok (.iconst 0, 1) := by decide +kernel
theorem dX6_sum_2 : decode cX6_sum 2 = .ok (.lload_n 2, 1) := by decide +kernel
theorem dX6_sum_3 : decode cX6_sum 3 = .ok (.iload_n 1, 1) := by decide +kernel
theorem dX6_sum_4 : decode cX6_sum 4 = .ok (.invokevirtual 111, 3) := by decide +kernel
theorem dX6_sum_7 : decode cX6_sum 7 = .ok (.aload_n 0, 1) := by decide +kernel
theorem dX6_sum_8 : decode cX6_sum 8 = .ok (.iconst 1, 1) := by decide +kernel
theorem dX6_sum_9 : decode cX6_sum 9 = .ok (.lload 4, 2) := by decide +kernel
theorem dX6_sum_11 : decode cX6_sum 11 = .ok (.iload_n 1, 1) := by decide +kernel
theorem dX6_sum_12 : decode cX6_sum 12 = .ok (.invokevirtual 111, 3) := by decide +kernel
theorem dX6_sum_15 : decode cX6_sum 15 = .ok (.aload_n 0, 1) := by decide +kernel
theorem dX6_sum_16 : decode cX6_sum 16 = .ok (.getfield 64, 3) := by decide +kernel
theorem dX6_sum_19 : decode cX6_sum 19 = .ok (.iconst 0, 1) := by decide +kernel
theorem dX6_sum_20 : decode cX6_sum 20 = .ok (.iaload, 1) := by decide +kernel
theorem dX6_sum_21 : decode cX6_sum 21 = .ok (.iconst 3, 1) := by decide +kernel
theorem dX6_sum_22 : decode cX6_sum 22 = .ok (.if_icmp .eq 13, 3) := by decide +kernel
theorem dX6_sum_25 : decode cX6_sum 25 = .ok (.aload_n 0, 1) := by decide +kernel
theorem dX6_sum_26 : decode cX6_sum 26 = .ok (.getfield 64, 3) := by decide +kernel
theorem dX6_sum_29 : decode cX6_sum 29 = .ok (.iconst 1, 1) := by decide +kernel
theorem dX6_sum_30 : decode cX6_sum 30 = .ok (.iaload, 1) := by decide +kernel
theorem dX6_sum_31 : decode cX6_sum 31 = .ok (.iconst 3, 1) := by decide +kernel
theorem dX6_sum_32 : decode cX6_sum 32 = .ok (.if_icmp .ne 9, 3) := by decide +kernel
theorem dX6_sum_35 : decode cX6_sum 35 = .ok (.aload_n 0, 1) := by decide +kernel
theorem dX6_sum_36 : decode cX6_sum 36 = .ok (.iload_n 1, 1) := by decide +kernel
theorem dX6_sum_37 : decode cX6_sum 37 = .ok (.invokevirtual 115, 3) := by decide +kernel
theorem dX6_sum_40 : decode cX6_sum 40 = .ok (.lreturn, 1) := by decide +kernel
theorem dX6_sum_41 : decode cX6_sum 41 = .ok (.aload_n 0, 1) := by decide +kernel
theorem dX6_sum_42 : decode cX6_sum 42 = .ok (.getfield 64, 3) := by decide +kernel
theorem dX6_sum_45 : decode cX6_sum 45 = .ok (.iconst 0, 1) := by decide +kernel
theorem dX6_sum_46 : decode cX6_sum 46 = .ok (.iaload, 1) := by decide +kernel
theorem dX6_sum_47 : decode cX6_sum 47 = .ok (.iconst 2, 1) := by decide +kernel
theorem dX6_sum_48 : decode cX6_sum 48 = .ok (.if_icmp .eq 13, 3) := by decide +kernel
theorem dX6_sum_51 : decode cX6_sum 51 = .ok (.aload_n 0, 1) := by decide +kernel
theorem dX6_sum_52 : decode cX6_sum 52 = .ok (.getfield 64, 3) := by decide +kernel
theorem dX6_sum_55 : decode cX6_sum 55 = .ok (.iconst 1, 1) := by decide +kernel
theorem dX6_sum_56 : decode cX6_sum 56 = .ok (.iaload, 1) := by decide +kernel
theorem dX6_sum_57 : decode cX6_sum 57 = .ok (.iconst 2, 1) := by decide +kernel
theorem dX6_sum_58 : decode cX6_sum 58 = .ok (.if_icmp .ne 63, 3) := by decide +kernel
theorem dX6_sum_61 : decode cX6_sum 61 = .ok (.aload_n 0, 1) := by decide +kernel
theorem dX6_sum_62 : decode cX6_sum 62 = .ok (.getfield 64, 3) := by decide +kernel
theorem dX6_sum_65 : decode cX6_sum 65 = .ok (.iconst 0, 1) := by decide +kernel
theorem dX6_sum_66 : decode cX6_sum 66 = .ok (.iaload, 1) := by decide +kernel
theorem dX6_sum_67 : decode cX6_sum 67 = .ok (.iconst 2, 1) := by decide +kernel
theorem dX6_sum_68 : decode cX6_sum 68 = .ok (.if_icmp .ne 36, 3) := by decide +kernel
theorem dX6_sum_71 : decode cX6_sum 71 = .ok (.aload_n 0, 1) := by decide +kernel
theorem dX6_sum_72 : decode cX6_sum 72 = .ok (.getfield 64, 3) := by decide +kernel
theorem dX6_sum_75 : decode cX6_sum 75 = .ok (.iconst 1, 1) := by decide +kernel
theorem dX6_sum_76 : decode cX6_sum 76 = .ok (.iaload, 1) := by decide +kernel
theorem dX6_sum_77 : decode cX6_sum 77 = .ok (.iconst 2, 1) := by decide +kernel
theorem dX6_sum_78 : decode cX6_sum 78 = .ok (.if_icmp .ne 26, 3) := by decide +kernel
theorem dX6_sum_81 : decode cX6_sum 81 = .ok (.aload_n 0, 1) := by decide +kernel
theorem dX6_sum_82 : decode cX6_sum 82 = .ok (.getfield 70, 3) := by decide +kernel
theorem dX6_sum_85 : decode cX6_sum 85 = .ok (.iconst 0, 1) := by decide +kernel
theorem dX6_sum_86 : decode cX6_sum 86 = .ok (.baload, 1) := by decide +kernel
theorem dX6_sum_87 : decode cX6_sum 87 = .ok (.aload_n 0, 1) := by decide +kernel
theorem dX6_sum_88 : decode cX6_sum 88 = .ok (.getfield 70, 3) := by decide +kernel
theorem dX6_sum_91 : decode cX6_sum 91 = .ok (.iconst 1, 1) := by decide +kernel
theorem dX6_sum_92 : decode cX6_sum 92 = .ok (.baload, 1) := by decide +kernel
theorem dX6_sum_93 : decode cX6_sum 93 = .ok (.if_icmp .eq 11, 3) := by decide +kernel
theorem dX6_sum_96 : decode cX6_sum 96 = .ok (.aload_n 0, 1) := by decide +kernel
theorem dX6_sum_97 : decode cX6_sum 97 = .ok (.iload_n 1, 1) := by decide +kernel
theorem dX6_sum_98 : decode cX6_sum 98 = .ok (.invokevirtual 115, 3) := by decide +kernel
theorem dX6_sum_101 : decode cX6_sum 101 = .ok (.goto 19, 3) := by decide +kernel
theorem dX6_sum_104 : decode cX6_sum 104 = .ok (.aload_n 0, 1) := by decide +kernel
theorem dX6_sum_105 : decode cX6_sum 105 = .ok (.getfield 64, 3) := by decide +kernel
theorem dX6_sum_108 : decode cX6_sum 108 = .ok (.iconst 0, 1) := by decide +kernel
theorem dX6_sum_109 : decode cX6_sum 109 = .ok (.iaload, 1) := by decide +kernel
theorem dX6_sum_110 : decode cX6_sum 110 = .ok (.iconst 2, 1) := by decide +kernel
theorem dX6_sum_111 : decode cX6_sum 111 = .ok (.if_icmp .ne 7, 3) := by decide +kernel
theorem dX6_sum_114 : decode cX6_sum 114 = .ok (.lload_n 2, 1) := by decide +kernel
theorem dX6_sum_115 : decode cX6_sum 115 = .ok (.goto 5, 3) := by decide +kernel
theorem dX6_sum_118 : decode cX6_sum 118 = .ok (.lload 4, 2) := by decide +kernel
theorem dX6_sum_120 : decode cX6_sum 120 = .ok (.lreturn, 1) := by decide +kernel
theorem dX6_sum_121 : decode cX6_sum 121 = .ok (.aload_n 0, 1) := by decide +kernel
theorem dX6_sum_122 : decode cX6_sum 122 = .ok (.getfield 64, 3) := by decide +kernel
theorem dX6_sum_125 : decode cX6_sum 125 = .ok (.iconst 0, 1) := by decide +kernel
theorem dX6_sum_126 : decode cX6_sum 126 = .ok (.iaload, 1) := by decide +kernel
theorem dX6_sum_127 : decode cX6_sum 127 = .ok (.ifCond .ne 41, 3) := by decide +kernel
theorem dX6_sum_130 : decode cX6_sum 130 = .ok (.aload_n 0, 1) := by decide +kernel
theorem dX6_sum_131 : decode cX6_sum 131 = .ok (.getfield 64, 3) := by decide +kernel
theorem dX6_sum_134 : decode cX6_sum 134 = .ok (.iconst 1, 1) := by decide +kernel
theorem dX6_sum_135 : decode cX6_sum 135 = .ok (.iaload, 1) := by decide +kernel
theorem dX6_sum_136 : decode cX6_sum 136 = .ok (.ifCond .ne 29, 3) := by decide +kernel
theorem dX6_sum_139 : decode cX6_sum 139 = .ok (.aload_n 0, 1) := by decide +kernel
theorem dX6_sum_140 : decode cX6_sum 140 = .ok (.getfield 70, 3) := by decide +kernel
theorem dX6_sum_143 : decode cX6_sum 143 = .ok (.iconst 0, 1) := by decide +kernel
theorem dX6_sum_144 : decode cX6_sum 144 = .ok (.baload, 1) := by decide +kernel
theorem dX6_sum_145 : decode cX6_sum 145 = .ok (.ifCond .eq 16, 3) := by decide +kernel
theorem dX6_sum_148 : decode cX6_sum 148 = .ok (.aload_n 0, 1) := by decide +kernel
theorem dX6_sum_149 : decode cX6_sum 149 = .ok (.getfield 70, 3) := by decide +kernel
theorem dX6_sum_152 : decode cX6_sum 152 = .ok (.iconst 1, 1) := by decide +kernel
theorem dX6_sum_153 : decode cX6_sum 153 = .ok (.baload, 1) := by decide +kernel
theorem dX6_sum_154 : decode cX6_sum 154 = .ok (.ifCond .eq 7, 3) := by decide +kernel
theorem dX6_sum_157 : decode cX6_sum 157 = .ok (.lload_n 2, 1) := by decide +kernel
theorem dX6_sum_158 : decode cX6_sum 158 = .ok (.goto 9, 3) := by decide +kernel
theorem dX6_sum_161 : decode cX6_sum 161 = .ok (.lconst 0, 1) := by decide +kernel
theorem dX6_sum_162 : decode cX6_sum 162 = .ok (.goto 5, 3) := by decide +kernel
theorem dX6_sum_165 : decode cX6_sum 165 = .ok (.lload 4, 2) := by decide +kernel
theorem dX6_sum_167 : decode cX6_sum 167 = .ok (.lreturn, 1) := by decide +kernel
theorem dX6_sum_168 : decode cX6_sum 168 = .ok (.aload_n 0, 1) := by decide +kernel
theorem dX6_sum_169 : decode cX6_sum 169 = .ok (.getfield 64, 3) := by decide +kernel
theorem dX6_sum_172 : decode cX6_sum 172 = .ok (.iconst 1, 1) := by decide +kernel
theorem dX6_sum_173 : decode cX6_sum 173 = .ok (.iaload, 1) := by decide +kernel
theorem dX6_sum_174 : decode cX6_sum 174 = .ok (.ifCond .ne 5, 3) := by decide +kernel
theorem dX6_sum_177 : decode cX6_sum 177 = .ok (.lload_n 2, 1) := by decide +kernel
theorem dX6_sum_178 : decode cX6_sum 178 = .ok (.lreturn, 1) := by decide +kernel
theorem dX6_sum_179 : decode cX6_sum 179 = .ok (.aload_n 0, 1) := by decide +kernel
theorem dX6_sum_180 : decode cX6_sum 180 = .ok (.iconst 0, 1) := by decide +kernel
theorem dX6_sum_181 : decode cX6_sum 181 = .ok (.invokevirtual 118, 3) := by decide +kernel
theorem dX6_sum_184 : decode cX6_sum 184 = .ok (.aload_n 0, 1) := by decide +kernel
theorem dX6_sum_185 : decode cX6_sum 185 = .ok (.iconst 1, 1) := by decide +kernel
theorem dX6_sum_186 : decode cX6_sum 186 = .ok (.invokevirtual 118, 3) := by decide +kernel
theorem dX6_sum_189 : decode cX6_sum 189 = .ok (.aload_n 0, 1) := by decide +kernel
theorem dX6_sum_190 : decode cX6_sum 190 = .ok (.getfield 67, 3) := by decide +kernel
theorem dX6_sum_193 : decode cX6_sum 193 = .ok (.iconst 0, 1) := by decide +kernel
theorem dX6_sum_194 : decode cX6_sum 194 = .ok (.iaload, 1) := by decide +kernel
theorem dX6_sum_195 : decode cX6_sum 195 = .ok (.aload_n 0, 1) := by decide +kernel
theorem dX6_sum_196 : decode cX6_sum 196 = .ok (.getfield 67, 3) := by decide +kernel
theorem dX6_sum_199 : decode cX6_sum 199 = .ok (.iconst 1, 1) := by decide +kernel
theorem dX6_sum_200 : decode cX6_sum 200 = .ok (.iaload, 1) := by decide +kernel
theorem dX6_sum_201 : decode cX6_sum 201 = .ok (.if_icmp .gt 34, 3) := by decide +kernel
theorem dX6_sum_204 : decode cX6_sum 204 = .ok (.aload_n 0, 1) := by decide +kernel
theorem dX6_sum_205 : decode cX6_sum 205 = .ok (.getfield 67, 3) := by decide +kernel
theorem dX6_sum_208 : decode cX6_sum 208 = .ok (.iconst 0, 1) := by decide +kernel
theorem dX6_sum_209 : decode cX6_sum 209 = .ok (.iaload, 1) := by decide +kernel
theorem dX6_sum_210 : decode cX6_sum 210 = .ok (.aload_n 0, 1) := by decide +kernel
theorem dX6_sum_211 : decode cX6_sum 211 = .ok (.getfield 67, 3) := by decide +kernel
theorem dX6_sum_214 : decode cX6_sum 214 = .ok (.iconst 1, 1) := by decide +kernel
theorem dX6_sum_215 : decode cX6_sum 215 = .ok (.iaload, 1) := by decide +kernel
theorem dX6_sum_216 : decode cX6_sum 216 = .ok (.if_icmp .ne 23, 3) := by decide +kernel
theorem dX6_sum_219 : decode cX6_sum 219 = .ok (.aload_n 0, 1) := by decide +kernel
theorem dX6_sum_220 : decode cX6_sum 220 = .ok (.getfield 73, 3) := by decide +kernel
theorem dX6_sum_223 : decode cX6_sum 223 = .ok (.iconst 0, 1) := by decide +kernel
theorem dX6_sum_224 : decode cX6_sum 224 = .ok (.laload, 1) := by decide +kernel
theorem dX6_sum_225 : decode cX6_sum 225 = .ok (.aload_n 0, 1) := by decide +kernel
theorem dX6_sum_226 : decode cX6_sum 226 = .ok (.getfield 73, 3) := by decide +kernel
theorem dX6_sum_229 : decode cX6_sum 229 = .ok (.iconst 1, 1) := by decide +kernel
theorem dX6_sum_230 : decode cX6_sum 230 = .ok (.laload, 1) := by decide +kernel
theorem dX6_sum_231 : decode cX6_sum 231 = .ok (.lcmp, 1) := by decide +kernel
theorem dX6_sum_232 : decode cX6_sum 232 = .ok (.ifCond .lt 7, 3) := by decide +kernel
theorem dX6_sum_235 : decode cX6_sum 235 = .ok (.iconst 0, 1) := by decide +kernel
theorem dX6_sum_236 : decode cX6_sum 236 = .ok (.goto 4, 3) := by decide +kernel
theorem dX6_sum_239 : decode cX6_sum 239 = .ok (.iconst 1, 1) := by decide +kernel
theorem dX6_sum_240 : decode cX6_sum 240 = .ok (.istore 6, 2) := by decide +kernel
theorem dX6_sum_242 : decode cX6_sum 242 = .ok (.iconst 1, 1) := by decide +kernel
theorem dX6_sum_243 : decode cX6_sum 243 = .ok (.iload 6, 2) := by decide +kernel
theorem dX6_sum_245 : decode cX6_sum 245 = .ok (.isub, 1) := by decide +kernel
theorem dX6_sum_246 : decode cX6_sum 246 = .ok (.istore 7, 2) := by decide +kernel
theorem dX6_sum_248 : decode cX6_sum 248 = .ok (.aload_n 0, 1) := by decide +kernel
theorem dX6_sum_249 : decode cX6_sum 249 = .ok (.getfield 67, 3) := by decide +kernel
theorem dX6_sum_252 : decode cX6_sum 252 = .ok (.iload 6, 2) := by decide +kernel
theorem dX6_sum_254 : decode cX6_sum 254 = .ok (.iaload, 1) := by decide +kernel
theorem dX6_sum_255 : decode cX6_sum 255 = .ok (.aload_n 0, 1) := by decide +kernel
theorem dX6_sum_256 : decode cX6_sum 256 = .ok (.getfield 67, 3) := by decide +kernel
theorem dX6_sum_259 : decode cX6_sum 259 = .ok (.iload 7, 2) := by decide +kernel
theorem dX6_sum_261 : decode cX6_sum 261 = .ok (.iaload, 1) := by decide +kernel
theorem dX6_sum_262 : decode cX6_sum 262 = .ok (.isub, 1) := by decide +kernel
theorem dX6_sum_263 : decode cX6_sum 263 = .ok (.istore 8, 2) := by decide +kernel
theorem dX6_sum_265 : decode cX6_sum 265 = .ok (.iload 8, 2) := by decide +kernel
theorem dX6_sum_267 : decode cX6_sum 267 = .ok (.bipush 62, 2) := by decide +kernel
theorem dX6_sum_269 : decode cX6_sum 269 = .ok (.if_icmp .le 7, 3) := by decide +kernel
theorem dX6_sum_272 : decode cX6_sum 272 = .ok (.lconst 0, 1) := by decide +kernel
theorem dX6_sum_273 : decode cX6_sum 273 = .ok (.goto 13, 3) := by decide +kernel
theorem dX6_sum_276 : decode cX6_sum 276 = .ok (.aload_n 0, 1) := by decide +kernel
theorem dX6_sum_277 : decode cX6_sum 277 = .ok (.getfield 73, 3) := by decide +kernel
theorem dX6_sum_280 : decode cX6_sum 280 = .ok (.iload 7, 2) := by decide +kernel
theorem dX6_sum_282 : decode cX6_sum 282 = .ok (.laload, 1) := by decide +kernel
theorem dX6_sum_283 : decode cX6_sum 283 = .ok (.iload 8, 2) := by decide +kernel
theorem dX6_sum_285 : decode cX6_sum 285 = .ok (.lshr, 1) := by decide +kernel
theorem dX6_sum_286 : decode cX6_sum 286 = .ok (.lstore 9, 2) := by decide +kernel
theorem dX6_sum_288 : decode cX6_sum 288 = .ok (.iload 8, 2) := by decide +kernel
theorem dX6_sum_290 : decode cX6_sum 290 = .ok (.bipush 62, 2) := by decide +kernel
theorem dX6_sum_292 : decode cX6_sum 292 = .ok (.if_icmp .gt 19, 3) := by decide +kernel
theorem dX6_sum_295 : decode cX6_sum 295 = .ok (.lload 9, 2) := by decide +kernel
theorem dX6_sum_297 : decode cX6_sum 297 = .ok (.iload 8, 2) := by decide +kernel
theorem dX6_sum_299 : decode cX6_sum 299 = .ok (.lshl, 1) := by decide +kernel
theorem dX6_sum_300 : decode cX6_sum 300 = .ok (.aload_n 0, 1) := by decide +kernel
theorem dX6_sum_301 : decode cX6_sum 301 = .ok (.getfield 73, 3) := by decide +kernel
theorem dX6_sum_304 : decode cX6_sum 304 = .ok (.iload 7, 2) := by decide +kernel
theorem dX6_sum_306 : decode cX6_sum 306 = .ok (.laload, 1) := by decide +kernel
theorem dX6_sum_307 : decode cX6_sum 307 = .ok (.lcmp, 1) := by decide +kernel
theorem dX6_sum_308 : decode cX6_sum 308 = .ok (.ifCond .eq 7, 3) := by decide +kernel
theorem dX6_sum_311 : decode cX6_sum 311 = .ok (.iconst 1, 1) := by decide +kernel
theorem dX6_sum_312 : decode cX6_sum 312 = .ok (.goto 4, 3) := by decide +kernel
theorem dX6_sum_315 : decode cX6_sum 315 = .ok (.iconst 0, 1) := by decide +kernel
theorem dX6_sum_316 : decode cX6_sum 316 = .ok (.istore 11, 2) := by decide +kernel
theorem dX6_sum_318 : decode cX6_sum 318 = .ok (.aload_n 0, 1) := by decide +kernel
theorem dX6_sum_319 : decode cX6_sum 319 = .ok (.getfield 70, 3) := by decide +kernel
theorem dX6_sum_322 : decode cX6_sum 322 = .ok (.iconst 0, 1) := by decide +kernel
theorem dX6_sum_323 : decode cX6_sum 323 = .ok (.baload, 1) := by decide +kernel
theorem dX6_sum_324 : decode cX6_sum 324 = .ok (.aload_n 0, 1) := by decide +kernel
theorem dX6_sum_325 : decode cX6_sum 325 = .ok (.getfield 70, 3) := by decide +kernel
theorem dX6_sum_328 : decode cX6_sum 328 = .ok (.iconst 1, 1) := by decide +kernel
theorem dX6_sum_329 : decode cX6_sum 329 = .ok (.baload, 1) := by decide +kernel
theorem dX6_sum_330 : decode cX6_sum 330 = .ok (.if_icmp .ne 34, 3) := by decide +kernel
theorem dX6_sum_333 : decode cX6_sum 333 = .ok (.aload_n 0, 1) := by decide +kernel
theorem dX6_sum_334 : decode cX6_sum 334 = .ok (.iload_n 1, 1) := by decide +kernel
theorem dX6_sum_335 : decode cX6_sum 335 = .ok (.aload_n 0, 1) := by decide +kernel
theorem dX6_sum_336 : decode cX6_sum 336 = .ok (.getfield 70, 3) := by decide +kernel
theorem dX6_sum_339 : decode cX6_sum 339 = .ok (.iconst 0, 1) := by decide +kernel
theorem dX6_sum_340 : decode cX6_sum 340 = .ok (.baload, 1) := by decide +kernel
theorem dX6_sum_341 : decode cX6_sum 341 = .ok (.aload_n 0, 1) := by decide +kernel
theorem dX6_sum_342 : decode cX6_sum 342 = .ok (.getfield 73, 3) := by decide +kernel
theorem dX6_sum_345 : decode cX6_sum 345 = .ok (.iload 6, 2) := by decide +kernel
theorem dX6_sum_347 : decode cX6_sum 347 = .ok (.laload, 1) := by decide +kernel
theorem dX6_sum_348 : decode cX6_sum 348 = .ok (.lload 9, 2) := by decide +kernel
theorem dX6_sum_350 : decode cX6_sum 350 = .ok (.ladd, 1) := by decide +kernel
theorem dX6_sum_351 : decode cX6_sum 351 = .ok (.aload_n 0, 1) := by decide +kernel
theorem dX6_sum_352 : decode cX6_sum 352 = .ok (.getfield 67, 3) := by decide +kernel
theorem dX6_sum_355 : decode cX6_sum 355 = .ok (.iload 6, 2) := by decide +kernel
theorem dX6_sum_357 : decode cX6_sum 357 = .ok (.iaload, 1) := by decide +kernel
theorem dX6_sum_358 : decode cX6_sum 358 = .ok (.iload 11, 2) := by decide +kernel
theorem dX6_sum_360 : decode cX6_sum 360 = .ok (.invokevirtual 122, 3) := by decide +kernel
theorem dX6_sum_363 : decode cX6_sum 363 = .ok (.lreturn, 1) := by decide +kernel
theorem dX6_sum_364 : decode cX6_sum 364 = .ok (.aload_n 0, 1) := by decide +kernel
theorem dX6_sum_365 : decode cX6_sum 365 = .ok (.getfield 73, 3) := by decide +kernel
theorem dX6_sum_368 : decode cX6_sum 368 = .ok (.iload 6, 2) := by decide +kernel
theorem dX6_sum_370 : decode cX6_sum 370 = .ok (.laload, 1) := by decide +kernel
theorem dX6_sum_371 : decode cX6_sum 371 = .ok (.lload 9, 2) := by decide +kernel
theorem dX6_sum_373 : decode cX6_sum 373 = .ok (.lsub, 1) := by decide +kernel
theorem dX6_sum_374 : decode cX6_sum 374 = .ok (.iload 11, 2) := by decide +kernel
theorem dX6_sum_376 : decode cX6_sum 376 = .ok (.ifCond .eq 7, 3) := by decide +kernel
theorem dX6_sum_379 : decode cX6_sum 379 = .ok (.iconst 1, 1) := by decide +kernel
theorem dX6_sum_380 : decode cX6_sum 380 = .ok (.goto 4, 3) := by decide +kernel
theorem dX6_sum_383 : decode cX6_sum 383 = .ok (.iconst 0, 1) := by decide +kernel
theorem dX6_sum_384 : decode cX6_sum 384 = .ok (.i2l, 1) := by decide +kernel
theorem dX6_sum_385 : decode cX6_sum 385 = .ok (.lsub, 1) := by decide +kernel
theorem dX6_sum_386 : decode cX6_sum 386 = .ok (.lstore 12, 2) := by decide +kernel
theorem dX6_sum_388 : decode cX6_sum 388 = .ok (.lload 12, 2) := by decide +kernel
theorem dX6_sum_390 : decode cX6_sum 390 = .ok (.lconst 0, 1) := by decide +kernel
theorem dX6_sum_391 : decode cX6_sum 391 = .ok (.lcmp, 1) := by decide +kernel
theorem dX6_sum_392 : decode cX6_sum 392 = .ok (.ifCond .ne 7, 3) := by decide +kernel
theorem dX6_sum_395 : decode cX6_sum 395 = .ok (.lconst 0, 1) := by decide +kernel
theorem dX6_sum_396 : decode cX6_sum 396 = .ok (.goto 26, 3) := by decide +kernel
theorem dX6_sum_399 : decode cX6_sum 399 = .ok (.aload_n 0, 1) := by decide +kernel
theorem dX6_sum_400 : decode cX6_sum 400 = .ok (.iload_n 1, 1) := by decide +kernel
theorem dX6_sum_401 : decode cX6_sum 401 = .ok (.aload_n 0, 1) := by decide +kernel
theorem dX6_sum_402 : decode cX6_sum 402 = .ok (.getfield 70, 3) := by decide +kernel
theorem dX6_sum_405 : decode cX6_sum 405 = .ok (.iload 6, 2) := by decide +kernel
theorem dX6_sum_407 : decode cX6_sum 407 = .ok (.baload, 1) := by decide +kernel
theorem dX6_sum_408 : decode cX6_sum 408 = .ok (.lload 12, 2) := by decide +kernel
theorem dX6_sum_410 : decode cX6_sum 410 = .ok (.aload_n 0, 1) := by decide +kernel
theorem dX6_sum_411 : decode cX6_sum 411 = .ok (.getfield 67, 3) := by decide +kernel
theorem dX6_sum_414 : decode cX6_sum 414 = .ok (.iload 6, 2) := by decide +kernel
theorem dX6_sum_416 : decode cX6_sum 416 = .ok (.iaload, 1) := by decide +kernel
theorem dX6_sum_417 : decode cX6_sum 417 = .ok (.iload 11, 2) := by decide +kernel
theorem dX6_sum_419 : decode cX6_sum 419 = .ok (.invokevirtual 122, 3) := by decide +kernel
theorem dX6_sum_422 : decode cX6_sum 422 = .ok (.lreturn, 1) := by decide +kernel
theorem dX6_product_0 : decode cX6_product 0 = .ok (.aload_n 0, 1) := by decide +kernel
theorem dX6_product_1 : decode cX6_product 1 = .ok (.iconst 0, 1) := by decide +kernel
theorem dX6_product_2 : decode cX6_product 2 = .ok (.lload_n 2, 1) := by decide +kernel
theorem dX6_product_3 : decode cX6_product 3 = .ok (.iload_n 1, 1) := by decide +kernel
theorem dX6_product_4 : decode cX6_product 4 = .ok (.invokevirtual 111, 3) := by decide +kernel
theorem dX6_product_7 : decode cX6_product 7 = .ok (.aload_n 0, 1) := by decide +kernel
theorem dX6_product_8 : decode cX6_product 8 = .ok (.iconst 1, 1) := by decide +kernel
theorem dX6_product_9 : decode cX6_product 9 = .ok (.lload 4, 2) := by decide +kernel
theorem dX6_product_11 : decode cX6_product 11 = .ok (.iload_n 1, 1) := by decide +kernel
theorem dX6_product_12 : decode cX6_product 12 = .ok (.invokevirtual 111, 3) := by decide +kernel
theorem dX6_product_15 : decode cX6_product 15 = .ok (.aload_n 0, 1) := by decide +kernel
theorem dX6_product_16 : decode cX6_product 16 = .ok (.getfield 70, 3) := by decide +kernel
theorem dX6_product_19 : decode cX6_product 19 = .ok (.iconst 0, 1) := by decide +kernel
theorem dX6_product_20 : decode cX6_product 20 = .ok (.baload, 1) := by decide +kernel
theorem dX6_product_21 : decode cX6_product 21 = .ok (.aload_n 0, 1) := by decide +kernel
theorem dX6_product_22 : decode cX6_product 22 = .ok (.getfield 70, 3) := by decide +kernel
theorem dX6_product_25 : decode cX6_product 25 = .ok (.iconst 1, 1) := by decide +kernel
theorem dX6_product_26 : decode cX6_product 26 = .ok (.baload, 1) := by decide +kernel
theorem dX6_product_27 : decode cX6_product 27 = .ok (.if_icmp .eq 7, 3) := by decide +kernel
theorem dX6_product_30 : decode cX6_product 30 = .ok (.iconst 1, 1) := by decide +kernel
theorem dX6_product_31 : decode cX6_product 31 = .ok (.goto 4, 3) := by decide +kernel
theorem dX6_product_34 : decode cX6_product 34 = .ok (.iconst 0, 1) := by decide +kernel
theorem dX6_product_35 : decode cX6_product 35 = .ok (.istore 6, 2) := by decide +kernel
theorem dX6_product_37 : decode cX6_product 37 = .ok (.aload_n 0, 1) := by decide +kernel
theorem dX6_product_38 : decode cX6_product 38 = .ok (.getfield 64, 3) := by decide +kernel
theorem dX6_product_41 : decode cX6_product 41 = .ok (.iconst 0, 1) := by decide +kernel
theorem dX6_product_42 : decode cX6_product 42 = .ok (.iaload, 1) := by decide +kernel
theorem dX6_product_43 : decode cX6_product 43 = .ok (.ifCond .eq 12, 3) := by decide +kernel
theorem dX6_product_46 : decode cX6_product 46 = .ok (.aload_n 0, 1) := by decide +kernel
theorem dX6_product_47 : decode cX6_product 47 = .ok (.getfield 64, 3) := by decide +kernel
theorem dX6_product_50 : decode cX6_product 50 = .ok (.iconst 1, 1) := by decide +kernel
theorem dX6_product_51 : decode cX6_product 51 = .ok (.iaload, 1) := by decide +kernel
theorem dX6_product_52 : decode cX6_product 52 = .ok (.ifCond .ne 7, 3) := by decide +kernel
theorem dX6_product_55 : decode cX6_product 55 = .ok (.iconst 1, 1) := by decide +kernel
theorem dX6_product_56 : decode cX6_product 56 = .ok (.goto 4, 3) := by decide +kernel
theorem dX6_product_59 : decode cX6_product 59 = .ok (.iconst 0, 1) := by decide +kernel
theorem dX6_product_60 : decode cX6_product 60 = .ok (.istore 7, 2) := by decide +kernel
theorem dX6_product_62 : decode cX6_product 62 = .ok (.aload_n 0, 1) := by decide +kernel
theorem dX6_product_63 : decode cX6_product 63 = .ok (.getfield 64, 3) := by decide +kernel
theorem dX6_product_66 : decode cX6_product 66 = .ok (.iconst 0, 1) := by decide +kernel
theorem dX6_product_67 : decode cX6_product 67 = .ok (.iaload, 1) := by decide +kernel
theorem dX6_product_68 : decode cX6_product 68 = .ok (.iconst 2, 1) := by decide +kernel
theorem dX6_product_69 : decode cX6_product 69 = .ok (.if_icmp .eq 13, 3) := by decide +kernel
theorem dX6_product_72 : decode cX6_product 72 = .ok (.aload_n 0, 1) := by decide +kernel
theorem dX6_product_73 : decode cX6_product 73 = .ok (.getfield 64, 3) := by decide +kernel
theorem dX6_product_76 : decode cX6_product 76 = .ok (.iconst 1, 1) := by decide +kernel
theorem dX6_product_77 : decode cX6_product 77 = .ok (.iaload, 1) := by decide +kernel
theorem dX6_product_78 : decode cX6_product 78 = .ok (.iconst 2, 1) := by decide +kernel
theorem dX6_product_79 : decode cX6_product 79 = .ok (.if_icmp .ne 7, 3) := by decide +kernel
theorem dX6_product_82 : decode cX6_product 82 = .ok (.iconst 1, 1) := by decide +kernel
theorem dX6_product_83 : decode cX6_product 83 = .ok (.goto 4, 3) := by decide +kernel
theorem dX6_product_86 : decode cX6_product 86 = .ok (.iconst 0, 1) := by decide +kernel
theorem dX6_product_87 : decode cX6_product 87 = .ok (.istore 8, 2) := by decide +kernel
theorem dX6_product_89 : decode cX6_product 89 = .ok (.aload_n 0, 1) := by decide +kernel
theorem dX6_product_90 : decode cX6_product 90 = .ok (.getfield 64, 3) := by decide +kernel
theorem dX6_product_93 : decode cX6_product 93 = .ok (.iconst 0, 1) := by decide +kernel
theorem dX6_product_94 : decode cX6_product 94 = .ok (.iaload, 1) := by decide +kernel
theorem dX6_product_95 : decode cX6_product 95 = .ok (.iconst 3, 1) := by decide +kernel
theorem dX6_product_96 : decode cX6_product 96 = .ok (.if_icmp .eq 23, 3) := by decide +kernel
theorem dX6_product_99 : decode cX6_product 99 = .ok (.aload_n 0, 1) := by decide +kernel
theorem dX6_product_100 : decode cX6_product 100 = .ok (.getfield 64, 3) := by decide +kernel
theorem dX6_product_103 : decode cX6_product 103 = .ok (.iconst 1, 1) := by decide +kernel
theorem dX6_product_104 : decode cX6_product 104 = .ok (.iaload, 1) := by decide +kernel
theorem dX6_product_105 : decode cX6_product 105 = .ok (.iconst 3, 1) := by decide +kernel
theorem dX6_product_106 : decode cX6_product 106 = .ok (.if_icmp .eq 13, 3) := by decide +kernel
theorem dX6_product_109 : decode cX6_product 109 = .ok (.iload 7, 2) := by decide +kernel
theorem dX6_product_111 : decode cX6_product 111 = .ok (.ifCond .eq 14, 3) := by decide +kernel
theorem dX6_product_114 : decode cX6_product 114 = .ok (.iload 8, 2) := by decide +kernel
theorem dX6_product_116 : decode cX6_product 116 = .ok (.ifCond .eq 9, 3) := by decide +kernel
theorem dX6_product_119 : decode cX6_product 119 = .ok (.aload_n 0, 1) := by decide +kernel
theorem dX6_product_120 : decode cX6_product 120 = .ok (.iload_n 1, 1) := by decide +kernel
theorem dX6_product_121 : decode cX6_product 121 = .ok (.invokevirtual 115, 3) := by decide +kernel
theorem dX6_product_124 : decode cX6_product 124 = .ok (.lreturn, 1) := by decide +kernel
theorem dX6_product_125 : decode cX6_product 125 = .ok (.iload 7, 2) := by decide +kernel
theorem dX6_product_127 : decode cX6_product 127 = .ok (.ifCond .ne 8, 3) := by decide +kernel
theorem dX6_product_130 : decode cX6_product 130 = .ok (.iload 8, 2) := by decide +kernel
theorem dX6_product_132 : decode cX6_product 132 = .ok (.ifCond .eq 25, 3) := by decide +kernel
theorem dX6_product_135 : decode cX6_product 135 = .ok (.aload_n 0, 1) := by decide +kernel
theorem dX6_product_136 : decode cX6_product 136 = .ok (.iload_n 1, 1) := by decide +kernel
theorem dX6_product_137 : decode cX6_product 137 = .ok (.iload 6, 2) := by decide +kernel
theorem dX6_product_139 : decode cX6_product 139 = .ok (.iload 7, 2) := by decide +kernel
theorem dX6_product_141 : decode cX6_product 141 = .ok (.ifCond .eq 7, 3) := by decide +kernel
theorem dX6_product_144 : decode cX6_product 144 = .ok (.lconst 0, 1) := by decide +kernel
theorem dX6_product_145 : decode cX6_product 145 = .ok (.goto 8, 3) := by decide +kernel
theorem dX6_product_148 : decode cX6_product 148 = .ok (.aload_n 0, 1) := by decide +kernel
theorem dX6_product_149 : decode cX6_product 149 = .ok (.iload_n 1, 1) := by decide +kernel
theorem dX6_product_150 : decode cX6_product 150 = .ok (.invokevirtual 103, 3) := by decide +kernel
theorem dX6_product_153 : decode cX6_product 153 = .ok (.invokevirtual 107, 3) := by decide +kernel
theorem dX6_product_156 : decode cX6_product 156 = .ok (.lreturn, 1) := by decide +kernel
theorem dX6_product_157 : decode cX6_product 157 = .ok (.aload_n 0, 1) := by decide +kernel
theorem dX6_product_158 : decode cX6_product 158 = .ok (.iconst 0, 1) := by decide +kernel
theorem dX6_product_159 : decode cX6_product 159 = .ok (.invokevirtual 118, 3) := by decide +kernel
theorem dX6_product_162 : decode cX6_product 162 = .ok (.aload_n 0, 1) := by decide +kernel
theorem dX6_product_163 : decode cX6_product 163 = .ok (.iconst 1, 1) := by decide +kernel
theorem dX6_product_164 : decode cX6_product 164 = .ok (.invokevirtual 118, 3) := by decide +kernel
theorem dX6_product_167 : decode cX6_product 167 = .ok (.aload_n 0, 1) := by decide +kernel
theorem dX6_product_168 : decode cX6_product 168 = .ok (.getfield 73, 3) := by decide +kernel
theorem dX6_product_171 : decode cX6_product 171 = .ok (.iconst 0, 1) := by decide +kernel
theorem dX6_product_172 : decode cX6_product 172 = .ok (.laload, 1) := by decide +kernel
theorem dX6_product_173 : decode cX6_product 173 = .ok (.bipush 31, 2) := by decide +kernel
theorem dX6_product_175 : decode cX6_product 175 = .ok (.lshr, 1) := by decide +kernel
theorem dX6_product_176 : decode cX6_product 176 = .ok (.lstore 9, 2) := by decide +kernel
theorem dX6_product_178 : decode cX6_product 178 = .ok (.aload_n 0, 1) := by decide +kernel
theorem dX6_product_179 : decode cX6_product 179 = .ok (.getfield 73, 3) := by decide +kernel
theorem dX6_product_182 : decode cX6_product 182 = .ok (.iconst 0, 1) := by decide +kernel
theorem dX6_product_183 : decode cX6_product 183 = .ok (.laload, 1) := by decide +kernel
theorem dX6_product_184 : decode cX6_product 184 = .ok (.ldc2_w 94, 3) := by decide +kernel
theorem dX6_product_187 : decode cX6_product 187 = .ok (.land, 1) := by decide +kernel
theorem dX6_product_188 : decode cX6_product 188 = .ok (.lstore 11, 2) := by decide +kernel
theorem dX6_product_190 : decode cX6_product 190 = .ok (.aload_n 0, 1) := by decide +kernel
theorem dX6_product_191 : decode cX6_product 191 = .ok (.getfield 73, 3) := by decide +kernel
theorem dX6_product_194 : decode cX6_product 194 = .ok (.iconst 1, 1) := by decide +kernel
theorem dX6_product_195 : decode cX6_product 195 = .ok (.laload, 1) := by decide +kernel
theorem dX6_product_196 : decode cX6_product 196 = .ok (.bipush 31, 2) := by decide +kernel
theorem dX6_product_198 : decode cX6_product 198 = .ok (.lshr, 1) := by decide +kernel
theorem dX6_product_199 : decode cX6_product 199 = .ok (.lstore 13, 2) := by decide +kernel
theorem dX6_product_201 : decode cX6_product 201 = .ok (.aload_n 0, 1) := by decide +kernel
theorem dX6_product_202 : decode cX6_product 202 = .ok (.getfield 73, 3) := by decide +kernel
theorem dX6_product_205 : decode cX6_product 205 = .ok (.iconst 1, 1) := by decide +kernel
theorem dX6_product_206 : decode cX6_product 206 = .ok (.laload, 1) := by decide +kernel
theorem dX6_product_207 : decode cX6_product 207 = .ok (.ldc2_w 94, 3) := by decide +kernel
theorem dX6_product_210 : decode cX6_product 210 = .ok (.land, 1) := by decide +kernel
theorem dX6_product_211 : decode cX6_product 211 = .ok (.lstore 15, 2) := by decide +kernel
theorem dX6_product_213 : decode cX6_product 213 = .ok (.lload 11, 2) := by decide +kernel
theorem dX6_product_215 : decode cX6_product 215 = .ok (.lload 15, 2) := by decide +kernel
theorem dX6_product_217 : decode cX6_product 217 = .ok (.lmul, 1) := by decide +kernel
theorem dX6_product_218 : decode cX6_product 218 = .ok (.lstore 17, 2) := by decide +kernel
theorem dX6_product_220 : decode cX6_product 220 = .ok (.lload 9, 2) := by decide +kernel
theorem dX6_product_222 : decode cX6_product 222 = .ok (.lload 15, 2) := by decide +kernel
theorem dX6_product_224 : decode cX6_product 224 = .ok (.lmul, 1) := by decide +kernel
theorem dX6_product_225 : decode cX6_product 225 = .ok (.lload 11, 2) := by decide +kernel
theorem dX6_product_227 : decode cX6_product 227 = .ok (.lload 13, 2) := by decide +kernel
theorem dX6_product_229 : decode cX6_product 229 = .ok (.lmul, 1) := by decide +kernel
theorem dX6_product_230 : decode cX6_product 230 = .ok (.ladd, 1) := by decide +kernel
theorem dX6_product_231 : decode cX6_product 231 = .ok (.lload 17, 2) := by decide +kernel
theorem dX6_product_233 : decode cX6_product 233 = .ok (.bipush 31, 2) := by decide +kernel
theorem dX6_product_235 : decode cX6_product 235 = .ok (.lshr, 1) := by decide +kernel
theorem dX6_product_236 : decode cX6_product 236 = .ok (.ladd, 1) := by decide +kernel
theorem dX6_product_237 : decode cX6_product 237 = .ok (.lstore 19, 2) := by decide +kernel
theorem dX6_product_239 : decode cX6_product 239 = .ok (.lload 17, 2) := by decide +kernel
theorem dX6_product_241 : decode cX6_product 241 = .ok (.ldc2_w 94, 3) := by decide +kernel
theorem dX6_product_244 : decode cX6_product 244 = .ok (.land, 1) := by decide +kernel
theorem dX6_product_245 : decode cX6_product 245 = .ok (.lconst 0, 1) := by decide +kernel
theorem dX6_product_246 : decode cX6_product 246 = .ok (.lcmp, 1) := by decide +kernel
theorem dX6_product_247 : decode cX6_product 247 = .ok (.ifCond .ne 14, 3) := by decide +kernel
theorem dX6_product_250 : decode cX6_product 250 = .ok (.lload 19, 2) := by decide +kernel
theorem dX6_product_252 : decode cX6_product 252 = .ok (.ldc2_w 94, 3) := by decide +kernel
theorem dX6_product_255 : decode cX6_product 255 = .ok (.land, 1) := by decide +kernel
theorem dX6_product_256 : decode cX6_product 256 = .ok (.lconst 0, 1) := by decide +kernel
theorem dX6_product_257 : decode cX6_product 257 = .ok (.lcmp, 1) := by decide +kernel
theorem dX6_product_258 : decode cX6_product 258 = .ok (.ifCond .eq 7, 3) := by decide +kernel
theorem dX6_product_261 : decode cX6_product 261 = .ok (.iconst 1, 1) := by decide +kernel
theorem dX6_product_262 : decode cX6_product 262 = .ok (.goto 4, 3) := by decide +kernel
theorem dX6_product_265 : decode cX6_product 265 = .ok (.iconst 0, 1) := by decide +kernel
theorem dX6_product_266 : decode cX6_product 266 = .ok (.istore 21, 2) := by decide +kernel
theorem dX6_product_268 : decode cX6_product 268 = .ok (.aload_n 0, 1) := by decide +kernel
theorem dX6_product_269 : decode cX6_product 269 = .ok (.iload_n 1, 1) := by decide +kernel
theorem dX6_product_270 : decode cX6_product 270 = .ok (.iload 6, 2) := by decide +kernel
theorem dX6_product_272 : decode cX6_product 272 = .ok (.lload 9, 2) := by decide +kernel
theorem dX6_product_274 : decode cX6_product 274 = .ok (.lload 13, 2) := by decide +kernel
theorem dX6_product_276 : decode cX6_product 276 = .ok (.lmul, 1) := by decide +kernel
theorem dX6_product_277 : decode cX6_product 277 = .ok (.lload 19, 2) := by decide +kernel
theorem dX6_product_279 : decode cX6_product 279 = .ok (.bipush 31, 2) := by decide +kernel
theorem dX6_product_281 : decode cX6_product 281 = .ok (.lshr, 1) := by decide +kernel
theorem dX6_product_282 : decode cX6_product 282 = .ok (.ladd, 1) := by decide +kernel
theorem dX6_product_283 : decode cX6_product 283 = .ok (.aload_n 0, 1) := by decide +kernel
theorem dX6_product_284 : decode cX6_product 284 = .ok (.getfield 67, 3) := by decide +kernel
theorem dX6_product_287 : decode cX6_product 287 = .ok (.iconst 0, 1) := by decide +kernel
theorem dX6_product_288 : decode cX6_product 288 = .ok (.iaload, 1) := by decide +kernel
theorem dX6_product_289 : decode cX6_product 289 = .ok (.aload_n 0, 1) := by decide +kernel
theorem dX6_product_290 : decode cX6_product 290 = .ok (.getfield 67, 3) := by decide +kernel
theorem dX6_product_293 : decode cX6_product 293 = .ok (.iconst 1, 1) := by decide +kernel
theorem dX6_product_294 : decode cX6_product 294 = .ok (.iaload, 1) := by decide +kernel
theorem dX6_product_295 : decode cX6_product 295 = .ok (.iadd, 1) := by decide +kernel
theorem dX6_product_296 : decode cX6_product 296 = .ok (.bipush 62, 2) := by decide +kernel
theorem dX6_product_298 : decode cX6_product 298 = .ok (.iadd, 1) := by decide +kernel
theorem dX6_product_299 : decode cX6_product 299 = .ok (.iload 21, 2) := by decide +kernel
theorem dX6_product_301 : decode cX6_product 301 = .ok (.invokevirtual 122, 3) := by decide +kernel
theorem dX6_product_304 : decode cX6_product 304 = .ok (.lreturn, 1) := by decide +kernel
theorem dX6_quotient_0 : decode cX6_quotient 0 = .ok (.aload_n 0, 1) := by decide +kernel
theorem dX6_quotient_1 : decode cX6_quotient 1 = .ok (.iconst 0, 1) := by decide +kernel
theorem dX6_quotient_2 : decode cX6_quotient 2 = .ok (.lload_n 2, 1) := by decide +kernel
theorem dX6_quotient_3 : decode cX6_quotient 3 = .ok (.iload_n 1, 1) := by decide +kernel
theorem dX6_quotient_4 : decode cX6_quotient 4 = .ok (.invokevirtual 111, 3) := by decide +kernel
