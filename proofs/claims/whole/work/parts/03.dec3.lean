theorem dX6_array_152 : decode cX6_array 152 = .ok (.iload_n 2, 1) := by decide +kernel
theorem dX6_array_153 : decode cX6_array 153 = .ok (.iastore, 1) := by decide +kernel
theorem dX6_array_154 : decode cX6_array 154 = .ok (.aload_n 0, 1) := by decide +kernel
theorem dX6_array_155 : decode cX6_array 155 = .ok (.getfield 30, 3) := by decide +kernel
theorem dX6_array_158 : decode cX6_array 158 = .ok (.iload 4, 2) := by decide +kernel
theorem dX6_array_160 : decode cX6_array 160 = .ok (.aload_n 0, 1) := by decide +kernel
theorem dX6_array_161 : decode cX6_array 161 = .ok (.getfield 16, 3) := by decide +kernel
theorem dX6_array_164 : decode cX6_array 164 = .ok (.iload_n 3, 1) := by decide +kernel
theorem dX6_array_165 : decode cX6_array 165 = .ok (.laload, 1) := by decide +kernel
theorem dX6_array_166 : decode cX6_array 166 = .ok (.l2i, 1) := by decide +kernel
theorem dX6_array_167 : decode cX6_array 167 = .ok (.iastore, 1) := by decide +kernel
theorem dX6_array_168 : decode cX6_array 168 = .ok (.iconst 0, 1) := by decide +kernel
theorem dX6_array_169 : decode cX6_array 169 = .ok (.istore 5, 2) := by decide +kernel
theorem dX6_array_171 : decode cX6_array 171 = .ok (.iload 5, 2) := by decide +kernel
theorem dX6_array_173 : decode cX6_array 173 = .ok (.bipush 12, 2) := by decide +kernel
theorem dX6_array_175 : decode cX6_array 175 = .ok (.if_icmp .ge 27, 3) := by decide +kernel
theorem dX6_array_178 : decode cX6_array 178 = .ok (.aload_n 0, 1) := by decide +kernel
theorem dX6_array_179 : decode cX6_array 179 = .ok (.bipush 8, 2) := by decide +kernel
theorem dX6_array_181 : decode cX6_array 181 = .ok (.iload 4, 2) := by decide +kernel
theorem dX6_array_183 : decode cX6_array 183 = .ok (.bipush 12, 2) := by decide +kernel
theorem dX6_array_185 : decode cX6_array 185 = .ok (.imul, 1) := by decide +kernel
theorem dX6_array_186 : decode cX6_array 186 = .ok (.iadd, 1) := by decide +kernel
theorem dX6_array_187 : decode cX6_array 187 = .ok (.iload 5, 2) := by decide +kernel
theorem dX6_array_189 : decode cX6_array 189 = .ok (.iadd, 1) := by decide +kernel
theorem dX6_array_190 : decode cX6_array 190 = .ok (.lconst 0, 1) := by decide +kernel
theorem dX6_array_191 : decode cX6_array 191 = .ok (.iconst 0, 1) := by decide +kernel
theorem dX6_array_192 : decode cX6_array 192 = .ok (.iconst 1, 1) := by decide +kernel
theorem dX6_array_193 : decode cX6_array 193 = .ok (.invokevirtual 148, 3) := by decide +kernel
theorem dX6_array_196 : decode cX6_array 196 = .ok (.iinc 5 1, 3) := by decide +kernel
theorem dX6_array_199 : decode cX6_array 199 = .ok (.goto (-28), 3) := by decide +kernel
theorem dX6_array_202 : decode cX6_array 202 = .ok (.iconst 0, 1) := by decide +kernel
theorem dX6_array_203 : decode cX6_array 203 = .ok (.ireturn, 1) := by decide +kernel
theorem dX6_drop_0 : decode cX6_drop 0 = .ok (.aload_n 0, 1) := by decide +kernel
theorem dX6_drop_1 : decode cX6_drop 1 = .ok (.iload_n 1, 1) := by decide +kernel
theorem dX6_drop_2 : decode cX6_drop 2 = .ok (.iconst 4, 1) := by decide +kernel
theorem dX6_drop_3 : decode cX6_drop 3 = .ok (.invokevirtual 140, 3) := by decide +kernel
theorem dX6_drop_6 : decode cX6_drop 6 = .ok (.ifCond .eq 5, 3) := by decide +kernel
theorem dX6_drop_9 : decode cX6_drop 9 = .ok (.iconst (-1), 1) := by decide +kernel
theorem dX6_drop_10 : decode cX6_drop 10 = .ok (.ireturn, 1) := by decide +kernel
theorem dX6_drop_11 : decode cX6_drop 11 = .ok (.aload_n 0, 1) := by decide +kernel
theorem dX6_drop_12 : decode cX6_drop 12 = .ok (.getfield 24, 3) := by decide +kernel
theorem dX6_drop_15 : decode cX6_drop 15 = .ok (.iload_n 1, 1) := by decide +kernel
theorem dX6_drop_16 : decode cX6_drop 16 = .ok (.iconst (-1), 1) := by decide +kernel
theorem dX6_drop_17 : decode cX6_drop 17 = .ok (.iastore, 1) := by decide +kernel
theorem dX6_drop_18 : decode cX6_drop 18 = .ok (.iconst 0, 1) := by decide +kernel
theorem dX6_drop_19 : decode cX6_drop 19 = .ok (.ireturn, 1) := by decide +kernel
theorem dX6_share_0 : decode cX6_share 0 = .ok (.aload_n 0, 1) := by decide +kernel
theorem dX6_share_1 : decode cX6_share 1 = .ok (.iload_n 1, 1) := by decide +kernel
theorem dX6_share_2 : decode cX6_share 2 = .ok (.iconst 4, 1) := by decide +kernel
theorem dX6_share_3 : decode cX6_share 3 = .ok (.invokevirtual 140, 3) := by decide +kernel
theorem dX6_share_6 : decode cX6_share 6 = .ok (.ifCond .ne 12, 3) := by decide +kernel
theorem dX6_share_9 : decode cX6_share 9 = .ok (.aload_n 0, 1) := by decide +kernel
theorem dX6_share_10 : decode cX6_share 10 = .ok (.iload_n 2, 1) := by decide +kernel
theorem dX6_share_11 : decode cX6_share 11 = .ok (.iconst 4, 1) := by decide +kernel
theorem dX6_share_12 : decode cX6_share 12 = .ok (.invokevirtual 140, 3) := by decide +kernel
theorem dX6_share_15 : decode cX6_share 15 = .ok (.ifCond .eq 5, 3) := by decide +kernel
theorem dX6_share_18 : decode cX6_share 18 = .ok (.iconst (-1), 1) := by decide +kernel
theorem dX6_share_19 : decode cX6_share 19 = .ok (.ireturn, 1) := by decide +kernel
theorem dX6_share_20 : decode cX6_share 20 = .ok (.aload_n 0, 1) := by decide +kernel
theorem dX6_share_21 : decode cX6_share 21 = .ok (.getfield 24, 3) := by decide +kernel
theorem dX6_share_24 : decode cX6_share 24 = .ok (.iload_n 1, 1) := by decide +kernel
theorem dX6_share_25 : decode cX6_share 25 = .ok (.aload_n 0, 1) := by decide +kernel
theorem dX6_share_26 : decode cX6_share 26 = .ok (.getfield 24, 3) := by decide +kernel
theorem dX6_share_29 : decode cX6_share 29 = .ok (.iload_n 2, 1) := by decide +kernel
theorem dX6_share_30 : decode cX6_share 30 = .ok (.iaload, 1) := by decide +kernel
theorem dX6_share_31 : decode cX6_share 31 = .ok (.iastore, 1) := by decide +kernel
theorem dX6_share_32 : decode cX6_share 32 = .ok (.iconst 0, 1) := by decide +kernel
theorem dX6_share_33 : decode cX6_share 33 = .ok (.ireturn, 1) := by decide +kernel
theorem dX6_kindOf_0 : decode cX6_kindOf 0 = .ok (.iload_n 1, 1) := by decide +kernel
theorem dX6_kindOf_1 : decode cX6_kindOf 1 = .ok (.iconst 5, 1) := by decide +kernel
theorem dX6_kindOf_2 : decode cX6_kindOf 2 = .ok (.if_icmp .ge 7, 3) := by decide +kernel
theorem dX6_kindOf_5 : decode cX6_kindOf 5 = .ok (.iconst 0, 1) := by decide +kernel
theorem dX6_kindOf_6 : decode cX6_kindOf 6 = .ok (.goto 6, 3) := by decide +kernel
theorem dX6_kindOf_9 : decode cX6_kindOf 9 = .ok (.iload_n 1, 1) := by decide +kernel
theorem dX6_kindOf_10 : decode cX6_kindOf 10 = .ok (.iconst 4, 1) := by decide +kernel
theorem dX6_kindOf_11 : decode cX6_kindOf 11 = .ok (.isub, 1) := by decide +kernel
theorem dX6_kindOf_12 : decode cX6_kindOf 12 = .ok (.ireturn, 1) := by decide +kernel
theorem dX6_load_0 : decode cX6_load 0 = .ok (.aload_n 0, 1) := by decide +kernel
theorem dX6_load_1 : decode cX6_load 1 = .ok (.iload_n 1, 1) := by decide +kernel
theorem dX6_load_2 : decode cX6_load 2 = .ok (.bipush 8, 2) := by decide +kernel
theorem dX6_load_4 : decode cX6_load 4 = .ok (.invokevirtual 140, 3) := by decide +kernel
theorem dX6_load_7 : decode cX6_load 7 = .ok (.ifCond .ne 31, 3) := by decide +kernel
theorem dX6_load_10 : decode cX6_load 10 = .ok (.aload_n 0, 1) := by decide +kernel
theorem dX6_load_11 : decode cX6_load 11 = .ok (.iload_n 2, 1) := by decide +kernel
theorem dX6_load_12 : decode cX6_load 12 = .ok (.iconst 4, 1) := by decide +kernel
theorem dX6_load_13 : decode cX6_load 13 = .ok (.invokevirtual 140, 3) := by decide +kernel
theorem dX6_load_16 : decode cX6_load 16 = .ok (.ifCond .ne 22, 3) := by decide +kernel
theorem dX6_load_19 : decode cX6_load 19 = .ok (.aload_n 0, 1) := by decide +kernel
theorem dX6_load_20 : decode cX6_load 20 = .ok (.iload_n 3, 1) := by decide +kernel
theorem dX6_load_21 : decode cX6_load 21 = .ok (.bipush 8, 2) := by decide +kernel
theorem dX6_load_23 : decode cX6_load 23 = .ok (.invokevirtual 140, 3) := by decide +kernel
theorem dX6_load_26 : decode cX6_load 26 = .ok (.ifCond .ne 12, 3) := by decide +kernel
theorem dX6_load_29 : decode cX6_load 29 = .ok (.aload_n 0, 1) := by decide +kernel
theorem dX6_load_30 : decode cX6_load 30 = .ok (.getfield 7, 3) := by decide +kernel
theorem dX6_load_33 : decode cX6_load 33 = .ok (.iload_n 3, 1) := by decide +kernel
theorem dX6_load_34 : decode cX6_load 34 = .ok (.iaload, 1) := by decide +kernel
theorem dX6_load_35 : decode cX6_load 35 = .ok (.ifCond .eq 5, 3) := by decide +kernel
theorem dX6_load_38 : decode cX6_load 38 = .ok (.iconst (-1), 1) := by decide +kernel
theorem dX6_load_39 : decode cX6_load 39 = .ok (.ireturn, 1) := by decide +kernel
theorem dX6_load_40 : decode cX6_load 40 = .ok (.aload_n 0, 1) := by decide +kernel
theorem dX6_load_41 : decode cX6_load 41 = .ok (.getfield 24, 3) := by decide +kernel
theorem dX6_load_44 : decode cX6_load 44 = .ok (.iload_n 2, 1) := by decide +kernel
theorem dX6_load_45 : decode cX6_load 45 = .ok (.iaload, 1) := by decide +kernel
theorem dX6_load_46 : decode cX6_load 46 = .ok (.istore 4, 2) := by decide +kernel
theorem dX6_load_48 : decode cX6_load 48 = .ok (.iload 4, 2) := by decide +kernel
theorem dX6_load_50 : decode cX6_load 50 = .ok (.ifCond .ge 10, 3) := by decide +kernel
theorem dX6_load_53 : decode cX6_load 53 = .ok (.aload_n 0, 1) := by decide +kernel
theorem dX6_load_54 : decode cX6_load 54 = .ok (.bipush (-3), 2) := by decide +kernel
theorem dX6_load_56 : decode cX6_load 56 = .ok (.invokevirtual 208, 3) := by decide +kernel
theorem dX6_load_59 : decode cX6_load 59 = .ok (.ireturn, 1) := by decide +kernel
theorem dX6_load_60 : decode cX6_load 60 = .ok (.aload_n 0, 1) := by decide +kernel
theorem dX6_load_61 : decode cX6_load 61 = .ok (.getfield 16, 3) := by decide +kernel
theorem dX6_load_64 : decode cX6_load 64 = .ok (.iload_n 3, 1) := by decide +kernel
theorem dX6_load_65 : decode cX6_load 65 = .ok (.laload, 1) := by decide +kernel
theorem dX6_load_66 : decode cX6_load 66 = .ok (.lconst 0, 1) := by decide +kernel
theorem dX6_load_67 : decode cX6_load 67 = .ok (.lcmp, 1) := by decide +kernel
theorem dX6_load_68 : decode cX6_load 68 = .ok (.ifCond .lt 21, 3) := by decide +kernel
theorem dX6_load_71 : decode cX6_load 71 = .ok (.aload_n 0, 1) := by decide +kernel
theorem dX6_load_72 : decode cX6_load 72 = .ok (.getfield 16, 3) := by decide +kernel
theorem dX6_load_75 : decode cX6_load 75 = .ok (.iload_n 3, 1) := by decide +kernel
theorem dX6_load_76 : decode cX6_load 76 = .ok (.laload, 1) := by decide +kernel
theorem dX6_load_77 : decode cX6_load 77 = .ok (.aload_n 0, 1) := by decide +kernel
theorem dX6_load_78 : decode cX6_load 78 = .ok (.getfield 30, 3) := by decide +kernel
theorem dX6_load_81 : decode cX6_load 81 = .ok (.iload 4, 2) := by decide +kernel
theorem dX6_load_83 : decode cX6_load 83 = .ok (.iaload, 1) := by decide +kernel
theorem dX6_load_84 : decode cX6_load 84 = .ok (.i2l, 1) := by decide +kernel
theorem dX6_load_85 : decode cX6_load 85 = .ok (.lcmp, 1) := by decide +kernel
theorem dX6_load_86 : decode cX6_load 86 = .ok (.ifCond .lt 10, 3) := by decide +kernel
theorem dX6_load_89 : decode cX6_load 89 = .ok (.aload_n 0, 1) := by decide +kernel
theorem dX6_load_90 : decode cX6_load 90 = .ok (.bipush (-4), 2) := by decide +kernel
theorem dX6_load_92 : decode cX6_load 92 = .ok (.invokevirtual 208, 3) := by decide +kernel
theorem dX6_load_95 : decode cX6_load 95 = .ok (.ireturn, 1) := by decide +kernel
theorem dX6_load_96 : decode cX6_load 96 = .ok (.bipush 8, 2) := by decide +kernel
theorem dX6_load_98 : decode cX6_load 98 = .ok (.iload 4, 2) := by decide +kernel
theorem dX6_load_100 : decode cX6_load 100 = .ok (.bipush 12, 2) := by decide +kernel
theorem dX6_load_102 : decode cX6_load 102 = .ok (.imul, 1) := by decide +kernel
theorem dX6_load_103 : decode cX6_load 103 = .ok (.iadd, 1) := by decide +kernel
theorem dX6_load_104 : decode cX6_load 104 = .ok (.aload_n 0, 1) := by decide +kernel
theorem dX6_load_105 : decode cX6_load 105 = .ok (.getfield 16, 3) := by decide +kernel
theorem dX6_load_108 : decode cX6_load 108 = .ok (.iload_n 3, 1) := by decide +kernel
theorem dX6_load_109 : decode cX6_load 109 = .ok (.laload, 1) := by decide +kernel
theorem dX6_load_110 : decode cX6_load 110 = .ok (.l2i, 1) := by decide +kernel
theorem dX6_load_111 : decode cX6_load 111 = .ok (.iadd, 1) := by decide +kernel
theorem dX6_load_112 : decode cX6_load 112 = .ok (.istore 5, 2) := by decide +kernel
theorem dX6_load_114 : decode cX6_load 114 = .ok (.aload_n 0, 1) := by decide +kernel
theorem dX6_load_115 : decode cX6_load 115 = .ok (.iload_n 3, 1) := by decide +kernel
theorem dX6_load_116 : decode cX6_load 116 = .ok (.bipush 41, 2) := by decide +kernel
theorem dX6_load_118 : decode cX6_load 118 = .ok (.invokevirtual 191, 3) := by decide +kernel
theorem dX6_load_121 : decode cX6_load 121 = .ok (.aload_n 0, 1) := by decide +kernel
theorem dX6_load_122 : decode cX6_load 122 = .ok (.getfield 7, 3) := by decide +kernel
theorem dX6_load_125 : decode cX6_load 125 = .ok (.iload_n 1, 1) := by decide +kernel
theorem dX6_load_126 : decode cX6_load 126 = .ok (.aload_n 0, 1) := by decide +kernel
theorem dX6_load_127 : decode cX6_load 127 = .ok (.aload_n 0, 1) := by decide +kernel
theorem dX6_load_128 : decode cX6_load 128 = .ok (.getfield 27, 3) := by decide +kernel
theorem dX6_load_131 : decode cX6_load 131 = .ok (.iload 4, 2) := by decide +kernel
theorem dX6_load_133 : decode cX6_load 133 = .ok (.iaload, 1) := by decide +kernel
theorem dX6_load_134 : decode cX6_load 134 = .ok (.invokevirtual 211, 3) := by decide +kernel
theorem dX6_load_137 : decode cX6_load 137 = .ok (.iastore, 1) := by decide +kernel
theorem dX6_load_138 : decode cX6_load 138 = .ok (.aload_n 0, 1) := by decide +kernel
theorem dX6_load_139 : decode cX6_load 139 = .ok (.iload_n 1, 1) := by decide +kernel
theorem dX6_load_140 : decode cX6_load 140 = .ok (.aload_n 0, 1) := by decide +kernel
theorem dX6_load_141 : decode cX6_load 141 = .ok (.getfield 16, 3) := by decide +kernel
theorem dX6_load_144 : decode cX6_load 144 = .ok (.iload 5, 2) := by decide +kernel
theorem dX6_load_146 : decode cX6_load 146 = .ok (.laload, 1) := by decide +kernel
theorem dX6_load_147 : decode cX6_load 147 = .ok (.aload_n 0, 1) := by decide +kernel
theorem dX6_load_148 : decode cX6_load 148 = .ok (.getfield 13, 3) := by decide +kernel
theorem dX6_load_151 : decode cX6_load 151 = .ok (.iload 5, 2) := by decide +kernel
theorem dX6_load_153 : decode cX6_load 153 = .ok (.iaload, 1) := by decide +kernel
theorem dX6_load_154 : decode cX6_load 154 = .ok (.aload_n 0, 1) := by decide +kernel
theorem dX6_load_155 : decode cX6_load 155 = .ok (.getfield 20, 3) := by decide +kernel
theorem dX6_load_158 : decode cX6_load 158 = .ok (.iload 5, 2) := by decide +kernel
theorem dX6_load_160 : decode cX6_load 160 = .ok (.baload, 1) := by decide +kernel
theorem dX6_load_161 : decode cX6_load 161 = .ok (.invokevirtual 148, 3) := by decide +kernel
theorem dX6_load_164 : decode cX6_load 164 = .ok (.iconst 0, 1) := by decide +kernel
theorem dX6_load_165 : decode cX6_load 165 = .ok (.ireturn, 1) := by decide +kernel
theorem dX6_stored_0 : decode cX6_stored 0 = .ok (.iload_n 1, 1) := by decide +kernel
theorem dX6_stored_1 : decode cX6_stored 1 = .ok (.ifCond .ne 9, 3) := by decide +kernel
theorem dX6_stored_4 : decode cX6_stored 4 = .ok (.lload_n 2, 1) := by decide +kernel
theorem dX6_stored_5 : decode cX6_stored 5 = .ok (.lconst 1, 1) := by decide +kernel
theorem dX6_stored_6 : decode cX6_stored 6 = .ok (.land, 1) := by decide +kernel
theorem dX6_stored_7 : decode cX6_stored 7 = .ok (.goto 40, 3) := by decide +kernel
theorem dX6_stored_10 : decode cX6_stored 10 = .ok (.iload_n 1, 1) := by decide +kernel
theorem dX6_stored_11 : decode cX6_stored 11 = .ok (.iconst 1, 1) := by decide +kernel
theorem dX6_stored_12 : decode cX6_stored 12 = .ok (.if_icmp .ne 10, 3) := by decide +kernel
theorem dX6_stored_15 : decode cX6_stored 15 = .ok (.lload_n 2, 1) := by decide +kernel
theorem dX6_stored_16 : decode cX6_stored 16 = .ok (.l2i, 1) := by decide +kernel
theorem dX6_stored_17 : decode cX6_stored 17 = .ok (.i2b, 1) := by decide +kernel
theorem dX6_stored_18 : decode cX6_stored 18 = .ok (.i2l, 1) := by decide +kernel
theorem dX6_stored_19 : decode cX6_stored 19 = .ok (.goto 28, 3) := by decide +kernel
theorem dX6_stored_22 : decode cX6_stored 22 = .ok (.iload_n 1, 1) := by decide +kernel
theorem dX6_stored_23 : decode cX6_stored 23 = .ok (.iconst 2, 1) := by decide +kernel
theorem dX6_stored_24 : decode cX6_stored 24 = .ok (.if_icmp .ne 10, 3) := by decide +kernel
theorem dX6_stored_27 : decode cX6_stored 27 = .ok (.lload_n 2, 1) := by decide +kernel
theorem dX6_stored_28 : decode cX6_stored 28 = .ok (.l2i, 1) := by decide +kernel
theorem dX6_stored_29 : decode cX6_stored 29 = .ok (.i2c, 1) := by decide +kernel
theorem dX6_stored_30 : decode cX6_stored 30 = .ok (.i2l, 1) := by decide +kernel
theorem dX6_stored_31 : decode cX6_stored 31 = .ok (.goto 16, 3) := by decide +kernel
theorem dX6_stored_34 : decode cX6_stored 34 = .ok (.iload_n 1, 1) := by decide +kernel
theorem dX6_stored_35 : decode cX6_stored 35 = .ok (.iconst 3, 1) := by decide +kernel
theorem dX6_stored_36 : decode cX6_stored 36 = .ok (.if_icmp .ne 10, 3) := by decide +kernel
theorem dX6_stored_39 : decode cX6_stored 39 = .ok (.lload_n 2, 1) := by decide +kernel
theorem dX6_stored_40 : decode cX6_stored 40 = .ok (.l2i, 1) := by decide +kernel
theorem dX6_stored_41 : decode cX6_stored 41 = .ok (.i2s, 1) := by decide +kernel
theorem dX6_stored_42 : decode cX6_stored 42 = .ok (.i2l, 1) := by decide +kernel
theorem dX6_stored_43 : decode cX6_stored 43 = .ok (.goto 4, 3) := by decide +kernel
theorem dX6_stored_46 : decode cX6_stored 46 = .ok (.lload_n 2, 1) := by decide +kernel
theorem dX6_stored_47 : decode cX6_stored 47 = .ok (.lreturn, 1) := by decide +kernel
theorem dX6_store_0 : decode cX6_store 0 = .ok (.aload_n 0, 1) := by decide +kernel
theorem dX6_store_1 : decode cX6_store 1 = .ok (.iload_n 1, 1) := by decide +kernel
theorem dX6_store_2 : decode cX6_store 2 = .ok (.iconst 4, 1) := by decide +kernel
theorem dX6_store_3 : decode cX6_store 3 = .ok (.invokevirtual 140, 3) := by decide +kernel
theorem dX6_store_6 : decode cX6_store 6 = .ok (.ifCond .ne 32, 3) := by decide +kernel
theorem dX6_store_9 : decode cX6_store 9 = .ok (.aload_n 0, 1) := by decide +kernel
theorem dX6_store_10 : decode cX6_store 10 = .ok (.iload_n 2, 1) := by decide +kernel
theorem dX6_store_11 : decode cX6_store 11 = .ok (.bipush 8, 2) := by decide +kernel
theorem dX6_store_13 : decode cX6_store 13 = .ok (.invokevirtual 140, 3) := by decide +kernel
theorem dX6_store_16 : decode cX6_store 16 = .ok (.ifCond .ne 22, 3) := by decide +kernel
theorem dX6_store_19 : decode cX6_store 19 = .ok (.aload_n 0, 1) := by decide +kernel
theorem dX6_store_20 : decode cX6_store 20 = .ok (.iload_n 3, 1) := by decide +kernel
theorem dX6_store_21 : decode cX6_store 21 = .ok (.bipush 8, 2) := by decide +kernel
theorem dX6_store_23 : decode cX6_store 23 = .ok (.invokevirtual 140, 3) := by decide +kernel
theorem dX6_store_26 : decode cX6_store 26 = .ok (.ifCond .ne 12, 3) := by decide +kernel
theorem dX6_store_29 : decode cX6_store 29 = .ok (.aload_n 0, 1) := by decide +kernel
theorem dX6_store_30 : decode cX6_store 30 = .ok (.getfield 7, 3) := by decide +kernel
theorem dX6_store_33 : decode cX6_store 33 = .ok (.iload_n 2, 1) := by decide +kernel
theorem dX6_store_34 : decode cX6_store 34 = .ok (.iaload, 1) := by decide +kernel
theorem dX6_store_35 : decode cX6_store 35 = .ok (.ifCond .eq 5, 3) := by decide +kernel
theorem dX6_store_38 : decode cX6_store 38 = .ok (.iconst (-1), 1) := by decide +kernel
theorem dX6_store_39 : decode cX6_store 39 = .ok (.ireturn, 1) := by decide +kernel
theorem dX6_store_40 : decode cX6_store 40 = .ok (.aload_n 0, 1) := by decide +kernel
theorem dX6_store_41 : decode cX6_store 41 = .ok (.getfield 24, 3) := by decide +kernel
theorem dX6_store_44 : decode cX6_store 44 = .ok (.iload_n 1, 1) := by decide +kernel
theorem dX6_store_45 : decode cX6_store 45 = .ok (.iaload, 1) := by decide +kernel
theorem dX6_store_46 : decode cX6_store 46 = .ok (.istore 4, 2) := by decide +kernel
theorem dX6_store_48 : decode cX6_store 48 = .ok (.iload 4, 2) := by decide +kernel
theorem dX6_store_50 : decode cX6_store 50 = .ok (.ifCond .ge 10, 3) := by decide +kernel
theorem dX6_store_53 : decode cX6_store 53 = .ok (.aload_n 0, 1) := by decide +kernel
theorem dX6_store_54 : decode cX6_store 54 = .ok (.bipush (-3), 2) := by decide +kernel
theorem dX6_store_56 : decode cX6_store 56 = .ok (.invokevirtual 208, 3) := by decide +kernel
theorem dX6_store_59 : decode cX6_store 59 = .ok (.ireturn, 1) := by decide +kernel
theorem dX6_store_60 : decode cX6_store 60 = .ok (.aload_n 0, 1) := by decide +kernel
theorem dX6_store_61 : decode cX6_store 61 = .ok (.getfield 7, 3) := by decide +kernel
theorem dX6_store_64 : decode cX6_store 64 = .ok (.iload_n 3, 1) := by decide +kernel
theorem dX6_store_65 : decode cX6_store 65 = .ok (.iaload, 1) := by decide +kernel
theorem dX6_store_66 : decode cX6_store 66 = .ok (.aload_n 0, 1) := by decide +kernel
theorem dX6_store_67 : decode cX6_store 67 = .ok (.aload_n 0, 1) := by decide +kernel
theorem dX6_store_68 : decode cX6_store 68 = .ok (.getfield 27, 3) := by decide +kernel
theorem dX6_store_71 : decode cX6_store 71 = .ok (.iload 4, 2) := by decide +kernel
theorem dX6_store_73 : decode cX6_store 73 = .ok (.iaload, 1) := by decide +kernel
theorem dX6_store_74 : decode cX6_store 74 = .ok (.invokevirtual 211, 3) := by decide +kernel
theorem dX6_store_77 : decode cX6_store 77 = .ok (.if_icmp .eq 10, 3) := by decide +kernel
theorem dX6_store_80 : decode cX6_store 80 = .ok (.aload_n 0, 1) := by decide +kernel
theorem dX6_store_81 : decode cX6_store 81 = .ok (.bipush (-6), 2) := by decide +kernel
theorem dX6_store_83 : decode cX6_store 83 = .ok (.invokevirtual 208, 3) := by decide +kernel
theorem dX6_store_86 : decode cX6_store 86 = .ok (.ireturn, 1) := by decide +kernel
theorem dX6_store_87 : decode cX6_store 87 = .ok (.aload_n 0, 1) := by decide +kernel
theorem dX6_store_88 : decode cX6_store 88 = .ok (.getfield 16, 3) := by decide +kernel
theorem dX6_store_91 : decode cX6_store 91 = .ok (.iload_n 2, 1) := by decide +kernel
theorem dX6_store_92 : decode cX6_store 92 = .ok (.laload, 1) := by decide +kernel
theorem dX6_store_93 : decode cX6_store 93 = .ok (.lconst 0, 1) := by decide +kernel
theorem dX6_store_94 : decode cX6_store 94 = .ok (.lcmp, 1) := by decide +kernel
theorem dX6_store_95 : decode cX6_store 95 = .ok (.ifCond .lt 21, 3) := by decide +kernel
theorem dX6_store_98 : decode cX6_store 98 = .ok (.aload_n 0, 1) := by decide +kernel
theorem dX6_store_99 : decode cX6_store 99 = .ok (.getfield 16, 3) := by decide +kernel
theorem dX6_store_102 : decode cX6_store 102 = .ok (.iload_n 2, 1) := by decide +kernel
theorem dX6_store_103 : decode cX6_store 103 = .ok (.laload, 1) := by decide +kernel
theorem dX6_store_104 : decode cX6_store 104 = .ok (.aload_n 0, 1) := by decide +kernel
theorem dX6_store_105 : decode cX6_store 105 = .ok (.getfield 30, 3) := by decide +kernel
theorem dX6_store_108 : decode cX6_store 108 = .ok (.iload 4, 2) := by decide +kernel
theorem dX6_store_110 : decode cX6_store 110 = .ok (.iaload, 1) := by decide +kernel
theorem dX6_store_111 : decode cX6_store 111 = .ok (.i2l, 1) := by decide +kernel
theorem dX6_store_112 : decode cX6_store 112 = .ok (.lcmp, 1) := by decide +kernel
theorem dX6_store_113 : decode cX6_store 113 = .ok (.ifCond .lt 10, 3) := by decide +kernel
theorem dX6_store_116 : decode cX6_store 116 = .ok (.aload_n 0, 1) := by decide +kernel
theorem dX6_store_117 : decode cX6_store 117 = .ok (.bipush (-4), 2) := by decide +kernel
theorem dX6_store_119 : decode cX6_store 119 = .ok (.invokevirtual 208, 3) := by decide +kernel
theorem dX6_store_122 : decode cX6_store 122 = .ok (.ireturn, 1) := by decide +kernel
theorem dX6_store_123 : decode cX6_store 123 = .ok (.aload_n 0, 1) := by decide +kernel
theorem dX6_store_124 : decode cX6_store 124 = .ok (.bipush 8, 2) := by decide +kernel
theorem dX6_store_126 : decode cX6_store 126 = .ok (.iload 4, 2) := by decide +kernel
theorem dX6_store_128 : decode cX6_store 128 = .ok (.bipush 12, 2) := by decide +kernel
theorem dX6_store_130 : decode cX6_store 130 = .ok (.imul, 1) := by decide +kernel
theorem dX6_store_131 : decode cX6_store 131 = .ok (.iadd, 1) := by decide +kernel
theorem dX6_store_132 : decode cX6_store 132 = .ok (.aload_n 0, 1) := by decide +kernel
theorem dX6_store_133 : decode cX6_store 133 = .ok (.getfield 16, 3) := by decide +kernel
theorem dX6_store_136 : decode cX6_store 136 = .ok (.iload_n 2, 1) := by decide +kernel
theorem dX6_store_137 : decode cX6_store 137 = .ok (.laload, 1) := by decide +kernel
theorem dX6_store_138 : decode cX6_store 138 = .ok (.l2i, 1) := by decide +kernel
theorem dX6_store_139 : decode cX6_store 139 = .ok (.iadd, 1) := by decide +kernel
theorem dX6_store_140 : decode cX6_store 140 = .ok (.aload_n 0, 1) := by decide +kernel
theorem dX6_store_141 : decode cX6_store 141 = .ok (.aload_n 0, 1) := by decide +kernel
theorem dX6_store_142 : decode cX6_store 142 = .ok (.getfield 27, 3) := by decide +kernel
theorem dX6_store_145 : decode cX6_store 145 = .ok (.iload 4, 2) := by decide +kernel
theorem dX6_store_147 : decode cX6_store 147 = .ok (.iaload, 1) := by decide +kernel
theorem dX6_store_148 : decode cX6_store 148 = .ok (.aload_n 0, 1) := by decide +kernel
theorem dX6_store_149 : decode cX6_store 149 = .ok (.getfield 16, 3) := by decide +kernel
theorem dX6_store_152 : decode cX6_store 152 = .ok (.iload_n 3, 1) := by decide +kernel
theorem dX6_store_153 : decode cX6_store 153 = .ok (.laload, 1) := by decide +kernel
theorem dX6_store_154 : decode cX6_store 154 = .ok (.invokevirtual 214, 3) := by decide +kernel
theorem dX6_store_157 : decode cX6_store 157 = .ok (.aload_n 0, 1) := by decide +kernel
theorem dX6_store_158 : decode cX6_store 158 = .ok (.getfield 13, 3) := by decide +kernel
theorem dX6_store_161 : decode cX6_store 161 = .ok (.iload_n 3, 1) := by decide +kernel
theorem dX6_store_162 : decode cX6_store 162 = .ok (.iaload, 1) := by decide +kernel
theorem dX6_store_163 : decode cX6_store 163 = .ok (.aload_n 0, 1) := by decide +kernel
theorem dX6_store_164 : decode cX6_store 164 = .ok (.getfield 20, 3) := by decide +kernel
theorem dX6_store_167 : decode cX6_store 167 = .ok (.iload_n 3, 1) := by decide +kernel
theorem dX6_store_168 : decode cX6_store 168 = .ok (.baload, 1) := by decide +kernel
theorem dX6_store_169 : decode cX6_store 169 = .ok (.ifCond .eq 18, 3) := by decide +kernel
theorem dX6_store_172 : decode cX6_store 172 = .ok (.aload_n 0, 1) := by decide +kernel
theorem dX6_store_173 : decode cX6_store 173 = .ok (.getfield 27, 3) := by decide +kernel
theorem dX6_store_176 : decode cX6_store 176 = .ok (.iload 4, 2) := by decide +kernel
theorem dX6_store_178 : decode cX6_store 178 = .ok (.iaload, 1) := by decide +kernel
theorem dX6_store_179 : decode cX6_store 179 = .ok (.iconst 3, 1) := by decide +kernel
theorem dX6_store_180 : decode cX6_store 180 = .ok (.if_icmp .le 7, 3) := by decide +kernel
theorem dX6_store_183 : decode cX6_store 183 = .ok (.iconst 1, 1) := by decide +kernel
theorem dX6_store_184 : decode cX6_store 184 = .ok (.goto 4, 3) := by decide +kernel
theorem dX6_store_187 : decode cX6_store 187 = .ok (.iconst 0, 1) := by decide +kernel
theorem dX6_store_188 : decode cX6_store 188 = .ok (.invokevirtual 148, 3) := by decide +kernel
theorem dX6_store_191 : decode cX6_store 191 = .ok (.aload_n 0, 1) := by decide +kernel
theorem dX6_store_192 : decode cX6_store 192 = .ok (.iload_n 2, 1) := by decide +kernel
theorem dX6_store_193 : decode cX6_store 193 = .ok (.bipush 42, 2) := by decide +kernel
theorem dX6_store_195 : decode cX6_store 195 = .ok (.invokevirtual 191, 3) := by decide +kernel
theorem dX6_store_198 : decode cX6_store 198 = .ok (.iconst 0, 1) := by decide +kernel
theorem dX6_store_199 : decode cX6_store 199 = .ok (.ireturn, 1) := by decide +kernel
theorem dX6_length_0 : decode cX6_length 0 = .ok (.aload_n 0, 1) := by decide +kernel
theorem dX6_length_1 : decode cX6_length 1 = .ok (.iload_n 1, 1) := by decide +kernel
theorem dX6_length_2 : decode cX6_length 2 = .ok (.bipush 8, 2) := by decide +kernel
theorem dX6_length_4 : decode cX6_length 4 = .ok (.invokevirtual 140, 3) := by decide +kernel
theorem dX6_length_7 : decode cX6_length 7 = .ok (.ifCond .ne 12, 3) := by decide +kernel
theorem dX6_length_10 : decode cX6_length 10 = .ok (.aload_n 0, 1) := by decide +kernel
theorem dX6_length_11 : decode cX6_length 11 = .ok (.iload_n 2, 1) := by decide +kernel
theorem dX6_length_12 : decode cX6_length 12 = .ok (.iconst 4, 1) := by decide +kernel
theorem dX6_length_13 : decode cX6_length 13 = .ok (.invokevirtual 140, 3) := by decide +kernel
theorem dX6_length_16 : decode cX6_length 16 = .ok (.ifCond .eq 5, 3) := by decide +kernel
theorem dX6_length_19 : decode cX6_length 19 = .ok (.iconst (-1), 1) := by decide +kernel
theorem dX6_length_20 : decode cX6_length 20 = .ok (.ireturn, 1) := by decide +kernel
theorem dX6_length_21 : decode cX6_length 21 = .ok (.aload_n 0, 1) := by decide +kernel
theorem dX6_length_22 : decode cX6_length 22 = .ok (.getfield 24, 3) := by decide +kernel
theorem dX6_length_25 : decode cX6_length 25 = .ok (.iload_n 2, 1) := by decide +kernel
theorem dX6_length_26 : decode cX6_length 26 = .ok (.iaload, 1) := by decide +kernel
theorem dX6_length_27 : decode cX6_length 27 = .ok (.ifCond .ge 10, 3) := by decide +kernel
theorem dX6_length_30 : decode cX6_length 30 = .ok (.aload_n 0, 1) := by decide +kernel
theorem dX6_length_31 : decode cX6_length 31 = .ok (.bipush (-3), 2) := by decide +kernel
theorem dX6_length_33 : decode cX6_length 33 = .ok (.invokevirtual 208, 3) := by decide +kernel
theorem dX6_length_36 : decode cX6_length 36 = .ok (.ireturn, 1) := by decide +kernel
theorem dX6_length_37 : decode cX6_length 37 = .ok (.aload_n 0, 1) := by decide +kernel
theorem dX6_length_38 : decode cX6_length 38 = .ok (.getfield 7, 3) := by decide +kernel
theorem dX6_length_41 : decode cX6_length 41 = .ok (.iload_n 1, 1) := by decide +kernel
theorem dX6_length_42 : decode cX6_length 42 = .ok (.iconst 0, 1) := by decide +kernel
theorem dX6_length_43 : decode cX6_length 43 = .ok (.iastore, 1) := by decide +kernel
theorem dX6_length_44 : decode cX6_length 44 = .ok (.aload_n 0, 1) := by decide +kernel
theorem dX6_length_45 : decode cX6_length 45 = .ok (.iload_n 1, 1) := by decide +kernel
theorem dX6_length_46 : decode cX6_length 46 = .ok (.aload_n 0, 1) := by decide +kernel
theorem dX6_length_47 : decode cX6_length 47 = .ok (.getfield 30, 3) := by decide +kernel
theorem dX6_length_50 : decode cX6_length 50 = .ok (.aload_n 0, 1) := by decide +kernel
theorem dX6_length_51 : decode cX6_length 51 = .ok (.getfield 24, 3) := by decide +kernel
theorem dX6_length_54 : decode cX6_length 54 = .ok (.iload_n 2, 1) := by decide +kernel
theorem dX6_length_55 : decode cX6_length 55 = .ok (.iaload, 1) := by decide +kernel
theorem dX6_length_56 : decode cX6_length 56 = .ok (.iaload, 1) := by decide +kernel
theorem dX6_length_57 : decode cX6_length 57 = .ok (.i2l, 1) := by decide +kernel
theorem dX6_length_58 : decode cX6_length 58 = .ok (.iconst 0, 1) := by decide +kernel
theorem dX6_length_59 : decode cX6_length 59 = .ok (.iconst 1, 1) := by decide +kernel
theorem dX6_length_60 : decode cX6_length 60 = .ok (.invokevirtual 148, 3) := by decide +kernel
theorem dX6_length_63 : decode cX6_length 63 = .ok (.iconst 0, 1) := by decide +kernel
theorem dX6_length_64 : decode cX6_length 64 = .ok (.ireturn, 1) := by decide +kernel
theorem dX6_copy_0 : decode cX6_copy 0 = .ok (.aload_n 0, 1) := by decide +kernel
theorem dX6_copy_1 : decode cX6_copy 1 = .ok (.iload_n 1, 1) := by decide +kernel
theorem dX6_copy_2 : decode cX6_copy 2 = .ok (.iconst 4, 1) := by decide +kernel
theorem dX6_copy_3 : decode cX6_copy 3 = .ok (.invokevirtual 140, 3) := by decide +kernel
theorem dX6_copy_6 : decode cX6_copy 6 = .ok (.ifCond .ne 12, 3) := by decide +kernel
theorem dX6_copy_9 : decode cX6_copy 9 = .ok (.aload_n 0, 1) := by decide +kernel
theorem dX6_copy_10 : decode cX6_copy 10 = .ok (.iload_n 3, 1) := by decide +kernel
theorem dX6_copy_11 : decode cX6_copy 11 = .ok (.iconst 4, 1) := by decide +kernel
theorem dX6_copy_12 : decode cX6_copy 12 = .ok (.invokevirtual 140, 3) := by decide +kernel
theorem dX6_copy_15 : decode cX6_copy 15 = .ok (.ifCond .eq 5, 3) := by decide +kernel
theorem dX6_copy_18 : decode cX6_copy 18 = .ok (.iconst (-1), 1) := by decide +kernel
theorem dX6_copy_19 : decode cX6_copy 19 = .ok (.ireturn, 1) := by decide +kernel
theorem dX6_copy_20 : decode cX6_copy 20 = .ok (.aload_n 0, 1) := by decide +kernel
theorem dX6_copy_21 : decode cX6_copy 21 = .ok (.getfield 24, 3) := by decide +kernel
theorem dX6_copy_24 : decode cX6_copy 24 = .ok (.iload_n 1, 1) := by decide +kernel
theorem dX6_copy_25 : decode cX6_copy 25 = .ok (.iaload, 1) := by decide +kernel
theorem dX6_copy_26 : decode cX6_copy 26 = .ok (.istore 6, 2) := by decide +kernel
theorem dX6_copy_28 : decode cX6_copy 28 = .ok (.aload_n 0, 1) := by decide +kernel
theorem dX6_copy_29 : decode cX6_copy 29 = .ok (.getfield 24, 3) := by decide +kernel
theorem dX6_copy_32 : decode cX6_copy 32 = .ok (.iload_n 3, 1) := by decide +kernel
theorem dX6_copy_33 : decode cX6_copy 33 = .ok (.iaload, 1) := by decide +kernel
theorem dX6_copy_34 : decode cX6_copy 34 = .ok (.istore 7, 2) := by decide +kernel
theorem dX6_copy_36 : decode cX6_copy 36 = .ok (.iload 6, 2) := by decide +kernel
theorem dX6_copy_38 : decode cX6_copy 38 = .ok (.ifCond .lt 8, 3) := by decide +kernel
theorem dX6_copy_41 : decode cX6_copy 41 = .ok (.iload 7, 2) := by decide +kernel
theorem dX6_copy_43 : decode cX6_copy 43 = .ok (.ifCond .ge 10, 3) := by decide +kernel
theorem dX6_copy_46 : decode cX6_copy 46 = .ok (.aload_n 0, 1) := by decide +kernel
theorem dX6_copy_47 : decode cX6_copy 47 = .ok (.bipush (-3), 2) := by decide +kernel
theorem dX6_copy_49 : decode cX6_copy 49 = .ok (.invokevirtual 208, 3) := by decide +kernel
theorem dX6_copy_52 : decode cX6_copy 52 = .ok (.ireturn, 1) := by decide +kernel
theorem dX6_copy_53 : decode cX6_copy 53 = .ok (.aload_n 0, 1) := by decide +kernel
theorem dX6_copy_54 : decode cX6_copy 54 = .ok (.getfield 27, 3) := by decide +kernel
theorem dX6_copy_57 : decode cX6_copy 57 = .ok (.iload 6, 2) := by decide +kernel
theorem dX6_copy_59 : decode cX6_copy 59 = .ok (.iaload, 1) := by decide +kernel
theorem dX6_copy_60 : decode cX6_copy 60 = .ok (.aload_n 0, 1) := by decide +kernel
theorem dX6_copy_61 : decode cX6_copy 61 = .ok (.getfield 27, 3) := by decide +kernel
theorem dX6_copy_64 : decode cX6_copy 64 = .ok (.iload 7, 2) := by decide +kernel
theorem dX6_copy_66 : decode cX6_copy 66 = .ok (.iaload, 1) := by decide +kernel
theorem dX6_copy_67 : decode cX6_copy 67 = .ok (.if_icmp .eq 10, 3) := by decide +kernel
theorem dX6_copy_70 : decode cX6_copy 70 = .ok (.aload_n 0, 1) := by decide +kernel
theorem dX6_copy_71 : decode cX6_copy 71 = .ok (.bipush (-6), 2) := by decide +kernel
theorem dX6_copy_73 : decode cX6_copy 73 = .ok (.invokevirtual 208, 3) := by decide +kernel
theorem dX6_copy_76 : decode cX6_copy 76 = .ok (.ireturn, 1) := by decide +kernel
theorem dX6_copy_77 : decode cX6_copy 77 = .ok (.iload 5, 2) := by decide +kernel
theorem dX6_copy_79 : decode cX6_copy 79 = .ok (.ifCond .lt 49, 3) := by decide +kernel
theorem dX6_copy_82 : decode cX6_copy 82 = .ok (.iload_n 2, 1) := by decide +kernel
theorem dX6_copy_83 : decode cX6_copy 83 = .ok (.ifCond .lt 45, 3) := by decide +kernel
theorem dX6_copy_86 : decode cX6_copy 86 = .ok (.iload 4, 2) := by decide +kernel
theorem dX6_copy_88 : decode cX6_copy 88 = .ok (.ifCond .lt 40, 3) := by decide +kernel
theorem dX6_copy_91 : decode cX6_copy 91 = .ok (.iload_n 2, 1) := by decide +kernel
theorem dX6_copy_92 : decode cX6_copy 92 = .ok (.i2l, 1) := by decide +kernel
theorem dX6_copy_93 : decode cX6_copy 93 = .ok (.iload 5, 2) := by decide +kernel
theorem dX6_copy_95 : decode cX6_copy 95 = .ok (.i2l, 1) := by decide +kernel
theorem dX6_copy_96 : decode cX6_copy 96 = .ok (.ladd, 1) := by decide +kernel
theorem dX6_copy_97 : decode cX6_copy 97 = .ok (.aload_n 0, 1) := by decide +kernel
theorem dX6_copy_98 : decode cX6_copy 98 = .ok (.getfield 30, 3) := by decide +kernel
theorem dX6_copy_101 : decode cX6_copy 101 = .ok (.iload 6, 2) := by decide +kernel
theorem dX6_copy_103 : decode cX6_copy 103 = .ok (.iaload, 1) := by decide +kernel
theorem dX6_copy_104 : decode cX6_copy 104 = .ok (.i2l, 1) := by decide +kernel
theorem dX6_copy_105 : decode cX6_copy 105 = .ok (.lcmp, 1) := by decide +kernel
theorem dX6_copy_106 : decode cX6_copy 106 = .ok (.ifCond .gt 22, 3) := by decide +kernel
theorem dX6_copy_109 : decode cX6_copy 109 = .ok (.iload 4, 2) := by decide +kernel
theorem dX6_copy_111 : decode cX6_copy 111 = .ok (.i2l, 1) := by decide +kernel
theorem dX6_copy_112 : decode cX6_copy 112 = .ok (.iload 5, 2) := by decide +kernel
theorem dX6_copy_114 : decode cX6_copy 114 = .ok (.i2l, 1) := by decide +kernel
theorem dX6_copy_115 : decode cX6_copy 115 = .ok (.ladd, 1) := by decide +kernel
theorem dX6_copy_116 : decode cX6_copy 116 = .ok (.aload_n 0, 1) := by decide +kernel
theorem dX6_copy_117 : decode cX6_copy 117 = .ok (.getfield 30, 3) := by decide +kernel
theorem dX6_copy_120 : decode cX6_copy 120 = .ok (.iload 7, 2) := by decide +kernel
theorem dX6_copy_122 : decode cX6_copy 122 = .ok (.iaload, 1) := by decide +kernel
theorem dX6_copy_123 : decode cX6_copy 123 = .ok (.i2l, 1) := by decide +kernel
theorem dX6_copy_124 : decode cX6_copy 124 = .ok (.lcmp, 1) := by decide +kernel
theorem dX6_copy_125 : decode cX6_copy 125 = .ok (.ifCond .le 10, 3) := by decide +kernel
theorem dX6_copy_128 : decode cX6_copy 128 = .ok (.aload_n 0, 1) := by decide +kernel
theorem dX6_copy_129 : decode cX6_copy 129 = .ok (.bipush (-4), 2) := by decide +kernel
theorem dX6_copy_131 : decode cX6_copy 131 = .ok (.invokevirtual 208, 3) := by decide +kernel
theorem dX6_copy_134 : decode cX6_copy 134 = .ok (.ireturn, 1) := by decide +kernel
theorem dX6_copy_135 : decode cX6_copy 135 = .ok (.iconst 0, 1) := by decide +kernel
theorem dX6_copy_136 : decode cX6_copy 136 = .ok (.istore 8, 2) := by decide +kernel
theorem dX6_copy_138 : decode cX6_copy 138 = .ok (.iload 8, 2) := by decide +kernel
theorem dX6_copy_140 : decode cX6_copy 140 = .ok (.iload 5, 2) := by decide +kernel
theorem dX6_copy_142 : decode cX6_copy 142 = .ok (.if_icmp .ge 80, 3) := by decide +kernel
theorem dX6_copy_145 : decode cX6_copy 145 = .ok (.bipush 8, 2) := by decide +kernel
theorem dX6_copy_147 : decode cX6_copy 147 = .ok (.iload 6, 2) := by decide +kernel
theorem dX6_copy_149 : decode cX6_copy 149 = .ok (.bipush 12, 2) := by decide +kernel
theorem dX6_copy_151 : decode cX6_copy 151 = .ok (.imul, 1) := by decide +kernel
theorem dX6_copy_152 : decode cX6_copy 152 = .ok (.iadd, 1) := by decide +kernel
theorem dX6_copy_153 : decode cX6_copy 153 = .ok (.iload_n 2, 1) := by decide +kernel
theorem dX6_copy_154 : decode cX6_copy 154 = .ok (.iadd, 1) := by decide +kernel
theorem dX6_copy_155 : decode cX6_copy 155 = .ok (.iload 8, 2) := by decide +kernel
theorem dX6_copy_157 : decode cX6_copy 157 = .ok (.iadd, 1) := by decide +kernel
theorem dX6_copy_158 : decode cX6_copy 158 = .ok (.istore 9, 2) := by decide +kernel
theorem dX6_copy_160 : decode cX6_copy 160 = .ok (.aload_n 0, 1) := by decide +kernel
theorem dX6_copy_161 : decode cX6_copy 161 = .ok (.getfield 61, 3) := by decide +kernel
theorem dX6_copy_164 : decode cX6_copy 164 = .ok (.iload 8, 2) := by decide +kernel
theorem dX6_copy_166 : decode cX6_copy 166 = .ok (.aload_n 0, 1) := by decide +kernel
theorem dX6_copy_167 : decode cX6_copy 167 = .ok (.getfield 16, 3) := by decide +kernel
theorem dX6_copy_170 : decode cX6_copy 170 = .ok (.iload 9, 2) := by decide +kernel
theorem dX6_copy_172 : decode cX6_copy 172 = .ok (.laload, 1) := by decide +kernel
theorem dX6_copy_173 : decode cX6_copy 173 = .ok (.lastore, 1) := by decide +kernel
theorem dX6_copy_174 : decode cX6_copy 174 = .ok (.aload_n 0, 1) := by decide +kernel
theorem dX6_copy_175 : decode cX6_copy 175 = .ok (.getfield 58, 3) := by decide +kernel
theorem dX6_copy_178 : decode cX6_copy 178 = .ok (.iconst 2, 1) := by decide +kernel
theorem dX6_copy_179 : decode cX6_copy 179 = .ok (.iload 8, 2) := by decide +kernel
theorem dX6_copy_181 : decode cX6_copy 181 = .ok (.imul, 1) := by decide +kernel
theorem dX6_copy_182 : decode cX6_copy 182 = .ok (.aload_n 0, 1) := by decide +kernel
theorem dX6_copy_183 : decode cX6_copy 183 = .ok (.getfield 13, 3) := by decide +kernel
theorem dX6_copy_186 : decode cX6_copy 186 = .ok (.iload 9, 2) := by decide +kernel
theorem dX6_copy_188 : decode cX6_copy 188 = .ok (.iaload, 1) := by decide +kernel
theorem dX6_copy_189 : decode cX6_copy 189 = .ok (.iastore, 1) := by decide +kernel
theorem dX6_copy_190 : decode cX6_copy 190 = .ok (.aload_n 0, 1) := by decide +kernel
theorem dX6_copy_191 : decode cX6_copy 191 = .ok (.getfield 58, 3) := by decide +kernel
theorem dX6_copy_194 : decode cX6_copy 194 = .ok (.iconst 2, 1) := by decide +kernel
theorem dX6_copy_195 : decode cX6_copy 195 = .ok (.iload 8, 2) := by decide +kernel
theorem dX6_copy_197 : decode cX6_copy 197 = .ok (.imul, 1) := by decide +kernel
theorem dX6_copy_198 : decode cX6_copy 198 = .ok (.iconst 1, 1) := by decide +kernel
theorem dX6_copy_199 : decode cX6_copy 199 = .ok (.iadd, 1) := by decide +kernel
theorem dX6_copy_200 : decode cX6_copy 200 = .ok (.aload_n 0, 1) := by decide +kernel
theorem dX6_copy_201 : decode cX6_copy 201 = .ok (.getfield 20, 3) := by decide +kernel
theorem dX6_copy_204 : decode cX6_copy 204 = .ok (.iload 9, 2) := by decide +kernel
theorem dX6_copy_206 : decode cX6_copy 206 = .ok (.baload, 1) := by decide +kernel
theorem dX6_copy_207 : decode cX6_copy 207 = .ok (.ifCond .eq 7, 3) := by decide +kernel
theorem dX6_copy_210 : decode cX6_copy 210 = .ok (.iconst 1, 1) := by decide +kernel
theorem dX6_copy_211 : decode cX6_copy 211 = .ok (.goto 4, 3) := by decide +kernel
theorem dX6_copy_214 : decode cX6_copy 214 = .ok (.iconst 0, 1) := by decide +kernel
theorem dX6_copy_215 : decode cX6_copy 215 = .ok (.iastore, 1) := by decide +kernel
theorem dX6_copy_216 : decode cX6_copy 216 = .ok (.iinc 8 1, 3) := by decide +kernel
theorem dX6_copy_219 : decode cX6_copy 219 = .ok (.goto (-81), 3) := by decide +kernel
theorem dX6_copy_222 : decode cX6_copy 222 = .ok (.iconst 0, 1) := by decide +kernel
theorem dX6_copy_223 : decode cX6_copy 223 = .ok (.istore 8, 2) := by decide +kernel
theorem dX6_copy_225 : decode cX6_copy 225 = .ok (.iload 8, 2) := by decide +kernel
theorem dX6_copy_227 : decode cX6_copy 227 = .ok (.iload 5, 2) := by decide +kernel
theorem dX6_copy_229 : decode cX6_copy 229 = .ok (.if_icmp .ge 63, 3) := by decide +kernel
theorem dX6_copy_232 : decode cX6_copy 232 = .ok (.aload_n 0, 1) := by decide +kernel
theorem dX6_copy_233 : decode cX6_copy 233 = .ok (.bipush 8, 2) := by decide +kernel
theorem dX6_copy_235 : decode cX6_copy 235 = .ok (.iload 7, 2) := by decide +kernel
theorem dX6_copy_237 : decode cX6_copy 237 = .ok (.bipush 12, 2) := by decide +kernel
theorem dX6_copy_239 : decode cX6_copy 239 = .ok (.imul, 1) := by decide +kernel
theorem dX6_copy_240 : decode cX6_copy 240 = .ok (.iadd, 1) := by decide +kernel
theorem dX6_copy_241 : decode cX6_copy 241 = .ok (.iload 4, 2) := by decide +kernel
theorem dX6_copy_243 : decode cX6_copy 243 = .ok (.iadd, 1) := by decide +kernel
theorem dX6_copy_244 : decode cX6_copy 244 = .ok (.iload 8, 2) := by decide +kernel
theorem dX6_copy_246 : decode cX6_copy 246 = .ok (.iadd, 1) := by decide +kernel
theorem dX6_copy_247 : decode cX6_copy 247 = .ok (.aload_n 0, 1) := by decide +kernel
theorem dX6_copy_248 : decode cX6_copy 248 = .ok (.getfield 61, 3) := by decide +kernel
theorem dX6_copy_251 : decode cX6_copy 251 = .ok (.iload 8, 2) := by decide +kernel
theorem dX6_copy_253 : decode cX6_copy 253 = .ok (.laload, 1) := by decide +kernel
theorem dX6_copy_254 : decode cX6_copy 254 = .ok (.aload_n 0, 1) := by decide +kernel
theorem dX6_copy_255 : decode cX6_copy 255 = .ok (.getfield 58, 3) := by decide +kernel
theorem dX6_copy_258 : decode cX6_copy 258 = .ok (.iconst 2, 1) := by decide +kernel
theorem dX6_copy_259 : decode cX6_copy 259 = .ok (.iload 8, 2) := by decide +kernel
theorem dX6_copy_261 : decode cX6_copy 261 = .ok (.imul, 1) := by decide +kernel
theorem dX6_copy_262 : decode cX6_copy 262 = .ok (.iaload, 1) := by decide +kernel
theorem dX6_copy_263 : decode cX6_copy 263 = .ok (.aload_n 0, 1) := by decide +kernel
theorem dX6_copy_264 : decode cX6_copy 264 = .ok (.getfield 58, 3) := by decide +kernel
theorem dX6_copy_267 : decode cX6_copy 267 = .ok (.iconst 2, 1) := by decide +kernel
theorem dX6_copy_268 : decode cX6_copy 268 = .ok (.iload 8, 2) := by decide +kernel
theorem dX6_copy_270 : decode cX6_copy 270 = .ok (.imul, 1) := by decide +kernel
theorem dX6_copy_271 : decode cX6_copy 271 = .ok (.iconst 1, 1) := by decide +kernel
theorem dX6_copy_272 : decode cX6_copy 272 = .ok (.iadd, 1) := by decide +kernel
theorem dX6_copy_273 : decode cX6_copy 273 = .ok (.iaload, 1) := by decide +kernel
theorem dX6_copy_274 : decode cX6_copy 274 = .ok (.iconst 1, 1) := by decide +kernel
theorem dX6_copy_275 : decode cX6_copy 275 = .ok (.if_icmp .ne 7, 3) := by decide +kernel
theorem dX6_copy_278 : decode cX6_copy 278 = .ok (.iconst 1, 1) := by decide +kernel
theorem dX6_copy_279 : decode cX6_copy 279 = .ok (.goto 4, 3) := by decide +kernel
theorem dX6_copy_282 : decode cX6_copy 282 = .ok (.iconst 0, 1) := by decide +kernel
theorem dX6_copy_283 : decode cX6_copy 283 = .ok (.invokevirtual 148, 3) := by decide +kernel
theorem dX6_copy_286 : decode cX6_copy 286 = .ok (.iinc 8 1, 3) := by decide +kernel
theorem dX6_copy_289 : decode cX6_copy 289 = .ok (.goto (-64), 3) := by decide +kernel
theorem dX6_copy_292 : decode cX6_copy 292 = .ok (.iconst 0, 1) := by decide +kernel
theorem dX6_copy_293 : decode cX6_copy 293 = .ok (.ireturn, 1) := by decide +kernel
theorem dX6_branch_0 : decode cX6_branch 0 = .ok (.aload_n 0, 1) := by decide +kernel
theorem dX6_branch_1 : decode cX6_branch 1 = .ok (.iload_n 1, 1) := by decide +kernel
theorem dX6_branch_2 : decode cX6_branch 2 = .ok (.bipush 6, 2) := by decide +kernel
theorem dX6_branch_4 : decode cX6_branch 4 = .ok (.invokevirtual 140, 3) := by decide +kernel
theorem dX6_branch_7 : decode cX6_branch 7 = .ok (.ifCond .ne 41, 3) := by decide +kernel
theorem dX6_branch_10 : decode cX6_branch 10 = .ok (.aload_n 0, 1) := by decide +kernel
theorem dX6_branch_11 : decode cX6_branch 11 = .ok (.iload_n 2, 1) := by decide +kernel
theorem dX6_branch_12 : decode cX6_branch 12 = .ok (.bipush 8, 2) := by decide +kernel
theorem dX6_branch_14 : decode cX6_branch 14 = .ok (.invokevirtual 140, 3) := by decide +kernel
theorem dX6_branch_17 : decode cX6_branch 17 = .ok (.ifCond .ne 31, 3) := by decide +kernel
theorem dX6_branch_20 : decode cX6_branch 20 = .ok (.aload_n 0, 1) := by decide +kernel
theorem dX6_branch_21 : decode cX6_branch 21 = .ok (.iload_n 3, 1) := by decide +kernel
theorem dX6_branch_22 : decode cX6_branch 22 = .ok (.bipush 8, 2) := by decide +kernel
theorem dX6_branch_24 : decode cX6_branch 24 = .ok (.invokevirtual 140, 3) := by decide +kernel
theorem dX6_branch_27 : decode cX6_branch 27 = .ok (.ifCond .ne 21, 3) := by decide +kernel
theorem dX6_branch_30 : decode cX6_branch 30 = .ok (.aload_n 0, 1) := by decide +kernel
theorem dX6_branch_31 : decode cX6_branch 31 = .ok (.getfield 7, 3) := by decide +kernel
theorem dX6_branch_34 : decode cX6_branch 34 = .ok (.iload_n 2, 1) := by decide +kernel
theorem dX6_branch_35 : decode cX6_branch 35 = .ok (.iaload, 1) := by decide +kernel
theorem dX6_branch_36 : decode cX6_branch 36 = .ok (.ifCond .ne 12, 3) := by decide +kernel
theorem dX6_branch_39 : decode cX6_branch 39 = .ok (.aload_n 0, 1) := by decide +kernel
theorem dX6_branch_40 : decode cX6_branch 40 = .ok (.getfield 7, 3) := by decide +kernel
theorem dX6_branch_43 : decode cX6_branch 43 = .ok (.iload_n 3, 1) := by decide +kernel
theorem dX6_branch_44 : decode cX6_branch 44 = .ok (.iaload, 1) := by decide +kernel
theorem dX6_branch_45 : decode cX6_branch 45 = .ok (.ifCond .eq 5, 3) := by decide +kernel
theorem dX6_branch_48 : decode cX6_branch 48 = .ok (.iconst (-1), 1) := by decide +kernel
theorem dX6_branch_49 : decode cX6_branch 49 = .ok (.ireturn, 1) := by decide +kernel
theorem dX6_branch_50 : decode cX6_branch 50 = .ok (.aload_n 0, 1) := by decide +kernel
theorem dX6_branch_51 : decode cX6_branch 51 = .ok (.getfield 16, 3) := by decide +kernel
theorem dX6_branch_54 : decode cX6_branch 54 = .ok (.iload_n 2, 1) := by decide +kernel
theorem dX6_branch_55 : decode cX6_branch 55 = .ok (.laload, 1) := by decide +kernel
theorem dX6_branch_56 : decode cX6_branch 56 = .ok (.lstore 4, 2) := by decide +kernel
theorem dX6_branch_58 : decode cX6_branch 58 = .ok (.aload_n 0, 1) := by decide +kernel
theorem dX6_branch_59 : decode cX6_branch 59 = .ok (.getfield 16, 3) := by decide +kernel
theorem dX6_branch_62 : decode cX6_branch 62 = .ok (.iload_n 3, 1) := by decide +kernel
theorem dX6_branch_63 : decode cX6_branch 63 = .ok (.laload, 1) := by decide +kernel
theorem dX6_branch_64 : decode cX6_branch 64 = .ok (.lstore 6, 2) := by decide +kernel
theorem dX6_branch_66 : decode cX6_branch 66 = .ok (.iload_n 1, 1) := by decide +kernel
theorem dX6_branch_67 : decode cX6_branch 67 = .ok (.iconst 2, 1) := by decide +kernel
theorem dX6_branch_68 : decode cX6_branch 68 = .ok (.if_icmp .ge 19, 3) := by decide +kernel
theorem dX6_branch_71 : decode cX6_branch 71 = .ok (.lload 4, 2) := by decide +kernel
theorem dX6_branch_73 : decode cX6_branch 73 = .ok (.lload 6, 2) := by decide +kernel
theorem dX6_branch_75 : decode cX6_branch 75 = .ok (.lcmp, 1) := by decide +kernel
theorem dX6_branch_76 : decode cX6_branch 76 = .ok (.ifCond .ne 7, 3) := by decide +kernel
theorem dX6_branch_79 : decode cX6_branch 79 = .ok (.iconst 1, 1) := by decide +kernel
theorem dX6_branch_80 : decode cX6_branch 80 = .ok (.goto 41, 3) := by decide +kernel
theorem dX6_branch_83 : decode cX6_branch 83 = .ok (.iconst 0, 1) := by decide +kernel
theorem dX6_branch_84 : decode cX6_branch 84 = .ok (.goto 37, 3) := by decide +kernel
theorem dX6_branch_87 : decode cX6_branch 87 = .ok (.iload_n 1, 1) := by decide +kernel
theorem dX6_branch_88 : decode cX6_branch 88 = .ok (.iconst 4, 1) := by decide +kernel
theorem dX6_branch_89 : decode cX6_branch 89 = .ok (.if_icmp .ge 19, 3) := by decide +kernel
theorem dX6_branch_92 : decode cX6_branch 92 = .ok (.lload 4, 2) := by decide +kernel
theorem dX6_branch_94 : decode cX6_branch 94 = .ok (.lload 6, 2) := by decide +kernel
theorem dX6_branch_96 : decode cX6_branch 96 = .ok (.lcmp, 1) := by decide +kernel
theorem dX6_branch_97 : decode cX6_branch 97 = .ok (.ifCond .ge 7, 3) := by decide +kernel
theorem dX6_branch_100 : decode cX6_branch 100 = .ok (.iconst 1, 1) := by decide +kernel
theorem dX6_branch_101 : decode cX6_branch 101 = .ok (.goto 20, 3) := by decide +kernel
theorem dX6_branch_104 : decode cX6_branch 104 = .ok (.iconst 0, 1) := by decide +kernel
theorem dX6_branch_105 : decode cX6_branch 105 = .ok (.goto 16, 3) := by decide +kernel
theorem dX6_branch_108 : decode cX6_branch 108 = .ok (.lload 4, 2) := by decide +kernel
theorem dX6_branch_110 : decode cX6_branch 110 = .ok (.lload 6, 2) := by decide +kernel
theorem dX6_branch_112 : decode cX6_branch 112 = .ok (.lcmp, 1) := by decide +kernel
theorem dX6_branch_113 : decode cX6_branch 113 = .ok (.ifCond .le 7, 3) := by decide +kernel
theorem dX6_branch_116 : decode cX6_branch 116 = .ok (.iconst 1, 1) := by decide +kernel
theorem dX6_branch_117 : decode cX6_branch 117 = .ok (.goto 4, 3) := by decide +kernel
theorem dX6_branch_120 : decode cX6_branch 120 = .ok (.iconst 0, 1) := by decide +kernel
theorem dX6_branch_121 : decode cX6_branch 121 = .ok (.istore 8, 2) := by decide +kernel
theorem dX6_branch_123 : decode cX6_branch 123 = .ok (.iload 8, 2) := by decide +kernel
theorem dX6_branch_125 : decode cX6_branch 125 = .ok (.iload_n 1, 1) := by decide +kernel
theorem dX6_branch_126 : decode cX6_branch 126 = .ok (.iconst 2, 1) := by decide +kernel
theorem dX6_branch_127 : decode cX6_branch 127 = .ok (.irem, 1) := by decide +kernel
theorem dX6_branch_128 : decode cX6_branch 128 = .ok (.ifCond .ne 7, 3) := by decide +kernel
theorem dX6_branch_131 : decode cX6_branch 131 = .ok (.iconst 1, 1) := by decide +kernel
theorem dX6_branch_132 : decode cX6_branch 132 = .ok (.goto 4, 3) := by decide +kernel
theorem dX6_branch_135 : decode cX6_branch 135 = .ok (.iconst 0, 1) := by decide +kernel
theorem dX6_branch_136 : decode cX6_branch 136 = .ok (.if_icmp .ne 7, 3) := by decide +kernel
theorem dX6_branch_139 : decode cX6_branch 139 = .ok (.iconst 1, 1) := by decide +kernel
theorem dX6_branch_140 : decode cX6_branch 140 = .ok (.goto 4, 3) := by decide +kernel
theorem dX6_branch_143 : decode cX6_branch 143 = .ok (.iconst 0, 1) := by decide +kernel
theorem dX6_branch_144 : decode cX6_branch 144 = .ok (.istore 9, 2) := by decide +kernel
theorem dX6_branch_146 : decode cX6_branch 146 = .ok (.aload_n 0, 1) := by decide +kernel
theorem dX6_branch_147 : decode cX6_branch 147 = .ok (.getfield 13, 3) := by decide +kernel
theorem dX6_branch_150 : decode cX6_branch 150 = .ok (.iload_n 2, 1) := by decide +kernel
theorem dX6_branch_151 : decode cX6_branch 151 = .ok (.iaload, 1) := by decide +kernel
theorem dX6_branch_152 : decode cX6_branch 152 = .ok (.aload_n 0, 1) := by decide +kernel
theorem dX6_branch_153 : decode cX6_branch 153 = .ok (.getfield 13, 3) := by decide +kernel
theorem dX6_branch_156 : decode cX6_branch 156 = .ok (.iload_n 3, 1) := by decide +kernel
theorem dX6_branch_157 : decode cX6_branch 157 = .ok (.iaload, 1) := by decide +kernel
theorem dX6_branch_158 : decode cX6_branch 158 = .ok (.ior, 1) := by decide +kernel
theorem dX6_branch_159 : decode cX6_branch 159 = .ok (.ifCond .ne 6, 3) := by decide +kernel
theorem dX6_branch_162 : decode cX6_branch 162 = .ok (.iload 9, 2) := by decide +kernel
theorem dX6_branch_164 : decode cX6_branch 164 = .ok (.ireturn, 1) := by decide +kernel
theorem dX6_branch_165 : decode cX6_branch 165 = .ok (.bipush 15, 2) := by decide +kernel
theorem dX6_branch_167 : decode cX6_branch 167 = .ok (.istore 10, 2) := by decide +kernel
theorem dX6_branch_169 : decode cX6_branch 169 = .ok (.iload 10, 2) := by decide +kernel
theorem dX6_branch_171 : decode cX6_branch 171 = .ok (.ifCond .le 57, 3) := by decide +kernel
theorem dX6_branch_174 : decode cX6_branch 174 = .ok (.aload_n 0, 1) := by decide +kernel
theorem dX6_branch_175 : decode cX6_branch 175 = .ok (.getfield 39, 3) := by decide +kernel
theorem dX6_branch_178 : decode cX6_branch 178 = .ok (.iload 10, 2) := by decide +kernel
theorem dX6_branch_180 : decode cX6_branch 180 = .ok (.aload_n 0, 1) := by decide +kernel
theorem dX6_branch_181 : decode cX6_branch 181 = .ok (.getfield 39, 3) := by decide +kernel
theorem dX6_branch_184 : decode cX6_branch 184 = .ok (.iload 10, 2) := by decide +kernel
theorem dX6_branch_186 : decode cX6_branch 186 = .ok (.iconst 1, 1) := by decide +kernel
theorem dX6_branch_187 : decode cX6_branch 187 = .ok (.isub, 1) := by decide +kernel
theorem dX6_branch_188 : decode cX6_branch 188 = .ok (.iaload, 1) := by decide +kernel
theorem dX6_branch_189 : decode cX6_branch 189 = .ok (.iastore, 1) := by decide +kernel
theorem dX6_branch_190 : decode cX6_branch 190 = .ok (.aload_n 0, 1) := by decide +kernel
theorem dX6_branch_191 : decode cX6_branch 191 = .ok (.getfield 42, 3) := by decide +kernel
theorem dX6_branch_194 : decode cX6_branch 194 = .ok (.iload 10, 2) := by decide +kernel
theorem dX6_branch_196 : decode cX6_branch 196 = .ok (.aload_n 0, 1) := by decide +kernel
theorem dX6_branch_197 : decode cX6_branch 197 = .ok (.getfield 42, 3) := by decide +kernel
theorem dX6_branch_200 : decode cX6_branch 200 = .ok (.iload 10, 2) := by decide +kernel
theorem dX6_branch_202 : decode cX6_branch 202 = .ok (.iconst 1, 1) := by decide +kernel
theorem dX6_branch_203 : decode cX6_branch 203 = .ok (.isub, 1) := by decide +kernel
theorem dX6_branch_204 : decode cX6_branch 204 = .ok (.iaload, 1) := by decide +kernel
theorem dX6_branch_205 : decode cX6_branch 205 = .ok (.iastore, 1) := by decide +kernel
theorem dX6_branch_206 : decode cX6_branch 206 = .ok (.aload_n 0, 1) := by decide +kernel
theorem dX6_branch_207 : decode cX6_branch 207 = .ok (.getfield 45, 3) := by decide +kernel
theorem dX6_branch_210 : decode cX6_branch 210 = .ok (.iload 10, 2) := by decide +kernel
theorem dX6_branch_212 : decode cX6_branch 212 = .ok (.aload_n 0, 1) := by decide +kernel
theorem dX6_branch_213 : decode cX6_branch 213 = .ok (.getfield 45, 3) := by decide +kernel
theorem dX6_branch_216 : decode cX6_branch 216 = .ok (.iload 10, 2) := by decide +kernel
theorem dX6_branch_218 : decode cX6_branch 218 = .ok (.iconst 1, 1) := by decide +kernel
theorem dX6_branch_219 : decode cX6_branch 219 = .ok (.isub, 1) := by decide +kernel
theorem dX6_branch_220 : decode cX6_branch 220 = .ok (.iaload, 1) := by decide +kernel
theorem dX6_branch_221 : decode cX6_branch 221 = .ok (.iastore, 1) := by decide +kernel
theorem dX6_branch_222 : decode cX6_branch 222 = .ok (.iinc 10 (-1), 3) := by decide +kernel
theorem dX6_branch_225 : decode cX6_branch 225 = .ok (.goto (-56), 3) := by decide +kernel
theorem dX6_branch_228 : decode cX6_branch 228 = .ok (.aload_n 0, 1) := by decide +kernel
theorem dX6_branch_229 : decode cX6_branch 229 = .ok (.getfield 39, 3) := by decide +kernel
theorem dX6_branch_232 : decode cX6_branch 232 = .ok (.iconst 0, 1) := by decide +kernel
theorem dX6_branch_233 : decode cX6_branch 233 = .ok (.iload 9, 2) := by decide +kernel
theorem dX6_branch_235 : decode cX6_branch 235 = .ok (.iastore, 1) := by decide +kernel
theorem dX6_branch_236 : decode cX6_branch 236 = .ok (.aload_n 0, 1) := by decide +kernel
theorem dX6_branch_237 : decode cX6_branch 237 = .ok (.getfield 42, 3) := by decide +kernel
theorem dX6_branch_240 : decode cX6_branch 240 = .ok (.iconst 0, 1) := by decide +kernel
theorem dX6_branch_241 : decode cX6_branch 241 = .ok (.aload_n 0, 1) := by decide +kernel
theorem dX6_branch_242 : decode cX6_branch 242 = .ok (.getfield 13, 3) := by decide +kernel
theorem dX6_branch_245 : decode cX6_branch 245 = .ok (.iload_n 2, 1) := by decide +kernel
theorem dX6_branch_246 : decode cX6_branch 246 = .ok (.iaload, 1) := by decide +kernel
theorem dX6_branch_247 : decode cX6_branch 247 = .ok (.aload_n 0, 1) := by decide +kernel
theorem dX6_branch_248 : decode cX6_branch 248 = .ok (.getfield 13, 3) := by decide +kernel
theorem dX6_branch_251 : decode cX6_branch 251 = .ok (.iload_n 3, 1) := by decide +kernel
theorem dX6_branch_252 : decode cX6_branch 252 = .ok (.iaload, 1) := by decide +kernel
theorem dX6_branch_253 : decode cX6_branch 253 = .ok (.ior, 1) := by decide +kernel
theorem dX6_branch_254 : decode cX6_branch 254 = .ok (.iastore, 1) := by decide +kernel
theorem dX6_branch_255 : decode cX6_branch 255 = .ok (.aload_n 0, 1) := by decide +kernel
theorem dX6_branch_256 : decode cX6_branch 256 = .ok (.getfield 45, 3) := by decide +kernel
theorem dX6_branch_259 : decode cX6_branch 259 = .ok (.iconst 0, 1) := by decide +kernel
theorem dX6_branch_260 : decode cX6_branch 260 = .ok (.aload_n 0, 1) := by decide +kernel
theorem dX6_branch_261 : decode cX6_branch 261 = .ok (.getfield 20, 3) := by decide +kernel
theorem dX6_branch_264 : decode cX6_branch 264 = .ok (.iload_n 2, 1) := by decide +kernel
theorem dX6_branch_265 : decode cX6_branch 265 = .ok (.baload, 1) := by decide +kernel
theorem dX6_branch_266 : decode cX6_branch 266 = .ok (.ifCond .eq 16, 3) := by decide +kernel
theorem dX6_branch_269 : decode cX6_branch 269 = .ok (.aload_n 0, 1) := by decide +kernel
theorem dX6_branch_270 : decode cX6_branch 270 = .ok (.getfield 20, 3) := by decide +kernel
theorem dX6_branch_273 : decode cX6_branch 273 = .ok (.iload_n 3, 1) := by decide +kernel
theorem dX6_branch_274 : decode cX6_branch 274 = .ok (.baload, 1) := by decide +kernel
theorem dX6_branch_275 : decode cX6_branch 275 = .ok (.ifCond .eq 7, 3) := by decide +kernel
theorem dX6_branch_278 : decode cX6_branch 278 = .ok (.iconst 1, 1) := by decide +kernel
theorem dX6_branch_279 : decode cX6_branch 279 = .ok (.goto 4, 3) := by decide +kernel
theorem dX6_branch_282 : decode cX6_branch 282 = .ok (.iconst 0, 1) := by decide +kernel
theorem dX6_branch_283 : decode cX6_branch 283 = .ok (.iastore, 1) := by decide +kernel
theorem dX6_branch_284 : decode cX6_branch 284 = .ok (.aload_n 0, 1) := by decide +kernel
theorem dX6_branch_285 : decode cX6_branch 285 = .ok (.dup, 1) := by decide +kernel
theorem dX6_branch_286 : decode cX6_branch 286 = .ok (.getfield 52, 3) := by decide +kernel
theorem dX6_branch_289 : decode cX6_branch 289 = .ok (.iconst 1, 1) := by decide +kernel
theorem dX6_branch_290 : decode cX6_branch 290 = .ok (.iadd, 1) := by decide +kernel
theorem dX6_branch_291 : decode cX6_branch 291 = .ok (.putfield 52, 3) := by decide +kernel
theorem dX6_branch_294 : decode cX6_branch 294 = .ok (.iload 9, 2) := by decide +kernel
theorem dX6_branch_296 : decode cX6_branch 296 = .ok (.ireturn, 1) := by decide +kernel
theorem dX6_kind_0 : decode cX6_kind 0 = .ok (.aload_n 0, 1) := by decide +kernel
theorem dX6_kind_1 : decode cX6_kind 1 = .ok (.iload_n 1, 1) := by decide +kernel
theorem dX6_kind_2 : decode cX6_kind 2 = .ok (.bipush 8, 2) := by decide +kernel
theorem dX6_kind_4 : decode cX6_kind 4 = .ok (.invokevirtual 140, 3) := by decide +kernel
theorem dX6_kind_7 : decode cX6_kind 7 = .ok (.ifCond .eq 7, 3) := by decide +kernel
theorem dX6_kind_10 : decode cX6_kind 10 = .ok (.iconst (-1), 1) := by decide +kernel
theorem dX6_kind_11 : decode cX6_kind 11 = .ok (.goto 9, 3) := by decide +kernel
theorem dX6_kind_14 : decode cX6_kind 14 = .ok (.aload_n 0, 1) := by decide +kernel
theorem dX6_kind_15 : decode cX6_kind 15 = .ok (.getfield 7, 3) := by decide +kernel
theorem dX6_kind_18 : decode cX6_kind 18 = .ok (.iload_n 1, 1) := by decide +kernel
theorem dX6_kind_19 : decode cX6_kind 19 = .ok (.iaload, 1) := by decide +kernel
theorem dX6_kind_20 : decode cX6_kind 20 = .ok (.ireturn, 1) := by decide +kernel
theorem dX6_bits_0 : decode cX6_bits 0 = .ok (.aload_n 0, 1) := by decide +kernel
theorem dX6_bits_1 : decode cX6_bits 1 = .ok (.iload_n 1, 1) := by decide +kernel
theorem dX6_bits_2 : decode cX6_bits 2 = .ok (.bipush 8, 2) := by decide +kernel
theorem dX6_bits_4 : decode cX6_bits 4 = .ok (.invokevirtual 140, 3) := by decide +kernel
theorem dX6_bits_7 : decode cX6_bits 7 = .ok (.ifCond .eq 9, 3) := by decide +kernel
theorem dX6_bits_10 : decode cX6_bits 10 = .ok (.ldc2_w 217, 3) := by decide +kernel
theorem dX6_bits_13 : decode cX6_bits 13 = .ok (.goto 9, 3) := by decide +kernel
theorem dX6_bits_16 : decode cX6_bits 16 = .ok (.aload_n 0, 1) := by decide +kernel
theorem dX6_bits_17 : decode cX6_bits 17 = .ok (.getfield 16, 3) := by decide +kernel
theorem dX6_bits_20 : decode cX6_bits 20 = .ok (.iload_n 1, 1) := by decide +kernel
theorem dX6_bits_21 : decode cX6_bits 21 = .ok (.laload, 1) := by decide +kernel
theorem dX6_bits_22 : decode cX6_bits 22 = .ok (.lreturn, 1) := by decide +kernel
theorem dX6_shadow_0 : decode cX6_shadow 0 = .ok (.aload_n 0, 1) := by decide +kernel
theorem dX6_shadow_1 : decode cX6_shadow 1 = .ok (.iload_n 1, 1) := by decide +kernel
theorem dX6_shadow_2 : decode cX6_shadow 2 = .ok (.bipush 8, 2) := by decide +kernel
theorem dX6_shadow_4 : decode cX6_shadow 4 = .ok (.invokevirtual 140, 3) := by decide +kernel
theorem dX6_shadow_7 : decode cX6_shadow 7 = .ok (.ifCond .eq 7, 3) := by decide +kernel
theorem dX6_shadow_10 : decode cX6_shadow 10 = .ok (.iconst (-1), 1) := by decide +kernel
theorem dX6_shadow_11 : decode cX6_shadow 11 = .ok (.goto 25, 3) := by decide +kernel
theorem dX6_shadow_14 : decode cX6_shadow 14 = .ok (.aload_n 0, 1) := by decide +kernel
theorem dX6_shadow_15 : decode cX6_shadow 15 = .ok (.getfield 13, 3) := by decide +kernel
theorem dX6_shadow_18 : decode cX6_shadow 18 = .ok (.iload_n 1, 1) := by decide +kernel
theorem dX6_shadow_19 : decode cX6_shadow 19 = .ok (.iaload, 1) := by decide +kernel
theorem dX6_shadow_20 : decode cX6_shadow 20 = .ok (.aload_n 0, 1) := by decide +kernel
theorem dX6_shadow_21 : decode cX6_shadow 21 = .ok (.getfield 20, 3) := by decide +kernel
theorem dX6_shadow_24 : decode cX6_shadow 24 = .ok (.iload_n 1, 1) := by decide +kernel
theorem dX6_shadow_25 : decode cX6_shadow 25 = .ok (.baload, 1) := by decide +kernel
theorem dX6_shadow_26 : decode cX6_shadow 26 = .ok (.ifCond .eq 8, 3) := by decide +kernel
theorem dX6_shadow_29 : decode cX6_shadow 29 = .ok (.bipush 64, 2) := by decide +kernel
theorem dX6_shadow_31 : decode cX6_shadow 31 = .ok (.goto 4, 3) := by decide +kernel
theorem dX6_shadow_34 : decode cX6_shadow 34 = .ok (.iconst 0, 1) := by decide +kernel
theorem dX6_shadow_35 : decode cX6_shadow 35 = .ok (.iadd, 1) := by decide +kernel
theorem dX6_shadow_36 : decode cX6_shadow 36 = .ok (.ireturn, 1) := by decide +kernel
theorem dX6_cell_0 : decode cX6_cell 0 = .ok (.aload_n 0, 1) := by decide +kernel
theorem dX6_cell_1 : decode cX6_cell 1 = .ok (.iload_n 1, 1) := by decide +kernel
theorem dX6_cell_2 : decode cX6_cell 2 = .ok (.iconst 4, 1) := by decide +kernel
theorem dX6_cell_3 : decode cX6_cell 3 = .ok (.invokevirtual 140, 3) := by decide +kernel
theorem dX6_cell_6 : decode cX6_cell 6 = .ok (.ifCond .ne 21, 3) := by decide +kernel
theorem dX6_cell_9 : decode cX6_cell 9 = .ok (.aload_n 0, 1) := by decide +kernel
theorem dX6_cell_10 : decode cX6_cell 10 = .ok (.iload_n 3, 1) := by decide +kernel
theorem dX6_cell_11 : decode cX6_cell 11 = .ok (.iconst 3, 1) := by decide +kernel
theorem dX6_cell_12 : decode cX6_cell 12 = .ok (.invokevirtual 140, 3) := by decide +kernel
theorem dX6_cell_15 : decode cX6_cell 15 = .ok (.ifCond .ne 12, 3) := by decide +kernel
theorem dX6_cell_18 : decode cX6_cell 18 = .ok (.aload_n 0, 1) := by decide +kernel
theorem dX6_cell_19 : decode cX6_cell 19 = .ok (.getfield 24, 3) := by decide +kernel
theorem dX6_cell_22 : decode cX6_cell 22 = .ok (.iload_n 1, 1) := by decide +kernel
theorem dX6_cell_23 : decode cX6_cell 23 = .ok (.iaload, 1) := by decide +kernel
theorem dX6_cell_24 : decode cX6_cell 24 = .ok (.ifCond .ge 7, 3) := by decide +kernel
theorem dX6_cell_27 : decode cX6_cell 27 = .ok (.ldc2_w 217, 3) := by decide +kernel
theorem dX6_cell_30 : decode cX6_cell 30 = .ok (.lreturn, 1) := by decide +kernel
theorem dX6_cell_31 : decode cX6_cell 31 = .ok (.aload_n 0, 1) := by decide +kernel
theorem dX6_cell_32 : decode cX6_cell 32 = .ok (.getfield 24, 3) := by decide +kernel
theorem dX6_cell_35 : decode cX6_cell 35 = .ok (.iload_n 1, 1) := by decide +kernel
theorem dX6_cell_36 : decode cX6_cell 36 = .ok (.iaload, 1) := by decide +kernel
theorem dX6_cell_37 : decode cX6_cell 37 = .ok (.istore 4, 2) := by decide +kernel
theorem dX6_cell_39 : decode cX6_cell 39 = .ok (.bipush 8, 2) := by decide +kernel
theorem dX6_cell_41 : decode cX6_cell 41 = .ok (.iload 4, 2) := by decide +kernel
theorem dX6_cell_43 : decode cX6_cell 43 = .ok (.bipush 12, 2) := by decide +kernel
theorem dX6_cell_45 : decode cX6_cell 45 = .ok (.imul, 1) := by decide +kernel
theorem dX6_cell_46 : decode cX6_cell 46 = .ok (.iadd, 1) := by decide +kernel
theorem dX6_cell_47 : decode cX6_cell 47 = .ok (.iload_n 2, 1) := by decide +kernel
theorem dX6_cell_48 : decode cX6_cell 48 = .ok (.iadd, 1) := by decide +kernel
theorem dX6_cell_49 : decode cX6_cell 49 = .ok (.istore 5, 2) := by decide +kernel
theorem dX6_cell_51 : decode cX6_cell 51 = .ok (.iload_n 3, 1) := by decide +kernel
theorem dX6_cell_52 : decode cX6_cell 52 = .ok (.iconst 2, 1) := by decide +kernel
theorem dX6_cell_53 : decode cX6_cell 53 = .ok (.if_icmp .ne 12, 3) := by decide +kernel
theorem dX6_cell_56 : decode cX6_cell 56 = .ok (.aload_n 0, 1) := by decide +kernel
theorem dX6_cell_57 : decode cX6_cell 57 = .ok (.getfield 27, 3) := by decide +kernel
theorem dX6_cell_60 : decode cX6_cell 60 = .ok (.iload 4, 2) := by decide +kernel
theorem dX6_cell_62 : decode cX6_cell 62 = .ok (.iaload, 1) := by decide +kernel
theorem dX6_cell_63 : decode cX6_cell 63 = .ok (.i2l, 1) := by decide +kernel
theorem dX6_cell_64 : decode cX6_cell 64 = .ok (.lreturn, 1) := by decide +kernel
theorem dX6_cell_65 : decode cX6_cell 65 = .ok (.iload_n 2, 1) := by decide +kernel
theorem dX6_cell_66 : decode cX6_cell 66 = .ok (.ifCond .lt 14, 3) := by decide +kernel
theorem dX6_cell_69 : decode cX6_cell 69 = .ok (.iload_n 2, 1) := by decide +kernel
theorem dX6_cell_70 : decode cX6_cell 70 = .ok (.aload_n 0, 1) := by decide +kernel
theorem dX6_cell_71 : decode cX6_cell 71 = .ok (.getfield 30, 3) := by decide +kernel
theorem dX6_cell_74 : decode cX6_cell 74 = .ok (.iload 4, 2) := by decide +kernel
theorem dX6_cell_76 : decode cX6_cell 76 = .ok (.iaload, 1) := by decide +kernel
theorem dX6_cell_77 : decode cX6_cell 77 = .ok (.if_icmp .lt 7, 3) := by decide +kernel
theorem dX6_cell_80 : decode cX6_cell 80 = .ok (.ldc2_w 217, 3) := by decide +kernel
theorem dX6_cell_83 : decode cX6_cell 83 = .ok (.lreturn, 1) := by decide +kernel
theorem dX6_cell_84 : decode cX6_cell 84 = .ok (.iload_n 3, 1) := by decide +kernel
theorem dX6_cell_85 : decode cX6_cell 85 = .ok (.ifCond .ne 13, 3) := by decide +kernel
theorem dX6_cell_88 : decode cX6_cell 88 = .ok (.aload_n 0, 1) := by decide +kernel
theorem dX6_cell_89 : decode cX6_cell 89 = .ok (.getfield 16, 3) := by decide +kernel
theorem dX6_cell_92 : decode cX6_cell 92 = .ok (.iload 5, 2) := by decide +kernel
theorem dX6_cell_94 : decode cX6_cell 94 = .ok (.laload, 1) := by decide +kernel
theorem dX6_cell_95 : decode cX6_cell 95 = .ok (.goto 28, 3) := by decide +kernel
theorem dX6_cell_98 : decode cX6_cell 98 = .ok (.aload_n 0, 1) := by decide +kernel
theorem dX6_cell_99 : decode cX6_cell 99 = .ok (.getfield 13, 3) := by decide +kernel
theorem dX6_cell_102 : decode cX6_cell 102 = .ok (.iload 5, 2) := by decide +kernel
theorem dX6_cell_104 : decode cX6_cell 104 = .ok (.iaload, 1) := by decide +kernel
theorem dX6_cell_105 : decode cX6_cell 105 = .ok (.aload_n 0, 1) := by decide +kernel
theorem dX6_cell_106 : decode cX6_cell 106 = .ok (.getfield 20, 3) := by decide +kernel
theorem dX6_cell_109 : decode cX6_cell 109 = .ok (.iload 5, 2) := by decide +kernel
theorem dX6_cell_111 : decode cX6_cell 111 = .ok (.baload, 1) := by decide +kernel
theorem dX6_cell_112 : decode cX6_cell 112 = .ok (.ifCond .eq 8, 3) := by decide +kernel
theorem dX6_cell_115 : decode cX6_cell 115 = .ok (.bipush 64, 2) := by decide +kernel
theorem dX6_cell_117 : decode cX6_cell 117 = .ok (.goto 4, 3) := by decide +kernel
theorem dX6_cell_120 : decode cX6_cell 120 = .ok (.iconst 0, 1) := by decide +kernel
theorem dX6_cell_121 : decode cX6_cell 121 = .ok (.iadd, 1) := by decide +kernel
theorem dX6_cell_122 : decode cX6_cell 122 = .ok (.i2l, 1) := by decide +kernel
theorem dX6_cell_123 : decode cX6_cell 123 = .ok (.lreturn, 1) := by decide +kernel
theorem dX6_pin_0 : decode cX6_pin 0 = .ok (.iload_n 1, 1) := by decide +kernel
theorem dX6_pin_1 : decode cX6_pin 1 = .ok (.ifCond .lt 26, 3) := by decide +kernel
theorem dX6_pin_4 : decode cX6_pin 4 = .ok (.iload_n 1, 1) := by decide +kernel
theorem dX6_pin_5 : decode cX6_pin 5 = .ok (.bipush 15, 2) := by decide +kernel
theorem dX6_pin_7 : decode cX6_pin 7 = .ok (.if_icmp .gt 20, 3) := by decide +kernel
theorem dX6_pin_10 : decode cX6_pin 10 = .ok (.iload_n 1, 1) := by decide +kernel
theorem dX6_pin_11 : decode cX6_pin 11 = .ok (.aload_n 0, 1) := by decide +kernel
theorem dX6_pin_12 : decode cX6_pin 12 = .ok (.getfield 48, 3) := by decide +kernel
theorem dX6_pin_15 : decode cX6_pin 15 = .ok (.if_icmp .ge 12, 3) := by decide +kernel
theorem dX6_pin_18 : decode cX6_pin 18 = .ok (.aload_n 0, 1) := by decide +kernel
theorem dX6_pin_19 : decode cX6_pin 19 = .ok (.iload_n 2, 1) := by decide +kernel
theorem dX6_pin_20 : decode cX6_pin 20 = .ok (.iconst 2, 1) := by decide +kernel
theorem dX6_pin_21 : decode cX6_pin 21 = .ok (.invokevirtual 140, 3) := by decide +kernel
theorem dX6_pin_24 : decode cX6_pin 24 = .ok (.ifCond .eq 7, 3) := by decide +kernel
theorem dX6_pin_27 : decode cX6_pin 27 = .ok (.ldc2_w 217, 3) := by decide +kernel
theorem dX6_pin_30 : decode cX6_pin 30 = .ok (.lreturn, 1) := by decide +kernel
theorem dX6_pin_31 : decode cX6_pin 31 = .ok (.iload_n 2, 1) := by decide +kernel
theorem dX6_pin_32 : decode cX6_pin 32 = .ok (.ifCond .ne 13, 3) := by decide +kernel
theorem dX6_pin_35 : decode cX6_pin 35 = .ok (.aload_n 0, 1) := by decide +kernel
theorem dX6_pin_36 : decode cX6_pin 36 = .ok (.getfield 33, 3) := by decide +kernel
theorem dX6_pin_39 : decode cX6_pin 39 = .ok (.iload_n 1, 1) := by decide +kernel
theorem dX6_pin_40 : decode cX6_pin 40 = .ok (.iaload, 1) := by decide +kernel
theorem dX6_pin_41 : decode cX6_pin 41 = .ok (.i2l, 1) := by decide +kernel
theorem dX6_pin_42 : decode cX6_pin 42 = .ok (.goto 10, 3) := by decide +kernel
theorem dX6_pin_45 : decode cX6_pin 45 = .ok (.aload_n 0, 1) := by decide +kernel
theorem dX6_pin_46 : decode cX6_pin 46 = .ok (.getfield 36, 3) := by decide +kernel
theorem dX6_pin_49 : decode cX6_pin 49 = .ok (.iload_n 1, 1) := by decide +kernel
theorem dX6_pin_50 : decode cX6_pin 50 = .ok (.iaload, 1) := by decide +kernel
theorem dX6_pin_51 : decode cX6_pin 51 = .ok (.i2l, 1) := by decide +kernel
theorem dX6_pin_52 : decode cX6_pin 52 = .ok (.lreturn, 1) := by decide +kernel
theorem dX6_way_0 : decode cX6_way 0 = .ok (.iload_n 1, 1) := by decide +kernel
theorem dX6_way_1 : decode cX6_way 1 = .ok (.ifCond .lt 26, 3) := by decide +kernel
theorem dX6_way_4 : decode cX6_way 4 = .ok (.iload_n 1, 1) := by decide +kernel
theorem dX6_way_5 : decode cX6_way 5 = .ok (.bipush 15, 2) := by decide +kernel
theorem dX6_way_7 : decode cX6_way 7 = .ok (.if_icmp .gt 20, 3) := by decide +kernel
theorem dX6_way_10 : decode cX6_way 10 = .ok (.iload_n 1, 1) := by decide +kernel
theorem dX6_way_11 : decode cX6_way 11 = .ok (.aload_n 0, 1) := by decide +kernel
theorem dX6_way_12 : decode cX6_way 12 = .ok (.getfield 52, 3) := by decide +kernel
theorem dX6_way_15 : decode cX6_way 15 = .ok (.if_icmp .ge 12, 3) := by decide +kernel
theorem dX6_way_18 : decode cX6_way 18 = .ok (.aload_n 0, 1) := by decide +kernel
theorem dX6_way_19 : decode cX6_way 19 = .ok (.iload_n 2, 1) := by decide +kernel
theorem dX6_way_20 : decode cX6_way 20 = .ok (.iconst 3, 1) := by decide +kernel
theorem dX6_way_21 : decode cX6_way 21 = .ok (.invokevirtual 140, 3) := by decide +kernel
theorem dX6_way_24 : decode cX6_way 24 = .ok (.ifCond .eq 7, 3) := by decide +kernel
theorem dX6_way_27 : decode cX6_way 27 = .ok (.ldc2_w 217, 3) := by decide +kernel
theorem dX6_way_30 : decode cX6_way 30 = .ok (.lreturn, 1) := by decide +kernel
theorem dX6_way_31 : decode cX6_way 31 = .ok (.iload_n 2, 1) := by decide +kernel
theorem dX6_way_32 : decode cX6_way 32 = .ok (.ifCond .ne 13, 3) := by decide +kernel
theorem dX6_way_35 : decode cX6_way 35 = .ok (.aload_n 0, 1) := by decide +kernel
theorem dX6_way_36 : decode cX6_way 36 = .ok (.getfield 39, 3) := by decide +kernel
theorem dX6_way_39 : decode cX6_way 39 = .ok (.iload_n 1, 1) := by decide +kernel
theorem dX6_way_40 : decode cX6_way 40 = .ok (.iaload, 1) := by decide +kernel
theorem dX6_way_41 : decode cX6_way 41 = .ok (.i2l, 1) := by decide +kernel
theorem dX6_way_42 : decode cX6_way 42 = .ok (.goto 25, 3) := by decide +kernel
theorem dX6_way_45 : decode cX6_way 45 = .ok (.iload_n 2, 1) := by decide +kernel
theorem dX6_way_46 : decode cX6_way 46 = .ok (.iconst 1, 1) := by decide +kernel
theorem dX6_way_47 : decode cX6_way 47 = .ok (.if_icmp .ne 13, 3) := by decide +kernel
theorem dX6_way_50 : decode cX6_way 50 = .ok (.aload_n 0, 1) := by decide +kernel
theorem dX6_way_51 : decode cX6_way 51 = .ok (.getfield 42, 3) := by decide +kernel
theorem dX6_way_54 : decode cX6_way 54 = .ok (.iload_n 1, 1) := by decide +kernel
theorem dX6_way_55 : decode cX6_way 55 = .ok (.iaload, 1) := by decide +kernel
theorem dX6_way_56 : decode cX6_way 56 = .ok (.i2l, 1) := by decide +kernel
theorem dX6_way_57 : decode cX6_way 57 = .ok (.goto 10, 3) := by decide +kernel
theorem dX6_way_60 : decode cX6_way 60 = .ok (.aload_n 0, 1) := by decide +kernel
theorem dX6_way_61 : decode cX6_way 61 = .ok (.getfield 45, 3) := by decide +kernel
theorem dX6_way_64 : decode cX6_way 64 = .ok (.iload_n 1, 1) := by decide +kernel
theorem dX6_way_65 : decode cX6_way 65 = .ok (.iaload, 1) := by decide +kernel
theorem dX6_way_66 : decode cX6_way 66 = .ok (.i2l, 1) := by decide +kernel
theorem dX6_way_67 : decode cX6_way 67 = .ok (.lreturn, 1) := by decide +kernel
theorem dX6_count_0 : decode cX6_count 0 = .ok (.iconst 0, 1) := by decide +kernel
theorem dX6_count_1 : decode cX6_count 1 = .ok (.istore_n 2, 1) := by decide +kernel
theorem dX6_count_2 : decode cX6_count 2 = .ok (.iconst 0, 1) := by decide +kernel
theorem dX6_count_3 : decode cX6_count 3 = .ok (.istore_n 3, 1) := by decide +kernel
theorem dX6_count_4 : decode cX6_count 4 = .ok (.iload_n 3, 1) := by decide +kernel
theorem dX6_count_5 : decode cX6_count 5 = .ok (.bipush 8, 2) := by decide +kernel
theorem dX6_count_7 : decode cX6_count 7 = .ok (.if_icmp .ge 21, 3) := by decide +kernel
theorem dX6_count_10 : decode cX6_count 10 = .ok (.aload_n 0, 1) := by decide +kernel
theorem dX6_count_11 : decode cX6_count 11 = .ok (.getfield 13, 3) := by decide +kernel
theorem dX6_count_14 : decode cX6_count 14 = .ok (.iload_n 3, 1) := by decide +kernel
theorem dX6_count_15 : decode cX6_count 15 = .ok (.iaload, 1) := by decide +kernel
theorem dX6_count_16 : decode cX6_count 16 = .ok (.ifCond .eq 6, 3) := by decide +kernel
theorem dX6_count_19 : decode cX6_count 19 = .ok (.iinc 2 1, 3) := by decide +kernel
theorem dX6_count_22 : decode cX6_count 22 = .ok (.iinc 3 1, 3) := by decide +kernel
theorem dX6_count_25 : decode cX6_count 25 = .ok (.goto (-21), 3) := by decide +kernel
theorem dX6_count_28 : decode cX6_count 28 = .ok (.iload_n 1, 1) := by decide +kernel
theorem dX6_count_29 : decode cX6_count 29 = .ok (.ifCond .ne 10, 3) := by decide +kernel
theorem dX6_count_32 : decode cX6_count 32 = .ok (.aload_n 0, 1) := by decide +kernel
theorem dX6_count_33 : decode cX6_count 33 = .ok (.getfield 48, 3) := by decide +kernel
theorem dX6_count_36 : decode cX6_count 36 = .ok (.goto 37, 3) := by decide +kernel
theorem dX6_count_39 : decode cX6_count 39 = .ok (.iload_n 1, 1) := by decide +kernel
theorem dX6_count_40 : decode cX6_count 40 = .ok (.iconst 1, 1) := by decide +kernel
theorem dX6_count_41 : decode cX6_count 41 = .ok (.if_icmp .ne 10, 3) := by decide +kernel
theorem dX6_count_44 : decode cX6_count 44 = .ok (.aload_n 0, 1) := by decide +kernel
theorem dX6_count_45 : decode cX6_count 45 = .ok (.getfield 52, 3) := by decide +kernel
theorem dX6_count_48 : decode cX6_count 48 = .ok (.goto 25, 3) := by decide +kernel
theorem dX6_count_51 : decode cX6_count 51 = .ok (.iload_n 1, 1) := by decide +kernel
theorem dX6_count_52 : decode cX6_count 52 = .ok (.iconst 2, 1) := by decide +kernel
theorem dX6_count_53 : decode cX6_count 53 = .ok (.if_icmp .ne 10, 3) := by decide +kernel
theorem dX6_count_56 : decode cX6_count 56 = .ok (.aload_n 0, 1) := by decide +kernel
theorem dX6_count_57 : decode cX6_count 57 = .ok (.getfield 55, 3) := by decide +kernel
theorem dX6_count_60 : decode cX6_count 60 = .ok (.goto 13, 3) := by decide +kernel
theorem dX6_count_63 : decode cX6_count 63 = .ok (.iload_n 1, 1) := by decide +kernel
theorem dX6_count_64 : decode cX6_count 64 = .ok (.iconst 3, 1) := by decide +kernel
theorem dX6_count_65 : decode cX6_count 65 = .ok (.if_icmp .ne 7, 3) := by decide +kernel
theorem dX6_count_68 : decode cX6_count 68 = .ok (.iload_n 2, 1) := by decide +kernel
theorem dX6_count_69 : decode cX6_count 69 = .ok (.goto 4, 3) := by decide +kernel
theorem dX6_count_72 : decode cX6_count 72 = .ok (.iconst (-1), 1) := by decide +kernel
theorem dX6_count_73 : decode cX6_count 73 = .ok (.ireturn, 1) := by decide +kernel
theorem dJ6_numberOfLeadingZeros_0f7a4_0 : decode cJ6_numberOfLeadingZeros_0f7a4 0 = .ok (.iload_n 0, 1) := by decide +kernel
theorem dJ6_numberOfLeadingZeros_0f7a4_1 : decode cJ6_numberOfLeadingZeros_0f7a4 1 = .ok (.ifCond .gt 14, 3) := by decide +kernel
theorem dJ6_numberOfLeadingZeros_0f7a4_4 : decode cJ6_numberOfLeadingZeros_0f7a4 4 = .ok (.iload_n 0, 1) := by decide +kernel
theorem dJ6_numberOfLeadingZeros_0f7a4_5 : decode cJ6_numberOfLeadingZeros_0f7a4 5 = .ok (.ifCond .ne 8, 3) := by decide +kernel
theorem dJ6_numberOfLeadingZeros_0f7a4_8 : decode cJ6_numberOfLeadingZeros_0f7a4 8 = .ok (.bipush 32, 2) := by decide +kernel
theorem dJ6_numberOfLeadingZeros_0f7a4_10 : decode cJ6_numberOfLeadingZeros_0f7a4 10 = .ok (.goto 4, 3) := by decide +kernel
theorem dJ6_numberOfLeadingZeros_0f7a4_13 : decode cJ6_numberOfLeadingZeros_0f7a4 13 = .ok (.iconst 0, 1) := by decide +kernel
theorem dJ6_numberOfLeadingZeros_0f7a4_14 : decode cJ6_numberOfLeadingZeros_0f7a4 14 = .ok (.ireturn, 1) := by decide +kernel
theorem dJ6_numberOfLeadingZeros_0f7a4_15 : decode cJ6_numberOfLeadingZeros_0f7a4 15 = .ok (.bipush 31, 2) := by decide +kernel
theorem dJ6_numberOfLeadingZeros_0f7a4_17 : decode cJ6_numberOfLeadingZeros_0f7a4 17 = .ok (.istore_n 1, 1) := by decide +kernel
theorem dJ6_numberOfLeadingZeros_0f7a4_18 : decode cJ6_numberOfLeadingZeros_0f7a4 18 = .ok (.iload_n 0, 1) := by decide +kernel
theorem dJ6_numberOfLeadingZeros_0f7a4_19 : decode cJ6_numberOfLeadingZeros_0f7a4 19 = .ok (.ldc_w 264, 3) := by decide +kernel
theorem dJ6_numberOfLeadingZeros_0f7a4_22 : decode cJ6_numberOfLeadingZeros_0f7a4 22 = .ok (.if_icmp .lt 11, 3) := by decide +kernel
theorem dJ6_numberOfLeadingZeros_0f7a4_25 : decode cJ6_numberOfLeadingZeros_0f7a4 25 = .ok (.iinc 1 (-16), 3) := by decide +kernel
theorem dJ6_numberOfLeadingZeros_0f7a4_28 : decode cJ6_numberOfLeadingZeros_0f7a4 28 = .ok (.iload_n 0, 1) := by decide +kernel
theorem dJ6_numberOfLeadingZeros_0f7a4_29 : decode cJ6_numberOfLeadingZeros_0f7a4 29 = .ok (.bipush 16, 2) := by decide +kernel
theorem dJ6_numberOfLeadingZeros_0f7a4_31 : decode cJ6_numberOfLeadingZeros_0f7a4 31 = .ok (.iushr, 1) := by decide +kernel
theorem dJ6_numberOfLeadingZeros_0f7a4_32 : decode cJ6_numberOfLeadingZeros_0f7a4 32 = .ok (.istore_n 0, 1) := by decide +kernel
theorem dJ6_numberOfLeadingZeros_0f7a4_33 : decode cJ6_numberOfLeadingZeros_0f7a4 33 = .ok (.iload_n 0, 1) := by decide +kernel
theorem dJ6_numberOfLeadingZeros_0f7a4_34 : decode cJ6_numberOfLeadingZeros_0f7a4 34 = .ok (.sipush 256, 3) := by decide +kernel
theorem dJ6_numberOfLeadingZeros_0f7a4_37 : decode cJ6_numberOfLeadingZeros_0f7a4 37 = .ok (.if_icmp .lt 11, 3) := by decide +kernel
theorem dJ6_numberOfLeadingZeros_0f7a4_40 : decode cJ6_numberOfLeadingZeros_0f7a4 40 = .ok (.iinc 1 (-8), 3) := by decide +kernel
theorem dJ6_numberOfLeadingZeros_0f7a4_43 : decode cJ6_numberOfLeadingZeros_0f7a4 43 = .ok (.iload_n 0, 1) := by decide +kernel
theorem dJ6_numberOfLeadingZeros_0f7a4_44 : decode cJ6_numberOfLeadingZeros_0f7a4 44 = .ok (.bipush 8, 2) := by decide +kernel
theorem dJ6_numberOfLeadingZeros_0f7a4_46 : decode cJ6_numberOfLeadingZeros_0f7a4 46 = .ok (.iushr, 1) := by decide +kernel
theorem dJ6_numberOfLeadingZeros_0f7a4_47 : decode cJ6_numberOfLeadingZeros_0f7a4 47 = .ok (.istore_n 0, 1) := by decide +kernel
theorem dJ6_numberOfLeadingZeros_0f7a4_48 : decode cJ6_numberOfLeadingZeros_0f7a4 48 = .ok (.iload_n 0, 1) := by decide +kernel
theorem dJ6_numberOfLeadingZeros_0f7a4_49 : decode cJ6_numberOfLeadingZeros_0f7a4 49 = .ok (.bipush 16, 2) := by decide +kernel
theorem dJ6_numberOfLeadingZeros_0f7a4_51 : decode cJ6_numberOfLeadingZeros_0f7a4 51 = .ok (.if_icmp .lt 10, 3) := by decide +kernel
theorem dJ6_numberOfLeadingZeros_0f7a4_54 : decode cJ6_numberOfLeadingZeros_0f7a4 54 = .ok (.iinc 1 (-4), 3) := by decide +kernel
theorem dJ6_numberOfLeadingZeros_0f7a4_57 : decode cJ6_numberOfLeadingZeros_0f7a4 57 = .ok (.iload_n 0, 1) := by decide +kernel
theorem dJ6_numberOfLeadingZeros_0f7a4_58 : decode cJ6_numberOfLeadingZeros_0f7a4 58 = .ok (.iconst 4, 1) := by decide +kernel
theorem dJ6_numberOfLeadingZeros_0f7a4_59 : decode cJ6_numberOfLeadingZeros_0f7a4 59 = .ok (.iushr, 1) := by decide +kernel
theorem dJ6_numberOfLeadingZeros_0f7a4_60 : decode cJ6_numberOfLeadingZeros_0f7a4 60 = .ok (.istore_n 0, 1) := by decide +kernel
theorem dJ6_numberOfLeadingZeros_0f7a4_61 : decode cJ6_numberOfLeadingZeros_0f7a4 61 = .ok (.iload_n 0, 1) := by decide +kernel
theorem dJ6_numberOfLeadingZeros_0f7a4_62 : decode cJ6_numberOfLeadingZeros_0f7a4 62 = .ok (.iconst 4, 1) := by decide +kernel
theorem dJ6_numberOfLeadingZeros_0f7a4_63 : decode cJ6_numberOfLeadingZeros_0f7a4 63 = .ok (.if_icmp .lt 10, 3) := by decide +kernel
theorem dJ6_numberOfLeadingZeros_0f7a4_66 : decode cJ6_numberOfLeadingZeros_0f7a4 66 = .ok (.iinc 1 (-2), 3) := by decide +kernel
theorem dJ6_numberOfLeadingZeros_0f7a4_69 : decode cJ6_numberOfLeadingZeros_0f7a4 69 = .ok (.iload_n 0, 1) := by decide +kernel
theorem dJ6_numberOfLeadingZeros_0f7a4_70 : decode cJ6_numberOfLeadingZeros_0f7a4 70 = .ok (.iconst 2, 1) := by decide +kernel
theorem dJ6_numberOfLeadingZeros_0f7a4_71 : decode cJ6_numberOfLeadingZeros_0f7a4 71 = .ok (.iushr, 1) := by decide +kernel
theorem dJ6_numberOfLeadingZeros_0f7a4_72 : decode cJ6_numberOfLeadingZeros_0f7a4 72 = .ok (.istore_n 0, 1) := by decide +kernel
theorem dJ6_numberOfLeadingZeros_0f7a4_73 : decode cJ6_numberOfLeadingZeros_0f7a4 73 = .ok (.iload_n 1, 1) := by decide +kernel
theorem dJ6_numberOfLeadingZeros_0f7a4_74 : decode cJ6_numberOfLeadingZeros_0f7a4 74 = .ok (.iload_n 0, 1) := by decide +kernel
theorem dJ6_numberOfLeadingZeros_0f7a4_75 : decode cJ6_numberOfLeadingZeros_0f7a4 75 = .ok (.iconst 1, 1) := by decide +kernel
theorem dJ6_numberOfLeadingZeros_0f7a4_76 : decode cJ6_numberOfLeadingZeros_0f7a4 76 = .ok (.iushr, 1) := by decide +kernel
theorem dJ6_numberOfLeadingZeros_0f7a4_77 : decode cJ6_numberOfLeadingZeros_0f7a4 77 = .ok (.isub, 1) := by decide +kernel
theorem dJ6_numberOfLeadingZeros_0f7a4_78 : decode cJ6_numberOfLeadingZeros_0f7a4 78 = .ok (.ireturn, 1) := by decide +kernel
theorem dJ13_compare_74951_0 : decode cJ13_compare_74951 0 = .ok (.lload_n 0, 1) := by decide +kernel
theorem dJ13_compare_74951_1 : decode cJ13_compare_74951 1 = .ok (.lload_n 2, 1) := by decide +kernel
theorem dJ13_compare_74951_2 : decode cJ13_compare_74951 2 = .ok (.lcmp, 1) := by decide +kernel
theorem dJ13_compare_74951_3 : decode cJ13_compare_74951 3 = .ok (.ifCond .ge 7, 3) := by decide +kernel
theorem dJ13_compare_74951_6 : decode cJ13_compare_74951 6 = .ok (.iconst (-1), 1) := by decide +kernel
theorem dJ13_compare_74951_7 : decode cJ13_compare_74951 7 = .ok (.goto 14, 3) := by decide +kernel
theorem dJ13_compare_74951_10 : decode cJ13_compare_74951 10 = .ok (.lload_n 0, 1) := by decide +kernel
theorem dJ13_compare_74951_11 : decode cJ13_compare_74951 11 = .ok (.lload_n 2, 1) := by decide +kernel
theorem dJ13_compare_74951_12 : decode cJ13_compare_74951 12 = .ok (.lcmp, 1) := by decide +kernel
theorem dJ13_compare_74951_13 : decode cJ13_compare_74951 13 = .ok (.ifCond .ne 7, 3) := by decide +kernel
theorem dJ13_compare_74951_16 : decode cJ13_compare_74951 16 = .ok (.iconst 0, 1) := by decide +kernel
theorem dJ13_compare_74951_17 : decode cJ13_compare_74951 17 = .ok (.goto 4, 3) := by decide +kernel
theorem dJ13_compare_74951_20 : decode cJ13_compare_74951 20 = .ok (.iconst 1, 1) := by decide +kernel
theorem dJ13_compare_74951_21 : decode cJ13_compare_74951 21 = .ok (.ireturn, 1) := by decide +kernel
theorem dJ13_numberOfLeadingZeros_95d88_0 : decode cJ13_numberOfLeadingZeros_95d88 0 = .ok (.lload_n 0, 1) := by decide +kernel
theorem dJ13_numberOfLeadingZeros_95d88_1 : decode cJ13_numberOfLeadingZeros_95d88 1 = .ok (.bipush 32, 2) := by decide +kernel
theorem dJ13_numberOfLeadingZeros_95d88_3 : decode cJ13_numberOfLeadingZeros_95d88 3 = .ok (.lushr, 1) := by decide +kernel
theorem dJ13_numberOfLeadingZeros_95d88_4 : decode cJ13_numberOfLeadingZeros_95d88 4 = .ok (.l2i, 1) := by decide +kernel
theorem dJ13_numberOfLeadingZeros_95d88_5 : decode cJ13_numberOfLeadingZeros_95d88 5 = .ok (.istore_n 2, 1) := by decide +kernel
theorem dJ13_numberOfLeadingZeros_95d88_6 : decode cJ13_numberOfLeadingZeros_95d88 6 = .ok (.iload_n 2, 1) := by decide +kernel
theorem dJ13_numberOfLeadingZeros_95d88_7 : decode cJ13_numberOfLeadingZeros_95d88 7 = .ok (.ifCond .ne 14, 3) := by decide +kernel
theorem dJ13_numberOfLeadingZeros_95d88_10 : decode cJ13_numberOfLeadingZeros_95d88 10 = .ok (.bipush 32, 2) := by decide +kernel
theorem dJ13_numberOfLeadingZeros_95d88_12 : decode cJ13_numberOfLeadingZeros_95d88 12 = .ok (.lload_n 0, 1) := by decide +kernel
theorem dJ13_numberOfLeadingZeros_95d88_13 : decode cJ13_numberOfLeadingZeros_95d88 13 = .ok (.l2i, 1) := by decide +kernel
theorem dJ13_numberOfLeadingZeros_95d88_14 : decode cJ13_numberOfLeadingZeros_95d88 14 = .ok (.invokestatic 308, 3) := by decide +kernel
theorem dJ13_numberOfLeadingZeros_95d88_17 : decode cJ13_numberOfLeadingZeros_95d88 17 = .ok (.iadd, 1) := by decide +kernel
theorem dJ13_numberOfLeadingZeros_95d88_18 : decode cJ13_numberOfLeadingZeros_95d88 18 = .ok (.goto 7, 3) := by decide +kernel
theorem dJ13_numberOfLeadingZeros_95d88_21 : decode cJ13_numberOfLeadingZeros_95d88 21 = .ok (.iload_n 2, 1) := by decide +kernel
theorem dJ13_numberOfLeadingZeros_95d88_22 : decode cJ13_numberOfLeadingZeros_95d88 22 = .ok (.invokestatic 308, 3) := by decide +kernel
theorem dJ13_numberOfLeadingZeros_95d88_25 : decode cJ13_numberOfLeadingZeros_95d88 25 = .ok (.ireturn, 1) := by decide +kernel
theorem dJ9_abs_067f4_0 : decode cJ9_abs_067f4 0 = .ok (.lload_n 0, 1) := by decide +kernel
theorem dJ9_abs_067f4_1 : decode cJ9_abs_067f4 1 = .ok (.lconst 0, 1) := by decide +kernel
theorem dJ9_abs_067f4_2 : decode cJ9_abs_067f4 2 = .ok (.lcmp, 1) := by decide +kernel
theorem dJ9_abs_067f4_3 : decode cJ9_abs_067f4 3 = .ok (.ifCond .ge 8, 3) := by decide +kernel
theorem dJ9_abs_067f4_6 : decode cJ9_abs_067f4 6 = .ok (.lload_n 0, 1) := by decide +kernel
theorem dJ9_abs_067f4_7 : decode cJ9_abs_067f4 7 = .ok (.lneg, 1) := by decide +kernel
theorem dJ9_abs_067f4_8 : decode cJ9_abs_067f4 8 = .ok (.goto 4, 3) := by decide +kernel
theorem dJ9_abs_067f4_11 : decode cJ9_abs_067f4 11 = .ok (.lload_n 0, 1) := by decide +kernel
theorem dJ9_abs_067f4_12 : decode cJ9_abs_067f4 12 = .ok (.lreturn, 1) := by decide +kernel
theorem dJ9_max_7cf53_0 : decode cJ9_max_7cf53 0 = .ok (.iload_n 0, 1) := by decide +kernel
theorem dJ9_max_7cf53_1 : decode cJ9_max_7cf53 1 = .ok (.iload_n 1, 1) := by decide +kernel
theorem dJ9_max_7cf53_2 : decode cJ9_max_7cf53 2 = .ok (.if_icmp .lt 7, 3) := by decide +kernel
theorem dJ9_max_7cf53_5 : decode cJ9_max_7cf53 5 = .ok (.iload_n 0, 1) := by decide +kernel
theorem dJ9_max_7cf53_6 : decode cJ9_max_7cf53 6 = .ok (.goto 4, 3) := by decide +kernel
theorem dJ9_max_7cf53_9 : decode cJ9_max_7cf53 9 = .ok (.iload_n 1, 1) := by decide +kernel
theorem dJ9_max_7cf53_10 : decode cJ9_max_7cf53 10 = .ok (.ireturn, 1) := by decide +kernel
theorem dJ9_max_f86c9_0 : decode cJ9_max_f86c9 0 = .ok (.lload_n 0, 1) := by decide +kernel
theorem dJ9_max_f86c9_1 : decode cJ9_max_f86c9 1 = .ok (.lload_n 2, 1) := by decide +kernel
theorem dJ9_max_f86c9_2 : decode cJ9_max_f86c9 2 = .ok (.lcmp, 1) := by decide +kernel
theorem dJ9_max_f86c9_3 : decode cJ9_max_f86c9 3 = .ok (.ifCond .lt 7, 3) := by decide +kernel
theorem dJ9_max_f86c9_6 : decode cJ9_max_f86c9 6 = .ok (.lload_n 0, 1) := by decide +kernel
theorem dJ9_max_f86c9_7 : decode cJ9_max_f86c9 7 = .ok (.goto 4, 3) := by decide +kernel
theorem dJ9_max_f86c9_10 : decode cJ9_max_f86c9 10 = .ok (.lload_n 2, 1) := by decide +kernel
theorem dJ9_max_f86c9_11 : decode cJ9_max_f86c9 11 = .ok (.lreturn, 1) := by decide +kernel
theorem dJ9_min_7cf53_0 : decode cJ9_min_7cf53 0 = .ok (.iload_n 0, 1) := by decide +kernel
theorem dJ9_min_7cf53_1 : decode cJ9_min_7cf53 1 = .ok (.iload_n 1, 1) := by decide +kernel
theorem dJ9_min_7cf53_2 : decode cJ9_min_7cf53 2 = .ok (.if_icmp .gt 7, 3) := by decide +kernel
theorem dJ9_min_7cf53_5 : decode cJ9_min_7cf53 5 = .ok (.iload_n 0, 1) := by decide +kernel
theorem dJ9_min_7cf53_6 : decode cJ9_min_7cf53 6 = .ok (.goto 4, 3) := by decide +kernel
theorem dJ9_min_7cf53_9 : decode cJ9_min_7cf53 9 = .ok (.iload_n 1, 1) := by decide +kernel
theorem dJ9_min_7cf53_10 : decode cJ9_min_7cf53 10 = .ok (.ireturn, 1) := by decide +kernel
theorem dJ9_min_f86c9_0 : decode cJ9_min_f86c9 0 = .ok (.lload_n 0, 1) := by decide +kernel
theorem dJ9_min_f86c9_1 : decode cJ9_min_f86c9 1 = .ok (.lload_n 2, 1) := by decide +kernel
theorem dJ9_min_f86c9_2 : decode cJ9_min_f86c9 2 = .ok (.lcmp, 1) := by decide +kernel
theorem dJ9_min_f86c9_3 : decode cJ9_min_f86c9 3 = .ok (.ifCond .gt 7, 3) := by decide +kernel
theorem dJ9_min_f86c9_6 : decode cJ9_min_f86c9 6 = .ok (.lload_n 0, 1) := by decide +kernel
theorem dJ9_min_f86c9_7 : decode cJ9_min_f86c9 7 = .ok (.goto 4, 3) := by decide +kernel
theorem dJ9_min_f86c9_10 : decode cJ9_min_f86c9 10 = .ok (.lload_n 2, 1) := by decide +kernel
theorem dJ9_min_f86c9_11 : decode cJ9_min_f86c9 11 = .ok (.lreturn, 1) := by decide +kernel
theorem dL_law_0 : decode cL_law 0 = .ok (.new 7, 3) := by decide +kernel
theorem dL_law_3 : decode cL_law 3 = .ok (.dup, 1) := by decide +kernel
theorem dL_law_4 : decode cL_law 4 = .ok (.invokespecial 9, 3) := by decide +kernel
theorem dL_law_7 : decode cL_law 7 = .ok (.astore_n 1, 1) := by decide +kernel
theorem dL_law_8 : decode cL_law 8 = .ok (.new 10, 3) := by decide +kernel
theorem dL_law_11 : decode cL_law 11 = .ok (.dup, 1) := by decide +kernel
theorem dL_law_12 : decode cL_law 12 = .ok (.invokespecial 12, 3) := by decide +kernel
theorem dL_law_15 : decode cL_law 15 = .ok (.astore_n 2, 1) := by decide +kernel
theorem dL_law_16 : decode cL_law 16 = .ok (.iconst 0, 1) := by decide +kernel
theorem dL_law_17 : decode cL_law 17 = .ok (.istore_n 3, 1) := by decide +kernel
theorem dL_law_18 : decode cL_law 18 = .ok (.iload_n 3, 1) := by decide +kernel
theorem dL_law_19 : decode cL_law 19 = .ok (.aload_n 0, 1) := by decide +kernel
theorem dL_law_20 : decode cL_law 20 = .ok (.arraylength, 1) := by decide +kernel
theorem dL_law_21 : decode cL_law 21 = .ok (.bipush 6, 2) := by decide +kernel
theorem dL_law_23 : decode cL_law 23 = .ok (.isub, 1) := by decide +kernel
theorem dL_law_24 : decode cL_law 24 = .ok (.if_icmp .gt 924, 3) := by decide +kernel
theorem dL_law_27 : decode cL_law 27 = .ok (.aload_n 0, 1) := by decide +kernel
theorem dL_law_28 : decode cL_law 28 = .ok (.iload_n 3, 1) := by decide +kernel
theorem dL_law_29 : decode cL_law 29 = .ok (.iaload, 1) := by decide +kernel
theorem dL_law_30 : decode cL_law 30 = .ok (.bipush 31, 2) := by decide +kernel
theorem dL_law_32 : decode cL_law 32 = .ok (.iand, 1) := by decide +kernel
theorem dL_law_33 : decode cL_law 33 = .ok (.tableswitch 909 0 19 #[95, 168, 251, 294, 347, 380, 423, 446, 479, 522, 565, 598, 661, 704, 727, 751, 774, 818, 852, 886], 95) := by decide +kernel
theorem dL_law_128 : decode cL_law 128 = .ok (.aload_n 1, 1) := by decide +kernel
theorem dL_law_129 : decode cL_law 129 = .ok (.aload_n 0, 1) := by decide +kernel
theorem dL_law_130 : decode cL_law 130 = .ok (.iload_n 3, 1) := by decide +kernel
theorem dL_law_131 : decode cL_law 131 = .ok (.iconst 1, 1) := by decide +kernel
theorem dL_law_132 : decode cL_law 132 = .ok (.iadd, 1) := by decide +kernel
theorem dL_law_133 : decode cL_law 133 = .ok (.iaload, 1) := by decide +kernel
theorem dL_law_134 : decode cL_law 134 = .ok (.aload_n 0, 1) := by decide +kernel
theorem dL_law_135 : decode cL_law 135 = .ok (.iload_n 3, 1) := by decide +kernel
theorem dL_law_136 : decode cL_law 136 = .ok (.iconst 2, 1) := by decide +kernel
theorem dL_law_137 : decode cL_law 137 = .ok (.iadd, 1) := by decide +kernel
theorem dL_law_138 : decode cL_law 138 = .ok (.iaload, 1) := by decide +kernel
theorem dL_law_139 : decode cL_law 139 = .ok (.aload_n 0, 1) := by decide +kernel
theorem dL_law_140 : decode cL_law 140 = .ok (.iload_n 3, 1) := by decide +kernel
theorem dL_law_141 : decode cL_law 141 = .ok (.iconst 3, 1) := by decide +kernel
theorem dL_law_142 : decode cL_law 142 = .ok (.iadd, 1) := by decide +kernel
theorem dL_law_143 : decode cL_law 143 = .ok (.iaload, 1) := by decide +kernel
theorem dL_law_144 : decode cL_law 144 = .ok (.i2l, 1) := by decide +kernel
theorem dL_law_145 : decode cL_law 145 = .ok (.bipush 32, 2) := by decide +kernel
theorem dL_law_147 : decode cL_law 147 = .ok (.lshl, 1) := by decide +kernel
theorem dL_law_148 : decode cL_law 148 = .ok (.aload_n 0, 1) := by decide +kernel
theorem dL_law_149 : decode cL_law 149 = .ok (.iload_n 3, 1) := by decide +kernel
theorem dL_law_150 : decode cL_law 150 = .ok (.iconst 4, 1) := by decide +kernel
theorem dL_law_151 : decode cL_law 151 = .ok (.iadd, 1) := by decide +kernel
theorem dL_law_152 : decode cL_law 152 = .ok (.iaload, 1) := by decide +kernel
theorem dL_law_153 : decode cL_law 153 = .ok (.i2l, 1) := by decide +kernel
theorem dL_law_154 : decode cL_law 154 = .ok (.ldc2_w 13, 3) := by decide +kernel
theorem dL_law_157 : decode cL_law 157 = .ok (.land, 1) := by decide +kernel
theorem dL_law_158 : decode cL_law 158 = .ok (.lor, 1) := by decide +kernel
theorem dL_law_159 : decode cL_law 159 = .ok (.invokevirtual 15, 3) := by decide +kernel
theorem dL_law_162 : decode cL_law 162 = .ok (.aload_n 2, 1) := by decide +kernel
theorem dL_law_163 : decode cL_law 163 = .ok (.aload_n 0, 1) := by decide +kernel
theorem dL_law_164 : decode cL_law 164 = .ok (.iload_n 3, 1) := by decide +kernel
theorem dL_law_165 : decode cL_law 165 = .ok (.iconst 1, 1) := by decide +kernel
theorem dL_law_166 : decode cL_law 166 = .ok (.iadd, 1) := by decide +kernel
theorem dL_law_167 : decode cL_law 167 = .ok (.iaload, 1) := by decide +kernel
theorem dL_law_168 : decode cL_law 168 = .ok (.aload_n 0, 1) := by decide +kernel
theorem dL_law_169 : decode cL_law 169 = .ok (.iload_n 3, 1) := by decide +kernel
theorem dL_law_170 : decode cL_law 170 = .ok (.iconst 2, 1) := by decide +kernel
theorem dL_law_171 : decode cL_law 171 = .ok (.iadd, 1) := by decide +kernel
theorem dL_law_172 : decode cL_law 172 = .ok (.iaload, 1) := by decide +kernel
theorem dL_law_173 : decode cL_law 173 = .ok (.aload_n 0, 1) := by decide +kernel
theorem dL_law_174 : decode cL_law 174 = .ok (.iload_n 3, 1) := by decide +kernel
theorem dL_law_175 : decode cL_law 175 = .ok (.iconst 3, 1) := by decide +kernel
theorem dL_law_176 : decode cL_law 176 = .ok (.iadd, 1) := by decide +kernel
theorem dL_law_177 : decode cL_law 177 = .ok (.iaload, 1) := by decide +kernel
theorem dL_law_178 : decode cL_law 178 = .ok (.i2l, 1) := by decide +kernel
theorem dL_law_179 : decode cL_law 179 = .ok (.bipush 32, 2) := by decide +kernel
theorem dL_law_181 : decode cL_law 181 = .ok (.lshl, 1) := by decide +kernel
theorem dL_law_182 : decode cL_law 182 = .ok (.aload_n 0, 1) := by decide +kernel
theorem dL_law_183 : decode cL_law 183 = .ok (.iload_n 3, 1) := by decide +kernel
theorem dL_law_184 : decode cL_law 184 = .ok (.iconst 4, 1) := by decide +kernel
theorem dL_law_185 : decode cL_law 185 = .ok (.iadd, 1) := by decide +kernel
theorem dL_law_186 : decode cL_law 186 = .ok (.iaload, 1) := by decide +kernel
theorem dL_law_187 : decode cL_law 187 = .ok (.i2l, 1) := by decide +kernel
theorem dL_law_188 : decode cL_law 188 = .ok (.ldc2_w 13, 3) := by decide +kernel
theorem dL_law_191 : decode cL_law 191 = .ok (.land, 1) := by decide +kernel
theorem dL_law_192 : decode cL_law 192 = .ok (.lor, 1) := by decide +kernel
theorem dL_law_193 : decode cL_law 193 = .ok (.invokevirtual 19, 3) := by decide +kernel
theorem dL_law_196 : decode cL_law 196 = .ok (.if_icmp .eq 746, 3) := by decide +kernel
theorem dL_law_199 : decode cL_law 199 = .ok (.iconst 0, 1) := by decide +kernel
theorem dL_law_200 : decode cL_law 200 = .ok (.ireturn, 1) := by decide +kernel
theorem dL_law_201 : decode cL_law 201 = .ok (.aload_n 1, 1) := by decide +kernel
theorem dL_law_202 : decode cL_law 202 = .ok (.aload_n 0, 1) := by decide +kernel
theorem dL_law_203 : decode cL_law 203 = .ok (.iload_n 3, 1) := by decide +kernel
theorem dL_law_204 : decode cL_law 204 = .ok (.iconst 1, 1) := by decide +kernel
theorem dL_law_205 : decode cL_law 205 = .ok (.iadd, 1) := by decide +kernel
theorem dL_law_206 : decode cL_law 206 = .ok (.iaload, 1) := by decide +kernel
theorem dL_law_207 : decode cL_law 207 = .ok (.aload_n 0, 1) := by decide +kernel
theorem dL_law_208 : decode cL_law 208 = .ok (.iload_n 3, 1) := by decide +kernel
theorem dL_law_209 : decode cL_law 209 = .ok (.iconst 2, 1) := by decide +kernel
theorem dL_law_210 : decode cL_law 210 = .ok (.iadd, 1) := by decide +kernel
theorem dL_law_211 : decode cL_law 211 = .ok (.iaload, 1) := by decide +kernel
theorem dL_law_212 : decode cL_law 212 = .ok (.aload_n 0, 1) := by decide +kernel
theorem dL_law_213 : decode cL_law 213 = .ok (.iload_n 3, 1) := by decide +kernel
theorem dL_law_214 : decode cL_law 214 = .ok (.iconst 3, 1) := by decide +kernel
theorem dL_law_215 : decode cL_law 215 = .ok (.iadd, 1) := by decide +kernel
theorem dL_law_216 : decode cL_law 216 = .ok (.iaload, 1) := by decide +kernel
theorem dL_law_217 : decode cL_law 217 = .ok (.i2l, 1) := by decide +kernel
theorem dL_law_218 : decode cL_law 218 = .ok (.bipush 32, 2) := by decide +kernel
theorem dL_law_220 : decode cL_law 220 = .ok (.lshl, 1) := by decide +kernel
theorem dL_law_221 : decode cL_law 221 = .ok (.aload_n 0, 1) := by decide +kernel
theorem dL_law_222 : decode cL_law 222 = .ok (.iload_n 3, 1) := by decide +kernel
theorem dL_law_223 : decode cL_law 223 = .ok (.iconst 4, 1) := by decide +kernel
theorem dL_law_224 : decode cL_law 224 = .ok (.iadd, 1) := by decide +kernel
theorem dL_law_225 : decode cL_law 225 = .ok (.iaload, 1) := by decide +kernel
theorem dL_law_226 : decode cL_law 226 = .ok (.i2l, 1) := by decide +kernel
theorem dL_law_227 : decode cL_law 227 = .ok (.ldc2_w 13, 3) := by decide +kernel
theorem dL_law_230 : decode cL_law 230 = .ok (.land, 1) := by decide +kernel
theorem dL_law_231 : decode cL_law 231 = .ok (.lor, 1) := by decide +kernel
theorem dL_law_232 : decode cL_law 232 = .ok (.aload_n 0, 1) := by decide +kernel
theorem dL_law_233 : decode cL_law 233 = .ok (.iload_n 3, 1) := by decide +kernel
theorem dL_law_234 : decode cL_law 234 = .ok (.iconst 5, 1) := by decide +kernel
theorem dL_law_235 : decode cL_law 235 = .ok (.iadd, 1) := by decide +kernel
theorem dL_law_236 : decode cL_law 236 = .ok (.iaload, 1) := by decide +kernel
theorem dL_law_237 : decode cL_law 237 = .ok (.invokevirtual 20, 3) := by decide +kernel
theorem dL_law_240 : decode cL_law 240 = .ok (.aload_n 2, 1) := by decide +kernel
theorem dL_law_241 : decode cL_law 241 = .ok (.aload_n 0, 1) := by decide +kernel
theorem dL_law_242 : decode cL_law 242 = .ok (.iload_n 3, 1) := by decide +kernel
theorem dL_law_243 : decode cL_law 243 = .ok (.iconst 1, 1) := by decide +kernel
theorem dL_law_244 : decode cL_law 244 = .ok (.iadd, 1) := by decide +kernel
theorem dL_law_245 : decode cL_law 245 = .ok (.iaload, 1) := by decide +kernel
theorem dL_law_246 : decode cL_law 246 = .ok (.aload_n 0, 1) := by decide +kernel
theorem dL_law_247 : decode cL_law 247 = .ok (.iload_n 3, 1) := by decide +kernel
theorem dL_law_248 : decode cL_law 248 = .ok (.iconst 2, 1) := by decide +kernel
theorem dL_law_249 : decode cL_law 249 = .ok (.iadd, 1) := by decide +kernel
theorem dL_law_250 : decode cL_law 250 = .ok (.iaload, 1) := by decide +kernel
theorem dL_law_251 : decode cL_law 251 = .ok (.aload_n 0, 1) := by decide +kernel
theorem dL_law_252 : decode cL_law 252 = .ok (.iload_n 3, 1) := by decide +kernel
theorem dL_law_253 : decode cL_law 253 = .ok (.iconst 3, 1) := by decide +kernel
theorem dL_law_254 : decode cL_law 254 = .ok (.iadd, 1) := by decide +kernel
theorem dL_law_255 : decode cL_law 255 = .ok (.iaload, 1) := by decide +kernel
theorem dL_law_256 : decode cL_law 256 = .ok (.i2l, 1) := by decide +kernel
theorem dL_law_257 : decode cL_law 257 = .ok (.bipush 32, 2) := by decide +kernel
theorem dL_law_259 : decode cL_law 259 = .ok (.lshl, 1) := by decide +kernel
theorem dL_law_260 : decode cL_law 260 = .ok (.aload_n 0, 1) := by decide +kernel
theorem dL_law_261 : decode cL_law 261 = .ok (.iload_n 3, 1) := by decide +kernel
theorem dL_law_262 : decode cL_law 262 = .ok (.iconst 4, 1) := by decide +kernel
theorem dL_law_263 : decode cL_law 263 = .ok (.iadd, 1) := by decide +kernel
theorem dL_law_264 : decode cL_law 264 = .ok (.iaload, 1) := by decide +kernel
theorem dL_law_265 : decode cL_law 265 = .ok (.i2l, 1) := by decide +kernel
theorem dL_law_266 : decode cL_law 266 = .ok (.ldc2_w 13, 3) := by decide +kernel
theorem dL_law_269 : decode cL_law 269 = .ok (.land, 1) := by decide +kernel
theorem dL_law_270 : decode cL_law 270 = .ok (.lor, 1) := by decide +kernel
theorem dL_law_271 : decode cL_law 271 = .ok (.aload_n 0, 1) := by decide +kernel
theorem dL_law_272 : decode cL_law 272 = .ok (.iload_n 3, 1) := by decide +kernel
theorem dL_law_273 : decode cL_law 273 = .ok (.iconst 5, 1) := by decide +kernel
theorem dL_law_274 : decode cL_law 274 = .ok (.iadd, 1) := by decide +kernel
theorem dL_law_275 : decode cL_law 275 = .ok (.iaload, 1) := by decide +kernel
theorem dL_law_276 : decode cL_law 276 = .ok (.invokevirtual 24, 3) := by decide +kernel
theorem dL_law_279 : decode cL_law 279 = .ok (.if_icmp .eq 663, 3) := by decide +kernel
theorem dL_law_282 : decode cL_law 282 = .ok (.iconst 0, 1) := by decide +kernel
theorem dL_law_283 : decode cL_law 283 = .ok (.ireturn, 1) := by decide +kernel
theorem dL_law_284 : decode cL_law 284 = .ok (.aload_n 1, 1) := by decide +kernel
theorem dL_law_285 : decode cL_law 285 = .ok (.aload_n 0, 1) := by decide +kernel
theorem dL_law_286 : decode cL_law 286 = .ok (.iload_n 3, 1) := by decide +kernel
theorem dL_law_287 : decode cL_law 287 = .ok (.iconst 1, 1) := by decide +kernel
theorem dL_law_288 : decode cL_law 288 = .ok (.iadd, 1) := by decide +kernel
theorem dL_law_289 : decode cL_law 289 = .ok (.iaload, 1) := by decide +kernel
theorem dL_law_290 : decode cL_law 290 = .ok (.aload_n 0, 1) := by decide +kernel
theorem dL_law_291 : decode cL_law 291 = .ok (.iload_n 3, 1) := by decide +kernel
theorem dL_law_292 : decode cL_law 292 = .ok (.iconst 2, 1) := by decide +kernel
theorem dL_law_293 : decode cL_law 293 = .ok (.iadd, 1) := by decide +kernel
theorem dL_law_294 : decode cL_law 294 = .ok (.iaload, 1) := by decide +kernel
theorem dL_law_295 : decode cL_law 295 = .ok (.aload_n 0, 1) := by decide +kernel
theorem dL_law_296 : decode cL_law 296 = .ok (.iload_n 3, 1) := by decide +kernel
theorem dL_law_297 : decode cL_law 297 = .ok (.iconst 3, 1) := by decide +kernel
theorem dL_law_298 : decode cL_law 298 = .ok (.iadd, 1) := by decide +kernel
theorem dL_law_299 : decode cL_law 299 = .ok (.iaload, 1) := by decide +kernel
theorem dL_law_300 : decode cL_law 300 = .ok (.invokevirtual 25, 3) := by decide +kernel
theorem dL_law_303 : decode cL_law 303 = .ok (.aload_n 2, 1) := by decide +kernel
theorem dL_law_304 : decode cL_law 304 = .ok (.aload_n 0, 1) := by decide +kernel
theorem dL_law_305 : decode cL_law 305 = .ok (.iload_n 3, 1) := by decide +kernel
theorem dL_law_306 : decode cL_law 306 = .ok (.iconst 1, 1) := by decide +kernel
theorem dL_law_307 : decode cL_law 307 = .ok (.iadd, 1) := by decide +kernel
theorem dL_law_308 : decode cL_law 308 = .ok (.iaload, 1) := by decide +kernel
theorem dL_law_309 : decode cL_law 309 = .ok (.aload_n 0, 1) := by decide +kernel
theorem dL_law_310 : decode cL_law 310 = .ok (.iload_n 3, 1) := by decide +kernel
theorem dL_law_311 : decode cL_law 311 = .ok (.iconst 2, 1) := by decide +kernel
theorem dL_law_312 : decode cL_law 312 = .ok (.iadd, 1) := by decide +kernel
theorem dL_law_313 : decode cL_law 313 = .ok (.iaload, 1) := by decide +kernel
theorem dL_law_314 : decode cL_law 314 = .ok (.aload_n 0, 1) := by decide +kernel
theorem dL_law_315 : decode cL_law 315 = .ok (.iload_n 3, 1) := by decide +kernel
theorem dL_law_316 : decode cL_law 316 = .ok (.iconst 3, 1) := by decide +kernel
theorem dL_law_317 : decode cL_law 317 = .ok (.iadd, 1) := by decide +kernel
theorem dL_law_318 : decode cL_law 318 = .ok (.iaload, 1) := by decide +kernel
theorem dL_law_319 : decode cL_law 319 = .ok (.invokevirtual 29, 3) := by decide +kernel
theorem dL_law_322 : decode cL_law 322 = .ok (.if_icmp .eq 620, 3) := by decide +kernel
theorem dL_law_325 : decode cL_law 325 = .ok (.iconst 0, 1) := by decide +kernel
theorem dL_law_326 : decode cL_law 326 = .ok (.ireturn, 1) := by decide +kernel
theorem dL_law_327 : decode cL_law 327 = .ok (.aload_n 1, 1) := by decide +kernel
theorem dL_law_328 : decode cL_law 328 = .ok (.aload_n 0, 1) := by decide +kernel
theorem dL_law_329 : decode cL_law 329 = .ok (.iload_n 3, 1) := by decide +kernel
theorem dL_law_330 : decode cL_law 330 = .ok (.iconst 1, 1) := by decide +kernel
theorem dL_law_331 : decode cL_law 331 = .ok (.iadd, 1) := by decide +kernel
theorem dL_law_332 : decode cL_law 332 = .ok (.iaload, 1) := by decide +kernel
theorem dL_law_333 : decode cL_law 333 = .ok (.aload_n 0, 1) := by decide +kernel
theorem dL_law_334 : decode cL_law 334 = .ok (.iload_n 3, 1) := by decide +kernel
theorem dL_law_335 : decode cL_law 335 = .ok (.iconst 2, 1) := by decide +kernel
theorem dL_law_336 : decode cL_law 336 = .ok (.iadd, 1) := by decide +kernel
theorem dL_law_337 : decode cL_law 337 = .ok (.iaload, 1) := by decide +kernel
theorem dL_law_338 : decode cL_law 338 = .ok (.aload_n 0, 1) := by decide +kernel
theorem dL_law_339 : decode cL_law 339 = .ok (.iload_n 3, 1) := by decide +kernel
theorem dL_law_340 : decode cL_law 340 = .ok (.iconst 3, 1) := by decide +kernel
theorem dL_law_341 : decode cL_law 341 = .ok (.iadd, 1) := by decide +kernel
theorem dL_law_342 : decode cL_law 342 = .ok (.iaload, 1) := by decide +kernel
theorem dL_law_343 : decode cL_law 343 = .ok (.aload_n 0, 1) := by decide +kernel
theorem dL_law_344 : decode cL_law 344 = .ok (.iload_n 3, 1) := by decide +kernel
theorem dL_law_345 : decode cL_law 345 = .ok (.iconst 4, 1) := by decide +kernel
theorem dL_law_346 : decode cL_law 346 = .ok (.iadd, 1) := by decide +kernel
theorem dL_law_347 : decode cL_law 347 = .ok (.iaload, 1) := by decide +kernel
theorem dL_law_348 : decode cL_law 348 = .ok (.invokevirtual 30, 3) := by decide +kernel
theorem dL_law_351 : decode cL_law 351 = .ok (.aload_n 2, 1) := by decide +kernel
theorem dL_law_352 : decode cL_law 352 = .ok (.aload_n 0, 1) := by decide +kernel
theorem dL_law_353 : decode cL_law 353 = .ok (.iload_n 3, 1) := by decide +kernel
theorem dL_law_354 : decode cL_law 354 = .ok (.iconst 1, 1) := by decide +kernel
theorem dL_law_355 : decode cL_law 355 = .ok (.iadd, 1) := by decide +kernel
theorem dL_law_356 : decode cL_law 356 = .ok (.iaload, 1) := by decide +kernel
theorem dL_law_357 : decode cL_law 357 = .ok (.aload_n 0, 1) := by decide +kernel
theorem dL_law_358 : decode cL_law 358 = .ok (.iload_n 3, 1) := by decide +kernel
theorem dL_law_359 : decode cL_law 359 = .ok (.iconst 2, 1) := by decide +kernel
theorem dL_law_360 : decode cL_law 360 = .ok (.iadd, 1) := by decide +kernel
theorem dL_law_361 : decode cL_law 361 = .ok (.iaload, 1) := by decide +kernel
theorem dL_law_362 : decode cL_law 362 = .ok (.aload_n 0, 1) := by decide +kernel
theorem dL_law_363 : decode cL_law 363 = .ok (.iload_n 3, 1) := by decide +kernel
theorem dL_law_364 : decode cL_law 364 = .ok (.iconst 3, 1) := by decide +kernel
theorem dL_law_365 : decode cL_law 365 = .ok (.iadd, 1) := by decide +kernel
theorem dL_law_366 : decode cL_law 366 = .ok (.iaload, 1) := by decide +kernel
theorem dL_law_367 : decode cL_law 367 = .ok (.aload_n 0, 1) := by decide +kernel
theorem dL_law_368 : decode cL_law 368 = .ok (.iload_n 3, 1) := by decide +kernel
theorem dL_law_369 : decode cL_law 369 = .ok (.iconst 4, 1) := by decide +kernel
theorem dL_law_370 : decode cL_law 370 = .ok (.iadd, 1) := by decide +kernel
theorem dL_law_371 : decode cL_law 371 = .ok (.iaload, 1) := by decide +kernel
theorem dL_law_372 : decode cL_law 372 = .ok (.invokevirtual 34, 3) := by decide +kernel
theorem dL_law_375 : decode cL_law 375 = .ok (.if_icmp .eq 567, 3) := by decide +kernel
theorem dL_law_378 : decode cL_law 378 = .ok (.iconst 0, 1) := by decide +kernel
theorem dL_law_379 : decode cL_law 379 = .ok (.ireturn, 1) := by decide +kernel
theorem dL_law_380 : decode cL_law 380 = .ok (.aload_n 1, 1) := by decide +kernel
theorem dL_law_381 : decode cL_law 381 = .ok (.aload_n 0, 1) := by decide +kernel
theorem dL_law_382 : decode cL_law 382 = .ok (.iload_n 3, 1) := by decide +kernel
theorem dL_law_383 : decode cL_law 383 = .ok (.iconst 1, 1) := by decide +kernel
theorem dL_law_384 : decode cL_law 384 = .ok (.iadd, 1) := by decide +kernel
theorem dL_law_385 : decode cL_law 385 = .ok (.iaload, 1) := by decide +kernel
theorem dL_law_386 : decode cL_law 386 = .ok (.aload_n 0, 1) := by decide +kernel
theorem dL_law_387 : decode cL_law 387 = .ok (.iload_n 3, 1) := by decide +kernel
theorem dL_law_388 : decode cL_law 388 = .ok (.iconst 2, 1) := by decide +kernel
theorem dL_law_389 : decode cL_law 389 = .ok (.iadd, 1) := by decide +kernel
theorem dL_law_390 : decode cL_law 390 = .ok (.iaload, 1) := by decide +kernel
theorem dL_law_391 : decode cL_law 391 = .ok (.invokevirtual 35, 3) := by decide +kernel
theorem dL_law_394 : decode cL_law 394 = .ok (.aload_n 2, 1) := by decide +kernel
theorem dL_law_395 : decode cL_law 395 = .ok (.aload_n 0, 1) := by decide +kernel
theorem dL_law_396 : decode cL_law 396 = .ok (.iload_n 3, 1) := by decide +kernel
theorem dL_law_397 : decode cL_law 397 = .ok (.iconst 1, 1) := by decide +kernel
theorem dL_law_398 : decode cL_law 398 = .ok (.iadd, 1) := by decide +kernel
theorem dL_law_399 : decode cL_law 399 = .ok (.iaload, 1) := by decide +kernel
theorem dL_law_400 : decode cL_law 400 = .ok (.aload_n 0, 1) := by decide +kernel
theorem dL_law_401 : decode cL_law 401 = .ok (.iload_n 3, 1) := by decide +kernel
theorem dL_law_402 : decode cL_law 402 = .ok (.iconst 2, 1) := by decide +kernel
theorem dL_law_403 : decode cL_law 403 = .ok (.iadd, 1) := by decide +kernel
theorem dL_law_404 : decode cL_law 404 = .ok (.iaload, 1) := by decide +kernel
theorem dL_law_405 : decode cL_law 405 = .ok (.invokevirtual 39, 3) := by decide +kernel
theorem dL_law_408 : decode cL_law 408 = .ok (.if_icmp .eq 534, 3) := by decide +kernel
theorem dL_law_411 : decode cL_law 411 = .ok (.iconst 0, 1) := by decide +kernel
theorem dL_law_412 : decode cL_law 412 = .ok (.ireturn, 1) := by decide +kernel
theorem dL_law_413 : decode cL_law 413 = .ok (.aload_n 1, 1) := by decide +kernel
theorem dL_law_414 : decode cL_law 414 = .ok (.aload_n 0, 1) := by decide +kernel
theorem dL_law_415 : decode cL_law 415 = .ok (.iload_n 3, 1) := by decide +kernel
theorem dL_law_416 : decode cL_law 416 = .ok (.iconst 1, 1) := by decide +kernel
theorem dL_law_417 : decode cL_law 417 = .ok (.iadd, 1) := by decide +kernel
theorem dL_law_418 : decode cL_law 418 = .ok (.iaload, 1) := by decide +kernel
theorem dL_law_419 : decode cL_law 419 = .ok (.aload_n 0, 1) := by decide +kernel
theorem dL_law_420 : decode cL_law 420 = .ok (.iload_n 3, 1) := by decide +kernel
theorem dL_law_421 : decode cL_law 421 = .ok (.iconst 2, 1) := by decide +kernel
theorem dL_law_422 : decode cL_law 422 = .ok (.iadd, 1) := by decide +kernel
theorem dL_law_423 : decode cL_law 423 = .ok (.iaload, 1) := by decide +kernel
theorem dL_law_424 : decode cL_law 424 = .ok (.aload_n 0, 1) := by decide +kernel
theorem dL_law_425 : decode cL_law 425 = .ok (.iload_n 3, 1) := by decide +kernel
theorem dL_law_426 : decode cL_law 426 = .ok (.iconst 3, 1) := by decide +kernel
theorem dL_law_427 : decode cL_law 427 = .ok (.iadd, 1) := by decide +kernel
theorem dL_law_428 : decode cL_law 428 = .ok (.iaload, 1) := by decide +kernel
theorem dL_law_429 : decode cL_law 429 = .ok (.invokevirtual 40, 3) := by decide +kernel
theorem dL_law_432 : decode cL_law 432 = .ok (.aload_n 2, 1) := by decide +kernel
theorem dL_law_433 : decode cL_law 433 = .ok (.aload_n 0, 1) := by decide +kernel
theorem dL_law_434 : decode cL_law 434 = .ok (.iload_n 3, 1) := by decide +kernel
theorem dL_law_435 : decode cL_law 435 = .ok (.iconst 1, 1) := by decide +kernel
theorem dL_law_436 : decode cL_law 436 = .ok (.iadd, 1) := by decide +kernel
theorem dL_law_437 : decode cL_law 437 = .ok (.iaload, 1) := by decide +kernel
theorem dL_law_438 : decode cL_law 438 = .ok (.aload_n 0, 1) := by decide +kernel
theorem dL_law_439 : decode cL_law 439 = .ok (.iload_n 3, 1) := by decide +kernel
theorem dL_law_440 : decode cL_law 440 = .ok (.iconst 2, 1) := by decide +kernel
theorem dL_law_441 : decode cL_law 441 = .ok (.iadd, 1) := by decide +kernel
theorem dL_law_442 : decode cL_law 442 = .ok (.iaload, 1) := by decide +kernel
theorem dL_law_443 : decode cL_law 443 = .ok (.aload_n 0, 1) := by decide +kernel
theorem dL_law_444 : decode cL_law 444 = .ok (.iload_n 3, 1) := by decide +kernel
theorem dL_law_445 : decode cL_law 445 = .ok (.iconst 3, 1) := by decide +kernel
theorem dL_law_446 : decode cL_law 446 = .ok (.iadd, 1) := by decide +kernel
theorem dL_law_447 : decode cL_law 447 = .ok (.iaload, 1) := by decide +kernel
theorem dL_law_448 : decode cL_law 448 = .ok (.invokevirtual 43, 3) := by decide +kernel
theorem dL_law_451 : decode cL_law 451 = .ok (.if_icmp .eq 491, 3) := by decide +kernel
theorem dL_law_454 : decode cL_law 454 = .ok (.iconst 0, 1) := by decide +kernel
theorem dL_law_455 : decode cL_law 455 = .ok (.ireturn, 1) := by decide +kernel
theorem dL_law_456 : decode cL_law 456 = .ok (.aload_n 1, 1) := by decide +kernel
theorem dL_law_457 : decode cL_law 457 = .ok (.aload_n 0, 1) := by decide +kernel
theorem dL_law_458 : decode cL_law 458 = .ok (.iload_n 3, 1) := by decide +kernel
theorem dL_law_459 : decode cL_law 459 = .ok (.iconst 1, 1) := by decide +kernel
theorem dL_law_460 : decode cL_law 460 = .ok (.iadd, 1) := by decide +kernel
theorem dL_law_461 : decode cL_law 461 = .ok (.iaload, 1) := by decide +kernel
theorem dL_law_462 : decode cL_law 462 = .ok (.invokevirtual 44, 3) := by decide +kernel
theorem dL_law_465 : decode cL_law 465 = .ok (.aload_n 2, 1) := by decide +kernel
theorem dL_law_466 : decode cL_law 466 = .ok (.aload_n 0, 1) := by decide +kernel
theorem dL_law_467 : decode cL_law 467 = .ok (.iload_n 3, 1) := by decide +kernel
theorem dL_law_468 : decode cL_law 468 = .ok (.iconst 1, 1) := by decide +kernel
theorem dL_law_469 : decode cL_law 469 = .ok (.iadd, 1) := by decide +kernel
theorem dL_law_470 : decode cL_law 470 = .ok (.iaload, 1) := by decide +kernel
theorem dL_law_471 : decode cL_law 471 = .ok (.invokevirtual 48, 3) := by decide +kernel
theorem dL_law_474 : decode cL_law 474 = .ok (.if_icmp .eq 468, 3) := by decide +kernel
theorem dL_law_477 : decode cL_law 477 = .ok (.iconst 0, 1) := by decide +kernel
theorem dL_law_478 : decode cL_law 478 = .ok (.ireturn, 1) := by decide +kernel
theorem dL_law_479 : decode cL_law 479 = .ok (.aload_n 1, 1) := by decide +kernel
theorem dL_law_480 : decode cL_law 480 = .ok (.aload_n 0, 1) := by decide +kernel
theorem dL_law_481 : decode cL_law 481 = .ok (.iload_n 3, 1) := by decide +kernel
theorem dL_law_482 : decode cL_law 482 = .ok (.iconst 1, 1) := by decide +kernel
theorem dL_law_483 : decode cL_law 483 = .ok (.iadd, 1) := by decide +kernel
theorem dL_law_484 : decode cL_law 484 = .ok (.iaload, 1) := by decide +kernel
theorem dL_law_485 : decode cL_law 485 = .ok (.aload_n 0, 1) := by decide +kernel
theorem dL_law_486 : decode cL_law 486 = .ok (.iload_n 3, 1) := by decide +kernel
theorem dL_law_487 : decode cL_law 487 = .ok (.iconst 2, 1) := by decide +kernel
theorem dL_law_488 : decode cL_law 488 = .ok (.iadd, 1) := by decide +kernel
theorem dL_law_489 : decode cL_law 489 = .ok (.iaload, 1) := by decide +kernel
theorem dL_law_490 : decode cL_law 490 = .ok (.invokevirtual 49, 3) := by decide +kernel
theorem dL_law_493 : decode cL_law 493 = .ok (.aload_n 2, 1) := by decide +kernel
theorem dL_law_494 : decode cL_law 494 = .ok (.aload_n 0, 1) := by decide +kernel
theorem dL_law_495 : decode cL_law 495 = .ok (.iload_n 3, 1) := by decide +kernel
theorem dL_law_496 : decode cL_law 496 = .ok (.iconst 1, 1) := by decide +kernel
theorem dL_law_497 : decode cL_law 497 = .ok (.iadd, 1) := by decide +kernel
theorem dL_law_498 : decode cL_law 498 = .ok (.iaload, 1) := by decide +kernel
theorem dL_law_499 : decode cL_law 499 = .ok (.aload_n 0, 1) := by decide +kernel
theorem dL_law_500 : decode cL_law 500 = .ok (.iload_n 3, 1) := by decide +kernel
theorem dL_law_501 : decode cL_law 501 = .ok (.iconst 2, 1) := by decide +kernel
theorem dL_law_502 : decode cL_law 502 = .ok (.iadd, 1) := by decide +kernel
theorem dL_law_503 : decode cL_law 503 = .ok (.iaload, 1) := by decide +kernel
theorem dL_law_504 : decode cL_law 504 = .ok (.invokevirtual 52, 3) := by decide +kernel
theorem dL_law_507 : decode cL_law 507 = .ok (.if_icmp .eq 435, 3) := by decide +kernel
theorem dL_law_510 : decode cL_law 510 = .ok (.iconst 0, 1) := by decide +kernel
theorem dL_law_511 : decode cL_law 511 = .ok (.ireturn, 1) := by decide +kernel
theorem dL_law_512 : decode cL_law 512 = .ok (.aload_n 1, 1) := by decide +kernel
theorem dL_law_513 : decode cL_law 513 = .ok (.aload_n 0, 1) := by decide +kernel
theorem dL_law_514 : decode cL_law 514 = .ok (.iload_n 3, 1) := by decide +kernel
theorem dL_law_515 : decode cL_law 515 = .ok (.iconst 1, 1) := by decide +kernel
theorem dL_law_516 : decode cL_law 516 = .ok (.iadd, 1) := by decide +kernel
theorem dL_law_517 : decode cL_law 517 = .ok (.iaload, 1) := by decide +kernel
theorem dL_law_518 : decode cL_law 518 = .ok (.aload_n 0, 1) := by decide +kernel
theorem dL_law_519 : decode cL_law 519 = .ok (.iload_n 3, 1) := by decide +kernel
theorem dL_law_520 : decode cL_law 520 = .ok (.iconst 2, 1) := by decide +kernel
theorem dL_law_521 : decode cL_law 521 = .ok (.iadd, 1) := by decide +kernel
theorem dL_law_522 : decode cL_law 522 = .ok (.iaload, 1) := by decide +kernel
theorem dL_law_523 : decode cL_law 523 = .ok (.aload_n 0, 1) := by decide +kernel
theorem dL_law_524 : decode cL_law 524 = .ok (.iload_n 3, 1) := by decide +kernel
theorem dL_law_525 : decode cL_law 525 = .ok (.iconst 3, 1) := by decide +kernel
theorem dL_law_526 : decode cL_law 526 = .ok (.iadd, 1) := by decide +kernel
theorem dL_law_527 : decode cL_law 527 = .ok (.iaload, 1) := by decide +kernel
theorem dL_law_528 : decode cL_law 528 = .ok (.invokevirtual 53, 3) := by decide +kernel
theorem dL_law_531 : decode cL_law 531 = .ok (.aload_n 2, 1) := by decide +kernel
theorem dL_law_532 : decode cL_law 532 = .ok (.aload_n 0, 1) := by decide +kernel
theorem dL_law_533 : decode cL_law 533 = .ok (.iload_n 3, 1) := by decide +kernel
theorem dL_law_534 : decode cL_law 534 = .ok (.iconst 1, 1) := by decide +kernel
theorem dL_law_535 : decode cL_law 535 = .ok (.iadd, 1) := by decide +kernel
theorem dL_law_536 : decode cL_law 536 = .ok (.iaload, 1) := by decide +kernel
theorem dL_law_537 : decode cL_law 537 = .ok (.aload_n 0, 1) := by decide +kernel
theorem dL_law_538 : decode cL_law 538 = .ok (.iload_n 3, 1) := by decide +kernel
theorem dL_law_539 : decode cL_law 539 = .ok (.iconst 2, 1) := by decide +kernel
theorem dL_law_540 : decode cL_law 540 = .ok (.iadd, 1) := by decide +kernel
theorem dL_law_541 : decode cL_law 541 = .ok (.iaload, 1) := by decide +kernel
theorem dL_law_542 : decode cL_law 542 = .ok (.aload_n 0, 1) := by decide +kernel
theorem dL_law_543 : decode cL_law 543 = .ok (.iload_n 3, 1) := by decide +kernel
theorem dL_law_544 : decode cL_law 544 = .ok (.iconst 3, 1) := by decide +kernel
theorem dL_law_545 : decode cL_law 545 = .ok (.iadd, 1) := by decide +kernel
theorem dL_law_546 : decode cL_law 546 = .ok (.iaload, 1) := by decide +kernel
theorem dL_law_547 : decode cL_law 547 = .ok (.invokevirtual 56, 3) := by decide +kernel
theorem dL_law_550 : decode cL_law 550 = .ok (.if_icmp .eq 392, 3) := by decide +kernel
theorem dL_law_553 : decode cL_law 553 = .ok (.iconst 0, 1) := by decide +kernel
theorem dL_law_554 : decode cL_law 554 = .ok (.ireturn, 1) := by decide +kernel
theorem dL_law_555 : decode cL_law 555 = .ok (.aload_n 1, 1) := by decide +kernel
theorem dL_law_556 : decode cL_law 556 = .ok (.aload_n 0, 1) := by decide +kernel
theorem dL_law_557 : decode cL_law 557 = .ok (.iload_n 3, 1) := by decide +kernel
theorem dL_law_558 : decode cL_law 558 = .ok (.iconst 1, 1) := by decide +kernel
theorem dL_law_559 : decode cL_law 559 = .ok (.iadd, 1) := by decide +kernel
theorem dL_law_560 : decode cL_law 560 = .ok (.iaload, 1) := by decide +kernel
theorem dL_law_561 : decode cL_law 561 = .ok (.aload_n 0, 1) := by decide +kernel
theorem dL_law_562 : decode cL_law 562 = .ok (.iload_n 3, 1) := by decide +kernel
theorem dL_law_563 : decode cL_law 563 = .ok (.iconst 2, 1) := by decide +kernel
theorem dL_law_564 : decode cL_law 564 = .ok (.iadd, 1) := by decide +kernel
theorem dL_law_565 : decode cL_law 565 = .ok (.iaload, 1) := by decide +kernel
theorem dL_law_566 : decode cL_law 566 = .ok (.aload_n 0, 1) := by decide +kernel
theorem dL_law_567 : decode cL_law 567 = .ok (.iload_n 3, 1) := by decide +kernel
theorem dL_law_568 : decode cL_law 568 = .ok (.iconst 3, 1) := by decide +kernel
theorem dL_law_569 : decode cL_law 569 = .ok (.iadd, 1) := by decide +kernel
theorem dL_law_570 : decode cL_law 570 = .ok (.iaload, 1) := by decide +kernel
theorem dL_law_571 : decode cL_law 571 = .ok (.invokevirtual 57, 3) := by decide +kernel
theorem dL_law_574 : decode cL_law 574 = .ok (.aload_n 2, 1) := by decide +kernel
theorem dL_law_575 : decode cL_law 575 = .ok (.aload_n 0, 1) := by decide +kernel
theorem dL_law_576 : decode cL_law 576 = .ok (.iload_n 3, 1) := by decide +kernel
theorem dL_law_577 : decode cL_law 577 = .ok (.iconst 1, 1) := by decide +kernel
theorem dL_law_578 : decode cL_law 578 = .ok (.iadd, 1) := by decide +kernel
theorem dL_law_579 : decode cL_law 579 = .ok (.iaload, 1) := by decide +kernel
theorem dL_law_580 : decode cL_law 580 = .ok (.aload_n 0, 1) := by decide +kernel
theorem dL_law_581 : decode cL_law 581 = .ok (.iload_n 3, 1) := by decide +kernel
theorem dL_law_582 : decode cL_law 582 = .ok (.iconst 2, 1) := by decide +kernel
theorem dL_law_583 : decode cL_law 583 = .ok (.iadd, 1) := by decide +kernel
theorem dL_law_584 : decode cL_law 584 = .ok (.iaload, 1) := by decide +kernel
theorem dL_law_585 : decode cL_law 585 = .ok (.aload_n 0, 1) := by decide +kernel
theorem dL_law_586 : decode cL_law 586 = .ok (.iload_n 3, 1) := by decide +kernel
theorem dL_law_587 : decode cL_law 587 = .ok (.iconst 3, 1) := by decide +kernel
theorem dL_law_588 : decode cL_law 588 = .ok (.iadd, 1) := by decide +kernel
theorem dL_law_589 : decode cL_law 589 = .ok (.iaload, 1) := by decide +kernel
theorem dL_law_590 : decode cL_law 590 = .ok (.invokevirtual 60, 3) := by decide +kernel
theorem dL_law_593 : decode cL_law 593 = .ok (.if_icmp .eq 349, 3) := by decide +kernel
theorem dL_law_596 : decode cL_law 596 = .ok (.iconst 0, 1) := by decide +kernel
theorem dL_law_597 : decode cL_law 597 = .ok (.ireturn, 1) := by decide +kernel
theorem dL_law_598 : decode cL_law 598 = .ok (.aload_n 1, 1) := by decide +kernel
theorem dL_law_599 : decode cL_law 599 = .ok (.aload_n 0, 1) := by decide +kernel
theorem dL_law_600 : decode cL_law 600 = .ok (.iload_n 3, 1) := by decide +kernel
theorem dL_law_601 : decode cL_law 601 = .ok (.iconst 1, 1) := by decide +kernel
theorem dL_law_602 : decode cL_law 602 = .ok (.iadd, 1) := by decide +kernel
theorem dL_law_603 : decode cL_law 603 = .ok (.iaload, 1) := by decide +kernel
theorem dL_law_604 : decode cL_law 604 = .ok (.aload_n 0, 1) := by decide +kernel
theorem dL_law_605 : decode cL_law 605 = .ok (.iload_n 3, 1) := by decide +kernel
theorem dL_law_606 : decode cL_law 606 = .ok (.iconst 2, 1) := by decide +kernel
theorem dL_law_607 : decode cL_law 607 = .ok (.iadd, 1) := by decide +kernel
theorem dL_law_608 : decode cL_law 608 = .ok (.iaload, 1) := by decide +kernel
theorem dL_law_609 : decode cL_law 609 = .ok (.invokevirtual 61, 3) := by decide +kernel
theorem dL_law_612 : decode cL_law 612 = .ok (.aload_n 2, 1) := by decide +kernel
theorem dL_law_613 : decode cL_law 613 = .ok (.aload_n 0, 1) := by decide +kernel
theorem dL_law_614 : decode cL_law 614 = .ok (.iload_n 3, 1) := by decide +kernel
theorem dL_law_615 : decode cL_law 615 = .ok (.iconst 1, 1) := by decide +kernel
theorem dL_law_616 : decode cL_law 616 = .ok (.iadd, 1) := by decide +kernel
theorem dL_law_617 : decode cL_law 617 = .ok (.iaload, 1) := by decide +kernel
theorem dL_law_618 : decode cL_law 618 = .ok (.aload_n 0, 1) := by decide +kernel
theorem dL_law_619 : decode cL_law 619 = .ok (.iload_n 3, 1) := by decide +kernel
theorem dL_law_620 : decode cL_law 620 = .ok (.iconst 2, 1) := by decide +kernel
theorem dL_law_621 : decode cL_law 621 = .ok (.iadd, 1) := by decide +kernel
theorem dL_law_622 : decode cL_law 622 = .ok (.iaload, 1) := by decide +kernel
theorem dL_law_623 : decode cL_law 623 = .ok (.invokevirtual 64, 3) := by decide +kernel
theorem dL_law_626 : decode cL_law 626 = .ok (.if_icmp .eq 316, 3) := by decide +kernel
theorem dL_law_629 : decode cL_law 629 = .ok (.iconst 0, 1) := by decide +kernel
theorem dL_law_630 : decode cL_law 630 = .ok (.ireturn, 1) := by decide +kernel
theorem dL_law_631 : decode cL_law 631 = .ok (.aload_n 1, 1) := by decide +kernel
theorem dL_law_632 : decode cL_law 632 = .ok (.aload_n 0, 1) := by decide +kernel
theorem dL_law_633 : decode cL_law 633 = .ok (.iload_n 3, 1) := by decide +kernel
theorem dL_law_634 : decode cL_law 634 = .ok (.iconst 1, 1) := by decide +kernel
theorem dL_law_635 : decode cL_law 635 = .ok (.iadd, 1) := by decide +kernel
theorem dL_law_636 : decode cL_law 636 = .ok (.iaload, 1) := by decide +kernel
theorem dL_law_637 : decode cL_law 637 = .ok (.aload_n 0, 1) := by decide +kernel
theorem dL_law_638 : decode cL_law 638 = .ok (.iload_n 3, 1) := by decide +kernel
theorem dL_law_639 : decode cL_law 639 = .ok (.iconst 2, 1) := by decide +kernel
theorem dL_law_640 : decode cL_law 640 = .ok (.iadd, 1) := by decide +kernel
theorem dL_law_641 : decode cL_law 641 = .ok (.iaload, 1) := by decide +kernel
theorem dL_law_642 : decode cL_law 642 = .ok (.aload_n 0, 1) := by decide +kernel
theorem dL_law_643 : decode cL_law 643 = .ok (.iload_n 3, 1) := by decide +kernel
theorem dL_law_644 : decode cL_law 644 = .ok (.iconst 3, 1) := by decide +kernel
theorem dL_law_645 : decode cL_law 645 = .ok (.iadd, 1) := by decide +kernel
theorem dL_law_646 : decode cL_law 646 = .ok (.iaload, 1) := by decide +kernel
theorem dL_law_647 : decode cL_law 647 = .ok (.aload_n 0, 1) := by decide +kernel
theorem dL_law_648 : decode cL_law 648 = .ok (.iload_n 3, 1) := by decide +kernel
theorem dL_law_649 : decode cL_law 649 = .ok (.iconst 4, 1) := by decide +kernel
theorem dL_law_650 : decode cL_law 650 = .ok (.iadd, 1) := by decide +kernel
theorem dL_law_651 : decode cL_law 651 = .ok (.iaload, 1) := by decide +kernel
theorem dL_law_652 : decode cL_law 652 = .ok (.aload_n 0, 1) := by decide +kernel
theorem dL_law_653 : decode cL_law 653 = .ok (.iload_n 3, 1) := by decide +kernel
theorem dL_law_654 : decode cL_law 654 = .ok (.iconst 5, 1) := by decide +kernel
theorem dL_law_655 : decode cL_law 655 = .ok (.iadd, 1) := by decide +kernel
theorem dL_law_656 : decode cL_law 656 = .ok (.iaload, 1) := by decide +kernel
theorem dL_law_657 : decode cL_law 657 = .ok (.invokevirtual 65, 3) := by decide +kernel
theorem dL_law_660 : decode cL_law 660 = .ok (.aload_n 2, 1) := by decide +kernel
theorem dL_law_661 : decode cL_law 661 = .ok (.aload_n 0, 1) := by decide +kernel
theorem dL_law_662 : decode cL_law 662 = .ok (.iload_n 3, 1) := by decide +kernel
theorem dL_law_663 : decode cL_law 663 = .ok (.iconst 1, 1) := by decide +kernel
theorem dL_law_664 : decode cL_law 664 = .ok (.iadd, 1) := by decide +kernel
theorem dL_law_665 : decode cL_law 665 = .ok (.iaload, 1) := by decide +kernel
theorem dL_law_666 : decode cL_law 666 = .ok (.aload_n 0, 1) := by decide +kernel
theorem dL_law_667 : decode cL_law 667 = .ok (.iload_n 3, 1) := by decide +kernel
theorem dL_law_668 : decode cL_law 668 = .ok (.iconst 2, 1) := by decide +kernel
theorem dL_law_669 : decode cL_law 669 = .ok (.iadd, 1) := by decide +kernel
theorem dL_law_670 : decode cL_law 670 = .ok (.iaload, 1) := by decide +kernel
theorem dL_law_671 : decode cL_law 671 = .ok (.aload_n 0, 1) := by decide +kernel
theorem dL_law_672 : decode cL_law 672 = .ok (.iload_n 3, 1) := by decide +kernel
theorem dL_law_673 : decode cL_law 673 = .ok (.iconst 3, 1) := by decide +kernel
theorem dL_law_674 : decode cL_law 674 = .ok (.iadd, 1) := by decide +kernel
theorem dL_law_675 : decode cL_law 675 = .ok (.iaload, 1) := by decide +kernel
theorem dL_law_676 : decode cL_law 676 = .ok (.aload_n 0, 1) := by decide +kernel
theorem dL_law_677 : decode cL_law 677 = .ok (.iload_n 3, 1) := by decide +kernel
theorem dL_law_678 : decode cL_law 678 = .ok (.iconst 4, 1) := by decide +kernel
theorem dL_law_679 : decode cL_law 679 = .ok (.iadd, 1) := by decide +kernel
theorem dL_law_680 : decode cL_law 680 = .ok (.iaload, 1) := by decide +kernel
theorem dL_law_681 : decode cL_law 681 = .ok (.aload_n 0, 1) := by decide +kernel
theorem dL_law_682 : decode cL_law 682 = .ok (.iload_n 3, 1) := by decide +kernel
theorem dL_law_683 : decode cL_law 683 = .ok (.iconst 5, 1) := by decide +kernel
theorem dL_law_684 : decode cL_law 684 = .ok (.iadd, 1) := by decide +kernel
theorem dL_law_685 : decode cL_law 685 = .ok (.iaload, 1) := by decide +kernel
theorem dL_law_686 : decode cL_law 686 = .ok (.invokevirtual 69, 3) := by decide +kernel
theorem dL_law_689 : decode cL_law 689 = .ok (.if_icmp .eq 253, 3) := by decide +kernel
theorem dL_law_692 : decode cL_law 692 = .ok (.iconst 0, 1) := by decide +kernel
theorem dL_law_693 : decode cL_law 693 = .ok (.ireturn, 1) := by decide +kernel
theorem dL_law_694 : decode cL_law 694 = .ok (.aload_n 1, 1) := by decide +kernel
theorem dL_law_695 : decode cL_law 695 = .ok (.aload_n 0, 1) := by decide +kernel
theorem dL_law_696 : decode cL_law 696 = .ok (.iload_n 3, 1) := by decide +kernel
theorem dL_law_697 : decode cL_law 697 = .ok (.iconst 1, 1) := by decide +kernel
theorem dL_law_698 : decode cL_law 698 = .ok (.iadd, 1) := by decide +kernel
theorem dL_law_699 : decode cL_law 699 = .ok (.iaload, 1) := by decide +kernel
theorem dL_law_700 : decode cL_law 700 = .ok (.aload_n 0, 1) := by decide +kernel
theorem dL_law_701 : decode cL_law 701 = .ok (.iload_n 3, 1) := by decide +kernel
theorem dL_law_702 : decode cL_law 702 = .ok (.iconst 2, 1) := by decide +kernel
theorem dL_law_703 : decode cL_law 703 = .ok (.iadd, 1) := by decide +kernel
theorem dL_law_704 : decode cL_law 704 = .ok (.iaload, 1) := by decide +kernel
theorem dL_law_705 : decode cL_law 705 = .ok (.aload_n 0, 1) := by decide +kernel
theorem dL_law_706 : decode cL_law 706 = .ok (.iload_n 3, 1) := by decide +kernel
theorem dL_law_707 : decode cL_law 707 = .ok (.iconst 3, 1) := by decide +kernel
theorem dL_law_708 : decode cL_law 708 = .ok (.iadd, 1) := by decide +kernel
theorem dL_law_709 : decode cL_law 709 = .ok (.iaload, 1) := by decide +kernel
theorem dL_law_710 : decode cL_law 710 = .ok (.invokevirtual 70, 3) := by decide +kernel
theorem dL_law_713 : decode cL_law 713 = .ok (.aload_n 2, 1) := by decide +kernel
theorem dL_law_714 : decode cL_law 714 = .ok (.aload_n 0, 1) := by decide +kernel
theorem dL_law_715 : decode cL_law 715 = .ok (.iload_n 3, 1) := by decide +kernel
theorem dL_law_716 : decode cL_law 716 = .ok (.iconst 1, 1) := by decide +kernel
theorem dL_law_717 : decode cL_law 717 = .ok (.iadd, 1) := by decide +kernel
theorem dL_law_718 : decode cL_law 718 = .ok (.iaload, 1) := by decide +kernel
theorem dL_law_719 : decode cL_law 719 = .ok (.aload_n 0, 1) := by decide +kernel
theorem dL_law_720 : decode cL_law 720 = .ok (.iload_n 3, 1) := by decide +kernel
theorem dL_law_721 : decode cL_law 721 = .ok (.iconst 2, 1) := by decide +kernel
theorem dL_law_722 : decode cL_law 722 = .ok (.iadd, 1) := by decide +kernel
theorem dL_law_723 : decode cL_law 723 = .ok (.iaload, 1) := by decide +kernel
theorem dL_law_724 : decode cL_law 724 = .ok (.aload_n 0, 1) := by decide +kernel
theorem dL_law_725 : decode cL_law 725 = .ok (.iload_n 3, 1) := by decide +kernel
theorem dL_law_726 : decode cL_law 726 = .ok (.iconst 3, 1) := by decide +kernel
theorem dL_law_727 : decode cL_law 727 = .ok (.iadd, 1) := by decide +kernel
theorem dL_law_728 : decode cL_law 728 = .ok (.iaload, 1) := by decide +kernel
theorem dL_law_729 : decode cL_law 729 = .ok (.invokevirtual 73, 3) := by decide +kernel
theorem dL_law_732 : decode cL_law 732 = .ok (.if_icmp .eq 210, 3) := by decide +kernel
theorem dL_law_735 : decode cL_law 735 = .ok (.iconst 0, 1) := by decide +kernel
theorem dL_law_736 : decode cL_law 736 = .ok (.ireturn, 1) := by decide +kernel
theorem dL_law_737 : decode cL_law 737 = .ok (.aload_n 1, 1) := by decide +kernel
theorem dL_law_738 : decode cL_law 738 = .ok (.aload_n 0, 1) := by decide +kernel
theorem dL_law_739 : decode cL_law 739 = .ok (.iload_n 3, 1) := by decide +kernel
theorem dL_law_740 : decode cL_law 740 = .ok (.iconst 1, 1) := by decide +kernel
theorem dL_law_741 : decode cL_law 741 = .ok (.iadd, 1) := by decide +kernel
theorem dL_law_742 : decode cL_law 742 = .ok (.iaload, 1) := by decide +kernel
theorem dL_law_743 : decode cL_law 743 = .ok (.invokevirtual 74, 3) := by decide +kernel
theorem dL_law_746 : decode cL_law 746 = .ok (.aload_n 2, 1) := by decide +kernel
theorem dL_law_747 : decode cL_law 747 = .ok (.aload_n 0, 1) := by decide +kernel
theorem dL_law_748 : decode cL_law 748 = .ok (.iload_n 3, 1) := by decide +kernel
theorem dL_law_749 : decode cL_law 749 = .ok (.iconst 1, 1) := by decide +kernel
theorem dL_law_750 : decode cL_law 750 = .ok (.iadd, 1) := by decide +kernel
theorem dL_law_751 : decode cL_law 751 = .ok (.iaload, 1) := by decide +kernel
theorem dL_law_752 : decode cL_law 752 = .ok (.invokevirtual 77, 3) := by decide +kernel
theorem dL_law_755 : decode cL_law 755 = .ok (.if_icmp .eq 187, 3) := by decide +kernel
theorem dL_law_758 : decode cL_law 758 = .ok (.iconst 0, 1) := by decide +kernel
theorem dL_law_759 : decode cL_law 759 = .ok (.ireturn, 1) := by decide +kernel
theorem dL_law_760 : decode cL_law 760 = .ok (.aload_n 1, 1) := by decide +kernel
theorem dL_law_761 : decode cL_law 761 = .ok (.aload_n 0, 1) := by decide +kernel
theorem dL_law_762 : decode cL_law 762 = .ok (.iload_n 3, 1) := by decide +kernel
theorem dL_law_763 : decode cL_law 763 = .ok (.iconst 1, 1) := by decide +kernel
theorem dL_law_764 : decode cL_law 764 = .ok (.iadd, 1) := by decide +kernel
theorem dL_law_765 : decode cL_law 765 = .ok (.iaload, 1) := by decide +kernel
theorem dL_law_766 : decode cL_law 766 = .ok (.invokevirtual 78, 3) := by decide +kernel
theorem dL_law_769 : decode cL_law 769 = .ok (.aload_n 2, 1) := by decide +kernel
theorem dL_law_770 : decode cL_law 770 = .ok (.aload_n 0, 1) := by decide +kernel
theorem dL_law_771 : decode cL_law 771 = .ok (.iload_n 3, 1) := by decide +kernel
theorem dL_law_772 : decode cL_law 772 = .ok (.iconst 1, 1) := by decide +kernel
theorem dL_law_773 : decode cL_law 773 = .ok (.iadd, 1) := by decide +kernel
theorem dL_law_774 : decode cL_law 774 = .ok (.iaload, 1) := by decide +kernel
theorem dL_law_775 : decode cL_law 775 = .ok (.invokevirtual 82, 3) := by decide +kernel
theorem dL_law_778 : decode cL_law 778 = .ok (.lcmp, 1) := by decide +kernel
theorem dL_law_779 : decode cL_law 779 = .ok (.ifCond .eq 163, 3) := by decide +kernel
theorem dL_law_782 : decode cL_law 782 = .ok (.iconst 0, 1) := by decide +kernel
theorem dL_law_783 : decode cL_law 783 = .ok (.ireturn, 1) := by decide +kernel
theorem dL_law_784 : decode cL_law 784 = .ok (.aload_n 1, 1) := by decide +kernel
theorem dL_law_785 : decode cL_law 785 = .ok (.aload_n 0, 1) := by decide +kernel
theorem dL_law_786 : decode cL_law 786 = .ok (.iload_n 3, 1) := by decide +kernel
theorem dL_law_787 : decode cL_law 787 = .ok (.iconst 1, 1) := by decide +kernel
theorem dL_law_788 : decode cL_law 788 = .ok (.iadd, 1) := by decide +kernel
theorem dL_law_789 : decode cL_law 789 = .ok (.iaload, 1) := by decide +kernel
theorem dL_law_790 : decode cL_law 790 = .ok (.invokevirtual 83, 3) := by decide +kernel
theorem dL_law_793 : decode cL_law 793 = .ok (.aload_n 2, 1) := by decide +kernel
theorem dL_law_794 : decode cL_law 794 = .ok (.aload_n 0, 1) := by decide +kernel
theorem dL_law_795 : decode cL_law 795 = .ok (.iload_n 3, 1) := by decide +kernel
theorem dL_law_796 : decode cL_law 796 = .ok (.iconst 1, 1) := by decide +kernel
theorem dL_law_797 : decode cL_law 797 = .ok (.iadd, 1) := by decide +kernel
theorem dL_law_798 : decode cL_law 798 = .ok (.iaload, 1) := by decide +kernel
theorem dL_law_799 : decode cL_law 799 = .ok (.invokevirtual 86, 3) := by decide +kernel
theorem dL_law_802 : decode cL_law 802 = .ok (.if_icmp .eq 140, 3) := by decide +kernel
theorem dL_law_805 : decode cL_law 805 = .ok (.iconst 0, 1) := by decide +kernel
theorem dL_law_806 : decode cL_law 806 = .ok (.ireturn, 1) := by decide +kernel
theorem dL_law_807 : decode cL_law 807 = .ok (.aload_n 1, 1) := by decide +kernel
theorem dL_law_808 : decode cL_law 808 = .ok (.aload_n 0, 1) := by decide +kernel
theorem dL_law_809 : decode cL_law 809 = .ok (.iload_n 3, 1) := by decide +kernel
theorem dL_law_810 : decode cL_law 810 = .ok (.iconst 1, 1) := by decide +kernel
theorem dL_law_811 : decode cL_law 811 = .ok (.iadd, 1) := by decide +kernel
theorem dL_law_812 : decode cL_law 812 = .ok (.iaload, 1) := by decide +kernel
theorem dL_law_813 : decode cL_law 813 = .ok (.aload_n 0, 1) := by decide +kernel
theorem dL_law_814 : decode cL_law 814 = .ok (.iload_n 3, 1) := by decide +kernel
theorem dL_law_815 : decode cL_law 815 = .ok (.iconst 2, 1) := by decide +kernel
theorem dL_law_816 : decode cL_law 816 = .ok (.iadd, 1) := by decide +kernel
theorem dL_law_817 : decode cL_law 817 = .ok (.iaload, 1) := by decide +kernel
theorem dL_law_818 : decode cL_law 818 = .ok (.aload_n 0, 1) := by decide +kernel
theorem dL_law_819 : decode cL_law 819 = .ok (.iload_n 3, 1) := by decide +kernel
theorem dL_law_820 : decode cL_law 820 = .ok (.iconst 3, 1) := by decide +kernel
theorem dL_law_821 : decode cL_law 821 = .ok (.iadd, 1) := by decide +kernel
theorem dL_law_822 : decode cL_law 822 = .ok (.iaload, 1) := by decide +kernel
theorem dL_law_823 : decode cL_law 823 = .ok (.invokevirtual 87, 3) := by decide +kernel
theorem dL_law_826 : decode cL_law 826 = .ok (.aload_n 2, 1) := by decide +kernel
theorem dL_law_827 : decode cL_law 827 = .ok (.aload_n 0, 1) := by decide +kernel
theorem dL_law_828 : decode cL_law 828 = .ok (.iload_n 3, 1) := by decide +kernel
theorem dL_law_829 : decode cL_law 829 = .ok (.iconst 1, 1) := by decide +kernel
theorem dL_law_830 : decode cL_law 830 = .ok (.iadd, 1) := by decide +kernel
theorem dL_law_831 : decode cL_law 831 = .ok (.iaload, 1) := by decide +kernel
theorem dL_law_832 : decode cL_law 832 = .ok (.aload_n 0, 1) := by decide +kernel
theorem dL_law_833 : decode cL_law 833 = .ok (.iload_n 3, 1) := by decide +kernel
theorem dL_law_834 : decode cL_law 834 = .ok (.iconst 2, 1) := by decide +kernel
theorem dL_law_835 : decode cL_law 835 = .ok (.iadd, 1) := by decide +kernel
theorem dL_law_836 : decode cL_law 836 = .ok (.iaload, 1) := by decide +kernel
theorem dL_law_837 : decode cL_law 837 = .ok (.aload_n 0, 1) := by decide +kernel
theorem dL_law_838 : decode cL_law 838 = .ok (.iload_n 3, 1) := by decide +kernel
theorem dL_law_839 : decode cL_law 839 = .ok (.iconst 3, 1) := by decide +kernel
theorem dL_law_840 : decode cL_law 840 = .ok (.iadd, 1) := by decide +kernel
theorem dL_law_841 : decode cL_law 841 = .ok (.iaload, 1) := by decide +kernel
theorem dL_law_842 : decode cL_law 842 = .ok (.invokevirtual 91, 3) := by decide +kernel
theorem dL_law_845 : decode cL_law 845 = .ok (.lcmp, 1) := by decide +kernel
theorem dL_law_846 : decode cL_law 846 = .ok (.ifCond .eq 96, 3) := by decide +kernel
theorem dL_law_849 : decode cL_law 849 = .ok (.iconst 0, 1) := by decide +kernel
theorem dL_law_850 : decode cL_law 850 = .ok (.ireturn, 1) := by decide +kernel
theorem dL_law_851 : decode cL_law 851 = .ok (.aload_n 1, 1) := by decide +kernel
theorem dL_law_852 : decode cL_law 852 = .ok (.aload_n 0, 1) := by decide +kernel
theorem dL_law_853 : decode cL_law 853 = .ok (.iload_n 3, 1) := by decide +kernel
theorem dL_law_854 : decode cL_law 854 = .ok (.iconst 1, 1) := by decide +kernel
theorem dL_law_855 : decode cL_law 855 = .ok (.iadd, 1) := by decide +kernel
theorem dL_law_856 : decode cL_law 856 = .ok (.iaload, 1) := by decide +kernel
theorem dL_law_857 : decode cL_law 857 = .ok (.aload_n 0, 1) := by decide +kernel
theorem dL_law_858 : decode cL_law 858 = .ok (.iload_n 3, 1) := by decide +kernel
theorem dL_law_859 : decode cL_law 859 = .ok (.iconst 2, 1) := by decide +kernel
theorem dL_law_860 : decode cL_law 860 = .ok (.iadd, 1) := by decide +kernel
theorem dL_law_861 : decode cL_law 861 = .ok (.iaload, 1) := by decide +kernel
theorem dL_law_862 : decode cL_law 862 = .ok (.invokevirtual 92, 3) := by decide +kernel
theorem dL_law_865 : decode cL_law 865 = .ok (.aload_n 2, 1) := by decide +kernel
theorem dL_law_866 : decode cL_law 866 = .ok (.aload_n 0, 1) := by decide +kernel
theorem dL_law_867 : decode cL_law 867 = .ok (.iload_n 3, 1) := by decide +kernel
theorem dL_law_868 : decode cL_law 868 = .ok (.iconst 1, 1) := by decide +kernel
theorem dL_law_869 : decode cL_law 869 = .ok (.iadd, 1) := by decide +kernel
theorem dL_law_870 : decode cL_law 870 = .ok (.iaload, 1) := by decide +kernel
theorem dL_law_871 : decode cL_law 871 = .ok (.aload_n 0, 1) := by decide +kernel
theorem dL_law_872 : decode cL_law 872 = .ok (.iload_n 3, 1) := by decide +kernel
theorem dL_law_873 : decode cL_law 873 = .ok (.iconst 2, 1) := by decide +kernel
theorem dL_law_874 : decode cL_law 874 = .ok (.iadd, 1) := by decide +kernel
theorem dL_law_875 : decode cL_law 875 = .ok (.iaload, 1) := by decide +kernel
theorem dL_law_876 : decode cL_law 876 = .ok (.invokevirtual 96, 3) := by decide +kernel
theorem dL_law_879 : decode cL_law 879 = .ok (.lcmp, 1) := by decide +kernel
theorem dL_law_880 : decode cL_law 880 = .ok (.ifCond .eq 62, 3) := by decide +kernel
theorem dL_law_883 : decode cL_law 883 = .ok (.iconst 0, 1) := by decide +kernel
theorem dL_law_884 : decode cL_law 884 = .ok (.ireturn, 1) := by decide +kernel
theorem dL_law_885 : decode cL_law 885 = .ok (.aload_n 1, 1) := by decide +kernel
theorem dL_law_886 : decode cL_law 886 = .ok (.aload_n 0, 1) := by decide +kernel
theorem dL_law_887 : decode cL_law 887 = .ok (.iload_n 3, 1) := by decide +kernel
theorem dL_law_888 : decode cL_law 888 = .ok (.iconst 1, 1) := by decide +kernel
theorem dL_law_889 : decode cL_law 889 = .ok (.iadd, 1) := by decide +kernel
theorem dL_law_890 : decode cL_law 890 = .ok (.iaload, 1) := by decide +kernel
theorem dL_law_891 : decode cL_law 891 = .ok (.aload_n 0, 1) := by decide +kernel
theorem dL_law_892 : decode cL_law 892 = .ok (.iload_n 3, 1) := by decide +kernel
theorem dL_law_893 : decode cL_law 893 = .ok (.iconst 2, 1) := by decide +kernel
theorem dL_law_894 : decode cL_law 894 = .ok (.iadd, 1) := by decide +kernel
theorem dL_law_895 : decode cL_law 895 = .ok (.iaload, 1) := by decide +kernel
theorem dL_law_896 : decode cL_law 896 = .ok (.invokevirtual 97, 3) := by decide +kernel
theorem dL_law_899 : decode cL_law 899 = .ok (.aload_n 2, 1) := by decide +kernel
theorem dL_law_900 : decode cL_law 900 = .ok (.aload_n 0, 1) := by decide +kernel
theorem dL_law_901 : decode cL_law 901 = .ok (.iload_n 3, 1) := by decide +kernel
theorem dL_law_902 : decode cL_law 902 = .ok (.iconst 1, 1) := by decide +kernel
theorem dL_law_903 : decode cL_law 903 = .ok (.iadd, 1) := by decide +kernel
theorem dL_law_904 : decode cL_law 904 = .ok (.iaload, 1) := by decide +kernel
theorem dL_law_905 : decode cL_law 905 = .ok (.aload_n 0, 1) := by decide +kernel
theorem dL_law_906 : decode cL_law 906 = .ok (.iload_n 3, 1) := by decide +kernel
theorem dL_law_907 : decode cL_law 907 = .ok (.iconst 2, 1) := by decide +kernel
theorem dL_law_908 : decode cL_law 908 = .ok (.iadd, 1) := by decide +kernel
theorem dL_law_909 : decode cL_law 909 = .ok (.iaload, 1) := by decide +kernel
theorem dL_law_910 : decode cL_law 910 = .ok (.invokevirtual 100, 3) := by decide +kernel
theorem dL_law_913 : decode cL_law 913 = .ok (.lcmp, 1) := by decide +kernel
theorem dL_law_914 : decode cL_law 914 = .ok (.ifCond .eq 28, 3) := by decide +kernel
theorem dL_law_917 : decode cL_law 917 = .ok (.iconst 0, 1) := by decide +kernel
theorem dL_law_918 : decode cL_law 918 = .ok (.ireturn, 1) := by decide +kernel
theorem dL_law_919 : decode cL_law 919 = .ok (.aload_n 1, 1) := by decide +kernel
theorem dL_law_920 : decode cL_law 920 = .ok (.aload_n 0, 1) := by decide +kernel
theorem dL_law_921 : decode cL_law 921 = .ok (.iload_n 3, 1) := by decide +kernel
theorem dL_law_922 : decode cL_law 922 = .ok (.iconst 1, 1) := by decide +kernel
theorem dL_law_923 : decode cL_law 923 = .ok (.iadd, 1) := by decide +kernel
theorem dL_law_924 : decode cL_law 924 = .ok (.iaload, 1) := by decide +kernel
theorem dL_law_925 : decode cL_law 925 = .ok (.invokevirtual 101, 3) := by decide +kernel
theorem dL_law_928 : decode cL_law 928 = .ok (.aload_n 2, 1) := by decide +kernel
theorem dL_law_929 : decode cL_law 929 = .ok (.aload_n 0, 1) := by decide +kernel
theorem dL_law_930 : decode cL_law 930 = .ok (.iload_n 3, 1) := by decide +kernel
theorem dL_law_931 : decode cL_law 931 = .ok (.iconst 1, 1) := by decide +kernel
theorem dL_law_932 : decode cL_law 932 = .ok (.iadd, 1) := by decide +kernel
theorem dL_law_933 : decode cL_law 933 = .ok (.iaload, 1) := by decide +kernel
theorem dL_law_934 : decode cL_law 934 = .ok (.invokevirtual 104, 3) := by decide +kernel
theorem dL_law_937 : decode cL_law 937 = .ok (.if_icmp .eq 5, 3) := by decide +kernel
theorem dL_law_940 : decode cL_law 940 = .ok (.iconst 0, 1) := by decide +kernel
theorem dL_law_941 : decode cL_law 941 = .ok (.ireturn, 1) := by decide +kernel
theorem dL_law_942 : decode cL_law 942 = .ok (.iinc 3 6, 3) := by decide +kernel
theorem dL_law_945 : decode cL_law 945 = .ok (.goto (-927), 3) := by decide +kernel
theorem dL_law_948 : decode cL_law 948 = .ok (.iconst 1, 1) := by decide +kernel
theorem dL_law_949 : decode cL_law 949 = .ok (.ireturn, 1) := by decide +kernel
