theorem dX6_quotient_7 : decode cX6_quotient 7 = .ok (.aload_n 0, 1) := by decide +kernel
theorem dX6_quotient_8 : decode cX6_quotient 8 = .ok (.iconst 1, 1) := by decide +kernel
theorem dX6_quotient_9 : decode cX6_quotient 9 = .ok (.lload 4, 2) := by decide +kernel
theorem dX6_quotient_11 : decode cX6_quotient 11 = .ok (.iload_n 1, 1) := by decide +kernel
theorem dX6_quotient_12 : decode cX6_quotient 12 = .ok (.invokevirtual 111, 3) := by decide +kernel
theorem dX6_quotient_15 : decode cX6_quotient 15 = .ok (.aload_n 0, 1) := by decide +kernel
theorem dX6_quotient_16 : decode cX6_quotient 16 = .ok (.getfield 70, 3) := by decide +kernel
theorem dX6_quotient_19 : decode cX6_quotient 19 = .ok (.iconst 0, 1) := by decide +kernel
theorem dX6_quotient_20 : decode cX6_quotient 20 = .ok (.baload, 1) := by decide +kernel
theorem dX6_quotient_21 : decode cX6_quotient 21 = .ok (.aload_n 0, 1) := by decide +kernel
theorem dX6_quotient_22 : decode cX6_quotient 22 = .ok (.getfield 70, 3) := by decide +kernel
theorem dX6_quotient_25 : decode cX6_quotient 25 = .ok (.iconst 1, 1) := by decide +kernel
theorem dX6_quotient_26 : decode cX6_quotient 26 = .ok (.baload, 1) := by decide +kernel
theorem dX6_quotient_27 : decode cX6_quotient 27 = .ok (.if_icmp .eq 7, 3) := by decide +kernel
theorem dX6_quotient_30 : decode cX6_quotient 30 = .ok (.iconst 1, 1) := by decide +kernel
theorem dX6_quotient_31 : decode cX6_quotient 31 = .ok (.goto 4, 3) := by decide +kernel
theorem dX6_quotient_34 : decode cX6_quotient 34 = .ok (.iconst 0, 1) := by decide +kernel
theorem dX6_quotient_35 : decode cX6_quotient 35 = .ok (.istore 6, 2) := by decide +kernel
theorem dX6_quotient_37 : decode cX6_quotient 37 = .ok (.aload_n 0, 1) := by decide +kernel
theorem dX6_quotient_38 : decode cX6_quotient 38 = .ok (.getfield 64, 3) := by decide +kernel
theorem dX6_quotient_41 : decode cX6_quotient 41 = .ok (.iconst 0, 1) := by decide +kernel
theorem dX6_quotient_42 : decode cX6_quotient 42 = .ok (.iaload, 1) := by decide +kernel
theorem dX6_quotient_43 : decode cX6_quotient 43 = .ok (.iconst 3, 1) := by decide +kernel
theorem dX6_quotient_44 : decode cX6_quotient 44 = .ok (.if_icmp .eq 38, 3) := by decide +kernel
theorem dX6_quotient_47 : decode cX6_quotient 47 = .ok (.aload_n 0, 1) := by decide +kernel
theorem dX6_quotient_48 : decode cX6_quotient 48 = .ok (.getfield 64, 3) := by decide +kernel
theorem dX6_quotient_51 : decode cX6_quotient 51 = .ok (.iconst 1, 1) := by decide +kernel
theorem dX6_quotient_52 : decode cX6_quotient 52 = .ok (.iaload, 1) := by decide +kernel
theorem dX6_quotient_53 : decode cX6_quotient 53 = .ok (.iconst 3, 1) := by decide +kernel
theorem dX6_quotient_54 : decode cX6_quotient 54 = .ok (.if_icmp .eq 28, 3) := by decide +kernel
theorem dX6_quotient_57 : decode cX6_quotient 57 = .ok (.aload_n 0, 1) := by decide +kernel
theorem dX6_quotient_58 : decode cX6_quotient 58 = .ok (.getfield 64, 3) := by decide +kernel
theorem dX6_quotient_61 : decode cX6_quotient 61 = .ok (.iconst 0, 1) := by decide +kernel
theorem dX6_quotient_62 : decode cX6_quotient 62 = .ok (.iaload, 1) := by decide +kernel
theorem dX6_quotient_63 : decode cX6_quotient 63 = .ok (.aload_n 0, 1) := by decide +kernel
theorem dX6_quotient_64 : decode cX6_quotient 64 = .ok (.getfield 64, 3) := by decide +kernel
theorem dX6_quotient_67 : decode cX6_quotient 67 = .ok (.iconst 1, 1) := by decide +kernel
theorem dX6_quotient_68 : decode cX6_quotient 68 = .ok (.iaload, 1) := by decide +kernel
theorem dX6_quotient_69 : decode cX6_quotient 69 = .ok (.if_icmp .ne 19, 3) := by decide +kernel
theorem dX6_quotient_72 : decode cX6_quotient 72 = .ok (.aload_n 0, 1) := by decide +kernel
theorem dX6_quotient_73 : decode cX6_quotient 73 = .ok (.getfield 64, 3) := by decide +kernel
theorem dX6_quotient_76 : decode cX6_quotient 76 = .ok (.iconst 0, 1) := by decide +kernel
theorem dX6_quotient_77 : decode cX6_quotient 77 = .ok (.iaload, 1) := by decide +kernel
theorem dX6_quotient_78 : decode cX6_quotient 78 = .ok (.iconst 1, 1) := by decide +kernel
theorem dX6_quotient_79 : decode cX6_quotient 79 = .ok (.if_icmp .eq 9, 3) := by decide +kernel
theorem dX6_quotient_82 : decode cX6_quotient 82 = .ok (.aload_n 0, 1) := by decide +kernel
theorem dX6_quotient_83 : decode cX6_quotient 83 = .ok (.iload_n 1, 1) := by decide +kernel
theorem dX6_quotient_84 : decode cX6_quotient 84 = .ok (.invokevirtual 115, 3) := by decide +kernel
theorem dX6_quotient_87 : decode cX6_quotient 87 = .ok (.lreturn, 1) := by decide +kernel
theorem dX6_quotient_88 : decode cX6_quotient 88 = .ok (.aload_n 0, 1) := by decide +kernel
theorem dX6_quotient_89 : decode cX6_quotient 89 = .ok (.getfield 64, 3) := by decide +kernel
theorem dX6_quotient_92 : decode cX6_quotient 92 = .ok (.iconst 0, 1) := by decide +kernel
theorem dX6_quotient_93 : decode cX6_quotient 93 = .ok (.iaload, 1) := by decide +kernel
theorem dX6_quotient_94 : decode cX6_quotient 94 = .ok (.iconst 2, 1) := by decide +kernel
theorem dX6_quotient_95 : decode cX6_quotient 95 = .ok (.if_icmp .eq 12, 3) := by decide +kernel
theorem dX6_quotient_98 : decode cX6_quotient 98 = .ok (.aload_n 0, 1) := by decide +kernel
theorem dX6_quotient_99 : decode cX6_quotient 99 = .ok (.getfield 64, 3) := by decide +kernel
theorem dX6_quotient_102 : decode cX6_quotient 102 = .ok (.iconst 1, 1) := by decide +kernel
theorem dX6_quotient_103 : decode cX6_quotient 103 = .ok (.iaload, 1) := by decide +kernel
theorem dX6_quotient_104 : decode cX6_quotient 104 = .ok (.ifCond .ne 16, 3) := by decide +kernel
theorem dX6_quotient_107 : decode cX6_quotient 107 = .ok (.aload_n 0, 1) := by decide +kernel
theorem dX6_quotient_108 : decode cX6_quotient 108 = .ok (.iload_n 1, 1) := by decide +kernel
theorem dX6_quotient_109 : decode cX6_quotient 109 = .ok (.iload 6, 2) := by decide +kernel
theorem dX6_quotient_111 : decode cX6_quotient 111 = .ok (.aload_n 0, 1) := by decide +kernel
theorem dX6_quotient_112 : decode cX6_quotient 112 = .ok (.iload_n 1, 1) := by decide +kernel
theorem dX6_quotient_113 : decode cX6_quotient 113 = .ok (.invokevirtual 103, 3) := by decide +kernel
theorem dX6_quotient_116 : decode cX6_quotient 116 = .ok (.invokevirtual 107, 3) := by decide +kernel
theorem dX6_quotient_119 : decode cX6_quotient 119 = .ok (.lreturn, 1) := by decide +kernel
theorem dX6_quotient_120 : decode cX6_quotient 120 = .ok (.aload_n 0, 1) := by decide +kernel
theorem dX6_quotient_121 : decode cX6_quotient 121 = .ok (.getfield 64, 3) := by decide +kernel
theorem dX6_quotient_124 : decode cX6_quotient 124 = .ok (.iconst 0, 1) := by decide +kernel
theorem dX6_quotient_125 : decode cX6_quotient 125 = .ok (.iaload, 1) := by decide +kernel
theorem dX6_quotient_126 : decode cX6_quotient 126 = .ok (.ifCond .eq 13, 3) := by decide +kernel
theorem dX6_quotient_129 : decode cX6_quotient 129 = .ok (.aload_n 0, 1) := by decide +kernel
theorem dX6_quotient_130 : decode cX6_quotient 130 = .ok (.getfield 64, 3) := by decide +kernel
theorem dX6_quotient_133 : decode cX6_quotient 133 = .ok (.iconst 1, 1) := by decide +kernel
theorem dX6_quotient_134 : decode cX6_quotient 134 = .ok (.iaload, 1) := by decide +kernel
theorem dX6_quotient_135 : decode cX6_quotient 135 = .ok (.iconst 2, 1) := by decide +kernel
theorem dX6_quotient_136 : decode cX6_quotient 136 = .ok (.if_icmp .ne 12, 3) := by decide +kernel
theorem dX6_quotient_139 : decode cX6_quotient 139 = .ok (.aload_n 0, 1) := by decide +kernel
theorem dX6_quotient_140 : decode cX6_quotient 140 = .ok (.iload_n 1, 1) := by decide +kernel
theorem dX6_quotient_141 : decode cX6_quotient 141 = .ok (.iload 6, 2) := by decide +kernel
theorem dX6_quotient_143 : decode cX6_quotient 143 = .ok (.lconst 0, 1) := by decide +kernel
theorem dX6_quotient_144 : decode cX6_quotient 144 = .ok (.invokevirtual 107, 3) := by decide +kernel
theorem dX6_quotient_147 : decode cX6_quotient 147 = .ok (.lreturn, 1) := by decide +kernel
theorem dX6_quotient_148 : decode cX6_quotient 148 = .ok (.aload_n 0, 1) := by decide +kernel
theorem dX6_quotient_149 : decode cX6_quotient 149 = .ok (.iconst 0, 1) := by decide +kernel
theorem dX6_quotient_150 : decode cX6_quotient 150 = .ok (.invokevirtual 118, 3) := by decide +kernel
theorem dX6_quotient_153 : decode cX6_quotient 153 = .ok (.aload_n 0, 1) := by decide +kernel
theorem dX6_quotient_154 : decode cX6_quotient 154 = .ok (.iconst 1, 1) := by decide +kernel
theorem dX6_quotient_155 : decode cX6_quotient 155 = .ok (.invokevirtual 118, 3) := by decide +kernel
theorem dX6_quotient_158 : decode cX6_quotient 158 = .ok (.lconst 0, 1) := by decide +kernel
theorem dX6_quotient_159 : decode cX6_quotient 159 = .ok (.lstore 7, 2) := by decide +kernel
theorem dX6_quotient_161 : decode cX6_quotient 161 = .ok (.aload_n 0, 1) := by decide +kernel
theorem dX6_quotient_162 : decode cX6_quotient 162 = .ok (.getfield 73, 3) := by decide +kernel
theorem dX6_quotient_165 : decode cX6_quotient 165 = .ok (.iconst 0, 1) := by decide +kernel
theorem dX6_quotient_166 : decode cX6_quotient 166 = .ok (.laload, 1) := by decide +kernel
theorem dX6_quotient_167 : decode cX6_quotient 167 = .ok (.lstore 9, 2) := by decide +kernel
theorem dX6_quotient_169 : decode cX6_quotient 169 = .ok (.iconst 0, 1) := by decide +kernel
theorem dX6_quotient_170 : decode cX6_quotient 170 = .ok (.istore 11, 2) := by decide +kernel
theorem dX6_quotient_172 : decode cX6_quotient 172 = .ok (.iload 11, 2) := by decide +kernel
theorem dX6_quotient_174 : decode cX6_quotient 174 = .ok (.bipush 60, 2) := by decide +kernel
theorem dX6_quotient_176 : decode cX6_quotient 176 = .ok (.if_icmp .ge 50, 3) := by decide +kernel
theorem dX6_quotient_179 : decode cX6_quotient 179 = .ok (.lload 7, 2) := by decide +kernel
theorem dX6_quotient_181 : decode cX6_quotient 181 = .ok (.iconst 1, 1) := by decide +kernel
theorem dX6_quotient_182 : decode cX6_quotient 182 = .ok (.lshl, 1) := by decide +kernel
theorem dX6_quotient_183 : decode cX6_quotient 183 = .ok (.lstore 7, 2) := by decide +kernel
theorem dX6_quotient_185 : decode cX6_quotient 185 = .ok (.lload 9, 2) := by decide +kernel
theorem dX6_quotient_187 : decode cX6_quotient 187 = .ok (.aload_n 0, 1) := by decide +kernel
theorem dX6_quotient_188 : decode cX6_quotient 188 = .ok (.getfield 73, 3) := by decide +kernel
theorem dX6_quotient_191 : decode cX6_quotient 191 = .ok (.iconst 1, 1) := by decide +kernel
theorem dX6_quotient_192 : decode cX6_quotient 192 = .ok (.laload, 1) := by decide +kernel
theorem dX6_quotient_193 : decode cX6_quotient 193 = .ok (.lcmp, 1) := by decide +kernel
theorem dX6_quotient_194 : decode cX6_quotient 194 = .ok (.ifCond .lt 20, 3) := by decide +kernel
theorem dX6_quotient_197 : decode cX6_quotient 197 = .ok (.lload 9, 2) := by decide +kernel
theorem dX6_quotient_199 : decode cX6_quotient 199 = .ok (.aload_n 0, 1) := by decide +kernel
theorem dX6_quotient_200 : decode cX6_quotient 200 = .ok (.getfield 73, 3) := by decide +kernel
theorem dX6_quotient_203 : decode cX6_quotient 203 = .ok (.iconst 1, 1) := by decide +kernel
theorem dX6_quotient_204 : decode cX6_quotient 204 = .ok (.laload, 1) := by decide +kernel
theorem dX6_quotient_205 : decode cX6_quotient 205 = .ok (.lsub, 1) := by decide +kernel
theorem dX6_quotient_206 : decode cX6_quotient 206 = .ok (.lstore 9, 2) := by decide +kernel
theorem dX6_quotient_208 : decode cX6_quotient 208 = .ok (.lload 7, 2) := by decide +kernel
theorem dX6_quotient_210 : decode cX6_quotient 210 = .ok (.lconst 1, 1) := by decide +kernel
theorem dX6_quotient_211 : decode cX6_quotient 211 = .ok (.ladd, 1) := by decide +kernel
theorem dX6_quotient_212 : decode cX6_quotient 212 = .ok (.lstore 7, 2) := by decide +kernel
theorem dX6_quotient_214 : decode cX6_quotient 214 = .ok (.lload 9, 2) := by decide +kernel
theorem dX6_quotient_216 : decode cX6_quotient 216 = .ok (.iconst 1, 1) := by decide +kernel
theorem dX6_quotient_217 : decode cX6_quotient 217 = .ok (.lshl, 1) := by decide +kernel
theorem dX6_quotient_218 : decode cX6_quotient 218 = .ok (.lstore 9, 2) := by decide +kernel
theorem dX6_quotient_220 : decode cX6_quotient 220 = .ok (.iinc 11 1, 3) := by decide +kernel
theorem dX6_quotient_223 : decode cX6_quotient 223 = .ok (.goto (-51), 3) := by decide +kernel
theorem dX6_quotient_226 : decode cX6_quotient 226 = .ok (.aload_n 0, 1) := by decide +kernel
theorem dX6_quotient_227 : decode cX6_quotient 227 = .ok (.iload_n 1, 1) := by decide +kernel
theorem dX6_quotient_228 : decode cX6_quotient 228 = .ok (.iload 6, 2) := by decide +kernel
theorem dX6_quotient_230 : decode cX6_quotient 230 = .ok (.lload 7, 2) := by decide +kernel
theorem dX6_quotient_232 : decode cX6_quotient 232 = .ok (.aload_n 0, 1) := by decide +kernel
theorem dX6_quotient_233 : decode cX6_quotient 233 = .ok (.getfield 67, 3) := by decide +kernel
theorem dX6_quotient_236 : decode cX6_quotient 236 = .ok (.iconst 0, 1) := by decide +kernel
theorem dX6_quotient_237 : decode cX6_quotient 237 = .ok (.iaload, 1) := by decide +kernel
theorem dX6_quotient_238 : decode cX6_quotient 238 = .ok (.aload_n 0, 1) := by decide +kernel
theorem dX6_quotient_239 : decode cX6_quotient 239 = .ok (.getfield 67, 3) := by decide +kernel
theorem dX6_quotient_242 : decode cX6_quotient 242 = .ok (.iconst 1, 1) := by decide +kernel
theorem dX6_quotient_243 : decode cX6_quotient 243 = .ok (.iaload, 1) := by decide +kernel
theorem dX6_quotient_244 : decode cX6_quotient 244 = .ok (.isub, 1) := by decide +kernel
theorem dX6_quotient_245 : decode cX6_quotient 245 = .ok (.bipush 59, 2) := by decide +kernel
theorem dX6_quotient_247 : decode cX6_quotient 247 = .ok (.isub, 1) := by decide +kernel
theorem dX6_quotient_248 : decode cX6_quotient 248 = .ok (.lload 9, 2) := by decide +kernel
theorem dX6_quotient_250 : decode cX6_quotient 250 = .ok (.lconst 0, 1) := by decide +kernel
theorem dX6_quotient_251 : decode cX6_quotient 251 = .ok (.lcmp, 1) := by decide +kernel
theorem dX6_quotient_252 : decode cX6_quotient 252 = .ok (.ifCond .eq 7, 3) := by decide +kernel
theorem dX6_quotient_255 : decode cX6_quotient 255 = .ok (.iconst 1, 1) := by decide +kernel
theorem dX6_quotient_256 : decode cX6_quotient 256 = .ok (.goto 4, 3) := by decide +kernel
theorem dX6_quotient_259 : decode cX6_quotient 259 = .ok (.iconst 0, 1) := by decide +kernel
theorem dX6_quotient_260 : decode cX6_quotient 260 = .ok (.invokevirtual 122, 3) := by decide +kernel
theorem dX6_quotient_263 : decode cX6_quotient 263 = .ok (.lreturn, 1) := by decide +kernel
theorem dX6_remainder_0 : decode cX6_remainder 0 = .ok (.aload_n 0, 1) := by decide +kernel
theorem dX6_remainder_1 : decode cX6_remainder 1 = .ok (.iconst 0, 1) := by decide +kernel
theorem dX6_remainder_2 : decode cX6_remainder 2 = .ok (.lload_n 2, 1) := by decide +kernel
theorem dX6_remainder_3 : decode cX6_remainder 3 = .ok (.iload_n 1, 1) := by decide +kernel
theorem dX6_remainder_4 : decode cX6_remainder 4 = .ok (.invokevirtual 111, 3) := by decide +kernel
theorem dX6_remainder_7 : decode cX6_remainder 7 = .ok (.aload_n 0, 1) := by decide +kernel
theorem dX6_remainder_8 : decode cX6_remainder 8 = .ok (.iconst 1, 1) := by decide +kernel
theorem dX6_remainder_9 : decode cX6_remainder 9 = .ok (.lload 4, 2) := by decide +kernel
theorem dX6_remainder_11 : decode cX6_remainder 11 = .ok (.iload_n 1, 1) := by decide +kernel
theorem dX6_remainder_12 : decode cX6_remainder 12 = .ok (.invokevirtual 111, 3) := by decide +kernel
theorem dX6_remainder_15 : decode cX6_remainder 15 = .ok (.aload_n 0, 1) := by decide +kernel
theorem dX6_remainder_16 : decode cX6_remainder 16 = .ok (.getfield 64, 3) := by decide +kernel
theorem dX6_remainder_19 : decode cX6_remainder 19 = .ok (.iconst 0, 1) := by decide +kernel
theorem dX6_remainder_20 : decode cX6_remainder 20 = .ok (.iaload, 1) := by decide +kernel
theorem dX6_remainder_21 : decode cX6_remainder 21 = .ok (.iconst 3, 1) := by decide +kernel
theorem dX6_remainder_22 : decode cX6_remainder 22 = .ok (.if_icmp .eq 32, 3) := by decide +kernel
theorem dX6_remainder_25 : decode cX6_remainder 25 = .ok (.aload_n 0, 1) := by decide +kernel
theorem dX6_remainder_26 : decode cX6_remainder 26 = .ok (.getfield 64, 3) := by decide +kernel
theorem dX6_remainder_29 : decode cX6_remainder 29 = .ok (.iconst 1, 1) := by decide +kernel
theorem dX6_remainder_30 : decode cX6_remainder 30 = .ok (.iaload, 1) := by decide +kernel
theorem dX6_remainder_31 : decode cX6_remainder 31 = .ok (.iconst 3, 1) := by decide +kernel
theorem dX6_remainder_32 : decode cX6_remainder 32 = .ok (.if_icmp .eq 22, 3) := by decide +kernel
theorem dX6_remainder_35 : decode cX6_remainder 35 = .ok (.aload_n 0, 1) := by decide +kernel
theorem dX6_remainder_36 : decode cX6_remainder 36 = .ok (.getfield 64, 3) := by decide +kernel
theorem dX6_remainder_39 : decode cX6_remainder 39 = .ok (.iconst 0, 1) := by decide +kernel
theorem dX6_remainder_40 : decode cX6_remainder 40 = .ok (.iaload, 1) := by decide +kernel
theorem dX6_remainder_41 : decode cX6_remainder 41 = .ok (.iconst 2, 1) := by decide +kernel
theorem dX6_remainder_42 : decode cX6_remainder 42 = .ok (.if_icmp .eq 12, 3) := by decide +kernel
theorem dX6_remainder_45 : decode cX6_remainder 45 = .ok (.aload_n 0, 1) := by decide +kernel
theorem dX6_remainder_46 : decode cX6_remainder 46 = .ok (.getfield 64, 3) := by decide +kernel
theorem dX6_remainder_49 : decode cX6_remainder 49 = .ok (.iconst 1, 1) := by decide +kernel
theorem dX6_remainder_50 : decode cX6_remainder 50 = .ok (.iaload, 1) := by decide +kernel
theorem dX6_remainder_51 : decode cX6_remainder 51 = .ok (.ifCond .ne 9, 3) := by decide +kernel
theorem dX6_remainder_54 : decode cX6_remainder 54 = .ok (.aload_n 0, 1) := by decide +kernel
theorem dX6_remainder_55 : decode cX6_remainder 55 = .ok (.iload_n 1, 1) := by decide +kernel
theorem dX6_remainder_56 : decode cX6_remainder 56 = .ok (.invokevirtual 115, 3) := by decide +kernel
theorem dX6_remainder_59 : decode cX6_remainder 59 = .ok (.lreturn, 1) := by decide +kernel
theorem dX6_remainder_60 : decode cX6_remainder 60 = .ok (.aload_n 0, 1) := by decide +kernel
theorem dX6_remainder_61 : decode cX6_remainder 61 = .ok (.getfield 64, 3) := by decide +kernel
theorem dX6_remainder_64 : decode cX6_remainder 64 = .ok (.iconst 0, 1) := by decide +kernel
theorem dX6_remainder_65 : decode cX6_remainder 65 = .ok (.iaload, 1) := by decide +kernel
theorem dX6_remainder_66 : decode cX6_remainder 66 = .ok (.ifCond .eq 13, 3) := by decide +kernel
theorem dX6_remainder_69 : decode cX6_remainder 69 = .ok (.aload_n 0, 1) := by decide +kernel
theorem dX6_remainder_70 : decode cX6_remainder 70 = .ok (.getfield 64, 3) := by decide +kernel
theorem dX6_remainder_73 : decode cX6_remainder 73 = .ok (.iconst 1, 1) := by decide +kernel
theorem dX6_remainder_74 : decode cX6_remainder 74 = .ok (.iaload, 1) := by decide +kernel
theorem dX6_remainder_75 : decode cX6_remainder 75 = .ok (.iconst 2, 1) := by decide +kernel
theorem dX6_remainder_76 : decode cX6_remainder 76 = .ok (.if_icmp .ne 5, 3) := by decide +kernel
theorem dX6_remainder_79 : decode cX6_remainder 79 = .ok (.lload_n 2, 1) := by decide +kernel
theorem dX6_remainder_80 : decode cX6_remainder 80 = .ok (.lreturn, 1) := by decide +kernel
theorem dX6_remainder_81 : decode cX6_remainder 81 = .ok (.aload_n 0, 1) := by decide +kernel
theorem dX6_remainder_82 : decode cX6_remainder 82 = .ok (.iconst 0, 1) := by decide +kernel
theorem dX6_remainder_83 : decode cX6_remainder 83 = .ok (.invokevirtual 118, 3) := by decide +kernel
theorem dX6_remainder_86 : decode cX6_remainder 86 = .ok (.aload_n 0, 1) := by decide +kernel
theorem dX6_remainder_87 : decode cX6_remainder 87 = .ok (.iconst 1, 1) := by decide +kernel
theorem dX6_remainder_88 : decode cX6_remainder 88 = .ok (.invokevirtual 118, 3) := by decide +kernel
theorem dX6_remainder_91 : decode cX6_remainder 91 = .ok (.aload_n 0, 1) := by decide +kernel
theorem dX6_remainder_92 : decode cX6_remainder 92 = .ok (.getfield 67, 3) := by decide +kernel
theorem dX6_remainder_95 : decode cX6_remainder 95 = .ok (.iconst 0, 1) := by decide +kernel
theorem dX6_remainder_96 : decode cX6_remainder 96 = .ok (.iaload, 1) := by decide +kernel
theorem dX6_remainder_97 : decode cX6_remainder 97 = .ok (.aload_n 0, 1) := by decide +kernel
theorem dX6_remainder_98 : decode cX6_remainder 98 = .ok (.getfield 67, 3) := by decide +kernel
theorem dX6_remainder_101 : decode cX6_remainder 101 = .ok (.iconst 1, 1) := by decide +kernel
theorem dX6_remainder_102 : decode cX6_remainder 102 = .ok (.iaload, 1) := by decide +kernel
theorem dX6_remainder_103 : decode cX6_remainder 103 = .ok (.if_icmp .ge 5, 3) := by decide +kernel
theorem dX6_remainder_106 : decode cX6_remainder 106 = .ok (.lload_n 2, 1) := by decide +kernel
theorem dX6_remainder_107 : decode cX6_remainder 107 = .ok (.lreturn, 1) := by decide +kernel
theorem dX6_remainder_108 : decode cX6_remainder 108 = .ok (.aload_n 0, 1) := by decide +kernel
theorem dX6_remainder_109 : decode cX6_remainder 109 = .ok (.getfield 73, 3) := by decide +kernel
theorem dX6_remainder_112 : decode cX6_remainder 112 = .ok (.iconst 0, 1) := by decide +kernel
theorem dX6_remainder_113 : decode cX6_remainder 113 = .ok (.laload, 1) := by decide +kernel
theorem dX6_remainder_114 : decode cX6_remainder 114 = .ok (.aload_n 0, 1) := by decide +kernel
theorem dX6_remainder_115 : decode cX6_remainder 115 = .ok (.getfield 73, 3) := by decide +kernel
theorem dX6_remainder_118 : decode cX6_remainder 118 = .ok (.iconst 1, 1) := by decide +kernel
theorem dX6_remainder_119 : decode cX6_remainder 119 = .ok (.laload, 1) := by decide +kernel
theorem dX6_remainder_120 : decode cX6_remainder 120 = .ok (.lcmp, 1) := by decide +kernel
theorem dX6_remainder_121 : decode cX6_remainder 121 = .ok (.ifCond .lt 19, 3) := by decide +kernel
theorem dX6_remainder_124 : decode cX6_remainder 124 = .ok (.aload_n 0, 1) := by decide +kernel
theorem dX6_remainder_125 : decode cX6_remainder 125 = .ok (.getfield 73, 3) := by decide +kernel
theorem dX6_remainder_128 : decode cX6_remainder 128 = .ok (.iconst 0, 1) := by decide +kernel
theorem dX6_remainder_129 : decode cX6_remainder 129 = .ok (.laload, 1) := by decide +kernel
theorem dX6_remainder_130 : decode cX6_remainder 130 = .ok (.aload_n 0, 1) := by decide +kernel
theorem dX6_remainder_131 : decode cX6_remainder 131 = .ok (.getfield 73, 3) := by decide +kernel
theorem dX6_remainder_134 : decode cX6_remainder 134 = .ok (.iconst 1, 1) := by decide +kernel
theorem dX6_remainder_135 : decode cX6_remainder 135 = .ok (.laload, 1) := by decide +kernel
theorem dX6_remainder_136 : decode cX6_remainder 136 = .ok (.lsub, 1) := by decide +kernel
theorem dX6_remainder_137 : decode cX6_remainder 137 = .ok (.goto 9, 3) := by decide +kernel
theorem dX6_remainder_140 : decode cX6_remainder 140 = .ok (.aload_n 0, 1) := by decide +kernel
theorem dX6_remainder_141 : decode cX6_remainder 141 = .ok (.getfield 73, 3) := by decide +kernel
theorem dX6_remainder_144 : decode cX6_remainder 144 = .ok (.iconst 0, 1) := by decide +kernel
theorem dX6_remainder_145 : decode cX6_remainder 145 = .ok (.laload, 1) := by decide +kernel
theorem dX6_remainder_146 : decode cX6_remainder 146 = .ok (.lstore 6, 2) := by decide +kernel
theorem dX6_remainder_148 : decode cX6_remainder 148 = .ok (.aload_n 0, 1) := by decide +kernel
theorem dX6_remainder_149 : decode cX6_remainder 149 = .ok (.getfield 67, 3) := by decide +kernel
theorem dX6_remainder_152 : decode cX6_remainder 152 = .ok (.iconst 0, 1) := by decide +kernel
theorem dX6_remainder_153 : decode cX6_remainder 153 = .ok (.iaload, 1) := by decide +kernel
theorem dX6_remainder_154 : decode cX6_remainder 154 = .ok (.istore 8, 2) := by decide +kernel
theorem dX6_remainder_156 : decode cX6_remainder 156 = .ok (.iload 8, 2) := by decide +kernel
theorem dX6_remainder_158 : decode cX6_remainder 158 = .ok (.aload_n 0, 1) := by decide +kernel
theorem dX6_remainder_159 : decode cX6_remainder 159 = .ok (.getfield 67, 3) := by decide +kernel
theorem dX6_remainder_162 : decode cX6_remainder 162 = .ok (.iconst 1, 1) := by decide +kernel
theorem dX6_remainder_163 : decode cX6_remainder 163 = .ok (.iaload, 1) := by decide +kernel
theorem dX6_remainder_164 : decode cX6_remainder 164 = .ok (.if_icmp .le 38, 3) := by decide +kernel
theorem dX6_remainder_167 : decode cX6_remainder 167 = .ok (.lload 6, 2) := by decide +kernel
theorem dX6_remainder_169 : decode cX6_remainder 169 = .ok (.iconst 1, 1) := by decide +kernel
theorem dX6_remainder_170 : decode cX6_remainder 170 = .ok (.lshl, 1) := by decide +kernel
theorem dX6_remainder_171 : decode cX6_remainder 171 = .ok (.lstore 6, 2) := by decide +kernel
theorem dX6_remainder_173 : decode cX6_remainder 173 = .ok (.lload 6, 2) := by decide +kernel
theorem dX6_remainder_175 : decode cX6_remainder 175 = .ok (.aload_n 0, 1) := by decide +kernel
theorem dX6_remainder_176 : decode cX6_remainder 176 = .ok (.getfield 73, 3) := by decide +kernel
theorem dX6_remainder_179 : decode cX6_remainder 179 = .ok (.iconst 1, 1) := by decide +kernel
theorem dX6_remainder_180 : decode cX6_remainder 180 = .ok (.laload, 1) := by decide +kernel
theorem dX6_remainder_181 : decode cX6_remainder 181 = .ok (.lcmp, 1) := by decide +kernel
theorem dX6_remainder_182 : decode cX6_remainder 182 = .ok (.ifCond .lt 14, 3) := by decide +kernel
theorem dX6_remainder_185 : decode cX6_remainder 185 = .ok (.lload 6, 2) := by decide +kernel
theorem dX6_remainder_187 : decode cX6_remainder 187 = .ok (.aload_n 0, 1) := by decide +kernel
theorem dX6_remainder_188 : decode cX6_remainder 188 = .ok (.getfield 73, 3) := by decide +kernel
theorem dX6_remainder_191 : decode cX6_remainder 191 = .ok (.iconst 1, 1) := by decide +kernel
theorem dX6_remainder_192 : decode cX6_remainder 192 = .ok (.laload, 1) := by decide +kernel
theorem dX6_remainder_193 : decode cX6_remainder 193 = .ok (.lsub, 1) := by decide +kernel
theorem dX6_remainder_194 : decode cX6_remainder 194 = .ok (.lstore 6, 2) := by decide +kernel
theorem dX6_remainder_196 : decode cX6_remainder 196 = .ok (.iinc 8 (-1), 3) := by decide +kernel
theorem dX6_remainder_199 : decode cX6_remainder 199 = .ok (.goto (-43), 3) := by decide +kernel
theorem dX6_remainder_202 : decode cX6_remainder 202 = .ok (.lload 6, 2) := by decide +kernel
theorem dX6_remainder_204 : decode cX6_remainder 204 = .ok (.lconst 0, 1) := by decide +kernel
theorem dX6_remainder_205 : decode cX6_remainder 205 = .ok (.lcmp, 1) := by decide +kernel
theorem dX6_remainder_206 : decode cX6_remainder 206 = .ok (.ifCond .ne 18, 3) := by decide +kernel
theorem dX6_remainder_209 : decode cX6_remainder 209 = .ok (.aload_n 0, 1) := by decide +kernel
theorem dX6_remainder_210 : decode cX6_remainder 210 = .ok (.iload_n 1, 1) := by decide +kernel
theorem dX6_remainder_211 : decode cX6_remainder 211 = .ok (.aload_n 0, 1) := by decide +kernel
theorem dX6_remainder_212 : decode cX6_remainder 212 = .ok (.getfield 70, 3) := by decide +kernel
theorem dX6_remainder_215 : decode cX6_remainder 215 = .ok (.iconst 0, 1) := by decide +kernel
theorem dX6_remainder_216 : decode cX6_remainder 216 = .ok (.baload, 1) := by decide +kernel
theorem dX6_remainder_217 : decode cX6_remainder 217 = .ok (.lconst 0, 1) := by decide +kernel
theorem dX6_remainder_218 : decode cX6_remainder 218 = .ok (.invokevirtual 107, 3) := by decide +kernel
theorem dX6_remainder_221 : decode cX6_remainder 221 = .ok (.goto 23, 3) := by decide +kernel
theorem dX6_remainder_224 : decode cX6_remainder 224 = .ok (.aload_n 0, 1) := by decide +kernel
theorem dX6_remainder_225 : decode cX6_remainder 225 = .ok (.iload_n 1, 1) := by decide +kernel
theorem dX6_remainder_226 : decode cX6_remainder 226 = .ok (.aload_n 0, 1) := by decide +kernel
theorem dX6_remainder_227 : decode cX6_remainder 227 = .ok (.getfield 70, 3) := by decide +kernel
theorem dX6_remainder_230 : decode cX6_remainder 230 = .ok (.iconst 0, 1) := by decide +kernel
theorem dX6_remainder_231 : decode cX6_remainder 231 = .ok (.baload, 1) := by decide +kernel
theorem dX6_remainder_232 : decode cX6_remainder 232 = .ok (.lload 6, 2) := by decide +kernel
theorem dX6_remainder_234 : decode cX6_remainder 234 = .ok (.aload_n 0, 1) := by decide +kernel
theorem dX6_remainder_235 : decode cX6_remainder 235 = .ok (.getfield 67, 3) := by decide +kernel
theorem dX6_remainder_238 : decode cX6_remainder 238 = .ok (.iconst 1, 1) := by decide +kernel
theorem dX6_remainder_239 : decode cX6_remainder 239 = .ok (.iaload, 1) := by decide +kernel
theorem dX6_remainder_240 : decode cX6_remainder 240 = .ok (.iconst 0, 1) := by decide +kernel
theorem dX6_remainder_241 : decode cX6_remainder 241 = .ok (.invokevirtual 122, 3) := by decide +kernel
theorem dX6_remainder_244 : decode cX6_remainder 244 = .ok (.lreturn, 1) := by decide +kernel
theorem dX6_fromWhole_0 : decode cX6_fromWhole 0 = .ok (.lload_n 2, 1) := by decide +kernel
theorem dX6_fromWhole_1 : decode cX6_fromWhole 1 = .ok (.lconst 0, 1) := by decide +kernel
theorem dX6_fromWhole_2 : decode cX6_fromWhole 2 = .ok (.lcmp, 1) := by decide +kernel
theorem dX6_fromWhole_3 : decode cX6_fromWhole 3 = .ok (.ifCond .ne 5, 3) := by decide +kernel
theorem dX6_fromWhole_6 : decode cX6_fromWhole 6 = .ok (.lconst 0, 1) := by decide +kernel
theorem dX6_fromWhole_7 : decode cX6_fromWhole 7 = .ok (.lreturn, 1) := by decide +kernel
theorem dX6_fromWhole_8 : decode cX6_fromWhole 8 = .ok (.lload_n 2, 1) := by decide +kernel
theorem dX6_fromWhole_9 : decode cX6_fromWhole 9 = .ok (.ldc2_w 84, 3) := by decide +kernel
theorem dX6_fromWhole_12 : decode cX6_fromWhole 12 = .ok (.lcmp, 1) := by decide +kernel
theorem dX6_fromWhole_13 : decode cX6_fromWhole 13 = .ok (.ifCond .ne 15, 3) := by decide +kernel
theorem dX6_fromWhole_16 : decode cX6_fromWhole 16 = .ok (.aload_n 0, 1) := by decide +kernel
theorem dX6_fromWhole_17 : decode cX6_fromWhole 17 = .ok (.iload_n 1, 1) := by decide +kernel
theorem dX6_fromWhole_18 : decode cX6_fromWhole 18 = .ok (.iconst 1, 1) := by decide +kernel
theorem dX6_fromWhole_19 : decode cX6_fromWhole 19 = .ok (.ldc2_w 126, 3) := by decide +kernel
theorem dX6_fromWhole_22 : decode cX6_fromWhole 22 = .ok (.iconst 2, 1) := by decide +kernel
theorem dX6_fromWhole_23 : decode cX6_fromWhole 23 = .ok (.iconst 0, 1) := by decide +kernel
theorem dX6_fromWhole_24 : decode cX6_fromWhole 24 = .ok (.invokevirtual 122, 3) := by decide +kernel
theorem dX6_fromWhole_27 : decode cX6_fromWhole 27 = .ok (.lreturn, 1) := by decide +kernel
theorem dX6_fromWhole_28 : decode cX6_fromWhole 28 = .ok (.lload_n 2, 1) := by decide +kernel
theorem dX6_fromWhole_29 : decode cX6_fromWhole 29 = .ok (.lconst 0, 1) := by decide +kernel
theorem dX6_fromWhole_30 : decode cX6_fromWhole 30 = .ok (.lcmp, 1) := by decide +kernel
theorem dX6_fromWhole_31 : decode cX6_fromWhole 31 = .ok (.ifCond .ge 8, 3) := by decide +kernel
theorem dX6_fromWhole_34 : decode cX6_fromWhole 34 = .ok (.lload_n 2, 1) := by decide +kernel
theorem dX6_fromWhole_35 : decode cX6_fromWhole 35 = .ok (.lneg, 1) := by decide +kernel
theorem dX6_fromWhole_36 : decode cX6_fromWhole 36 = .ok (.goto 4, 3) := by decide +kernel
theorem dX6_fromWhole_39 : decode cX6_fromWhole 39 = .ok (.lload_n 2, 1) := by decide +kernel
theorem dX6_fromWhole_40 : decode cX6_fromWhole 40 = .ok (.lstore 4, 2) := by decide +kernel
theorem dX6_fromWhole_42 : decode cX6_fromWhole 42 = .ok (.lload 4, 2) := by decide +kernel
theorem dX6_fromWhole_44 : decode cX6_fromWhole 44 = .ok (.ldc2_w 128, 3) := by decide +kernel
theorem dX6_fromWhole_47 : decode cX6_fromWhole 47 = .ok (.lcmp, 1) := by decide +kernel
theorem dX6_fromWhole_48 : decode cX6_fromWhole 48 = .ok (.ifCond .ge 26, 3) := by decide +kernel
theorem dX6_fromWhole_51 : decode cX6_fromWhole 51 = .ok (.aload_n 0, 1) := by decide +kernel
theorem dX6_fromWhole_52 : decode cX6_fromWhole 52 = .ok (.iload_n 1, 1) := by decide +kernel
theorem dX6_fromWhole_53 : decode cX6_fromWhole 53 = .ok (.lload_n 2, 1) := by decide +kernel
theorem dX6_fromWhole_54 : decode cX6_fromWhole 54 = .ok (.lconst 0, 1) := by decide +kernel
theorem dX6_fromWhole_55 : decode cX6_fromWhole 55 = .ok (.lcmp, 1) := by decide +kernel
theorem dX6_fromWhole_56 : decode cX6_fromWhole 56 = .ok (.ifCond .ge 7, 3) := by decide +kernel
theorem dX6_fromWhole_59 : decode cX6_fromWhole 59 = .ok (.iconst 1, 1) := by decide +kernel
theorem dX6_fromWhole_60 : decode cX6_fromWhole 60 = .ok (.goto 4, 3) := by decide +kernel
theorem dX6_fromWhole_63 : decode cX6_fromWhole 63 = .ok (.iconst 0, 1) := by decide +kernel
theorem dX6_fromWhole_64 : decode cX6_fromWhole 64 = .ok (.lload 4, 2) := by decide +kernel
theorem dX6_fromWhole_66 : decode cX6_fromWhole 66 = .ok (.iconst 0, 1) := by decide +kernel
theorem dX6_fromWhole_67 : decode cX6_fromWhole 67 = .ok (.iconst 0, 1) := by decide +kernel
theorem dX6_fromWhole_68 : decode cX6_fromWhole 68 = .ok (.invokevirtual 122, 3) := by decide +kernel
theorem dX6_fromWhole_71 : decode cX6_fromWhole 71 = .ok (.goto 30, 3) := by decide +kernel
theorem dX6_fromWhole_74 : decode cX6_fromWhole 74 = .ok (.aload_n 0, 1) := by decide +kernel
theorem dX6_fromWhole_75 : decode cX6_fromWhole 75 = .ok (.iload_n 1, 1) := by decide +kernel
theorem dX6_fromWhole_76 : decode cX6_fromWhole 76 = .ok (.lload_n 2, 1) := by decide +kernel
theorem dX6_fromWhole_77 : decode cX6_fromWhole 77 = .ok (.lconst 0, 1) := by decide +kernel
theorem dX6_fromWhole_78 : decode cX6_fromWhole 78 = .ok (.lcmp, 1) := by decide +kernel
theorem dX6_fromWhole_79 : decode cX6_fromWhole 79 = .ok (.ifCond .ge 7, 3) := by decide +kernel
theorem dX6_fromWhole_82 : decode cX6_fromWhole 82 = .ok (.iconst 1, 1) := by decide +kernel
theorem dX6_fromWhole_83 : decode cX6_fromWhole 83 = .ok (.goto 4, 3) := by decide +kernel
theorem dX6_fromWhole_86 : decode cX6_fromWhole 86 = .ok (.iconst 0, 1) := by decide +kernel
theorem dX6_fromWhole_87 : decode cX6_fromWhole 87 = .ok (.lload 4, 2) := by decide +kernel
theorem dX6_fromWhole_89 : decode cX6_fromWhole 89 = .ok (.iconst 1, 1) := by decide +kernel
theorem dX6_fromWhole_90 : decode cX6_fromWhole 90 = .ok (.lshr, 1) := by decide +kernel
theorem dX6_fromWhole_91 : decode cX6_fromWhole 91 = .ok (.lload 4, 2) := by decide +kernel
theorem dX6_fromWhole_93 : decode cX6_fromWhole 93 = .ok (.lconst 1, 1) := by decide +kernel
theorem dX6_fromWhole_94 : decode cX6_fromWhole 94 = .ok (.land, 1) := by decide +kernel
theorem dX6_fromWhole_95 : decode cX6_fromWhole 95 = .ok (.lor, 1) := by decide +kernel
theorem dX6_fromWhole_96 : decode cX6_fromWhole 96 = .ok (.iconst 1, 1) := by decide +kernel
theorem dX6_fromWhole_97 : decode cX6_fromWhole 97 = .ok (.iconst 0, 1) := by decide +kernel
theorem dX6_fromWhole_98 : decode cX6_fromWhole 98 = .ok (.invokevirtual 122, 3) := by decide +kernel
theorem dX6_fromWhole_101 : decode cX6_fromWhole 101 = .ok (.lreturn, 1) := by decide +kernel
theorem dX6_toWhole_0 : decode cX6_toWhole 0 = .ok (.aload_n 0, 1) := by decide +kernel
theorem dX6_toWhole_1 : decode cX6_toWhole 1 = .ok (.iconst 0, 1) := by decide +kernel
theorem dX6_toWhole_2 : decode cX6_toWhole 2 = .ok (.lload_n 2, 1) := by decide +kernel
theorem dX6_toWhole_3 : decode cX6_toWhole 3 = .ok (.iload_n 1, 1) := by decide +kernel
theorem dX6_toWhole_4 : decode cX6_toWhole 4 = .ok (.invokevirtual 111, 3) := by decide +kernel
theorem dX6_toWhole_7 : decode cX6_toWhole 7 = .ok (.iload 4, 2) := by decide +kernel
theorem dX6_toWhole_9 : decode cX6_toWhole 9 = .ok (.ifCond .eq 9, 3) := by decide +kernel
theorem dX6_toWhole_12 : decode cX6_toWhole 12 = .ok (.ldc2_w 92, 3) := by decide +kernel
theorem dX6_toWhole_15 : decode cX6_toWhole 15 = .ok (.goto 6, 3) := by decide +kernel
theorem dX6_toWhole_18 : decode cX6_toWhole 18 = .ok (.ldc2_w 94, 3) := by decide +kernel
theorem dX6_toWhole_21 : decode cX6_toWhole 21 = .ok (.lstore 5, 2) := by decide +kernel
theorem dX6_toWhole_23 : decode cX6_toWhole 23 = .ok (.aload_n 0, 1) := by decide +kernel
theorem dX6_toWhole_24 : decode cX6_toWhole 24 = .ok (.getfield 64, 3) := by decide +kernel
theorem dX6_toWhole_27 : decode cX6_toWhole 27 = .ok (.iconst 0, 1) := by decide +kernel
theorem dX6_toWhole_28 : decode cX6_toWhole 28 = .ok (.iaload, 1) := by decide +kernel
theorem dX6_toWhole_29 : decode cX6_toWhole 29 = .ok (.ifCond .eq 13, 3) := by decide +kernel
theorem dX6_toWhole_32 : decode cX6_toWhole 32 = .ok (.aload_n 0, 1) := by decide +kernel
theorem dX6_toWhole_33 : decode cX6_toWhole 33 = .ok (.getfield 64, 3) := by decide +kernel
theorem dX6_toWhole_36 : decode cX6_toWhole 36 = .ok (.iconst 0, 1) := by decide +kernel
theorem dX6_toWhole_37 : decode cX6_toWhole 37 = .ok (.iaload, 1) := by decide +kernel
theorem dX6_toWhole_38 : decode cX6_toWhole 38 = .ok (.iconst 3, 1) := by decide +kernel
theorem dX6_toWhole_39 : decode cX6_toWhole 39 = .ok (.if_icmp .ne 5, 3) := by decide +kernel
theorem dX6_toWhole_42 : decode cX6_toWhole 42 = .ok (.lconst 0, 1) := by decide +kernel
theorem dX6_toWhole_43 : decode cX6_toWhole 43 = .ok (.lreturn, 1) := by decide +kernel
theorem dX6_toWhole_44 : decode cX6_toWhole 44 = .ok (.aload_n 0, 1) := by decide +kernel
theorem dX6_toWhole_45 : decode cX6_toWhole 45 = .ok (.getfield 64, 3) := by decide +kernel
theorem dX6_toWhole_48 : decode cX6_toWhole 48 = .ok (.iconst 0, 1) := by decide +kernel
theorem dX6_toWhole_49 : decode cX6_toWhole 49 = .ok (.iaload, 1) := by decide +kernel
theorem dX6_toWhole_50 : decode cX6_toWhole 50 = .ok (.iconst 2, 1) := by decide +kernel
theorem dX6_toWhole_51 : decode cX6_toWhole 51 = .ok (.if_icmp .eq 25, 3) := by decide +kernel
theorem dX6_toWhole_54 : decode cX6_toWhole 54 = .ok (.aload_n 0, 1) := by decide +kernel
theorem dX6_toWhole_55 : decode cX6_toWhole 55 = .ok (.aload_n 0, 1) := by decide +kernel
theorem dX6_toWhole_56 : decode cX6_toWhole 56 = .ok (.getfield 73, 3) := by decide +kernel
theorem dX6_toWhole_59 : decode cX6_toWhole 59 = .ok (.iconst 0, 1) := by decide +kernel
theorem dX6_toWhole_60 : decode cX6_toWhole 60 = .ok (.laload, 1) := by decide +kernel
theorem dX6_toWhole_61 : decode cX6_toWhole 61 = .ok (.invokevirtual 99, 3) := by decide +kernel
theorem dX6_toWhole_64 : decode cX6_toWhole 64 = .ok (.aload_n 0, 1) := by decide +kernel
theorem dX6_toWhole_65 : decode cX6_toWhole 65 = .ok (.getfield 67, 3) := by decide +kernel
theorem dX6_toWhole_68 : decode cX6_toWhole 68 = .ok (.iconst 0, 1) := by decide +kernel
theorem dX6_toWhole_69 : decode cX6_toWhole 69 = .ok (.iaload, 1) := by decide +kernel
theorem dX6_toWhole_70 : decode cX6_toWhole 70 = .ok (.iadd, 1) := by decide +kernel
theorem dX6_toWhole_71 : decode cX6_toWhole 71 = .ok (.bipush 63, 2) := by decide +kernel
theorem dX6_toWhole_73 : decode cX6_toWhole 73 = .ok (.if_icmp .le 7, 3) := by decide +kernel
theorem dX6_toWhole_76 : decode cX6_toWhole 76 = .ok (.iconst 1, 1) := by decide +kernel
theorem dX6_toWhole_77 : decode cX6_toWhole 77 = .ok (.goto 4, 3) := by decide +kernel
theorem dX6_toWhole_80 : decode cX6_toWhole 80 = .ok (.iconst 0, 1) := by decide +kernel
theorem dX6_toWhole_81 : decode cX6_toWhole 81 = .ok (.istore 7, 2) := by decide +kernel
theorem dX6_toWhole_83 : decode cX6_toWhole 83 = .ok (.iload 7, 2) := by decide +kernel
theorem dX6_toWhole_85 : decode cX6_toWhole 85 = .ok (.ifCond .eq 8, 3) := by decide +kernel
theorem dX6_toWhole_88 : decode cX6_toWhole 88 = .ok (.lload 5, 2) := by decide +kernel
theorem dX6_toWhole_90 : decode cX6_toWhole 90 = .ok (.goto 57, 3) := by decide +kernel
theorem dX6_toWhole_93 : decode cX6_toWhole 93 = .ok (.aload_n 0, 1) := by decide +kernel
theorem dX6_toWhole_94 : decode cX6_toWhole 94 = .ok (.getfield 67, 3) := by decide +kernel
theorem dX6_toWhole_97 : decode cX6_toWhole 97 = .ok (.iconst 0, 1) := by decide +kernel
theorem dX6_toWhole_98 : decode cX6_toWhole 98 = .ok (.iaload, 1) := by decide +kernel
theorem dX6_toWhole_99 : decode cX6_toWhole 99 = .ok (.ifCond .lt 19, 3) := by decide +kernel
theorem dX6_toWhole_102 : decode cX6_toWhole 102 = .ok (.aload_n 0, 1) := by decide +kernel
theorem dX6_toWhole_103 : decode cX6_toWhole 103 = .ok (.getfield 73, 3) := by decide +kernel
theorem dX6_toWhole_106 : decode cX6_toWhole 106 = .ok (.iconst 0, 1) := by decide +kernel
theorem dX6_toWhole_107 : decode cX6_toWhole 107 = .ok (.laload, 1) := by decide +kernel
theorem dX6_toWhole_108 : decode cX6_toWhole 108 = .ok (.aload_n 0, 1) := by decide +kernel
theorem dX6_toWhole_109 : decode cX6_toWhole 109 = .ok (.getfield 67, 3) := by decide +kernel
theorem dX6_toWhole_112 : decode cX6_toWhole 112 = .ok (.iconst 0, 1) := by decide +kernel
theorem dX6_toWhole_113 : decode cX6_toWhole 113 = .ok (.iaload, 1) := by decide +kernel
theorem dX6_toWhole_114 : decode cX6_toWhole 114 = .ok (.lshl, 1) := by decide +kernel
theorem dX6_toWhole_115 : decode cX6_toWhole 115 = .ok (.goto 32, 3) := by decide +kernel
theorem dX6_toWhole_118 : decode cX6_toWhole 118 = .ok (.aload_n 0, 1) := by decide +kernel
theorem dX6_toWhole_119 : decode cX6_toWhole 119 = .ok (.getfield 67, 3) := by decide +kernel
theorem dX6_toWhole_122 : decode cX6_toWhole 122 = .ok (.iconst 0, 1) := by decide +kernel
theorem dX6_toWhole_123 : decode cX6_toWhole 123 = .ok (.iaload, 1) := by decide +kernel
theorem dX6_toWhole_124 : decode cX6_toWhole 124 = .ok (.bipush (-63), 2) := by decide +kernel
theorem dX6_toWhole_126 : decode cX6_toWhole 126 = .ok (.if_icmp .ge 7, 3) := by decide +kernel
theorem dX6_toWhole_129 : decode cX6_toWhole 129 = .ok (.lconst 0, 1) := by decide +kernel
theorem dX6_toWhole_130 : decode cX6_toWhole 130 = .ok (.goto 17, 3) := by decide +kernel
theorem dX6_toWhole_133 : decode cX6_toWhole 133 = .ok (.aload_n 0, 1) := by decide +kernel
theorem dX6_toWhole_134 : decode cX6_toWhole 134 = .ok (.getfield 73, 3) := by decide +kernel
theorem dX6_toWhole_137 : decode cX6_toWhole 137 = .ok (.iconst 0, 1) := by decide +kernel
theorem dX6_toWhole_138 : decode cX6_toWhole 138 = .ok (.laload, 1) := by decide +kernel
theorem dX6_toWhole_139 : decode cX6_toWhole 139 = .ok (.aload_n 0, 1) := by decide +kernel
theorem dX6_toWhole_140 : decode cX6_toWhole 140 = .ok (.getfield 67, 3) := by decide +kernel
theorem dX6_toWhole_143 : decode cX6_toWhole 143 = .ok (.iconst 0, 1) := by decide +kernel
theorem dX6_toWhole_144 : decode cX6_toWhole 144 = .ok (.iaload, 1) := by decide +kernel
theorem dX6_toWhole_145 : decode cX6_toWhole 145 = .ok (.ineg, 1) := by decide +kernel
theorem dX6_toWhole_146 : decode cX6_toWhole 146 = .ok (.lshr, 1) := by decide +kernel
theorem dX6_toWhole_147 : decode cX6_toWhole 147 = .ok (.lstore 8, 2) := by decide +kernel
theorem dX6_toWhole_149 : decode cX6_toWhole 149 = .ok (.iload 7, 2) := by decide +kernel
theorem dX6_toWhole_151 : decode cX6_toWhole 151 = .ok (.ifCond .ne 11, 3) := by decide +kernel
theorem dX6_toWhole_154 : decode cX6_toWhole 154 = .ok (.lload 8, 2) := by decide +kernel
theorem dX6_toWhole_156 : decode cX6_toWhole 156 = .ok (.lload 5, 2) := by decide +kernel
theorem dX6_toWhole_158 : decode cX6_toWhole 158 = .ok (.lcmp, 1) := by decide +kernel
theorem dX6_toWhole_159 : decode cX6_toWhole 159 = .ok (.ifCond .le 23, 3) := by decide +kernel
theorem dX6_toWhole_162 : decode cX6_toWhole 162 = .ok (.aload_n 0, 1) := by decide +kernel
theorem dX6_toWhole_163 : decode cX6_toWhole 163 = .ok (.getfield 70, 3) := by decide +kernel
theorem dX6_toWhole_166 : decode cX6_toWhole 166 = .ok (.iconst 0, 1) := by decide +kernel
theorem dX6_toWhole_167 : decode cX6_toWhole 167 = .ok (.baload, 1) := by decide +kernel
theorem dX6_toWhole_168 : decode cX6_toWhole 168 = .ok (.ifCond .eq 11, 3) := by decide +kernel
theorem dX6_toWhole_171 : decode cX6_toWhole 171 = .ok (.lload 5, 2) := by decide +kernel
theorem dX6_toWhole_173 : decode cX6_toWhole 173 = .ok (.lneg, 1) := by decide +kernel
theorem dX6_toWhole_174 : decode cX6_toWhole 174 = .ok (.lconst 1, 1) := by decide +kernel
theorem dX6_toWhole_175 : decode cX6_toWhole 175 = .ok (.lsub, 1) := by decide +kernel
theorem dX6_toWhole_176 : decode cX6_toWhole 176 = .ok (.goto 5, 3) := by decide +kernel
theorem dX6_toWhole_179 : decode cX6_toWhole 179 = .ok (.lload 5, 2) := by decide +kernel
theorem dX6_toWhole_181 : decode cX6_toWhole 181 = .ok (.lreturn, 1) := by decide +kernel
theorem dX6_toWhole_182 : decode cX6_toWhole 182 = .ok (.aload_n 0, 1) := by decide +kernel
theorem dX6_toWhole_183 : decode cX6_toWhole 183 = .ok (.getfield 70, 3) := by decide +kernel
theorem dX6_toWhole_186 : decode cX6_toWhole 186 = .ok (.iconst 0, 1) := by decide +kernel
theorem dX6_toWhole_187 : decode cX6_toWhole 187 = .ok (.baload, 1) := by decide +kernel
theorem dX6_toWhole_188 : decode cX6_toWhole 188 = .ok (.ifCond .eq 9, 3) := by decide +kernel
theorem dX6_toWhole_191 : decode cX6_toWhole 191 = .ok (.lload 8, 2) := by decide +kernel
theorem dX6_toWhole_193 : decode cX6_toWhole 193 = .ok (.lneg, 1) := by decide +kernel
theorem dX6_toWhole_194 : decode cX6_toWhole 194 = .ok (.goto 5, 3) := by decide +kernel
theorem dX6_toWhole_197 : decode cX6_toWhole 197 = .ok (.lload 8, 2) := by decide +kernel
theorem dX6_toWhole_199 : decode cX6_toWhole 199 = .ok (.lreturn, 1) := by decide +kernel
theorem dX6_otherFormat_0 : decode cX6_otherFormat 0 = .ok (.aload_n 0, 1) := by decide +kernel
theorem dX6_otherFormat_1 : decode cX6_otherFormat 1 = .ok (.iconst 0, 1) := by decide +kernel
theorem dX6_otherFormat_2 : decode cX6_otherFormat 2 = .ok (.lload_n 2, 1) := by decide +kernel
theorem dX6_otherFormat_3 : decode cX6_otherFormat 3 = .ok (.iload_n 1, 1) := by decide +kernel
theorem dX6_otherFormat_4 : decode cX6_otherFormat 4 = .ok (.invokevirtual 111, 3) := by decide +kernel
theorem dX6_otherFormat_7 : decode cX6_otherFormat 7 = .ok (.aload_n 0, 1) := by decide +kernel
theorem dX6_otherFormat_8 : decode cX6_otherFormat 8 = .ok (.getfield 64, 3) := by decide +kernel
theorem dX6_otherFormat_11 : decode cX6_otherFormat 11 = .ok (.iconst 0, 1) := by decide +kernel
theorem dX6_otherFormat_12 : decode cX6_otherFormat 12 = .ok (.iaload, 1) := by decide +kernel
theorem dX6_otherFormat_13 : decode cX6_otherFormat 13 = .ok (.iconst 3, 1) := by decide +kernel
theorem dX6_otherFormat_14 : decode cX6_otherFormat 14 = .ok (.if_icmp .ne 17, 3) := by decide +kernel
theorem dX6_otherFormat_17 : decode cX6_otherFormat 17 = .ok (.aload_n 0, 1) := by decide +kernel
theorem dX6_otherFormat_18 : decode cX6_otherFormat 18 = .ok (.iload_n 1, 1) := by decide +kernel
theorem dX6_otherFormat_19 : decode cX6_otherFormat 19 = .ok (.ifCond .ne 7, 3) := by decide +kernel
theorem dX6_otherFormat_22 : decode cX6_otherFormat 22 = .ok (.iconst 1, 1) := by decide +kernel
theorem dX6_otherFormat_23 : decode cX6_otherFormat 23 = .ok (.goto 4, 3) := by decide +kernel
theorem dX6_otherFormat_26 : decode cX6_otherFormat 26 = .ok (.iconst 0, 1) := by decide +kernel
theorem dX6_otherFormat_27 : decode cX6_otherFormat 27 = .ok (.invokevirtual 115, 3) := by decide +kernel
theorem dX6_otherFormat_30 : decode cX6_otherFormat 30 = .ok (.lreturn, 1) := by decide +kernel
theorem dX6_otherFormat_31 : decode cX6_otherFormat 31 = .ok (.aload_n 0, 1) := by decide +kernel
theorem dX6_otherFormat_32 : decode cX6_otherFormat 32 = .ok (.getfield 64, 3) := by decide +kernel
theorem dX6_otherFormat_35 : decode cX6_otherFormat 35 = .ok (.iconst 0, 1) := by decide +kernel
theorem dX6_otherFormat_36 : decode cX6_otherFormat 36 = .ok (.iaload, 1) := by decide +kernel
theorem dX6_otherFormat_37 : decode cX6_otherFormat 37 = .ok (.iconst 1, 1) := by decide +kernel
theorem dX6_otherFormat_38 : decode cX6_otherFormat 38 = .ok (.if_icmp .eq 49, 3) := by decide +kernel
theorem dX6_otherFormat_41 : decode cX6_otherFormat 41 = .ok (.aload_n 0, 1) := by decide +kernel
theorem dX6_otherFormat_42 : decode cX6_otherFormat 42 = .ok (.iload_n 1, 1) := by decide +kernel
theorem dX6_otherFormat_43 : decode cX6_otherFormat 43 = .ok (.ifCond .ne 7, 3) := by decide +kernel
theorem dX6_otherFormat_46 : decode cX6_otherFormat 46 = .ok (.iconst 1, 1) := by decide +kernel
theorem dX6_otherFormat_47 : decode cX6_otherFormat 47 = .ok (.goto 4, 3) := by decide +kernel
theorem dX6_otherFormat_50 : decode cX6_otherFormat 50 = .ok (.iconst 0, 1) := by decide +kernel
theorem dX6_otherFormat_51 : decode cX6_otherFormat 51 = .ok (.aload_n 0, 1) := by decide +kernel
theorem dX6_otherFormat_52 : decode cX6_otherFormat 52 = .ok (.getfield 70, 3) := by decide +kernel
theorem dX6_otherFormat_55 : decode cX6_otherFormat 55 = .ok (.iconst 0, 1) := by decide +kernel
theorem dX6_otherFormat_56 : decode cX6_otherFormat 56 = .ok (.baload, 1) := by decide +kernel
theorem dX6_otherFormat_57 : decode cX6_otherFormat 57 = .ok (.aload_n 0, 1) := by decide +kernel
theorem dX6_otherFormat_58 : decode cX6_otherFormat 58 = .ok (.getfield 64, 3) := by decide +kernel
theorem dX6_otherFormat_61 : decode cX6_otherFormat 61 = .ok (.iconst 0, 1) := by decide +kernel
theorem dX6_otherFormat_62 : decode cX6_otherFormat 62 = .ok (.iaload, 1) := by decide +kernel
theorem dX6_otherFormat_63 : decode cX6_otherFormat 63 = .ok (.ifCond .ne 7, 3) := by decide +kernel
theorem dX6_otherFormat_66 : decode cX6_otherFormat 66 = .ok (.lconst 0, 1) := by decide +kernel
theorem dX6_otherFormat_67 : decode cX6_otherFormat 67 = .ok (.goto 16, 3) := by decide +kernel
theorem dX6_otherFormat_70 : decode cX6_otherFormat 70 = .ok (.aload_n 0, 1) := by decide +kernel
theorem dX6_otherFormat_71 : decode cX6_otherFormat 71 = .ok (.iload_n 1, 1) := by decide +kernel
theorem dX6_otherFormat_72 : decode cX6_otherFormat 72 = .ok (.ifCond .ne 7, 3) := by decide +kernel
theorem dX6_otherFormat_75 : decode cX6_otherFormat 75 = .ok (.iconst 1, 1) := by decide +kernel
theorem dX6_otherFormat_76 : decode cX6_otherFormat 76 = .ok (.goto 4, 3) := by decide +kernel
theorem dX6_otherFormat_79 : decode cX6_otherFormat 79 = .ok (.iconst 0, 1) := by decide +kernel
theorem dX6_otherFormat_80 : decode cX6_otherFormat 80 = .ok (.invokevirtual 103, 3) := by decide +kernel
theorem dX6_otherFormat_83 : decode cX6_otherFormat 83 = .ok (.invokevirtual 107, 3) := by decide +kernel
theorem dX6_otherFormat_86 : decode cX6_otherFormat 86 = .ok (.lreturn, 1) := by decide +kernel
theorem dX6_otherFormat_87 : decode cX6_otherFormat 87 = .ok (.aload_n 0, 1) := by decide +kernel
theorem dX6_otherFormat_88 : decode cX6_otherFormat 88 = .ok (.iload_n 1, 1) := by decide +kernel
theorem dX6_otherFormat_89 : decode cX6_otherFormat 89 = .ok (.ifCond .ne 7, 3) := by decide +kernel
theorem dX6_otherFormat_92 : decode cX6_otherFormat 92 = .ok (.iconst 1, 1) := by decide +kernel
theorem dX6_otherFormat_93 : decode cX6_otherFormat 93 = .ok (.goto 4, 3) := by decide +kernel
theorem dX6_otherFormat_96 : decode cX6_otherFormat 96 = .ok (.iconst 0, 1) := by decide +kernel
theorem dX6_otherFormat_97 : decode cX6_otherFormat 97 = .ok (.aload_n 0, 1) := by decide +kernel
theorem dX6_otherFormat_98 : decode cX6_otherFormat 98 = .ok (.getfield 70, 3) := by decide +kernel
theorem dX6_otherFormat_101 : decode cX6_otherFormat 101 = .ok (.iconst 0, 1) := by decide +kernel
theorem dX6_otherFormat_102 : decode cX6_otherFormat 102 = .ok (.baload, 1) := by decide +kernel
theorem dX6_otherFormat_103 : decode cX6_otherFormat 103 = .ok (.aload_n 0, 1) := by decide +kernel
theorem dX6_otherFormat_104 : decode cX6_otherFormat 104 = .ok (.getfield 73, 3) := by decide +kernel
theorem dX6_otherFormat_107 : decode cX6_otherFormat 107 = .ok (.iconst 0, 1) := by decide +kernel
theorem dX6_otherFormat_108 : decode cX6_otherFormat 108 = .ok (.laload, 1) := by decide +kernel
theorem dX6_otherFormat_109 : decode cX6_otherFormat 109 = .ok (.aload_n 0, 1) := by decide +kernel
theorem dX6_otherFormat_110 : decode cX6_otherFormat 110 = .ok (.getfield 67, 3) := by decide +kernel
theorem dX6_otherFormat_113 : decode cX6_otherFormat 113 = .ok (.iconst 0, 1) := by decide +kernel
theorem dX6_otherFormat_114 : decode cX6_otherFormat 114 = .ok (.iaload, 1) := by decide +kernel
theorem dX6_otherFormat_115 : decode cX6_otherFormat 115 = .ok (.iconst 0, 1) := by decide +kernel
theorem dX6_otherFormat_116 : decode cX6_otherFormat 116 = .ok (.invokevirtual 122, 3) := by decide +kernel
theorem dX6_otherFormat_119 : decode cX6_otherFormat 119 = .ok (.lreturn, 1) := by decide +kernel
theorem dX6_isNone_0 : decode cX6_isNone 0 = .ok (.aload_n 0, 1) := by decide +kernel
theorem dX6_isNone_1 : decode cX6_isNone 1 = .ok (.iconst 0, 1) := by decide +kernel
theorem dX6_isNone_2 : decode cX6_isNone 2 = .ok (.lload_n 2, 1) := by decide +kernel
theorem dX6_isNone_3 : decode cX6_isNone 3 = .ok (.iload_n 1, 1) := by decide +kernel
theorem dX6_isNone_4 : decode cX6_isNone 4 = .ok (.invokevirtual 111, 3) := by decide +kernel
theorem dX6_isNone_7 : decode cX6_isNone 7 = .ok (.aload_n 0, 1) := by decide +kernel
theorem dX6_isNone_8 : decode cX6_isNone 8 = .ok (.getfield 64, 3) := by decide +kernel
theorem dX6_isNone_11 : decode cX6_isNone 11 = .ok (.iconst 0, 1) := by decide +kernel
theorem dX6_isNone_12 : decode cX6_isNone 12 = .ok (.iaload, 1) := by decide +kernel
theorem dX6_isNone_13 : decode cX6_isNone 13 = .ok (.iconst 3, 1) := by decide +kernel
theorem dX6_isNone_14 : decode cX6_isNone 14 = .ok (.if_icmp .ne 7, 3) := by decide +kernel
theorem dX6_isNone_17 : decode cX6_isNone 17 = .ok (.iconst 1, 1) := by decide +kernel
theorem dX6_isNone_18 : decode cX6_isNone 18 = .ok (.goto 4, 3) := by decide +kernel
theorem dX6_isNone_21 : decode cX6_isNone 21 = .ok (.iconst 0, 1) := by decide +kernel
theorem dX6_isNone_22 : decode cX6_isNone 22 = .ok (.ireturn, 1) := by decide +kernel
theorem dX6_rank_0 : decode cX6_rank 0 = .ok (.iload_n 1, 1) := by decide +kernel
theorem dX6_rank_1 : decode cX6_rank 1 = .ok (.ifCond .eq 11, 3) := by decide +kernel
theorem dX6_rank_4 : decode cX6_rank 4 = .ok (.lload_n 2, 1) := by decide +kernel
theorem dX6_rank_5 : decode cX6_rank 5 = .ok (.ldc2_w 92, 3) := by decide +kernel
theorem dX6_rank_8 : decode cX6_rank 8 = .ok (.land, 1) := by decide +kernel
theorem dX6_rank_9 : decode cX6_rank 9 = .ok (.goto 8, 3) := by decide +kernel
theorem dX6_rank_12 : decode cX6_rank 12 = .ok (.lload_n 2, 1) := by decide +kernel
theorem dX6_rank_13 : decode cX6_rank 13 = .ok (.ldc2_w 94, 3) := by decide +kernel
theorem dX6_rank_16 : decode cX6_rank 16 = .ok (.land, 1) := by decide +kernel
theorem dX6_rank_17 : decode cX6_rank 17 = .ok (.lstore 4, 2) := by decide +kernel
theorem dX6_rank_19 : decode cX6_rank 19 = .ok (.lload_n 2, 1) := by decide +kernel
theorem dX6_rank_20 : decode cX6_rank 20 = .ok (.lconst 0, 1) := by decide +kernel
theorem dX6_rank_21 : decode cX6_rank 21 = .ok (.lcmp, 1) := by decide +kernel
theorem dX6_rank_22 : decode cX6_rank 22 = .ok (.ifCond .ge 12, 3) := by decide +kernel
theorem dX6_rank_25 : decode cX6_rank 25 = .ok (.ldc2_w 130, 3) := by decide +kernel
theorem dX6_rank_28 : decode cX6_rank 28 = .ok (.lload 4, 2) := by decide +kernel
theorem dX6_rank_30 : decode cX6_rank 30 = .ok (.lsub, 1) := by decide +kernel
theorem dX6_rank_31 : decode cX6_rank 31 = .ok (.goto 5, 3) := by decide +kernel
theorem dX6_rank_34 : decode cX6_rank 34 = .ok (.lload 4, 2) := by decide +kernel
theorem dX6_rank_36 : decode cX6_rank 36 = .ok (.lreturn, 1) := by decide +kernel
theorem dX6_compared_0 : decode cX6_compared 0 = .ok (.iload_n 1, 1) := by decide +kernel
theorem dX6_compared_1 : decode cX6_compared 1 = .ok (.iconst 1, 1) := by decide +kernel
theorem dX6_compared_2 : decode cX6_compared 2 = .ok (.if_icmp .ne 27, 3) := by decide +kernel
theorem dX6_compared_5 : decode cX6_compared 5 = .ok (.lload_n 2, 1) := by decide +kernel
theorem dX6_compared_6 : decode cX6_compared 6 = .ok (.lload 4, 2) := by decide +kernel
theorem dX6_compared_8 : decode cX6_compared 8 = .ok (.lcmp, 1) := by decide +kernel
theorem dX6_compared_9 : decode cX6_compared 9 = .ok (.ifCond .ge 7, 3) := by decide +kernel
theorem dX6_compared_12 : decode cX6_compared 12 = .ok (.iconst (-1), 1) := by decide +kernel
theorem dX6_compared_13 : decode cX6_compared 13 = .ok (.goto 15, 3) := by decide +kernel
theorem dX6_compared_16 : decode cX6_compared 16 = .ok (.lload_n 2, 1) := by decide +kernel
theorem dX6_compared_17 : decode cX6_compared 17 = .ok (.lload 4, 2) := by decide +kernel
theorem dX6_compared_19 : decode cX6_compared 19 = .ok (.lcmp, 1) := by decide +kernel
theorem dX6_compared_20 : decode cX6_compared 20 = .ok (.ifCond .le 7, 3) := by decide +kernel
theorem dX6_compared_23 : decode cX6_compared 23 = .ok (.iconst 1, 1) := by decide +kernel
theorem dX6_compared_24 : decode cX6_compared 24 = .ok (.goto 4, 3) := by decide +kernel
theorem dX6_compared_27 : decode cX6_compared 27 = .ok (.iconst 0, 1) := by decide +kernel
theorem dX6_compared_28 : decode cX6_compared 28 = .ok (.ireturn, 1) := by decide +kernel
theorem dX6_compared_29 : decode cX6_compared 29 = .ok (.iload_n 1, 1) := by decide +kernel
theorem dX6_compared_30 : decode cX6_compared 30 = .ok (.iconst 3, 1) := by decide +kernel
theorem dX6_compared_31 : decode cX6_compared 31 = .ok (.if_icmp .ne 7, 3) := by decide +kernel
theorem dX6_compared_34 : decode cX6_compared 34 = .ok (.iconst 1, 1) := by decide +kernel
theorem dX6_compared_35 : decode cX6_compared 35 = .ok (.goto 4, 3) := by decide +kernel
theorem dX6_compared_38 : decode cX6_compared 38 = .ok (.iconst 0, 1) := by decide +kernel
theorem dX6_compared_39 : decode cX6_compared 39 = .ok (.istore 7, 2) := by decide +kernel
theorem dX6_compared_41 : decode cX6_compared 41 = .ok (.aload_n 0, 1) := by decide +kernel
theorem dX6_compared_42 : decode cX6_compared 42 = .ok (.iload 7, 2) := by decide +kernel
theorem dX6_compared_44 : decode cX6_compared 44 = .ok (.lload_n 2, 1) := by decide +kernel
theorem dX6_compared_45 : decode cX6_compared 45 = .ok (.invokevirtual 132, 3) := by decide +kernel
theorem dX6_compared_48 : decode cX6_compared 48 = .ok (.ifCond .ne 14, 3) := by decide +kernel
theorem dX6_compared_51 : decode cX6_compared 51 = .ok (.aload_n 0, 1) := by decide +kernel
theorem dX6_compared_52 : decode cX6_compared 52 = .ok (.iload 7, 2) := by decide +kernel
theorem dX6_compared_54 : decode cX6_compared 54 = .ok (.lload 4, 2) := by decide +kernel
theorem dX6_compared_56 : decode cX6_compared 56 = .ok (.invokevirtual 132, 3) := by decide +kernel
theorem dX6_compared_59 : decode cX6_compared 59 = .ok (.ifCond .eq 6, 3) := by decide +kernel
theorem dX6_compared_62 : decode cX6_compared 62 = .ok (.iload 6, 2) := by decide +kernel
theorem dX6_compared_64 : decode cX6_compared 64 = .ok (.ireturn, 1) := by decide +kernel
theorem dX6_compared_65 : decode cX6_compared 65 = .ok (.aload_n 0, 1) := by decide +kernel
theorem dX6_compared_66 : decode cX6_compared 66 = .ok (.iload 7, 2) := by decide +kernel
theorem dX6_compared_68 : decode cX6_compared 68 = .ok (.lload_n 2, 1) := by decide +kernel
theorem dX6_compared_69 : decode cX6_compared 69 = .ok (.invokevirtual 136, 3) := by decide +kernel
theorem dX6_compared_72 : decode cX6_compared 72 = .ok (.lstore 8, 2) := by decide +kernel
theorem dX6_compared_74 : decode cX6_compared 74 = .ok (.aload_n 0, 1) := by decide +kernel
theorem dX6_compared_75 : decode cX6_compared 75 = .ok (.iload 7, 2) := by decide +kernel
theorem dX6_compared_77 : decode cX6_compared 77 = .ok (.lload 4, 2) := by decide +kernel
theorem dX6_compared_79 : decode cX6_compared 79 = .ok (.invokevirtual 136, 3) := by decide +kernel
theorem dX6_compared_82 : decode cX6_compared 82 = .ok (.lstore 10, 2) := by decide +kernel
theorem dX6_compared_84 : decode cX6_compared 84 = .ok (.lload 8, 2) := by decide +kernel
theorem dX6_compared_86 : decode cX6_compared 86 = .ok (.ldc2_w 130, 3) := by decide +kernel
theorem dX6_compared_89 : decode cX6_compared 89 = .ok (.lcmp, 1) := by decide +kernel
theorem dX6_compared_90 : decode cX6_compared 90 = .ok (.ifCond .ne 6, 3) := by decide +kernel
theorem dX6_compared_93 : decode cX6_compared 93 = .ok (.lconst 0, 1) := by decide +kernel
theorem dX6_compared_94 : decode cX6_compared 94 = .ok (.lstore 8, 2) := by decide +kernel
theorem dX6_compared_96 : decode cX6_compared 96 = .ok (.lload 10, 2) := by decide +kernel
theorem dX6_compared_98 : decode cX6_compared 98 = .ok (.ldc2_w 130, 3) := by decide +kernel
theorem dX6_compared_101 : decode cX6_compared 101 = .ok (.lcmp, 1) := by decide +kernel
theorem dX6_compared_102 : decode cX6_compared 102 = .ok (.ifCond .ne 6, 3) := by decide +kernel
theorem dX6_compared_105 : decode cX6_compared 105 = .ok (.lconst 0, 1) := by decide +kernel
theorem dX6_compared_106 : decode cX6_compared 106 = .ok (.lstore 10, 2) := by decide +kernel
theorem dX6_compared_108 : decode cX6_compared 108 = .ok (.lload 8, 2) := by decide +kernel
theorem dX6_compared_110 : decode cX6_compared 110 = .ok (.lload 10, 2) := by decide +kernel
theorem dX6_compared_112 : decode cX6_compared 112 = .ok (.lcmp, 1) := by decide +kernel
theorem dX6_compared_113 : decode cX6_compared 113 = .ok (.ifCond .ge 7, 3) := by decide +kernel
theorem dX6_compared_116 : decode cX6_compared 116 = .ok (.iconst (-1), 1) := by decide +kernel
theorem dX6_compared_117 : decode cX6_compared 117 = .ok (.goto 16, 3) := by decide +kernel
theorem dX6_compared_120 : decode cX6_compared 120 = .ok (.lload 8, 2) := by decide +kernel
theorem dX6_compared_122 : decode cX6_compared 122 = .ok (.lload 10, 2) := by decide +kernel
theorem dX6_compared_124 : decode cX6_compared 124 = .ok (.lcmp, 1) := by decide +kernel
theorem dX6_compared_125 : decode cX6_compared 125 = .ok (.ifCond .le 7, 3) := by decide +kernel
theorem dX6_compared_128 : decode cX6_compared 128 = .ok (.iconst 1, 1) := by decide +kernel
theorem dX6_compared_129 : decode cX6_compared 129 = .ok (.goto 4, 3) := by decide +kernel
theorem dX6_compared_132 : decode cX6_compared 132 = .ok (.iconst 0, 1) := by decide +kernel
theorem dX6_compared_133 : decode cX6_compared 133 = .ok (.ireturn, 1) := by decide +kernel
theorem dX6_clean_0 : decode cX6_clean 0 = .ok (.iload_n 1, 1) := by decide +kernel
theorem dX6_clean_1 : decode cX6_clean 1 = .ok (.ifCond .eq 8, 3) := by decide +kernel
theorem dX6_clean_4 : decode cX6_clean 4 = .ok (.iload_n 1, 1) := by decide +kernel
theorem dX6_clean_5 : decode cX6_clean 5 = .ok (.iconst 2, 1) := by decide +kernel
theorem dX6_clean_6 : decode cX6_clean 6 = .ok (.if_icmp .ne 9, 3) := by decide +kernel
theorem dX6_clean_9 : decode cX6_clean 9 = .ok (.lload_n 2, 1) := by decide +kernel
theorem dX6_clean_10 : decode cX6_clean 10 = .ok (.l2i, 1) := by decide +kernel
theorem dX6_clean_11 : decode cX6_clean 11 = .ok (.i2l, 1) := by decide +kernel
theorem dX6_clean_12 : decode cX6_clean 12 = .ok (.goto 4, 3) := by decide +kernel
theorem dX6_clean_15 : decode cX6_clean 15 = .ok (.lload_n 2, 1) := by decide +kernel
theorem dX6_clean_16 : decode cX6_clean 16 = .ok (.lstore 4, 2) := by decide +kernel
theorem dX6_clean_18 : decode cX6_clean 18 = .ok (.iload_n 1, 1) := by decide +kernel
theorem dX6_clean_19 : decode cX6_clean 19 = .ok (.iconst 1, 1) := by decide +kernel
theorem dX6_clean_20 : decode cX6_clean 20 = .ok (.if_icmp .le 39, 3) := by decide +kernel
theorem dX6_clean_23 : decode cX6_clean 23 = .ok (.aload_n 0, 1) := by decide +kernel
theorem dX6_clean_24 : decode cX6_clean 24 = .ok (.iload_n 1, 1) := by decide +kernel
theorem dX6_clean_25 : decode cX6_clean 25 = .ok (.iconst 3, 1) := by decide +kernel
theorem dX6_clean_26 : decode cX6_clean 26 = .ok (.if_icmp .ne 7, 3) := by decide +kernel
theorem dX6_clean_29 : decode cX6_clean 29 = .ok (.iconst 1, 1) := by decide +kernel
theorem dX6_clean_30 : decode cX6_clean 30 = .ok (.goto 4, 3) := by decide +kernel
theorem dX6_clean_33 : decode cX6_clean 33 = .ok (.iconst 0, 1) := by decide +kernel
theorem dX6_clean_34 : decode cX6_clean 34 = .ok (.lload 4, 2) := by decide +kernel
theorem dX6_clean_36 : decode cX6_clean 36 = .ok (.invokevirtual 132, 3) := by decide +kernel
theorem dX6_clean_39 : decode cX6_clean 39 = .ok (.ifCond .eq 20, 3) := by decide +kernel
theorem dX6_clean_42 : decode cX6_clean 42 = .ok (.aload_n 0, 1) := by decide +kernel
theorem dX6_clean_43 : decode cX6_clean 43 = .ok (.iload_n 1, 1) := by decide +kernel
theorem dX6_clean_44 : decode cX6_clean 44 = .ok (.iconst 3, 1) := by decide +kernel
theorem dX6_clean_45 : decode cX6_clean 45 = .ok (.if_icmp .ne 7, 3) := by decide +kernel
theorem dX6_clean_48 : decode cX6_clean 48 = .ok (.iconst 1, 1) := by decide +kernel
theorem dX6_clean_49 : decode cX6_clean 49 = .ok (.goto 4, 3) := by decide +kernel
theorem dX6_clean_52 : decode cX6_clean 52 = .ok (.iconst 0, 1) := by decide +kernel
theorem dX6_clean_53 : decode cX6_clean 53 = .ok (.invokevirtual 115, 3) := by decide +kernel
theorem dX6_clean_56 : decode cX6_clean 56 = .ok (.goto 5, 3) := by decide +kernel
theorem dX6_clean_59 : decode cX6_clean 59 = .ok (.lload 4, 2) := by decide +kernel
theorem dX6_clean_61 : decode cX6_clean 61 = .ok (.lreturn, 1) := by decide +kernel
theorem dX6_put_0 : decode cX6_put 0 = .ok (.aload_n 0, 1) := by decide +kernel
theorem dX6_put_1 : decode cX6_put 1 = .ok (.getfield 16, 3) := by decide +kernel
theorem dX6_put_4 : decode cX6_put 4 = .ok (.iload_n 1, 1) := by decide +kernel
theorem dX6_put_5 : decode cX6_put 5 = .ok (.lload_n 2, 1) := by decide +kernel
theorem dX6_put_6 : decode cX6_put 6 = .ok (.lastore, 1) := by decide +kernel
theorem dX6_put_7 : decode cX6_put 7 = .ok (.aload_n 0, 1) := by decide +kernel
theorem dX6_put_8 : decode cX6_put 8 = .ok (.getfield 13, 3) := by decide +kernel
theorem dX6_put_11 : decode cX6_put 11 = .ok (.iload_n 1, 1) := by decide +kernel
theorem dX6_put_12 : decode cX6_put 12 = .ok (.iload 4, 2) := by decide +kernel
theorem dX6_put_14 : decode cX6_put 14 = .ok (.iastore, 1) := by decide +kernel
theorem dX6_put_15 : decode cX6_put 15 = .ok (.aload_n 0, 1) := by decide +kernel
theorem dX6_put_16 : decode cX6_put 16 = .ok (.getfield 20, 3) := by decide +kernel
theorem dX6_put_19 : decode cX6_put 19 = .ok (.iload_n 1, 1) := by decide +kernel
theorem dX6_put_20 : decode cX6_put 20 = .ok (.iload 4, 2) := by decide +kernel
theorem dX6_put_22 : decode cX6_put 22 = .ok (.ifCond .eq 8, 3) := by decide +kernel
theorem dX6_put_25 : decode cX6_put 25 = .ok (.iload 5, 2) := by decide +kernel
theorem dX6_put_27 : decode cX6_put 27 = .ok (.ifCond .eq 7, 3) := by decide +kernel
theorem dX6_put_30 : decode cX6_put 30 = .ok (.iconst 1, 1) := by decide +kernel
theorem dX6_put_31 : decode cX6_put 31 = .ok (.goto 4, 3) := by decide +kernel
theorem dX6_put_34 : decode cX6_put 34 = .ok (.iconst 0, 1) := by decide +kernel
theorem dX6_put_35 : decode cX6_put 35 = .ok (.bastore, 1) := by decide +kernel
theorem dX6_put_36 : decode cX6_put 36 = .ok (.return_, 1) := by decide +kernel
theorem dX6_fix_0 : decode cX6_fix 0 = .ok (.aload_n 0, 1) := by decide +kernel
theorem dX6_fix_1 : decode cX6_fix 1 = .ok (.getfield 13, 3) := by decide +kernel
theorem dX6_fix_4 : decode cX6_fix 4 = .ok (.iload_n 1, 1) := by decide +kernel
theorem dX6_fix_5 : decode cX6_fix 5 = .ok (.iaload, 1) := by decide +kernel
theorem dX6_fix_6 : decode cX6_fix 6 = .ok (.ifCond .ne 4, 3) := by decide +kernel
theorem dX6_fix_9 : decode cX6_fix 9 = .ok (.return_, 1) := by decide +kernel
theorem dX6_fix_10 : decode cX6_fix 10 = .ok (.bipush 15, 2) := by decide +kernel
theorem dX6_fix_12 : decode cX6_fix 12 = .ok (.istore_n 3, 1) := by decide +kernel
theorem dX6_fix_13 : decode cX6_fix 13 = .ok (.iload_n 3, 1) := by decide +kernel
theorem dX6_fix_14 : decode cX6_fix 14 = .ok (.ifCond .le 37, 3) := by decide +kernel
theorem dX6_fix_17 : decode cX6_fix 17 = .ok (.aload_n 0, 1) := by decide +kernel
theorem dX6_fix_18 : decode cX6_fix 18 = .ok (.getfield 33, 3) := by decide +kernel
theorem dX6_fix_21 : decode cX6_fix 21 = .ok (.iload_n 3, 1) := by decide +kernel
theorem dX6_fix_22 : decode cX6_fix 22 = .ok (.aload_n 0, 1) := by decide +kernel
theorem dX6_fix_23 : decode cX6_fix 23 = .ok (.getfield 33, 3) := by decide +kernel
theorem dX6_fix_26 : decode cX6_fix 26 = .ok (.iload_n 3, 1) := by decide +kernel
theorem dX6_fix_27 : decode cX6_fix 27 = .ok (.iconst 1, 1) := by decide +kernel
theorem dX6_fix_28 : decode cX6_fix 28 = .ok (.isub, 1) := by decide +kernel
theorem dX6_fix_29 : decode cX6_fix 29 = .ok (.iaload, 1) := by decide +kernel
theorem dX6_fix_30 : decode cX6_fix 30 = .ok (.iastore, 1) := by decide +kernel
theorem dX6_fix_31 : decode cX6_fix 31 = .ok (.aload_n 0, 1) := by decide +kernel
theorem dX6_fix_32 : decode cX6_fix 32 = .ok (.getfield 36, 3) := by decide +kernel
theorem dX6_fix_35 : decode cX6_fix 35 = .ok (.iload_n 3, 1) := by decide +kernel
theorem dX6_fix_36 : decode cX6_fix 36 = .ok (.aload_n 0, 1) := by decide +kernel
theorem dX6_fix_37 : decode cX6_fix 37 = .ok (.getfield 36, 3) := by decide +kernel
theorem dX6_fix_40 : decode cX6_fix 40 = .ok (.iload_n 3, 1) := by decide +kernel
theorem dX6_fix_41 : decode cX6_fix 41 = .ok (.iconst 1, 1) := by decide +kernel
theorem dX6_fix_42 : decode cX6_fix 42 = .ok (.isub, 1) := by decide +kernel
theorem dX6_fix_43 : decode cX6_fix 43 = .ok (.iaload, 1) := by decide +kernel
theorem dX6_fix_44 : decode cX6_fix 44 = .ok (.iastore, 1) := by decide +kernel
theorem dX6_fix_45 : decode cX6_fix 45 = .ok (.iinc 3 (-1), 3) := by decide +kernel
theorem dX6_fix_48 : decode cX6_fix 48 = .ok (.goto (-35), 3) := by decide +kernel
theorem dX6_fix_51 : decode cX6_fix 51 = .ok (.aload_n 0, 1) := by decide +kernel
theorem dX6_fix_52 : decode cX6_fix 52 = .ok (.getfield 33, 3) := by decide +kernel
theorem dX6_fix_55 : decode cX6_fix 55 = .ok (.iconst 0, 1) := by decide +kernel
theorem dX6_fix_56 : decode cX6_fix 56 = .ok (.iload_n 2, 1) := by decide +kernel
theorem dX6_fix_57 : decode cX6_fix 57 = .ok (.iastore, 1) := by decide +kernel
theorem dX6_fix_58 : decode cX6_fix 58 = .ok (.aload_n 0, 1) := by decide +kernel
theorem dX6_fix_59 : decode cX6_fix 59 = .ok (.getfield 36, 3) := by decide +kernel
theorem dX6_fix_62 : decode cX6_fix 62 = .ok (.iconst 0, 1) := by decide +kernel
theorem dX6_fix_63 : decode cX6_fix 63 = .ok (.aload_n 0, 1) := by decide +kernel
theorem dX6_fix_64 : decode cX6_fix 64 = .ok (.getfield 13, 3) := by decide +kernel
theorem dX6_fix_67 : decode cX6_fix 67 = .ok (.iload_n 1, 1) := by decide +kernel
theorem dX6_fix_68 : decode cX6_fix 68 = .ok (.iaload, 1) := by decide +kernel
theorem dX6_fix_69 : decode cX6_fix 69 = .ok (.iastore, 1) := by decide +kernel
theorem dX6_fix_70 : decode cX6_fix 70 = .ok (.aload_n 0, 1) := by decide +kernel
theorem dX6_fix_71 : decode cX6_fix 71 = .ok (.dup, 1) := by decide +kernel
theorem dX6_fix_72 : decode cX6_fix 72 = .ok (.getfield 48, 3) := by decide +kernel
theorem dX6_fix_75 : decode cX6_fix 75 = .ok (.iconst 1, 1) := by decide +kernel
theorem dX6_fix_76 : decode cX6_fix 76 = .ok (.iadd, 1) := by decide +kernel
theorem dX6_fix_77 : decode cX6_fix 77 = .ok (.putfield 48, 3) := by decide +kernel
theorem dX6_fix_80 : decode cX6_fix 80 = .ok (.aload_n 0, 1) := by decide +kernel
theorem dX6_fix_81 : decode cX6_fix 81 = .ok (.getfield 13, 3) := by decide +kernel
theorem dX6_fix_84 : decode cX6_fix 84 = .ok (.iload_n 1, 1) := by decide +kernel
theorem dX6_fix_85 : decode cX6_fix 85 = .ok (.iconst 0, 1) := by decide +kernel
theorem dX6_fix_86 : decode cX6_fix 86 = .ok (.iastore, 1) := by decide +kernel
theorem dX6_fix_87 : decode cX6_fix 87 = .ok (.aload_n 0, 1) := by decide +kernel
theorem dX6_fix_88 : decode cX6_fix 88 = .ok (.getfield 20, 3) := by decide +kernel
theorem dX6_fix_91 : decode cX6_fix 91 = .ok (.iload_n 1, 1) := by decide +kernel
theorem dX6_fix_92 : decode cX6_fix 92 = .ok (.iconst 1, 1) := by decide +kernel
theorem dX6_fix_93 : decode cX6_fix 93 = .ok (.bastore, 1) := by decide +kernel
theorem dX6_fix_94 : decode cX6_fix 94 = .ok (.return_, 1) := by decide +kernel
theorem dX6_constant_0 : decode cX6_constant 0 = .ok (.aload_n 0, 1) := by decide +kernel
theorem dX6_constant_1 : decode cX6_constant 1 = .ok (.iload_n 1, 1) := by decide +kernel
theorem dX6_constant_2 : decode cX6_constant 2 = .ok (.bipush 8, 2) := by decide +kernel
theorem dX6_constant_4 : decode cX6_constant 4 = .ok (.invokevirtual 140, 3) := by decide +kernel
theorem dX6_constant_7 : decode cX6_constant 7 = .ok (.ifCond .ne 12, 3) := by decide +kernel
theorem dX6_constant_10 : decode cX6_constant 10 = .ok (.aload_n 0, 1) := by decide +kernel
theorem dX6_constant_11 : decode cX6_constant 11 = .ok (.iload_n 2, 1) := by decide +kernel
theorem dX6_constant_12 : decode cX6_constant 12 = .ok (.iconst 4, 1) := by decide +kernel
theorem dX6_constant_13 : decode cX6_constant 13 = .ok (.invokevirtual 140, 3) := by decide +kernel
theorem dX6_constant_16 : decode cX6_constant 16 = .ok (.ifCond .eq 5, 3) := by decide +kernel
theorem dX6_constant_19 : decode cX6_constant 19 = .ok (.iconst (-1), 1) := by decide +kernel
theorem dX6_constant_20 : decode cX6_constant 20 = .ok (.ireturn, 1) := by decide +kernel
theorem dX6_constant_21 : decode cX6_constant 21 = .ok (.aload_n 0, 1) := by decide +kernel
theorem dX6_constant_22 : decode cX6_constant 22 = .ok (.getfield 7, 3) := by decide +kernel
theorem dX6_constant_25 : decode cX6_constant 25 = .ok (.iload_n 1, 1) := by decide +kernel
theorem dX6_constant_26 : decode cX6_constant 26 = .ok (.iload_n 2, 1) := by decide +kernel
theorem dX6_constant_27 : decode cX6_constant 27 = .ok (.iastore, 1) := by decide +kernel
theorem dX6_constant_28 : decode cX6_constant 28 = .ok (.aload_n 0, 1) := by decide +kernel
theorem dX6_constant_29 : decode cX6_constant 29 = .ok (.iload_n 1, 1) := by decide +kernel
theorem dX6_constant_30 : decode cX6_constant 30 = .ok (.aload_n 0, 1) := by decide +kernel
theorem dX6_constant_31 : decode cX6_constant 31 = .ok (.iload_n 2, 1) := by decide +kernel
theorem dX6_constant_32 : decode cX6_constant 32 = .ok (.lload_n 3, 1) := by decide +kernel
theorem dX6_constant_33 : decode cX6_constant 33 = .ok (.invokevirtual 144, 3) := by decide +kernel
theorem dX6_constant_36 : decode cX6_constant 36 = .ok (.iconst 0, 1) := by decide +kernel
theorem dX6_constant_37 : decode cX6_constant 37 = .ok (.iconst 1, 1) := by decide +kernel
theorem dX6_constant_38 : decode cX6_constant 38 = .ok (.invokevirtual 148, 3) := by decide +kernel
theorem dX6_constant_41 : decode cX6_constant 41 = .ok (.iconst 0, 1) := by decide +kernel
theorem dX6_constant_42 : decode cX6_constant 42 = .ok (.ireturn, 1) := by decide +kernel
theorem dX6_input_0 : decode cX6_input 0 = .ok (.aload_n 0, 1) := by decide +kernel
theorem dX6_input_1 : decode cX6_input 1 = .ok (.iload_n 1, 1) := by decide +kernel
theorem dX6_input_2 : decode cX6_input 2 = .ok (.bipush 8, 2) := by decide +kernel
theorem dX6_input_4 : decode cX6_input 4 = .ok (.invokevirtual 140, 3) := by decide +kernel
theorem dX6_input_7 : decode cX6_input 7 = .ok (.ifCond .ne 23, 3) := by decide +kernel
theorem dX6_input_10 : decode cX6_input 10 = .ok (.aload_n 0, 1) := by decide +kernel
theorem dX6_input_11 : decode cX6_input 11 = .ok (.iload_n 2, 1) := by decide +kernel
theorem dX6_input_12 : decode cX6_input 12 = .ok (.iconst 4, 1) := by decide +kernel
theorem dX6_input_13 : decode cX6_input 13 = .ok (.invokevirtual 140, 3) := by decide +kernel
theorem dX6_input_16 : decode cX6_input 16 = .ok (.ifCond .ne 14, 3) := by decide +kernel
theorem dX6_input_19 : decode cX6_input 19 = .ok (.aload_n 0, 1) := by decide +kernel
theorem dX6_input_20 : decode cX6_input 20 = .ok (.iload 5, 2) := by decide +kernel
theorem dX6_input_22 : decode cX6_input 22 = .ok (.bipush 6, 2) := by decide +kernel
theorem dX6_input_24 : decode cX6_input 24 = .ok (.invokevirtual 140, 3) := by decide +kernel
theorem dX6_input_27 : decode cX6_input 27 = .ok (.ifCond .eq 5, 3) := by decide +kernel
theorem dX6_input_30 : decode cX6_input 30 = .ok (.iconst (-1), 1) := by decide +kernel
theorem dX6_input_31 : decode cX6_input 31 = .ok (.ireturn, 1) := by decide +kernel
theorem dX6_input_32 : decode cX6_input 32 = .ok (.aload_n 0, 1) := by decide +kernel
theorem dX6_input_33 : decode cX6_input 33 = .ok (.getfield 7, 3) := by decide +kernel
theorem dX6_input_36 : decode cX6_input 36 = .ok (.iload_n 1, 1) := by decide +kernel
theorem dX6_input_37 : decode cX6_input 37 = .ok (.iload_n 2, 1) := by decide +kernel
theorem dX6_input_38 : decode cX6_input 38 = .ok (.iastore, 1) := by decide +kernel
theorem dX6_input_39 : decode cX6_input 39 = .ok (.aload_n 0, 1) := by decide +kernel
theorem dX6_input_40 : decode cX6_input 40 = .ok (.iload_n 1, 1) := by decide +kernel
theorem dX6_input_41 : decode cX6_input 41 = .ok (.aload_n 0, 1) := by decide +kernel
theorem dX6_input_42 : decode cX6_input 42 = .ok (.iload_n 2, 1) := by decide +kernel
theorem dX6_input_43 : decode cX6_input 43 = .ok (.lload_n 3, 1) := by decide +kernel
theorem dX6_input_44 : decode cX6_input 44 = .ok (.invokevirtual 144, 3) := by decide +kernel
theorem dX6_input_47 : decode cX6_input 47 = .ok (.iconst 1, 1) := by decide +kernel
theorem dX6_input_48 : decode cX6_input 48 = .ok (.iload 5, 2) := by decide +kernel
theorem dX6_input_50 : decode cX6_input 50 = .ok (.ishl, 1) := by decide +kernel
theorem dX6_input_51 : decode cX6_input 51 = .ok (.iconst 1, 1) := by decide +kernel
theorem dX6_input_52 : decode cX6_input 52 = .ok (.invokevirtual 148, 3) := by decide +kernel
theorem dX6_input_55 : decode cX6_input 55 = .ok (.iconst 0, 1) := by decide +kernel
theorem dX6_input_56 : decode cX6_input 56 = .ok (.ireturn, 1) := by decide +kernel
theorem dX6_wanted_0 : decode cX6_wanted 0 = .ok (.iload_n 1, 1) := by decide +kernel
theorem dX6_wanted_1 : decode cX6_wanted 1 = .ok (.iconst 3, 1) := by decide +kernel
theorem dX6_wanted_2 : decode cX6_wanted 2 = .ok (.if_icmp .lt 9, 3) := by decide +kernel
theorem dX6_wanted_5 : decode cX6_wanted 5 = .ok (.iload_n 1, 1) := by decide +kernel
theorem dX6_wanted_6 : decode cX6_wanted 6 = .ok (.bipush 11, 2) := by decide +kernel
theorem dX6_wanted_8 : decode cX6_wanted 8 = .ok (.if_icmp .le 7, 3) := by decide +kernel
theorem dX6_wanted_11 : decode cX6_wanted 11 = .ok (.iconst 0, 1) := by decide +kernel
theorem dX6_wanted_12 : decode cX6_wanted 12 = .ok (.goto 24, 3) := by decide +kernel
theorem dX6_wanted_15 : decode cX6_wanted 15 = .ok (.iload_n 1, 1) := by decide +kernel
theorem dX6_wanted_16 : decode cX6_wanted 16 = .ok (.bipush 6, 2) := by decide +kernel
theorem dX6_wanted_18 : decode cX6_wanted 18 = .ok (.if_icmp .ge 7, 3) := by decide +kernel
theorem dX6_wanted_21 : decode cX6_wanted 21 = .ok (.iconst 1, 1) := by decide +kernel
theorem dX6_wanted_22 : decode cX6_wanted 22 = .ok (.goto 14, 3) := by decide +kernel
theorem dX6_wanted_25 : decode cX6_wanted 25 = .ok (.iload_n 1, 1) := by decide +kernel
theorem dX6_wanted_26 : decode cX6_wanted 26 = .ok (.bipush 9, 2) := by decide +kernel
theorem dX6_wanted_28 : decode cX6_wanted 28 = .ok (.if_icmp .ge 7, 3) := by decide +kernel
theorem dX6_wanted_31 : decode cX6_wanted 31 = .ok (.iconst 2, 1) := by decide +kernel
theorem dX6_wanted_32 : decode cX6_wanted 32 = .ok (.goto 4, 3) := by decide +kernel
theorem dX6_wanted_35 : decode cX6_wanted 35 = .ok (.iconst 3, 1) := by decide +kernel
theorem dX6_wanted_36 : decode cX6_wanted 36 = .ok (.ireturn, 1) := by decide +kernel
theorem dX6_converted_0 : decode cX6_converted 0 = .ok (.iload_n 1, 1) := by decide +kernel
theorem dX6_converted_1 : decode cX6_converted 1 = .ok (.tableswitch 150 1 14 #[71, 78, 85, 71, 78, 89, 97, 105, 112, 120, 128, 135, 140, 145], 71) := by decide +kernel
theorem dX6_converted_72 : decode cX6_converted 72 = .ok (.aload_n 0, 1) := by decide +kernel
theorem dX6_converted_73 : decode cX6_converted 73 = .ok (.iconst 0, 1) := by decide +kernel
theorem dX6_converted_74 : decode cX6_converted 74 = .ok (.lload_n 2, 1) := by decide +kernel
theorem dX6_converted_75 : decode cX6_converted 75 = .ok (.invokevirtual 152, 3) := by decide +kernel
theorem dX6_converted_78 : decode cX6_converted 78 = .ok (.lreturn, 1) := by decide +kernel
theorem dX6_converted_79 : decode cX6_converted 79 = .ok (.aload_n 0, 1) := by decide +kernel
theorem dX6_converted_80 : decode cX6_converted 80 = .ok (.iconst 1, 1) := by decide +kernel
theorem dX6_converted_81 : decode cX6_converted 81 = .ok (.lload_n 2, 1) := by decide +kernel
theorem dX6_converted_82 : decode cX6_converted 82 = .ok (.invokevirtual 152, 3) := by decide +kernel
theorem dX6_converted_85 : decode cX6_converted 85 = .ok (.lreturn, 1) := by decide +kernel
theorem dX6_converted_86 : decode cX6_converted 86 = .ok (.lload_n 2, 1) := by decide +kernel
theorem dX6_converted_87 : decode cX6_converted 87 = .ok (.l2i, 1) := by decide +kernel
theorem dX6_converted_88 : decode cX6_converted 88 = .ok (.i2l, 1) := by decide +kernel
theorem dX6_converted_89 : decode cX6_converted 89 = .ok (.lreturn, 1) := by decide +kernel
theorem dX6_converted_90 : decode cX6_converted 90 = .ok (.aload_n 0, 1) := by decide +kernel
theorem dX6_converted_91 : decode cX6_converted 91 = .ok (.iconst 0, 1) := by decide +kernel
theorem dX6_converted_92 : decode cX6_converted 92 = .ok (.lload_n 2, 1) := by decide +kernel
theorem dX6_converted_93 : decode cX6_converted 93 = .ok (.iconst 0, 1) := by decide +kernel
theorem dX6_converted_94 : decode cX6_converted 94 = .ok (.invokevirtual 155, 3) := by decide +kernel
theorem dX6_converted_97 : decode cX6_converted 97 = .ok (.lreturn, 1) := by decide +kernel
theorem dX6_converted_98 : decode cX6_converted 98 = .ok (.aload_n 0, 1) := by decide +kernel
theorem dX6_converted_99 : decode cX6_converted 99 = .ok (.iconst 0, 1) := by decide +kernel
theorem dX6_converted_100 : decode cX6_converted 100 = .ok (.lload_n 2, 1) := by decide +kernel
theorem dX6_converted_101 : decode cX6_converted 101 = .ok (.iconst 1, 1) := by decide +kernel
theorem dX6_converted_102 : decode cX6_converted 102 = .ok (.invokevirtual 155, 3) := by decide +kernel
theorem dX6_converted_105 : decode cX6_converted 105 = .ok (.lreturn, 1) := by decide +kernel
theorem dX6_converted_106 : decode cX6_converted 106 = .ok (.aload_n 0, 1) := by decide +kernel
theorem dX6_converted_107 : decode cX6_converted 107 = .ok (.iconst 0, 1) := by decide +kernel
theorem dX6_converted_108 : decode cX6_converted 108 = .ok (.lload_n 2, 1) := by decide +kernel
theorem dX6_converted_109 : decode cX6_converted 109 = .ok (.invokevirtual 159, 3) := by decide +kernel
theorem dX6_converted_112 : decode cX6_converted 112 = .ok (.lreturn, 1) := by decide +kernel
theorem dX6_converted_113 : decode cX6_converted 113 = .ok (.aload_n 0, 1) := by decide +kernel
theorem dX6_converted_114 : decode cX6_converted 114 = .ok (.iconst 1, 1) := by decide +kernel
theorem dX6_converted_115 : decode cX6_converted 115 = .ok (.lload_n 2, 1) := by decide +kernel
theorem dX6_converted_116 : decode cX6_converted 116 = .ok (.iconst 0, 1) := by decide +kernel
theorem dX6_converted_117 : decode cX6_converted 117 = .ok (.invokevirtual 155, 3) := by decide +kernel
theorem dX6_converted_120 : decode cX6_converted 120 = .ok (.lreturn, 1) := by decide +kernel
theorem dX6_converted_121 : decode cX6_converted 121 = .ok (.aload_n 0, 1) := by decide +kernel
theorem dX6_converted_122 : decode cX6_converted 122 = .ok (.iconst 1, 1) := by decide +kernel
theorem dX6_converted_123 : decode cX6_converted 123 = .ok (.lload_n 2, 1) := by decide +kernel
theorem dX6_converted_124 : decode cX6_converted 124 = .ok (.iconst 1, 1) := by decide +kernel
theorem dX6_converted_125 : decode cX6_converted 125 = .ok (.invokevirtual 155, 3) := by decide +kernel
theorem dX6_converted_128 : decode cX6_converted 128 = .ok (.lreturn, 1) := by decide +kernel
theorem dX6_converted_129 : decode cX6_converted 129 = .ok (.aload_n 0, 1) := by decide +kernel
theorem dX6_converted_130 : decode cX6_converted 130 = .ok (.iconst 1, 1) := by decide +kernel
theorem dX6_converted_131 : decode cX6_converted 131 = .ok (.lload_n 2, 1) := by decide +kernel
theorem dX6_converted_132 : decode cX6_converted 132 = .ok (.invokevirtual 159, 3) := by decide +kernel
theorem dX6_converted_135 : decode cX6_converted 135 = .ok (.lreturn, 1) := by decide +kernel
theorem dX6_converted_136 : decode cX6_converted 136 = .ok (.lload_n 2, 1) := by decide +kernel
theorem dX6_converted_137 : decode cX6_converted 137 = .ok (.l2i, 1) := by decide +kernel
theorem dX6_converted_138 : decode cX6_converted 138 = .ok (.i2b, 1) := by decide +kernel
theorem dX6_converted_139 : decode cX6_converted 139 = .ok (.i2l, 1) := by decide +kernel
theorem dX6_converted_140 : decode cX6_converted 140 = .ok (.lreturn, 1) := by decide +kernel
theorem dX6_converted_141 : decode cX6_converted 141 = .ok (.lload_n 2, 1) := by decide +kernel
theorem dX6_converted_142 : decode cX6_converted 142 = .ok (.l2i, 1) := by decide +kernel
theorem dX6_converted_143 : decode cX6_converted 143 = .ok (.i2c, 1) := by decide +kernel
theorem dX6_converted_144 : decode cX6_converted 144 = .ok (.i2l, 1) := by decide +kernel
theorem dX6_converted_145 : decode cX6_converted 145 = .ok (.lreturn, 1) := by decide +kernel
theorem dX6_converted_146 : decode cX6_converted 146 = .ok (.lload_n 2, 1) := by decide +kernel
theorem dX6_converted_147 : decode cX6_converted 147 = .ok (.l2i, 1) := by decide +kernel
theorem dX6_converted_148 : decode cX6_converted 148 = .ok (.i2s, 1) := by decide +kernel
theorem dX6_converted_149 : decode cX6_converted 149 = .ok (.i2l, 1) := by decide +kernel
theorem dX6_converted_150 : decode cX6_converted 150 = .ok (.lreturn, 1) := by decide +kernel
theorem dX6_converted_151 : decode cX6_converted 151 = .ok (.lload_n 2, 1) := by decide +kernel
theorem dX6_converted_152 : decode cX6_converted 152 = .ok (.lreturn, 1) := by decide +kernel
theorem dX6_kindAfter_0 : decode cX6_kindAfter 0 = .ok (.iload_n 1, 1) := by decide +kernel
theorem dX6_kindAfter_1 : decode cX6_kindAfter 1 = .ok (.ifCond .eq 15, 3) := by decide +kernel
theorem dX6_kindAfter_4 : decode cX6_kindAfter 4 = .ok (.iload_n 1, 1) := by decide +kernel
theorem dX6_kindAfter_5 : decode cX6_kindAfter 5 = .ok (.bipush 7, 2) := by decide +kernel
theorem dX6_kindAfter_7 : decode cX6_kindAfter 7 = .ok (.if_icmp .eq 9, 3) := by decide +kernel
theorem dX6_kindAfter_10 : decode cX6_kindAfter 10 = .ok (.iload_n 1, 1) := by decide +kernel
theorem dX6_kindAfter_11 : decode cX6_kindAfter 11 = .ok (.bipush 10, 2) := by decide +kernel
theorem dX6_kindAfter_13 : decode cX6_kindAfter 13 = .ok (.if_icmp .ne 5, 3) := by decide +kernel
theorem dX6_kindAfter_16 : decode cX6_kindAfter 16 = .ok (.iconst 1, 1) := by decide +kernel
theorem dX6_kindAfter_17 : decode cX6_kindAfter 17 = .ok (.ireturn, 1) := by decide +kernel
theorem dX6_kindAfter_18 : decode cX6_kindAfter 18 = .ok (.iload_n 1, 1) := by decide +kernel
theorem dX6_kindAfter_19 : decode cX6_kindAfter 19 = .ok (.iconst 1, 1) := by decide +kernel
theorem dX6_kindAfter_20 : decode cX6_kindAfter 20 = .ok (.if_icmp .eq 14, 3) := by decide +kernel
theorem dX6_kindAfter_23 : decode cX6_kindAfter 23 = .ok (.iload_n 1, 1) := by decide +kernel
theorem dX6_kindAfter_24 : decode cX6_kindAfter 24 = .ok (.iconst 4, 1) := by decide +kernel
theorem dX6_kindAfter_25 : decode cX6_kindAfter 25 = .ok (.if_icmp .eq 9, 3) := by decide +kernel
theorem dX6_kindAfter_28 : decode cX6_kindAfter 28 = .ok (.iload_n 1, 1) := by decide +kernel
theorem dX6_kindAfter_29 : decode cX6_kindAfter 29 = .ok (.bipush 11, 2) := by decide +kernel
theorem dX6_kindAfter_31 : decode cX6_kindAfter 31 = .ok (.if_icmp .ne 5, 3) := by decide +kernel
theorem dX6_kindAfter_34 : decode cX6_kindAfter 34 = .ok (.iconst 2, 1) := by decide +kernel
theorem dX6_kindAfter_35 : decode cX6_kindAfter 35 = .ok (.ireturn, 1) := by decide +kernel
theorem dX6_kindAfter_36 : decode cX6_kindAfter 36 = .ok (.iload_n 1, 1) := by decide +kernel
theorem dX6_kindAfter_37 : decode cX6_kindAfter 37 = .ok (.iconst 2, 1) := by decide +kernel
theorem dX6_kindAfter_38 : decode cX6_kindAfter 38 = .ok (.if_icmp .eq 14, 3) := by decide +kernel
theorem dX6_kindAfter_41 : decode cX6_kindAfter 41 = .ok (.iload_n 1, 1) := by decide +kernel
theorem dX6_kindAfter_42 : decode cX6_kindAfter 42 = .ok (.iconst 5, 1) := by decide +kernel
theorem dX6_kindAfter_43 : decode cX6_kindAfter 43 = .ok (.if_icmp .eq 9, 3) := by decide +kernel
theorem dX6_kindAfter_46 : decode cX6_kindAfter 46 = .ok (.iload_n 1, 1) := by decide +kernel
theorem dX6_kindAfter_47 : decode cX6_kindAfter 47 = .ok (.bipush 8, 2) := by decide +kernel
theorem dX6_kindAfter_49 : decode cX6_kindAfter 49 = .ok (.if_icmp .ne 7, 3) := by decide +kernel
theorem dX6_kindAfter_52 : decode cX6_kindAfter 52 = .ok (.iconst 3, 1) := by decide +kernel
theorem dX6_kindAfter_53 : decode cX6_kindAfter 53 = .ok (.goto 4, 3) := by decide +kernel
theorem dX6_kindAfter_56 : decode cX6_kindAfter 56 = .ok (.iconst 0, 1) := by decide +kernel
theorem dX6_kindAfter_57 : decode cX6_kindAfter 57 = .ok (.ireturn, 1) := by decide +kernel
theorem dX6_turned_0 : decode cX6_turned 0 = .ok (.iload_n 2, 1) := by decide +kernel
theorem dX6_turned_1 : decode cX6_turned 1 = .ok (.iconst 2, 1) := by decide +kernel
theorem dX6_turned_2 : decode cX6_turned 2 = .ok (.if_icmp .ge 37, 3) := by decide +kernel
theorem dX6_turned_5 : decode cX6_turned 5 = .ok (.iload_n 1, 1) := by decide +kernel
theorem dX6_turned_6 : decode cX6_turned 6 = .ok (.bipush 15, 2) := by decide +kernel
theorem dX6_turned_8 : decode cX6_turned 8 = .ok (.if_icmp .eq 9, 3) := by decide +kernel
theorem dX6_turned_11 : decode cX6_turned 11 = .ok (.lload_n 3, 1) := by decide +kernel
theorem dX6_turned_12 : decode cX6_turned 12 = .ok (.lconst 0, 1) := by decide +kernel
theorem dX6_turned_13 : decode cX6_turned 13 = .ok (.lcmp, 1) := by decide +kernel
theorem dX6_turned_14 : decode cX6_turned 14 = .ok (.ifCond .ge 8, 3) := by decide +kernel
theorem dX6_turned_17 : decode cX6_turned 17 = .ok (.lload_n 3, 1) := by decide +kernel
theorem dX6_turned_18 : decode cX6_turned 18 = .ok (.lneg, 1) := by decide +kernel
theorem dX6_turned_19 : decode cX6_turned 19 = .ok (.goto 4, 3) := by decide +kernel
theorem dX6_turned_22 : decode cX6_turned 22 = .ok (.lload_n 3, 1) := by decide +kernel
theorem dX6_turned_23 : decode cX6_turned 23 = .ok (.lstore 5, 2) := by decide +kernel
theorem dX6_turned_25 : decode cX6_turned 25 = .ok (.iload_n 2, 1) := by decide +kernel
theorem dX6_turned_26 : decode cX6_turned 26 = .ok (.ifCond .ne 10, 3) := by decide +kernel
theorem dX6_turned_29 : decode cX6_turned 29 = .ok (.lload 5, 2) := by decide +kernel
theorem dX6_turned_31 : decode cX6_turned 31 = .ok (.l2i, 1) := by decide +kernel
theorem dX6_turned_32 : decode cX6_turned 32 = .ok (.i2l, 1) := by decide +kernel
theorem dX6_turned_33 : decode cX6_turned 33 = .ok (.goto 5, 3) := by decide +kernel
theorem dX6_turned_36 : decode cX6_turned 36 = .ok (.lload 5, 2) := by decide +kernel
theorem dX6_turned_38 : decode cX6_turned 38 = .ok (.lreturn, 1) := by decide +kernel
theorem dX6_turned_39 : decode cX6_turned 39 = .ok (.aload_n 0, 1) := by decide +kernel
theorem dX6_turned_40 : decode cX6_turned 40 = .ok (.iload_n 2, 1) := by decide +kernel
theorem dX6_turned_41 : decode cX6_turned 41 = .ok (.iconst 3, 1) := by decide +kernel
theorem dX6_turned_42 : decode cX6_turned 42 = .ok (.if_icmp .ne 7, 3) := by decide +kernel
theorem dX6_turned_45 : decode cX6_turned 45 = .ok (.iconst 1, 1) := by decide +kernel
theorem dX6_turned_46 : decode cX6_turned 46 = .ok (.goto 4, 3) := by decide +kernel
theorem dX6_turned_49 : decode cX6_turned 49 = .ok (.iconst 0, 1) := by decide +kernel
theorem dX6_turned_50 : decode cX6_turned 50 = .ok (.lload_n 3, 1) := by decide +kernel
theorem dX6_turned_51 : decode cX6_turned 51 = .ok (.invokevirtual 132, 3) := by decide +kernel
theorem dX6_turned_54 : decode cX6_turned 54 = .ok (.ifCond .eq 5, 3) := by decide +kernel
theorem dX6_turned_57 : decode cX6_turned 57 = .ok (.lload_n 3, 1) := by decide +kernel
theorem dX6_turned_58 : decode cX6_turned 58 = .ok (.lreturn, 1) := by decide +kernel
theorem dX6_turned_59 : decode cX6_turned 59 = .ok (.iload_n 1, 1) := by decide +kernel
theorem dX6_turned_60 : decode cX6_turned 60 = .ok (.bipush 15, 2) := by decide +kernel
theorem dX6_turned_62 : decode cX6_turned 62 = .ok (.if_icmp .ne 13, 3) := by decide +kernel
theorem dX6_turned_65 : decode cX6_turned 65 = .ok (.lload_n 3, 1) := by decide +kernel
theorem dX6_turned_66 : decode cX6_turned 66 = .ok (.lconst 0, 1) := by decide +kernel
theorem dX6_turned_67 : decode cX6_turned 67 = .ok (.lcmp, 1) := by decide +kernel
theorem dX6_turned_68 : decode cX6_turned 68 = .ok (.ifCond .lt 7, 3) := by decide +kernel
theorem dX6_turned_71 : decode cX6_turned 71 = .ok (.iconst 1, 1) := by decide +kernel
theorem dX6_turned_72 : decode cX6_turned 72 = .ok (.goto 4, 3) := by decide +kernel
theorem dX6_turned_75 : decode cX6_turned 75 = .ok (.iconst 0, 1) := by decide +kernel
theorem dX6_turned_76 : decode cX6_turned 76 = .ok (.istore 5, 2) := by decide +kernel
theorem dX6_turned_78 : decode cX6_turned 78 = .ok (.aload_n 0, 1) := by decide +kernel
theorem dX6_turned_79 : decode cX6_turned 79 = .ok (.iload_n 2, 1) := by decide +kernel
theorem dX6_turned_80 : decode cX6_turned 80 = .ok (.iconst 3, 1) := by decide +kernel
theorem dX6_turned_81 : decode cX6_turned 81 = .ok (.if_icmp .ne 7, 3) := by decide +kernel
theorem dX6_turned_84 : decode cX6_turned 84 = .ok (.iconst 1, 1) := by decide +kernel
theorem dX6_turned_85 : decode cX6_turned 85 = .ok (.goto 4, 3) := by decide +kernel
theorem dX6_turned_88 : decode cX6_turned 88 = .ok (.iconst 0, 1) := by decide +kernel
theorem dX6_turned_89 : decode cX6_turned 89 = .ok (.iload 5, 2) := by decide +kernel
theorem dX6_turned_91 : decode cX6_turned 91 = .ok (.iload_n 2, 1) := by decide +kernel
theorem dX6_turned_92 : decode cX6_turned 92 = .ok (.iconst 3, 1) := by decide +kernel
theorem dX6_turned_93 : decode cX6_turned 93 = .ok (.if_icmp .ne 11, 3) := by decide +kernel
theorem dX6_turned_96 : decode cX6_turned 96 = .ok (.lload_n 3, 1) := by decide +kernel
theorem dX6_turned_97 : decode cX6_turned 97 = .ok (.ldc2_w 92, 3) := by decide +kernel
theorem dX6_turned_100 : decode cX6_turned 100 = .ok (.land, 1) := by decide +kernel
theorem dX6_turned_101 : decode cX6_turned 101 = .ok (.goto 8, 3) := by decide +kernel
theorem dX6_turned_104 : decode cX6_turned 104 = .ok (.lload_n 3, 1) := by decide +kernel
theorem dX6_turned_105 : decode cX6_turned 105 = .ok (.ldc2_w 94, 3) := by decide +kernel
theorem dX6_turned_108 : decode cX6_turned 108 = .ok (.land, 1) := by decide +kernel
theorem dX6_turned_109 : decode cX6_turned 109 = .ok (.invokevirtual 107, 3) := by decide +kernel
theorem dX6_turned_112 : decode cX6_turned 112 = .ok (.lreturn, 1) := by decide +kernel
theorem dX6_one_0 : decode cX6_one 0 = .ok (.aload_n 0, 1) := by decide +kernel
theorem dX6_one_1 : decode cX6_one 1 = .ok (.iload_n 1, 1) := by decide +kernel
theorem dX6_one_2 : decode cX6_one 2 = .ok (.bipush 19, 2) := by decide +kernel
theorem dX6_one_4 : decode cX6_one 4 = .ok (.invokevirtual 140, 3) := by decide +kernel
theorem dX6_one_7 : decode cX6_one 7 = .ok (.ifCond .ne 23, 3) := by decide +kernel
theorem dX6_one_10 : decode cX6_one 10 = .ok (.aload_n 0, 1) := by decide +kernel
theorem dX6_one_11 : decode cX6_one 11 = .ok (.iload_n 2, 1) := by decide +kernel
theorem dX6_one_12 : decode cX6_one 12 = .ok (.bipush 8, 2) := by decide +kernel
theorem dX6_one_14 : decode cX6_one 14 = .ok (.invokevirtual 140, 3) := by decide +kernel
theorem dX6_one_17 : decode cX6_one 17 = .ok (.ifCond .ne 13, 3) := by decide +kernel
theorem dX6_one_20 : decode cX6_one 20 = .ok (.aload_n 0, 1) := by decide +kernel
theorem dX6_one_21 : decode cX6_one 21 = .ok (.iload_n 3, 1) := by decide +kernel
theorem dX6_one_22 : decode cX6_one 22 = .ok (.bipush 8, 2) := by decide +kernel
theorem dX6_one_24 : decode cX6_one 24 = .ok (.invokevirtual 140, 3) := by decide +kernel
theorem dX6_one_27 : decode cX6_one 27 = .ok (.ifCond .eq 5, 3) := by decide +kernel
theorem dX6_one_30 : decode cX6_one 30 = .ok (.iconst (-1), 1) := by decide +kernel
theorem dX6_one_31 : decode cX6_one 31 = .ok (.ireturn, 1) := by decide +kernel
theorem dX6_one_32 : decode cX6_one 32 = .ok (.aload_n 0, 1) := by decide +kernel
theorem dX6_one_33 : decode cX6_one 33 = .ok (.getfield 7, 3) := by decide +kernel
theorem dX6_one_36 : decode cX6_one 36 = .ok (.iload_n 3, 1) := by decide +kernel
theorem dX6_one_37 : decode cX6_one 37 = .ok (.iaload, 1) := by decide +kernel
theorem dX6_one_38 : decode cX6_one 38 = .ok (.istore 4, 2) := by decide +kernel
theorem dX6_one_40 : decode cX6_one 40 = .ok (.iload_n 1, 1) := by decide +kernel
theorem dX6_one_41 : decode cX6_one 41 = .ok (.bipush 15, 2) := by decide +kernel
theorem dX6_one_43 : decode cX6_one 43 = .ok (.if_icmp .ge 11, 3) := by decide +kernel
theorem dX6_one_46 : decode cX6_one 46 = .ok (.aload_n 0, 1) := by decide +kernel
theorem dX6_one_47 : decode cX6_one 47 = .ok (.iload_n 1, 1) := by decide +kernel
theorem dX6_one_48 : decode cX6_one 48 = .ok (.invokevirtual 162, 3) := by decide +kernel
theorem dX6_one_51 : decode cX6_one 51 = .ok (.goto 31, 3) := by decide +kernel
theorem dX6_one_54 : decode cX6_one 54 = .ok (.iload_n 1, 1) := by decide +kernel
theorem dX6_one_55 : decode cX6_one 55 = .ok (.bipush 17, 2) := by decide +kernel
theorem dX6_one_57 : decode cX6_one 57 = .ok (.if_icmp .ge 8, 3) := by decide +kernel
theorem dX6_one_60 : decode cX6_one 60 = .ok (.iload 4, 2) := by decide +kernel
theorem dX6_one_62 : decode cX6_one 62 = .ok (.goto 20, 3) := by decide +kernel
theorem dX6_one_65 : decode cX6_one 65 = .ok (.iload_n 1, 1) := by decide +kernel
theorem dX6_one_66 : decode cX6_one 66 = .ok (.bipush 17, 2) := by decide +kernel
theorem dX6_one_68 : decode cX6_one 68 = .ok (.if_icmp .ne 10, 3) := by decide +kernel
theorem dX6_one_71 : decode cX6_one 71 = .ok (.iload 4, 2) := by decide +kernel
theorem dX6_one_73 : decode cX6_one 73 = .ok (.iconst 2, 1) := by decide +kernel
theorem dX6_one_74 : decode cX6_one 74 = .ok (.isub, 1) := by decide +kernel
theorem dX6_one_75 : decode cX6_one 75 = .ok (.goto 7, 3) := by decide +kernel
theorem dX6_one_78 : decode cX6_one 78 = .ok (.iload 4, 2) := by decide +kernel
theorem dX6_one_80 : decode cX6_one 80 = .ok (.iconst 2, 1) := by decide +kernel
theorem dX6_one_81 : decode cX6_one 81 = .ok (.iadd, 1) := by decide +kernel
theorem dX6_one_82 : decode cX6_one 82 = .ok (.istore 5, 2) := by decide +kernel
theorem dX6_one_84 : decode cX6_one 84 = .ok (.iload_n 1, 1) := by decide +kernel
theorem dX6_one_85 : decode cX6_one 85 = .ok (.bipush 15, 2) := by decide +kernel
theorem dX6_one_87 : decode cX6_one 87 = .ok (.if_icmp .ge 13, 3) := by decide +kernel
theorem dX6_one_90 : decode cX6_one 90 = .ok (.iload 4, 2) := by decide +kernel
theorem dX6_one_92 : decode cX6_one 92 = .ok (.aload_n 0, 1) := by decide +kernel
theorem dX6_one_93 : decode cX6_one 93 = .ok (.iload_n 1, 1) := by decide +kernel
theorem dX6_one_94 : decode cX6_one 94 = .ok (.invokevirtual 166, 3) := by decide +kernel
theorem dX6_one_97 : decode cX6_one 97 = .ok (.if_icmp .ne 27, 3) := by decide +kernel
theorem dX6_one_100 : decode cX6_one 100 = .ok (.iload_n 1, 1) := by decide +kernel
theorem dX6_one_101 : decode cX6_one 101 = .ok (.bipush 17, 2) := by decide +kernel
theorem dX6_one_103 : decode cX6_one 103 = .ok (.if_icmp .ne 9, 3) := by decide +kernel
theorem dX6_one_106 : decode cX6_one 106 = .ok (.iload 4, 2) := by decide +kernel
theorem dX6_one_108 : decode cX6_one 108 = .ok (.iconst 2, 1) := by decide +kernel
theorem dX6_one_109 : decode cX6_one 109 = .ok (.if_icmp .lt 15, 3) := by decide +kernel
theorem dX6_one_112 : decode cX6_one 112 = .ok (.iload_n 1, 1) := by decide +kernel
theorem dX6_one_113 : decode cX6_one 113 = .ok (.bipush 18, 2) := by decide +kernel
theorem dX6_one_115 : decode cX6_one 115 = .ok (.if_icmp .ne 11, 3) := by decide +kernel
theorem dX6_one_118 : decode cX6_one 118 = .ok (.iload 4, 2) := by decide +kernel
theorem dX6_one_120 : decode cX6_one 120 = .ok (.iconst 1, 1) := by decide +kernel
theorem dX6_one_121 : decode cX6_one 121 = .ok (.if_icmp .le 5, 3) := by decide +kernel
theorem dX6_one_124 : decode cX6_one 124 = .ok (.iconst (-1), 1) := by decide +kernel
theorem dX6_one_125 : decode cX6_one 125 = .ok (.ireturn, 1) := by decide +kernel
theorem dX6_one_126 : decode cX6_one 126 = .ok (.iload_n 1, 1) := by decide +kernel
theorem dX6_one_127 : decode cX6_one 127 = .ok (.bipush 15, 2) := by decide +kernel
theorem dX6_one_129 : decode cX6_one 129 = .ok (.if_icmp .ge 17, 3) := by decide +kernel
theorem dX6_one_132 : decode cX6_one 132 = .ok (.aload_n 0, 1) := by decide +kernel
theorem dX6_one_133 : decode cX6_one 133 = .ok (.iload_n 1, 1) := by decide +kernel
theorem dX6_one_134 : decode cX6_one 134 = .ok (.aload_n 0, 1) := by decide +kernel
theorem dX6_one_135 : decode cX6_one 135 = .ok (.getfield 16, 3) := by decide +kernel
theorem dX6_one_138 : decode cX6_one 138 = .ok (.iload_n 3, 1) := by decide +kernel
theorem dX6_one_139 : decode cX6_one 139 = .ok (.laload, 1) := by decide +kernel
theorem dX6_one_140 : decode cX6_one 140 = .ok (.invokevirtual 169, 3) := by decide +kernel
theorem dX6_one_143 : decode cX6_one 143 = .ok (.goto 37, 3) := by decide +kernel
theorem dX6_one_146 : decode cX6_one 146 = .ok (.iload_n 1, 1) := by decide +kernel
theorem dX6_one_147 : decode cX6_one 147 = .ok (.bipush 17, 2) := by decide +kernel
theorem dX6_one_149 : decode cX6_one 149 = .ok (.if_icmp .ge 19, 3) := by decide +kernel
theorem dX6_one_152 : decode cX6_one 152 = .ok (.aload_n 0, 1) := by decide +kernel
theorem dX6_one_153 : decode cX6_one 153 = .ok (.iload_n 1, 1) := by decide +kernel
theorem dX6_one_154 : decode cX6_one 154 = .ok (.iload 4, 2) := by decide +kernel
theorem dX6_one_156 : decode cX6_one 156 = .ok (.aload_n 0, 1) := by decide +kernel
theorem dX6_one_157 : decode cX6_one 157 = .ok (.getfield 16, 3) := by decide +kernel
theorem dX6_one_160 : decode cX6_one 160 = .ok (.iload_n 3, 1) := by decide +kernel
theorem dX6_one_161 : decode cX6_one 161 = .ok (.laload, 1) := by decide +kernel
theorem dX6_one_162 : decode cX6_one 162 = .ok (.invokevirtual 172, 3) := by decide +kernel
theorem dX6_one_165 : decode cX6_one 165 = .ok (.goto 15, 3) := by decide +kernel
theorem dX6_one_168 : decode cX6_one 168 = .ok (.aload_n 0, 1) := by decide +kernel
theorem dX6_one_169 : decode cX6_one 169 = .ok (.iload 5, 2) := by decide +kernel
theorem dX6_one_171 : decode cX6_one 171 = .ok (.aload_n 0, 1) := by decide +kernel
theorem dX6_one_172 : decode cX6_one 172 = .ok (.getfield 16, 3) := by decide +kernel
theorem dX6_one_175 : decode cX6_one 175 = .ok (.iload_n 3, 1) := by decide +kernel
theorem dX6_one_176 : decode cX6_one 176 = .ok (.laload, 1) := by decide +kernel
theorem dX6_one_177 : decode cX6_one 177 = .ok (.invokevirtual 144, 3) := by decide +kernel
theorem dX6_one_180 : decode cX6_one 180 = .ok (.lstore 6, 2) := by decide +kernel
theorem dX6_one_182 : decode cX6_one 182 = .ok (.iload_n 1, 1) := by decide +kernel
theorem dX6_one_183 : decode cX6_one 183 = .ok (.iconst 1, 1) := by decide +kernel
theorem dX6_one_184 : decode cX6_one 184 = .ok (.if_icmp .eq 19, 3) := by decide +kernel
theorem dX6_one_187 : decode cX6_one 187 = .ok (.iload_n 1, 1) := by decide +kernel
theorem dX6_one_188 : decode cX6_one 188 = .ok (.iconst 4, 1) := by decide +kernel
theorem dX6_one_189 : decode cX6_one 189 = .ok (.if_icmp .eq 14, 3) := by decide +kernel
theorem dX6_one_192 : decode cX6_one 192 = .ok (.iload_n 1, 1) := by decide +kernel
theorem dX6_one_193 : decode cX6_one 193 = .ok (.iconst 5, 1) := by decide +kernel
theorem dX6_one_194 : decode cX6_one 194 = .ok (.if_icmp .eq 9, 3) := by decide +kernel
theorem dX6_one_197 : decode cX6_one 197 = .ok (.iload_n 1, 1) := by decide +kernel
theorem dX6_one_198 : decode cX6_one 198 = .ok (.bipush 11, 2) := by decide +kernel
theorem dX6_one_200 : decode cX6_one 200 = .ok (.if_icmp .ne 7, 3) := by decide +kernel
theorem dX6_one_203 : decode cX6_one 203 = .ok (.iconst 1, 1) := by decide +kernel
theorem dX6_one_204 : decode cX6_one 204 = .ok (.goto 4, 3) := by decide +kernel
theorem dX6_one_207 : decode cX6_one 207 = .ok (.iconst 0, 1) := by decide +kernel
theorem dX6_one_208 : decode cX6_one 208 = .ok (.istore 8, 2) := by decide +kernel
theorem dX6_one_210 : decode cX6_one 210 = .ok (.aload_n 0, 1) := by decide +kernel
theorem dX6_one_211 : decode cX6_one 211 = .ok (.getfield 7, 3) := by decide +kernel
theorem dX6_one_214 : decode cX6_one 214 = .ok (.iload_n 2, 1) := by decide +kernel
theorem dX6_one_215 : decode cX6_one 215 = .ok (.iload 5, 2) := by decide +kernel
theorem dX6_one_217 : decode cX6_one 217 = .ok (.iastore, 1) := by decide +kernel
theorem dX6_one_218 : decode cX6_one 218 = .ok (.aload_n 0, 1) := by decide +kernel
theorem dX6_one_219 : decode cX6_one 219 = .ok (.iload_n 2, 1) := by decide +kernel
theorem dX6_one_220 : decode cX6_one 220 = .ok (.lload 6, 2) := by decide +kernel
theorem dX6_one_222 : decode cX6_one 222 = .ok (.aload_n 0, 1) := by decide +kernel
theorem dX6_one_223 : decode cX6_one 223 = .ok (.getfield 13, 3) := by decide +kernel
theorem dX6_one_226 : decode cX6_one 226 = .ok (.iload_n 3, 1) := by decide +kernel
theorem dX6_one_227 : decode cX6_one 227 = .ok (.iaload, 1) := by decide +kernel
theorem dX6_one_228 : decode cX6_one 228 = .ok (.aload_n 0, 1) := by decide +kernel
theorem dX6_one_229 : decode cX6_one 229 = .ok (.getfield 20, 3) := by decide +kernel
theorem dX6_one_232 : decode cX6_one 232 = .ok (.iload_n 3, 1) := by decide +kernel
theorem dX6_one_233 : decode cX6_one 233 = .ok (.baload, 1) := by decide +kernel
theorem dX6_one_234 : decode cX6_one 234 = .ok (.ifCond .eq 12, 3) := by decide +kernel
theorem dX6_one_237 : decode cX6_one 237 = .ok (.iload 8, 2) := by decide +kernel
theorem dX6_one_239 : decode cX6_one 239 = .ok (.ifCond .ne 7, 3) := by decide +kernel
theorem dX6_one_242 : decode cX6_one 242 = .ok (.iconst 1, 1) := by decide +kernel
theorem dX6_one_243 : decode cX6_one 243 = .ok (.goto 4, 3) := by decide +kernel
theorem dX6_one_246 : decode cX6_one 246 = .ok (.iconst 0, 1) := by decide +kernel
theorem dX6_one_247 : decode cX6_one 247 = .ok (.invokevirtual 148, 3) := by decide +kernel
theorem dX6_one_250 : decode cX6_one 250 = .ok (.iconst 0, 1) := by decide +kernel
theorem dX6_one_251 : decode cX6_one 251 = .ok (.ireturn, 1) := by decide +kernel
theorem dX6_whole_0 : decode cX6_whole 0 = .ok (.lload 5, 2) := by decide +kernel
theorem dX6_whole_2 : decode cX6_whole 2 = .ok (.l2i, 1) := by decide +kernel
theorem dX6_whole_3 : decode cX6_whole 3 = .ok (.iload_n 2, 1) := by decide +kernel
theorem dX6_whole_4 : decode cX6_whole 4 = .ok (.ifCond .eq 8, 3) := by decide +kernel
theorem dX6_whole_7 : decode cX6_whole 7 = .ok (.bipush 63, 2) := by decide +kernel
theorem dX6_whole_9 : decode cX6_whole 9 = .ok (.goto 5, 3) := by decide +kernel
theorem dX6_whole_12 : decode cX6_whole 12 = .ok (.bipush 31, 2) := by decide +kernel
theorem dX6_whole_14 : decode cX6_whole 14 = .ok (.iand, 1) := by decide +kernel
theorem dX6_whole_15 : decode cX6_whole 15 = .ok (.istore 7, 2) := by decide +kernel
theorem dX6_whole_17 : decode cX6_whole 17 = .ok (.iload_n 1, 1) := by decide +kernel
theorem dX6_whole_18 : decode cX6_whole 18 = .ok (.bipush 20, 2) := by decide +kernel
theorem dX6_whole_20 : decode cX6_whole 20 = .ok (.if_icmp .ne 10, 3) := by decide +kernel
theorem dX6_whole_23 : decode cX6_whole 23 = .ok (.lload_n 3, 1) := by decide +kernel
theorem dX6_whole_24 : decode cX6_whole 24 = .ok (.lload 5, 2) := by decide +kernel
theorem dX6_whole_26 : decode cX6_whole 26 = .ok (.ladd, 1) := by decide +kernel
theorem dX6_whole_27 : decode cX6_whole 27 = .ok (.goto 100, 3) := by decide +kernel
theorem dX6_whole_30 : decode cX6_whole 30 = .ok (.iload_n 1, 1) := by decide +kernel
theorem dX6_whole_31 : decode cX6_whole 31 = .ok (.bipush 21, 2) := by decide +kernel
theorem dX6_whole_33 : decode cX6_whole 33 = .ok (.if_icmp .ne 10, 3) := by decide +kernel
theorem dX6_whole_36 : decode cX6_whole 36 = .ok (.lload_n 3, 1) := by decide +kernel
theorem dX6_whole_37 : decode cX6_whole 37 = .ok (.lload 5, 2) := by decide +kernel
theorem dX6_whole_39 : decode cX6_whole 39 = .ok (.lsub, 1) := by decide +kernel
theorem dX6_whole_40 : decode cX6_whole 40 = .ok (.goto 87, 3) := by decide +kernel
theorem dX6_whole_43 : decode cX6_whole 43 = .ok (.iload_n 1, 1) := by decide +kernel
theorem dX6_whole_44 : decode cX6_whole 44 = .ok (.bipush 22, 2) := by decide +kernel
theorem dX6_whole_46 : decode cX6_whole 46 = .ok (.if_icmp .ne 10, 3) := by decide +kernel
theorem dX6_whole_49 : decode cX6_whole 49 = .ok (.lload_n 3, 1) := by decide +kernel
theorem dX6_whole_50 : decode cX6_whole 50 = .ok (.lload 5, 2) := by decide +kernel
theorem dX6_whole_52 : decode cX6_whole 52 = .ok (.lmul, 1) := by decide +kernel
theorem dX6_whole_53 : decode cX6_whole 53 = .ok (.goto 74, 3) := by decide +kernel
theorem dX6_whole_56 : decode cX6_whole 56 = .ok (.lload 5, 2) := by decide +kernel
theorem dX6_whole_58 : decode cX6_whole 58 = .ok (.lconst 0, 1) := by decide +kernel
theorem dX6_whole_59 : decode cX6_whole 59 = .ok (.lcmp, 1) := by decide +kernel
theorem dX6_whole_60 : decode cX6_whole 60 = .ok (.ifCond .ne 13, 3) := by decide +kernel
theorem dX6_whole_63 : decode cX6_whole 63 = .ok (.iload_n 1, 1) := by decide +kernel
theorem dX6_whole_64 : decode cX6_whole 64 = .ok (.bipush 25, 2) := by decide +kernel
theorem dX6_whole_66 : decode cX6_whole 66 = .ok (.if_icmp .ge 7, 3) := by decide +kernel
theorem dX6_whole_69 : decode cX6_whole 69 = .ok (.lconst 0, 1) := by decide +kernel
theorem dX6_whole_70 : decode cX6_whole 70 = .ok (.goto 57, 3) := by decide +kernel
theorem dX6_whole_73 : decode cX6_whole 73 = .ok (.iload_n 1, 1) := by decide +kernel
theorem dX6_whole_74 : decode cX6_whole 74 = .ok (.bipush 23, 2) := by decide +kernel
theorem dX6_whole_76 : decode cX6_whole 76 = .ok (.if_icmp .ne 24, 3) := by decide +kernel
theorem dX6_whole_79 : decode cX6_whole 79 = .ok (.lload 5, 2) := by decide +kernel
theorem dX6_whole_81 : decode cX6_whole 81 = .ok (.ldc2_w 130, 3) := by decide +kernel
theorem dX6_whole_84 : decode cX6_whole 84 = .ok (.lcmp, 1) := by decide +kernel
theorem dX6_whole_85 : decode cX6_whole 85 = .ok (.ifCond .ne 8, 3) := by decide +kernel
theorem dX6_whole_88 : decode cX6_whole 88 = .ok (.lload_n 3, 1) := by decide +kernel
theorem dX6_whole_89 : decode cX6_whole 89 = .ok (.lneg, 1) := by decide +kernel
theorem dX6_whole_90 : decode cX6_whole 90 = .ok (.goto 37, 3) := by decide +kernel
theorem dX6_whole_93 : decode cX6_whole 93 = .ok (.lload_n 3, 1) := by decide +kernel
theorem dX6_whole_94 : decode cX6_whole 94 = .ok (.lload 5, 2) := by decide +kernel
theorem dX6_whole_96 : decode cX6_whole 96 = .ok (.ldiv, 1) := by decide +kernel
theorem dX6_whole_97 : decode cX6_whole 97 = .ok (.goto 30, 3) := by decide +kernel
theorem dX6_whole_100 : decode cX6_whole 100 = .ok (.iload_n 1, 1) := by decide +kernel
theorem dX6_whole_101 : decode cX6_whole 101 = .ok (.bipush 24, 2) := by decide +kernel
theorem dX6_whole_103 : decode cX6_whole 103 = .ok (.if_icmp .ne 23, 3) := by decide +kernel
theorem dX6_whole_106 : decode cX6_whole 106 = .ok (.lload 5, 2) := by decide +kernel
theorem dX6_whole_108 : decode cX6_whole 108 = .ok (.ldc2_w 130, 3) := by decide +kernel
theorem dX6_whole_111 : decode cX6_whole 111 = .ok (.lcmp, 1) := by decide +kernel
theorem dX6_whole_112 : decode cX6_whole 112 = .ok (.ifCond .ne 7, 3) := by decide +kernel
theorem dX6_whole_115 : decode cX6_whole 115 = .ok (.lconst 0, 1) := by decide +kernel
theorem dX6_whole_116 : decode cX6_whole 116 = .ok (.goto 11, 3) := by decide +kernel
theorem dX6_whole_119 : decode cX6_whole 119 = .ok (.lload_n 3, 1) := by decide +kernel
theorem dX6_whole_120 : decode cX6_whole 120 = .ok (.lload 5, 2) := by decide +kernel
theorem dX6_whole_122 : decode cX6_whole 122 = .ok (.lrem, 1) := by decide +kernel
theorem dX6_whole_123 : decode cX6_whole 123 = .ok (.goto 4, 3) := by decide +kernel
theorem dX6_whole_126 : decode cX6_whole 126 = .ok (.lload_n 3, 1) := by decide +kernel
theorem dX6_whole_127 : decode cX6_whole 127 = .ok (.lstore 8, 2) := by decide +kernel
theorem dX6_whole_129 : decode cX6_whole 129 = .ok (.iload_n 1, 1) := by decide +kernel
theorem dX6_whole_130 : decode cX6_whole 130 = .ok (.bipush 25, 2) := by decide +kernel
theorem dX6_whole_132 : decode cX6_whole 132 = .ok (.if_icmp .ne 18, 3) := by decide +kernel
theorem dX6_whole_135 : decode cX6_whole 135 = .ok (.lload_n 3, 1) := by decide +kernel
theorem dX6_whole_136 : decode cX6_whole 136 = .ok (.lload 5, 2) := by decide +kernel
theorem dX6_whole_138 : decode cX6_whole 138 = .ok (.lcmp, 1) := by decide +kernel
theorem dX6_whole_139 : decode cX6_whole 139 = .ok (.ifCond .ge 7, 3) := by decide +kernel
theorem dX6_whole_142 : decode cX6_whole 142 = .ok (.lload_n 3, 1) := by decide +kernel
theorem dX6_whole_143 : decode cX6_whole 143 = .ok (.goto 5, 3) := by decide +kernel
theorem dX6_whole_146 : decode cX6_whole 146 = .ok (.lload 5, 2) := by decide +kernel
theorem dX6_whole_148 : decode cX6_whole 148 = .ok (.lstore 8, 2) := by decide +kernel
theorem dX6_whole_150 : decode cX6_whole 150 = .ok (.iload_n 1, 1) := by decide +kernel
theorem dX6_whole_151 : decode cX6_whole 151 = .ok (.bipush 26, 2) := by decide +kernel
theorem dX6_whole_153 : decode cX6_whole 153 = .ok (.if_icmp .ne 18, 3) := by decide +kernel
theorem dX6_whole_156 : decode cX6_whole 156 = .ok (.lload_n 3, 1) := by decide +kernel
theorem dX6_whole_157 : decode cX6_whole 157 = .ok (.lload 5, 2) := by decide +kernel
theorem dX6_whole_159 : decode cX6_whole 159 = .ok (.lcmp, 1) := by decide +kernel
theorem dX6_whole_160 : decode cX6_whole 160 = .ok (.ifCond .le 7, 3) := by decide +kernel
theorem dX6_whole_163 : decode cX6_whole 163 = .ok (.lload_n 3, 1) := by decide +kernel
theorem dX6_whole_164 : decode cX6_whole 164 = .ok (.goto 5, 3) := by decide +kernel
theorem dX6_whole_167 : decode cX6_whole 167 = .ok (.lload 5, 2) := by decide +kernel
theorem dX6_whole_169 : decode cX6_whole 169 = .ok (.lstore 8, 2) := by decide +kernel
theorem dX6_whole_171 : decode cX6_whole 171 = .ok (.iload_n 1, 1) := by decide +kernel
theorem dX6_whole_172 : decode cX6_whole 172 = .ok (.bipush 27, 2) := by decide +kernel
theorem dX6_whole_174 : decode cX6_whole 174 = .ok (.if_icmp .ne 9, 3) := by decide +kernel
theorem dX6_whole_177 : decode cX6_whole 177 = .ok (.lload_n 3, 1) := by decide +kernel
theorem dX6_whole_178 : decode cX6_whole 178 = .ok (.iload 7, 2) := by decide +kernel
theorem dX6_whole_180 : decode cX6_whole 180 = .ok (.lshl, 1) := by decide +kernel
theorem dX6_whole_181 : decode cX6_whole 181 = .ok (.lstore 8, 2) := by decide +kernel
theorem dX6_whole_183 : decode cX6_whole 183 = .ok (.iload_n 1, 1) := by decide +kernel
theorem dX6_whole_184 : decode cX6_whole 184 = .ok (.bipush 28, 2) := by decide +kernel
theorem dX6_whole_186 : decode cX6_whole 186 = .ok (.if_icmp .ne 9, 3) := by decide +kernel
theorem dX6_whole_189 : decode cX6_whole 189 = .ok (.lload_n 3, 1) := by decide +kernel
theorem dX6_whole_190 : decode cX6_whole 190 = .ok (.iload 7, 2) := by decide +kernel
theorem dX6_whole_192 : decode cX6_whole 192 = .ok (.lshr, 1) := by decide +kernel
theorem dX6_whole_193 : decode cX6_whole 193 = .ok (.lstore 8, 2) := by decide +kernel
theorem dX6_whole_195 : decode cX6_whole 195 = .ok (.iload_n 1, 1) := by decide +kernel
theorem dX6_whole_196 : decode cX6_whole 196 = .ok (.bipush 29, 2) := by decide +kernel
theorem dX6_whole_198 : decode cX6_whole 198 = .ok (.if_icmp .ne 21, 3) := by decide +kernel
theorem dX6_whole_201 : decode cX6_whole 201 = .ok (.iload_n 2, 1) := by decide +kernel
theorem dX6_whole_202 : decode cX6_whole 202 = .ok (.ifCond .eq 7, 3) := by decide +kernel
theorem dX6_whole_205 : decode cX6_whole 205 = .ok (.lload_n 3, 1) := by decide +kernel
theorem dX6_whole_206 : decode cX6_whole 206 = .ok (.goto 8, 3) := by decide +kernel
theorem dX6_whole_209 : decode cX6_whole 209 = .ok (.lload_n 3, 1) := by decide +kernel
theorem dX6_whole_210 : decode cX6_whole 210 = .ok (.ldc2_w 176, 3) := by decide +kernel
theorem dX6_whole_213 : decode cX6_whole 213 = .ok (.land, 1) := by decide +kernel
theorem dX6_whole_214 : decode cX6_whole 214 = .ok (.iload 7, 2) := by decide +kernel
theorem dX6_whole_216 : decode cX6_whole 216 = .ok (.lushr, 1) := by decide +kernel
theorem dX6_whole_217 : decode cX6_whole 217 = .ok (.lstore 8, 2) := by decide +kernel
theorem dX6_whole_219 : decode cX6_whole 219 = .ok (.iload_n 1, 1) := by decide +kernel
theorem dX6_whole_220 : decode cX6_whole 220 = .ok (.bipush 30, 2) := by decide +kernel
theorem dX6_whole_222 : decode cX6_whole 222 = .ok (.if_icmp .ne 9, 3) := by decide +kernel
theorem dX6_whole_225 : decode cX6_whole 225 = .ok (.lload_n 3, 1) := by decide +kernel
theorem dX6_whole_226 : decode cX6_whole 226 = .ok (.lload 5, 2) := by decide +kernel
theorem dX6_whole_228 : decode cX6_whole 228 = .ok (.land, 1) := by decide +kernel
theorem dX6_whole_229 : decode cX6_whole 229 = .ok (.lstore 8, 2) := by decide +kernel
theorem dX6_whole_231 : decode cX6_whole 231 = .ok (.iload_n 1, 1) := by decide +kernel
theorem dX6_whole_232 : decode cX6_whole 232 = .ok (.bipush 31, 2) := by decide +kernel
theorem dX6_whole_234 : decode cX6_whole 234 = .ok (.if_icmp .ne 9, 3) := by decide +kernel
theorem dX6_whole_237 : decode cX6_whole 237 = .ok (.lload_n 3, 1) := by decide +kernel
theorem dX6_whole_238 : decode cX6_whole 238 = .ok (.lload 5, 2) := by decide +kernel
theorem dX6_whole_240 : decode cX6_whole 240 = .ok (.lor, 1) := by decide +kernel
theorem dX6_whole_241 : decode cX6_whole 241 = .ok (.lstore 8, 2) := by decide +kernel
theorem dX6_whole_243 : decode cX6_whole 243 = .ok (.iload_n 1, 1) := by decide +kernel
theorem dX6_whole_244 : decode cX6_whole 244 = .ok (.bipush 32, 2) := by decide +kernel
theorem dX6_whole_246 : decode cX6_whole 246 = .ok (.if_icmp .ne 9, 3) := by decide +kernel
theorem dX6_whole_249 : decode cX6_whole 249 = .ok (.lload_n 3, 1) := by decide +kernel
theorem dX6_whole_250 : decode cX6_whole 250 = .ok (.lload 5, 2) := by decide +kernel
theorem dX6_whole_252 : decode cX6_whole 252 = .ok (.lxor, 1) := by decide +kernel
theorem dX6_whole_253 : decode cX6_whole 253 = .ok (.lstore 8, 2) := by decide +kernel
theorem dX6_whole_255 : decode cX6_whole 255 = .ok (.iload_n 2, 1) := by decide +kernel
theorem dX6_whole_256 : decode cX6_whole 256 = .ok (.ifCond .eq 8, 3) := by decide +kernel
theorem dX6_whole_259 : decode cX6_whole 259 = .ok (.lload 8, 2) := by decide +kernel
theorem dX6_whole_261 : decode cX6_whole 261 = .ok (.goto 7, 3) := by decide +kernel
theorem dX6_whole_264 : decode cX6_whole 264 = .ok (.lload 8, 2) := by decide +kernel
theorem dX6_whole_266 : decode cX6_whole 266 = .ok (.l2i, 1) := by decide +kernel
theorem dX6_whole_267 : decode cX6_whole 267 = .ok (.i2l, 1) := by decide +kernel
theorem dX6_whole_268 : decode cX6_whole 268 = .ok (.lreturn, 1) := by decide +kernel
theorem dX6_pointed_0 : decode cX6_pointed 0 = .ok (.iload_n 1, 1) := by decide +kernel
theorem dX6_pointed_1 : decode cX6_pointed 1 = .ok (.bipush 20, 2) := by decide +kernel
theorem dX6_pointed_3 : decode cX6_pointed 3 = .ok (.if_icmp .ne 12, 3) := by decide +kernel
theorem dX6_pointed_6 : decode cX6_pointed 6 = .ok (.aload_n 0, 1) := by decide +kernel
theorem dX6_pointed_7 : decode cX6_pointed 7 = .ok (.iload_n 2, 1) := by decide +kernel
theorem dX6_pointed_8 : decode cX6_pointed 8 = .ok (.lload_n 3, 1) := by decide +kernel
theorem dX6_pointed_9 : decode cX6_pointed 9 = .ok (.lload 5, 2) := by decide +kernel
theorem dX6_pointed_11 : decode cX6_pointed 11 = .ok (.invokevirtual 178, 3) := by decide +kernel
theorem dX6_pointed_14 : decode cX6_pointed 14 = .ok (.lreturn, 1) := by decide +kernel
theorem dX6_pointed_15 : decode cX6_pointed 15 = .ok (.iload_n 1, 1) := by decide +kernel
theorem dX6_pointed_16 : decode cX6_pointed 16 = .ok (.bipush 21, 2) := by decide +kernel
theorem dX6_pointed_18 : decode cX6_pointed 18 = .ok (.if_icmp .ne 61, 3) := by decide +kernel
theorem dX6_pointed_21 : decode cX6_pointed 21 = .ok (.aload_n 0, 1) := by decide +kernel
theorem dX6_pointed_22 : decode cX6_pointed 22 = .ok (.iload_n 2, 1) := by decide +kernel
theorem dX6_pointed_23 : decode cX6_pointed 23 = .ok (.lload_n 3, 1) := by decide +kernel
theorem dX6_pointed_24 : decode cX6_pointed 24 = .ok (.aload_n 0, 1) := by decide +kernel
theorem dX6_pointed_25 : decode cX6_pointed 25 = .ok (.iload_n 2, 1) := by decide +kernel
theorem dX6_pointed_26 : decode cX6_pointed 26 = .ok (.lload 5, 2) := by decide +kernel
theorem dX6_pointed_28 : decode cX6_pointed 28 = .ok (.invokevirtual 132, 3) := by decide +kernel
theorem dX6_pointed_31 : decode cX6_pointed 31 = .ok (.ifCond .eq 8, 3) := by decide +kernel
theorem dX6_pointed_34 : decode cX6_pointed 34 = .ok (.lload 5, 2) := by decide +kernel
theorem dX6_pointed_36 : decode cX6_pointed 36 = .ok (.goto 39, 3) := by decide +kernel
theorem dX6_pointed_39 : decode cX6_pointed 39 = .ok (.aload_n 0, 1) := by decide +kernel
theorem dX6_pointed_40 : decode cX6_pointed 40 = .ok (.iload_n 2, 1) := by decide +kernel
theorem dX6_pointed_41 : decode cX6_pointed 41 = .ok (.lload 5, 2) := by decide +kernel
theorem dX6_pointed_43 : decode cX6_pointed 43 = .ok (.lconst 0, 1) := by decide +kernel
theorem dX6_pointed_44 : decode cX6_pointed 44 = .ok (.lcmp, 1) := by decide +kernel
theorem dX6_pointed_45 : decode cX6_pointed 45 = .ok (.ifCond .lt 7, 3) := by decide +kernel
theorem dX6_pointed_48 : decode cX6_pointed 48 = .ok (.iconst 1, 1) := by decide +kernel
theorem dX6_pointed_49 : decode cX6_pointed 49 = .ok (.goto 4, 3) := by decide +kernel
theorem dX6_pointed_52 : decode cX6_pointed 52 = .ok (.iconst 0, 1) := by decide +kernel
theorem dX6_pointed_53 : decode cX6_pointed 53 = .ok (.iload_n 2, 1) := by decide +kernel
theorem dX6_pointed_54 : decode cX6_pointed 54 = .ok (.ifCond .eq 12, 3) := by decide +kernel
theorem dX6_pointed_57 : decode cX6_pointed 57 = .ok (.lload 5, 2) := by decide +kernel
theorem dX6_pointed_59 : decode cX6_pointed 59 = .ok (.ldc2_w 92, 3) := by decide +kernel
theorem dX6_pointed_62 : decode cX6_pointed 62 = .ok (.land, 1) := by decide +kernel
theorem dX6_pointed_63 : decode cX6_pointed 63 = .ok (.goto 9, 3) := by decide +kernel
theorem dX6_pointed_66 : decode cX6_pointed 66 = .ok (.lload 5, 2) := by decide +kernel
theorem dX6_pointed_68 : decode cX6_pointed 68 = .ok (.ldc2_w 94, 3) := by decide +kernel
theorem dX6_pointed_71 : decode cX6_pointed 71 = .ok (.land, 1) := by decide +kernel
theorem dX6_pointed_72 : decode cX6_pointed 72 = .ok (.invokevirtual 107, 3) := by decide +kernel
theorem dX6_pointed_75 : decode cX6_pointed 75 = .ok (.invokevirtual 178, 3) := by decide +kernel
theorem dX6_pointed_78 : decode cX6_pointed 78 = .ok (.lreturn, 1) := by decide +kernel
theorem dX6_pointed_79 : decode cX6_pointed 79 = .ok (.iload_n 1, 1) := by decide +kernel
theorem dX6_pointed_80 : decode cX6_pointed 80 = .ok (.bipush 22, 2) := by decide +kernel
theorem dX6_pointed_82 : decode cX6_pointed 82 = .ok (.if_icmp .ne 12, 3) := by decide +kernel
theorem dX6_pointed_85 : decode cX6_pointed 85 = .ok (.aload_n 0, 1) := by decide +kernel
theorem dX6_pointed_86 : decode cX6_pointed 86 = .ok (.iload_n 2, 1) := by decide +kernel
theorem dX6_pointed_87 : decode cX6_pointed 87 = .ok (.lload_n 3, 1) := by decide +kernel
theorem dX6_pointed_88 : decode cX6_pointed 88 = .ok (.lload 5, 2) := by decide +kernel
theorem dX6_pointed_90 : decode cX6_pointed 90 = .ok (.invokevirtual 182, 3) := by decide +kernel
theorem dX6_pointed_93 : decode cX6_pointed 93 = .ok (.lreturn, 1) := by decide +kernel
theorem dX6_pointed_94 : decode cX6_pointed 94 = .ok (.iload_n 1, 1) := by decide +kernel
theorem dX6_pointed_95 : decode cX6_pointed 95 = .ok (.bipush 23, 2) := by decide +kernel
theorem dX6_pointed_97 : decode cX6_pointed 97 = .ok (.if_icmp .ne 12, 3) := by decide +kernel
theorem dX6_pointed_100 : decode cX6_pointed 100 = .ok (.aload_n 0, 1) := by decide +kernel
theorem dX6_pointed_101 : decode cX6_pointed 101 = .ok (.iload_n 2, 1) := by decide +kernel
theorem dX6_pointed_102 : decode cX6_pointed 102 = .ok (.lload_n 3, 1) := by decide +kernel
theorem dX6_pointed_103 : decode cX6_pointed 103 = .ok (.lload 5, 2) := by decide +kernel
theorem dX6_pointed_105 : decode cX6_pointed 105 = .ok (.invokevirtual 185, 3) := by decide +kernel
theorem dX6_pointed_108 : decode cX6_pointed 108 = .ok (.lreturn, 1) := by decide +kernel
theorem dX6_pointed_109 : decode cX6_pointed 109 = .ok (.iload_n 1, 1) := by decide +kernel
theorem dX6_pointed_110 : decode cX6_pointed 110 = .ok (.bipush 24, 2) := by decide +kernel
theorem dX6_pointed_112 : decode cX6_pointed 112 = .ok (.if_icmp .ne 12, 3) := by decide +kernel
theorem dX6_pointed_115 : decode cX6_pointed 115 = .ok (.aload_n 0, 1) := by decide +kernel
theorem dX6_pointed_116 : decode cX6_pointed 116 = .ok (.iload_n 2, 1) := by decide +kernel
theorem dX6_pointed_117 : decode cX6_pointed 117 = .ok (.lload_n 3, 1) := by decide +kernel
theorem dX6_pointed_118 : decode cX6_pointed 118 = .ok (.lload 5, 2) := by decide +kernel
theorem dX6_pointed_120 : decode cX6_pointed 120 = .ok (.invokevirtual 188, 3) := by decide +kernel
theorem dX6_pointed_123 : decode cX6_pointed 123 = .ok (.lreturn, 1) := by decide +kernel
theorem dX6_pointed_124 : decode cX6_pointed 124 = .ok (.aload_n 0, 1) := by decide +kernel
theorem dX6_pointed_125 : decode cX6_pointed 125 = .ok (.iload_n 2, 1) := by decide +kernel
theorem dX6_pointed_126 : decode cX6_pointed 126 = .ok (.lload_n 3, 1) := by decide +kernel
theorem dX6_pointed_127 : decode cX6_pointed 127 = .ok (.invokevirtual 132, 3) := by decide +kernel
theorem dX6_pointed_130 : decode cX6_pointed 130 = .ok (.ifCond .ne 13, 3) := by decide +kernel
theorem dX6_pointed_133 : decode cX6_pointed 133 = .ok (.aload_n 0, 1) := by decide +kernel
theorem dX6_pointed_134 : decode cX6_pointed 134 = .ok (.iload_n 2, 1) := by decide +kernel
theorem dX6_pointed_135 : decode cX6_pointed 135 = .ok (.lload 5, 2) := by decide +kernel
theorem dX6_pointed_137 : decode cX6_pointed 137 = .ok (.invokevirtual 132, 3) := by decide +kernel
theorem dX6_pointed_140 : decode cX6_pointed 140 = .ok (.ifCond .eq 9, 3) := by decide +kernel
theorem dX6_pointed_143 : decode cX6_pointed 143 = .ok (.aload_n 0, 1) := by decide +kernel
theorem dX6_pointed_144 : decode cX6_pointed 144 = .ok (.iload_n 2, 1) := by decide +kernel
theorem dX6_pointed_145 : decode cX6_pointed 145 = .ok (.invokevirtual 115, 3) := by decide +kernel
theorem dX6_pointed_148 : decode cX6_pointed 148 = .ok (.lreturn, 1) := by decide +kernel
theorem dX6_pointed_149 : decode cX6_pointed 149 = .ok (.aload_n 0, 1) := by decide +kernel
theorem dX6_pointed_150 : decode cX6_pointed 150 = .ok (.iload_n 2, 1) := by decide +kernel
theorem dX6_pointed_151 : decode cX6_pointed 151 = .ok (.lload_n 3, 1) := by decide +kernel
theorem dX6_pointed_152 : decode cX6_pointed 152 = .ok (.invokevirtual 136, 3) := by decide +kernel
theorem dX6_pointed_155 : decode cX6_pointed 155 = .ok (.aload_n 0, 1) := by decide +kernel
theorem dX6_pointed_156 : decode cX6_pointed 156 = .ok (.iload_n 2, 1) := by decide +kernel
theorem dX6_pointed_157 : decode cX6_pointed 157 = .ok (.lload 5, 2) := by decide +kernel
theorem dX6_pointed_159 : decode cX6_pointed 159 = .ok (.invokevirtual 136, 3) := by decide +kernel
theorem dX6_pointed_162 : decode cX6_pointed 162 = .ok (.lcmp, 1) := by decide +kernel
theorem dX6_pointed_163 : decode cX6_pointed 163 = .ok (.ifCond .ge 7, 3) := by decide +kernel
theorem dX6_pointed_166 : decode cX6_pointed 166 = .ok (.iconst 1, 1) := by decide +kernel
theorem dX6_pointed_167 : decode cX6_pointed 167 = .ok (.goto 4, 3) := by decide +kernel
theorem dX6_pointed_170 : decode cX6_pointed 170 = .ok (.iconst 0, 1) := by decide +kernel
theorem dX6_pointed_171 : decode cX6_pointed 171 = .ok (.iload_n 1, 1) := by decide +kernel
theorem dX6_pointed_172 : decode cX6_pointed 172 = .ok (.bipush 25, 2) := by decide +kernel
theorem dX6_pointed_174 : decode cX6_pointed 174 = .ok (.if_icmp .ne 7, 3) := by decide +kernel
theorem dX6_pointed_177 : decode cX6_pointed 177 = .ok (.iconst 1, 1) := by decide +kernel
theorem dX6_pointed_178 : decode cX6_pointed 178 = .ok (.goto 4, 3) := by decide +kernel
theorem dX6_pointed_181 : decode cX6_pointed 181 = .ok (.iconst 0, 1) := by decide +kernel
theorem dX6_pointed_182 : decode cX6_pointed 182 = .ok (.if_icmp .ne 7, 3) := by decide +kernel
theorem dX6_pointed_185 : decode cX6_pointed 185 = .ok (.lload_n 3, 1) := by decide +kernel
theorem dX6_pointed_186 : decode cX6_pointed 186 = .ok (.goto 5, 3) := by decide +kernel
theorem dX6_pointed_189 : decode cX6_pointed 189 = .ok (.lload 5, 2) := by decide +kernel
theorem dX6_pointed_191 : decode cX6_pointed 191 = .ok (.lreturn, 1) := by decide +kernel
theorem dX6_two_0 : decode cX6_two 0 = .ok (.iload_n 1, 1) := by decide +kernel
theorem dX6_two_1 : decode cX6_two 1 = .ok (.bipush 20, 2) := by decide +kernel
theorem dX6_two_3 : decode cX6_two 3 = .ok (.if_icmp .lt 40, 3) := by decide +kernel
theorem dX6_two_6 : decode cX6_two 6 = .ok (.iload_n 1, 1) := by decide +kernel
theorem dX6_two_7 : decode cX6_two 7 = .ok (.bipush 34, 2) := by decide +kernel
theorem dX6_two_9 : decode cX6_two 9 = .ok (.if_icmp .gt 34, 3) := by decide +kernel
theorem dX6_two_12 : decode cX6_two 12 = .ok (.aload_n 0, 1) := by decide +kernel
theorem dX6_two_13 : decode cX6_two 13 = .ok (.iload_n 2, 1) := by decide +kernel
theorem dX6_two_14 : decode cX6_two 14 = .ok (.bipush 8, 2) := by decide +kernel
theorem dX6_two_16 : decode cX6_two 16 = .ok (.invokevirtual 140, 3) := by decide +kernel
theorem dX6_two_19 : decode cX6_two 19 = .ok (.ifCond .ne 24, 3) := by decide +kernel
theorem dX6_two_22 : decode cX6_two 22 = .ok (.aload_n 0, 1) := by decide +kernel
theorem dX6_two_23 : decode cX6_two 23 = .ok (.iload_n 3, 1) := by decide +kernel
theorem dX6_two_24 : decode cX6_two 24 = .ok (.bipush 8, 2) := by decide +kernel
theorem dX6_two_26 : decode cX6_two 26 = .ok (.invokevirtual 140, 3) := by decide +kernel
theorem dX6_two_29 : decode cX6_two 29 = .ok (.ifCond .ne 14, 3) := by decide +kernel
theorem dX6_two_32 : decode cX6_two 32 = .ok (.aload_n 0, 1) := by decide +kernel
theorem dX6_two_33 : decode cX6_two 33 = .ok (.iload 4, 2) := by decide +kernel
theorem dX6_two_35 : decode cX6_two 35 = .ok (.bipush 8, 2) := by decide +kernel
theorem dX6_two_37 : decode cX6_two 37 = .ok (.invokevirtual 140, 3) := by decide +kernel
theorem dX6_two_40 : decode cX6_two 40 = .ok (.ifCond .eq 5, 3) := by decide +kernel
theorem dX6_two_43 : decode cX6_two 43 = .ok (.iconst (-1), 1) := by decide +kernel
theorem dX6_two_44 : decode cX6_two 44 = .ok (.ireturn, 1) := by decide +kernel
theorem dX6_two_45 : decode cX6_two 45 = .ok (.aload_n 0, 1) := by decide +kernel
theorem dX6_two_46 : decode cX6_two 46 = .ok (.getfield 7, 3) := by decide +kernel
theorem dX6_two_49 : decode cX6_two 49 = .ok (.iload_n 3, 1) := by decide +kernel
theorem dX6_two_50 : decode cX6_two 50 = .ok (.iaload, 1) := by decide +kernel
theorem dX6_two_51 : decode cX6_two 51 = .ok (.istore 5, 2) := by decide +kernel
theorem dX6_two_53 : decode cX6_two 53 = .ok (.iload_n 1, 1) := by decide +kernel
theorem dX6_two_54 : decode cX6_two 54 = .ok (.bipush 26, 2) := by decide +kernel
theorem dX6_two_56 : decode cX6_two 56 = .ok (.if_icmp .le 13, 3) := by decide +kernel
theorem dX6_two_59 : decode cX6_two 59 = .ok (.iload_n 1, 1) := by decide +kernel
theorem dX6_two_60 : decode cX6_two 60 = .ok (.bipush 30, 2) := by decide +kernel
theorem dX6_two_62 : decode cX6_two 62 = .ok (.if_icmp .ge 7, 3) := by decide +kernel
theorem dX6_two_65 : decode cX6_two 65 = .ok (.iconst 1, 1) := by decide +kernel
theorem dX6_two_66 : decode cX6_two 66 = .ok (.goto 4, 3) := by decide +kernel
theorem dX6_two_69 : decode cX6_two 69 = .ok (.iconst 0, 1) := by decide +kernel
theorem dX6_two_70 : decode cX6_two 70 = .ok (.istore 6, 2) := by decide +kernel
theorem dX6_two_72 : decode cX6_two 72 = .ok (.iload_n 1, 1) := by decide +kernel
theorem dX6_two_73 : decode cX6_two 73 = .ok (.bipush 26, 2) := by decide +kernel
theorem dX6_two_75 : decode cX6_two 75 = .ok (.if_icmp .le 13, 3) := by decide +kernel
theorem dX6_two_78 : decode cX6_two 78 = .ok (.iload_n 1, 1) := by decide +kernel
theorem dX6_two_79 : decode cX6_two 79 = .ok (.bipush 33, 2) := by decide +kernel
theorem dX6_two_81 : decode cX6_two 81 = .ok (.if_icmp .ge 7, 3) := by decide +kernel
theorem dX6_two_84 : decode cX6_two 84 = .ok (.iconst 1, 1) := by decide +kernel
theorem dX6_two_85 : decode cX6_two 85 = .ok (.goto 4, 3) := by decide +kernel
theorem dX6_two_88 : decode cX6_two 88 = .ok (.iconst 0, 1) := by decide +kernel
theorem dX6_two_89 : decode cX6_two 89 = .ok (.istore 7, 2) := by decide +kernel
theorem dX6_two_91 : decode cX6_two 91 = .ok (.iload_n 1, 1) := by decide +kernel
theorem dX6_two_92 : decode cX6_two 92 = .ok (.bipush 32, 2) := by decide +kernel
theorem dX6_two_94 : decode cX6_two 94 = .ok (.if_icmp .le 7, 3) := by decide +kernel
theorem dX6_two_97 : decode cX6_two 97 = .ok (.iconst 1, 1) := by decide +kernel
theorem dX6_two_98 : decode cX6_two 98 = .ok (.goto 4, 3) := by decide +kernel
theorem dX6_two_101 : decode cX6_two 101 = .ok (.iconst 0, 1) := by decide +kernel
theorem dX6_two_102 : decode cX6_two 102 = .ok (.istore 8, 2) := by decide +kernel
theorem dX6_two_104 : decode cX6_two 104 = .ok (.iload 6, 2) := by decide +kernel
theorem dX6_two_106 : decode cX6_two 106 = .ok (.ifCond .eq 16, 3) := by decide +kernel
theorem dX6_two_109 : decode cX6_two 109 = .ok (.aload_n 0, 1) := by decide +kernel
theorem dX6_two_110 : decode cX6_two 110 = .ok (.getfield 7, 3) := by decide +kernel
theorem dX6_two_113 : decode cX6_two 113 = .ok (.iload 4, 2) := by decide +kernel
theorem dX6_two_115 : decode cX6_two 115 = .ok (.iaload, 1) := by decide +kernel
theorem dX6_two_116 : decode cX6_two 116 = .ok (.ifCond .eq 20, 3) := by decide +kernel
theorem dX6_two_119 : decode cX6_two 119 = .ok (.goto 15, 3) := by decide +kernel
theorem dX6_two_122 : decode cX6_two 122 = .ok (.aload_n 0, 1) := by decide +kernel
theorem dX6_two_123 : decode cX6_two 123 = .ok (.getfield 7, 3) := by decide +kernel
theorem dX6_two_126 : decode cX6_two 126 = .ok (.iload 4, 2) := by decide +kernel
theorem dX6_two_128 : decode cX6_two 128 = .ok (.iaload, 1) := by decide +kernel
theorem dX6_two_129 : decode cX6_two 129 = .ok (.iload 5, 2) := by decide +kernel
theorem dX6_two_131 : decode cX6_two 131 = .ok (.if_icmp .eq 5, 3) := by decide +kernel
theorem dX6_two_134 : decode cX6_two 134 = .ok (.iconst (-1), 1) := by decide +kernel
theorem dX6_two_135 : decode cX6_two 135 = .ok (.ireturn, 1) := by decide +kernel
theorem dX6_two_136 : decode cX6_two 136 = .ok (.iload 7, 2) := by decide +kernel
theorem dX6_two_138 : decode cX6_two 138 = .ok (.ifCond .eq 9, 3) := by decide +kernel
theorem dX6_two_141 : decode cX6_two 141 = .ok (.iload 5, 2) := by decide +kernel
theorem dX6_two_143 : decode cX6_two 143 = .ok (.iconst 1, 1) := by decide +kernel
theorem dX6_two_144 : decode cX6_two 144 = .ok (.if_icmp .gt 13, 3) := by decide +kernel
theorem dX6_two_147 : decode cX6_two 147 = .ok (.iload 8, 2) := by decide +kernel
theorem dX6_two_149 : decode cX6_two 149 = .ok (.ifCond .eq 10, 3) := by decide +kernel
theorem dX6_two_152 : decode cX6_two 152 = .ok (.iload 5, 2) := by decide +kernel
theorem dX6_two_154 : decode cX6_two 154 = .ok (.ifCond .ne 5, 3) := by decide +kernel
theorem dX6_two_157 : decode cX6_two 157 = .ok (.iconst (-1), 1) := by decide +kernel
theorem dX6_two_158 : decode cX6_two 158 = .ok (.ireturn, 1) := by decide +kernel
theorem dX6_two_159 : decode cX6_two 159 = .ok (.iload_n 1, 1) := by decide +kernel
theorem dX6_two_160 : decode cX6_two 160 = .ok (.bipush 21, 2) := by decide +kernel
theorem dX6_two_162 : decode cX6_two 162 = .ok (.if_icmp .le 13, 3) := by decide +kernel
theorem dX6_two_165 : decode cX6_two 165 = .ok (.iload_n 1, 1) := by decide +kernel
theorem dX6_two_166 : decode cX6_two 166 = .ok (.bipush 25, 2) := by decide +kernel
theorem dX6_two_168 : decode cX6_two 168 = .ok (.if_icmp .ge 7, 3) := by decide +kernel
theorem dX6_two_171 : decode cX6_two 171 = .ok (.iconst 1, 1) := by decide +kernel
theorem dX6_two_172 : decode cX6_two 172 = .ok (.goto 4, 3) := by decide +kernel
theorem dX6_two_175 : decode cX6_two 175 = .ok (.iconst 0, 1) := by decide +kernel
theorem dX6_two_176 : decode cX6_two 176 = .ok (.istore 9, 2) := by decide +kernel
theorem dX6_two_178 : decode cX6_two 178 = .ok (.iload 5, 2) := by decide +kernel
theorem dX6_two_180 : decode cX6_two 180 = .ok (.iconst 2, 1) := by decide +kernel
theorem dX6_two_181 : decode cX6_two 181 = .ok (.if_icmp .ge 40, 3) := by decide +kernel
theorem dX6_two_184 : decode cX6_two 184 = .ok (.iload_n 1, 1) := by decide +kernel
theorem dX6_two_185 : decode cX6_two 185 = .ok (.bipush 23, 2) := by decide +kernel
theorem dX6_two_187 : decode cX6_two 187 = .ok (.if_icmp .eq 9, 3) := by decide +kernel
theorem dX6_two_190 : decode cX6_two 190 = .ok (.iload_n 1, 1) := by decide +kernel
theorem dX6_two_191 : decode cX6_two 191 = .ok (.bipush 24, 2) := by decide +kernel
theorem dX6_two_193 : decode cX6_two 193 = .ok (.if_icmp .ne 28, 3) := by decide +kernel
theorem dX6_two_196 : decode cX6_two 196 = .ok (.aload_n 0, 1) := by decide +kernel
theorem dX6_two_197 : decode cX6_two 197 = .ok (.getfield 16, 3) := by decide +kernel
theorem dX6_two_200 : decode cX6_two 200 = .ok (.iload 4, 2) := by decide +kernel
theorem dX6_two_202 : decode cX6_two 202 = .ok (.laload, 1) := by decide +kernel
theorem dX6_two_203 : decode cX6_two 203 = .ok (.lconst 0, 1) := by decide +kernel
theorem dX6_two_204 : decode cX6_two 204 = .ok (.lcmp, 1) := by decide +kernel
theorem dX6_two_205 : decode cX6_two 205 = .ok (.ifCond .ne 16, 3) := by decide +kernel
theorem dX6_two_208 : decode cX6_two 208 = .ok (.aload_n 0, 1) := by decide +kernel
theorem dX6_two_209 : decode cX6_two 209 = .ok (.dup, 1) := by decide +kernel
theorem dX6_two_210 : decode cX6_two 210 = .ok (.getfield 55, 3) := by decide +kernel
theorem dX6_two_213 : decode cX6_two 213 = .ok (.iconst 1, 1) := by decide +kernel
theorem dX6_two_214 : decode cX6_two 214 = .ok (.iadd, 1) := by decide +kernel
theorem dX6_two_215 : decode cX6_two 215 = .ok (.putfield 55, 3) := by decide +kernel
theorem dX6_two_218 : decode cX6_two 218 = .ok (.bipush (-2), 2) := by decide +kernel
theorem dX6_two_220 : decode cX6_two 220 = .ok (.ireturn, 1) := by decide +kernel
theorem dX6_two_221 : decode cX6_two 221 = .ok (.iload 5, 2) := by decide +kernel
theorem dX6_two_223 : decode cX6_two 223 = .ok (.iconst 1, 1) := by decide +kernel
theorem dX6_two_224 : decode cX6_two 224 = .ok (.if_icmp .le 22, 3) := by decide +kernel
theorem dX6_two_227 : decode cX6_two 227 = .ok (.iload_n 1, 1) := by decide +kernel
theorem dX6_two_228 : decode cX6_two 228 = .ok (.bipush 25, 2) := by decide +kernel
theorem dX6_two_230 : decode cX6_two 230 = .ok (.if_icmp .ge 16, 3) := by decide +kernel
theorem dX6_two_233 : decode cX6_two 233 = .ok (.aload_n 0, 1) := by decide +kernel
theorem dX6_two_234 : decode cX6_two 234 = .ok (.iload_n 3, 1) := by decide +kernel
theorem dX6_two_235 : decode cX6_two 235 = .ok (.iload_n 1, 1) := by decide +kernel
theorem dX6_two_236 : decode cX6_two 236 = .ok (.invokevirtual 191, 3) := by decide +kernel
theorem dX6_two_239 : decode cX6_two 239 = .ok (.aload_n 0, 1) := by decide +kernel
theorem dX6_two_240 : decode cX6_two 240 = .ok (.iload 4, 2) := by decide +kernel
theorem dX6_two_242 : decode cX6_two 242 = .ok (.iload_n 1, 1) := by decide +kernel
theorem dX6_two_243 : decode cX6_two 243 = .ok (.invokevirtual 191, 3) := by decide +kernel
theorem dX6_two_246 : decode cX6_two 246 = .ok (.iload 8, 2) := by decide +kernel
theorem dX6_two_248 : decode cX6_two 248 = .ok (.ifCond .eq 37, 3) := by decide +kernel
theorem dX6_two_251 : decode cX6_two 251 = .ok (.aload_n 0, 1) := by decide +kernel
theorem dX6_two_252 : decode cX6_two 252 = .ok (.iload 5, 2) := by decide +kernel
theorem dX6_two_254 : decode cX6_two 254 = .ok (.aload_n 0, 1) := by decide +kernel
theorem dX6_two_255 : decode cX6_two 255 = .ok (.getfield 16, 3) := by decide +kernel
theorem dX6_two_258 : decode cX6_two 258 = .ok (.iload_n 3, 1) := by decide +kernel
theorem dX6_two_259 : decode cX6_two 259 = .ok (.laload, 1) := by decide +kernel
theorem dX6_two_260 : decode cX6_two 260 = .ok (.aload_n 0, 1) := by decide +kernel
theorem dX6_two_261 : decode cX6_two 261 = .ok (.getfield 16, 3) := by decide +kernel
theorem dX6_two_264 : decode cX6_two 264 = .ok (.iload 4, 2) := by decide +kernel
theorem dX6_two_266 : decode cX6_two 266 = .ok (.laload, 1) := by decide +kernel
theorem dX6_two_267 : decode cX6_two 267 = .ok (.iload_n 1, 1) := by decide +kernel
theorem dX6_two_268 : decode cX6_two 268 = .ok (.bipush 33, 2) := by decide +kernel
theorem dX6_two_270 : decode cX6_two 270 = .ok (.if_icmp .ne 7, 3) := by decide +kernel
theorem dX6_two_273 : decode cX6_two 273 = .ok (.iconst (-1), 1) := by decide +kernel
theorem dX6_two_274 : decode cX6_two 274 = .ok (.goto 4, 3) := by decide +kernel
theorem dX6_two_277 : decode cX6_two 277 = .ok (.iconst 1, 1) := by decide +kernel
theorem dX6_two_278 : decode cX6_two 278 = .ok (.invokevirtual 195, 3) := by decide +kernel
theorem dX6_two_281 : decode cX6_two 281 = .ok (.i2l, 1) := by decide +kernel
theorem dX6_two_282 : decode cX6_two 282 = .ok (.goto 70, 3) := by decide +kernel
theorem dX6_two_285 : decode cX6_two 285 = .ok (.iload 5, 2) := by decide +kernel
theorem dX6_two_287 : decode cX6_two 287 = .ok (.iconst 2, 1) := by decide +kernel
theorem dX6_two_288 : decode cX6_two 288 = .ok (.if_icmp .ge 35, 3) := by decide +kernel
theorem dX6_two_291 : decode cX6_two 291 = .ok (.aload_n 0, 1) := by decide +kernel
theorem dX6_two_292 : decode cX6_two 292 = .ok (.iload_n 1, 1) := by decide +kernel
theorem dX6_two_293 : decode cX6_two 293 = .ok (.iload 5, 2) := by decide +kernel
theorem dX6_two_295 : decode cX6_two 295 = .ok (.iconst 1, 1) := by decide +kernel
theorem dX6_two_296 : decode cX6_two 296 = .ok (.if_icmp .ne 7, 3) := by decide +kernel
theorem dX6_two_299 : decode cX6_two 299 = .ok (.iconst 1, 1) := by decide +kernel
theorem dX6_two_300 : decode cX6_two 300 = .ok (.goto 4, 3) := by decide +kernel
theorem dX6_two_303 : decode cX6_two 303 = .ok (.iconst 0, 1) := by decide +kernel
theorem dX6_two_304 : decode cX6_two 304 = .ok (.aload_n 0, 1) := by decide +kernel
theorem dX6_two_305 : decode cX6_two 305 = .ok (.getfield 16, 3) := by decide +kernel
theorem dX6_two_308 : decode cX6_two 308 = .ok (.iload_n 3, 1) := by decide +kernel
theorem dX6_two_309 : decode cX6_two 309 = .ok (.laload, 1) := by decide +kernel
theorem dX6_two_310 : decode cX6_two 310 = .ok (.aload_n 0, 1) := by decide +kernel
theorem dX6_two_311 : decode cX6_two 311 = .ok (.getfield 16, 3) := by decide +kernel
theorem dX6_two_314 : decode cX6_two 314 = .ok (.iload 4, 2) := by decide +kernel
theorem dX6_two_316 : decode cX6_two 316 = .ok (.laload, 1) := by decide +kernel
theorem dX6_two_317 : decode cX6_two 317 = .ok (.invokevirtual 199, 3) := by decide +kernel
theorem dX6_two_320 : decode cX6_two 320 = .ok (.goto 32, 3) := by decide +kernel
theorem dX6_two_323 : decode cX6_two 323 = .ok (.aload_n 0, 1) := by decide +kernel
theorem dX6_two_324 : decode cX6_two 324 = .ok (.iload_n 1, 1) := by decide +kernel
theorem dX6_two_325 : decode cX6_two 325 = .ok (.iload 5, 2) := by decide +kernel
theorem dX6_two_327 : decode cX6_two 327 = .ok (.iconst 3, 1) := by decide +kernel
theorem dX6_two_328 : decode cX6_two 328 = .ok (.if_icmp .ne 7, 3) := by decide +kernel
theorem dX6_two_331 : decode cX6_two 331 = .ok (.iconst 1, 1) := by decide +kernel
theorem dX6_two_332 : decode cX6_two 332 = .ok (.goto 4, 3) := by decide +kernel
theorem dX6_two_335 : decode cX6_two 335 = .ok (.iconst 0, 1) := by decide +kernel
theorem dX6_two_336 : decode cX6_two 336 = .ok (.aload_n 0, 1) := by decide +kernel
theorem dX6_two_337 : decode cX6_two 337 = .ok (.getfield 16, 3) := by decide +kernel
theorem dX6_two_340 : decode cX6_two 340 = .ok (.iload_n 3, 1) := by decide +kernel
theorem dX6_two_341 : decode cX6_two 341 = .ok (.laload, 1) := by decide +kernel
theorem dX6_two_342 : decode cX6_two 342 = .ok (.aload_n 0, 1) := by decide +kernel
theorem dX6_two_343 : decode cX6_two 343 = .ok (.getfield 16, 3) := by decide +kernel
theorem dX6_two_346 : decode cX6_two 346 = .ok (.iload 4, 2) := by decide +kernel
theorem dX6_two_348 : decode cX6_two 348 = .ok (.laload, 1) := by decide +kernel
theorem dX6_two_349 : decode cX6_two 349 = .ok (.invokevirtual 203, 3) := by decide +kernel
theorem dX6_two_352 : decode cX6_two 352 = .ok (.lstore 10, 2) := by decide +kernel
theorem dX6_two_354 : decode cX6_two 354 = .ok (.aload_n 0, 1) := by decide +kernel
theorem dX6_two_355 : decode cX6_two 355 = .ok (.getfield 20, 3) := by decide +kernel
theorem dX6_two_358 : decode cX6_two 358 = .ok (.iload_n 3, 1) := by decide +kernel
theorem dX6_two_359 : decode cX6_two 359 = .ok (.baload, 1) := by decide +kernel
theorem dX6_two_360 : decode cX6_two 360 = .ok (.ifCond .eq 47, 3) := by decide +kernel
theorem dX6_two_363 : decode cX6_two 363 = .ok (.aload_n 0, 1) := by decide +kernel
theorem dX6_two_364 : decode cX6_two 364 = .ok (.getfield 20, 3) := by decide +kernel
theorem dX6_two_367 : decode cX6_two 367 = .ok (.iload 4, 2) := by decide +kernel
theorem dX6_two_369 : decode cX6_two 369 = .ok (.baload, 1) := by decide +kernel
theorem dX6_two_370 : decode cX6_two 370 = .ok (.ifCond .eq 37, 3) := by decide +kernel
theorem dX6_two_373 : decode cX6_two 373 = .ok (.iload 5, 2) := by decide +kernel
theorem dX6_two_375 : decode cX6_two 375 = .ok (.iconst 2, 1) := by decide +kernel
theorem dX6_two_376 : decode cX6_two 376 = .ok (.if_icmp .ge 27, 3) := by decide +kernel
theorem dX6_two_379 : decode cX6_two 379 = .ok (.iload 9, 2) := by decide +kernel
theorem dX6_two_381 : decode cX6_two 381 = .ok (.ifCond .eq 22, 3) := by decide +kernel
theorem dX6_two_384 : decode cX6_two 384 = .ok (.aload_n 0, 1) := by decide +kernel
theorem dX6_two_385 : decode cX6_two 385 = .ok (.getfield 13, 3) := by decide +kernel
theorem dX6_two_388 : decode cX6_two 388 = .ok (.iload_n 3, 1) := by decide +kernel
theorem dX6_two_389 : decode cX6_two 389 = .ok (.iaload, 1) := by decide +kernel
theorem dX6_two_390 : decode cX6_two 390 = .ok (.ifCond .eq 13, 3) := by decide +kernel
theorem dX6_two_393 : decode cX6_two 393 = .ok (.aload_n 0, 1) := by decide +kernel
theorem dX6_two_394 : decode cX6_two 394 = .ok (.getfield 13, 3) := by decide +kernel
theorem dX6_two_397 : decode cX6_two 397 = .ok (.iload 4, 2) := by decide +kernel
theorem dX6_two_399 : decode cX6_two 399 = .ok (.iaload, 1) := by decide +kernel
theorem dX6_two_400 : decode cX6_two 400 = .ok (.ifCond .ne 7, 3) := by decide +kernel
theorem dX6_two_403 : decode cX6_two 403 = .ok (.iconst 1, 1) := by decide +kernel
theorem dX6_two_404 : decode cX6_two 404 = .ok (.goto 4, 3) := by decide +kernel
theorem dX6_two_407 : decode cX6_two 407 = .ok (.iconst 0, 1) := by decide +kernel
theorem dX6_two_408 : decode cX6_two 408 = .ok (.istore 12, 2) := by decide +kernel
theorem dX6_two_410 : decode cX6_two 410 = .ok (.aload_n 0, 1) := by decide +kernel
theorem dX6_two_411 : decode cX6_two 411 = .ok (.getfield 13, 3) := by decide +kernel
theorem dX6_two_414 : decode cX6_two 414 = .ok (.iload_n 3, 1) := by decide +kernel
theorem dX6_two_415 : decode cX6_two 415 = .ok (.iaload, 1) := by decide +kernel
theorem dX6_two_416 : decode cX6_two 416 = .ok (.aload_n 0, 1) := by decide +kernel
theorem dX6_two_417 : decode cX6_two 417 = .ok (.getfield 13, 3) := by decide +kernel
theorem dX6_two_420 : decode cX6_two 420 = .ok (.iload 4, 2) := by decide +kernel
theorem dX6_two_422 : decode cX6_two 422 = .ok (.iaload, 1) := by decide +kernel
theorem dX6_two_423 : decode cX6_two 423 = .ok (.ior, 1) := by decide +kernel
theorem dX6_two_424 : decode cX6_two 424 = .ok (.istore 13, 2) := by decide +kernel
theorem dX6_two_426 : decode cX6_two 426 = .ok (.aload_n 0, 1) := by decide +kernel
theorem dX6_two_427 : decode cX6_two 427 = .ok (.getfield 7, 3) := by decide +kernel
theorem dX6_two_430 : decode cX6_two 430 = .ok (.iload_n 2, 1) := by decide +kernel
theorem dX6_two_431 : decode cX6_two 431 = .ok (.iload 8, 2) := by decide +kernel
theorem dX6_two_433 : decode cX6_two 433 = .ok (.ifCond .eq 7, 3) := by decide +kernel
theorem dX6_two_436 : decode cX6_two 436 = .ok (.iconst 0, 1) := by decide +kernel
theorem dX6_two_437 : decode cX6_two 437 = .ok (.goto 5, 3) := by decide +kernel
theorem dX6_two_440 : decode cX6_two 440 = .ok (.iload 5, 2) := by decide +kernel
theorem dX6_two_442 : decode cX6_two 442 = .ok (.iastore, 1) := by decide +kernel
theorem dX6_two_443 : decode cX6_two 443 = .ok (.aload_n 0, 1) := by decide +kernel
theorem dX6_two_444 : decode cX6_two 444 = .ok (.iload_n 2, 1) := by decide +kernel
theorem dX6_two_445 : decode cX6_two 445 = .ok (.lload 10, 2) := by decide +kernel
theorem dX6_two_447 : decode cX6_two 447 = .ok (.iload 13, 2) := by decide +kernel
theorem dX6_two_449 : decode cX6_two 449 = .ok (.iload 12, 2) := by decide +kernel
theorem dX6_two_451 : decode cX6_two 451 = .ok (.invokevirtual 148, 3) := by decide +kernel
theorem dX6_two_454 : decode cX6_two 454 = .ok (.iconst 0, 1) := by decide +kernel
theorem dX6_two_455 : decode cX6_two 455 = .ok (.ireturn, 1) := by decide +kernel
theorem dX6_move_0 : decode cX6_move 0 = .ok (.aload_n 0, 1) := by decide +kernel
theorem dX6_move_1 : decode cX6_move 1 = .ok (.iload_n 1, 1) := by decide +kernel
theorem dX6_move_2 : decode cX6_move 2 = .ok (.bipush 8, 2) := by decide +kernel
theorem dX6_move_4 : decode cX6_move 4 = .ok (.invokevirtual 140, 3) := by decide +kernel
theorem dX6_move_7 : decode cX6_move 7 = .ok (.ifCond .ne 13, 3) := by decide +kernel
theorem dX6_move_10 : decode cX6_move 10 = .ok (.aload_n 0, 1) := by decide +kernel
theorem dX6_move_11 : decode cX6_move 11 = .ok (.iload_n 2, 1) := by decide +kernel
theorem dX6_move_12 : decode cX6_move 12 = .ok (.bipush 8, 2) := by decide +kernel
theorem dX6_move_14 : decode cX6_move 14 = .ok (.invokevirtual 140, 3) := by decide +kernel
theorem dX6_move_17 : decode cX6_move 17 = .ok (.ifCond .eq 5, 3) := by decide +kernel
theorem dX6_move_20 : decode cX6_move 20 = .ok (.iconst (-1), 1) := by decide +kernel
theorem dX6_move_21 : decode cX6_move 21 = .ok (.ireturn, 1) := by decide +kernel
theorem dX6_move_22 : decode cX6_move 22 = .ok (.aload_n 0, 1) := by decide +kernel
theorem dX6_move_23 : decode cX6_move 23 = .ok (.getfield 7, 3) := by decide +kernel
theorem dX6_move_26 : decode cX6_move 26 = .ok (.iload_n 1, 1) := by decide +kernel
theorem dX6_move_27 : decode cX6_move 27 = .ok (.aload_n 0, 1) := by decide +kernel
theorem dX6_move_28 : decode cX6_move 28 = .ok (.getfield 7, 3) := by decide +kernel
theorem dX6_move_31 : decode cX6_move 31 = .ok (.iload_n 2, 1) := by decide +kernel
theorem dX6_move_32 : decode cX6_move 32 = .ok (.iaload, 1) := by decide +kernel
theorem dX6_move_33 : decode cX6_move 33 = .ok (.iastore, 1) := by decide +kernel
theorem dX6_move_34 : decode cX6_move 34 = .ok (.aload_n 0, 1) := by decide +kernel
theorem dX6_move_35 : decode cX6_move 35 = .ok (.iload_n 1, 1) := by decide +kernel
theorem dX6_move_36 : decode cX6_move 36 = .ok (.aload_n 0, 1) := by decide +kernel
theorem dX6_move_37 : decode cX6_move 37 = .ok (.getfield 16, 3) := by decide +kernel
theorem dX6_move_40 : decode cX6_move 40 = .ok (.iload_n 2, 1) := by decide +kernel
theorem dX6_move_41 : decode cX6_move 41 = .ok (.laload, 1) := by decide +kernel
theorem dX6_move_42 : decode cX6_move 42 = .ok (.aload_n 0, 1) := by decide +kernel
theorem dX6_move_43 : decode cX6_move 43 = .ok (.getfield 13, 3) := by decide +kernel
theorem dX6_move_46 : decode cX6_move 46 = .ok (.iload_n 2, 1) := by decide +kernel
theorem dX6_move_47 : decode cX6_move 47 = .ok (.iaload, 1) := by decide +kernel
theorem dX6_move_48 : decode cX6_move 48 = .ok (.aload_n 0, 1) := by decide +kernel
theorem dX6_move_49 : decode cX6_move 49 = .ok (.getfield 20, 3) := by decide +kernel
theorem dX6_move_52 : decode cX6_move 52 = .ok (.iload_n 2, 1) := by decide +kernel
theorem dX6_move_53 : decode cX6_move 53 = .ok (.baload, 1) := by decide +kernel
theorem dX6_move_54 : decode cX6_move 54 = .ok (.invokevirtual 148, 3) := by decide +kernel
theorem dX6_move_57 : decode cX6_move 57 = .ok (.iconst 0, 1) := by decide +kernel
theorem dX6_move_58 : decode cX6_move 58 = .ok (.ireturn, 1) := by decide +kernel
theorem dX6_exception_0 : decode cX6_exception 0 = .ok (.aload_n 0, 1) := by decide +kernel
theorem dX6_exception_1 : decode cX6_exception 1 = .ok (.dup, 1) := by decide +kernel
theorem dX6_exception_2 : decode cX6_exception 2 = .ok (.getfield 55, 3) := by decide +kernel
theorem dX6_exception_5 : decode cX6_exception 5 = .ok (.iconst 1, 1) := by decide +kernel
theorem dX6_exception_6 : decode cX6_exception 6 = .ok (.iadd, 1) := by decide +kernel
theorem dX6_exception_7 : decode cX6_exception 7 = .ok (.putfield 55, 3) := by decide +kernel
theorem dX6_exception_10 : decode cX6_exception 10 = .ok (.iload_n 1, 1) := by decide +kernel
theorem dX6_exception_11 : decode cX6_exception 11 = .ok (.ireturn, 1) := by decide +kernel
theorem dX6_array_0 : decode cX6_array 0 = .ok (.aload_n 0, 1) := by decide +kernel
theorem dX6_array_1 : decode cX6_array 1 = .ok (.iload_n 1, 1) := by decide +kernel
theorem dX6_array_2 : decode cX6_array 2 = .ok (.iconst 4, 1) := by decide +kernel
theorem dX6_array_3 : decode cX6_array 3 = .ok (.invokevirtual 140, 3) := by decide +kernel
theorem dX6_array_6 : decode cX6_array 6 = .ok (.ifCond .ne 45, 3) := by decide +kernel
theorem dX6_array_9 : decode cX6_array 9 = .ok (.aload_n 0, 1) := by decide +kernel
theorem dX6_array_10 : decode cX6_array 10 = .ok (.iload_n 2, 1) := by decide +kernel
theorem dX6_array_11 : decode cX6_array 11 = .ok (.bipush 8, 2) := by decide +kernel
theorem dX6_array_13 : decode cX6_array 13 = .ok (.invokevirtual 140, 3) := by decide +kernel
theorem dX6_array_16 : decode cX6_array 16 = .ok (.ifCond .ne 35, 3) := by decide +kernel
theorem dX6_array_19 : decode cX6_array 19 = .ok (.aload_n 0, 1) := by decide +kernel
theorem dX6_array_20 : decode cX6_array 20 = .ok (.iload_n 3, 1) := by decide +kernel
theorem dX6_array_21 : decode cX6_array 21 = .ok (.bipush 8, 2) := by decide +kernel
theorem dX6_array_23 : decode cX6_array 23 = .ok (.invokevirtual 140, 3) := by decide +kernel
theorem dX6_array_26 : decode cX6_array 26 = .ok (.ifCond .ne 25, 3) := by decide +kernel
theorem dX6_array_29 : decode cX6_array 29 = .ok (.aload_n 0, 1) := by decide +kernel
theorem dX6_array_30 : decode cX6_array 30 = .ok (.getfield 7, 3) := by decide +kernel
theorem dX6_array_33 : decode cX6_array 33 = .ok (.iload_n 3, 1) := by decide +kernel
theorem dX6_array_34 : decode cX6_array 34 = .ok (.iaload, 1) := by decide +kernel
theorem dX6_array_35 : decode cX6_array 35 = .ok (.ifCond .ne 16, 3) := by decide +kernel
theorem dX6_array_38 : decode cX6_array 38 = .ok (.aload_n 0, 1) := by decide +kernel
theorem dX6_array_39 : decode cX6_array 39 = .ok (.getfield 16, 3) := by decide +kernel
theorem dX6_array_42 : decode cX6_array 42 = .ok (.iload_n 3, 1) := by decide +kernel
theorem dX6_array_43 : decode cX6_array 43 = .ok (.laload, 1) := by decide +kernel
theorem dX6_array_44 : decode cX6_array 44 = .ok (.ldc2_w 206, 3) := by decide +kernel
theorem dX6_array_47 : decode cX6_array 47 = .ok (.lcmp, 1) := by decide +kernel
theorem dX6_array_48 : decode cX6_array 48 = .ok (.ifCond .le 5, 3) := by decide +kernel
theorem dX6_array_51 : decode cX6_array 51 = .ok (.iconst (-1), 1) := by decide +kernel
theorem dX6_array_52 : decode cX6_array 52 = .ok (.ireturn, 1) := by decide +kernel
theorem dX6_array_53 : decode cX6_array 53 = .ok (.aload_n 0, 1) := by decide +kernel
theorem dX6_array_54 : decode cX6_array 54 = .ok (.getfield 16, 3) := by decide +kernel
theorem dX6_array_57 : decode cX6_array 57 = .ok (.iload_n 3, 1) := by decide +kernel
theorem dX6_array_58 : decode cX6_array 58 = .ok (.laload, 1) := by decide +kernel
theorem dX6_array_59 : decode cX6_array 59 = .ok (.lconst 0, 1) := by decide +kernel
theorem dX6_array_60 : decode cX6_array 60 = .ok (.lcmp, 1) := by decide +kernel
theorem dX6_array_61 : decode cX6_array 61 = .ok (.ifCond .ge 10, 3) := by decide +kernel
theorem dX6_array_64 : decode cX6_array 64 = .ok (.aload_n 0, 1) := by decide +kernel
theorem dX6_array_65 : decode cX6_array 65 = .ok (.bipush (-5), 2) := by decide +kernel
theorem dX6_array_67 : decode cX6_array 67 = .ok (.invokevirtual 208, 3) := by decide +kernel
theorem dX6_array_70 : decode cX6_array 70 = .ok (.ireturn, 1) := by decide +kernel
theorem dX6_array_71 : decode cX6_array 71 = .ok (.aload_n 0, 1) := by decide +kernel
theorem dX6_array_72 : decode cX6_array 72 = .ok (.iload_n 3, 1) := by decide +kernel
theorem dX6_array_73 : decode cX6_array 73 = .ok (.bipush 40, 2) := by decide +kernel
theorem dX6_array_75 : decode cX6_array 75 = .ok (.invokevirtual 191, 3) := by decide +kernel
theorem dX6_array_78 : decode cX6_array 78 = .ok (.aload_n 0, 1) := by decide +kernel
theorem dX6_array_79 : decode cX6_array 79 = .ok (.getfield 24, 3) := by decide +kernel
theorem dX6_array_82 : decode cX6_array 82 = .ok (.iload_n 1, 1) := by decide +kernel
theorem dX6_array_83 : decode cX6_array 83 = .ok (.iconst (-1), 1) := by decide +kernel
theorem dX6_array_84 : decode cX6_array 84 = .ok (.iastore, 1) := by decide +kernel
theorem dX6_array_85 : decode cX6_array 85 = .ok (.iconst 0, 1) := by decide +kernel
theorem dX6_array_86 : decode cX6_array 86 = .ok (.istore 4, 2) := by decide +kernel
theorem dX6_array_88 : decode cX6_array 88 = .ok (.aload_n 0, 1) := by decide +kernel
theorem dX6_array_89 : decode cX6_array 89 = .ok (.getfield 24, 3) := by decide +kernel
theorem dX6_array_92 : decode cX6_array 92 = .ok (.iconst 0, 1) := by decide +kernel
theorem dX6_array_93 : decode cX6_array 93 = .ok (.iaload, 1) := by decide +kernel
theorem dX6_array_94 : decode cX6_array 94 = .ok (.iload 4, 2) := by decide +kernel
theorem dX6_array_96 : decode cX6_array 96 = .ok (.if_icmp .eq 36, 3) := by decide +kernel
theorem dX6_array_99 : decode cX6_array 99 = .ok (.aload_n 0, 1) := by decide +kernel
theorem dX6_array_100 : decode cX6_array 100 = .ok (.getfield 24, 3) := by decide +kernel
theorem dX6_array_103 : decode cX6_array 103 = .ok (.iconst 1, 1) := by decide +kernel
theorem dX6_array_104 : decode cX6_array 104 = .ok (.iaload, 1) := by decide +kernel
theorem dX6_array_105 : decode cX6_array 105 = .ok (.iload 4, 2) := by decide +kernel
theorem dX6_array_107 : decode cX6_array 107 = .ok (.if_icmp .eq 25, 3) := by decide +kernel
theorem dX6_array_110 : decode cX6_array 110 = .ok (.aload_n 0, 1) := by decide +kernel
theorem dX6_array_111 : decode cX6_array 111 = .ok (.getfield 24, 3) := by decide +kernel
theorem dX6_array_114 : decode cX6_array 114 = .ok (.iconst 2, 1) := by decide +kernel
theorem dX6_array_115 : decode cX6_array 115 = .ok (.iaload, 1) := by decide +kernel
theorem dX6_array_116 : decode cX6_array 116 = .ok (.iload 4, 2) := by decide +kernel
theorem dX6_array_118 : decode cX6_array 118 = .ok (.if_icmp .eq 14, 3) := by decide +kernel
theorem dX6_array_121 : decode cX6_array 121 = .ok (.aload_n 0, 1) := by decide +kernel
theorem dX6_array_122 : decode cX6_array 122 = .ok (.getfield 24, 3) := by decide +kernel
theorem dX6_array_125 : decode cX6_array 125 = .ok (.iconst 3, 1) := by decide +kernel
theorem dX6_array_126 : decode cX6_array 126 = .ok (.iaload, 1) := by decide +kernel
theorem dX6_array_127 : decode cX6_array 127 = .ok (.iload 4, 2) := by decide +kernel
theorem dX6_array_129 : decode cX6_array 129 = .ok (.if_icmp .ne 9, 3) := by decide +kernel
theorem dX6_array_132 : decode cX6_array 132 = .ok (.iinc 4 1, 3) := by decide +kernel
theorem dX6_array_135 : decode cX6_array 135 = .ok (.goto (-47), 3) := by decide +kernel
theorem dX6_array_138 : decode cX6_array 138 = .ok (.aload_n 0, 1) := by decide +kernel
theorem dX6_array_139 : decode cX6_array 139 = .ok (.getfield 24, 3) := by decide +kernel
theorem dX6_array_142 : decode cX6_array 142 = .ok (.iload_n 1, 1) := by decide +kernel
theorem dX6_array_143 : decode cX6_array 143 = .ok (.iload 4, 2) := by decide +kernel
theorem dX6_array_145 : decode cX6_array 145 = .ok (.iastore, 1) := by decide +kernel
theorem dX6_array_146 : decode cX6_array 146 = .ok (.aload_n 0, 1) := by decide +kernel
theorem dX6_array_147 : decode cX6_array 147 = .ok (.getfield 27, 3) := by decide +kernel
theorem dX6_array_150 : decode cX6_array 150 = .ok (.iload 4, 2) := by decide +kernel
