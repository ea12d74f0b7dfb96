theorem w_0 : (.selects RX1 yX1_isNan yX1_isNan : Cond) ∈ sm_T := sm_in (List.mem_of_getElem? (i := 0) (by decide +kernel)) rfl
theorem w_1 : (.selects RX5 yX5_put yX5_put : Cond) ∈ sm_T := sm_in (List.mem_of_getElem? (i := 1) (by decide +kernel)) rfl
theorem w_2 : (.selects RX1 yX1_rounded yX1_rounded : Cond) ∈ sm_T := sm_in (List.mem_of_getElem? (i := 2) (by decide +kernel)) rfl
theorem w_3 : (.selects RX1 yX1_signed yX1_signed : Cond) ∈ sm_T := sm_in (List.mem_of_getElem? (i := 3) (by decide +kernel)) rfl
theorem w_4 : (.selects RX1 yX1_isZero yX1_isZero : Cond) ∈ sm_T := sm_in (List.mem_of_getElem? (i := 4) (by decide +kernel)) rfl
theorem w_5 : (.selects RX1 yX1_exponent yX1_exponent : Cond) ∈ sm_T := sm_in (List.mem_of_getElem? (i := 5) (by decide +kernel)) rfl
theorem w_6 : (.selects RX1 yX1_unscaled yX1_unscaled : Cond) ∈ sm_T := sm_in (List.mem_of_getElem? (i := 6) (by decide +kernel)) rfl
theorem w_7 : (.selects RX1 yX1_isInfinite yX1_isInfinite : Cond) ∈ sm_T := sm_in (List.mem_of_getElem? (i := 7) (by decide +kernel)) rfl
theorem w_8 : (.selects RX1 yX1_isNegative yX1_isNegative : Cond) ∈ sm_T := sm_in (List.mem_of_getElem? (i := 8) (by decide +kernel)) rfl
theorem w_9 : (.selects RX1 yX1_significand yX1_significand : Cond) ∈ sm_T := sm_in (List.mem_of_getElem? (i := 9) (by decide +kernel)) rfl
theorem w_10 : (.selects RX5 yX5_failed yX5_failed : Cond) ∈ sm_T := sm_in (List.mem_of_getElem? (i := 10) (by decide +kernel)) rfl
theorem w_11 : (.selects RX1 yX1_sumInOrder yX1_sumInOrder : Cond) ∈ sm_T := sm_in (List.mem_of_getElem? (i := 11) (by decide +kernel)) rfl
theorem w_12 : (.selects RX1 yX1_order yX1_order : Cond) ∈ sm_T := sm_in (List.mem_of_getElem? (i := 12) (by decide +kernel)) rfl
theorem w_13 : (.selects RX5 yX5_shadowOfTwo yX5_shadowOfTwo : Cond) ∈ sm_T := sm_in (List.mem_of_getElem? (i := 13) (by decide +kernel)) rfl
theorem w_14 : (.selects RX5 yX5_giveUp yX5_giveUp : Cond) ∈ sm_T := sm_in (List.mem_of_getElem? (i := 14) (by decide +kernel)) rfl
theorem w_15 : (.selects RX5 yX5_isInt yX5_isInt : Cond) ∈ sm_T := sm_in (List.mem_of_getElem? (i := 15) (by decide +kernel)) rfl
theorem w_16 : (.selects RX5 yX5_unheld yX5_unheld : Cond) ∈ sm_T := sm_in (List.mem_of_getElem? (i := 16) (by decide +kernel)) rfl
theorem w_17 : (.selects RX5 yX5_isHeld yX5_isHeld : Cond) ∈ sm_T := sm_in (List.mem_of_getElem? (i := 17) (by decide +kernel)) rfl
theorem w_18 : (.selects RX0 yX0_narrowed yX0_narrowed : Cond) ∈ sm_T := sm_in (List.mem_of_getElem? (i := 18) (by decide +kernel)) rfl
theorem w_19 : (.selects RX5 yX5_dependentRegisters yX5_dependentRegisters : Cond) ∈ sm_T := sm_in (List.mem_of_getElem? (i := 19) (by decide +kernel)) rfl
theorem w_20 : (.selects RX6 yX6_out yX6_out : Cond) ∈ sm_T := sm_in (List.mem_of_getElem? (i := 20) (by decide +kernel)) rfl
theorem w_21 : (.selects RX6 yX6_clean yX6_clean : Cond) ∈ sm_T := sm_in (List.mem_of_getElem? (i := 21) (by decide +kernel)) rfl
theorem w_22 : (.selects RX6 yX6_isNone yX6_isNone : Cond) ∈ sm_T := sm_in (List.mem_of_getElem? (i := 22) (by decide +kernel)) rfl
theorem w_23 : (.selects RX6 yX6_take yX6_take : Cond) ∈ sm_T := sm_in (List.mem_of_getElem? (i := 23) (by decide +kernel)) rfl
theorem w_24 : (.selects RX6 yX6_places yX6_places : Cond) ∈ sm_T := sm_in (List.mem_of_getElem? (i := 24) (by decide +kernel)) rfl
theorem w_25 : (.selects RX6 yX6_least yX6_least : Cond) ∈ sm_T := sm_in (List.mem_of_getElem? (i := 25) (by decide +kernel)) rfl
theorem w_26 : (.selects RX6 yX6_none yX6_none : Cond) ∈ sm_T := sm_in (List.mem_of_getElem? (i := 26) (by decide +kernel)) rfl
theorem w_27 : (.selects RX6 yX6_put yX6_put : Cond) ∈ sm_T := sm_in (List.mem_of_getElem? (i := 27) (by decide +kernel)) rfl
theorem w_28 : (.selects RX6 yX6_kindAfter yX6_kindAfter : Cond) ∈ sm_T := sm_in (List.mem_of_getElem? (i := 28) (by decide +kernel)) rfl
theorem w_29 : (.selects RX6 yX6_wanted yX6_wanted : Cond) ∈ sm_T := sm_in (List.mem_of_getElem? (i := 29) (by decide +kernel)) rfl
theorem w_30 : (.selects RX6 yX6_converted yX6_converted : Cond) ∈ sm_T := sm_in (List.mem_of_getElem? (i := 30) (by decide +kernel)) rfl
theorem w_31 : (.selects RX6 yX6_fromWhole yX6_fromWhole : Cond) ∈ sm_T := sm_in (List.mem_of_getElem? (i := 31) (by decide +kernel)) rfl
theorem w_32 : (.selects RX6 yX6_round yX6_round : Cond) ∈ sm_T := sm_in (List.mem_of_getElem? (i := 32) (by decide +kernel)) rfl
theorem w_33 : (.selects RX6 yX6_lengthOf yX6_lengthOf : Cond) ∈ sm_T := sm_in (List.mem_of_getElem? (i := 33) (by decide +kernel)) rfl
theorem w_34 : (.selects RX6 yX6_infinite yX6_infinite : Cond) ∈ sm_T := sm_in (List.mem_of_getElem? (i := 34) (by decide +kernel)) rfl
theorem w_35 : (.selects RX6 yX6_signed yX6_signed : Cond) ∈ sm_T := sm_in (List.mem_of_getElem? (i := 35) (by decide +kernel)) rfl
theorem w_36 : (.selects RX6 yX6_toWhole yX6_toWhole : Cond) ∈ sm_T := sm_in (List.mem_of_getElem? (i := 36) (by decide +kernel)) rfl
theorem w_37 : (.selects RX6 yX6_otherFormat yX6_otherFormat : Cond) ∈ sm_T := sm_in (List.mem_of_getElem? (i := 37) (by decide +kernel)) rfl
theorem w_38 : (.selects RX6 yX6_turned yX6_turned : Cond) ∈ sm_T := sm_in (List.mem_of_getElem? (i := 38) (by decide +kernel)) rfl
theorem w_39 : (.selects RX6 yX6_fix yX6_fix : Cond) ∈ sm_T := sm_in (List.mem_of_getElem? (i := 39) (by decide +kernel)) rfl
theorem w_40 : (.selects RX6 yX6_compared yX6_compared : Cond) ∈ sm_T := sm_in (List.mem_of_getElem? (i := 40) (by decide +kernel)) rfl
theorem w_41 : (.selects RX6 yX6_rank yX6_rank : Cond) ∈ sm_T := sm_in (List.mem_of_getElem? (i := 41) (by decide +kernel)) rfl
theorem w_42 : (.selects RX6 yX6_whole yX6_whole : Cond) ∈ sm_T := sm_in (List.mem_of_getElem? (i := 42) (by decide +kernel)) rfl
theorem w_43 : (.selects RX6 yX6_pointed yX6_pointed : Cond) ∈ sm_T := sm_in (List.mem_of_getElem? (i := 43) (by decide +kernel)) rfl
theorem w_44 : (.selects RX6 yX6_sum yX6_sum : Cond) ∈ sm_T := sm_in (List.mem_of_getElem? (i := 44) (by decide +kernel)) rfl
theorem w_45 : (.selects RX6 yX6_spread yX6_spread : Cond) ∈ sm_T := sm_in (List.mem_of_getElem? (i := 45) (by decide +kernel)) rfl
theorem w_46 : (.selects RX6 yX6_product yX6_product : Cond) ∈ sm_T := sm_in (List.mem_of_getElem? (i := 46) (by decide +kernel)) rfl
theorem w_47 : (.selects RX6 yX6_quotient yX6_quotient : Cond) ∈ sm_T := sm_in (List.mem_of_getElem? (i := 47) (by decide +kernel)) rfl
theorem w_48 : (.selects RX6 yX6_remainder yX6_remainder : Cond) ∈ sm_T := sm_in (List.mem_of_getElem? (i := 48) (by decide +kernel)) rfl
theorem w_49 : (.selects RX6 yX6_exception yX6_exception : Cond) ∈ sm_T := sm_in (List.mem_of_getElem? (i := 49) (by decide +kernel)) rfl
theorem w_50 : (.selects RX6 yX6_kindOf yX6_kindOf : Cond) ∈ sm_T := sm_in (List.mem_of_getElem? (i := 50) (by decide +kernel)) rfl
theorem w_51 : (.selects RX6 yX6_stored yX6_stored : Cond) ∈ sm_T := sm_in (List.mem_of_getElem? (i := 51) (by decide +kernel)) rfl
theorem w_52 : (.initialized RL : Cond) ∈ sm_T := sm_in (List.mem_of_getElem? (i := 52) (by decide +kernel)) rfl
theorem w_53 : (.initialized RX5 : Cond) ∈ sm_T := sm_in (List.mem_of_getElem? (i := 53) (by decide +kernel)) rfl
theorem w_54 : (.initialized RX2 : Cond) ∈ sm_T := sm_in (List.mem_of_getElem? (i := 54) (by decide +kernel)) rfl
theorem w_55 : (.initialized RX0 : Cond) ∈ sm_T := sm_in (List.mem_of_getElem? (i := 55) (by decide +kernel)) rfl
theorem w_56 : (.initialized RX6 : Cond) ∈ sm_T := sm_in (List.mem_of_getElem? (i := 56) (by decide +kernel)) rfl
theorem w_57 : (.initialized RJx29ce0 : Cond) ∈ sm_T := sm_in (List.mem_of_getElem? (i := 57) (by decide +kernel)) rfl
theorem w_58 : (.initialized RX1 : Cond) ∈ sm_T := sm_in (List.mem_of_getElem? (i := 58) (by decide +kernel)) rfl
theorem w_59 : (.initialized RX4 : Cond) ∈ sm_T := sm_in (List.mem_of_getElem? (i := 59) (by decide +kernel)) rfl
theorem w_60 : (.initialized RJ13 : Cond) ∈ sm_T := sm_in (List.mem_of_getElem? (i := 60) (by decide +kernel)) rfl
theorem w_61 : (.initialized RJ6 : Cond) ∈ sm_T := sm_in (List.mem_of_getElem? (i := 61) (by decide +kernel)) rfl
theorem w_62 : (.initialized RJ9 : Cond) ∈ sm_T := sm_in (List.mem_of_getElem? (i := 62) (by decide +kernel)) rfl
theorem w_63 : (.initialized RX3 : Cond) ∈ sm_T := sm_in (List.mem_of_getElem? (i := 63) (by decide +kernel)) rfl
theorem w_64 : (.initialized RJ10 : Cond) ∈ sm_T := sm_in (List.mem_of_getElem? (i := 64) (by decide +kernel)) rfl
theorem w_67 : (.methodLink RL 9 yX5_init : Cond) ∈ sm_T := sm_in (List.mem_of_getElem? (i := 67) (by decide +kernel)) rfl
theorem w_68 : (.instanceMethod yX5_init : Cond) ∈ sm_T := sm_in (List.mem_of_getElem? (i := 68) (by decide +kernel)) rfl
theorem w_69 : (.code yX5_init cX5_init 2 (none) : Cond) ∈ sm_T := sm_in (List.mem_of_getElem? (i := 69) (by decide +kernel)) rfl
theorem w_78 : (.instanceMethod yX2_init : Cond) ∈ sm_T := sm_in (List.mem_of_getElem? (i := 78) (by decide +kernel)) rfl
theorem w_79 : (.code yX2_init cX2_init 1 (none) : Cond) ∈ sm_T := sm_in (List.mem_of_getElem? (i := 79) (by decide +kernel)) rfl
theorem w_81 : (.fieldLink RX2 11 RX2 "numbers" "[I" : Cond) ∈ sm_T := sm_in (List.mem_of_getElem? (i := 81) (by decide +kernel)) rfl
theorem w_82 : (.fieldLink RX2 15 RX2 "added" "I" : Cond) ∈ sm_T := sm_in (List.mem_of_getElem? (i := 82) (by decide +kernel)) rfl
theorem w_83 : (.fieldLink RX5 164 RX2 "added" "I" : Cond) ∈ sm_T := sm_in (List.mem_of_getElem? (i := 83) (by decide +kernel)) rfl
theorem w_93 : (.instanceMethod yX0_init : Cond) ∈ sm_T := sm_in (List.mem_of_getElem? (i := 93) (by decide +kernel)) rfl
theorem w_94 : (.code yX0_init cX0_init 1 (none) : Cond) ∈ sm_T := sm_in (List.mem_of_getElem? (i := 94) (by decide +kernel)) rfl
theorem w_96 : (.fieldLink RX0 9 RX0 "values" "[J" : Cond) ∈ sm_T := sm_in (List.mem_of_getElem? (i := 96) (by decide +kernel)) rfl
theorem w_97 : (.fieldLink RX5 129 RX0 "values" "[J" : Cond) ∈ sm_T := sm_in (List.mem_of_getElem? (i := 97) (by decide +kernel)) rfl
theorem w_98 : (.fieldLink RX0 15 RX0 "shadows" "[I" : Cond) ∈ sm_T := sm_in (List.mem_of_getElem? (i := 98) (by decide +kernel)) rfl
theorem w_99 : (.fieldLink RX5 130 RX0 "shadows" "[I" : Cond) ∈ sm_T := sm_in (List.mem_of_getElem? (i := 99) (by decide +kernel)) rfl
theorem w_100 : (.fieldLink RX0 19 RX0 "sort" "I" : Cond) ∈ sm_T := sm_in (List.mem_of_getElem? (i := 100) (by decide +kernel)) rfl
theorem w_101 : (.fieldLink RX5 135 RX0 "sort" "I" : Cond) ∈ sm_T := sm_in (List.mem_of_getElem? (i := 101) (by decide +kernel)) rfl
theorem w_102 : (.fieldLink RX0 23 RX0 "size" "I" : Cond) ∈ sm_T := sm_in (List.mem_of_getElem? (i := 102) (by decide +kernel)) rfl
theorem w_103 : (.fieldLink RX5 121 RX0 "size" "I" : Cond) ∈ sm_T := sm_in (List.mem_of_getElem? (i := 103) (by decide +kernel)) rfl
theorem w_113 : (.fieldLink RX5 9 RX5 "kinds" "[I" : Cond) ∈ sm_T := sm_in (List.mem_of_getElem? (i := 113) (by decide +kernel)) rfl
theorem w_114 : (.fieldLink RX5 13 RX5 "values" "[J" : Cond) ∈ sm_T := sm_in (List.mem_of_getElem? (i := 114) (by decide +kernel)) rfl
theorem w_115 : (.fieldLink RX5 17 RX5 "shadows" "[I" : Cond) ∈ sm_T := sm_in (List.mem_of_getElem? (i := 115) (by decide +kernel)) rfl
theorem w_116 : (.fieldLink RX5 22 RX5 "arrays" "[LShadowMachine$Cells;" : Cond) ∈ sm_T := sm_in (List.mem_of_getElem? (i := 116) (by decide +kernel)) rfl
theorem w_117 : (.fieldLink RX5 26 RX5 "pool" "[LShadowMachine$Cells;" : Cond) ∈ sm_T := sm_in (List.mem_of_getElem? (i := 117) (by decide +kernel)) rfl
theorem w_118 : (.fieldLink RX5 32 RX5 "pins" "LShadowMachine$Notes;" : Cond) ∈ sm_T := sm_in (List.mem_of_getElem? (i := 118) (by decide +kernel)) rfl
theorem w_119 : (.fieldLink RX5 36 RX5 "ways" "LShadowMachine$Notes;" : Cond) ∈ sm_T := sm_in (List.mem_of_getElem? (i := 119) (by decide +kernel)) rfl
theorem w_120 : (.fieldLink RX5 167 RX5 "exceptions" "I" : Cond) ∈ sm_T := sm_in (List.mem_of_getElem? (i := 120) (by decide +kernel)) rfl
theorem w_138 : (.methodLink RL 15 yX5_constant : Cond) ∈ sm_T := sm_in (List.mem_of_getElem? (i := 138) (by decide +kernel)) rfl
theorem w_139 : (.instanceMethod yX5_constant : Cond) ∈ sm_T := sm_in (List.mem_of_getElem? (i := 139) (by decide +kernel)) rfl
theorem w_140 : (.selects RX5 yX5_constant yX5_constant : Cond) ∈ sm_T := sm_in (List.mem_of_getElem? (i := 140) (by decide +kernel)) rfl
theorem w_141 : (.code yX5_constant cX5_constant 5 (some .int) : Cond) ∈ sm_T := sm_in (List.mem_of_getElem? (i := 141) (by decide +kernel)) rfl
theorem w_142 : (.methodLink RX5 40 yX5_isBelow : Cond) ∈ sm_T := sm_in (List.mem_of_getElem? (i := 142) (by decide +kernel)) rfl
theorem w_143 : (.static yX5_isBelow : Cond) ∈ sm_T := sm_in (List.mem_of_getElem? (i := 143) (by decide +kernel)) rfl
theorem w_144 : (.code yX5_isBelow cX5_isBelow 3 (some .boolean) : Cond) ∈ sm_T := sm_in (List.mem_of_getElem? (i := 144) (by decide +kernel)) rfl
theorem w_145 : (.methodLink RX5 44 yX5_held : Cond) ∈ sm_T := sm_in (List.mem_of_getElem? (i := 145) (by decide +kernel)) rfl
theorem w_146 : (.static yX5_held : Cond) ∈ sm_T := sm_in (List.mem_of_getElem? (i := 146) (by decide +kernel)) rfl
theorem w_147 : (.code yX5_held cX5_held 3 (some .long) : Cond) ∈ sm_T := sm_in (List.mem_of_getElem? (i := 147) (by decide +kernel)) rfl
theorem w_148 : (.fieldLink RX5 173 RX1 "BITS32" "LShadowMachine$Format;" : Cond) ∈ sm_T := sm_in (List.mem_of_getElem? (i := 148) (by decide +kernel)) rfl
theorem w_150 : (.methodLink RX5 182 yX1_withOneNan : Cond) ∈ sm_T := sm_in (List.mem_of_getElem? (i := 150) (by decide +kernel)) rfl
theorem w_151 : (.instanceMethod yX1_withOneNan : Cond) ∈ sm_T := sm_in (List.mem_of_getElem? (i := 151) (by decide +kernel)) rfl
theorem w_152 : (.selects RX1 yX1_withOneNan yX1_withOneNan : Cond) ∈ sm_T := sm_in (List.mem_of_getElem? (i := 152) (by decide +kernel)) rfl
theorem w_153 : (.code yX1_withOneNan cX1_withOneNan 3 (some .long) : Cond) ∈ sm_T := sm_in (List.mem_of_getElem? (i := 153) (by decide +kernel)) rfl
theorem w_154 : (.methodLink RX1 51 yX1_isNan : Cond) ∈ sm_T := sm_in (List.mem_of_getElem? (i := 154) (by decide +kernel)) rfl
theorem w_156 : (.instanceMethod yX1_isNan : Cond) ∈ sm_T := sm_in (List.mem_of_getElem? (i := 156) (by decide +kernel)) rfl
theorem w_158 : (.code yX1_isNan cX1_isNan 3 (some .boolean) : Cond) ∈ sm_T := sm_in (List.mem_of_getElem? (i := 158) (by decide +kernel)) rfl
theorem w_159 : (.methodLink RX1 118 yX1_magnitude : Cond) ∈ sm_T := sm_in (List.mem_of_getElem? (i := 159) (by decide +kernel)) rfl
theorem w_160 : (.instanceMethod yX1_magnitude : Cond) ∈ sm_T := sm_in (List.mem_of_getElem? (i := 160) (by decide +kernel)) rfl
theorem w_161 : (.selects RX1 yX1_magnitude yX1_magnitude : Cond) ∈ sm_T := sm_in (List.mem_of_getElem? (i := 161) (by decide +kernel)) rfl
theorem w_162 : (.code yX1_magnitude cX1_magnitude 3 (some .long) : Cond) ∈ sm_T := sm_in (List.mem_of_getElem? (i := 162) (by decide +kernel)) rfl
theorem w_163 : (.constantLong RX1 40 (-1) : Cond) ∈ sm_T := sm_in (List.mem_of_getElem? (i := 163) (by decide +kernel)) rfl
theorem w_164 : (.fieldLink RX5 179 RX1 "BITS64" "LShadowMachine$Format;" : Cond) ∈ sm_T := sm_in (List.mem_of_getElem? (i := 164) (by decide +kernel)) rfl
theorem w_166 : (.methodLink RX5 48 yX5_put : Cond) ∈ sm_T := sm_in (List.mem_of_getElem? (i := 166) (by decide +kernel)) rfl
theorem w_168 : (.instanceMethod yX5_put : Cond) ∈ sm_T := sm_in (List.mem_of_getElem? (i := 168) (by decide +kernel)) rfl
theorem w_169 : (.code yX5_put cX5_put 6 (none) : Cond) ∈ sm_T := sm_in (List.mem_of_getElem? (i := 169) (by decide +kernel)) rfl
theorem w_170 : (.methodLink RL 20 yX5_input : Cond) ∈ sm_T := sm_in (List.mem_of_getElem? (i := 170) (by decide +kernel)) rfl
theorem w_171 : (.instanceMethod yX5_input : Cond) ∈ sm_T := sm_in (List.mem_of_getElem? (i := 171) (by decide +kernel)) rfl
theorem w_172 : (.selects RX5 yX5_input yX5_input : Cond) ∈ sm_T := sm_in (List.mem_of_getElem? (i := 172) (by decide +kernel)) rfl
theorem w_173 : (.code yX5_input cX5_input 6 (some .int) : Cond) ∈ sm_T := sm_in (List.mem_of_getElem? (i := 173) (by decide +kernel)) rfl
theorem w_174 : (.methodLink RL 25 yX5_one : Cond) ∈ sm_T := sm_in (List.mem_of_getElem? (i := 174) (by decide +kernel)) rfl
theorem w_175 : (.instanceMethod yX5_one : Cond) ∈ sm_T := sm_in (List.mem_of_getElem? (i := 175) (by decide +kernel)) rfl
theorem w_176 : (.selects RX5 yX5_one yX5_one : Cond) ∈ sm_T := sm_in (List.mem_of_getElem? (i := 176) (by decide +kernel)) rfl
theorem w_177 : (.code yX5_one cX5_one 5 (some .int) : Cond) ∈ sm_T := sm_in (List.mem_of_getElem? (i := 177) (by decide +kernel)) rfl
theorem w_178 : (.methodLink RX5 52 yX4_takes : Cond) ∈ sm_T := sm_in (List.mem_of_getElem? (i := 178) (by decide +kernel)) rfl
theorem w_179 : (.static yX4_takes : Cond) ∈ sm_T := sm_in (List.mem_of_getElem? (i := 179) (by decide +kernel)) rfl
theorem w_180 : (.code yX4_takes cX4_takes 2 (some .boolean) : Cond) ∈ sm_T := sm_in (List.mem_of_getElem? (i := 180) (by decide +kernel)) rfl
theorem w_182 : (.fieldLink RX4 15 RX4 "CONVERTED_FROM" "[I" : Cond) ∈ sm_T := sm_in (List.mem_of_getElem? (i := 182) (by decide +kernel)) rfl
theorem w_185 : (.static yX5_isFloating : Cond) ∈ sm_T := sm_in (List.mem_of_getElem? (i := 185) (by decide +kernel)) rfl
theorem w_186 : (.code yX5_isFloating cX5_isFloating 1 (some .boolean) : Cond) ∈ sm_T := sm_in (List.mem_of_getElem? (i := 186) (by decide +kernel)) rfl
theorem w_187 : (.methodLink RX5 58 yX4_rounds : Cond) ∈ sm_T := sm_in (List.mem_of_getElem? (i := 187) (by decide +kernel)) rfl
theorem w_188 : (.static yX4_rounds : Cond) ∈ sm_T := sm_in (List.mem_of_getElem? (i := 188) (by decide +kernel)) rfl
theorem w_189 : (.code yX4_rounds cX4_rounds 1 (some .boolean) : Cond) ∈ sm_T := sm_in (List.mem_of_getElem? (i := 189) (by decide +kernel)) rfl
theorem w_190 : (.methodLink RX5 62 yX5_inexact : Cond) ∈ sm_T := sm_in (List.mem_of_getElem? (i := 190) (by decide +kernel)) rfl
theorem w_191 : (.static yX5_inexact : Cond) ∈ sm_T := sm_in (List.mem_of_getElem? (i := 191) (by decide +kernel)) rfl
theorem w_192 : (.code yX5_inexact cX5_inexact 2 (some .int) : Cond) ∈ sm_T := sm_in (List.mem_of_getElem? (i := 192) (by decide +kernel)) rfl
theorem w_193 : (.methodLink RX5 66 yX4_resultKind : Cond) ∈ sm_T := sm_in (List.mem_of_getElem? (i := 193) (by decide +kernel)) rfl
theorem w_194 : (.static yX4_resultKind : Cond) ∈ sm_T := sm_in (List.mem_of_getElem? (i := 194) (by decide +kernel)) rfl
theorem w_195 : (.code yX4_resultKind cX4_resultKind 2 (some .int) : Cond) ∈ sm_T := sm_in (List.mem_of_getElem? (i := 195) (by decide +kernel)) rfl
theorem w_196 : (.fieldLink RX4 23 RX4 "CONVERTED_TO" "[I" : Cond) ∈ sm_T := sm_in (List.mem_of_getElem? (i := 196) (by decide +kernel)) rfl
theorem w_198 : (.methodLink RX5 70 yX4_result : Cond) ∈ sm_T := sm_in (List.mem_of_getElem? (i := 198) (by decide +kernel)) rfl
theorem w_199 : (.static yX4_result : Cond) ∈ sm_T := sm_in (List.mem_of_getElem? (i := 199) (by decide +kernel)) rfl
theorem w_200 : (.code yX4_result cX4_result 4 (some .long) : Cond) ∈ sm_T := sm_in (List.mem_of_getElem? (i := 200) (by decide +kernel)) rfl
theorem w_201 : (.fieldLink RX4 26 RX1 "BITS32" "LShadowMachine$Format;" : Cond) ∈ sm_T := sm_in (List.mem_of_getElem? (i := 201) (by decide +kernel)) rfl
theorem w_202 : (.methodLink RX4 32 yX1_ofWhole : Cond) ∈ sm_T := sm_in (List.mem_of_getElem? (i := 202) (by decide +kernel)) rfl
theorem w_203 : (.instanceMethod yX1_ofWhole : Cond) ∈ sm_T := sm_in (List.mem_of_getElem? (i := 203) (by decide +kernel)) rfl
theorem w_204 : (.selects RX1 yX1_ofWhole yX1_ofWhole : Cond) ∈ sm_T := sm_in (List.mem_of_getElem? (i := 204) (by decide +kernel)) rfl
theorem w_205 : (.code yX1_ofWhole cX1_ofWhole 3 (some .long) : Cond) ∈ sm_T := sm_in (List.mem_of_getElem? (i := 205) (by decide +kernel)) rfl
theorem w_206 : (.constantLong RX1 65 (-9223372036854775808) : Cond) ∈ sm_T := sm_in (List.mem_of_getElem? (i := 206) (by decide +kernel)) rfl
theorem w_207 : (.constantLong RX1 67 (4611686018427387904) : Cond) ∈ sm_T := sm_in (List.mem_of_getElem? (i := 207) (by decide +kernel)) rfl
theorem w_208 : (.methodLink RX1 69 yX1_rounded : Cond) ∈ sm_T := sm_in (List.mem_of_getElem? (i := 208) (by decide +kernel)) rfl
theorem w_210 : (.instanceMethod yX1_rounded : Cond) ∈ sm_T := sm_in (List.mem_of_getElem? (i := 210) (by decide +kernel)) rfl
theorem w_211 : (.code yX1_rounded cX1_rounded 10 (some .long) : Cond) ∈ sm_T := sm_in (List.mem_of_getElem? (i := 211) (by decide +kernel)) rfl
theorem w_212 : (.methodLink RX1 131 yJ13_numberOfLeadingZeros_95d88 : Cond) ∈ sm_T := sm_in (List.mem_of_getElem? (i := 212) (by decide +kernel)) rfl
theorem w_213 : (.static yJ13_numberOfLeadingZeros_95d88 : Cond) ∈ sm_T := sm_in (List.mem_of_getElem? (i := 213) (by decide +kernel)) rfl
theorem w_214 : (.code yJ13_numberOfLeadingZeros_95d88 cJ13_numberOfLeadingZeros_95d88 3 (some .int) : Cond) ∈ sm_T := sm_in (List.mem_of_getElem? (i := 214) (by decide +kernel)) rfl
theorem w_215 : (.methodLink RJ13 308 yJ6_numberOfLeadingZeros_0f7a4 : Cond) ∈ sm_T := sm_in (List.mem_of_getElem? (i := 215) (by decide +kernel)) rfl
theorem w_216 : (.static yJ6_numberOfLeadingZeros_0f7a4 : Cond) ∈ sm_T := sm_in (List.mem_of_getElem? (i := 216) (by decide +kernel)) rfl
theorem w_217 : (.code yJ6_numberOfLeadingZeros_0f7a4 cJ6_numberOfLeadingZeros_0f7a4 2 (some .int) : Cond) ∈ sm_T := sm_in (List.mem_of_getElem? (i := 217) (by decide +kernel)) rfl
theorem w_218 : (.constant RJ6 264 (65536) : Cond) ∈ sm_T := sm_in (List.mem_of_getElem? (i := 218) (by decide +kernel)) rfl
theorem w_219 : (.methodLink RX1 121 yJ9_max_7cf53 : Cond) ∈ sm_T := sm_in (List.mem_of_getElem? (i := 219) (by decide +kernel)) rfl
theorem w_220 : (.static yJ9_max_7cf53 : Cond) ∈ sm_T := sm_in (List.mem_of_getElem? (i := 220) (by decide +kernel)) rfl
theorem w_221 : (.code yJ9_max_7cf53 cJ9_max_7cf53 2 (some .int) : Cond) ∈ sm_T := sm_in (List.mem_of_getElem? (i := 221) (by decide +kernel)) rfl
theorem w_222 : (.methodLink RX1 84 yX1_signed : Cond) ∈ sm_T := sm_in (List.mem_of_getElem? (i := 222) (by decide +kernel)) rfl
theorem w_224 : (.instanceMethod yX1_signed : Cond) ∈ sm_T := sm_in (List.mem_of_getElem? (i := 224) (by decide +kernel)) rfl
theorem w_225 : (.code yX1_signed cX1_signed 4 (some .long) : Cond) ∈ sm_T := sm_in (List.mem_of_getElem? (i := 225) (by decide +kernel)) rfl
theorem w_226 : (.methodLink RX1 134 yX1_shiftedToEven : Cond) ∈ sm_T := sm_in (List.mem_of_getElem? (i := 226) (by decide +kernel)) rfl
theorem w_227 : (.static yX1_shiftedToEven : Cond) ∈ sm_T := sm_in (List.mem_of_getElem? (i := 227) (by decide +kernel)) rfl
theorem w_228 : (.code yX1_shiftedToEven cX1_shiftedToEven 10 (some .long) : Cond) ∈ sm_T := sm_in (List.mem_of_getElem? (i := 228) (by decide +kernel)) rfl
theorem w_229 : (.methodLink RX1 73 yJ9_abs_067f4 : Cond) ∈ sm_T := sm_in (List.mem_of_getElem? (i := 229) (by decide +kernel)) rfl
theorem w_230 : (.static yJ9_abs_067f4 : Cond) ∈ sm_T := sm_in (List.mem_of_getElem? (i := 230) (by decide +kernel)) rfl
theorem w_231 : (.code yJ9_abs_067f4 cJ9_abs_067f4 2 (some .long) : Cond) ∈ sm_T := sm_in (List.mem_of_getElem? (i := 231) (by decide +kernel)) rfl
theorem w_232 : (.fieldLink RX4 36 RX1 "BITS64" "LShadowMachine$Format;" : Cond) ∈ sm_T := sm_in (List.mem_of_getElem? (i := 232) (by decide +kernel)) rfl
theorem w_233 : (.methodLink RX4 39 yX1_truncated : Cond) ∈ sm_T := sm_in (List.mem_of_getElem? (i := 233) (by decide +kernel)) rfl
theorem w_234 : (.instanceMethod yX1_truncated : Cond) ∈ sm_T := sm_in (List.mem_of_getElem? (i := 234) (by decide +kernel)) rfl
theorem w_235 : (.selects RX1 yX1_truncated yX1_truncated : Cond) ∈ sm_T := sm_in (List.mem_of_getElem? (i := 235) (by decide +kernel)) rfl
theorem w_236 : (.code yX1_truncated cX1_truncated 6 (some .long) : Cond) ∈ sm_T := sm_in (List.mem_of_getElem? (i := 236) (by decide +kernel)) rfl
theorem w_237 : (.methodLink RX1 88 yX1_isZero : Cond) ∈ sm_T := sm_in (List.mem_of_getElem? (i := 237) (by decide +kernel)) rfl
theorem w_239 : (.instanceMethod yX1_isZero : Cond) ∈ sm_T := sm_in (List.mem_of_getElem? (i := 239) (by decide +kernel)) rfl
theorem w_240 : (.code yX1_isZero cX1_isZero 3 (some .boolean) : Cond) ∈ sm_T := sm_in (List.mem_of_getElem? (i := 240) (by decide +kernel)) rfl
theorem w_241 : (.methodLink RX1 91 yX1_exponent : Cond) ∈ sm_T := sm_in (List.mem_of_getElem? (i := 241) (by decide +kernel)) rfl
theorem w_243 : (.instanceMethod yX1_exponent : Cond) ∈ sm_T := sm_in (List.mem_of_getElem? (i := 243) (by decide +kernel)) rfl
theorem w_244 : (.code yX1_exponent cX1_exponent 4 (some .int) : Cond) ∈ sm_T := sm_in (List.mem_of_getElem? (i := 244) (by decide +kernel)) rfl
theorem w_245 : (.methodLink RX1 125 yX1_unscaled : Cond) ∈ sm_T := sm_in (List.mem_of_getElem? (i := 245) (by decide +kernel)) rfl
theorem w_247 : (.instanceMethod yX1_unscaled : Cond) ∈ sm_T := sm_in (List.mem_of_getElem? (i := 247) (by decide +kernel)) rfl
theorem w_248 : (.code yX1_unscaled cX1_unscaled 7 (some .long) : Cond) ∈ sm_T := sm_in (List.mem_of_getElem? (i := 248) (by decide +kernel)) rfl
theorem w_249 : (.methodLink RX1 128 yX1_placesUp : Cond) ∈ sm_T := sm_in (List.mem_of_getElem? (i := 249) (by decide +kernel)) rfl
theorem w_250 : (.static yX1_placesUp : Cond) ∈ sm_T := sm_in (List.mem_of_getElem? (i := 250) (by decide +kernel)) rfl
theorem w_251 : (.code yX1_placesUp cX1_placesUp 2 (some .int) : Cond) ∈ sm_T := sm_in (List.mem_of_getElem? (i := 251) (by decide +kernel)) rfl
theorem w_252 : (.methodLink RX1 78 yX1_isInfinite : Cond) ∈ sm_T := sm_in (List.mem_of_getElem? (i := 252) (by decide +kernel)) rfl
theorem w_254 : (.instanceMethod yX1_isInfinite : Cond) ∈ sm_T := sm_in (List.mem_of_getElem? (i := 254) (by decide +kernel)) rfl
theorem w_255 : (.code yX1_isInfinite cX1_isInfinite 3 (some .boolean) : Cond) ∈ sm_T := sm_in (List.mem_of_getElem? (i := 255) (by decide +kernel)) rfl
theorem w_256 : (.methodLink RX1 81 yX1_isNegative : Cond) ∈ sm_T := sm_in (List.mem_of_getElem? (i := 256) (by decide +kernel)) rfl
theorem w_258 : (.instanceMethod yX1_isNegative : Cond) ∈ sm_T := sm_in (List.mem_of_getElem? (i := 258) (by decide +kernel)) rfl
theorem w_259 : (.code yX1_isNegative cX1_isNegative 3 (some .boolean) : Cond) ∈ sm_T := sm_in (List.mem_of_getElem? (i := 259) (by decide +kernel)) rfl
theorem w_260 : (.constantLong RX1 98 (9223372036854775807) : Cond) ∈ sm_T := sm_in (List.mem_of_getElem? (i := 260) (by decide +kernel)) rfl
theorem w_261 : (.methodLink RX1 95 yX1_significand : Cond) ∈ sm_T := sm_in (List.mem_of_getElem? (i := 261) (by decide +kernel)) rfl
theorem w_263 : (.instanceMethod yX1_significand : Cond) ∈ sm_T := sm_in (List.mem_of_getElem? (i := 263) (by decide +kernel)) rfl
theorem w_264 : (.code yX1_significand cX1_significand 5 (some .long) : Cond) ∈ sm_T := sm_in (List.mem_of_getElem? (i := 264) (by decide +kernel)) rfl
theorem w_265 : (.methodLink RX4 42 yX4_nearestInt : Cond) ∈ sm_T := sm_in (List.mem_of_getElem? (i := 265) (by decide +kernel)) rfl
theorem w_266 : (.static yX4_nearestInt : Cond) ∈ sm_T := sm_in (List.mem_of_getElem? (i := 266) (by decide +kernel)) rfl
theorem w_267 : (.code yX4_nearestInt cX4_nearestInt 2 (some .long) : Cond) ∈ sm_T := sm_in (List.mem_of_getElem? (i := 267) (by decide +kernel)) rfl
theorem w_268 : (.constantLong RX4 72 (-2147483648) : Cond) ∈ sm_T := sm_in (List.mem_of_getElem? (i := 268) (by decide +kernel)) rfl
theorem w_269 : (.constantLong RX4 74 (2147483647) : Cond) ∈ sm_T := sm_in (List.mem_of_getElem? (i := 269) (by decide +kernel)) rfl
theorem w_270 : (.methodLink RX4 76 yJ9_min_f86c9 : Cond) ∈ sm_T := sm_in (List.mem_of_getElem? (i := 270) (by decide +kernel)) rfl
theorem w_271 : (.static yJ9_min_f86c9 : Cond) ∈ sm_T := sm_in (List.mem_of_getElem? (i := 271) (by decide +kernel)) rfl
theorem w_272 : (.code yJ9_min_f86c9 cJ9_min_f86c9 4 (some .long) : Cond) ∈ sm_T := sm_in (List.mem_of_getElem? (i := 272) (by decide +kernel)) rfl
theorem w_273 : (.methodLink RX4 80 yJ9_max_f86c9 : Cond) ∈ sm_T := sm_in (List.mem_of_getElem? (i := 273) (by decide +kernel)) rfl
theorem w_274 : (.static yJ9_max_f86c9 : Cond) ∈ sm_T := sm_in (List.mem_of_getElem? (i := 274) (by decide +kernel)) rfl
theorem w_275 : (.code yJ9_max_f86c9 cJ9_max_f86c9 4 (some .long) : Cond) ∈ sm_T := sm_in (List.mem_of_getElem? (i := 275) (by decide +kernel)) rfl
theorem w_276 : (.methodLink RX4 45 yX1_ofOther : Cond) ∈ sm_T := sm_in (List.mem_of_getElem? (i := 276) (by decide +kernel)) rfl
theorem w_277 : (.instanceMethod yX1_ofOther : Cond) ∈ sm_T := sm_in (List.mem_of_getElem? (i := 277) (by decide +kernel)) rfl
theorem w_278 : (.selects RX1 yX1_ofOther yX1_ofOther : Cond) ∈ sm_T := sm_in (List.mem_of_getElem? (i := 278) (by decide +kernel)) rfl
theorem w_279 : (.code yX1_ofOther cX1_ofOther 4 (some .long) : Cond) ∈ sm_T := sm_in (List.mem_of_getElem? (i := 279) (by decide +kernel)) rfl
theorem w_281 : (.static yX5_formatOf : Cond) ∈ sm_T := sm_in (List.mem_of_getElem? (i := 281) (by decide +kernel)) rfl
theorem w_282 : (.code yX5_formatOf cX5_formatOf 1 (some (.object "ShadowMachine$Format")) : Cond) ∈ sm_T := sm_in (List.mem_of_getElem? (i := 282) (by decide +kernel)) rfl
theorem w_283 : (.methodLink RX4 53 yX1_negated : Cond) ∈ sm_T := sm_in (List.mem_of_getElem? (i := 283) (by decide +kernel)) rfl
theorem w_284 : (.instanceMethod yX1_negated : Cond) ∈ sm_T := sm_in (List.mem_of_getElem? (i := 284) (by decide +kernel)) rfl
theorem w_285 : (.selects RX1 yX1_negated yX1_negated : Cond) ∈ sm_T := sm_in (List.mem_of_getElem? (i := 285) (by decide +kernel)) rfl
theorem w_286 : (.code yX1_negated cX1_negated 3 (some .long) : Cond) ∈ sm_T := sm_in (List.mem_of_getElem? (i := 286) (by decide +kernel)) rfl
theorem w_288 : (.methodLink RX4 60 yX1_magnitude : Cond) ∈ sm_T := sm_in (List.mem_of_getElem? (i := 288) (by decide +kernel)) rfl
theorem w_289 : (.methodLink RX4 63 yJ9_abs_067f4 : Cond) ∈ sm_T := sm_in (List.mem_of_getElem? (i := 289) (by decide +kernel)) rfl
theorem w_290 : (.methodLink RX4 68 yX4_resultKind : Cond) ∈ sm_T := sm_in (List.mem_of_getElem? (i := 290) (by decide +kernel)) rfl
theorem w_291 : (.methodLink RL 30 yX5_two : Cond) ∈ sm_T := sm_in (List.mem_of_getElem? (i := 291) (by decide +kernel)) rfl
theorem w_292 : (.instanceMethod yX5_two : Cond) ∈ sm_T := sm_in (List.mem_of_getElem? (i := 292) (by decide +kernel)) rfl
theorem w_293 : (.selects RX5 yX5_two yX5_two : Cond) ∈ sm_T := sm_in (List.mem_of_getElem? (i := 293) (by decide +kernel)) rfl
theorem w_294 : (.code yX5_two cX5_two 8 (some .int) : Cond) ∈ sm_T := sm_in (List.mem_of_getElem? (i := 294) (by decide +kernel)) rfl
theorem w_295 : (.methodLink RX5 74 yX3_takes : Cond) ∈ sm_T := sm_in (List.mem_of_getElem? (i := 295) (by decide +kernel)) rfl
theorem w_296 : (.static yX3_takes : Cond) ∈ sm_T := sm_in (List.mem_of_getElem? (i := 296) (by decide +kernel)) rfl
theorem w_297 : (.code yX3_takes cX3_takes 3 (some .boolean) : Cond) ∈ sm_T := sm_in (List.mem_of_getElem? (i := 297) (by decide +kernel)) rfl
theorem w_299 : (.methodLink RX5 79 yX3_divides : Cond) ∈ sm_T := sm_in (List.mem_of_getElem? (i := 299) (by decide +kernel)) rfl
theorem w_300 : (.static yX3_divides : Cond) ∈ sm_T := sm_in (List.mem_of_getElem? (i := 300) (by decide +kernel)) rfl
theorem w_301 : (.code yX3_divides cX3_divides 1 (some .boolean) : Cond) ∈ sm_T := sm_in (List.mem_of_getElem? (i := 301) (by decide +kernel)) rfl
theorem w_302 : (.methodLink RX5 82 yX5_isFloating : Cond) ∈ sm_T := sm_in (List.mem_of_getElem? (i := 302) (by decide +kernel)) rfl
theorem w_303 : (.methodLink RX5 85 yX5_failed : Cond) ∈ sm_T := sm_in (List.mem_of_getElem? (i := 303) (by decide +kernel)) rfl
theorem w_305 : (.instanceMethod yX5_failed : Cond) ∈ sm_T := sm_in (List.mem_of_getElem? (i := 305) (by decide +kernel)) rfl
theorem w_306 : (.code yX5_failed cX5_failed 2 (some .int) : Cond) ∈ sm_T := sm_in (List.mem_of_getElem? (i := 306) (by decide +kernel)) rfl
theorem w_307 : (.methodLink RX5 88 yX5_formatOf : Cond) ∈ sm_T := sm_in (List.mem_of_getElem? (i := 307) (by decide +kernel)) rfl
theorem w_308 : (.methodLink RX5 92 yX3_floatingResult : Cond) ∈ sm_T := sm_in (List.mem_of_getElem? (i := 308) (by decide +kernel)) rfl
theorem w_309 : (.static yX3_floatingResult : Cond) ∈ sm_T := sm_in (List.mem_of_getElem? (i := 309) (by decide +kernel)) rfl
theorem w_310 : (.code yX3_floatingResult cX3_floatingResult 6 (some .long) : Cond) ∈ sm_T := sm_in (List.mem_of_getElem? (i := 310) (by decide +kernel)) rfl
theorem w_311 : (.methodLink RX3 43 yX1_sum : Cond) ∈ sm_T := sm_in (List.mem_of_getElem? (i := 311) (by decide +kernel)) rfl
theorem w_312 : (.instanceMethod yX1_sum : Cond) ∈ sm_T := sm_in (List.mem_of_getElem? (i := 312) (by decide +kernel)) rfl
theorem w_313 : (.selects RX1 yX1_sum yX1_sum : Cond) ∈ sm_T := sm_in (List.mem_of_getElem? (i := 313) (by decide +kernel)) rfl
theorem w_314 : (.code yX1_sum cX1_sum 5 (some .long) : Cond) ∈ sm_T := sm_in (List.mem_of_getElem? (i := 314) (by decide +kernel)) rfl
theorem w_315 : (.methodLink RX1 100 yX1_sumInOrder : Cond) ∈ sm_T := sm_in (List.mem_of_getElem? (i := 315) (by decide +kernel)) rfl
theorem w_317 : (.instanceMethod yX1_sumInOrder : Cond) ∈ sm_T := sm_in (List.mem_of_getElem? (i := 317) (by decide +kernel)) rfl
theorem w_318 : (.code yX1_sumInOrder cX1_sumInOrder 13 (some .long) : Cond) ∈ sm_T := sm_in (List.mem_of_getElem? (i := 318) (by decide +kernel)) rfl
theorem w_319 : (.methodLink RX1 104 yX1_shiftedDown : Cond) ∈ sm_T := sm_in (List.mem_of_getElem? (i := 319) (by decide +kernel)) rfl
theorem w_320 : (.static yX1_shiftedDown : Cond) ∈ sm_T := sm_in (List.mem_of_getElem? (i := 320) (by decide +kernel)) rfl
theorem w_321 : (.code yX1_shiftedDown cX1_shiftedDown 5 (some .long) : Cond) ∈ sm_T := sm_in (List.mem_of_getElem? (i := 321) (by decide +kernel)) rfl
theorem w_322 : (.methodLink RX3 48 yX1_negated : Cond) ∈ sm_T := sm_in (List.mem_of_getElem? (i := 322) (by decide +kernel)) rfl
theorem w_323 : (.methodLink RX3 52 yX1_product : Cond) ∈ sm_T := sm_in (List.mem_of_getElem? (i := 323) (by decide +kernel)) rfl
theorem w_324 : (.instanceMethod yX1_product : Cond) ∈ sm_T := sm_in (List.mem_of_getElem? (i := 324) (by decide +kernel)) rfl
theorem w_325 : (.selects RX1 yX1_product yX1_product : Cond) ∈ sm_T := sm_in (List.mem_of_getElem? (i := 325) (by decide +kernel)) rfl
theorem w_326 : (.code yX1_product cX1_product 8 (some .long) : Cond) ∈ sm_T := sm_in (List.mem_of_getElem? (i := 326) (by decide +kernel)) rfl
theorem w_327 : (.methodLink RX1 108 yX1_highProduct : Cond) ∈ sm_T := sm_in (List.mem_of_getElem? (i := 327) (by decide +kernel)) rfl
theorem w_328 : (.static yX1_highProduct : Cond) ∈ sm_T := sm_in (List.mem_of_getElem? (i := 328) (by decide +kernel)) rfl
theorem w_329 : (.code yX1_highProduct cX1_highProduct 18 (some .long) : Cond) ∈ sm_T := sm_in (List.mem_of_getElem? (i := 329) (by decide +kernel)) rfl
theorem w_330 : (.constantLong RX1 137 (134217727) : Cond) ∈ sm_T := sm_in (List.mem_of_getElem? (i := 330) (by decide +kernel)) rfl
theorem w_331 : (.methodLink RX3 55 yX1_quotient : Cond) ∈ sm_T := sm_in (List.mem_of_getElem? (i := 331) (by decide +kernel)) rfl
theorem w_332 : (.instanceMethod yX1_quotient : Cond) ∈ sm_T := sm_in (List.mem_of_getElem? (i := 332) (by decide +kernel)) rfl
theorem w_333 : (.selects RX1 yX1_quotient yX1_quotient : Cond) ∈ sm_T := sm_in (List.mem_of_getElem? (i := 333) (by decide +kernel)) rfl
theorem w_334 : (.code yX1_quotient cX1_quotient 7 (some .long) : Cond) ∈ sm_T := sm_in (List.mem_of_getElem? (i := 334) (by decide +kernel)) rfl
theorem w_335 : (.methodLink RX1 111 yX1_longQuotient : Cond) ∈ sm_T := sm_in (List.mem_of_getElem? (i := 335) (by decide +kernel)) rfl
theorem w_336 : (.static yX1_longQuotient : Cond) ∈ sm_T := sm_in (List.mem_of_getElem? (i := 336) (by decide +kernel)) rfl
theorem w_337 : (.code yX1_longQuotient cX1_longQuotient 9 (some .long) : Cond) ∈ sm_T := sm_in (List.mem_of_getElem? (i := 337) (by decide +kernel)) rfl
theorem w_338 : (.methodLink RX3 58 yX1_remainder : Cond) ∈ sm_T := sm_in (List.mem_of_getElem? (i := 338) (by decide +kernel)) rfl
theorem w_339 : (.instanceMethod yX1_remainder : Cond) ∈ sm_T := sm_in (List.mem_of_getElem? (i := 339) (by decide +kernel)) rfl
theorem w_340 : (.selects RX1 yX1_remainder yX1_remainder : Cond) ∈ sm_T := sm_in (List.mem_of_getElem? (i := 340) (by decide +kernel)) rfl
theorem w_341 : (.code yX1_remainder cX1_remainder 7 (some .long) : Cond) ∈ sm_T := sm_in (List.mem_of_getElem? (i := 341) (by decide +kernel)) rfl
theorem w_342 : (.methodLink RX1 114 yX1_longRemainder : Cond) ∈ sm_T := sm_in (List.mem_of_getElem? (i := 342) (by decide +kernel)) rfl
theorem w_343 : (.static yX1_longRemainder : Cond) ∈ sm_T := sm_in (List.mem_of_getElem? (i := 343) (by decide +kernel)) rfl
theorem w_344 : (.code yX1_longRemainder cX1_longRemainder 8 (some .long) : Cond) ∈ sm_T := sm_in (List.mem_of_getElem? (i := 344) (by decide +kernel)) rfl
theorem w_345 : (.methodLink RX1 139 yJ9_min_7cf53 : Cond) ∈ sm_T := sm_in (List.mem_of_getElem? (i := 345) (by decide +kernel)) rfl
theorem w_346 : (.static yJ9_min_7cf53 : Cond) ∈ sm_T := sm_in (List.mem_of_getElem? (i := 346) (by decide +kernel)) rfl
theorem w_347 : (.code yJ9_min_7cf53 cJ9_min_7cf53 2 (some .int) : Cond) ∈ sm_T := sm_in (List.mem_of_getElem? (i := 347) (by decide +kernel)) rfl
theorem w_348 : (.methodLink RX3 61 yX1_least : Cond) ∈ sm_T := sm_in (List.mem_of_getElem? (i := 348) (by decide +kernel)) rfl
theorem w_349 : (.instanceMethod yX1_least : Cond) ∈ sm_T := sm_in (List.mem_of_getElem? (i := 349) (by decide +kernel)) rfl
theorem w_350 : (.selects RX1 yX1_least yX1_least : Cond) ∈ sm_T := sm_in (List.mem_of_getElem? (i := 350) (by decide +kernel)) rfl
theorem w_351 : (.code yX1_least cX1_least 5 (some .long) : Cond) ∈ sm_T := sm_in (List.mem_of_getElem? (i := 351) (by decide +kernel)) rfl
theorem w_352 : (.methodLink RX1 55 yX1_order : Cond) ∈ sm_T := sm_in (List.mem_of_getElem? (i := 352) (by decide +kernel)) rfl
theorem w_354 : (.instanceMethod yX1_order : Cond) ∈ sm_T := sm_in (List.mem_of_getElem? (i := 354) (by decide +kernel)) rfl
theorem w_355 : (.code yX1_order cX1_order 3 (some .long) : Cond) ∈ sm_T := sm_in (List.mem_of_getElem? (i := 355) (by decide +kernel)) rfl
theorem w_356 : (.methodLink RX3 64 yX1_greatest : Cond) ∈ sm_T := sm_in (List.mem_of_getElem? (i := 356) (by decide +kernel)) rfl
theorem w_357 : (.instanceMethod yX1_greatest : Cond) ∈ sm_T := sm_in (List.mem_of_getElem? (i := 357) (by decide +kernel)) rfl
theorem w_358 : (.selects RX1 yX1_greatest yX1_greatest : Cond) ∈ sm_T := sm_in (List.mem_of_getElem? (i := 358) (by decide +kernel)) rfl
theorem w_359 : (.code yX1_greatest cX1_greatest 5 (some .long) : Cond) ∈ sm_T := sm_in (List.mem_of_getElem? (i := 359) (by decide +kernel)) rfl
theorem w_360 : (.methodLink RX3 67 yX1_compared : Cond) ∈ sm_T := sm_in (List.mem_of_getElem? (i := 360) (by decide +kernel)) rfl
theorem w_361 : (.instanceMethod yX1_compared : Cond) ∈ sm_T := sm_in (List.mem_of_getElem? (i := 361) (by decide +kernel)) rfl
theorem w_362 : (.selects RX1 yX1_compared yX1_compared : Cond) ∈ sm_T := sm_in (List.mem_of_getElem? (i := 362) (by decide +kernel)) rfl
theorem w_363 : (.code yX1_compared cX1_compared 6 (some .int) : Cond) ∈ sm_T := sm_in (List.mem_of_getElem? (i := 363) (by decide +kernel)) rfl
theorem w_364 : (.methodLink RX1 59 yJ13_compare_74951 : Cond) ∈ sm_T := sm_in (List.mem_of_getElem? (i := 364) (by decide +kernel)) rfl
theorem w_365 : (.static yJ13_compare_74951 : Cond) ∈ sm_T := sm_in (List.mem_of_getElem? (i := 365) (by decide +kernel)) rfl
theorem w_366 : (.code yJ13_compare_74951 cJ13_compare_74951 4 (some .int) : Cond) ∈ sm_T := sm_in (List.mem_of_getElem? (i := 366) (by decide +kernel)) rfl
theorem w_367 : (.methodLink RX5 96 yX3_wholeResult : Cond) ∈ sm_T := sm_in (List.mem_of_getElem? (i := 367) (by decide +kernel)) rfl
theorem w_368 : (.static yX3_wholeResult : Cond) ∈ sm_T := sm_in (List.mem_of_getElem? (i := 368) (by decide +kernel)) rfl
theorem w_369 : (.code yX3_wholeResult cX3_wholeResult 8 (some .long) : Cond) ∈ sm_T := sm_in (List.mem_of_getElem? (i := 369) (by decide +kernel)) rfl
theorem w_370 : (.methodLink RX3 18 yX3_calculated : Cond) ∈ sm_T := sm_in (List.mem_of_getElem? (i := 370) (by decide +kernel)) rfl
theorem w_371 : (.static yX3_calculated : Cond) ∈ sm_T := sm_in (List.mem_of_getElem? (i := 371) (by decide +kernel)) rfl
theorem w_372 : (.code yX3_calculated cX3_calculated 5 (some .long) : Cond) ∈ sm_T := sm_in (List.mem_of_getElem? (i := 372) (by decide +kernel)) rfl
theorem w_373 : (.methodLink RX3 26 yJ9_min_f86c9 : Cond) ∈ sm_T := sm_in (List.mem_of_getElem? (i := 373) (by decide +kernel)) rfl
theorem w_374 : (.methodLink RX3 32 yJ9_max_f86c9 : Cond) ∈ sm_T := sm_in (List.mem_of_getElem? (i := 374) (by decide +kernel)) rfl
theorem w_375 : (.methodLink RX3 22 yX3_combined : Cond) ∈ sm_T := sm_in (List.mem_of_getElem? (i := 375) (by decide +kernel)) rfl
theorem w_376 : (.static yX3_combined : Cond) ∈ sm_T := sm_in (List.mem_of_getElem? (i := 376) (by decide +kernel)) rfl
theorem w_377 : (.code yX3_combined cX3_combined 7 (some .long) : Cond) ∈ sm_T := sm_in (List.mem_of_getElem? (i := 377) (by decide +kernel)) rfl
theorem w_378 : (.constantLong RX3 35 (4294967295) : Cond) ∈ sm_T := sm_in (List.mem_of_getElem? (i := 378) (by decide +kernel)) rfl
theorem w_379 : (.methodLink RX3 37 yJ13_compare_74951 : Cond) ∈ sm_T := sm_in (List.mem_of_getElem? (i := 379) (by decide +kernel)) rfl
theorem w_380 : (.methodLink RX5 100 yX3_resultKind : Cond) ∈ sm_T := sm_in (List.mem_of_getElem? (i := 380) (by decide +kernel)) rfl
theorem w_381 : (.static yX3_resultKind : Cond) ∈ sm_T := sm_in (List.mem_of_getElem? (i := 381) (by decide +kernel)) rfl
theorem w_382 : (.code yX3_resultKind cX3_resultKind 2 (some .int) : Cond) ∈ sm_T := sm_in (List.mem_of_getElem? (i := 382) (by decide +kernel)) rfl
theorem w_383 : (.methodLink RX5 101 yX5_shadowOfTwo : Cond) ∈ sm_T := sm_in (List.mem_of_getElem? (i := 383) (by decide +kernel)) rfl
theorem w_385 : (.instanceMethod yX5_shadowOfTwo : Cond) ∈ sm_T := sm_in (List.mem_of_getElem? (i := 385) (by decide +kernel)) rfl
theorem w_386 : (.code yX5_shadowOfTwo cX5_shadowOfTwo 6 (some .int) : Cond) ∈ sm_T := sm_in (List.mem_of_getElem? (i := 386) (by decide +kernel)) rfl
theorem w_387 : (.methodLink RX5 186 yX3_calculates : Cond) ∈ sm_T := sm_in (List.mem_of_getElem? (i := 387) (by decide +kernel)) rfl
theorem w_388 : (.static yX3_calculates : Cond) ∈ sm_T := sm_in (List.mem_of_getElem? (i := 388) (by decide +kernel)) rfl
theorem w_389 : (.code yX3_calculates cX3_calculates 1 (some .boolean) : Cond) ∈ sm_T := sm_in (List.mem_of_getElem? (i := 389) (by decide +kernel)) rfl
theorem w_390 : (.methodLink RX5 110 yX5_giveUp : Cond) ∈ sm_T := sm_in (List.mem_of_getElem? (i := 390) (by decide +kernel)) rfl
theorem w_392 : (.instanceMethod yX5_giveUp : Cond) ∈ sm_T := sm_in (List.mem_of_getElem? (i := 392) (by decide +kernel)) rfl
theorem w_393 : (.code yX5_giveUp cX5_giveUp 4 (none) : Cond) ∈ sm_T := sm_in (List.mem_of_getElem? (i := 393) (by decide +kernel)) rfl
theorem w_394 : (.methodLink RX5 154 yX2_add : Cond) ∈ sm_T := sm_in (List.mem_of_getElem? (i := 394) (by decide +kernel)) rfl
theorem w_395 : (.instanceMethod yX2_add : Cond) ∈ sm_T := sm_in (List.mem_of_getElem? (i := 395) (by decide +kernel)) rfl
theorem w_396 : (.selects RX2 yX2_add yX2_add : Cond) ∈ sm_T := sm_in (List.mem_of_getElem? (i := 396) (by decide +kernel)) rfl
theorem w_397 : (.code yX2_add cX2_add 5 (none) : Cond) ∈ sm_T := sm_in (List.mem_of_getElem? (i := 397) (by decide +kernel)) rfl
theorem w_398 : (.methodLink RX2 19 yX2_startOf : Cond) ∈ sm_T := sm_in (List.mem_of_getElem? (i := 398) (by decide +kernel)) rfl
theorem w_399 : (.static yX2_startOf : Cond) ∈ sm_T := sm_in (List.mem_of_getElem? (i := 399) (by decide +kernel)) rfl
theorem w_400 : (.code yX2_startOf cX2_startOf 1 (some .int) : Cond) ∈ sm_T := sm_in (List.mem_of_getElem? (i := 400) (by decide +kernel)) rfl
theorem w_401 : (.methodLink RX5 151 yX5_joined : Cond) ∈ sm_T := sm_in (List.mem_of_getElem? (i := 401) (by decide +kernel)) rfl
theorem w_402 : (.static yX5_joined : Cond) ∈ sm_T := sm_in (List.mem_of_getElem? (i := 402) (by decide +kernel)) rfl
theorem w_403 : (.code yX5_joined cX5_joined 2 (some .int) : Cond) ∈ sm_T := sm_in (List.mem_of_getElem? (i := 403) (by decide +kernel)) rfl
theorem w_404 : (.methodLink RX5 189 yX3_mixes : Cond) ∈ sm_T := sm_in (List.mem_of_getElem? (i := 404) (by decide +kernel)) rfl
theorem w_405 : (.static yX3_mixes : Cond) ∈ sm_T := sm_in (List.mem_of_getElem? (i := 405) (by decide +kernel)) rfl
theorem w_406 : (.code yX3_mixes cX3_mixes 1 (some .boolean) : Cond) ∈ sm_T := sm_in (List.mem_of_getElem? (i := 406) (by decide +kernel)) rfl
theorem w_407 : (.methodLink RX3 15 yX3_divides : Cond) ∈ sm_T := sm_in (List.mem_of_getElem? (i := 407) (by decide +kernel)) rfl
theorem w_408 : (.methodLink RL 35 yX5_move : Cond) ∈ sm_T := sm_in (List.mem_of_getElem? (i := 408) (by decide +kernel)) rfl
theorem w_409 : (.instanceMethod yX5_move : Cond) ∈ sm_T := sm_in (List.mem_of_getElem? (i := 409) (by decide +kernel)) rfl
theorem w_410 : (.selects RX5 yX5_move yX5_move : Cond) ∈ sm_T := sm_in (List.mem_of_getElem? (i := 410) (by decide +kernel)) rfl
theorem w_411 : (.code yX5_move cX5_move 3 (some .int) : Cond) ∈ sm_T := sm_in (List.mem_of_getElem? (i := 411) (by decide +kernel)) rfl
theorem w_412 : (.methodLink RL 40 yX5_array : Cond) ∈ sm_T := sm_in (List.mem_of_getElem? (i := 412) (by decide +kernel)) rfl
theorem w_413 : (.instanceMethod yX5_array : Cond) ∈ sm_T := sm_in (List.mem_of_getElem? (i := 413) (by decide +kernel)) rfl
theorem w_414 : (.selects RX5 yX5_array yX5_array : Cond) ∈ sm_T := sm_in (List.mem_of_getElem? (i := 414) (by decide +kernel)) rfl
theorem w_415 : (.code yX5_array cX5_array 5 (some .int) : Cond) ∈ sm_T := sm_in (List.mem_of_getElem? (i := 415) (by decide +kernel)) rfl
theorem w_416 : (.methodLink RX5 105 yX5_isInt : Cond) ∈ sm_T := sm_in (List.mem_of_getElem? (i := 416) (by decide +kernel)) rfl
theorem w_418 : (.instanceMethod yX5_isInt : Cond) ∈ sm_T := sm_in (List.mem_of_getElem? (i := 418) (by decide +kernel)) rfl
theorem w_419 : (.code yX5_isInt cX5_isInt 2 (some .boolean) : Cond) ∈ sm_T := sm_in (List.mem_of_getElem? (i := 419) (by decide +kernel)) rfl
theorem w_420 : (.constantLong RX5 108 (12) : Cond) ∈ sm_T := sm_in (List.mem_of_getElem? (i := 420) (by decide +kernel)) rfl
theorem w_421 : (.methodLink RX5 114 yX5_unheld : Cond) ∈ sm_T := sm_in (List.mem_of_getElem? (i := 421) (by decide +kernel)) rfl
theorem w_423 : (.instanceMethod yX5_unheld : Cond) ∈ sm_T := sm_in (List.mem_of_getElem? (i := 423) (by decide +kernel)) rfl
theorem w_424 : (.code yX5_unheld cX5_unheld 3 (some (.object "ShadowMachine$Cells")) : Cond) ∈ sm_T := sm_in (List.mem_of_getElem? (i := 424) (by decide +kernel)) rfl
theorem w_425 : (.methodLink RX5 192 yX5_isHeld : Cond) ∈ sm_T := sm_in (List.mem_of_getElem? (i := 425) (by decide +kernel)) rfl
theorem w_427 : (.instanceMethod yX5_isHeld : Cond) ∈ sm_T := sm_in (List.mem_of_getElem? (i := 427) (by decide +kernel)) rfl
theorem w_428 : (.code yX5_isHeld cX5_isHeld 3 (some .boolean) : Cond) ∈ sm_T := sm_in (List.mem_of_getElem? (i := 428) (by decide +kernel)) rfl
theorem w_429 : (.methodLink RX5 118 yX0_renew : Cond) ∈ sm_T := sm_in (List.mem_of_getElem? (i := 429) (by decide +kernel)) rfl
theorem w_430 : (.instanceMethod yX0_renew : Cond) ∈ sm_T := sm_in (List.mem_of_getElem? (i := 430) (by decide +kernel)) rfl
theorem w_431 : (.selects RX0 yX0_renew yX0_renew : Cond) ∈ sm_T := sm_in (List.mem_of_getElem? (i := 431) (by decide +kernel)) rfl
theorem w_432 : (.code yX0_renew cX0_renew 4 (none) : Cond) ∈ sm_T := sm_in (List.mem_of_getElem? (i := 432) (by decide +kernel)) rfl
theorem w_433 : (.methodLink RL 44 yX5_drop : Cond) ∈ sm_T := sm_in (List.mem_of_getElem? (i := 433) (by decide +kernel)) rfl
theorem w_434 : (.instanceMethod yX5_drop : Cond) ∈ sm_T := sm_in (List.mem_of_getElem? (i := 434) (by decide +kernel)) rfl
theorem w_435 : (.selects RX5 yX5_drop yX5_drop : Cond) ∈ sm_T := sm_in (List.mem_of_getElem? (i := 435) (by decide +kernel)) rfl
theorem w_436 : (.code yX5_drop cX5_drop 2 (some .int) : Cond) ∈ sm_T := sm_in (List.mem_of_getElem? (i := 436) (by decide +kernel)) rfl
theorem w_437 : (.methodLink RL 49 yX5_share : Cond) ∈ sm_T := sm_in (List.mem_of_getElem? (i := 437) (by decide +kernel)) rfl
theorem w_438 : (.instanceMethod yX5_share : Cond) ∈ sm_T := sm_in (List.mem_of_getElem? (i := 438) (by decide +kernel)) rfl
theorem w_439 : (.selects RX5 yX5_share yX5_share : Cond) ∈ sm_T := sm_in (List.mem_of_getElem? (i := 439) (by decide +kernel)) rfl
theorem w_440 : (.code yX5_share cX5_share 3 (some .int) : Cond) ∈ sm_T := sm_in (List.mem_of_getElem? (i := 440) (by decide +kernel)) rfl
theorem w_441 : (.methodLink RL 53 yX5_load : Cond) ∈ sm_T := sm_in (List.mem_of_getElem? (i := 441) (by decide +kernel)) rfl
theorem w_442 : (.instanceMethod yX5_load : Cond) ∈ sm_T := sm_in (List.mem_of_getElem? (i := 442) (by decide +kernel)) rfl
theorem w_443 : (.selects RX5 yX5_load yX5_load : Cond) ∈ sm_T := sm_in (List.mem_of_getElem? (i := 443) (by decide +kernel)) rfl
theorem w_444 : (.code yX5_load cX5_load 6 (some .int) : Cond) ∈ sm_T := sm_in (List.mem_of_getElem? (i := 444) (by decide +kernel)) rfl
theorem w_445 : (.methodLink RX5 125 yX0_kindTaken : Cond) ∈ sm_T := sm_in (List.mem_of_getElem? (i := 445) (by decide +kernel)) rfl
theorem w_446 : (.instanceMethod yX0_kindTaken : Cond) ∈ sm_T := sm_in (List.mem_of_getElem? (i := 446) (by decide +kernel)) rfl
theorem w_447 : (.selects RX0 yX0_kindTaken yX0_kindTaken : Cond) ∈ sm_T := sm_in (List.mem_of_getElem? (i := 447) (by decide +kernel)) rfl
theorem w_448 : (.code yX0_kindTaken cX0_kindTaken 1 (some .int) : Cond) ∈ sm_T := sm_in (List.mem_of_getElem? (i := 448) (by decide +kernel)) rfl
theorem w_449 : (.methodLink RL 57 yX5_store : Cond) ∈ sm_T := sm_in (List.mem_of_getElem? (i := 449) (by decide +kernel)) rfl
theorem w_450 : (.instanceMethod yX5_store : Cond) ∈ sm_T := sm_in (List.mem_of_getElem? (i := 450) (by decide +kernel)) rfl
theorem w_451 : (.selects RX5 yX5_store yX5_store : Cond) ∈ sm_T := sm_in (List.mem_of_getElem? (i := 451) (by decide +kernel)) rfl
theorem w_452 : (.code yX5_store cX5_store 5 (some .int) : Cond) ∈ sm_T := sm_in (List.mem_of_getElem? (i := 452) (by decide +kernel)) rfl
theorem w_453 : (.methodLink RX5 131 yX0_keep : Cond) ∈ sm_T := sm_in (List.mem_of_getElem? (i := 453) (by decide +kernel)) rfl
theorem w_454 : (.instanceMethod yX0_keep : Cond) ∈ sm_T := sm_in (List.mem_of_getElem? (i := 454) (by decide +kernel)) rfl
theorem w_455 : (.selects RX0 yX0_keep yX0_keep : Cond) ∈ sm_T := sm_in (List.mem_of_getElem? (i := 455) (by decide +kernel)) rfl
theorem w_456 : (.code yX0_keep cX0_keep 5 (none) : Cond) ∈ sm_T := sm_in (List.mem_of_getElem? (i := 456) (by decide +kernel)) rfl
theorem w_457 : (.methodLink RX0 26 yX0_narrowed : Cond) ∈ sm_T := sm_in (List.mem_of_getElem? (i := 457) (by decide +kernel)) rfl
theorem w_459 : (.instanceMethod yX0_narrowed : Cond) ∈ sm_T := sm_in (List.mem_of_getElem? (i := 459) (by decide +kernel)) rfl
theorem w_460 : (.code yX0_narrowed cX0_narrowed 3 (some .long) : Cond) ∈ sm_T := sm_in (List.mem_of_getElem? (i := 460) (by decide +kernel)) rfl
theorem w_462 : (.methodLink RL 61 yX5_length : Cond) ∈ sm_T := sm_in (List.mem_of_getElem? (i := 462) (by decide +kernel)) rfl
theorem w_463 : (.instanceMethod yX5_length : Cond) ∈ sm_T := sm_in (List.mem_of_getElem? (i := 463) (by decide +kernel)) rfl
theorem w_464 : (.selects RX5 yX5_length yX5_length : Cond) ∈ sm_T := sm_in (List.mem_of_getElem? (i := 464) (by decide +kernel)) rfl
theorem w_465 : (.code yX5_length cX5_length 4 (some .int) : Cond) ∈ sm_T := sm_in (List.mem_of_getElem? (i := 465) (by decide +kernel)) rfl
theorem w_466 : (.methodLink RL 65 yX5_copy : Cond) ∈ sm_T := sm_in (List.mem_of_getElem? (i := 466) (by decide +kernel)) rfl
theorem w_467 : (.instanceMethod yX5_copy : Cond) ∈ sm_T := sm_in (List.mem_of_getElem? (i := 467) (by decide +kernel)) rfl
theorem w_468 : (.selects RX5 yX5_copy yX5_copy : Cond) ∈ sm_T := sm_in (List.mem_of_getElem? (i := 468) (by decide +kernel)) rfl
theorem w_469 : (.code yX5_copy cX5_copy 8 (some .int) : Cond) ∈ sm_T := sm_in (List.mem_of_getElem? (i := 469) (by decide +kernel)) rfl
theorem w_470 : (.methodLink RX5 138 yX0_hasRun : Cond) ∈ sm_T := sm_in (List.mem_of_getElem? (i := 470) (by decide +kernel)) rfl
theorem w_471 : (.instanceMethod yX0_hasRun : Cond) ∈ sm_T := sm_in (List.mem_of_getElem? (i := 471) (by decide +kernel)) rfl
theorem w_472 : (.selects RX0 yX0_hasRun yX0_hasRun : Cond) ∈ sm_T := sm_in (List.mem_of_getElem? (i := 472) (by decide +kernel)) rfl
theorem w_473 : (.code yX0_hasRun cX0_hasRun 3 (some .boolean) : Cond) ∈ sm_T := sm_in (List.mem_of_getElem? (i := 473) (by decide +kernel)) rfl
theorem w_477 : (.methodLink RL 70 yX5_branch : Cond) ∈ sm_T := sm_in (List.mem_of_getElem? (i := 477) (by decide +kernel)) rfl
theorem w_478 : (.instanceMethod yX5_branch : Cond) ∈ sm_T := sm_in (List.mem_of_getElem? (i := 478) (by decide +kernel)) rfl
theorem w_479 : (.selects RX5 yX5_branch yX5_branch : Cond) ∈ sm_T := sm_in (List.mem_of_getElem? (i := 479) (by decide +kernel)) rfl
theorem w_480 : (.code yX5_branch cX5_branch 6 (some .int) : Cond) ∈ sm_T := sm_in (List.mem_of_getElem? (i := 480) (by decide +kernel)) rfl
theorem w_481 : (.methodLink RX5 147 yX5_isSo : Cond) ∈ sm_T := sm_in (List.mem_of_getElem? (i := 481) (by decide +kernel)) rfl
theorem w_482 : (.static yX5_isSo : Cond) ∈ sm_T := sm_in (List.mem_of_getElem? (i := 482) (by decide +kernel)) rfl
theorem w_483 : (.code yX5_isSo cX5_isSo 5 (some .boolean) : Cond) ∈ sm_T := sm_in (List.mem_of_getElem? (i := 483) (by decide +kernel)) rfl
theorem w_484 : (.methodLink RL 74 yX5_kind : Cond) ∈ sm_T := sm_in (List.mem_of_getElem? (i := 484) (by decide +kernel)) rfl
theorem w_485 : (.instanceMethod yX5_kind : Cond) ∈ sm_T := sm_in (List.mem_of_getElem? (i := 485) (by decide +kernel)) rfl
theorem w_486 : (.selects RX5 yX5_kind yX5_kind : Cond) ∈ sm_T := sm_in (List.mem_of_getElem? (i := 486) (by decide +kernel)) rfl
theorem w_487 : (.code yX5_kind cX5_kind 2 (some .int) : Cond) ∈ sm_T := sm_in (List.mem_of_getElem? (i := 487) (by decide +kernel)) rfl
theorem w_488 : (.methodLink RL 78 yX5_bits : Cond) ∈ sm_T := sm_in (List.mem_of_getElem? (i := 488) (by decide +kernel)) rfl
theorem w_489 : (.instanceMethod yX5_bits : Cond) ∈ sm_T := sm_in (List.mem_of_getElem? (i := 489) (by decide +kernel)) rfl
theorem w_490 : (.selects RX5 yX5_bits yX5_bits : Cond) ∈ sm_T := sm_in (List.mem_of_getElem? (i := 490) (by decide +kernel)) rfl
theorem w_491 : (.code yX5_bits cX5_bits 2 (some .long) : Cond) ∈ sm_T := sm_in (List.mem_of_getElem? (i := 491) (by decide +kernel)) rfl
theorem w_492 : (.constantLong RX5 158 (1234567890123456789) : Cond) ∈ sm_T := sm_in (List.mem_of_getElem? (i := 492) (by decide +kernel)) rfl
theorem w_493 : (.methodLink RL 83 yX5_shadow : Cond) ∈ sm_T := sm_in (List.mem_of_getElem? (i := 493) (by decide +kernel)) rfl
theorem w_494 : (.instanceMethod yX5_shadow : Cond) ∈ sm_T := sm_in (List.mem_of_getElem? (i := 494) (by decide +kernel)) rfl
theorem w_495 : (.selects RX5 yX5_shadow yX5_shadow : Cond) ∈ sm_T := sm_in (List.mem_of_getElem? (i := 495) (by decide +kernel)) rfl
theorem w_496 : (.code yX5_shadow cX5_shadow 2 (some .int) : Cond) ∈ sm_T := sm_in (List.mem_of_getElem? (i := 496) (by decide +kernel)) rfl
theorem w_497 : (.methodLink RL 87 yX5_cell : Cond) ∈ sm_T := sm_in (List.mem_of_getElem? (i := 497) (by decide +kernel)) rfl
theorem w_498 : (.instanceMethod yX5_cell : Cond) ∈ sm_T := sm_in (List.mem_of_getElem? (i := 498) (by decide +kernel)) rfl
theorem w_499 : (.selects RX5 yX5_cell yX5_cell : Cond) ∈ sm_T := sm_in (List.mem_of_getElem? (i := 499) (by decide +kernel)) rfl
theorem w_500 : (.code yX5_cell cX5_cell 5 (some .long) : Cond) ∈ sm_T := sm_in (List.mem_of_getElem? (i := 500) (by decide +kernel)) rfl
theorem w_501 : (.methodLink RL 92 yX5_pin : Cond) ∈ sm_T := sm_in (List.mem_of_getElem? (i := 501) (by decide +kernel)) rfl
theorem w_502 : (.instanceMethod yX5_pin : Cond) ∈ sm_T := sm_in (List.mem_of_getElem? (i := 502) (by decide +kernel)) rfl
theorem w_503 : (.selects RX5 yX5_pin yX5_pin : Cond) ∈ sm_T := sm_in (List.mem_of_getElem? (i := 503) (by decide +kernel)) rfl
theorem w_504 : (.code yX5_pin cX5_pin 3 (some .long) : Cond) ∈ sm_T := sm_in (List.mem_of_getElem? (i := 504) (by decide +kernel)) rfl
theorem w_505 : (.methodLink RX5 160 yX2_told : Cond) ∈ sm_T := sm_in (List.mem_of_getElem? (i := 505) (by decide +kernel)) rfl
theorem w_506 : (.instanceMethod yX2_told : Cond) ∈ sm_T := sm_in (List.mem_of_getElem? (i := 506) (by decide +kernel)) rfl
theorem w_507 : (.selects RX2 yX2_told yX2_told : Cond) ∈ sm_T := sm_in (List.mem_of_getElem? (i := 507) (by decide +kernel)) rfl
theorem w_508 : (.code yX2_told cX2_told 3 (some .long) : Cond) ∈ sm_T := sm_in (List.mem_of_getElem? (i := 508) (by decide +kernel)) rfl
theorem w_510 : (.constantLong RX2 27 (1234567890123456789) : Cond) ∈ sm_T := sm_in (List.mem_of_getElem? (i := 510) (by decide +kernel)) rfl
theorem w_511 : (.methodLink RL 97 yX5_way : Cond) ∈ sm_T := sm_in (List.mem_of_getElem? (i := 511) (by decide +kernel)) rfl
theorem w_512 : (.instanceMethod yX5_way : Cond) ∈ sm_T := sm_in (List.mem_of_getElem? (i := 512) (by decide +kernel)) rfl
theorem w_513 : (.selects RX5 yX5_way yX5_way : Cond) ∈ sm_T := sm_in (List.mem_of_getElem? (i := 513) (by decide +kernel)) rfl
theorem w_514 : (.code yX5_way cX5_way 3 (some .long) : Cond) ∈ sm_T := sm_in (List.mem_of_getElem? (i := 514) (by decide +kernel)) rfl
theorem w_515 : (.methodLink RL 101 yX5_count : Cond) ∈ sm_T := sm_in (List.mem_of_getElem? (i := 515) (by decide +kernel)) rfl
theorem w_516 : (.instanceMethod yX5_count : Cond) ∈ sm_T := sm_in (List.mem_of_getElem? (i := 516) (by decide +kernel)) rfl
theorem w_517 : (.selects RX5 yX5_count yX5_count : Cond) ∈ sm_T := sm_in (List.mem_of_getElem? (i := 517) (by decide +kernel)) rfl
theorem w_518 : (.code yX5_count cX5_count 2 (some .int) : Cond) ∈ sm_T := sm_in (List.mem_of_getElem? (i := 518) (by decide +kernel)) rfl
theorem w_519 : (.methodLink RX5 170 yX5_dependentRegisters : Cond) ∈ sm_T := sm_in (List.mem_of_getElem? (i := 519) (by decide +kernel)) rfl
theorem w_521 : (.instanceMethod yX5_dependentRegisters : Cond) ∈ sm_T := sm_in (List.mem_of_getElem? (i := 521) (by decide +kernel)) rfl
theorem w_522 : (.code yX5_dependentRegisters cX5_dependentRegisters 3 (some .int) : Cond) ∈ sm_T := sm_in (List.mem_of_getElem? (i := 522) (by decide +kernel)) rfl
theorem w_525 : (.methodLink RL 12 yX6_init : Cond) ∈ sm_T := sm_in (List.mem_of_getElem? (i := 525) (by decide +kernel)) rfl
theorem w_526 : (.instanceMethod yX6_init : Cond) ∈ sm_T := sm_in (List.mem_of_getElem? (i := 526) (by decide +kernel)) rfl
theorem w_527 : (.code yX6_init cX6_init 2 (none) : Cond) ∈ sm_T := sm_in (List.mem_of_getElem? (i := 527) (by decide +kernel)) rfl
theorem w_529 : (.fieldLink RX6 7 RX6 "kind" "[I" : Cond) ∈ sm_T := sm_in (List.mem_of_getElem? (i := 529) (by decide +kernel)) rfl
theorem w_530 : (.fieldLink RX6 13 RX6 "set" "[I" : Cond) ∈ sm_T := sm_in (List.mem_of_getElem? (i := 530) (by decide +kernel)) rfl
theorem w_531 : (.fieldLink RX6 16 RX6 "bits" "[J" : Cond) ∈ sm_T := sm_in (List.mem_of_getElem? (i := 531) (by decide +kernel)) rfl
theorem w_532 : (.fieldLink RX6 20 RX6 "exact" "[Z" : Cond) ∈ sm_T := sm_in (List.mem_of_getElem? (i := 532) (by decide +kernel)) rfl
theorem w_533 : (.fieldLink RX6 24 RX6 "store" "[I" : Cond) ∈ sm_T := sm_in (List.mem_of_getElem? (i := 533) (by decide +kernel)) rfl
theorem w_534 : (.fieldLink RX6 27 RX6 "sort" "[I" : Cond) ∈ sm_T := sm_in (List.mem_of_getElem? (i := 534) (by decide +kernel)) rfl
theorem w_535 : (.fieldLink RX6 30 RX6 "size" "[I" : Cond) ∈ sm_T := sm_in (List.mem_of_getElem? (i := 535) (by decide +kernel)) rfl
theorem w_536 : (.fieldLink RX6 33 RX6 "pinOp" "[I" : Cond) ∈ sm_T := sm_in (List.mem_of_getElem? (i := 536) (by decide +kernel)) rfl
theorem w_537 : (.fieldLink RX6 36 RX6 "pinSet" "[I" : Cond) ∈ sm_T := sm_in (List.mem_of_getElem? (i := 537) (by decide +kernel)) rfl
theorem w_538 : (.fieldLink RX6 39 RX6 "wayTo" "[I" : Cond) ∈ sm_T := sm_in (List.mem_of_getElem? (i := 538) (by decide +kernel)) rfl
theorem w_539 : (.fieldLink RX6 42 RX6 "waySet" "[I" : Cond) ∈ sm_T := sm_in (List.mem_of_getElem? (i := 539) (by decide +kernel)) rfl
theorem w_540 : (.fieldLink RX6 45 RX6 "wayExact" "[I" : Cond) ∈ sm_T := sm_in (List.mem_of_getElem? (i := 540) (by decide +kernel)) rfl
theorem w_541 : (.fieldLink RX6 48 RX6 "pins" "I" : Cond) ∈ sm_T := sm_in (List.mem_of_getElem? (i := 541) (by decide +kernel)) rfl
theorem w_542 : (.fieldLink RX6 52 RX6 "ways" "I" : Cond) ∈ sm_T := sm_in (List.mem_of_getElem? (i := 542) (by decide +kernel)) rfl
theorem w_543 : (.fieldLink RX6 55 RX6 "thrown" "I" : Cond) ∈ sm_T := sm_in (List.mem_of_getElem? (i := 543) (by decide +kernel)) rfl
theorem w_544 : (.fieldLink RX6 58 RX6 "moved" "[I" : Cond) ∈ sm_T := sm_in (List.mem_of_getElem? (i := 544) (by decide +kernel)) rfl
theorem w_545 : (.fieldLink RX6 61 RX6 "movedBits" "[J" : Cond) ∈ sm_T := sm_in (List.mem_of_getElem? (i := 545) (by decide +kernel)) rfl
theorem w_546 : (.fieldLink RX6 64 RX6 "sortOf" "[I" : Cond) ∈ sm_T := sm_in (List.mem_of_getElem? (i := 546) (by decide +kernel)) rfl
theorem w_547 : (.fieldLink RX6 67 RX6 "power" "[I" : Cond) ∈ sm_T := sm_in (List.mem_of_getElem? (i := 547) (by decide +kernel)) rfl
theorem w_548 : (.fieldLink RX6 70 RX6 "minus" "[Z" : Cond) ∈ sm_T := sm_in (List.mem_of_getElem? (i := 548) (by decide +kernel)) rfl
theorem w_549 : (.fieldLink RX6 73 RX6 "part" "[J" : Cond) ∈ sm_T := sm_in (List.mem_of_getElem? (i := 549) (by decide +kernel)) rfl
theorem w_594 : (.methodLink RL 19 yX6_constant : Cond) ∈ sm_T := sm_in (List.mem_of_getElem? (i := 594) (by decide +kernel)) rfl
theorem w_595 : (.instanceMethod yX6_constant : Cond) ∈ sm_T := sm_in (List.mem_of_getElem? (i := 595) (by decide +kernel)) rfl
theorem w_596 : (.selects RX6 yX6_constant yX6_constant : Cond) ∈ sm_T := sm_in (List.mem_of_getElem? (i := 596) (by decide +kernel)) rfl
theorem w_597 : (.code yX6_constant cX6_constant 5 (some .int) : Cond) ∈ sm_T := sm_in (List.mem_of_getElem? (i := 597) (by decide +kernel)) rfl
theorem w_598 : (.methodLink RX6 140 yX6_out : Cond) ∈ sm_T := sm_in (List.mem_of_getElem? (i := 598) (by decide +kernel)) rfl
theorem w_600 : (.instanceMethod yX6_out : Cond) ∈ sm_T := sm_in (List.mem_of_getElem? (i := 600) (by decide +kernel)) rfl
theorem w_601 : (.code yX6_out cX6_out 3 (some .boolean) : Cond) ∈ sm_T := sm_in (List.mem_of_getElem? (i := 601) (by decide +kernel)) rfl
theorem w_602 : (.methodLink RX6 144 yX6_clean : Cond) ∈ sm_T := sm_in (List.mem_of_getElem? (i := 602) (by decide +kernel)) rfl
theorem w_604 : (.instanceMethod yX6_clean : Cond) ∈ sm_T := sm_in (List.mem_of_getElem? (i := 604) (by decide +kernel)) rfl
theorem w_605 : (.code yX6_clean cX6_clean 6 (some .long) : Cond) ∈ sm_T := sm_in (List.mem_of_getElem? (i := 605) (by decide +kernel)) rfl
theorem w_606 : (.methodLink RX6 132 yX6_isNone : Cond) ∈ sm_T := sm_in (List.mem_of_getElem? (i := 606) (by decide +kernel)) rfl
theorem w_608 : (.instanceMethod yX6_isNone : Cond) ∈ sm_T := sm_in (List.mem_of_getElem? (i := 608) (by decide +kernel)) rfl
theorem w_609 : (.code yX6_isNone cX6_isNone 4 (some .boolean) : Cond) ∈ sm_T := sm_in (List.mem_of_getElem? (i := 609) (by decide +kernel)) rfl
theorem w_610 : (.methodLink RX6 111 yX6_take : Cond) ∈ sm_T := sm_in (List.mem_of_getElem? (i := 610) (by decide +kernel)) rfl
theorem w_612 : (.instanceMethod yX6_take : Cond) ∈ sm_T := sm_in (List.mem_of_getElem? (i := 612) (by decide +kernel)) rfl
theorem w_613 : (.code yX6_take cX6_take 11 (none) : Cond) ∈ sm_T := sm_in (List.mem_of_getElem? (i := 613) (by decide +kernel)) rfl
theorem w_614 : (.methodLink RX6 88 yX6_places : Cond) ∈ sm_T := sm_in (List.mem_of_getElem? (i := 614) (by decide +kernel)) rfl
theorem w_616 : (.instanceMethod yX6_places : Cond) ∈ sm_T := sm_in (List.mem_of_getElem? (i := 616) (by decide +kernel)) rfl
theorem w_617 : (.code yX6_places cX6_places 2 (some .int) : Cond) ∈ sm_T := sm_in (List.mem_of_getElem? (i := 617) (by decide +kernel)) rfl
theorem w_618 : (.constantLong RX6 92 (9223372036854775807) : Cond) ∈ sm_T := sm_in (List.mem_of_getElem? (i := 618) (by decide +kernel)) rfl
theorem w_619 : (.constantLong RX6 94 (2147483647) : Cond) ∈ sm_T := sm_in (List.mem_of_getElem? (i := 619) (by decide +kernel)) rfl
theorem w_620 : (.methodLink RX6 96 yX6_least : Cond) ∈ sm_T := sm_in (List.mem_of_getElem? (i := 620) (by decide +kernel)) rfl
theorem w_622 : (.instanceMethod yX6_least : Cond) ∈ sm_T := sm_in (List.mem_of_getElem? (i := 622) (by decide +kernel)) rfl
theorem w_623 : (.code yX6_least cX6_least 2 (some .int) : Cond) ∈ sm_T := sm_in (List.mem_of_getElem? (i := 623) (by decide +kernel)) rfl
theorem w_624 : (.methodLink RX6 115 yX6_none : Cond) ∈ sm_T := sm_in (List.mem_of_getElem? (i := 624) (by decide +kernel)) rfl
theorem w_626 : (.instanceMethod yX6_none : Cond) ∈ sm_T := sm_in (List.mem_of_getElem? (i := 626) (by decide +kernel)) rfl
theorem w_627 : (.code yX6_none cX6_none 2 (some .long) : Cond) ∈ sm_T := sm_in (List.mem_of_getElem? (i := 627) (by decide +kernel)) rfl
theorem w_628 : (.constantLong RX6 76 (9221120237041090560) : Cond) ∈ sm_T := sm_in (List.mem_of_getElem? (i := 628) (by decide +kernel)) rfl
theorem w_629 : (.constantLong RX6 78 (2143289344) : Cond) ∈ sm_T := sm_in (List.mem_of_getElem? (i := 629) (by decide +kernel)) rfl
theorem w_630 : (.methodLink RX6 148 yX6_put : Cond) ∈ sm_T := sm_in (List.mem_of_getElem? (i := 630) (by decide +kernel)) rfl
theorem w_632 : (.instanceMethod yX6_put : Cond) ∈ sm_T := sm_in (List.mem_of_getElem? (i := 632) (by decide +kernel)) rfl
theorem w_633 : (.code yX6_put cX6_put 6 (none) : Cond) ∈ sm_T := sm_in (List.mem_of_getElem? (i := 633) (by decide +kernel)) rfl
theorem w_634 : (.methodLink RL 24 yX6_input : Cond) ∈ sm_T := sm_in (List.mem_of_getElem? (i := 634) (by decide +kernel)) rfl
theorem w_635 : (.instanceMethod yX6_input : Cond) ∈ sm_T := sm_in (List.mem_of_getElem? (i := 635) (by decide +kernel)) rfl
theorem w_636 : (.selects RX6 yX6_input yX6_input : Cond) ∈ sm_T := sm_in (List.mem_of_getElem? (i := 636) (by decide +kernel)) rfl
theorem w_637 : (.code yX6_input cX6_input 6 (some .int) : Cond) ∈ sm_T := sm_in (List.mem_of_getElem? (i := 637) (by decide +kernel)) rfl
theorem w_638 : (.methodLink RL 29 yX6_one : Cond) ∈ sm_T := sm_in (List.mem_of_getElem? (i := 638) (by decide +kernel)) rfl
theorem w_639 : (.instanceMethod yX6_one : Cond) ∈ sm_T := sm_in (List.mem_of_getElem? (i := 639) (by decide +kernel)) rfl
theorem w_640 : (.selects RX6 yX6_one yX6_one : Cond) ∈ sm_T := sm_in (List.mem_of_getElem? (i := 640) (by decide +kernel)) rfl
theorem w_641 : (.code yX6_one cX6_one 9 (some .int) : Cond) ∈ sm_T := sm_in (List.mem_of_getElem? (i := 641) (by decide +kernel)) rfl
theorem w_642 : (.methodLink RX6 162 yX6_kindAfter : Cond) ∈ sm_T := sm_in (List.mem_of_getElem? (i := 642) (by decide +kernel)) rfl
theorem w_644 : (.instanceMethod yX6_kindAfter : Cond) ∈ sm_T := sm_in (List.mem_of_getElem? (i := 644) (by decide +kernel)) rfl
theorem w_645 : (.code yX6_kindAfter cX6_kindAfter 2 (some .int) : Cond) ∈ sm_T := sm_in (List.mem_of_getElem? (i := 645) (by decide +kernel)) rfl
theorem w_646 : (.methodLink RX6 166 yX6_wanted : Cond) ∈ sm_T := sm_in (List.mem_of_getElem? (i := 646) (by decide +kernel)) rfl
theorem w_648 : (.instanceMethod yX6_wanted : Cond) ∈ sm_T := sm_in (List.mem_of_getElem? (i := 648) (by decide +kernel)) rfl
theorem w_649 : (.code yX6_wanted cX6_wanted 2 (some .int) : Cond) ∈ sm_T := sm_in (List.mem_of_getElem? (i := 649) (by decide +kernel)) rfl
theorem w_650 : (.methodLink RX6 169 yX6_converted : Cond) ∈ sm_T := sm_in (List.mem_of_getElem? (i := 650) (by decide +kernel)) rfl
theorem w_652 : (.instanceMethod yX6_converted : Cond) ∈ sm_T := sm_in (List.mem_of_getElem? (i := 652) (by decide +kernel)) rfl
theorem w_653 : (.code yX6_converted cX6_converted 4 (some .long) : Cond) ∈ sm_T := sm_in (List.mem_of_getElem? (i := 653) (by decide +kernel)) rfl
theorem w_654 : (.methodLink RX6 152 yX6_fromWhole : Cond) ∈ sm_T := sm_in (List.mem_of_getElem? (i := 654) (by decide +kernel)) rfl
theorem w_656 : (.instanceMethod yX6_fromWhole : Cond) ∈ sm_T := sm_in (List.mem_of_getElem? (i := 656) (by decide +kernel)) rfl
theorem w_657 : (.code yX6_fromWhole cX6_fromWhole 6 (some .long) : Cond) ∈ sm_T := sm_in (List.mem_of_getElem? (i := 657) (by decide +kernel)) rfl
theorem w_658 : (.constantLong RX6 84 (-9223372036854775808) : Cond) ∈ sm_T := sm_in (List.mem_of_getElem? (i := 658) (by decide +kernel)) rfl
theorem w_659 : (.constantLong RX6 126 (2305843009213693952) : Cond) ∈ sm_T := sm_in (List.mem_of_getElem? (i := 659) (by decide +kernel)) rfl
theorem w_660 : (.methodLink RX6 122 yX6_round : Cond) ∈ sm_T := sm_in (List.mem_of_getElem? (i := 660) (by decide +kernel)) rfl
theorem w_662 : (.instanceMethod yX6_round : Cond) ∈ sm_T := sm_in (List.mem_of_getElem? (i := 662) (by decide +kernel)) rfl
theorem w_663 : (.code yX6_round cX6_round 16 (some .long) : Cond) ∈ sm_T := sm_in (List.mem_of_getElem? (i := 663) (by decide +kernel)) rfl
theorem w_664 : (.methodLink RX6 99 yX6_lengthOf : Cond) ∈ sm_T := sm_in (List.mem_of_getElem? (i := 664) (by decide +kernel)) rfl
theorem w_666 : (.instanceMethod yX6_lengthOf : Cond) ∈ sm_T := sm_in (List.mem_of_getElem? (i := 666) (by decide +kernel)) rfl
theorem w_667 : (.code yX6_lengthOf cX6_lengthOf 6 (some .int) : Cond) ∈ sm_T := sm_in (List.mem_of_getElem? (i := 667) (by decide +kernel)) rfl
theorem w_668 : (.methodLink RX6 103 yX6_infinite : Cond) ∈ sm_T := sm_in (List.mem_of_getElem? (i := 668) (by decide +kernel)) rfl
theorem w_670 : (.instanceMethod yX6_infinite : Cond) ∈ sm_T := sm_in (List.mem_of_getElem? (i := 670) (by decide +kernel)) rfl
theorem w_671 : (.code yX6_infinite cX6_infinite 2 (some .long) : Cond) ∈ sm_T := sm_in (List.mem_of_getElem? (i := 671) (by decide +kernel)) rfl
theorem w_672 : (.constantLong RX6 80 (9218868437227405312) : Cond) ∈ sm_T := sm_in (List.mem_of_getElem? (i := 672) (by decide +kernel)) rfl
theorem w_673 : (.constantLong RX6 82 (2139095040) : Cond) ∈ sm_T := sm_in (List.mem_of_getElem? (i := 673) (by decide +kernel)) rfl
theorem w_674 : (.methodLink RX6 107 yX6_signed : Cond) ∈ sm_T := sm_in (List.mem_of_getElem? (i := 674) (by decide +kernel)) rfl
theorem w_676 : (.instanceMethod yX6_signed : Cond) ∈ sm_T := sm_in (List.mem_of_getElem? (i := 676) (by decide +kernel)) rfl
theorem w_677 : (.code yX6_signed cX6_signed 5 (some .long) : Cond) ∈ sm_T := sm_in (List.mem_of_getElem? (i := 677) (by decide +kernel)) rfl
theorem w_678 : (.constantLong RX6 86 (2147483648) : Cond) ∈ sm_T := sm_in (List.mem_of_getElem? (i := 678) (by decide +kernel)) rfl
theorem w_679 : (.constantLong RX6 128 (4611686018427387904) : Cond) ∈ sm_T := sm_in (List.mem_of_getElem? (i := 679) (by decide +kernel)) rfl
theorem w_680 : (.methodLink RX6 155 yX6_toWhole : Cond) ∈ sm_T := sm_in (List.mem_of_getElem? (i := 680) (by decide +kernel)) rfl
theorem w_682 : (.instanceMethod yX6_toWhole : Cond) ∈ sm_T := sm_in (List.mem_of_getElem? (i := 682) (by decide +kernel)) rfl
theorem w_683 : (.code yX6_toWhole cX6_toWhole 10 (some .long) : Cond) ∈ sm_T := sm_in (List.mem_of_getElem? (i := 683) (by decide +kernel)) rfl
theorem w_684 : (.methodLink RX6 159 yX6_otherFormat : Cond) ∈ sm_T := sm_in (List.mem_of_getElem? (i := 684) (by decide +kernel)) rfl
theorem w_686 : (.instanceMethod yX6_otherFormat : Cond) ∈ sm_T := sm_in (List.mem_of_getElem? (i := 686) (by decide +kernel)) rfl
theorem w_687 : (.code yX6_otherFormat cX6_otherFormat 4 (some .long) : Cond) ∈ sm_T := sm_in (List.mem_of_getElem? (i := 687) (by decide +kernel)) rfl
theorem w_688 : (.methodLink RX6 172 yX6_turned : Cond) ∈ sm_T := sm_in (List.mem_of_getElem? (i := 688) (by decide +kernel)) rfl
theorem w_690 : (.instanceMethod yX6_turned : Cond) ∈ sm_T := sm_in (List.mem_of_getElem? (i := 690) (by decide +kernel)) rfl
theorem w_691 : (.code yX6_turned cX6_turned 7 (some .long) : Cond) ∈ sm_T := sm_in (List.mem_of_getElem? (i := 691) (by decide +kernel)) rfl
theorem w_692 : (.methodLink RL 34 yX6_two : Cond) ∈ sm_T := sm_in (List.mem_of_getElem? (i := 692) (by decide +kernel)) rfl
theorem w_693 : (.instanceMethod yX6_two : Cond) ∈ sm_T := sm_in (List.mem_of_getElem? (i := 693) (by decide +kernel)) rfl
theorem w_694 : (.selects RX6 yX6_two yX6_two : Cond) ∈ sm_T := sm_in (List.mem_of_getElem? (i := 694) (by decide +kernel)) rfl
theorem w_695 : (.code yX6_two cX6_two 14 (some .int) : Cond) ∈ sm_T := sm_in (List.mem_of_getElem? (i := 695) (by decide +kernel)) rfl
theorem w_696 : (.methodLink RX6 191 yX6_fix : Cond) ∈ sm_T := sm_in (List.mem_of_getElem? (i := 696) (by decide +kernel)) rfl
theorem w_698 : (.instanceMethod yX6_fix : Cond) ∈ sm_T := sm_in (List.mem_of_getElem? (i := 698) (by decide +kernel)) rfl
theorem w_699 : (.code yX6_fix cX6_fix 4 (none) : Cond) ∈ sm_T := sm_in (List.mem_of_getElem? (i := 699) (by decide +kernel)) rfl
theorem w_700 : (.methodLink RX6 195 yX6_compared : Cond) ∈ sm_T := sm_in (List.mem_of_getElem? (i := 700) (by decide +kernel)) rfl
theorem w_702 : (.instanceMethod yX6_compared : Cond) ∈ sm_T := sm_in (List.mem_of_getElem? (i := 702) (by decide +kernel)) rfl
theorem w_703 : (.code yX6_compared cX6_compared 12 (some .int) : Cond) ∈ sm_T := sm_in (List.mem_of_getElem? (i := 703) (by decide +kernel)) rfl
theorem w_704 : (.methodLink RX6 136 yX6_rank : Cond) ∈ sm_T := sm_in (List.mem_of_getElem? (i := 704) (by decide +kernel)) rfl
theorem w_706 : (.instanceMethod yX6_rank : Cond) ∈ sm_T := sm_in (List.mem_of_getElem? (i := 706) (by decide +kernel)) rfl
theorem w_707 : (.code yX6_rank cX6_rank 6 (some .long) : Cond) ∈ sm_T := sm_in (List.mem_of_getElem? (i := 707) (by decide +kernel)) rfl
theorem w_708 : (.constantLong RX6 130 (-1) : Cond) ∈ sm_T := sm_in (List.mem_of_getElem? (i := 708) (by decide +kernel)) rfl
theorem w_709 : (.methodLink RX6 199 yX6_whole : Cond) ∈ sm_T := sm_in (List.mem_of_getElem? (i := 709) (by decide +kernel)) rfl
theorem w_711 : (.instanceMethod yX6_whole : Cond) ∈ sm_T := sm_in (List.mem_of_getElem? (i := 711) (by decide +kernel)) rfl
theorem w_712 : (.code yX6_whole cX6_whole 10 (some .long) : Cond) ∈ sm_T := sm_in (List.mem_of_getElem? (i := 712) (by decide +kernel)) rfl
theorem w_713 : (.constantLong RX6 176 (4294967295) : Cond) ∈ sm_T := sm_in (List.mem_of_getElem? (i := 713) (by decide +kernel)) rfl
theorem w_714 : (.methodLink RX6 203 yX6_pointed : Cond) ∈ sm_T := sm_in (List.mem_of_getElem? (i := 714) (by decide +kernel)) rfl
theorem w_716 : (.instanceMethod yX6_pointed : Cond) ∈ sm_T := sm_in (List.mem_of_getElem? (i := 716) (by decide +kernel)) rfl
theorem w_717 : (.code yX6_pointed cX6_pointed 7 (some .long) : Cond) ∈ sm_T := sm_in (List.mem_of_getElem? (i := 717) (by decide +kernel)) rfl
theorem w_718 : (.methodLink RX6 178 yX6_sum : Cond) ∈ sm_T := sm_in (List.mem_of_getElem? (i := 718) (by decide +kernel)) rfl
theorem w_720 : (.instanceMethod yX6_sum : Cond) ∈ sm_T := sm_in (List.mem_of_getElem? (i := 720) (by decide +kernel)) rfl
theorem w_721 : (.code yX6_sum cX6_sum 14 (some .long) : Cond) ∈ sm_T := sm_in (List.mem_of_getElem? (i := 721) (by decide +kernel)) rfl
theorem w_722 : (.methodLink RX6 118 yX6_spread : Cond) ∈ sm_T := sm_in (List.mem_of_getElem? (i := 722) (by decide +kernel)) rfl
theorem w_724 : (.instanceMethod yX6_spread : Cond) ∈ sm_T := sm_in (List.mem_of_getElem? (i := 724) (by decide +kernel)) rfl
theorem w_725 : (.code yX6_spread cX6_spread 3 (none) : Cond) ∈ sm_T := sm_in (List.mem_of_getElem? (i := 725) (by decide +kernel)) rfl
theorem w_726 : (.methodLink RX6 182 yX6_product : Cond) ∈ sm_T := sm_in (List.mem_of_getElem? (i := 726) (by decide +kernel)) rfl
theorem w_728 : (.instanceMethod yX6_product : Cond) ∈ sm_T := sm_in (List.mem_of_getElem? (i := 728) (by decide +kernel)) rfl
theorem w_729 : (.code yX6_product cX6_product 22 (some .long) : Cond) ∈ sm_T := sm_in (List.mem_of_getElem? (i := 729) (by decide +kernel)) rfl
theorem w_730 : (.methodLink RX6 185 yX6_quotient : Cond) ∈ sm_T := sm_in (List.mem_of_getElem? (i := 730) (by decide +kernel)) rfl
theorem w_732 : (.instanceMethod yX6_quotient : Cond) ∈ sm_T := sm_in (List.mem_of_getElem? (i := 732) (by decide +kernel)) rfl
theorem w_733 : (.code yX6_quotient cX6_quotient 12 (some .long) : Cond) ∈ sm_T := sm_in (List.mem_of_getElem? (i := 733) (by decide +kernel)) rfl
theorem w_734 : (.methodLink RX6 188 yX6_remainder : Cond) ∈ sm_T := sm_in (List.mem_of_getElem? (i := 734) (by decide +kernel)) rfl
theorem w_736 : (.instanceMethod yX6_remainder : Cond) ∈ sm_T := sm_in (List.mem_of_getElem? (i := 736) (by decide +kernel)) rfl
theorem w_737 : (.code yX6_remainder cX6_remainder 9 (some .long) : Cond) ∈ sm_T := sm_in (List.mem_of_getElem? (i := 737) (by decide +kernel)) rfl
theorem w_738 : (.methodLink RL 39 yX6_move : Cond) ∈ sm_T := sm_in (List.mem_of_getElem? (i := 738) (by decide +kernel)) rfl
theorem w_739 : (.instanceMethod yX6_move : Cond) ∈ sm_T := sm_in (List.mem_of_getElem? (i := 739) (by decide +kernel)) rfl
theorem w_740 : (.selects RX6 yX6_move yX6_move : Cond) ∈ sm_T := sm_in (List.mem_of_getElem? (i := 740) (by decide +kernel)) rfl
theorem w_741 : (.code yX6_move cX6_move 3 (some .int) : Cond) ∈ sm_T := sm_in (List.mem_of_getElem? (i := 741) (by decide +kernel)) rfl
theorem w_742 : (.methodLink RL 43 yX6_array : Cond) ∈ sm_T := sm_in (List.mem_of_getElem? (i := 742) (by decide +kernel)) rfl
theorem w_743 : (.instanceMethod yX6_array : Cond) ∈ sm_T := sm_in (List.mem_of_getElem? (i := 743) (by decide +kernel)) rfl
theorem w_744 : (.selects RX6 yX6_array yX6_array : Cond) ∈ sm_T := sm_in (List.mem_of_getElem? (i := 744) (by decide +kernel)) rfl
theorem w_745 : (.code yX6_array cX6_array 6 (some .int) : Cond) ∈ sm_T := sm_in (List.mem_of_getElem? (i := 745) (by decide +kernel)) rfl
theorem w_746 : (.constantLong RX6 206 (12) : Cond) ∈ sm_T := sm_in (List.mem_of_getElem? (i := 746) (by decide +kernel)) rfl
theorem w_747 : (.methodLink RX6 208 yX6_exception : Cond) ∈ sm_T := sm_in (List.mem_of_getElem? (i := 747) (by decide +kernel)) rfl
theorem w_749 : (.instanceMethod yX6_exception : Cond) ∈ sm_T := sm_in (List.mem_of_getElem? (i := 749) (by decide +kernel)) rfl
theorem w_750 : (.code yX6_exception cX6_exception 2 (some .int) : Cond) ∈ sm_T := sm_in (List.mem_of_getElem? (i := 750) (by decide +kernel)) rfl
theorem w_751 : (.methodLink RL 48 yX6_drop : Cond) ∈ sm_T := sm_in (List.mem_of_getElem? (i := 751) (by decide +kernel)) rfl
theorem w_752 : (.instanceMethod yX6_drop : Cond) ∈ sm_T := sm_in (List.mem_of_getElem? (i := 752) (by decide +kernel)) rfl
theorem w_753 : (.selects RX6 yX6_drop yX6_drop : Cond) ∈ sm_T := sm_in (List.mem_of_getElem? (i := 753) (by decide +kernel)) rfl
theorem w_754 : (.code yX6_drop cX6_drop 2 (some .int) : Cond) ∈ sm_T := sm_in (List.mem_of_getElem? (i := 754) (by decide +kernel)) rfl
theorem w_755 : (.methodLink RL 52 yX6_share : Cond) ∈ sm_T := sm_in (List.mem_of_getElem? (i := 755) (by decide +kernel)) rfl
theorem w_756 : (.instanceMethod yX6_share : Cond) ∈ sm_T := sm_in (List.mem_of_getElem? (i := 756) (by decide +kernel)) rfl
theorem w_757 : (.selects RX6 yX6_share yX6_share : Cond) ∈ sm_T := sm_in (List.mem_of_getElem? (i := 757) (by decide +kernel)) rfl
theorem w_758 : (.code yX6_share cX6_share 3 (some .int) : Cond) ∈ sm_T := sm_in (List.mem_of_getElem? (i := 758) (by decide +kernel)) rfl
theorem w_759 : (.methodLink RL 56 yX6_load : Cond) ∈ sm_T := sm_in (List.mem_of_getElem? (i := 759) (by decide +kernel)) rfl
theorem w_760 : (.instanceMethod yX6_load : Cond) ∈ sm_T := sm_in (List.mem_of_getElem? (i := 760) (by decide +kernel)) rfl
theorem w_761 : (.selects RX6 yX6_load yX6_load : Cond) ∈ sm_T := sm_in (List.mem_of_getElem? (i := 761) (by decide +kernel)) rfl
theorem w_762 : (.code yX6_load cX6_load 6 (some .int) : Cond) ∈ sm_T := sm_in (List.mem_of_getElem? (i := 762) (by decide +kernel)) rfl
theorem w_763 : (.methodLink RX6 211 yX6_kindOf : Cond) ∈ sm_T := sm_in (List.mem_of_getElem? (i := 763) (by decide +kernel)) rfl
theorem w_765 : (.instanceMethod yX6_kindOf : Cond) ∈ sm_T := sm_in (List.mem_of_getElem? (i := 765) (by decide +kernel)) rfl
theorem w_766 : (.code yX6_kindOf cX6_kindOf 2 (some .int) : Cond) ∈ sm_T := sm_in (List.mem_of_getElem? (i := 766) (by decide +kernel)) rfl
theorem w_767 : (.methodLink RL 60 yX6_store : Cond) ∈ sm_T := sm_in (List.mem_of_getElem? (i := 767) (by decide +kernel)) rfl
theorem w_768 : (.instanceMethod yX6_store : Cond) ∈ sm_T := sm_in (List.mem_of_getElem? (i := 768) (by decide +kernel)) rfl
theorem w_769 : (.selects RX6 yX6_store yX6_store : Cond) ∈ sm_T := sm_in (List.mem_of_getElem? (i := 769) (by decide +kernel)) rfl
theorem w_770 : (.code yX6_store cX6_store 5 (some .int) : Cond) ∈ sm_T := sm_in (List.mem_of_getElem? (i := 770) (by decide +kernel)) rfl
theorem w_771 : (.methodLink RX6 214 yX6_stored : Cond) ∈ sm_T := sm_in (List.mem_of_getElem? (i := 771) (by decide +kernel)) rfl
theorem w_773 : (.instanceMethod yX6_stored : Cond) ∈ sm_T := sm_in (List.mem_of_getElem? (i := 773) (by decide +kernel)) rfl
theorem w_774 : (.code yX6_stored cX6_stored 4 (some .long) : Cond) ∈ sm_T := sm_in (List.mem_of_getElem? (i := 774) (by decide +kernel)) rfl
theorem w_775 : (.methodLink RL 64 yX6_length : Cond) ∈ sm_T := sm_in (List.mem_of_getElem? (i := 775) (by decide +kernel)) rfl
theorem w_776 : (.instanceMethod yX6_length : Cond) ∈ sm_T := sm_in (List.mem_of_getElem? (i := 776) (by decide +kernel)) rfl
theorem w_777 : (.selects RX6 yX6_length yX6_length : Cond) ∈ sm_T := sm_in (List.mem_of_getElem? (i := 777) (by decide +kernel)) rfl
theorem w_778 : (.code yX6_length cX6_length 3 (some .int) : Cond) ∈ sm_T := sm_in (List.mem_of_getElem? (i := 778) (by decide +kernel)) rfl
theorem w_779 : (.methodLink RL 69 yX6_copy : Cond) ∈ sm_T := sm_in (List.mem_of_getElem? (i := 779) (by decide +kernel)) rfl
theorem w_780 : (.instanceMethod yX6_copy : Cond) ∈ sm_T := sm_in (List.mem_of_getElem? (i := 780) (by decide +kernel)) rfl
theorem w_781 : (.selects RX6 yX6_copy yX6_copy : Cond) ∈ sm_T := sm_in (List.mem_of_getElem? (i := 781) (by decide +kernel)) rfl
theorem w_782 : (.code yX6_copy cX6_copy 10 (some .int) : Cond) ∈ sm_T := sm_in (List.mem_of_getElem? (i := 782) (by decide +kernel)) rfl
theorem w_783 : (.methodLink RL 73 yX6_branch : Cond) ∈ sm_T := sm_in (List.mem_of_getElem? (i := 783) (by decide +kernel)) rfl
theorem w_784 : (.instanceMethod yX6_branch : Cond) ∈ sm_T := sm_in (List.mem_of_getElem? (i := 784) (by decide +kernel)) rfl
theorem w_785 : (.selects RX6 yX6_branch yX6_branch : Cond) ∈ sm_T := sm_in (List.mem_of_getElem? (i := 785) (by decide +kernel)) rfl
theorem w_786 : (.code yX6_branch cX6_branch 11 (some .int) : Cond) ∈ sm_T := sm_in (List.mem_of_getElem? (i := 786) (by decide +kernel)) rfl
theorem w_787 : (.methodLink RL 77 yX6_kind : Cond) ∈ sm_T := sm_in (List.mem_of_getElem? (i := 787) (by decide +kernel)) rfl
theorem w_788 : (.instanceMethod yX6_kind : Cond) ∈ sm_T := sm_in (List.mem_of_getElem? (i := 788) (by decide +kernel)) rfl
theorem w_789 : (.selects RX6 yX6_kind yX6_kind : Cond) ∈ sm_T := sm_in (List.mem_of_getElem? (i := 789) (by decide +kernel)) rfl
theorem w_790 : (.code yX6_kind cX6_kind 2 (some .int) : Cond) ∈ sm_T := sm_in (List.mem_of_getElem? (i := 790) (by decide +kernel)) rfl
theorem w_791 : (.methodLink RL 82 yX6_bits : Cond) ∈ sm_T := sm_in (List.mem_of_getElem? (i := 791) (by decide +kernel)) rfl
theorem w_792 : (.instanceMethod yX6_bits : Cond) ∈ sm_T := sm_in (List.mem_of_getElem? (i := 792) (by decide +kernel)) rfl
theorem w_793 : (.selects RX6 yX6_bits yX6_bits : Cond) ∈ sm_T := sm_in (List.mem_of_getElem? (i := 793) (by decide +kernel)) rfl
theorem w_794 : (.code yX6_bits cX6_bits 2 (some .long) : Cond) ∈ sm_T := sm_in (List.mem_of_getElem? (i := 794) (by decide +kernel)) rfl
theorem w_795 : (.constantLong RX6 217 (1234567890123456789) : Cond) ∈ sm_T := sm_in (List.mem_of_getElem? (i := 795) (by decide +kernel)) rfl
theorem w_796 : (.methodLink RL 86 yX6_shadow : Cond) ∈ sm_T := sm_in (List.mem_of_getElem? (i := 796) (by decide +kernel)) rfl
theorem w_797 : (.instanceMethod yX6_shadow : Cond) ∈ sm_T := sm_in (List.mem_of_getElem? (i := 797) (by decide +kernel)) rfl
theorem w_798 : (.selects RX6 yX6_shadow yX6_shadow : Cond) ∈ sm_T := sm_in (List.mem_of_getElem? (i := 798) (by decide +kernel)) rfl
theorem w_799 : (.code yX6_shadow cX6_shadow 2 (some .int) : Cond) ∈ sm_T := sm_in (List.mem_of_getElem? (i := 799) (by decide +kernel)) rfl
theorem w_800 : (.methodLink RL 91 yX6_cell : Cond) ∈ sm_T := sm_in (List.mem_of_getElem? (i := 800) (by decide +kernel)) rfl
theorem w_801 : (.instanceMethod yX6_cell : Cond) ∈ sm_T := sm_in (List.mem_of_getElem? (i := 801) (by decide +kernel)) rfl
theorem w_802 : (.selects RX6 yX6_cell yX6_cell : Cond) ∈ sm_T := sm_in (List.mem_of_getElem? (i := 802) (by decide +kernel)) rfl
theorem w_803 : (.code yX6_cell cX6_cell 6 (some .long) : Cond) ∈ sm_T := sm_in (List.mem_of_getElem? (i := 803) (by decide +kernel)) rfl
theorem w_804 : (.methodLink RL 96 yX6_pin : Cond) ∈ sm_T := sm_in (List.mem_of_getElem? (i := 804) (by decide +kernel)) rfl
theorem w_805 : (.instanceMethod yX6_pin : Cond) ∈ sm_T := sm_in (List.mem_of_getElem? (i := 805) (by decide +kernel)) rfl
theorem w_806 : (.selects RX6 yX6_pin yX6_pin : Cond) ∈ sm_T := sm_in (List.mem_of_getElem? (i := 806) (by decide +kernel)) rfl
theorem w_807 : (.code yX6_pin cX6_pin 3 (some .long) : Cond) ∈ sm_T := sm_in (List.mem_of_getElem? (i := 807) (by decide +kernel)) rfl
theorem w_808 : (.methodLink RL 100 yX6_way : Cond) ∈ sm_T := sm_in (List.mem_of_getElem? (i := 808) (by decide +kernel)) rfl
theorem w_809 : (.instanceMethod yX6_way : Cond) ∈ sm_T := sm_in (List.mem_of_getElem? (i := 809) (by decide +kernel)) rfl
theorem w_810 : (.selects RX6 yX6_way yX6_way : Cond) ∈ sm_T := sm_in (List.mem_of_getElem? (i := 810) (by decide +kernel)) rfl
theorem w_811 : (.code yX6_way cX6_way 3 (some .long) : Cond) ∈ sm_T := sm_in (List.mem_of_getElem? (i := 811) (by decide +kernel)) rfl
theorem w_812 : (.methodLink RL 104 yX6_count : Cond) ∈ sm_T := sm_in (List.mem_of_getElem? (i := 812) (by decide +kernel)) rfl
theorem w_813 : (.instanceMethod yX6_count : Cond) ∈ sm_T := sm_in (List.mem_of_getElem? (i := 813) (by decide +kernel)) rfl
theorem w_814 : (.selects RX6 yX6_count yX6_count : Cond) ∈ sm_T := sm_in (List.mem_of_getElem? (i := 814) (by decide +kernel)) rfl
theorem w_815 : (.code yX6_count cX6_count 4 (some .int) : Cond) ∈ sm_T := sm_in (List.mem_of_getElem? (i := 815) (by decide +kernel)) rfl
theorem w_816 : (.constantLong RL 13 (4294967295) : Cond) ∈ sm_T := sm_in (List.mem_of_getElem? (i := 816) (by decide +kernel)) rfl
theorem w_817 : (.fieldLink RX1 36 RX1 "sign" "J" : Cond) ∈ sm_T := sm_in (List.mem_of_getElem? (i := 817) (by decide +kernel)) rfl
theorem w_818 : (.fieldLink RX1 45 RX1 "infinity" "J" : Cond) ∈ sm_T := sm_in (List.mem_of_getElem? (i := 818) (by decide +kernel)) rfl
theorem w_819 : (.fieldLink RX1 48 RX1 "nan" "J" : Cond) ∈ sm_T := sm_in (List.mem_of_getElem? (i := 819) (by decide +kernel)) rfl
theorem w_820 : (.fieldLink RX1 29 RX1 "fractionBits" "I" : Cond) ∈ sm_T := sm_in (List.mem_of_getElem? (i := 820) (by decide +kernel)) rfl
theorem w_821 : (.fieldLink RX1 33 RX1 "leastExponent" "I" : Cond) ∈ sm_T := sm_in (List.mem_of_getElem? (i := 821) (by decide +kernel)) rfl
theorem w_822 : (.fieldLink RX1 42 RX1 "mostField" "I" : Cond) ∈ sm_T := sm_in (List.mem_of_getElem? (i := 822) (by decide +kernel)) rfl
theorem in_X0 : ∀ w ∈ u_ws RX0 TX0 4, w ∈ sm_T := by decide +kernel
theorem in_X2 : ∀ w ∈ u_ws RX2 TX2 2, w ∈ sm_T := by decide +kernel
theorem in_X5 : ∀ w ∈ u_ws RX5 TX5 8, w ∈ sm_T := by decide +kernel
theorem in_X6 : ∀ w ∈ u_ws RX6 TX6 21, w ∈ sm_T := by decide +kernel
theorem k_X0_renew : sm_kV yX0_renew cX0_renew 4 (none) 2 := ⟨⟨w_432, w_55, by decide +kernel⟩, w_430, w_431⟩
theorem k_X0_kindTaken : sm_kV yX0_kindTaken cX0_kindTaken 1 (some .int) 0 := ⟨⟨w_448, w_55, by decide +kernel⟩, w_446, w_447⟩
theorem k_X0_hasRun : sm_kV yX0_hasRun cX0_hasRun 3 (some .boolean) 2 := ⟨⟨w_473, w_55, by decide +kernel⟩, w_471, w_472⟩
theorem k_X0_keep : sm_kV yX0_keep cX0_keep 5 (none) 3 := ⟨⟨w_456, w_55, by decide +kernel⟩, w_454, w_455⟩
theorem k_X0_narrowed : sm_kV yX0_narrowed cX0_narrowed 3 (some .long) 1 := ⟨⟨w_460, w_55, by decide +kernel⟩, w_459, w_18⟩
theorem k_X1_withOneNan : sm_kV yX1_withOneNan cX1_withOneNan 3 (some .long) 1 := ⟨⟨w_153, w_58, by decide +kernel⟩, w_151, w_152⟩
theorem k_X1_negated : sm_kV yX1_negated cX1_negated 3 (some .long) 1 := ⟨⟨w_286, w_58, by decide +kernel⟩, w_284, w_285⟩
theorem k_X1_magnitude : sm_kV yX1_magnitude cX1_magnitude 3 (some .long) 1 := ⟨⟨w_162, w_58, by decide +kernel⟩, w_160, w_161⟩
theorem k_X1_least : sm_kV yX1_least cX1_least 5 (some .long) 2 := ⟨⟨w_351, w_58, by decide +kernel⟩, w_349, w_350⟩
theorem k_X1_greatest : sm_kV yX1_greatest cX1_greatest 5 (some .long) 2 := ⟨⟨w_359, w_58, by decide +kernel⟩, w_357, w_358⟩
theorem k_X1_compared : sm_kV yX1_compared cX1_compared 6 (some .int) 3 := ⟨⟨w_363, w_58, by decide +kernel⟩, w_361, w_362⟩
theorem k_X1_ofWhole : sm_kV yX1_ofWhole cX1_ofWhole 3 (some .long) 1 := ⟨⟨w_205, w_58, by decide +kernel⟩, w_203, w_204⟩
theorem k_X1_ofOther : sm_kV yX1_ofOther cX1_ofOther 4 (some .long) 2 := ⟨⟨w_279, w_58, by decide +kernel⟩, w_277, w_278⟩
theorem k_X1_truncated : sm_kV yX1_truncated cX1_truncated 6 (some .long) 1 := ⟨⟨w_236, w_58, by decide +kernel⟩, w_234, w_235⟩
theorem k_X1_sum : sm_kV yX1_sum cX1_sum 5 (some .long) 2 := ⟨⟨w_314, w_58, by decide +kernel⟩, w_312, w_313⟩
theorem k_X1_sumInOrder : sm_kV yX1_sumInOrder cX1_sumInOrder 13 (some .long) 2 := ⟨⟨w_318, w_58, by decide +kernel⟩, w_317, w_11⟩
theorem k_X1_product : sm_kV yX1_product cX1_product 8 (some .long) 2 := ⟨⟨w_326, w_58, by decide +kernel⟩, w_324, w_325⟩
theorem k_X1_quotient : sm_kV yX1_quotient cX1_quotient 7 (some .long) 2 := ⟨⟨w_334, w_58, by decide +kernel⟩, w_332, w_333⟩
theorem k_X1_remainder : sm_kV yX1_remainder cX1_remainder 7 (some .long) 2 := ⟨⟨w_341, w_58, by decide +kernel⟩, w_339, w_340⟩
theorem k_X1_isNan : sm_kV yX1_isNan cX1_isNan 3 (some .boolean) 1 := ⟨⟨w_158, w_58, by decide +kernel⟩, w_156, w_0⟩
theorem k_X1_isInfinite : sm_kV yX1_isInfinite cX1_isInfinite 3 (some .boolean) 1 := ⟨⟨w_255, w_58, by decide +kernel⟩, w_254, w_7⟩
theorem k_X1_isZero : sm_kV yX1_isZero cX1_isZero 3 (some .boolean) 1 := ⟨⟨w_240, w_58, by decide +kernel⟩, w_239, w_4⟩
theorem k_X1_isNegative : sm_kV yX1_isNegative cX1_isNegative 3 (some .boolean) 1 := ⟨⟨w_259, w_58, by decide +kernel⟩, w_258, w_8⟩
theorem k_X1_signed : sm_kV yX1_signed cX1_signed 4 (some .long) 2 := ⟨⟨w_225, w_58, by decide +kernel⟩, w_224, w_3⟩
theorem k_X1_order : sm_kV yX1_order cX1_order 3 (some .long) 1 := ⟨⟨w_355, w_58, by decide +kernel⟩, w_354, w_12⟩
theorem k_X1_exponent : sm_kV yX1_exponent cX1_exponent 4 (some .int) 1 := ⟨⟨w_244, w_58, by decide +kernel⟩, w_243, w_5⟩
theorem k_X1_significand : sm_kV yX1_significand cX1_significand 5 (some .long) 1 := ⟨⟨w_264, w_58, by decide +kernel⟩, w_263, w_9⟩
theorem k_X1_unscaled : sm_kV yX1_unscaled cX1_unscaled 7 (some .long) 1 := ⟨⟨w_248, w_58, by decide +kernel⟩, w_247, w_6⟩
theorem k_X1_placesUp : sm_kS yX1_placesUp cX1_placesUp 2 (some .int) 1 := ⟨⟨w_251, w_58, by decide +kernel⟩, w_250⟩
theorem k_X1_rounded : sm_kV yX1_rounded cX1_rounded 10 (some .long) 3 := ⟨⟨w_211, w_58, by decide +kernel⟩, w_210, w_2⟩
theorem k_X1_shiftedToEven : sm_kS yX1_shiftedToEven cX1_shiftedToEven 10 (some .long) 2 := ⟨⟨w_228, w_58, by decide +kernel⟩, w_227⟩
theorem k_X1_shiftedDown : sm_kS yX1_shiftedDown cX1_shiftedDown 5 (some .long) 2 := ⟨⟨w_321, w_58, by decide +kernel⟩, w_320⟩
theorem k_X1_highProduct : sm_kS yX1_highProduct cX1_highProduct 18 (some .long) 2 := ⟨⟨w_329, w_58, by decide +kernel⟩, w_328⟩
theorem k_X1_longQuotient : sm_kS yX1_longQuotient cX1_longQuotient 9 (some .long) 2 := ⟨⟨w_337, w_58, by decide +kernel⟩, w_336⟩
theorem k_X1_longRemainder : sm_kS yX1_longRemainder cX1_longRemainder 8 (some .long) 3 := ⟨⟨w_344, w_58, by decide +kernel⟩, w_343⟩
theorem k_X2_add : sm_kV yX2_add cX2_add 5 (none) 3 := ⟨⟨w_397, w_54, by decide +kernel⟩, w_395, w_396⟩
theorem k_X2_told : sm_kV yX2_told cX2_told 3 (some .long) 2 := ⟨⟨w_508, w_54, by decide +kernel⟩, w_506, w_507⟩
theorem k_X2_startOf : sm_kS yX2_startOf cX2_startOf 1 (some .int) 1 := ⟨⟨w_400, w_54, by decide +kernel⟩, w_399⟩
theorem k_X3_takes : sm_kS yX3_takes cX3_takes 3 (some .boolean) 3 := ⟨⟨w_297, w_63, by decide +kernel⟩, w_296⟩
theorem k_X3_divides : sm_kS yX3_divides cX3_divides 1 (some .boolean) 1 := ⟨⟨w_301, w_63, by decide +kernel⟩, w_300⟩
theorem k_X3_calculates : sm_kS yX3_calculates cX3_calculates 1 (some .boolean) 1 := ⟨⟨w_389, w_63, by decide +kernel⟩, w_388⟩
theorem k_X3_mixes : sm_kS yX3_mixes cX3_mixes 1 (some .boolean) 1 := ⟨⟨w_406, w_63, by decide +kernel⟩, w_405⟩
theorem k_X3_resultKind : sm_kS yX3_resultKind cX3_resultKind 2 (some .int) 2 := ⟨⟨w_382, w_63, by decide +kernel⟩, w_381⟩
theorem k_X3_wholeResult : sm_kS yX3_wholeResult cX3_wholeResult 8 (some .long) 4 := ⟨⟨w_369, w_63, by decide +kernel⟩, w_368⟩
theorem k_X3_calculated : sm_kS yX3_calculated cX3_calculated 5 (some .long) 3 := ⟨⟨w_372, w_63, by decide +kernel⟩, w_371⟩
theorem k_X3_combined : sm_kS yX3_combined cX3_combined 7 (some .long) 4 := ⟨⟨w_377, w_63, by decide +kernel⟩, w_376⟩
theorem k_X3_floatingResult : sm_kS yX3_floatingResult cX3_floatingResult 6 (some .long) 4 := ⟨⟨w_310, w_63, by decide +kernel⟩, w_309⟩
theorem k_X4_takes : sm_kS yX4_takes cX4_takes 2 (some .boolean) 2 := ⟨⟨w_180, w_59, by decide +kernel⟩, w_179⟩
theorem k_X4_rounds : sm_kS yX4_rounds cX4_rounds 1 (some .boolean) 1 := ⟨⟨w_189, w_59, by decide +kernel⟩, w_188⟩
theorem k_X4_resultKind : sm_kS yX4_resultKind cX4_resultKind 2 (some .int) 2 := ⟨⟨w_195, w_59, by decide +kernel⟩, w_194⟩
theorem k_X4_result : sm_kS yX4_result cX4_result 4 (some .long) 3 := ⟨⟨w_200, w_59, by decide +kernel⟩, w_199⟩
theorem k_X4_nearestInt : sm_kS yX4_nearestInt cX4_nearestInt 2 (some .long) 1 := ⟨⟨w_267, w_59, by decide +kernel⟩, w_266⟩
theorem k_X5_constant : sm_kV yX5_constant cX5_constant 5 (some .int) 3 := ⟨⟨w_141, w_53, by decide +kernel⟩, w_139, w_140⟩
theorem k_X5_input : sm_kV yX5_input cX5_input 6 (some .int) 4 := ⟨⟨w_173, w_53, by decide +kernel⟩, w_171, w_172⟩
theorem k_X5_one : sm_kV yX5_one cX5_one 5 (some .int) 3 := ⟨⟨w_177, w_53, by decide +kernel⟩, w_175, w_176⟩
theorem k_X5_two : sm_kV yX5_two cX5_two 8 (some .int) 4 := ⟨⟨w_294, w_53, by decide +kernel⟩, w_292, w_293⟩
theorem k_X5_move : sm_kV yX5_move cX5_move 3 (some .int) 2 := ⟨⟨w_411, w_53, by decide +kernel⟩, w_409, w_410⟩
theorem k_X5_array : sm_kV yX5_array cX5_array 5 (some .int) 3 := ⟨⟨w_415, w_53, by decide +kernel⟩, w_413, w_414⟩
theorem k_X5_drop : sm_kV yX5_drop cX5_drop 2 (some .int) 1 := ⟨⟨w_436, w_53, by decide +kernel⟩, w_434, w_435⟩
theorem k_X5_share : sm_kV yX5_share cX5_share 3 (some .int) 2 := ⟨⟨w_440, w_53, by decide +kernel⟩, w_438, w_439⟩
theorem k_X5_load : sm_kV yX5_load cX5_load 6 (some .int) 3 := ⟨⟨w_444, w_53, by decide +kernel⟩, w_442, w_443⟩
theorem k_X5_store : sm_kV yX5_store cX5_store 5 (some .int) 3 := ⟨⟨w_452, w_53, by decide +kernel⟩, w_450, w_451⟩
theorem k_X5_length : sm_kV yX5_length cX5_length 4 (some .int) 2 := ⟨⟨w_465, w_53, by decide +kernel⟩, w_463, w_464⟩
theorem k_X5_copy : sm_kV yX5_copy cX5_copy 8 (some .int) 5 := ⟨⟨w_469, w_53, by decide +kernel⟩, w_467, w_468⟩
theorem k_X5_branch : sm_kV yX5_branch cX5_branch 6 (some .int) 3 := ⟨⟨w_480, w_53, by decide +kernel⟩, w_478, w_479⟩
theorem k_X5_kind : sm_kV yX5_kind cX5_kind 2 (some .int) 1 := ⟨⟨w_487, w_53, by decide +kernel⟩, w_485, w_486⟩
theorem k_X5_bits : sm_kV yX5_bits cX5_bits 2 (some .long) 1 := ⟨⟨w_491, w_53, by decide +kernel⟩, w_489, w_490⟩
theorem k_X5_shadow : sm_kV yX5_shadow cX5_shadow 2 (some .int) 1 := ⟨⟨w_496, w_53, by decide +kernel⟩, w_494, w_495⟩
theorem k_X5_cell : sm_kV yX5_cell cX5_cell 5 (some .long) 3 := ⟨⟨w_500, w_53, by decide +kernel⟩, w_498, w_499⟩
theorem k_X5_pin : sm_kV yX5_pin cX5_pin 3 (some .long) 2 := ⟨⟨w_504, w_53, by decide +kernel⟩, w_502, w_503⟩
theorem k_X5_way : sm_kV yX5_way cX5_way 3 (some .long) 2 := ⟨⟨w_514, w_53, by decide +kernel⟩, w_512, w_513⟩
theorem k_X5_count : sm_kV yX5_count cX5_count 2 (some .int) 1 := ⟨⟨w_518, w_53, by decide +kernel⟩, w_516, w_517⟩
theorem k_X5_isBelow : sm_kS yX5_isBelow cX5_isBelow 3 (some .boolean) 2 := ⟨⟨w_144, w_53, by decide +kernel⟩, w_143⟩
theorem k_X5_isFloating : sm_kS yX5_isFloating cX5_isFloating 1 (some .boolean) 1 := ⟨⟨w_186, w_53, by decide +kernel⟩, w_185⟩
theorem k_X5_formatOf : sm_kS yX5_formatOf cX5_formatOf 1 (some (.object "ShadowMachine$Format")) 1 := ⟨⟨w_282, w_53, by decide +kernel⟩, w_281⟩
theorem k_X5_held : sm_kS yX5_held cX5_held 3 (some .long) 2 := ⟨⟨w_147, w_53, by decide +kernel⟩, w_146⟩
theorem k_X5_joined : sm_kS yX5_joined cX5_joined 2 (some .int) 2 := ⟨⟨w_403, w_53, by decide +kernel⟩, w_402⟩
theorem k_X5_inexact : sm_kS yX5_inexact cX5_inexact 2 (some .int) 1 := ⟨⟨w_192, w_53, by decide +kernel⟩, w_191⟩
theorem k_X5_isSo : sm_kS yX5_isSo cX5_isSo 5 (some .boolean) 3 := ⟨⟨w_483, w_53, by decide +kernel⟩, w_482⟩
theorem k_X5_isInt : sm_kV yX5_isInt cX5_isInt 2 (some .boolean) 1 := ⟨⟨w_419, w_53, by decide +kernel⟩, w_418, w_15⟩
theorem k_X5_put : sm_kV yX5_put cX5_put 6 (none) 4 := ⟨⟨w_169, w_53, by decide +kernel⟩, w_168, w_1⟩
theorem k_X5_failed : sm_kV yX5_failed cX5_failed 2 (some .int) 1 := ⟨⟨w_306, w_53, by decide +kernel⟩, w_305, w_10⟩
theorem k_X5_giveUp : sm_kV yX5_giveUp cX5_giveUp 4 (none) 2 := ⟨⟨w_393, w_53, by decide +kernel⟩, w_392, w_14⟩
theorem k_X5_shadowOfTwo : sm_kV yX5_shadowOfTwo cX5_shadowOfTwo 6 (some .int) 3 := ⟨⟨w_386, w_53, by decide +kernel⟩, w_385, w_13⟩
theorem k_X5_dependentRegisters : sm_kV yX5_dependentRegisters cX5_dependentRegisters 3 (some .int) 0 := ⟨⟨w_522, w_53, by decide +kernel⟩, w_521, w_19⟩
theorem k_X5_unheld : sm_kV yX5_unheld cX5_unheld 3 (some (.object "ShadowMachine$Cells")) 0 := ⟨⟨w_424, w_53, by decide +kernel⟩, w_423, w_16⟩
theorem k_X5_isHeld : sm_kV yX5_isHeld cX5_isHeld 3 (some .boolean) 1 := ⟨⟨w_428, w_53, by decide +kernel⟩, w_427, w_17⟩
theorem k_X6_out : sm_kV yX6_out cX6_out 3 (some .boolean) 2 := ⟨⟨w_601, w_56, by decide +kernel⟩, w_600, w_20⟩
theorem k_X6_places : sm_kV yX6_places cX6_places 2 (some .int) 1 := ⟨⟨w_617, w_56, by decide +kernel⟩, w_616, w_24⟩
theorem k_X6_least : sm_kV yX6_least cX6_least 2 (some .int) 1 := ⟨⟨w_623, w_56, by decide +kernel⟩, w_622, w_25⟩
theorem k_X6_none : sm_kV yX6_none cX6_none 2 (some .long) 1 := ⟨⟨w_627, w_56, by decide +kernel⟩, w_626, w_26⟩
theorem k_X6_infinite : sm_kV yX6_infinite cX6_infinite 2 (some .long) 1 := ⟨⟨w_671, w_56, by decide +kernel⟩, w_670, w_34⟩
theorem k_X6_signed : sm_kV yX6_signed cX6_signed 5 (some .long) 3 := ⟨⟨w_677, w_56, by decide +kernel⟩, w_676, w_35⟩
theorem k_X6_lengthOf : sm_kV yX6_lengthOf cX6_lengthOf 6 (some .int) 1 := ⟨⟨w_667, w_56, by decide +kernel⟩, w_666, w_33⟩
theorem k_X6_take : sm_kV yX6_take cX6_take 11 (none) 3 := ⟨⟨w_613, w_56, by decide +kernel⟩, w_612, w_23⟩
theorem k_X6_spread : sm_kV yX6_spread cX6_spread 3 (none) 1 := ⟨⟨w_725, w_56, by decide +kernel⟩, w_724, w_45⟩
theorem k_X6_round : sm_kV yX6_round cX6_round 16 (some .long) 5 := ⟨⟨w_663, w_56, by decide +kernel⟩, w_662, w_32⟩
theorem k_X6_sum : sm_kV yX6_sum cX6_sum 14 (some .long) 3 := ⟨⟨w_721, w_56, by decide +kernel⟩, w_720, w_44⟩
theorem k_X6_product : sm_kV yX6_product cX6_product 22 (some .long) 3 := ⟨⟨w_729, w_56, by decide +kernel⟩, w_728, w_46⟩
theorem k_X6_quotient : sm_kV yX6_quotient cX6_quotient 12 (some .long) 3 := ⟨⟨w_733, w_56, by decide +kernel⟩, w_732, w_47⟩
theorem k_X6_remainder : sm_kV yX6_remainder cX6_remainder 9 (some .long) 3 := ⟨⟨w_737, w_56, by decide +kernel⟩, w_736, w_48⟩
theorem k_X6_fromWhole : sm_kV yX6_fromWhole cX6_fromWhole 6 (some .long) 2 := ⟨⟨w_657, w_56, by decide +kernel⟩, w_656, w_31⟩
theorem k_X6_toWhole : sm_kV yX6_toWhole cX6_toWhole 10 (some .long) 3 := ⟨⟨w_683, w_56, by decide +kernel⟩, w_682, w_36⟩
theorem k_X6_otherFormat : sm_kV yX6_otherFormat cX6_otherFormat 4 (some .long) 2 := ⟨⟨w_687, w_56, by decide +kernel⟩, w_686, w_37⟩
theorem k_X6_isNone : sm_kV yX6_isNone cX6_isNone 4 (some .boolean) 2 := ⟨⟨w_609, w_56, by decide +kernel⟩, w_608, w_22⟩
theorem k_X6_rank : sm_kV yX6_rank cX6_rank 6 (some .long) 2 := ⟨⟨w_707, w_56, by decide +kernel⟩, w_706, w_41⟩
theorem k_X6_compared : sm_kV yX6_compared cX6_compared 12 (some .int) 4 := ⟨⟨w_703, w_56, by decide +kernel⟩, w_702, w_40⟩
theorem k_X6_clean : sm_kV yX6_clean cX6_clean 6 (some .long) 2 := ⟨⟨w_605, w_56, by decide +kernel⟩, w_604, w_21⟩
theorem k_X6_put : sm_kV yX6_put cX6_put 6 (none) 4 := ⟨⟨w_633, w_56, by decide +kernel⟩, w_632, w_27⟩
theorem k_X6_fix : sm_kV yX6_fix cX6_fix 4 (none) 2 := ⟨⟨w_699, w_56, by decide +kernel⟩, w_698, w_39⟩
theorem k_X6_constant : sm_kV yX6_constant cX6_constant 5 (some .int) 3 := ⟨⟨w_597, w_56, by decide +kernel⟩, w_595, w_596⟩
theorem k_X6_input : sm_kV yX6_input cX6_input 6 (some .int) 4 := ⟨⟨w_637, w_56, by decide +kernel⟩, w_635, w_636⟩
theorem k_X6_wanted : sm_kV yX6_wanted cX6_wanted 2 (some .int) 1 := ⟨⟨w_649, w_56, by decide +kernel⟩, w_648, w_29⟩
theorem k_X6_converted : sm_kV yX6_converted cX6_converted 4 (some .long) 2 := ⟨⟨w_653, w_56, by decide +kernel⟩, w_652, w_30⟩
theorem k_X6_kindAfter : sm_kV yX6_kindAfter cX6_kindAfter 2 (some .int) 1 := ⟨⟨w_645, w_56, by decide +kernel⟩, w_644, w_28⟩
theorem k_X6_turned : sm_kV yX6_turned cX6_turned 7 (some .long) 3 := ⟨⟨w_691, w_56, by decide +kernel⟩, w_690, w_38⟩
theorem k_X6_one : sm_kV yX6_one cX6_one 9 (some .int) 3 := ⟨⟨w_641, w_56, by decide +kernel⟩, w_639, w_640⟩
theorem k_X6_whole : sm_kV yX6_whole cX6_whole 10 (some .long) 4 := ⟨⟨w_712, w_56, by decide +kernel⟩, w_711, w_42⟩
theorem k_X6_pointed : sm_kV yX6_pointed cX6_pointed 7 (some .long) 4 := ⟨⟨w_717, w_56, by decide +kernel⟩, w_716, w_43⟩
theorem k_X6_two : sm_kV yX6_two cX6_two 14 (some .int) 4 := ⟨⟨w_695, w_56, by decide +kernel⟩, w_693, w_694⟩
theorem k_X6_move : sm_kV yX6_move cX6_move 3 (some .int) 2 := ⟨⟨w_741, w_56, by decide +kernel⟩, w_739, w_740⟩
theorem k_X6_exception : sm_kV yX6_exception cX6_exception 2 (some .int) 1 := ⟨⟨w_750, w_56, by decide +kernel⟩, w_749, w_49⟩
theorem k_X6_array : sm_kV yX6_array cX6_array 6 (some .int) 3 := ⟨⟨w_745, w_56, by decide +kernel⟩, w_743, w_744⟩
theorem k_X6_drop : sm_kV yX6_drop cX6_drop 2 (some .int) 1 := ⟨⟨w_754, w_56, by decide +kernel⟩, w_752, w_753⟩
theorem k_X6_share : sm_kV yX6_share cX6_share 3 (some .int) 2 := ⟨⟨w_758, w_56, by decide +kernel⟩, w_756, w_757⟩
theorem k_X6_kindOf : sm_kV yX6_kindOf cX6_kindOf 2 (some .int) 1 := ⟨⟨w_766, w_56, by decide +kernel⟩, w_765, w_50⟩
theorem k_X6_load : sm_kV yX6_load cX6_load 6 (some .int) 3 := ⟨⟨w_762, w_56, by decide +kernel⟩, w_760, w_761⟩
theorem k_X6_stored : sm_kV yX6_stored cX6_stored 4 (some .long) 2 := ⟨⟨w_774, w_56, by decide +kernel⟩, w_773, w_51⟩
theorem k_X6_store : sm_kV yX6_store cX6_store 5 (some .int) 3 := ⟨⟨w_770, w_56, by decide +kernel⟩, w_768, w_769⟩
theorem k_X6_length : sm_kV yX6_length cX6_length 3 (some .int) 2 := ⟨⟨w_778, w_56, by decide +kernel⟩, w_776, w_777⟩
theorem k_X6_copy : sm_kV yX6_copy cX6_copy 10 (some .int) 5 := ⟨⟨w_782, w_56, by decide +kernel⟩, w_780, w_781⟩
theorem k_X6_branch : sm_kV yX6_branch cX6_branch 11 (some .int) 3 := ⟨⟨w_786, w_56, by decide +kernel⟩, w_784, w_785⟩
theorem k_X6_kind : sm_kV yX6_kind cX6_kind 2 (some .int) 1 := ⟨⟨w_790, w_56, by decide +kernel⟩, w_788, w_789⟩
theorem k_X6_bits : sm_kV yX6_bits cX6_bits 2 (some .long) 1 := ⟨⟨w_794, w_56, by decide +kernel⟩, w_792, w_793⟩
theorem k_X6_shadow : sm_kV yX6_shadow cX6_shadow 2 (some .int) 1 := ⟨⟨w_799, w_56, by decide +kernel⟩, w_797, w_798⟩
theorem k_X6_cell : sm_kV yX6_cell cX6_cell 6 (some .long) 3 := ⟨⟨w_803, w_56, by decide +kernel⟩, w_801, w_802⟩
theorem k_X6_pin : sm_kV yX6_pin cX6_pin 3 (some .long) 2 := ⟨⟨w_807, w_56, by decide +kernel⟩, w_805, w_806⟩
theorem k_X6_way : sm_kV yX6_way cX6_way 3 (some .long) 2 := ⟨⟨w_811, w_56, by decide +kernel⟩, w_809, w_810⟩
theorem k_X6_count : sm_kV yX6_count cX6_count 4 (some .int) 1 := ⟨⟨w_815, w_56, by decide +kernel⟩, w_813, w_814⟩
theorem k_J6_numberOfLeadingZeros_0f7a4 : sm_kS yJ6_numberOfLeadingZeros_0f7a4 cJ6_numberOfLeadingZeros_0f7a4 2 (some .int) 1 := ⟨⟨w_217, w_61, by decide +kernel⟩, w_216⟩
theorem k_J13_compare_74951 : sm_kS yJ13_compare_74951 cJ13_compare_74951 4 (some .int) 2 := ⟨⟨w_366, w_60, by decide +kernel⟩, w_365⟩
theorem k_J13_numberOfLeadingZeros_95d88 : sm_kS yJ13_numberOfLeadingZeros_95d88 cJ13_numberOfLeadingZeros_95d88 3 (some .int) 1 := ⟨⟨w_214, w_60, by decide +kernel⟩, w_213⟩
theorem k_J9_abs_067f4 : sm_kS yJ9_abs_067f4 cJ9_abs_067f4 2 (some .long) 1 := ⟨⟨w_231, w_62, by decide +kernel⟩, w_230⟩
theorem k_J9_max_7cf53 : sm_kS yJ9_max_7cf53 cJ9_max_7cf53 2 (some .int) 2 := ⟨⟨w_221, w_62, by decide +kernel⟩, w_220⟩
theorem k_J9_max_f86c9 : sm_kS yJ9_max_f86c9 cJ9_max_f86c9 4 (some .long) 2 := ⟨⟨w_275, w_62, by decide +kernel⟩, w_274⟩
theorem k_J9_min_7cf53 : sm_kS yJ9_min_7cf53 cJ9_min_7cf53 2 (some .int) 2 := ⟨⟨w_347, w_62, by decide +kernel⟩, w_346⟩
theorem k_J9_min_f86c9 : sm_kS yJ9_min_f86c9 cJ9_min_f86c9 4 (some .long) 2 := ⟨⟨w_272, w_62, by decide +kernel⟩, w_271⟩
