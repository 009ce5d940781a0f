theorem dX8_init_0 : decode cX8_init 0 = .ok (.aload_n 0, 1) := by decide +kernel
theorem dX8_init_1 : decode cX8_init 1 = .ok (.invokespecial 1, 3) := by decide +kernel
theorem dX8_init_4 : decode cX8_init 4 = .ok (.aload_n 0, 1) := by decide +kernel
theorem dX8_init_5 : decode cX8_init 5 = .ok (.bipush 60, 2) := by decide +kernel
theorem dX8_init_7 : decode cX8_init 7 = .ok (.newarray .int, 2) := by decide +kernel
theorem dX8_init_9 : decode cX8_init 9 = .ok (.putfield 7, 3) := by decide +kernel
theorem dX8_init_12 : decode cX8_init 12 = .ok (.aload_n 0, 1) := by decide +kernel
theorem dX8_init_13 : decode cX8_init 13 = .ok (.bipush 8, 2) := by decide +kernel
theorem dX8_init_15 : decode cX8_init 15 = .ok (.newarray .int, 2) := by decide +kernel
theorem dX8_init_17 : decode cX8_init 17 = .ok (.putfield 13, 3) := by decide +kernel
theorem dX8_init_20 : decode cX8_init 20 = .ok (.aload_n 0, 1) := by decide +kernel
theorem dX8_init_21 : decode cX8_init 21 = .ok (.bipush 8, 2) := by decide +kernel
theorem dX8_init_23 : decode cX8_init 23 = .ok (.newarray .int, 2) := by decide +kernel
theorem dX8_init_25 : decode cX8_init 25 = .ok (.putfield 16, 3) := by decide +kernel
theorem dX8_init_28 : decode cX8_init 28 = .ok (.aload_n 0, 1) := by decide +kernel
theorem dX8_init_29 : decode cX8_init 29 = .ok (.bipush 6, 2) := by decide +kernel
theorem dX8_init_31 : decode cX8_init 31 = .ok (.newarray .int, 2) := by decide +kernel
theorem dX8_init_33 : decode cX8_init 33 = .ok (.putfield 19, 3) := by decide +kernel
theorem dX8_init_36 : decode cX8_init 36 = .ok (.aload_n 0, 1) := by decide +kernel
theorem dX8_init_37 : decode cX8_init 37 = .ok (.bipush 6, 2) := by decide +kernel
theorem dX8_init_39 : decode cX8_init 39 = .ok (.newarray .int, 2) := by decide +kernel
theorem dX8_init_41 : decode cX8_init 41 = .ok (.putfield 22, 3) := by decide +kernel
theorem dX8_init_44 : decode cX8_init 44 = .ok (.aload_n 0, 1) := by decide +kernel
theorem dX8_init_45 : decode cX8_init 45 = .ok (.bipush 6, 2) := by decide +kernel
theorem dX8_init_47 : decode cX8_init 47 = .ok (.newarray .int, 2) := by decide +kernel
theorem dX8_init_49 : decode cX8_init 49 = .ok (.putfield 25, 3) := by decide +kernel
theorem dX8_init_52 : decode cX8_init 52 = .ok (.aload_n 0, 1) := by decide +kernel
theorem dX8_init_53 : decode cX8_init 53 = .ok (.bipush 6, 2) := by decide +kernel
theorem dX8_init_55 : decode cX8_init 55 = .ok (.newarray .int, 2) := by decide +kernel
theorem dX8_init_57 : decode cX8_init 57 = .ok (.putfield 28, 3) := by decide +kernel
theorem dX8_init_60 : decode cX8_init 60 = .ok (.aload_n 0, 1) := by decide +kernel
theorem dX8_init_61 : decode cX8_init 61 = .ok (.bipush 6, 2) := by decide +kernel
theorem dX8_init_63 : decode cX8_init 63 = .ok (.newarray .int, 2) := by decide +kernel
theorem dX8_init_65 : decode cX8_init 65 = .ok (.putfield 31, 3) := by decide +kernel
theorem dX8_init_68 : decode cX8_init 68 = .ok (.aload_n 0, 1) := by decide +kernel
theorem dX8_init_69 : decode cX8_init 69 = .ok (.bipush 6, 2) := by decide +kernel
theorem dX8_init_71 : decode cX8_init 71 = .ok (.newarray .int, 2) := by decide +kernel
theorem dX8_init_73 : decode cX8_init 73 = .ok (.putfield 34, 3) := by decide +kernel
theorem dX8_init_76 : decode cX8_init 76 = .ok (.aload_n 0, 1) := by decide +kernel
theorem dX8_init_77 : decode cX8_init 77 = .ok (.bipush 36, 2) := by decide +kernel
theorem dX8_init_79 : decode cX8_init 79 = .ok (.newarray .int, 2) := by decide +kernel
theorem dX8_init_81 : decode cX8_init 81 = .ok (.putfield 37, 3) := by decide +kernel
theorem dX8_init_84 : decode cX8_init 84 = .ok (.aload_n 0, 1) := by decide +kernel
theorem dX8_init_85 : decode cX8_init 85 = .ok (.bipush 6, 2) := by decide +kernel
theorem dX8_init_87 : decode cX8_init 87 = .ok (.newarray .int, 2) := by decide +kernel
theorem dX8_init_89 : decode cX8_init 89 = .ok (.putfield 40, 3) := by decide +kernel
theorem dX8_init_92 : decode cX8_init 92 = .ok (.aload_n 0, 1) := by decide +kernel
theorem dX8_init_93 : decode cX8_init 93 = .ok (.bipush 6, 2) := by decide +kernel
theorem dX8_init_95 : decode cX8_init 95 = .ok (.newarray .int, 2) := by decide +kernel
theorem dX8_init_97 : decode cX8_init 97 = .ok (.putfield 43, 3) := by decide +kernel
theorem dX8_init_100 : decode cX8_init 100 = .ok (.aload_n 0, 1) := by decide +kernel
theorem dX8_init_101 : decode cX8_init 101 = .ok (.bipush 24, 2) := by decide +kernel
theorem dX8_init_103 : decode cX8_init 103 = .ok (.newarray .int, 2) := by decide +kernel
theorem dX8_init_105 : decode cX8_init 105 = .ok (.putfield 46, 3) := by decide +kernel
theorem dX8_init_108 : decode cX8_init 108 = .ok (.aload_n 0, 1) := by decide +kernel
theorem dX8_init_109 : decode cX8_init 109 = .ok (.bipush 24, 2) := by decide +kernel
theorem dX8_init_111 : decode cX8_init 111 = .ok (.newarray .int, 2) := by decide +kernel
theorem dX8_init_113 : decode cX8_init 113 = .ok (.putfield 49, 3) := by decide +kernel
theorem dX8_init_116 : decode cX8_init 116 = .ok (.aload_n 0, 1) := by decide +kernel
theorem dX8_init_117 : decode cX8_init 117 = .ok (.bipush 36, 2) := by decide +kernel
theorem dX8_init_119 : decode cX8_init 119 = .ok (.newarray .int, 2) := by decide +kernel
theorem dX8_init_121 : decode cX8_init 121 = .ok (.putfield 52, 3) := by decide +kernel
theorem dX8_init_124 : decode cX8_init 124 = .ok (.aload_n 0, 1) := by decide +kernel
theorem dX8_init_125 : decode cX8_init 125 = .ok (.bipush 36, 2) := by decide +kernel
theorem dX8_init_127 : decode cX8_init 127 = .ok (.newarray .int, 2) := by decide +kernel
theorem dX8_init_129 : decode cX8_init 129 = .ok (.putfield 55, 3) := by decide +kernel
theorem dX8_init_132 : decode cX8_init 132 = .ok (.aload_n 0, 1) := by decide +kernel
theorem dX8_init_133 : decode cX8_init 133 = .ok (.bipush 6, 2) := by decide +kernel
theorem dX8_init_135 : decode cX8_init 135 = .ok (.newarray .long, 2) := by decide +kernel
theorem dX8_init_137 : decode cX8_init 137 = .ok (.putfield 58, 3) := by decide +kernel
theorem dX8_init_140 : decode cX8_init 140 = .ok (.aload_n 0, 1) := by decide +kernel
theorem dX8_init_141 : decode cX8_init 141 = .ok (.bipush 6, 2) := by decide +kernel
theorem dX8_init_143 : decode cX8_init 143 = .ok (.newarray .long, 2) := by decide +kernel
theorem dX8_init_145 : decode cX8_init 145 = .ok (.putfield 62, 3) := by decide +kernel
theorem dX8_init_148 : decode cX8_init 148 = .ok (.aload_n 0, 1) := by decide +kernel
theorem dX8_init_149 : decode cX8_init 149 = .ok (.bipush 12, 2) := by decide +kernel
theorem dX8_init_151 : decode cX8_init 151 = .ok (.newarray .int, 2) := by decide +kernel
theorem dX8_init_153 : decode cX8_init 153 = .ok (.putfield 65, 3) := by decide +kernel
theorem dX8_init_156 : decode cX8_init 156 = .ok (.aload_n 0, 1) := by decide +kernel
theorem dX8_init_157 : decode cX8_init 157 = .ok (.bipush 6, 2) := by decide +kernel
theorem dX8_init_159 : decode cX8_init 159 = .ok (.newarray .int, 2) := by decide +kernel
theorem dX8_init_161 : decode cX8_init 161 = .ok (.putfield 68, 3) := by decide +kernel
theorem dX8_init_164 : decode cX8_init 164 = .ok (.aload_n 0, 1) := by decide +kernel
theorem dX8_init_165 : decode cX8_init 165 = .ok (.bipush 6, 2) := by decide +kernel
theorem dX8_init_167 : decode cX8_init 167 = .ok (.newarray .int, 2) := by decide +kernel
theorem dX8_init_169 : decode cX8_init 169 = .ok (.putfield 71, 3) := by decide +kernel
theorem dX8_init_172 : decode cX8_init 172 = .ok (.aload_n 0, 1) := by decide +kernel
theorem dX8_init_173 : decode cX8_init 173 = .ok (.bipush 6, 2) := by decide +kernel
theorem dX8_init_175 : decode cX8_init 175 = .ok (.newarray .int, 2) := by decide +kernel
theorem dX8_init_177 : decode cX8_init 177 = .ok (.putfield 74, 3) := by decide +kernel
theorem dX8_init_180 : decode cX8_init 180 = .ok (.aload_n 0, 1) := by decide +kernel
theorem dX8_init_181 : decode cX8_init 181 = .ok (.bipush 6, 2) := by decide +kernel
theorem dX8_init_183 : decode cX8_init 183 = .ok (.newarray .int, 2) := by decide +kernel
theorem dX8_init_185 : decode cX8_init 185 = .ok (.putfield 77, 3) := by decide +kernel
theorem dX8_init_188 : decode cX8_init 188 = .ok (.aload_n 0, 1) := by decide +kernel
theorem dX8_init_189 : decode cX8_init 189 = .ok (.bipush 6, 2) := by decide +kernel
theorem dX8_init_191 : decode cX8_init 191 = .ok (.newarray .int, 2) := by decide +kernel
theorem dX8_init_193 : decode cX8_init 193 = .ok (.putfield 80, 3) := by decide +kernel
theorem dX8_init_196 : decode cX8_init 196 = .ok (.aload_n 0, 1) := by decide +kernel
theorem dX8_init_197 : decode cX8_init 197 = .ok (.bipush 12, 2) := by decide +kernel
theorem dX8_init_199 : decode cX8_init 199 = .ok (.newarray .int, 2) := by decide +kernel
theorem dX8_init_201 : decode cX8_init 201 = .ok (.putfield 83, 3) := by decide +kernel
theorem dX8_init_204 : decode cX8_init 204 = .ok (.aload_n 0, 1) := by decide +kernel
theorem dX8_init_205 : decode cX8_init 205 = .ok (.iconst (-1), 1) := by decide +kernel
theorem dX8_init_206 : decode cX8_init 206 = .ok (.putfield 86, 3) := by decide +kernel
theorem dX8_init_209 : decode cX8_init 209 = .ok (.return_, 1) := by decide +kernel
theorem dX8_in_0 : decode cX8_in 0 = .ok (.lload_n 0, 1) := by decide +kernel
theorem dX8_in_1 : decode cX8_in 1 = .ok (.lload_n 2, 1) := by decide +kernel
theorem dX8_in_2 : decode cX8_in 2 = .ok (.lcmp, 1) := by decide +kernel
theorem dX8_in_3 : decode cX8_in 3 = .ok (.ifCond .lt 14, 3) := by decide +kernel
theorem dX8_in_6 : decode cX8_in 6 = .ok (.lload_n 0, 1) := by decide +kernel
theorem dX8_in_7 : decode cX8_in 7 = .ok (.lload 4, 2) := by decide +kernel
theorem dX8_in_9 : decode cX8_in 9 = .ok (.lcmp, 1) := by decide +kernel
theorem dX8_in_10 : decode cX8_in 10 = .ok (.ifCond .gt 7, 3) := by decide +kernel
theorem dX8_in_13 : decode cX8_in 13 = .ok (.iconst 1, 1) := by decide +kernel
theorem dX8_in_14 : decode cX8_in 14 = .ok (.goto 4, 3) := by decide +kernel
theorem dX8_in_17 : decode cX8_in 17 = .ok (.iconst 0, 1) := by decide +kernel
theorem dX8_in_18 : decode cX8_in 18 = .ok (.ireturn, 1) := by decide +kernel
theorem dX8_copy_0 : decode cX8_copy 0 = .ok (.iconst 0, 1) := by decide +kernel
theorem dX8_copy_1 : decode cX8_copy 1 = .ok (.istore_n 2, 1) := by decide +kernel
theorem dX8_copy_2 : decode cX8_copy 2 = .ok (.iload_n 2, 1) := by decide +kernel
theorem dX8_copy_3 : decode cX8_copy 3 = .ok (.aload_n 0, 1) := by decide +kernel
theorem dX8_copy_4 : decode cX8_copy 4 = .ok (.arraylength, 1) := by decide +kernel
theorem dX8_copy_5 : decode cX8_copy 5 = .ok (.if_icmp .ge 15, 3) := by decide +kernel
theorem dX8_copy_8 : decode cX8_copy 8 = .ok (.aload_n 1, 1) := by decide +kernel
theorem dX8_copy_9 : decode cX8_copy 9 = .ok (.iload_n 2, 1) := by decide +kernel
theorem dX8_copy_10 : decode cX8_copy 10 = .ok (.aload_n 0, 1) := by decide +kernel
theorem dX8_copy_11 : decode cX8_copy 11 = .ok (.iload_n 2, 1) := by decide +kernel
theorem dX8_copy_12 : decode cX8_copy 12 = .ok (.iaload, 1) := by decide +kernel
theorem dX8_copy_13 : decode cX8_copy 13 = .ok (.iastore, 1) := by decide +kernel
theorem dX8_copy_14 : decode cX8_copy 14 = .ok (.iinc 2 1, 3) := by decide +kernel
theorem dX8_copy_17 : decode cX8_copy 17 = .ok (.goto (-15), 3) := by decide +kernel
theorem dX8_copy_20 : decode cX8_copy 20 = .ok (.return_, 1) := by decide +kernel
theorem dX8_letter_0 : decode cX8_letter 0 = .ok (.iload_n 1, 1) := by decide +kernel
theorem dX8_letter_1 : decode cX8_letter 1 = .ok (.i2l, 1) := by decide +kernel
theorem dX8_letter_2 : decode cX8_letter 2 = .ok (.lconst 1, 1) := by decide +kernel
theorem dX8_letter_3 : decode cX8_letter 3 = .ok (.ldc2_w 90, 3) := by decide +kernel
theorem dX8_letter_6 : decode cX8_letter 6 = .ok (.invokestatic 92, 3) := by decide +kernel
theorem dX8_letter_9 : decode cX8_letter 9 = .ok (.ifCond .ne 6, 3) := by decide +kernel
theorem dX8_letter_12 : decode cX8_letter 12 = .ok (.bipush (-102), 2) := by decide +kernel
theorem dX8_letter_14 : decode cX8_letter 14 = .ok (.ireturn, 1) := by decide +kernel
theorem dX8_letter_15 : decode cX8_letter 15 = .ok (.aload_n 0, 1) := by decide +kernel
theorem dX8_letter_16 : decode cX8_letter 16 = .ok (.getfield 96, 3) := by decide +kernel
theorem dX8_letter_19 : decode cX8_letter 19 = .ok (.bipush 60, 2) := by decide +kernel
theorem dX8_letter_21 : decode cX8_letter 21 = .ok (.if_icmp .ne 6, 3) := by decide +kernel
theorem dX8_letter_24 : decode cX8_letter 24 = .ok (.bipush (-104), 2) := by decide +kernel
theorem dX8_letter_26 : decode cX8_letter 26 = .ok (.ireturn, 1) := by decide +kernel
theorem dX8_letter_27 : decode cX8_letter 27 = .ok (.aload_n 0, 1) := by decide +kernel
theorem dX8_letter_28 : decode cX8_letter 28 = .ok (.getfield 7, 3) := by decide +kernel
theorem dX8_letter_31 : decode cX8_letter 31 = .ok (.aload_n 0, 1) := by decide +kernel
theorem dX8_letter_32 : decode cX8_letter 32 = .ok (.getfield 96, 3) := by decide +kernel
theorem dX8_letter_35 : decode cX8_letter 35 = .ok (.iload_n 1, 1) := by decide +kernel
theorem dX8_letter_36 : decode cX8_letter 36 = .ok (.iastore, 1) := by decide +kernel
theorem dX8_letter_37 : decode cX8_letter 37 = .ok (.aload_n 0, 1) := by decide +kernel
theorem dX8_letter_38 : decode cX8_letter 38 = .ok (.dup, 1) := by decide +kernel
theorem dX8_letter_39 : decode cX8_letter 39 = .ok (.getfield 96, 3) := by decide +kernel
theorem dX8_letter_42 : decode cX8_letter 42 = .ok (.iconst 1, 1) := by decide +kernel
theorem dX8_letter_43 : decode cX8_letter 43 = .ok (.iadd, 1) := by decide +kernel
theorem dX8_letter_44 : decode cX8_letter 44 = .ok (.putfield 96, 3) := by decide +kernel
theorem dX8_letter_47 : decode cX8_letter 47 = .ok (.aload_n 0, 1) := by decide +kernel
theorem dX8_letter_48 : decode cX8_letter 48 = .ok (.getfield 96, 3) := by decide +kernel
theorem dX8_letter_51 : decode cX8_letter 51 = .ok (.ireturn, 1) := by decide +kernel
theorem dX8_blank_0 : decode cX8_blank 0 = .ok (.aload_n 0, 1) := by decide +kernel
theorem dX8_blank_1 : decode cX8_blank 1 = .ok (.getfield 96, 3) := by decide +kernel
theorem dX8_blank_4 : decode cX8_blank 4 = .ok (.istore_n 1, 1) := by decide +kernel
theorem dX8_blank_5 : decode cX8_blank 5 = .ok (.aload_n 0, 1) := by decide +kernel
theorem dX8_blank_6 : decode cX8_blank 6 = .ok (.iconst 0, 1) := by decide +kernel
theorem dX8_blank_7 : decode cX8_blank 7 = .ok (.putfield 96, 3) := by decide +kernel
theorem dX8_blank_10 : decode cX8_blank 10 = .ok (.iload_n 1, 1) := by decide +kernel
theorem dX8_blank_11 : decode cX8_blank 11 = .ok (.ireturn, 1) := by decide +kernel
theorem dX8_kindBy_0 : decode cX8_kindBy 0 = .ok (.iload_n 0, 1) := by decide +kernel
theorem dX8_kindBy_1 : decode cX8_kindBy 1 = .ok (.lookupswitch 61 #[(99, 55), (100, 59), (104, 57), (112, 51), (116, 53)], 51) := by decide +kernel
theorem dX8_kindBy_52 : decode cX8_kindBy 52 = .ok (.iconst 0, 1) := by decide +kernel
theorem dX8_kindBy_53 : decode cX8_kindBy 53 = .ok (.ireturn, 1) := by decide +kernel
theorem dX8_kindBy_54 : decode cX8_kindBy 54 = .ok (.iconst 1, 1) := by decide +kernel
theorem dX8_kindBy_55 : decode cX8_kindBy 55 = .ok (.ireturn, 1) := by decide +kernel
theorem dX8_kindBy_56 : decode cX8_kindBy 56 = .ok (.iconst 2, 1) := by decide +kernel
theorem dX8_kindBy_57 : decode cX8_kindBy 57 = .ok (.ireturn, 1) := by decide +kernel
theorem dX8_kindBy_58 : decode cX8_kindBy 58 = .ok (.iconst 3, 1) := by decide +kernel
theorem dX8_kindBy_59 : decode cX8_kindBy 59 = .ok (.ireturn, 1) := by decide +kernel
theorem dX8_kindBy_60 : decode cX8_kindBy 60 = .ok (.iconst 4, 1) := by decide +kernel
theorem dX8_kindBy_61 : decode cX8_kindBy 61 = .ok (.ireturn, 1) := by decide +kernel
theorem dX8_kindBy_62 : decode cX8_kindBy 62 = .ok (.iconst (-1), 1) := by decide +kernel
theorem dX8_kindBy_63 : decode cX8_kindBy 63 = .ok (.ireturn, 1) := by decide +kernel
theorem dX8_isCornerLetter_0 : decode cX8_isCornerLetter 0 = .ok (.iload_n 1, 1) := by decide +kernel
theorem dX8_isCornerLetter_1 : decode cX8_isCornerLetter 1 = .ok (.i2l, 1) := by decide +kernel
theorem dX8_isCornerLetter_2 : decode cX8_isCornerLetter 2 = .ok (.ldc2_w 99, 3) := by decide +kernel
theorem dX8_isCornerLetter_5 : decode cX8_isCornerLetter 5 = .ok (.aload_n 0, 1) := by decide +kernel
theorem dX8_isCornerLetter_6 : decode cX8_isCornerLetter 6 = .ok (.getfield 7, 3) := by decide +kernel
theorem dX8_isCornerLetter_9 : decode cX8_isCornerLetter 9 = .ok (.iconst 0, 1) := by decide +kernel
theorem dX8_isCornerLetter_10 : decode cX8_isCornerLetter 10 = .ok (.iaload, 1) := by decide +kernel
theorem dX8_isCornerLetter_11 : decode cX8_isCornerLetter 11 = .ok (.iconst 1, 1) := by decide +kernel
theorem dX8_isCornerLetter_12 : decode cX8_isCornerLetter 12 = .ok (.isub, 1) := by decide +kernel
theorem dX8_isCornerLetter_13 : decode cX8_isCornerLetter 13 = .ok (.i2l, 1) := by decide +kernel
theorem dX8_isCornerLetter_14 : decode cX8_isCornerLetter 14 = .ok (.invokestatic 92, 3) := by decide +kernel
theorem dX8_isCornerLetter_17 : decode cX8_isCornerLetter 17 = .ok (.ireturn, 1) := by decide +kernel
theorem dX8_isRoadLetter_0 : decode cX8_isRoadLetter 0 = .ok (.aload_n 0, 1) := by decide +kernel
theorem dX8_isRoadLetter_1 : decode cX8_isRoadLetter 1 = .ok (.getfield 7, 3) := by decide +kernel
theorem dX8_isRoadLetter_4 : decode cX8_isRoadLetter 4 = .ok (.iload_n 1, 1) := by decide +kernel
theorem dX8_isRoadLetter_5 : decode cX8_isRoadLetter 5 = .ok (.iaload, 1) := by decide +kernel
theorem dX8_isRoadLetter_6 : decode cX8_isRoadLetter 6 = .ok (.istore_n 2, 1) := by decide +kernel
theorem dX8_isRoadLetter_7 : decode cX8_isRoadLetter 7 = .ok (.iload_n 1, 1) := by decide +kernel
theorem dX8_isRoadLetter_8 : decode cX8_isRoadLetter 8 = .ok (.iconst 3, 1) := by decide +kernel
theorem dX8_isRoadLetter_9 : decode cX8_isRoadLetter 9 = .ok (.isub, 1) := by decide +kernel
theorem dX8_isRoadLetter_10 : decode cX8_isRoadLetter 10 = .ok (.istore_n 3, 1) := by decide +kernel
theorem dX8_isRoadLetter_11 : decode cX8_isRoadLetter 11 = .ok (.iload_n 3, 1) := by decide +kernel
theorem dX8_isRoadLetter_12 : decode cX8_isRoadLetter 12 = .ok (.iconst 3, 1) := by decide +kernel
theorem dX8_isRoadLetter_13 : decode cX8_isRoadLetter 13 = .ok (.irem, 1) := by decide +kernel
theorem dX8_isRoadLetter_14 : decode cX8_isRoadLetter 14 = .ok (.lookupswitch 58 #[(0, 26), (1, 32)], 26) := by decide +kernel
theorem dX8_isRoadLetter_40 : decode cX8_isRoadLetter 40 = .ok (.aload_n 0, 1) := by decide +kernel
theorem dX8_isRoadLetter_41 : decode cX8_isRoadLetter 41 = .ok (.iload_n 2, 1) := by decide +kernel
theorem dX8_isRoadLetter_42 : decode cX8_isRoadLetter 42 = .ok (.invokevirtual 101, 3) := by decide +kernel
theorem dX8_isRoadLetter_45 : decode cX8_isRoadLetter 45 = .ok (.ireturn, 1) := by decide +kernel
theorem dX8_isRoadLetter_46 : decode cX8_isRoadLetter 46 = .ok (.aload_n 0, 1) := by decide +kernel
theorem dX8_isRoadLetter_47 : decode cX8_isRoadLetter 47 = .ok (.iload_n 2, 1) := by decide +kernel
theorem dX8_isRoadLetter_48 : decode cX8_isRoadLetter 48 = .ok (.invokevirtual 101, 3) := by decide +kernel
theorem dX8_isRoadLetter_51 : decode cX8_isRoadLetter 51 = .ok (.ifCond .eq 19, 3) := by decide +kernel
theorem dX8_isRoadLetter_54 : decode cX8_isRoadLetter 54 = .ok (.iload_n 2, 1) := by decide +kernel
theorem dX8_isRoadLetter_55 : decode cX8_isRoadLetter 55 = .ok (.aload_n 0, 1) := by decide +kernel
theorem dX8_isRoadLetter_56 : decode cX8_isRoadLetter 56 = .ok (.getfield 7, 3) := by decide +kernel
theorem dX8_isRoadLetter_59 : decode cX8_isRoadLetter 59 = .ok (.iload_n 1, 1) := by decide +kernel
theorem dX8_isRoadLetter_60 : decode cX8_isRoadLetter 60 = .ok (.iconst 1, 1) := by decide +kernel
theorem dX8_isRoadLetter_61 : decode cX8_isRoadLetter 61 = .ok (.isub, 1) := by decide +kernel
theorem dX8_isRoadLetter_62 : decode cX8_isRoadLetter 62 = .ok (.iaload, 1) := by decide +kernel
theorem dX8_isRoadLetter_63 : decode cX8_isRoadLetter 63 = .ok (.if_icmp .eq 7, 3) := by decide +kernel
theorem dX8_isRoadLetter_66 : decode cX8_isRoadLetter 66 = .ok (.iconst 1, 1) := by decide +kernel
theorem dX8_isRoadLetter_67 : decode cX8_isRoadLetter 67 = .ok (.goto 4, 3) := by decide +kernel
theorem dX8_isRoadLetter_70 : decode cX8_isRoadLetter 70 = .ok (.iconst 0, 1) := by decide +kernel
theorem dX8_isRoadLetter_71 : decode cX8_isRoadLetter 71 = .ok (.ireturn, 1) := by decide +kernel
theorem dX8_isRoadLetter_72 : decode cX8_isRoadLetter 72 = .ok (.iload_n 2, 1) := by decide +kernel
theorem dX8_isRoadLetter_73 : decode cX8_isRoadLetter 73 = .ok (.bipush 59, 2) := by decide +kernel
theorem dX8_isRoadLetter_75 : decode cX8_isRoadLetter 75 = .ok (.if_icmp .ne 10, 3) := by decide +kernel
theorem dX8_isRoadLetter_78 : decode cX8_isRoadLetter 78 = .ok (.aload_n 0, 1) := by decide +kernel
theorem dX8_isRoadLetter_79 : decode cX8_isRoadLetter 79 = .ok (.iload_n 1, 1) := by decide +kernel
theorem dX8_isRoadLetter_80 : decode cX8_isRoadLetter 80 = .ok (.putfield 105, 3) := by decide +kernel
theorem dX8_isRoadLetter_83 : decode cX8_isRoadLetter 83 = .ok (.iconst 1, 1) := by decide +kernel
theorem dX8_isRoadLetter_84 : decode cX8_isRoadLetter 84 = .ok (.ireturn, 1) := by decide +kernel
theorem dX8_isRoadLetter_85 : decode cX8_isRoadLetter 85 = .ok (.iload_n 2, 1) := by decide +kernel
theorem dX8_isRoadLetter_86 : decode cX8_isRoadLetter 86 = .ok (.bipush 44, 2) := by decide +kernel
theorem dX8_isRoadLetter_88 : decode cX8_isRoadLetter 88 = .ok (.if_icmp .ne 13, 3) := by decide +kernel
theorem dX8_isRoadLetter_91 : decode cX8_isRoadLetter 91 = .ok (.iload_n 3, 1) := by decide +kernel
theorem dX8_isRoadLetter_92 : decode cX8_isRoadLetter 92 = .ok (.bipush 23, 2) := by decide +kernel
theorem dX8_isRoadLetter_94 : decode cX8_isRoadLetter 94 = .ok (.if_icmp .ge 7, 3) := by decide +kernel
theorem dX8_isRoadLetter_97 : decode cX8_isRoadLetter 97 = .ok (.iconst 1, 1) := by decide +kernel
theorem dX8_isRoadLetter_98 : decode cX8_isRoadLetter 98 = .ok (.goto 4, 3) := by decide +kernel
theorem dX8_isRoadLetter_101 : decode cX8_isRoadLetter 101 = .ok (.iconst 0, 1) := by decide +kernel
theorem dX8_isRoadLetter_102 : decode cX8_isRoadLetter 102 = .ok (.ireturn, 1) := by decide +kernel
theorem dX8_isPersonLetter_0 : decode cX8_isPersonLetter 0 = .ok (.aload_n 0, 1) := by decide +kernel
theorem dX8_isPersonLetter_1 : decode cX8_isPersonLetter 1 = .ok (.getfield 7, 3) := by decide +kernel
theorem dX8_isPersonLetter_4 : decode cX8_isPersonLetter 4 = .ok (.iload_n 1, 1) := by decide +kernel
theorem dX8_isPersonLetter_5 : decode cX8_isPersonLetter 5 = .ok (.iaload, 1) := by decide +kernel
theorem dX8_isPersonLetter_6 : decode cX8_isPersonLetter 6 = .ok (.istore_n 2, 1) := by decide +kernel
theorem dX8_isPersonLetter_7 : decode cX8_isPersonLetter 7 = .ok (.iload_n 1, 1) := by decide +kernel
theorem dX8_isPersonLetter_8 : decode cX8_isPersonLetter 8 = .ok (.aload_n 0, 1) := by decide +kernel
theorem dX8_isPersonLetter_9 : decode cX8_isPersonLetter 9 = .ok (.getfield 105, 3) := by decide +kernel
theorem dX8_isPersonLetter_12 : decode cX8_isPersonLetter 12 = .ok (.isub, 1) := by decide +kernel
theorem dX8_isPersonLetter_13 : decode cX8_isPersonLetter 13 = .ok (.iconst 1, 1) := by decide +kernel
theorem dX8_isPersonLetter_14 : decode cX8_isPersonLetter 14 = .ok (.isub, 1) := by decide +kernel
theorem dX8_isPersonLetter_15 : decode cX8_isPersonLetter 15 = .ok (.istore_n 3, 1) := by decide +kernel
theorem dX8_isPersonLetter_16 : decode cX8_isPersonLetter 16 = .ok (.iload_n 3, 1) := by decide +kernel
theorem dX8_isPersonLetter_17 : decode cX8_isPersonLetter 17 = .ok (.iconst 5, 1) := by decide +kernel
theorem dX8_isPersonLetter_18 : decode cX8_isPersonLetter 18 = .ok (.irem, 1) := by decide +kernel
theorem dX8_isPersonLetter_19 : decode cX8_isPersonLetter 19 = .ok (.tableswitch 71 0 4 #[33, 47, 71, 71, 53], 33) := by decide +kernel
theorem dX8_isPersonLetter_52 : decode cX8_isPersonLetter 52 = .ok (.iload_n 2, 1) := by decide +kernel
theorem dX8_isPersonLetter_53 : decode cX8_isPersonLetter 53 = .ok (.invokestatic 108, 3) := by decide +kernel
theorem dX8_isPersonLetter_56 : decode cX8_isPersonLetter 56 = .ok (.iconst (-1), 1) := by decide +kernel
theorem dX8_isPersonLetter_57 : decode cX8_isPersonLetter 57 = .ok (.if_icmp .eq 7, 3) := by decide +kernel
theorem dX8_isPersonLetter_60 : decode cX8_isPersonLetter 60 = .ok (.iconst 1, 1) := by decide +kernel
theorem dX8_isPersonLetter_61 : decode cX8_isPersonLetter 61 = .ok (.goto 4, 3) := by decide +kernel
theorem dX8_isPersonLetter_64 : decode cX8_isPersonLetter 64 = .ok (.iconst 0, 1) := by decide +kernel
theorem dX8_isPersonLetter_65 : decode cX8_isPersonLetter 65 = .ok (.ireturn, 1) := by decide +kernel
theorem dX8_isPersonLetter_66 : decode cX8_isPersonLetter 66 = .ok (.aload_n 0, 1) := by decide +kernel
theorem dX8_isPersonLetter_67 : decode cX8_isPersonLetter 67 = .ok (.iload_n 2, 1) := by decide +kernel
theorem dX8_isPersonLetter_68 : decode cX8_isPersonLetter 68 = .ok (.invokevirtual 101, 3) := by decide +kernel
theorem dX8_isPersonLetter_71 : decode cX8_isPersonLetter 71 = .ok (.ireturn, 1) := by decide +kernel
theorem dX8_isPersonLetter_72 : decode cX8_isPersonLetter 72 = .ok (.iload_n 2, 1) := by decide +kernel
theorem dX8_isPersonLetter_73 : decode cX8_isPersonLetter 73 = .ok (.bipush 44, 2) := by decide +kernel
theorem dX8_isPersonLetter_75 : decode cX8_isPersonLetter 75 = .ok (.if_icmp .ne 13, 3) := by decide +kernel
theorem dX8_isPersonLetter_78 : decode cX8_isPersonLetter 78 = .ok (.iload_n 3, 1) := by decide +kernel
theorem dX8_isPersonLetter_79 : decode cX8_isPersonLetter 79 = .ok (.bipush 29, 2) := by decide +kernel
theorem dX8_isPersonLetter_81 : decode cX8_isPersonLetter 81 = .ok (.if_icmp .ge 7, 3) := by decide +kernel
theorem dX8_isPersonLetter_84 : decode cX8_isPersonLetter 84 = .ok (.iconst 1, 1) := by decide +kernel
theorem dX8_isPersonLetter_85 : decode cX8_isPersonLetter 85 = .ok (.goto 4, 3) := by decide +kernel
theorem dX8_isPersonLetter_88 : decode cX8_isPersonLetter 88 = .ok (.iconst 0, 1) := by decide +kernel
theorem dX8_isPersonLetter_89 : decode cX8_isPersonLetter 89 = .ok (.ireturn, 1) := by decide +kernel
theorem dX8_isPersonLetter_90 : decode cX8_isPersonLetter 90 = .ok (.iload_n 2, 1) := by decide +kernel
theorem dX8_isPersonLetter_91 : decode cX8_isPersonLetter 91 = .ok (.i2l, 1) := by decide +kernel
theorem dX8_isPersonLetter_92 : decode cX8_isPersonLetter 92 = .ok (.ldc2_w 99, 3) := by decide +kernel
theorem dX8_isPersonLetter_95 : decode cX8_isPersonLetter 95 = .ok (.ldc2_w 112, 3) := by decide +kernel
theorem dX8_isPersonLetter_98 : decode cX8_isPersonLetter 98 = .ok (.invokestatic 92, 3) := by decide +kernel
theorem dX8_isPersonLetter_101 : decode cX8_isPersonLetter 101 = .ok (.ireturn, 1) := by decide +kernel
theorem dX8_isGood_0 : decode cX8_isGood 0 = .ok (.iload_n 1, 1) := by decide +kernel
theorem dX8_isGood_1 : decode cX8_isGood 1 = .ok (.iconst 3, 1) := by decide +kernel
theorem dX8_isGood_2 : decode cX8_isGood 2 = .ok (.if_icmp .ge 61, 3) := by decide +kernel
theorem dX8_isGood_5 : decode cX8_isGood 5 = .ok (.iload_n 1, 1) := by decide +kernel
theorem dX8_isGood_6 : decode cX8_isGood 6 = .ok (.ifCond .ne 22, 3) := by decide +kernel
theorem dX8_isGood_9 : decode cX8_isGood 9 = .ok (.aload_n 0, 1) := by decide +kernel
theorem dX8_isGood_10 : decode cX8_isGood 10 = .ok (.getfield 7, 3) := by decide +kernel
theorem dX8_isGood_13 : decode cX8_isGood 13 = .ok (.iconst 0, 1) := by decide +kernel
theorem dX8_isGood_14 : decode cX8_isGood 14 = .ok (.iaload, 1) := by decide +kernel
theorem dX8_isGood_15 : decode cX8_isGood 15 = .ok (.i2l, 1) := by decide +kernel
theorem dX8_isGood_16 : decode cX8_isGood 16 = .ok (.ldc2_w 114, 3) := by decide +kernel
theorem dX8_isGood_19 : decode cX8_isGood 19 = .ok (.ldc2_w 116, 3) := by decide +kernel
theorem dX8_isGood_22 : decode cX8_isGood 22 = .ok (.invokestatic 92, 3) := by decide +kernel
theorem dX8_isGood_25 : decode cX8_isGood 25 = .ok (.goto 37, 3) := by decide +kernel
theorem dX8_isGood_28 : decode cX8_isGood 28 = .ok (.iload_n 1, 1) := by decide +kernel
theorem dX8_isGood_29 : decode cX8_isGood 29 = .ok (.iconst 1, 1) := by decide +kernel
theorem dX8_isGood_30 : decode cX8_isGood 30 = .ok (.if_icmp .ne 16, 3) := by decide +kernel
theorem dX8_isGood_33 : decode cX8_isGood 33 = .ok (.aload_n 0, 1) := by decide +kernel
theorem dX8_isGood_34 : decode cX8_isGood 34 = .ok (.aload_n 0, 1) := by decide +kernel
theorem dX8_isGood_35 : decode cX8_isGood 35 = .ok (.getfield 7, 3) := by decide +kernel
theorem dX8_isGood_38 : decode cX8_isGood 38 = .ok (.iconst 1, 1) := by decide +kernel
theorem dX8_isGood_39 : decode cX8_isGood 39 = .ok (.iaload, 1) := by decide +kernel
theorem dX8_isGood_40 : decode cX8_isGood 40 = .ok (.invokevirtual 101, 3) := by decide +kernel
theorem dX8_isGood_43 : decode cX8_isGood 43 = .ok (.goto 19, 3) := by decide +kernel
theorem dX8_isGood_46 : decode cX8_isGood 46 = .ok (.aload_n 0, 1) := by decide +kernel
theorem dX8_isGood_47 : decode cX8_isGood 47 = .ok (.getfield 7, 3) := by decide +kernel
theorem dX8_isGood_50 : decode cX8_isGood 50 = .ok (.iconst 2, 1) := by decide +kernel
theorem dX8_isGood_51 : decode cX8_isGood 51 = .ok (.iaload, 1) := by decide +kernel
theorem dX8_isGood_52 : decode cX8_isGood 52 = .ok (.bipush 59, 2) := by decide +kernel
theorem dX8_isGood_54 : decode cX8_isGood 54 = .ok (.if_icmp .ne 7, 3) := by decide +kernel
theorem dX8_isGood_57 : decode cX8_isGood 57 = .ok (.iconst 1, 1) := by decide +kernel
theorem dX8_isGood_58 : decode cX8_isGood 58 = .ok (.goto 4, 3) := by decide +kernel
theorem dX8_isGood_61 : decode cX8_isGood 61 = .ok (.iconst 0, 1) := by decide +kernel
theorem dX8_isGood_62 : decode cX8_isGood 62 = .ok (.ireturn, 1) := by decide +kernel
theorem dX8_isGood_63 : decode cX8_isGood 63 = .ok (.aload_n 0, 1) := by decide +kernel
theorem dX8_isGood_64 : decode cX8_isGood 64 = .ok (.getfield 105, 3) := by decide +kernel
theorem dX8_isGood_67 : decode cX8_isGood 67 = .ok (.ifCond .ne 11, 3) := by decide +kernel
theorem dX8_isGood_70 : decode cX8_isGood 70 = .ok (.aload_n 0, 1) := by decide +kernel
theorem dX8_isGood_71 : decode cX8_isGood 71 = .ok (.iload_n 1, 1) := by decide +kernel
theorem dX8_isGood_72 : decode cX8_isGood 72 = .ok (.invokevirtual 118, 3) := by decide +kernel
theorem dX8_isGood_75 : decode cX8_isGood 75 = .ok (.goto 8, 3) := by decide +kernel
theorem dX8_isGood_78 : decode cX8_isGood 78 = .ok (.aload_n 0, 1) := by decide +kernel
theorem dX8_isGood_79 : decode cX8_isGood 79 = .ok (.iload_n 1, 1) := by decide +kernel
theorem dX8_isGood_80 : decode cX8_isGood 80 = .ok (.invokevirtual 121, 3) := by decide +kernel
theorem dX8_isGood_83 : decode cX8_isGood 83 = .ok (.ireturn, 1) := by decide +kernel
theorem dX8_faultOf_0 : decode cX8_faultOf 0 = .ok (.aload_n 0, 1) := by decide +kernel
theorem dX8_faultOf_1 : decode cX8_faultOf 1 = .ok (.iconst 0, 1) := by decide +kernel
theorem dX8_faultOf_2 : decode cX8_faultOf 2 = .ok (.putfield 105, 3) := by decide +kernel
theorem dX8_faultOf_5 : decode cX8_faultOf 5 = .ok (.iconst 0, 1) := by decide +kernel
theorem dX8_faultOf_6 : decode cX8_faultOf 6 = .ok (.istore_n 1, 1) := by decide +kernel
theorem dX8_faultOf_7 : decode cX8_faultOf 7 = .ok (.iload_n 1, 1) := by decide +kernel
theorem dX8_faultOf_8 : decode cX8_faultOf 8 = .ok (.aload_n 0, 1) := by decide +kernel
theorem dX8_faultOf_9 : decode cX8_faultOf 9 = .ok (.getfield 96, 3) := by decide +kernel
theorem dX8_faultOf_12 : decode cX8_faultOf 12 = .ok (.if_icmp .ge 17, 3) := by decide +kernel
theorem dX8_faultOf_15 : decode cX8_faultOf 15 = .ok (.aload_n 0, 1) := by decide +kernel
theorem dX8_faultOf_16 : decode cX8_faultOf 16 = .ok (.iload_n 1, 1) := by decide +kernel
theorem dX8_faultOf_17 : decode cX8_faultOf 17 = .ok (.invokevirtual 124, 3) := by decide +kernel
theorem dX8_faultOf_20 : decode cX8_faultOf 20 = .ok (.ifCond .eq 9, 3) := by decide +kernel
theorem dX8_faultOf_23 : decode cX8_faultOf 23 = .ok (.iinc 1 1, 3) := by decide +kernel
theorem dX8_faultOf_26 : decode cX8_faultOf 26 = .ok (.goto (-19), 3) := by decide +kernel
theorem dX8_faultOf_29 : decode cX8_faultOf 29 = .ok (.iload_n 1, 1) := by decide +kernel
theorem dX8_faultOf_30 : decode cX8_faultOf 30 = .ok (.ireturn, 1) := by decide +kernel
theorem dX8_fault_0 : decode cX8_fault 0 = .ok (.aload_n 0, 1) := by decide +kernel
theorem dX8_fault_1 : decode cX8_fault 1 = .ok (.invokevirtual 127, 3) := by decide +kernel
theorem dX8_fault_4 : decode cX8_fault 4 = .ok (.ireturn, 1) := by decide +kernel
theorem dX8_layFars_0 : decode cX8_layFars 0 = .ok (.iconst 0, 1) := by decide +kernel
theorem dX8_layFars_1 : decode cX8_layFars 1 = .ok (.istore_n 1, 1) := by decide +kernel
theorem dX8_layFars_2 : decode cX8_layFars 2 = .ok (.iload_n 1, 1) := by decide +kernel
theorem dX8_layFars_3 : decode cX8_layFars 3 = .ok (.bipush 36, 2) := by decide +kernel
theorem dX8_layFars_5 : decode cX8_layFars 5 = .ok (.if_icmp .ge 32, 3) := by decide +kernel
theorem dX8_layFars_8 : decode cX8_layFars 8 = .ok (.aload_n 0, 1) := by decide +kernel
theorem dX8_layFars_9 : decode cX8_layFars 9 = .ok (.getfield 37, 3) := by decide +kernel
theorem dX8_layFars_12 : decode cX8_layFars 12 = .ok (.iload_n 1, 1) := by decide +kernel
theorem dX8_layFars_13 : decode cX8_layFars 13 = .ok (.iload_n 1, 1) := by decide +kernel
theorem dX8_layFars_14 : decode cX8_layFars 14 = .ok (.bipush 6, 2) := by decide +kernel
theorem dX8_layFars_16 : decode cX8_layFars 16 = .ok (.idiv, 1) := by decide +kernel
theorem dX8_layFars_17 : decode cX8_layFars 17 = .ok (.iload_n 1, 1) := by decide +kernel
theorem dX8_layFars_18 : decode cX8_layFars 18 = .ok (.bipush 6, 2) := by decide +kernel
theorem dX8_layFars_20 : decode cX8_layFars 20 = .ok (.irem, 1) := by decide +kernel
theorem dX8_layFars_21 : decode cX8_layFars 21 = .ok (.if_icmp .ne 7, 3) := by decide +kernel
theorem dX8_layFars_24 : decode cX8_layFars 24 = .ok (.iconst 0, 1) := by decide +kernel
theorem dX8_layFars_25 : decode cX8_layFars 25 = .ok (.goto 5, 3) := by decide +kernel
theorem dX8_layFars_28 : decode cX8_layFars 28 = .ok (.bipush 99, 2) := by decide +kernel
theorem dX8_layFars_30 : decode cX8_layFars 30 = .ok (.iastore, 1) := by decide +kernel
theorem dX8_layFars_31 : decode cX8_layFars 31 = .ok (.iinc 1 1, 3) := by decide +kernel
theorem dX8_layFars_34 : decode cX8_layFars 34 = .ok (.goto (-32), 3) := by decide +kernel
theorem dX8_layFars_37 : decode cX8_layFars 37 = .ok (.iconst 0, 1) := by decide +kernel
theorem dX8_layFars_38 : decode cX8_layFars 38 = .ok (.istore_n 1, 1) := by decide +kernel
theorem dX8_layFars_39 : decode cX8_layFars 39 = .ok (.iload_n 1, 1) := by decide +kernel
theorem dX8_layFars_40 : decode cX8_layFars 40 = .ok (.bipush 6, 2) := by decide +kernel
theorem dX8_layFars_42 : decode cX8_layFars 42 = .ok (.if_icmp .ge 155, 3) := by decide +kernel
theorem dX8_layFars_45 : decode cX8_layFars 45 = .ok (.iconst 0, 1) := by decide +kernel
theorem dX8_layFars_46 : decode cX8_layFars 46 = .ok (.istore_n 2, 1) := by decide +kernel
theorem dX8_layFars_47 : decode cX8_layFars 47 = .ok (.iload_n 2, 1) := by decide +kernel
theorem dX8_layFars_48 : decode cX8_layFars 48 = .ok (.aload_n 0, 1) := by decide +kernel
theorem dX8_layFars_49 : decode cX8_layFars 49 = .ok (.getfield 131, 3) := by decide +kernel
theorem dX8_layFars_52 : decode cX8_layFars 52 = .ok (.if_icmp .ge 139, 3) := by decide +kernel
theorem dX8_layFars_55 : decode cX8_layFars 55 = .ok (.iconst 0, 1) := by decide +kernel
theorem dX8_layFars_56 : decode cX8_layFars 56 = .ok (.istore_n 3, 1) := by decide +kernel
theorem dX8_layFars_57 : decode cX8_layFars 57 = .ok (.iload_n 3, 1) := by decide +kernel
theorem dX8_layFars_58 : decode cX8_layFars 58 = .ok (.bipush 6, 2) := by decide +kernel
theorem dX8_layFars_60 : decode cX8_layFars 60 = .ok (.if_icmp .ge 125, 3) := by decide +kernel
theorem dX8_layFars_63 : decode cX8_layFars 63 = .ok (.bipush 6, 2) := by decide +kernel
theorem dX8_layFars_65 : decode cX8_layFars 65 = .ok (.aload_n 0, 1) := by decide +kernel
theorem dX8_layFars_66 : decode cX8_layFars 66 = .ok (.getfield 13, 3) := by decide +kernel
theorem dX8_layFars_69 : decode cX8_layFars 69 = .ok (.iload_n 2, 1) := by decide +kernel
theorem dX8_layFars_70 : decode cX8_layFars 70 = .ok (.iaload, 1) := by decide +kernel
theorem dX8_layFars_71 : decode cX8_layFars 71 = .ok (.imul, 1) := by decide +kernel
theorem dX8_layFars_72 : decode cX8_layFars 72 = .ok (.iload_n 3, 1) := by decide +kernel
theorem dX8_layFars_73 : decode cX8_layFars 73 = .ok (.iadd, 1) := by decide +kernel
theorem dX8_layFars_74 : decode cX8_layFars 74 = .ok (.istore 4, 2) := by decide +kernel
theorem dX8_layFars_76 : decode cX8_layFars 76 = .ok (.bipush 6, 2) := by decide +kernel
theorem dX8_layFars_78 : decode cX8_layFars 78 = .ok (.aload_n 0, 1) := by decide +kernel
theorem dX8_layFars_79 : decode cX8_layFars 79 = .ok (.getfield 16, 3) := by decide +kernel
theorem dX8_layFars_82 : decode cX8_layFars 82 = .ok (.iload_n 2, 1) := by decide +kernel
theorem dX8_layFars_83 : decode cX8_layFars 83 = .ok (.iaload, 1) := by decide +kernel
theorem dX8_layFars_84 : decode cX8_layFars 84 = .ok (.imul, 1) := by decide +kernel
theorem dX8_layFars_85 : decode cX8_layFars 85 = .ok (.iload_n 3, 1) := by decide +kernel
theorem dX8_layFars_86 : decode cX8_layFars 86 = .ok (.iadd, 1) := by decide +kernel
theorem dX8_layFars_87 : decode cX8_layFars 87 = .ok (.istore 5, 2) := by decide +kernel
theorem dX8_layFars_89 : decode cX8_layFars 89 = .ok (.aload_n 0, 1) := by decide +kernel
theorem dX8_layFars_90 : decode cX8_layFars 90 = .ok (.getfield 37, 3) := by decide +kernel
theorem dX8_layFars_93 : decode cX8_layFars 93 = .ok (.iload 4, 2) := by decide +kernel
theorem dX8_layFars_95 : decode cX8_layFars 95 = .ok (.aload_n 0, 1) := by decide +kernel
theorem dX8_layFars_96 : decode cX8_layFars 96 = .ok (.getfield 37, 3) := by decide +kernel
theorem dX8_layFars_99 : decode cX8_layFars 99 = .ok (.iload 5, 2) := by decide +kernel
theorem dX8_layFars_101 : decode cX8_layFars 101 = .ok (.iaload, 1) := by decide +kernel
theorem dX8_layFars_102 : decode cX8_layFars 102 = .ok (.iconst 1, 1) := by decide +kernel
theorem dX8_layFars_103 : decode cX8_layFars 103 = .ok (.iadd, 1) := by decide +kernel
theorem dX8_layFars_104 : decode cX8_layFars 104 = .ok (.aload_n 0, 1) := by decide +kernel
theorem dX8_layFars_105 : decode cX8_layFars 105 = .ok (.getfield 37, 3) := by decide +kernel
theorem dX8_layFars_108 : decode cX8_layFars 108 = .ok (.iload 4, 2) := by decide +kernel
theorem dX8_layFars_110 : decode cX8_layFars 110 = .ok (.iaload, 1) := by decide +kernel
theorem dX8_layFars_111 : decode cX8_layFars 111 = .ok (.if_icmp .ge 15, 3) := by decide +kernel
theorem dX8_layFars_114 : decode cX8_layFars 114 = .ok (.aload_n 0, 1) := by decide +kernel
theorem dX8_layFars_115 : decode cX8_layFars 115 = .ok (.getfield 37, 3) := by decide +kernel
theorem dX8_layFars_118 : decode cX8_layFars 118 = .ok (.iload 5, 2) := by decide +kernel
theorem dX8_layFars_120 : decode cX8_layFars 120 = .ok (.iaload, 1) := by decide +kernel
theorem dX8_layFars_121 : decode cX8_layFars 121 = .ok (.iconst 1, 1) := by decide +kernel
theorem dX8_layFars_122 : decode cX8_layFars 122 = .ok (.iadd, 1) := by decide +kernel
theorem dX8_layFars_123 : decode cX8_layFars 123 = .ok (.goto 10, 3) := by decide +kernel
theorem dX8_layFars_126 : decode cX8_layFars 126 = .ok (.aload_n 0, 1) := by decide +kernel
theorem dX8_layFars_127 : decode cX8_layFars 127 = .ok (.getfield 37, 3) := by decide +kernel
theorem dX8_layFars_130 : decode cX8_layFars 130 = .ok (.iload 4, 2) := by decide +kernel
theorem dX8_layFars_132 : decode cX8_layFars 132 = .ok (.iaload, 1) := by decide +kernel
theorem dX8_layFars_133 : decode cX8_layFars 133 = .ok (.iastore, 1) := by decide +kernel
theorem dX8_layFars_134 : decode cX8_layFars 134 = .ok (.aload_n 0, 1) := by decide +kernel
theorem dX8_layFars_135 : decode cX8_layFars 135 = .ok (.getfield 37, 3) := by decide +kernel
theorem dX8_layFars_138 : decode cX8_layFars 138 = .ok (.iload 5, 2) := by decide +kernel
theorem dX8_layFars_140 : decode cX8_layFars 140 = .ok (.aload_n 0, 1) := by decide +kernel
theorem dX8_layFars_141 : decode cX8_layFars 141 = .ok (.getfield 37, 3) := by decide +kernel
theorem dX8_layFars_144 : decode cX8_layFars 144 = .ok (.iload 4, 2) := by decide +kernel
theorem dX8_layFars_146 : decode cX8_layFars 146 = .ok (.iaload, 1) := by decide +kernel
theorem dX8_layFars_147 : decode cX8_layFars 147 = .ok (.iconst 1, 1) := by decide +kernel
theorem dX8_layFars_148 : decode cX8_layFars 148 = .ok (.iadd, 1) := by decide +kernel
theorem dX8_layFars_149 : decode cX8_layFars 149 = .ok (.aload_n 0, 1) := by decide +kernel
theorem dX8_layFars_150 : decode cX8_layFars 150 = .ok (.getfield 37, 3) := by decide +kernel
theorem dX8_layFars_153 : decode cX8_layFars 153 = .ok (.iload 5, 2) := by decide +kernel
theorem dX8_layFars_155 : decode cX8_layFars 155 = .ok (.iaload, 1) := by decide +kernel
theorem dX8_layFars_156 : decode cX8_layFars 156 = .ok (.if_icmp .ge 15, 3) := by decide +kernel
theorem dX8_layFars_159 : decode cX8_layFars 159 = .ok (.aload_n 0, 1) := by decide +kernel
theorem dX8_layFars_160 : decode cX8_layFars 160 = .ok (.getfield 37, 3) := by decide +kernel
theorem dX8_layFars_163 : decode cX8_layFars 163 = .ok (.iload 4, 2) := by decide +kernel
theorem dX8_layFars_165 : decode cX8_layFars 165 = .ok (.iaload, 1) := by decide +kernel
theorem dX8_layFars_166 : decode cX8_layFars 166 = .ok (.iconst 1, 1) := by decide +kernel
theorem dX8_layFars_167 : decode cX8_layFars 167 = .ok (.iadd, 1) := by decide +kernel
theorem dX8_layFars_168 : decode cX8_layFars 168 = .ok (.goto 10, 3) := by decide +kernel
theorem dX8_layFars_171 : decode cX8_layFars 171 = .ok (.aload_n 0, 1) := by decide +kernel
theorem dX8_layFars_172 : decode cX8_layFars 172 = .ok (.getfield 37, 3) := by decide +kernel
theorem dX8_layFars_175 : decode cX8_layFars 175 = .ok (.iload 5, 2) := by decide +kernel
theorem dX8_layFars_177 : decode cX8_layFars 177 = .ok (.iaload, 1) := by decide +kernel
theorem dX8_layFars_178 : decode cX8_layFars 178 = .ok (.iastore, 1) := by decide +kernel
theorem dX8_layFars_179 : decode cX8_layFars 179 = .ok (.iinc 3 1, 3) := by decide +kernel
theorem dX8_layFars_182 : decode cX8_layFars 182 = .ok (.goto (-125), 3) := by decide +kernel
theorem dX8_layFars_185 : decode cX8_layFars 185 = .ok (.iinc 2 1, 3) := by decide +kernel
theorem dX8_layFars_188 : decode cX8_layFars 188 = .ok (.goto (-141), 3) := by decide +kernel
theorem dX8_layFars_191 : decode cX8_layFars 191 = .ok (.iinc 1 1, 3) := by decide +kernel
theorem dX8_layFars_194 : decode cX8_layFars 194 = .ok (.goto (-155), 3) := by decide +kernel
theorem dX8_layFars_197 : decode cX8_layFars 197 = .ok (.return_, 1) := by decide +kernel
theorem dX8_suburb_0 : decode cX8_suburb 0 = .ok (.aload_n 0, 1) := by decide +kernel
theorem dX8_suburb_1 : decode cX8_suburb 1 = .ok (.invokevirtual 127, 3) := by decide +kernel
theorem dX8_suburb_4 : decode cX8_suburb 4 = .ok (.aload_n 0, 1) := by decide +kernel
theorem dX8_suburb_5 : decode cX8_suburb 5 = .ok (.getfield 96, 3) := by decide +kernel
theorem dX8_suburb_8 : decode cX8_suburb 8 = .ok (.if_icmp .lt 38, 3) := by decide +kernel
theorem dX8_suburb_11 : decode cX8_suburb 11 = .ok (.aload_n 0, 1) := by decide +kernel
theorem dX8_suburb_12 : decode cX8_suburb 12 = .ok (.getfield 105, 3) := by decide +kernel
theorem dX8_suburb_15 : decode cX8_suburb 15 = .ok (.ifCond .eq 31, 3) := by decide +kernel
theorem dX8_suburb_18 : decode cX8_suburb 18 = .ok (.aload_n 0, 1) := by decide +kernel
theorem dX8_suburb_19 : decode cX8_suburb 19 = .ok (.getfield 96, 3) := by decide +kernel
theorem dX8_suburb_22 : decode cX8_suburb 22 = .ok (.aload_n 0, 1) := by decide +kernel
theorem dX8_suburb_23 : decode cX8_suburb 23 = .ok (.getfield 105, 3) := by decide +kernel
theorem dX8_suburb_26 : decode cX8_suburb 26 = .ok (.bipush 10, 2) := by decide +kernel
theorem dX8_suburb_28 : decode cX8_suburb 28 = .ok (.iadd, 1) := by decide +kernel
theorem dX8_suburb_29 : decode cX8_suburb 29 = .ok (.if_icmp .lt 17, 3) := by decide +kernel
theorem dX8_suburb_32 : decode cX8_suburb 32 = .ok (.aload_n 0, 1) := by decide +kernel
theorem dX8_suburb_33 : decode cX8_suburb 33 = .ok (.getfield 96, 3) := by decide +kernel
theorem dX8_suburb_36 : decode cX8_suburb 36 = .ok (.aload_n 0, 1) := by decide +kernel
theorem dX8_suburb_37 : decode cX8_suburb 37 = .ok (.getfield 105, 3) := by decide +kernel
theorem dX8_suburb_40 : decode cX8_suburb 40 = .ok (.isub, 1) := by decide +kernel
theorem dX8_suburb_41 : decode cX8_suburb 41 = .ok (.iconst 5, 1) := by decide +kernel
theorem dX8_suburb_42 : decode cX8_suburb 42 = .ok (.irem, 1) := by decide +kernel
theorem dX8_suburb_43 : decode cX8_suburb 43 = .ok (.ifCond .eq 6, 3) := by decide +kernel
theorem dX8_suburb_46 : decode cX8_suburb 46 = .ok (.bipush (-103), 2) := by decide +kernel
theorem dX8_suburb_48 : decode cX8_suburb 48 = .ok (.ireturn, 1) := by decide +kernel
theorem dX8_suburb_49 : decode cX8_suburb 49 = .ok (.aload_n 0, 1) := by decide +kernel
theorem dX8_suburb_50 : decode cX8_suburb 50 = .ok (.aload_n 0, 1) := by decide +kernel
theorem dX8_suburb_51 : decode cX8_suburb 51 = .ok (.getfield 7, 3) := by decide +kernel
theorem dX8_suburb_54 : decode cX8_suburb 54 = .ok (.iconst 0, 1) := by decide +kernel
theorem dX8_suburb_55 : decode cX8_suburb 55 = .ok (.iaload, 1) := by decide +kernel
theorem dX8_suburb_56 : decode cX8_suburb 56 = .ok (.bipush 48, 2) := by decide +kernel
theorem dX8_suburb_58 : decode cX8_suburb 58 = .ok (.isub, 1) := by decide +kernel
theorem dX8_suburb_59 : decode cX8_suburb 59 = .ok (.putfield 134, 3) := by decide +kernel
theorem dX8_suburb_62 : decode cX8_suburb 62 = .ok (.aload_n 0, 1) := by decide +kernel
theorem dX8_suburb_63 : decode cX8_suburb 63 = .ok (.aload_n 0, 1) := by decide +kernel
theorem dX8_suburb_64 : decode cX8_suburb 64 = .ok (.getfield 7, 3) := by decide +kernel
theorem dX8_suburb_67 : decode cX8_suburb 67 = .ok (.iconst 1, 1) := by decide +kernel
theorem dX8_suburb_68 : decode cX8_suburb 68 = .ok (.iaload, 1) := by decide +kernel
theorem dX8_suburb_69 : decode cX8_suburb 69 = .ok (.bipush 48, 2) := by decide +kernel
theorem dX8_suburb_71 : decode cX8_suburb 71 = .ok (.isub, 1) := by decide +kernel
theorem dX8_suburb_72 : decode cX8_suburb 72 = .ok (.putfield 137, 3) := by decide +kernel
theorem dX8_suburb_75 : decode cX8_suburb 75 = .ok (.aload_n 0, 1) := by decide +kernel
theorem dX8_suburb_76 : decode cX8_suburb 76 = .ok (.aload_n 0, 1) := by decide +kernel
theorem dX8_suburb_77 : decode cX8_suburb 77 = .ok (.getfield 105, 3) := by decide +kernel
theorem dX8_suburb_80 : decode cX8_suburb 80 = .ok (.iconst 2, 1) := by decide +kernel
theorem dX8_suburb_81 : decode cX8_suburb 81 = .ok (.isub, 1) := by decide +kernel
theorem dX8_suburb_82 : decode cX8_suburb 82 = .ok (.iconst 3, 1) := by decide +kernel
theorem dX8_suburb_83 : decode cX8_suburb 83 = .ok (.idiv, 1) := by decide +kernel
theorem dX8_suburb_84 : decode cX8_suburb 84 = .ok (.putfield 131, 3) := by decide +kernel
theorem dX8_suburb_87 : decode cX8_suburb 87 = .ok (.aload_n 0, 1) := by decide +kernel
theorem dX8_suburb_88 : decode cX8_suburb 88 = .ok (.aload_n 0, 1) := by decide +kernel
theorem dX8_suburb_89 : decode cX8_suburb 89 = .ok (.getfield 96, 3) := by decide +kernel
theorem dX8_suburb_92 : decode cX8_suburb 92 = .ok (.aload_n 0, 1) := by decide +kernel
theorem dX8_suburb_93 : decode cX8_suburb 93 = .ok (.getfield 105, 3) := by decide +kernel
theorem dX8_suburb_96 : decode cX8_suburb 96 = .ok (.isub, 1) := by decide +kernel
theorem dX8_suburb_97 : decode cX8_suburb 97 = .ok (.iconst 5, 1) := by decide +kernel
theorem dX8_suburb_98 : decode cX8_suburb 98 = .ok (.idiv, 1) := by decide +kernel
theorem dX8_suburb_99 : decode cX8_suburb 99 = .ok (.putfield 140, 3) := by decide +kernel
theorem dX8_suburb_102 : decode cX8_suburb 102 = .ok (.iconst 0, 1) := by decide +kernel
theorem dX8_suburb_103 : decode cX8_suburb 103 = .ok (.istore_n 1, 1) := by decide +kernel
theorem dX8_suburb_104 : decode cX8_suburb 104 = .ok (.iload_n 1, 1) := by decide +kernel
theorem dX8_suburb_105 : decode cX8_suburb 105 = .ok (.aload_n 0, 1) := by decide +kernel
theorem dX8_suburb_106 : decode cX8_suburb 106 = .ok (.getfield 131, 3) := by decide +kernel
theorem dX8_suburb_109 : decode cX8_suburb 109 = .ok (.if_icmp .ge 47, 3) := by decide +kernel
theorem dX8_suburb_112 : decode cX8_suburb 112 = .ok (.aload_n 0, 1) := by decide +kernel
theorem dX8_suburb_113 : decode cX8_suburb 113 = .ok (.getfield 13, 3) := by decide +kernel
theorem dX8_suburb_116 : decode cX8_suburb 116 = .ok (.iload_n 1, 1) := by decide +kernel
theorem dX8_suburb_117 : decode cX8_suburb 117 = .ok (.aload_n 0, 1) := by decide +kernel
theorem dX8_suburb_118 : decode cX8_suburb 118 = .ok (.getfield 7, 3) := by decide +kernel
theorem dX8_suburb_121 : decode cX8_suburb 121 = .ok (.iconst 3, 1) := by decide +kernel
theorem dX8_suburb_122 : decode cX8_suburb 122 = .ok (.iconst 3, 1) := by decide +kernel
theorem dX8_suburb_123 : decode cX8_suburb 123 = .ok (.iload_n 1, 1) := by decide +kernel
theorem dX8_suburb_124 : decode cX8_suburb 124 = .ok (.imul, 1) := by decide +kernel
theorem dX8_suburb_125 : decode cX8_suburb 125 = .ok (.iadd, 1) := by decide +kernel
theorem dX8_suburb_126 : decode cX8_suburb 126 = .ok (.iaload, 1) := by decide +kernel
theorem dX8_suburb_127 : decode cX8_suburb 127 = .ok (.bipush 48, 2) := by decide +kernel
theorem dX8_suburb_129 : decode cX8_suburb 129 = .ok (.isub, 1) := by decide +kernel
theorem dX8_suburb_130 : decode cX8_suburb 130 = .ok (.iastore, 1) := by decide +kernel
theorem dX8_suburb_131 : decode cX8_suburb 131 = .ok (.aload_n 0, 1) := by decide +kernel
theorem dX8_suburb_132 : decode cX8_suburb 132 = .ok (.getfield 16, 3) := by decide +kernel
theorem dX8_suburb_135 : decode cX8_suburb 135 = .ok (.iload_n 1, 1) := by decide +kernel
theorem dX8_suburb_136 : decode cX8_suburb 136 = .ok (.aload_n 0, 1) := by decide +kernel
theorem dX8_suburb_137 : decode cX8_suburb 137 = .ok (.getfield 7, 3) := by decide +kernel
theorem dX8_suburb_140 : decode cX8_suburb 140 = .ok (.iconst 4, 1) := by decide +kernel
theorem dX8_suburb_141 : decode cX8_suburb 141 = .ok (.iconst 3, 1) := by decide +kernel
theorem dX8_suburb_142 : decode cX8_suburb 142 = .ok (.iload_n 1, 1) := by decide +kernel
theorem dX8_suburb_143 : decode cX8_suburb 143 = .ok (.imul, 1) := by decide +kernel
theorem dX8_suburb_144 : decode cX8_suburb 144 = .ok (.iadd, 1) := by decide +kernel
theorem dX8_suburb_145 : decode cX8_suburb 145 = .ok (.iaload, 1) := by decide +kernel
theorem dX8_suburb_146 : decode cX8_suburb 146 = .ok (.bipush 48, 2) := by decide +kernel
theorem dX8_suburb_148 : decode cX8_suburb 148 = .ok (.isub, 1) := by decide +kernel
theorem dX8_suburb_149 : decode cX8_suburb 149 = .ok (.iastore, 1) := by decide +kernel
theorem dX8_suburb_150 : decode cX8_suburb 150 = .ok (.iinc 1 1, 3) := by decide +kernel
theorem dX8_suburb_153 : decode cX8_suburb 153 = .ok (.goto (-49), 3) := by decide +kernel
theorem dX8_suburb_156 : decode cX8_suburb 156 = .ok (.iconst 0, 1) := by decide +kernel
theorem dX8_suburb_157 : decode cX8_suburb 157 = .ok (.istore_n 1, 1) := by decide +kernel
theorem dX8_suburb_158 : decode cX8_suburb 158 = .ok (.iload_n 1, 1) := by decide +kernel
theorem dX8_suburb_159 : decode cX8_suburb 159 = .ok (.aload_n 0, 1) := by decide +kernel
theorem dX8_suburb_160 : decode cX8_suburb 160 = .ok (.getfield 140, 3) := by decide +kernel
theorem dX8_suburb_163 : decode cX8_suburb 163 = .ok (.if_icmp .ge 100, 3) := by decide +kernel
theorem dX8_suburb_166 : decode cX8_suburb 166 = .ok (.aload_n 0, 1) := by decide +kernel
theorem dX8_suburb_167 : decode cX8_suburb 167 = .ok (.getfield 105, 3) := by decide +kernel
theorem dX8_suburb_170 : decode cX8_suburb 170 = .ok (.iconst 1, 1) := by decide +kernel
theorem dX8_suburb_171 : decode cX8_suburb 171 = .ok (.iadd, 1) := by decide +kernel
theorem dX8_suburb_172 : decode cX8_suburb 172 = .ok (.iconst 5, 1) := by decide +kernel
theorem dX8_suburb_173 : decode cX8_suburb 173 = .ok (.iload_n 1, 1) := by decide +kernel
theorem dX8_suburb_174 : decode cX8_suburb 174 = .ok (.imul, 1) := by decide +kernel
theorem dX8_suburb_175 : decode cX8_suburb 175 = .ok (.iadd, 1) := by decide +kernel
theorem dX8_suburb_176 : decode cX8_suburb 176 = .ok (.istore_n 2, 1) := by decide +kernel
theorem dX8_suburb_177 : decode cX8_suburb 177 = .ok (.aload_n 0, 1) := by decide +kernel
theorem dX8_suburb_178 : decode cX8_suburb 178 = .ok (.getfield 19, 3) := by decide +kernel
theorem dX8_suburb_181 : decode cX8_suburb 181 = .ok (.iload_n 1, 1) := by decide +kernel
theorem dX8_suburb_182 : decode cX8_suburb 182 = .ok (.aload_n 0, 1) := by decide +kernel
theorem dX8_suburb_183 : decode cX8_suburb 183 = .ok (.getfield 7, 3) := by decide +kernel
theorem dX8_suburb_186 : decode cX8_suburb 186 = .ok (.iload_n 2, 1) := by decide +kernel
theorem dX8_suburb_187 : decode cX8_suburb 187 = .ok (.iaload, 1) := by decide +kernel
theorem dX8_suburb_188 : decode cX8_suburb 188 = .ok (.invokestatic 108, 3) := by decide +kernel
theorem dX8_suburb_191 : decode cX8_suburb 191 = .ok (.iastore, 1) := by decide +kernel
theorem dX8_suburb_192 : decode cX8_suburb 192 = .ok (.aload_n 0, 1) := by decide +kernel
theorem dX8_suburb_193 : decode cX8_suburb 193 = .ok (.getfield 22, 3) := by decide +kernel
theorem dX8_suburb_196 : decode cX8_suburb 196 = .ok (.iload_n 1, 1) := by decide +kernel
theorem dX8_suburb_197 : decode cX8_suburb 197 = .ok (.aload_n 0, 1) := by decide +kernel
theorem dX8_suburb_198 : decode cX8_suburb 198 = .ok (.getfield 7, 3) := by decide +kernel
theorem dX8_suburb_201 : decode cX8_suburb 201 = .ok (.iload_n 2, 1) := by decide +kernel
theorem dX8_suburb_202 : decode cX8_suburb 202 = .ok (.iconst 1, 1) := by decide +kernel
theorem dX8_suburb_203 : decode cX8_suburb 203 = .ok (.iadd, 1) := by decide +kernel
theorem dX8_suburb_204 : decode cX8_suburb 204 = .ok (.iaload, 1) := by decide +kernel
theorem dX8_suburb_205 : decode cX8_suburb 205 = .ok (.bipush 48, 2) := by decide +kernel
theorem dX8_suburb_207 : decode cX8_suburb 207 = .ok (.isub, 1) := by decide +kernel
theorem dX8_suburb_208 : decode cX8_suburb 208 = .ok (.iastore, 1) := by decide +kernel
theorem dX8_suburb_209 : decode cX8_suburb 209 = .ok (.aload_n 0, 1) := by decide +kernel
theorem dX8_suburb_210 : decode cX8_suburb 210 = .ok (.getfield 25, 3) := by decide +kernel
theorem dX8_suburb_213 : decode cX8_suburb 213 = .ok (.iload_n 1, 1) := by decide +kernel
theorem dX8_suburb_214 : decode cX8_suburb 214 = .ok (.aload_n 0, 1) := by decide +kernel
theorem dX8_suburb_215 : decode cX8_suburb 215 = .ok (.getfield 7, 3) := by decide +kernel
theorem dX8_suburb_218 : decode cX8_suburb 218 = .ok (.iload_n 2, 1) := by decide +kernel
theorem dX8_suburb_219 : decode cX8_suburb 219 = .ok (.iconst 2, 1) := by decide +kernel
theorem dX8_suburb_220 : decode cX8_suburb 220 = .ok (.iadd, 1) := by decide +kernel
theorem dX8_suburb_221 : decode cX8_suburb 221 = .ok (.iaload, 1) := by decide +kernel
theorem dX8_suburb_222 : decode cX8_suburb 222 = .ok (.bipush 48, 2) := by decide +kernel
theorem dX8_suburb_224 : decode cX8_suburb 224 = .ok (.isub, 1) := by decide +kernel
theorem dX8_suburb_225 : decode cX8_suburb 225 = .ok (.iastore, 1) := by decide +kernel
theorem dX8_suburb_226 : decode cX8_suburb 226 = .ok (.aload_n 0, 1) := by decide +kernel
theorem dX8_suburb_227 : decode cX8_suburb 227 = .ok (.getfield 28, 3) := by decide +kernel
theorem dX8_suburb_230 : decode cX8_suburb 230 = .ok (.iload_n 1, 1) := by decide +kernel
theorem dX8_suburb_231 : decode cX8_suburb 231 = .ok (.aload_n 0, 1) := by decide +kernel
theorem dX8_suburb_232 : decode cX8_suburb 232 = .ok (.getfield 7, 3) := by decide +kernel
theorem dX8_suburb_235 : decode cX8_suburb 235 = .ok (.iload_n 2, 1) := by decide +kernel
theorem dX8_suburb_236 : decode cX8_suburb 236 = .ok (.iconst 3, 1) := by decide +kernel
theorem dX8_suburb_237 : decode cX8_suburb 237 = .ok (.iadd, 1) := by decide +kernel
theorem dX8_suburb_238 : decode cX8_suburb 238 = .ok (.iaload, 1) := by decide +kernel
theorem dX8_suburb_239 : decode cX8_suburb 239 = .ok (.bipush 48, 2) := by decide +kernel
theorem dX8_suburb_241 : decode cX8_suburb 241 = .ok (.isub, 1) := by decide +kernel
theorem dX8_suburb_242 : decode cX8_suburb 242 = .ok (.iastore, 1) := by decide +kernel
theorem dX8_suburb_243 : decode cX8_suburb 243 = .ok (.aload_n 0, 1) := by decide +kernel
theorem dX8_suburb_244 : decode cX8_suburb 244 = .ok (.getfield 31, 3) := by decide +kernel
theorem dX8_suburb_247 : decode cX8_suburb 247 = .ok (.iload_n 1, 1) := by decide +kernel
theorem dX8_suburb_248 : decode cX8_suburb 248 = .ok (.iconst 0, 1) := by decide +kernel
theorem dX8_suburb_249 : decode cX8_suburb 249 = .ok (.iastore, 1) := by decide +kernel
theorem dX8_suburb_250 : decode cX8_suburb 250 = .ok (.aload_n 0, 1) := by decide +kernel
theorem dX8_suburb_251 : decode cX8_suburb 251 = .ok (.getfield 34, 3) := by decide +kernel
theorem dX8_suburb_254 : decode cX8_suburb 254 = .ok (.iload_n 1, 1) := by decide +kernel
theorem dX8_suburb_255 : decode cX8_suburb 255 = .ok (.iconst 0, 1) := by decide +kernel
theorem dX8_suburb_256 : decode cX8_suburb 256 = .ok (.iastore, 1) := by decide +kernel
theorem dX8_suburb_257 : decode cX8_suburb 257 = .ok (.iinc 1 1, 3) := by decide +kernel
theorem dX8_suburb_260 : decode cX8_suburb 260 = .ok (.goto (-102), 3) := by decide +kernel
theorem dX8_suburb_263 : decode cX8_suburb 263 = .ok (.aload_n 0, 1) := by decide +kernel
theorem dX8_suburb_264 : decode cX8_suburb 264 = .ok (.invokevirtual 143, 3) := by decide +kernel
theorem dX8_suburb_267 : decode cX8_suburb 267 = .ok (.aload_n 0, 1) := by decide +kernel
theorem dX8_suburb_268 : decode cX8_suburb 268 = .ok (.iconst 0, 1) := by decide +kernel
theorem dX8_suburb_269 : decode cX8_suburb 269 = .ok (.putfield 146, 3) := by decide +kernel
theorem dX8_suburb_272 : decode cX8_suburb 272 = .ok (.aload_n 0, 1) := by decide +kernel
theorem dX8_suburb_273 : decode cX8_suburb 273 = .ok (.iconst 0, 1) := by decide +kernel
theorem dX8_suburb_274 : decode cX8_suburb 274 = .ok (.putfield 149, 3) := by decide +kernel
theorem dX8_suburb_277 : decode cX8_suburb 277 = .ok (.aload_n 0, 1) := by decide +kernel
theorem dX8_suburb_278 : decode cX8_suburb 278 = .ok (.dup, 1) := by decide +kernel
theorem dX8_suburb_279 : decode cX8_suburb 279 = .ok (.getfield 152, 3) := by decide +kernel
theorem dX8_suburb_282 : decode cX8_suburb 282 = .ok (.iconst 1, 1) := by decide +kernel
theorem dX8_suburb_283 : decode cX8_suburb 283 = .ok (.iadd, 1) := by decide +kernel
theorem dX8_suburb_284 : decode cX8_suburb 284 = .ok (.putfield 152, 3) := by decide +kernel
theorem dX8_suburb_287 : decode cX8_suburb 287 = .ok (.aload_n 0, 1) := by decide +kernel
theorem dX8_suburb_288 : decode cX8_suburb 288 = .ok (.iconst 0, 1) := by decide +kernel
theorem dX8_suburb_289 : decode cX8_suburb 289 = .ok (.putfield 96, 3) := by decide +kernel
theorem dX8_suburb_292 : decode cX8_suburb 292 = .ok (.aload_n 0, 1) := by decide +kernel
theorem dX8_suburb_293 : decode cX8_suburb 293 = .ok (.getfield 140, 3) := by decide +kernel
theorem dX8_suburb_296 : decode cX8_suburb 296 = .ok (.ireturn, 1) := by decide +kernel
theorem dX8_lacks_0 : decode cX8_lacks 0 = .ok (.aload_n 0, 1) := by decide +kernel
theorem dX8_lacks_1 : decode cX8_lacks 1 = .ok (.getfield 140, 3) := by decide +kernel
theorem dX8_lacks_4 : decode cX8_lacks 4 = .ok (.ifCond .ne 7, 3) := by decide +kernel
theorem dX8_lacks_7 : decode cX8_lacks 7 = .ok (.iconst 1, 1) := by decide +kernel
theorem dX8_lacks_8 : decode cX8_lacks 8 = .ok (.goto 4, 3) := by decide +kernel
theorem dX8_lacks_11 : decode cX8_lacks 11 = .ok (.iconst 0, 1) := by decide +kernel
theorem dX8_lacks_12 : decode cX8_lacks 12 = .ok (.ireturn, 1) := by decide +kernel
theorem dX8_isPerson_0 : decode cX8_isPerson 0 = .ok (.iload_n 1, 1) := by decide +kernel
theorem dX8_isPerson_1 : decode cX8_isPerson 1 = .ok (.i2l, 1) := by decide +kernel
theorem dX8_isPerson_2 : decode cX8_isPerson 2 = .ok (.lconst 0, 1) := by decide +kernel
theorem dX8_isPerson_3 : decode cX8_isPerson 3 = .ok (.aload_n 0, 1) := by decide +kernel
theorem dX8_isPerson_4 : decode cX8_isPerson 4 = .ok (.getfield 140, 3) := by decide +kernel
theorem dX8_isPerson_7 : decode cX8_isPerson 7 = .ok (.iconst 1, 1) := by decide +kernel
theorem dX8_isPerson_8 : decode cX8_isPerson 8 = .ok (.isub, 1) := by decide +kernel
theorem dX8_isPerson_9 : decode cX8_isPerson 9 = .ok (.i2l, 1) := by decide +kernel
theorem dX8_isPerson_10 : decode cX8_isPerson 10 = .ok (.invokestatic 92, 3) := by decide +kernel
theorem dX8_isPerson_13 : decode cX8_isPerson 13 = .ok (.ireturn, 1) := by decide +kernel
theorem dX8_isCorner_0 : decode cX8_isCorner 0 = .ok (.iload_n 1, 1) := by decide +kernel
theorem dX8_isCorner_1 : decode cX8_isCorner 1 = .ok (.i2l, 1) := by decide +kernel
theorem dX8_isCorner_2 : decode cX8_isCorner 2 = .ok (.lconst 0, 1) := by decide +kernel
theorem dX8_isCorner_3 : decode cX8_isCorner 3 = .ok (.aload_n 0, 1) := by decide +kernel
theorem dX8_isCorner_4 : decode cX8_isCorner 4 = .ok (.getfield 134, 3) := by decide +kernel
theorem dX8_isCorner_7 : decode cX8_isCorner 7 = .ok (.iconst 1, 1) := by decide +kernel
theorem dX8_isCorner_8 : decode cX8_isCorner 8 = .ok (.isub, 1) := by decide +kernel
theorem dX8_isCorner_9 : decode cX8_isCorner 9 = .ok (.i2l, 1) := by decide +kernel
theorem dX8_isCorner_10 : decode cX8_isCorner 10 = .ok (.invokestatic 92, 3) := by decide +kernel
theorem dX8_isCorner_13 : decode cX8_isCorner 13 = .ok (.ireturn, 1) := by decide +kernel
theorem dX8_isNext_0 : decode cX8_isNext 0 = .ok (.aload_n 0, 1) := by decide +kernel
theorem dX8_isNext_1 : decode cX8_isNext 1 = .ok (.getfield 37, 3) := by decide +kernel
theorem dX8_isNext_4 : decode cX8_isNext 4 = .ok (.bipush 6, 2) := by decide +kernel
theorem dX8_isNext_6 : decode cX8_isNext 6 = .ok (.iload_n 1, 1) := by decide +kernel
theorem dX8_isNext_7 : decode cX8_isNext 7 = .ok (.imul, 1) := by decide +kernel
theorem dX8_isNext_8 : decode cX8_isNext 8 = .ok (.iload_n 2, 1) := by decide +kernel
theorem dX8_isNext_9 : decode cX8_isNext 9 = .ok (.iadd, 1) := by decide +kernel
theorem dX8_isNext_10 : decode cX8_isNext 10 = .ok (.iaload, 1) := by decide +kernel
theorem dX8_isNext_11 : decode cX8_isNext 11 = .ok (.iconst 2, 1) := by decide +kernel
theorem dX8_isNext_12 : decode cX8_isNext 12 = .ok (.if_icmp .ge 7, 3) := by decide +kernel
theorem dX8_isNext_15 : decode cX8_isNext 15 = .ok (.iconst 1, 1) := by decide +kernel
theorem dX8_isNext_16 : decode cX8_isNext 16 = .ok (.goto 4, 3) := by decide +kernel
theorem dX8_isNext_19 : decode cX8_isNext 19 = .ok (.iconst 0, 1) := by decide +kernel
theorem dX8_isNext_20 : decode cX8_isNext 20 = .ok (.ireturn, 1) := by decide +kernel
theorem dX8_needs_0 : decode cX8_needs 0 = .ok (.iload_n 0, 1) := by decide +kernel
theorem dX8_needs_1 : decode cX8_needs 1 = .ok (.iconst 4, 1) := by decide +kernel
theorem dX8_needs_2 : decode cX8_needs 2 = .ok (.if_icmp .ne 7, 3) := by decide +kernel
theorem dX8_needs_5 : decode cX8_needs 5 = .ok (.iconst 3, 1) := by decide +kernel
theorem dX8_needs_6 : decode cX8_needs 6 = .ok (.goto 18, 3) := by decide +kernel
theorem dX8_needs_9 : decode cX8_needs 9 = .ok (.iload_n 0, 1) := by decide +kernel
theorem dX8_needs_10 : decode cX8_needs 10 = .ok (.iconst 1, 1) := by decide +kernel
theorem dX8_needs_11 : decode cX8_needs 11 = .ok (.if_icmp .eq 8, 3) := by decide +kernel
theorem dX8_needs_14 : decode cX8_needs 14 = .ok (.iload_n 0, 1) := by decide +kernel
theorem dX8_needs_15 : decode cX8_needs 15 = .ok (.iconst 3, 1) := by decide +kernel
theorem dX8_needs_16 : decode cX8_needs 16 = .ok (.if_icmp .ne 7, 3) := by decide +kernel
theorem dX8_needs_19 : decode cX8_needs 19 = .ok (.iconst 2, 1) := by decide +kernel
theorem dX8_needs_20 : decode cX8_needs 20 = .ok (.goto 4, 3) := by decide +kernel
theorem dX8_needs_23 : decode cX8_needs 23 = .ok (.iconst 1, 1) := by decide +kernel
theorem dX8_needs_24 : decode cX8_needs 24 = .ok (.ireturn, 1) := by decide +kernel
theorem dX8_begin_0 : decode cX8_begin 0 = .ok (.aload_n 0, 1) := by decide +kernel
theorem dX8_begin_1 : decode cX8_begin 1 = .ok (.getfield 31, 3) := by decide +kernel
theorem dX8_begin_4 : decode cX8_begin 4 = .ok (.aload_n 0, 1) := by decide +kernel
theorem dX8_begin_5 : decode cX8_begin 5 = .ok (.getfield 40, 3) := by decide +kernel
theorem dX8_begin_8 : decode cX8_begin 8 = .ok (.invokestatic 155, 3) := by decide +kernel
theorem dX8_begin_11 : decode cX8_begin 11 = .ok (.aload_n 0, 1) := by decide +kernel
theorem dX8_begin_12 : decode cX8_begin 12 = .ok (.getfield 34, 3) := by decide +kernel
theorem dX8_begin_15 : decode cX8_begin 15 = .ok (.aload_n 0, 1) := by decide +kernel
theorem dX8_begin_16 : decode cX8_begin 16 = .ok (.getfield 43, 3) := by decide +kernel
theorem dX8_begin_19 : decode cX8_begin 19 = .ok (.invokestatic 155, 3) := by decide +kernel
theorem dX8_begin_22 : decode cX8_begin 22 = .ok (.return_, 1) := by decide +kernel
theorem dX8_isTime_0 : decode cX8_isTime 0 = .ok (.iload_n 2, 1) := by decide +kernel
theorem dX8_isTime_1 : decode cX8_isTime 1 = .ok (.aload_n 0, 1) := by decide +kernel
theorem dX8_isTime_2 : decode cX8_isTime 2 = .ok (.getfield 25, 3) := by decide +kernel
theorem dX8_isTime_5 : decode cX8_isTime 5 = .ok (.iload_n 1, 1) := by decide +kernel
theorem dX8_isTime_6 : decode cX8_isTime 6 = .ok (.iaload, 1) := by decide +kernel
theorem dX8_isTime_7 : decode cX8_isTime 7 = .ok (.if_icmp .lt 24, 3) := by decide +kernel
theorem dX8_isTime_10 : decode cX8_isTime 10 = .ok (.aload_n 0, 1) := by decide +kernel
theorem dX8_isTime_11 : decode cX8_isTime 11 = .ok (.getfield 19, 3) := by decide +kernel
theorem dX8_isTime_14 : decode cX8_isTime 14 = .ok (.iload_n 1, 1) := by decide +kernel
theorem dX8_isTime_15 : decode cX8_isTime 15 = .ok (.iaload, 1) := by decide +kernel
theorem dX8_isTime_16 : decode cX8_isTime 16 = .ok (.iconst 2, 1) := by decide +kernel
theorem dX8_isTime_17 : decode cX8_isTime 17 = .ok (.if_icmp .ne 10, 3) := by decide +kernel
theorem dX8_isTime_20 : decode cX8_isTime 20 = .ok (.iload_n 2, 1) := by decide +kernel
theorem dX8_isTime_21 : decode cX8_isTime 21 = .ok (.iconst 2, 1) := by decide +kernel
theorem dX8_isTime_22 : decode cX8_isTime 22 = .ok (.irem, 1) := by decide +kernel
theorem dX8_isTime_23 : decode cX8_isTime 23 = .ok (.iconst 1, 1) := by decide +kernel
theorem dX8_isTime_24 : decode cX8_isTime 24 = .ok (.if_icmp .ne 7, 3) := by decide +kernel
theorem dX8_isTime_27 : decode cX8_isTime 27 = .ok (.iconst 1, 1) := by decide +kernel
theorem dX8_isTime_28 : decode cX8_isTime 28 = .ok (.goto 4, 3) := by decide +kernel
theorem dX8_isTime_31 : decode cX8_isTime 31 = .ok (.iconst 0, 1) := by decide +kernel
theorem dX8_isTime_32 : decode cX8_isTime 32 = .ok (.ireturn, 1) := by decide +kernel
theorem dX8_goThen_0 : decode cX8_goThen 0 = .ok (.iconst 0, 1) := by decide +kernel
theorem dX8_goThen_1 : decode cX8_goThen 1 = .ok (.istore_n 3, 1) := by decide +kernel
theorem dX8_goThen_2 : decode cX8_goThen 2 = .ok (.iconst 0, 1) := by decide +kernel
theorem dX8_goThen_3 : decode cX8_goThen 3 = .ok (.istore 4, 2) := by decide +kernel
theorem dX8_goThen_5 : decode cX8_goThen 5 = .ok (.iload 4, 2) := by decide +kernel
theorem dX8_goThen_7 : decode cX8_goThen 7 = .ok (.aload_n 0, 1) := by decide +kernel
theorem dX8_goThen_8 : decode cX8_goThen 8 = .ok (.getfield 140, 3) := by decide +kernel
theorem dX8_goThen_11 : decode cX8_goThen 11 = .ok (.if_icmp .ge 135, 3) := by decide +kernel
theorem dX8_goThen_14 : decode cX8_goThen 14 = .ok (.aload_n 0, 1) := by decide +kernel
theorem dX8_goThen_15 : decode cX8_goThen 15 = .ok (.getfield 22, 3) := by decide +kernel
theorem dX8_goThen_18 : decode cX8_goThen 18 = .ok (.iload 4, 2) := by decide +kernel
theorem dX8_goThen_20 : decode cX8_goThen 20 = .ok (.iaload, 1) := by decide +kernel
theorem dX8_goThen_21 : decode cX8_goThen 21 = .ok (.iload_n 1, 1) := by decide +kernel
theorem dX8_goThen_22 : decode cX8_goThen 22 = .ok (.if_icmp .eq 45, 3) := by decide +kernel
theorem dX8_goThen_25 : decode cX8_goThen 25 = .ok (.aload_n 0, 1) := by decide +kernel
theorem dX8_goThen_26 : decode cX8_goThen 26 = .ok (.getfield 40, 3) := by decide +kernel
theorem dX8_goThen_29 : decode cX8_goThen 29 = .ok (.iload 4, 2) := by decide +kernel
theorem dX8_goThen_31 : decode cX8_goThen 31 = .ok (.aload_n 0, 1) := by decide +kernel
theorem dX8_goThen_32 : decode cX8_goThen 32 = .ok (.getfield 19, 3) := by decide +kernel
theorem dX8_goThen_35 : decode cX8_goThen 35 = .ok (.iload 4, 2) := by decide +kernel
theorem dX8_goThen_37 : decode cX8_goThen 37 = .ok (.iaload, 1) := by decide +kernel
theorem dX8_goThen_38 : decode cX8_goThen 38 = .ok (.iconst 3, 1) := by decide +kernel
theorem dX8_goThen_39 : decode cX8_goThen 39 = .ok (.if_icmp .ne 17, 3) := by decide +kernel
theorem dX8_goThen_42 : decode cX8_goThen 42 = .ok (.aload_n 0, 1) := by decide +kernel
theorem dX8_goThen_43 : decode cX8_goThen 43 = .ok (.getfield 43, 3) := by decide +kernel
theorem dX8_goThen_46 : decode cX8_goThen 46 = .ok (.iload 4, 2) := by decide +kernel
theorem dX8_goThen_48 : decode cX8_goThen 48 = .ok (.iaload, 1) := by decide +kernel
theorem dX8_goThen_49 : decode cX8_goThen 49 = .ok (.ifCond .ne 7, 3) := by decide +kernel
theorem dX8_goThen_52 : decode cX8_goThen 52 = .ok (.iconst 0, 1) := by decide +kernel
theorem dX8_goThen_53 : decode cX8_goThen 53 = .ok (.goto 10, 3) := by decide +kernel
theorem dX8_goThen_56 : decode cX8_goThen 56 = .ok (.aload_n 0, 1) := by decide +kernel
theorem dX8_goThen_57 : decode cX8_goThen 57 = .ok (.getfield 40, 3) := by decide +kernel
theorem dX8_goThen_60 : decode cX8_goThen 60 = .ok (.iload 4, 2) := by decide +kernel
theorem dX8_goThen_62 : decode cX8_goThen 62 = .ok (.iaload, 1) := by decide +kernel
theorem dX8_goThen_63 : decode cX8_goThen 63 = .ok (.iastore, 1) := by decide +kernel
theorem dX8_goThen_64 : decode cX8_goThen 64 = .ok (.goto 76, 3) := by decide +kernel
theorem dX8_goThen_67 : decode cX8_goThen 67 = .ok (.aload_n 0, 1) := by decide +kernel
theorem dX8_goThen_68 : decode cX8_goThen 68 = .ok (.getfield 43, 3) := by decide +kernel
theorem dX8_goThen_71 : decode cX8_goThen 71 = .ok (.iload 4, 2) := by decide +kernel
theorem dX8_goThen_73 : decode cX8_goThen 73 = .ok (.iaload, 1) := by decide +kernel
theorem dX8_goThen_74 : decode cX8_goThen 74 = .ok (.ifCond .ne 66, 3) := by decide +kernel
theorem dX8_goThen_77 : decode cX8_goThen 77 = .ok (.aload_n 0, 1) := by decide +kernel
theorem dX8_goThen_78 : decode cX8_goThen 78 = .ok (.iload 4, 2) := by decide +kernel
theorem dX8_goThen_80 : decode cX8_goThen 80 = .ok (.iload_n 2, 1) := by decide +kernel
theorem dX8_goThen_81 : decode cX8_goThen 81 = .ok (.invokevirtual 159, 3) := by decide +kernel
theorem dX8_goThen_84 : decode cX8_goThen 84 = .ok (.ifCond .eq 56, 3) := by decide +kernel
theorem dX8_goThen_87 : decode cX8_goThen 87 = .ok (.aload_n 0, 1) := by decide +kernel
theorem dX8_goThen_88 : decode cX8_goThen 88 = .ok (.getfield 40, 3) := by decide +kernel
theorem dX8_goThen_91 : decode cX8_goThen 91 = .ok (.iload 4, 2) := by decide +kernel
theorem dX8_goThen_93 : decode cX8_goThen 93 = .ok (.dup2, 1) := by decide +kernel
theorem dX8_goThen_94 : decode cX8_goThen 94 = .ok (.iaload, 1) := by decide +kernel
theorem dX8_goThen_95 : decode cX8_goThen 95 = .ok (.iconst 1, 1) := by decide +kernel
theorem dX8_goThen_96 : decode cX8_goThen 96 = .ok (.iadd, 1) := by decide +kernel
theorem dX8_goThen_97 : decode cX8_goThen 97 = .ok (.iastore, 1) := by decide +kernel
theorem dX8_goThen_98 : decode cX8_goThen 98 = .ok (.aload_n 0, 1) := by decide +kernel
theorem dX8_goThen_99 : decode cX8_goThen 99 = .ok (.getfield 43, 3) := by decide +kernel
theorem dX8_goThen_102 : decode cX8_goThen 102 = .ok (.iload 4, 2) := by decide +kernel
theorem dX8_goThen_104 : decode cX8_goThen 104 = .ok (.aload_n 0, 1) := by decide +kernel
theorem dX8_goThen_105 : decode cX8_goThen 105 = .ok (.getfield 40, 3) := by decide +kernel
theorem dX8_goThen_108 : decode cX8_goThen 108 = .ok (.iload 4, 2) := by decide +kernel
theorem dX8_goThen_110 : decode cX8_goThen 110 = .ok (.iaload, 1) := by decide +kernel
theorem dX8_goThen_111 : decode cX8_goThen 111 = .ok (.aload_n 0, 1) := by decide +kernel
theorem dX8_goThen_112 : decode cX8_goThen 112 = .ok (.getfield 19, 3) := by decide +kernel
theorem dX8_goThen_115 : decode cX8_goThen 115 = .ok (.iload 4, 2) := by decide +kernel
theorem dX8_goThen_117 : decode cX8_goThen 117 = .ok (.iaload, 1) := by decide +kernel
theorem dX8_goThen_118 : decode cX8_goThen 118 = .ok (.invokestatic 163, 3) := by decide +kernel
theorem dX8_goThen_121 : decode cX8_goThen 121 = .ok (.if_icmp .lt 7, 3) := by decide +kernel
theorem dX8_goThen_124 : decode cX8_goThen 124 = .ok (.iconst 1, 1) := by decide +kernel
theorem dX8_goThen_125 : decode cX8_goThen 125 = .ok (.goto 4, 3) := by decide +kernel
theorem dX8_goThen_128 : decode cX8_goThen 128 = .ok (.iconst 0, 1) := by decide +kernel
theorem dX8_goThen_129 : decode cX8_goThen 129 = .ok (.iastore, 1) := by decide +kernel
theorem dX8_goThen_130 : decode cX8_goThen 130 = .ok (.iload_n 3, 1) := by decide +kernel
theorem dX8_goThen_131 : decode cX8_goThen 131 = .ok (.aload_n 0, 1) := by decide +kernel
theorem dX8_goThen_132 : decode cX8_goThen 132 = .ok (.getfield 43, 3) := by decide +kernel
theorem dX8_goThen_135 : decode cX8_goThen 135 = .ok (.iload 4, 2) := by decide +kernel
theorem dX8_goThen_137 : decode cX8_goThen 137 = .ok (.iaload, 1) := by decide +kernel
theorem dX8_goThen_138 : decode cX8_goThen 138 = .ok (.iadd, 1) := by decide +kernel
theorem dX8_goThen_139 : decode cX8_goThen 139 = .ok (.istore_n 3, 1) := by decide +kernel
theorem dX8_goThen_140 : decode cX8_goThen 140 = .ok (.iinc 4 1, 3) := by decide +kernel
theorem dX8_goThen_143 : decode cX8_goThen 143 = .ok (.goto (-138), 3) := by decide +kernel
theorem dX8_goThen_146 : decode cX8_goThen 146 = .ok (.iload_n 3, 1) := by decide +kernel
theorem dX8_goThen_147 : decode cX8_goThen 147 = .ok (.ireturn, 1) := by decide +kernel
theorem dX8_hears_0 : decode cX8_hears 0 = .ok (.aload_n 0, 1) := by decide +kernel
theorem dX8_hears_1 : decode cX8_hears 1 = .ok (.getfield 37, 3) := by decide +kernel
theorem dX8_hears_4 : decode cX8_hears 4 = .ok (.bipush 6, 2) := by decide +kernel
theorem dX8_hears_6 : decode cX8_hears 6 = .ok (.aload_n 0, 1) := by decide +kernel
theorem dX8_hears_7 : decode cX8_hears 7 = .ok (.getfield 22, 3) := by decide +kernel
theorem dX8_hears_10 : decode cX8_hears 10 = .ok (.iload_n 1, 1) := by decide +kernel
theorem dX8_hears_11 : decode cX8_hears 11 = .ok (.iaload, 1) := by decide +kernel
theorem dX8_hears_12 : decode cX8_hears 12 = .ok (.imul, 1) := by decide +kernel
theorem dX8_hears_13 : decode cX8_hears 13 = .ok (.aload_n 0, 1) := by decide +kernel
theorem dX8_hears_14 : decode cX8_hears 14 = .ok (.getfield 137, 3) := by decide +kernel
theorem dX8_hears_17 : decode cX8_hears 17 = .ok (.iadd, 1) := by decide +kernel
theorem dX8_hears_18 : decode cX8_hears 18 = .ok (.iaload, 1) := by decide +kernel
theorem dX8_hears_19 : decode cX8_hears 19 = .ok (.aload_n 0, 1) := by decide +kernel
theorem dX8_hears_20 : decode cX8_hears 20 = .ok (.getfield 28, 3) := by decide +kernel
theorem dX8_hears_23 : decode cX8_hears 23 = .ok (.iload_n 1, 1) := by decide +kernel
theorem dX8_hears_24 : decode cX8_hears 24 = .ok (.iaload, 1) := by decide +kernel
theorem dX8_hears_25 : decode cX8_hears 25 = .ok (.if_icmp .gt 7, 3) := by decide +kernel
theorem dX8_hears_28 : decode cX8_hears 28 = .ok (.iconst 1, 1) := by decide +kernel
theorem dX8_hears_29 : decode cX8_hears 29 = .ok (.goto 4, 3) := by decide +kernel
theorem dX8_hears_32 : decode cX8_hears 32 = .ok (.iconst 0, 1) := by decide +kernel
theorem dX8_hears_33 : decode cX8_hears 33 = .ok (.ireturn, 1) := by decide +kernel
theorem dX8_soonOf_0 : decode cX8_soonOf 0 = .ok (.aload_n 0, 1) := by decide +kernel
theorem dX8_soonOf_1 : decode cX8_soonOf 1 = .ok (.getfield 34, 3) := by decide +kernel
theorem dX8_soonOf_4 : decode cX8_soonOf 4 = .ok (.iload_n 1, 1) := by decide +kernel
theorem dX8_soonOf_5 : decode cX8_soonOf 5 = .ok (.iaload, 1) := by decide +kernel
theorem dX8_soonOf_6 : decode cX8_soonOf 6 = .ok (.iconst 1, 1) := by decide +kernel
theorem dX8_soonOf_7 : decode cX8_soonOf 7 = .ok (.if_icmp .ne 5, 3) := by decide +kernel
theorem dX8_soonOf_10 : decode cX8_soonOf 10 = .ok (.iconst 0, 1) := by decide +kernel
theorem dX8_soonOf_11 : decode cX8_soonOf 11 = .ok (.ireturn, 1) := by decide +kernel
theorem dX8_soonOf_12 : decode cX8_soonOf 12 = .ok (.iconst 0, 1) := by decide +kernel
theorem dX8_soonOf_13 : decode cX8_soonOf 13 = .ok (.istore_n 2, 1) := by decide +kernel
theorem dX8_soonOf_14 : decode cX8_soonOf 14 = .ok (.iload_n 2, 1) := by decide +kernel
theorem dX8_soonOf_15 : decode cX8_soonOf 15 = .ok (.bipush 24, 2) := by decide +kernel
theorem dX8_soonOf_17 : decode cX8_soonOf 17 = .ok (.if_icmp .ge 37, 3) := by decide +kernel
theorem dX8_soonOf_20 : decode cX8_soonOf 20 = .ok (.aload_n 0, 1) := by decide +kernel
theorem dX8_soonOf_21 : decode cX8_soonOf 21 = .ok (.getfield 46, 3) := by decide +kernel
theorem dX8_soonOf_24 : decode cX8_soonOf 24 = .ok (.iload_n 2, 1) := by decide +kernel
theorem dX8_soonOf_25 : decode cX8_soonOf 25 = .ok (.iload_n 2, 1) := by decide +kernel
theorem dX8_soonOf_26 : decode cX8_soonOf 26 = .ok (.iconst 4, 1) := by decide +kernel
theorem dX8_soonOf_27 : decode cX8_soonOf 27 = .ok (.aload_n 0, 1) := by decide +kernel
theorem dX8_soonOf_28 : decode cX8_soonOf 28 = .ok (.getfield 137, 3) := by decide +kernel
theorem dX8_soonOf_31 : decode cX8_soonOf 31 = .ok (.imul, 1) := by decide +kernel
theorem dX8_soonOf_32 : decode cX8_soonOf 32 = .ok (.aload_n 0, 1) := by decide +kernel
theorem dX8_soonOf_33 : decode cX8_soonOf 33 = .ok (.getfield 31, 3) := by decide +kernel
theorem dX8_soonOf_36 : decode cX8_soonOf 36 = .ok (.iload_n 1, 1) := by decide +kernel
theorem dX8_soonOf_37 : decode cX8_soonOf 37 = .ok (.iaload, 1) := by decide +kernel
theorem dX8_soonOf_38 : decode cX8_soonOf 38 = .ok (.iadd, 1) := by decide +kernel
theorem dX8_soonOf_39 : decode cX8_soonOf 39 = .ok (.if_icmp .ne 7, 3) := by decide +kernel
theorem dX8_soonOf_42 : decode cX8_soonOf 42 = .ok (.iconst 1, 1) := by decide +kernel
theorem dX8_soonOf_43 : decode cX8_soonOf 43 = .ok (.goto 4, 3) := by decide +kernel
theorem dX8_soonOf_46 : decode cX8_soonOf 46 = .ok (.iconst 0, 1) := by decide +kernel
theorem dX8_soonOf_47 : decode cX8_soonOf 47 = .ok (.iastore, 1) := by decide +kernel
theorem dX8_soonOf_48 : decode cX8_soonOf 48 = .ok (.iinc 2 1, 3) := by decide +kernel
theorem dX8_soonOf_51 : decode cX8_soonOf 51 = .ok (.goto (-37), 3) := by decide +kernel
theorem dX8_soonOf_54 : decode cX8_soonOf 54 = .ok (.iconst 1, 1) := by decide +kernel
theorem dX8_soonOf_55 : decode cX8_soonOf 55 = .ok (.istore_n 2, 1) := by decide +kernel
theorem dX8_soonOf_56 : decode cX8_soonOf 56 = .ok (.iload_n 2, 1) := by decide +kernel
theorem dX8_soonOf_57 : decode cX8_soonOf 57 = .ok (.bipush 41, 2) := by decide +kernel
theorem dX8_soonOf_59 : decode cX8_soonOf 59 = .ok (.if_icmp .ge 188, 3) := by decide +kernel
theorem dX8_soonOf_62 : decode cX8_soonOf 62 = .ok (.iconst 0, 1) := by decide +kernel
theorem dX8_soonOf_63 : decode cX8_soonOf 63 = .ok (.istore_n 3, 1) := by decide +kernel
theorem dX8_soonOf_64 : decode cX8_soonOf 64 = .ok (.iload_n 3, 1) := by decide +kernel
theorem dX8_soonOf_65 : decode cX8_soonOf 65 = .ok (.bipush 24, 2) := by decide +kernel
theorem dX8_soonOf_67 : decode cX8_soonOf 67 = .ok (.if_icmp .ge 16, 3) := by decide +kernel
theorem dX8_soonOf_70 : decode cX8_soonOf 70 = .ok (.aload_n 0, 1) := by decide +kernel
theorem dX8_soonOf_71 : decode cX8_soonOf 71 = .ok (.getfield 49, 3) := by decide +kernel
theorem dX8_soonOf_74 : decode cX8_soonOf 74 = .ok (.iload_n 3, 1) := by decide +kernel
theorem dX8_soonOf_75 : decode cX8_soonOf 75 = .ok (.iconst 0, 1) := by decide +kernel
theorem dX8_soonOf_76 : decode cX8_soonOf 76 = .ok (.iastore, 1) := by decide +kernel
theorem dX8_soonOf_77 : decode cX8_soonOf 77 = .ok (.iinc 3 1, 3) := by decide +kernel
theorem dX8_soonOf_80 : decode cX8_soonOf 80 = .ok (.goto (-16), 3) := by decide +kernel
theorem dX8_soonOf_83 : decode cX8_soonOf 83 = .ok (.iconst 0, 1) := by decide +kernel
theorem dX8_soonOf_84 : decode cX8_soonOf 84 = .ok (.istore_n 3, 1) := by decide +kernel
theorem dX8_soonOf_85 : decode cX8_soonOf 85 = .ok (.iload_n 3, 1) := by decide +kernel
theorem dX8_soonOf_86 : decode cX8_soonOf 86 = .ok (.iconst 4, 1) := by decide +kernel
theorem dX8_soonOf_87 : decode cX8_soonOf 87 = .ok (.aload_n 0, 1) := by decide +kernel
theorem dX8_soonOf_88 : decode cX8_soonOf 88 = .ok (.getfield 134, 3) := by decide +kernel
theorem dX8_soonOf_91 : decode cX8_soonOf 91 = .ok (.imul, 1) := by decide +kernel
theorem dX8_soonOf_92 : decode cX8_soonOf 92 = .ok (.if_icmp .ge 138, 3) := by decide +kernel
theorem dX8_soonOf_95 : decode cX8_soonOf 95 = .ok (.iconst 0, 1) := by decide +kernel
theorem dX8_soonOf_96 : decode cX8_soonOf 96 = .ok (.istore 4, 2) := by decide +kernel
theorem dX8_soonOf_98 : decode cX8_soonOf 98 = .ok (.iload 4, 2) := by decide +kernel
theorem dX8_soonOf_100 : decode cX8_soonOf 100 = .ok (.aload_n 0, 1) := by decide +kernel
theorem dX8_soonOf_101 : decode cX8_soonOf 101 = .ok (.getfield 134, 3) := by decide +kernel
theorem dX8_soonOf_104 : decode cX8_soonOf 104 = .ok (.if_icmp .ge 120, 3) := by decide +kernel
theorem dX8_soonOf_107 : decode cX8_soonOf 107 = .ok (.aload_n 0, 1) := by decide +kernel
theorem dX8_soonOf_108 : decode cX8_soonOf 108 = .ok (.getfield 46, 3) := by decide +kernel
theorem dX8_soonOf_111 : decode cX8_soonOf 111 = .ok (.iload_n 3, 1) := by decide +kernel
theorem dX8_soonOf_112 : decode cX8_soonOf 112 = .ok (.iaload, 1) := by decide +kernel
theorem dX8_soonOf_113 : decode cX8_soonOf 113 = .ok (.iconst 1, 1) := by decide +kernel
theorem dX8_soonOf_114 : decode cX8_soonOf 114 = .ok (.if_icmp .ne 110, 3) := by decide +kernel
theorem dX8_soonOf_117 : decode cX8_soonOf 117 = .ok (.aload_n 0, 1) := by decide +kernel
theorem dX8_soonOf_118 : decode cX8_soonOf 118 = .ok (.iload_n 3, 1) := by decide +kernel
theorem dX8_soonOf_119 : decode cX8_soonOf 119 = .ok (.iconst 4, 1) := by decide +kernel
theorem dX8_soonOf_120 : decode cX8_soonOf 120 = .ok (.idiv, 1) := by decide +kernel
theorem dX8_soonOf_121 : decode cX8_soonOf 121 = .ok (.iload 4, 2) := by decide +kernel
theorem dX8_soonOf_123 : decode cX8_soonOf 123 = .ok (.invokevirtual 166, 3) := by decide +kernel
theorem dX8_soonOf_126 : decode cX8_soonOf 126 = .ok (.ifCond .eq 92, 3) := by decide +kernel
theorem dX8_soonOf_129 : decode cX8_soonOf 129 = .ok (.iload_n 3, 1) := by decide +kernel
theorem dX8_soonOf_130 : decode cX8_soonOf 130 = .ok (.iconst 4, 1) := by decide +kernel
theorem dX8_soonOf_131 : decode cX8_soonOf 131 = .ok (.irem, 1) := by decide +kernel
theorem dX8_soonOf_132 : decode cX8_soonOf 132 = .ok (.istore 5, 2) := by decide +kernel
theorem dX8_soonOf_134 : decode cX8_soonOf 134 = .ok (.iload 4, 2) := by decide +kernel
theorem dX8_soonOf_136 : decode cX8_soonOf 136 = .ok (.aload_n 0, 1) := by decide +kernel
theorem dX8_soonOf_137 : decode cX8_soonOf 137 = .ok (.getfield 22, 3) := by decide +kernel
theorem dX8_soonOf_140 : decode cX8_soonOf 140 = .ok (.iload_n 1, 1) := by decide +kernel
theorem dX8_soonOf_141 : decode cX8_soonOf 141 = .ok (.iaload, 1) := by decide +kernel
theorem dX8_soonOf_142 : decode cX8_soonOf 142 = .ok (.if_icmp .eq 22, 3) := by decide +kernel
theorem dX8_soonOf_145 : decode cX8_soonOf 145 = .ok (.aload_n 0, 1) := by decide +kernel
theorem dX8_soonOf_146 : decode cX8_soonOf 146 = .ok (.getfield 19, 3) := by decide +kernel
theorem dX8_soonOf_149 : decode cX8_soonOf 149 = .ok (.iload_n 1, 1) := by decide +kernel
theorem dX8_soonOf_150 : decode cX8_soonOf 150 = .ok (.iaload, 1) := by decide +kernel
theorem dX8_soonOf_151 : decode cX8_soonOf 151 = .ok (.iconst 3, 1) := by decide +kernel
theorem dX8_soonOf_152 : decode cX8_soonOf 152 = .ok (.if_icmp .ne 7, 3) := by decide +kernel
theorem dX8_soonOf_155 : decode cX8_soonOf 155 = .ok (.iconst 0, 1) := by decide +kernel
theorem dX8_soonOf_156 : decode cX8_soonOf 156 = .ok (.goto 31, 3) := by decide +kernel
theorem dX8_soonOf_159 : decode cX8_soonOf 159 = .ok (.iload 5, 2) := by decide +kernel
theorem dX8_soonOf_161 : decode cX8_soonOf 161 = .ok (.goto 26, 3) := by decide +kernel
theorem dX8_soonOf_164 : decode cX8_soonOf 164 = .ok (.aload_n 0, 1) := by decide +kernel
theorem dX8_soonOf_165 : decode cX8_soonOf 165 = .ok (.iload_n 1, 1) := by decide +kernel
theorem dX8_soonOf_166 : decode cX8_soonOf 166 = .ok (.aload_n 0, 1) := by decide +kernel
theorem dX8_soonOf_167 : decode cX8_soonOf 167 = .ok (.getfield 146, 3) := by decide +kernel
theorem dX8_soonOf_170 : decode cX8_soonOf 170 = .ok (.iload_n 2, 1) := by decide +kernel
theorem dX8_soonOf_171 : decode cX8_soonOf 171 = .ok (.iadd, 1) := by decide +kernel
theorem dX8_soonOf_172 : decode cX8_soonOf 172 = .ok (.invokevirtual 159, 3) := by decide +kernel
theorem dX8_soonOf_175 : decode cX8_soonOf 175 = .ok (.ifCond .eq 10, 3) := by decide +kernel
theorem dX8_soonOf_178 : decode cX8_soonOf 178 = .ok (.iload 5, 2) := by decide +kernel
theorem dX8_soonOf_180 : decode cX8_soonOf 180 = .ok (.iconst 1, 1) := by decide +kernel
theorem dX8_soonOf_181 : decode cX8_soonOf 181 = .ok (.iadd, 1) := by decide +kernel
theorem dX8_soonOf_182 : decode cX8_soonOf 182 = .ok (.goto 5, 3) := by decide +kernel
theorem dX8_soonOf_185 : decode cX8_soonOf 185 = .ok (.iload 5, 2) := by decide +kernel
theorem dX8_soonOf_187 : decode cX8_soonOf 187 = .ok (.istore 5, 2) := by decide +kernel
theorem dX8_soonOf_189 : decode cX8_soonOf 189 = .ok (.iload 5, 2) := by decide +kernel
theorem dX8_soonOf_191 : decode cX8_soonOf 191 = .ok (.aload_n 0, 1) := by decide +kernel
theorem dX8_soonOf_192 : decode cX8_soonOf 192 = .ok (.getfield 19, 3) := by decide +kernel
theorem dX8_soonOf_195 : decode cX8_soonOf 195 = .ok (.iload_n 1, 1) := by decide +kernel
theorem dX8_soonOf_196 : decode cX8_soonOf 196 = .ok (.iaload, 1) := by decide +kernel
theorem dX8_soonOf_197 : decode cX8_soonOf 197 = .ok (.invokestatic 163, 3) := by decide +kernel
theorem dX8_soonOf_200 : decode cX8_soonOf 200 = .ok (.if_icmp .lt 5, 3) := by decide +kernel
theorem dX8_soonOf_203 : decode cX8_soonOf 203 = .ok (.iload_n 2, 1) := by decide +kernel
theorem dX8_soonOf_204 : decode cX8_soonOf 204 = .ok (.ireturn, 1) := by decide +kernel
theorem dX8_soonOf_205 : decode cX8_soonOf 205 = .ok (.aload_n 0, 1) := by decide +kernel
theorem dX8_soonOf_206 : decode cX8_soonOf 206 = .ok (.getfield 49, 3) := by decide +kernel
theorem dX8_soonOf_209 : decode cX8_soonOf 209 = .ok (.iconst 4, 1) := by decide +kernel
theorem dX8_soonOf_210 : decode cX8_soonOf 210 = .ok (.iload 4, 2) := by decide +kernel
theorem dX8_soonOf_212 : decode cX8_soonOf 212 = .ok (.imul, 1) := by decide +kernel
theorem dX8_soonOf_213 : decode cX8_soonOf 213 = .ok (.iload 5, 2) := by decide +kernel
theorem dX8_soonOf_215 : decode cX8_soonOf 215 = .ok (.iadd, 1) := by decide +kernel
theorem dX8_soonOf_216 : decode cX8_soonOf 216 = .ok (.iconst 1, 1) := by decide +kernel
theorem dX8_soonOf_217 : decode cX8_soonOf 217 = .ok (.iastore, 1) := by decide +kernel
theorem dX8_soonOf_218 : decode cX8_soonOf 218 = .ok (.iinc 4 1, 3) := by decide +kernel
theorem dX8_soonOf_221 : decode cX8_soonOf 221 = .ok (.goto (-123), 3) := by decide +kernel
theorem dX8_soonOf_224 : decode cX8_soonOf 224 = .ok (.iinc 3 1, 3) := by decide +kernel
theorem dX8_soonOf_227 : decode cX8_soonOf 227 = .ok (.goto (-142), 3) := by decide +kernel
theorem dX8_soonOf_230 : decode cX8_soonOf 230 = .ok (.aload_n 0, 1) := by decide +kernel
theorem dX8_soonOf_231 : decode cX8_soonOf 231 = .ok (.getfield 49, 3) := by decide +kernel
theorem dX8_soonOf_234 : decode cX8_soonOf 234 = .ok (.aload_n 0, 1) := by decide +kernel
theorem dX8_soonOf_235 : decode cX8_soonOf 235 = .ok (.getfield 46, 3) := by decide +kernel
theorem dX8_soonOf_238 : decode cX8_soonOf 238 = .ok (.invokestatic 155, 3) := by decide +kernel
theorem dX8_soonOf_241 : decode cX8_soonOf 241 = .ok (.iinc 2 1, 3) := by decide +kernel
theorem dX8_soonOf_244 : decode cX8_soonOf 244 = .ok (.goto (-188), 3) := by decide +kernel
theorem dX8_soonOf_247 : decode cX8_soonOf 247 = .ok (.iconst (-1), 1) := by decide +kernel
theorem dX8_soonOf_248 : decode cX8_soonOf 248 = .ok (.ireturn, 1) := by decide +kernel
theorem dX8_tellPerson_0 : decode cX8_tellPerson 0 = .ok (.iload_n 2, 1) := by decide +kernel
theorem dX8_tellPerson_1 : decode cX8_tellPerson 1 = .ok (.tableswitch 115 0 8 #[51, 58, 65, 72, 79, 86, 93, 103, 109], 51) := by decide +kernel
theorem dX8_tellPerson_52 : decode cX8_tellPerson 52 = .ok (.aload_n 0, 1) := by decide +kernel
theorem dX8_tellPerson_53 : decode cX8_tellPerson 53 = .ok (.getfield 19, 3) := by decide +kernel
theorem dX8_tellPerson_56 : decode cX8_tellPerson 56 = .ok (.iload_n 1, 1) := by decide +kernel
theorem dX8_tellPerson_57 : decode cX8_tellPerson 57 = .ok (.iaload, 1) := by decide +kernel
theorem dX8_tellPerson_58 : decode cX8_tellPerson 58 = .ok (.ireturn, 1) := by decide +kernel
theorem dX8_tellPerson_59 : decode cX8_tellPerson 59 = .ok (.aload_n 0, 1) := by decide +kernel
theorem dX8_tellPerson_60 : decode cX8_tellPerson 60 = .ok (.getfield 22, 3) := by decide +kernel
theorem dX8_tellPerson_63 : decode cX8_tellPerson 63 = .ok (.iload_n 1, 1) := by decide +kernel
theorem dX8_tellPerson_64 : decode cX8_tellPerson 64 = .ok (.iaload, 1) := by decide +kernel
theorem dX8_tellPerson_65 : decode cX8_tellPerson 65 = .ok (.ireturn, 1) := by decide +kernel
theorem dX8_tellPerson_66 : decode cX8_tellPerson 66 = .ok (.aload_n 0, 1) := by decide +kernel
theorem dX8_tellPerson_67 : decode cX8_tellPerson 67 = .ok (.getfield 25, 3) := by decide +kernel
theorem dX8_tellPerson_70 : decode cX8_tellPerson 70 = .ok (.iload_n 1, 1) := by decide +kernel
theorem dX8_tellPerson_71 : decode cX8_tellPerson 71 = .ok (.iaload, 1) := by decide +kernel
theorem dX8_tellPerson_72 : decode cX8_tellPerson 72 = .ok (.ireturn, 1) := by decide +kernel
theorem dX8_tellPerson_73 : decode cX8_tellPerson 73 = .ok (.aload_n 0, 1) := by decide +kernel
theorem dX8_tellPerson_74 : decode cX8_tellPerson 74 = .ok (.getfield 28, 3) := by decide +kernel
theorem dX8_tellPerson_77 : decode cX8_tellPerson 77 = .ok (.iload_n 1, 1) := by decide +kernel
theorem dX8_tellPerson_78 : decode cX8_tellPerson 78 = .ok (.iaload, 1) := by decide +kernel
theorem dX8_tellPerson_79 : decode cX8_tellPerson 79 = .ok (.ireturn, 1) := by decide +kernel
theorem dX8_tellPerson_80 : decode cX8_tellPerson 80 = .ok (.aload_n 0, 1) := by decide +kernel
theorem dX8_tellPerson_81 : decode cX8_tellPerson 81 = .ok (.getfield 34, 3) := by decide +kernel
theorem dX8_tellPerson_84 : decode cX8_tellPerson 84 = .ok (.iload_n 1, 1) := by decide +kernel
theorem dX8_tellPerson_85 : decode cX8_tellPerson 85 = .ok (.iaload, 1) := by decide +kernel
theorem dX8_tellPerson_86 : decode cX8_tellPerson 86 = .ok (.ireturn, 1) := by decide +kernel
theorem dX8_tellPerson_87 : decode cX8_tellPerson 87 = .ok (.aload_n 0, 1) := by decide +kernel
theorem dX8_tellPerson_88 : decode cX8_tellPerson 88 = .ok (.getfield 31, 3) := by decide +kernel
theorem dX8_tellPerson_91 : decode cX8_tellPerson 91 = .ok (.iload_n 1, 1) := by decide +kernel
theorem dX8_tellPerson_92 : decode cX8_tellPerson 92 = .ok (.iaload, 1) := by decide +kernel
theorem dX8_tellPerson_93 : decode cX8_tellPerson 93 = .ok (.ireturn, 1) := by decide +kernel
theorem dX8_tellPerson_94 : decode cX8_tellPerson 94 = .ok (.aload_n 0, 1) := by decide +kernel
theorem dX8_tellPerson_95 : decode cX8_tellPerson 95 = .ok (.getfield 19, 3) := by decide +kernel
theorem dX8_tellPerson_98 : decode cX8_tellPerson 98 = .ok (.iload_n 1, 1) := by decide +kernel
theorem dX8_tellPerson_99 : decode cX8_tellPerson 99 = .ok (.iaload, 1) := by decide +kernel
theorem dX8_tellPerson_100 : decode cX8_tellPerson 100 = .ok (.invokestatic 163, 3) := by decide +kernel
theorem dX8_tellPerson_103 : decode cX8_tellPerson 103 = .ok (.ireturn, 1) := by decide +kernel
theorem dX8_tellPerson_104 : decode cX8_tellPerson 104 = .ok (.aload_n 0, 1) := by decide +kernel
theorem dX8_tellPerson_105 : decode cX8_tellPerson 105 = .ok (.iload_n 1, 1) := by decide +kernel
theorem dX8_tellPerson_106 : decode cX8_tellPerson 106 = .ok (.invokevirtual 169, 3) := by decide +kernel
theorem dX8_tellPerson_109 : decode cX8_tellPerson 109 = .ok (.ireturn, 1) := by decide +kernel
theorem dX8_tellPerson_110 : decode cX8_tellPerson 110 = .ok (.aload_n 0, 1) := by decide +kernel
theorem dX8_tellPerson_111 : decode cX8_tellPerson 111 = .ok (.iload_n 1, 1) := by decide +kernel
theorem dX8_tellPerson_112 : decode cX8_tellPerson 112 = .ok (.invokevirtual 172, 3) := by decide +kernel
theorem dX8_tellPerson_115 : decode cX8_tellPerson 115 = .ok (.ireturn, 1) := by decide +kernel
theorem dX8_tellPerson_116 : decode cX8_tellPerson 116 = .ok (.bipush (-102), 2) := by decide +kernel
theorem dX8_tellPerson_118 : decode cX8_tellPerson 118 = .ok (.ireturn, 1) := by decide +kernel
theorem dX8_person_0 : decode cX8_person 0 = .ok (.aload_n 0, 1) := by decide +kernel
theorem dX8_person_1 : decode cX8_person 1 = .ok (.iload_n 1, 1) := by decide +kernel
theorem dX8_person_2 : decode cX8_person 2 = .ok (.invokevirtual 175, 3) := by decide +kernel
theorem dX8_person_5 : decode cX8_person 5 = .ok (.ifCond .eq 12, 3) := by decide +kernel
theorem dX8_person_8 : decode cX8_person 8 = .ok (.aload_n 0, 1) := by decide +kernel
theorem dX8_person_9 : decode cX8_person 9 = .ok (.iload_n 1, 1) := by decide +kernel
theorem dX8_person_10 : decode cX8_person 10 = .ok (.iload_n 2, 1) := by decide +kernel
theorem dX8_person_11 : decode cX8_person 11 = .ok (.invokevirtual 178, 3) := by decide +kernel
theorem dX8_person_14 : decode cX8_person 14 = .ok (.goto 5, 3) := by decide +kernel
theorem dX8_person_17 : decode cX8_person 17 = .ok (.bipush (-101), 2) := by decide +kernel
theorem dX8_person_19 : decode cX8_person 19 = .ok (.ireturn, 1) := by decide +kernel
theorem dX8_as_0 : decode cX8_as 0 = .ok (.aload_n 0, 1) := by decide +kernel
theorem dX8_as_1 : decode cX8_as 1 = .ok (.iload_n 1, 1) := by decide +kernel
theorem dX8_as_2 : decode cX8_as 2 = .ok (.invokevirtual 175, 3) := by decide +kernel
theorem dX8_as_5 : decode cX8_as 5 = .ok (.ifCond .ne 6, 3) := by decide +kernel
theorem dX8_as_8 : decode cX8_as 8 = .ok (.bipush (-101), 2) := by decide +kernel
theorem dX8_as_10 : decode cX8_as 10 = .ok (.ireturn, 1) := by decide +kernel
theorem dX8_as_11 : decode cX8_as 11 = .ok (.iload_n 2, 1) := by decide +kernel
theorem dX8_as_12 : decode cX8_as 12 = .ok (.i2l, 1) := by decide +kernel
theorem dX8_as_13 : decode cX8_as 13 = .ok (.lconst 0, 1) := by decide +kernel
theorem dX8_as_14 : decode cX8_as 14 = .ok (.ldc2_w 182, 3) := by decide +kernel
theorem dX8_as_17 : decode cX8_as 17 = .ok (.invokestatic 92, 3) := by decide +kernel
theorem dX8_as_20 : decode cX8_as 20 = .ok (.ifCond .ne 6, 3) := by decide +kernel
theorem dX8_as_23 : decode cX8_as 23 = .ok (.bipush (-102), 2) := by decide +kernel
theorem dX8_as_25 : decode cX8_as 25 = .ok (.ireturn, 1) := by decide +kernel
theorem dX8_as_26 : decode cX8_as 26 = .ok (.iload_n 2, 1) := by decide +kernel
theorem dX8_as_27 : decode cX8_as 27 = .ok (.ifCond .eq 28, 3) := by decide +kernel
theorem dX8_as_30 : decode cX8_as 30 = .ok (.iload_n 2, 1) := by decide +kernel
theorem dX8_as_31 : decode cX8_as 31 = .ok (.aload_n 0, 1) := by decide +kernel
theorem dX8_as_32 : decode cX8_as 32 = .ok (.getfield 19, 3) := by decide +kernel
theorem dX8_as_35 : decode cX8_as 35 = .ok (.iload_n 1, 1) := by decide +kernel
theorem dX8_as_36 : decode cX8_as 36 = .ok (.iaload, 1) := by decide +kernel
theorem dX8_as_37 : decode cX8_as 37 = .ok (.if_icmp .eq 18, 3) := by decide +kernel
theorem dX8_as_40 : decode cX8_as 40 = .ok (.iload_n 2, 1) := by decide +kernel
theorem dX8_as_41 : decode cX8_as 41 = .ok (.iconst 1, 1) := by decide +kernel
theorem dX8_as_42 : decode cX8_as 42 = .ok (.if_icmp .ne 17, 3) := by decide +kernel
theorem dX8_as_45 : decode cX8_as 45 = .ok (.aload_n 0, 1) := by decide +kernel
theorem dX8_as_46 : decode cX8_as 46 = .ok (.getfield 19, 3) := by decide +kernel
theorem dX8_as_49 : decode cX8_as 49 = .ok (.iload_n 1, 1) := by decide +kernel
theorem dX8_as_50 : decode cX8_as 50 = .ok (.iaload, 1) := by decide +kernel
theorem dX8_as_51 : decode cX8_as 51 = .ok (.iconst 4, 1) := by decide +kernel
theorem dX8_as_52 : decode cX8_as 52 = .ok (.if_icmp .ne 7, 3) := by decide +kernel
theorem dX8_as_55 : decode cX8_as 55 = .ok (.iconst 1, 1) := by decide +kernel
theorem dX8_as_56 : decode cX8_as 56 = .ok (.goto 4, 3) := by decide +kernel
theorem dX8_as_59 : decode cX8_as 59 = .ok (.iconst 0, 1) := by decide +kernel
theorem dX8_as_60 : decode cX8_as 60 = .ok (.istore_n 3, 1) := by decide +kernel
theorem dX8_as_61 : decode cX8_as 61 = .ok (.iload_n 3, 1) := by decide +kernel
theorem dX8_as_62 : decode cX8_as 62 = .ok (.ifCond .eq 7, 3) := by decide +kernel
theorem dX8_as_65 : decode cX8_as 65 = .ok (.iload_n 1, 1) := by decide +kernel
theorem dX8_as_66 : decode cX8_as 66 = .ok (.goto 4, 3) := by decide +kernel
theorem dX8_as_69 : decode cX8_as 69 = .ok (.iconst (-1), 1) := by decide +kernel
theorem dX8_as_70 : decode cX8_as 70 = .ok (.ireturn, 1) := by decide +kernel
theorem dX8_road_0 : decode cX8_road 0 = .ok (.iload_n 1, 1) := by decide +kernel
theorem dX8_road_1 : decode cX8_road 1 = .ok (.i2l, 1) := by decide +kernel
theorem dX8_road_2 : decode cX8_road 2 = .ok (.lconst 0, 1) := by decide +kernel
theorem dX8_road_3 : decode cX8_road 3 = .ok (.aload_n 0, 1) := by decide +kernel
theorem dX8_road_4 : decode cX8_road 4 = .ok (.getfield 131, 3) := by decide +kernel
theorem dX8_road_7 : decode cX8_road 7 = .ok (.iconst 1, 1) := by decide +kernel
theorem dX8_road_8 : decode cX8_road 8 = .ok (.isub, 1) := by decide +kernel
theorem dX8_road_9 : decode cX8_road 9 = .ok (.i2l, 1) := by decide +kernel
theorem dX8_road_10 : decode cX8_road 10 = .ok (.invokestatic 92, 3) := by decide +kernel
theorem dX8_road_13 : decode cX8_road 13 = .ok (.ifCond .ne 6, 3) := by decide +kernel
theorem dX8_road_16 : decode cX8_road 16 = .ok (.bipush (-101), 2) := by decide +kernel
theorem dX8_road_18 : decode cX8_road 18 = .ok (.ireturn, 1) := by decide +kernel
theorem dX8_road_19 : decode cX8_road 19 = .ok (.iload_n 2, 1) := by decide +kernel
theorem dX8_road_20 : decode cX8_road 20 = .ok (.i2l, 1) := by decide +kernel
theorem dX8_road_21 : decode cX8_road 21 = .ok (.lconst 0, 1) := by decide +kernel
theorem dX8_road_22 : decode cX8_road 22 = .ok (.lconst 1, 1) := by decide +kernel
theorem dX8_road_23 : decode cX8_road 23 = .ok (.invokestatic 92, 3) := by decide +kernel
theorem dX8_road_26 : decode cX8_road 26 = .ok (.ifCond .ne 6, 3) := by decide +kernel
theorem dX8_road_29 : decode cX8_road 29 = .ok (.bipush (-102), 2) := by decide +kernel
theorem dX8_road_31 : decode cX8_road 31 = .ok (.ireturn, 1) := by decide +kernel
theorem dX8_road_32 : decode cX8_road 32 = .ok (.iload_n 2, 1) := by decide +kernel
theorem dX8_road_33 : decode cX8_road 33 = .ok (.ifCond .ne 12, 3) := by decide +kernel
theorem dX8_road_36 : decode cX8_road 36 = .ok (.aload_n 0, 1) := by decide +kernel
theorem dX8_road_37 : decode cX8_road 37 = .ok (.getfield 13, 3) := by decide +kernel
theorem dX8_road_40 : decode cX8_road 40 = .ok (.iload_n 1, 1) := by decide +kernel
theorem dX8_road_41 : decode cX8_road 41 = .ok (.iaload, 1) := by decide +kernel
theorem dX8_road_42 : decode cX8_road 42 = .ok (.goto 9, 3) := by decide +kernel
theorem dX8_road_45 : decode cX8_road 45 = .ok (.aload_n 0, 1) := by decide +kernel
theorem dX8_road_46 : decode cX8_road 46 = .ok (.getfield 16, 3) := by decide +kernel
theorem dX8_road_49 : decode cX8_road 49 = .ok (.iload_n 1, 1) := by decide +kernel
theorem dX8_road_50 : decode cX8_road 50 = .ok (.iaload, 1) := by decide +kernel
theorem dX8_road_51 : decode cX8_road 51 = .ok (.ireturn, 1) := by decide +kernel
theorem dX8_nextTo_0 : decode cX8_nextTo 0 = .ok (.iconst 0, 1) := by decide +kernel
theorem dX8_nextTo_1 : decode cX8_nextTo 1 = .ok (.istore_n 2, 1) := by decide +kernel
theorem dX8_nextTo_2 : decode cX8_nextTo 2 = .ok (.iconst 0, 1) := by decide +kernel
theorem dX8_nextTo_3 : decode cX8_nextTo 3 = .ok (.istore_n 3, 1) := by decide +kernel
theorem dX8_nextTo_4 : decode cX8_nextTo 4 = .ok (.iload_n 3, 1) := by decide +kernel
theorem dX8_nextTo_5 : decode cX8_nextTo 5 = .ok (.aload_n 0, 1) := by decide +kernel
theorem dX8_nextTo_6 : decode cX8_nextTo 6 = .ok (.getfield 134, 3) := by decide +kernel
theorem dX8_nextTo_9 : decode cX8_nextTo 9 = .ok (.if_icmp .ge 34, 3) := by decide +kernel
theorem dX8_nextTo_12 : decode cX8_nextTo 12 = .ok (.iload_n 2, 1) := by decide +kernel
theorem dX8_nextTo_13 : decode cX8_nextTo 13 = .ok (.aload_n 0, 1) := by decide +kernel
theorem dX8_nextTo_14 : decode cX8_nextTo 14 = .ok (.getfield 37, 3) := by decide +kernel
theorem dX8_nextTo_17 : decode cX8_nextTo 17 = .ok (.bipush 6, 2) := by decide +kernel
theorem dX8_nextTo_19 : decode cX8_nextTo 19 = .ok (.iload_n 1, 1) := by decide +kernel
theorem dX8_nextTo_20 : decode cX8_nextTo 20 = .ok (.imul, 1) := by decide +kernel
theorem dX8_nextTo_21 : decode cX8_nextTo 21 = .ok (.iload_n 3, 1) := by decide +kernel
theorem dX8_nextTo_22 : decode cX8_nextTo 22 = .ok (.iadd, 1) := by decide +kernel
theorem dX8_nextTo_23 : decode cX8_nextTo 23 = .ok (.iaload, 1) := by decide +kernel
theorem dX8_nextTo_24 : decode cX8_nextTo 24 = .ok (.iconst 1, 1) := by decide +kernel
theorem dX8_nextTo_25 : decode cX8_nextTo 25 = .ok (.if_icmp .ne 9, 3) := by decide +kernel
theorem dX8_nextTo_28 : decode cX8_nextTo 28 = .ok (.iconst 1, 1) := by decide +kernel
theorem dX8_nextTo_29 : decode cX8_nextTo 29 = .ok (.iload_n 3, 1) := by decide +kernel
theorem dX8_nextTo_30 : decode cX8_nextTo 30 = .ok (.ishl, 1) := by decide +kernel
theorem dX8_nextTo_31 : decode cX8_nextTo 31 = .ok (.goto 4, 3) := by decide +kernel
theorem dX8_nextTo_34 : decode cX8_nextTo 34 = .ok (.iconst 0, 1) := by decide +kernel
theorem dX8_nextTo_35 : decode cX8_nextTo 35 = .ok (.ior, 1) := by decide +kernel
theorem dX8_nextTo_36 : decode cX8_nextTo 36 = .ok (.istore_n 2, 1) := by decide +kernel
theorem dX8_nextTo_37 : decode cX8_nextTo 37 = .ok (.iinc 3 1, 3) := by decide +kernel
theorem dX8_nextTo_40 : decode cX8_nextTo 40 = .ok (.goto (-36), 3) := by decide +kernel
theorem dX8_nextTo_43 : decode cX8_nextTo 43 = .ok (.iload_n 2, 1) := by decide +kernel
theorem dX8_nextTo_44 : decode cX8_nextTo 44 = .ok (.ireturn, 1) := by decide +kernel
theorem dX8_whoAt_0 : decode cX8_whoAt 0 = .ok (.iconst 0, 1) := by decide +kernel
theorem dX8_whoAt_1 : decode cX8_whoAt 1 = .ok (.istore_n 2, 1) := by decide +kernel
theorem dX8_whoAt_2 : decode cX8_whoAt 2 = .ok (.iconst 0, 1) := by decide +kernel
theorem dX8_whoAt_3 : decode cX8_whoAt 3 = .ok (.istore_n 3, 1) := by decide +kernel
theorem dX8_whoAt_4 : decode cX8_whoAt 4 = .ok (.iload_n 3, 1) := by decide +kernel
theorem dX8_whoAt_5 : decode cX8_whoAt 5 = .ok (.aload_n 0, 1) := by decide +kernel
theorem dX8_whoAt_6 : decode cX8_whoAt 6 = .ok (.getfield 140, 3) := by decide +kernel
theorem dX8_whoAt_9 : decode cX8_whoAt 9 = .ok (.if_icmp .ge 29, 3) := by decide +kernel
theorem dX8_whoAt_12 : decode cX8_whoAt 12 = .ok (.iload_n 2, 1) := by decide +kernel
theorem dX8_whoAt_13 : decode cX8_whoAt 13 = .ok (.aload_n 0, 1) := by decide +kernel
theorem dX8_whoAt_14 : decode cX8_whoAt 14 = .ok (.getfield 22, 3) := by decide +kernel
theorem dX8_whoAt_17 : decode cX8_whoAt 17 = .ok (.iload_n 3, 1) := by decide +kernel
theorem dX8_whoAt_18 : decode cX8_whoAt 18 = .ok (.iaload, 1) := by decide +kernel
theorem dX8_whoAt_19 : decode cX8_whoAt 19 = .ok (.iload_n 1, 1) := by decide +kernel
theorem dX8_whoAt_20 : decode cX8_whoAt 20 = .ok (.if_icmp .ne 9, 3) := by decide +kernel
theorem dX8_whoAt_23 : decode cX8_whoAt 23 = .ok (.iconst 1, 1) := by decide +kernel
theorem dX8_whoAt_24 : decode cX8_whoAt 24 = .ok (.iload_n 3, 1) := by decide +kernel
theorem dX8_whoAt_25 : decode cX8_whoAt 25 = .ok (.ishl, 1) := by decide +kernel
theorem dX8_whoAt_26 : decode cX8_whoAt 26 = .ok (.goto 4, 3) := by decide +kernel
theorem dX8_whoAt_29 : decode cX8_whoAt 29 = .ok (.iconst 0, 1) := by decide +kernel
theorem dX8_whoAt_30 : decode cX8_whoAt 30 = .ok (.ior, 1) := by decide +kernel
theorem dX8_whoAt_31 : decode cX8_whoAt 31 = .ok (.istore_n 2, 1) := by decide +kernel
theorem dX8_whoAt_32 : decode cX8_whoAt 32 = .ok (.iinc 3 1, 3) := by decide +kernel
theorem dX8_whoAt_35 : decode cX8_whoAt 35 = .ok (.goto (-31), 3) := by decide +kernel
theorem dX8_whoAt_38 : decode cX8_whoAt 38 = .ok (.iload_n 2, 1) := by decide +kernel
theorem dX8_whoAt_39 : decode cX8_whoAt 39 = .ok (.ireturn, 1) := by decide +kernel
theorem dX8_farOf_0 : decode cX8_farOf 0 = .ok (.aload_n 0, 1) := by decide +kernel
theorem dX8_farOf_1 : decode cX8_farOf 1 = .ok (.getfield 37, 3) := by decide +kernel
theorem dX8_farOf_4 : decode cX8_farOf 4 = .ok (.bipush 6, 2) := by decide +kernel
theorem dX8_farOf_6 : decode cX8_farOf 6 = .ok (.iload_n 1, 1) := by decide +kernel
theorem dX8_farOf_7 : decode cX8_farOf 7 = .ok (.imul, 1) := by decide +kernel
theorem dX8_farOf_8 : decode cX8_farOf 8 = .ok (.iload_n 2, 1) := by decide +kernel
theorem dX8_farOf_9 : decode cX8_farOf 9 = .ok (.iadd, 1) := by decide +kernel
theorem dX8_farOf_10 : decode cX8_farOf 10 = .ok (.iaload, 1) := by decide +kernel
theorem dX8_farOf_11 : decode cX8_farOf 11 = .ok (.bipush 99, 2) := by decide +kernel
theorem dX8_farOf_13 : decode cX8_farOf 13 = .ok (.if_icmp .ne 7, 3) := by decide +kernel
theorem dX8_farOf_16 : decode cX8_farOf 16 = .ok (.iconst (-1), 1) := by decide +kernel
theorem dX8_farOf_17 : decode cX8_farOf 17 = .ok (.goto 14, 3) := by decide +kernel
theorem dX8_farOf_20 : decode cX8_farOf 20 = .ok (.aload_n 0, 1) := by decide +kernel
theorem dX8_farOf_21 : decode cX8_farOf 21 = .ok (.getfield 37, 3) := by decide +kernel
theorem dX8_farOf_24 : decode cX8_farOf 24 = .ok (.bipush 6, 2) := by decide +kernel
theorem dX8_farOf_26 : decode cX8_farOf 26 = .ok (.iload_n 1, 1) := by decide +kernel
theorem dX8_farOf_27 : decode cX8_farOf 27 = .ok (.imul, 1) := by decide +kernel
theorem dX8_farOf_28 : decode cX8_farOf 28 = .ok (.iload_n 2, 1) := by decide +kernel
theorem dX8_farOf_29 : decode cX8_farOf 29 = .ok (.iadd, 1) := by decide +kernel
theorem dX8_farOf_30 : decode cX8_farOf 30 = .ok (.iaload, 1) := by decide +kernel
theorem dX8_farOf_31 : decode cX8_farOf 31 = .ok (.ireturn, 1) := by decide +kernel
theorem dX8_canCatch_0 : decode cX8_canCatch 0 = .ok (.iconst 0, 1) := by decide +kernel
theorem dX8_canCatch_1 : decode cX8_canCatch 1 = .ok (.istore_n 3, 1) := by decide +kernel
theorem dX8_canCatch_2 : decode cX8_canCatch 2 = .ok (.iconst 0, 1) := by decide +kernel
theorem dX8_canCatch_3 : decode cX8_canCatch 3 = .ok (.istore 4, 2) := by decide +kernel
theorem dX8_canCatch_5 : decode cX8_canCatch 5 = .ok (.iload 4, 2) := by decide +kernel
theorem dX8_canCatch_7 : decode cX8_canCatch 7 = .ok (.aload_n 0, 1) := by decide +kernel
theorem dX8_canCatch_8 : decode cX8_canCatch 8 = .ok (.getfield 134, 3) := by decide +kernel
theorem dX8_canCatch_11 : decode cX8_canCatch 11 = .ok (.if_icmp .ge 45, 3) := by decide +kernel
theorem dX8_canCatch_14 : decode cX8_canCatch 14 = .ok (.iload_n 3, 1) := by decide +kernel
theorem dX8_canCatch_15 : decode cX8_canCatch 15 = .ok (.ifCond .ne 29, 3) := by decide +kernel
theorem dX8_canCatch_18 : decode cX8_canCatch 18 = .ok (.aload_n 0, 1) := by decide +kernel
theorem dX8_canCatch_19 : decode cX8_canCatch 19 = .ok (.iload_n 2, 1) := by decide +kernel
theorem dX8_canCatch_20 : decode cX8_canCatch 20 = .ok (.iload 4, 2) := by decide +kernel
theorem dX8_canCatch_22 : decode cX8_canCatch 22 = .ok (.invokevirtual 166, 3) := by decide +kernel
theorem dX8_canCatch_25 : decode cX8_canCatch 25 = .ok (.ifCond .eq 23, 3) := by decide +kernel
theorem dX8_canCatch_28 : decode cX8_canCatch 28 = .ok (.aload_n 0, 1) := by decide +kernel
theorem dX8_canCatch_29 : decode cX8_canCatch 29 = .ok (.getfield 52, 3) := by decide +kernel
theorem dX8_canCatch_32 : decode cX8_canCatch 32 = .ok (.bipush 6, 2) := by decide +kernel
theorem dX8_canCatch_34 : decode cX8_canCatch 34 = .ok (.iload_n 1, 1) := by decide +kernel
theorem dX8_canCatch_35 : decode cX8_canCatch 35 = .ok (.imul, 1) := by decide +kernel
theorem dX8_canCatch_36 : decode cX8_canCatch 36 = .ok (.iload 4, 2) := by decide +kernel
theorem dX8_canCatch_38 : decode cX8_canCatch 38 = .ok (.iadd, 1) := by decide +kernel
theorem dX8_canCatch_39 : decode cX8_canCatch 39 = .ok (.iaload, 1) := by decide +kernel
theorem dX8_canCatch_40 : decode cX8_canCatch 40 = .ok (.iconst 1, 1) := by decide +kernel
theorem dX8_canCatch_41 : decode cX8_canCatch 41 = .ok (.if_icmp .ne 7, 3) := by decide +kernel
theorem dX8_canCatch_44 : decode cX8_canCatch 44 = .ok (.iconst 1, 1) := by decide +kernel
theorem dX8_canCatch_45 : decode cX8_canCatch 45 = .ok (.goto 4, 3) := by decide +kernel
theorem dX8_canCatch_48 : decode cX8_canCatch 48 = .ok (.iconst 0, 1) := by decide +kernel
theorem dX8_canCatch_49 : decode cX8_canCatch 49 = .ok (.istore_n 3, 1) := by decide +kernel
theorem dX8_canCatch_50 : decode cX8_canCatch 50 = .ok (.iinc 4 1, 3) := by decide +kernel
theorem dX8_canCatch_53 : decode cX8_canCatch 53 = .ok (.goto (-48), 3) := by decide +kernel
theorem dX8_canCatch_56 : decode cX8_canCatch 56 = .ok (.iload_n 3, 1) := by decide +kernel
theorem dX8_canCatch_57 : decode cX8_canCatch 57 = .ok (.ireturn, 1) := by decide +kernel
theorem dX8_isSure_0 : decode cX8_isSure 0 = .ok (.iconst 1, 1) := by decide +kernel
theorem dX8_isSure_1 : decode cX8_isSure 1 = .ok (.istore_n 3, 1) := by decide +kernel
theorem dX8_isSure_2 : decode cX8_isSure 2 = .ok (.iconst 0, 1) := by decide +kernel
theorem dX8_isSure_3 : decode cX8_isSure 3 = .ok (.istore 4, 2) := by decide +kernel
theorem dX8_isSure_5 : decode cX8_isSure 5 = .ok (.iload 4, 2) := by decide +kernel
theorem dX8_isSure_7 : decode cX8_isSure 7 = .ok (.aload_n 0, 1) := by decide +kernel
theorem dX8_isSure_8 : decode cX8_isSure 8 = .ok (.getfield 134, 3) := by decide +kernel
theorem dX8_isSure_11 : decode cX8_isSure 11 = .ok (.if_icmp .ge 39, 3) := by decide +kernel
theorem dX8_isSure_14 : decode cX8_isSure 14 = .ok (.iload_n 3, 1) := by decide +kernel
theorem dX8_isSure_15 : decode cX8_isSure 15 = .ok (.ifCond .eq 27, 3) := by decide +kernel
theorem dX8_isSure_18 : decode cX8_isSure 18 = .ok (.aload_n 0, 1) := by decide +kernel
theorem dX8_isSure_19 : decode cX8_isSure 19 = .ok (.iload_n 1, 1) := by decide +kernel
theorem dX8_isSure_20 : decode cX8_isSure 20 = .ok (.iload 4, 2) := by decide +kernel
theorem dX8_isSure_22 : decode cX8_isSure 22 = .ok (.invokevirtual 166, 3) := by decide +kernel
theorem dX8_isSure_25 : decode cX8_isSure 25 = .ok (.ifCond .eq 13, 3) := by decide +kernel
theorem dX8_isSure_28 : decode cX8_isSure 28 = .ok (.aload_n 0, 1) := by decide +kernel
theorem dX8_isSure_29 : decode cX8_isSure 29 = .ok (.iload 4, 2) := by decide +kernel
theorem dX8_isSure_31 : decode cX8_isSure 31 = .ok (.iload_n 2, 1) := by decide +kernel
theorem dX8_isSure_32 : decode cX8_isSure 32 = .ok (.invokevirtual 184, 3) := by decide +kernel
theorem dX8_isSure_35 : decode cX8_isSure 35 = .ok (.ifCond .eq 7, 3) := by decide +kernel
theorem dX8_isSure_38 : decode cX8_isSure 38 = .ok (.iconst 1, 1) := by decide +kernel
theorem dX8_isSure_39 : decode cX8_isSure 39 = .ok (.goto 4, 3) := by decide +kernel
theorem dX8_isSure_42 : decode cX8_isSure 42 = .ok (.iconst 0, 1) := by decide +kernel
theorem dX8_isSure_43 : decode cX8_isSure 43 = .ok (.istore_n 3, 1) := by decide +kernel
theorem dX8_isSure_44 : decode cX8_isSure 44 = .ok (.iinc 4 1, 3) := by decide +kernel
theorem dX8_isSure_47 : decode cX8_isSure 47 = .ok (.goto (-42), 3) := by decide +kernel
theorem dX8_isSure_50 : decode cX8_isSure 50 = .ok (.iload_n 3, 1) := by decide +kernel
theorem dX8_isSure_51 : decode cX8_isSure 51 = .ok (.ireturn, 1) := by decide +kernel
theorem dX8_catchOf_0 : decode cX8_catchOf 0 = .ok (.iconst 0, 1) := by decide +kernel
theorem dX8_catchOf_1 : decode cX8_catchOf 1 = .ok (.istore_n 2, 1) := by decide +kernel
theorem dX8_catchOf_2 : decode cX8_catchOf 2 = .ok (.iload_n 2, 1) := by decide +kernel
theorem dX8_catchOf_3 : decode cX8_catchOf 3 = .ok (.bipush 36, 2) := by decide +kernel
theorem dX8_catchOf_5 : decode cX8_catchOf 5 = .ok (.if_icmp .ge 31, 3) := by decide +kernel
theorem dX8_catchOf_8 : decode cX8_catchOf 8 = .ok (.aload_n 0, 1) := by decide +kernel
theorem dX8_catchOf_9 : decode cX8_catchOf 9 = .ok (.getfield 52, 3) := by decide +kernel
theorem dX8_catchOf_12 : decode cX8_catchOf 12 = .ok (.iload_n 2, 1) := by decide +kernel
theorem dX8_catchOf_13 : decode cX8_catchOf 13 = .ok (.iload_n 2, 1) := by decide +kernel
theorem dX8_catchOf_14 : decode cX8_catchOf 14 = .ok (.bipush 6, 2) := by decide +kernel
theorem dX8_catchOf_16 : decode cX8_catchOf 16 = .ok (.idiv, 1) := by decide +kernel
theorem dX8_catchOf_17 : decode cX8_catchOf 17 = .ok (.iload_n 2, 1) := by decide +kernel
theorem dX8_catchOf_18 : decode cX8_catchOf 18 = .ok (.bipush 6, 2) := by decide +kernel
theorem dX8_catchOf_20 : decode cX8_catchOf 20 = .ok (.irem, 1) := by decide +kernel
theorem dX8_catchOf_21 : decode cX8_catchOf 21 = .ok (.if_icmp .ne 7, 3) := by decide +kernel
theorem dX8_catchOf_24 : decode cX8_catchOf 24 = .ok (.iconst 1, 1) := by decide +kernel
theorem dX8_catchOf_25 : decode cX8_catchOf 25 = .ok (.goto 4, 3) := by decide +kernel
theorem dX8_catchOf_28 : decode cX8_catchOf 28 = .ok (.iconst 0, 1) := by decide +kernel
theorem dX8_catchOf_29 : decode cX8_catchOf 29 = .ok (.iastore, 1) := by decide +kernel
theorem dX8_catchOf_30 : decode cX8_catchOf 30 = .ok (.iinc 2 1, 3) := by decide +kernel
theorem dX8_catchOf_33 : decode cX8_catchOf 33 = .ok (.goto (-31), 3) := by decide +kernel
theorem dX8_catchOf_36 : decode cX8_catchOf 36 = .ok (.iconst 0, 1) := by decide +kernel
theorem dX8_catchOf_37 : decode cX8_catchOf 37 = .ok (.istore_n 2, 1) := by decide +kernel
theorem dX8_catchOf_38 : decode cX8_catchOf 38 = .ok (.iload_n 2, 1) := by decide +kernel
theorem dX8_catchOf_39 : decode cX8_catchOf 39 = .ok (.bipush 41, 2) := by decide +kernel
theorem dX8_catchOf_41 : decode cX8_catchOf 41 = .ok (.if_icmp .ge 124, 3) := by decide +kernel
theorem dX8_catchOf_44 : decode cX8_catchOf 44 = .ok (.aload_n 0, 1) := by decide +kernel
theorem dX8_catchOf_45 : decode cX8_catchOf 45 = .ok (.getfield 52, 3) := by decide +kernel
theorem dX8_catchOf_48 : decode cX8_catchOf 48 = .ok (.bipush 6, 2) := by decide +kernel
theorem dX8_catchOf_50 : decode cX8_catchOf 50 = .ok (.aload_n 0, 1) := by decide +kernel
theorem dX8_catchOf_51 : decode cX8_catchOf 51 = .ok (.getfield 137, 3) := by decide +kernel
theorem dX8_catchOf_54 : decode cX8_catchOf 54 = .ok (.imul, 1) := by decide +kernel
theorem dX8_catchOf_55 : decode cX8_catchOf 55 = .ok (.iload_n 1, 1) := by decide +kernel
theorem dX8_catchOf_56 : decode cX8_catchOf 56 = .ok (.iadd, 1) := by decide +kernel
theorem dX8_catchOf_57 : decode cX8_catchOf 57 = .ok (.iaload, 1) := by decide +kernel
theorem dX8_catchOf_58 : decode cX8_catchOf 58 = .ok (.iconst 1, 1) := by decide +kernel
theorem dX8_catchOf_59 : decode cX8_catchOf 59 = .ok (.if_icmp .ne 5, 3) := by decide +kernel
theorem dX8_catchOf_62 : decode cX8_catchOf 62 = .ok (.iload_n 2, 1) := by decide +kernel
theorem dX8_catchOf_63 : decode cX8_catchOf 63 = .ok (.ireturn, 1) := by decide +kernel
theorem dX8_catchOf_64 : decode cX8_catchOf 64 = .ok (.iconst 0, 1) := by decide +kernel
theorem dX8_catchOf_65 : decode cX8_catchOf 65 = .ok (.istore_n 3, 1) := by decide +kernel
theorem dX8_catchOf_66 : decode cX8_catchOf 66 = .ok (.iload_n 3, 1) := by decide +kernel
theorem dX8_catchOf_67 : decode cX8_catchOf 67 = .ok (.bipush 36, 2) := by decide +kernel
theorem dX8_catchOf_69 : decode cX8_catchOf 69 = .ok (.if_icmp .ge 79, 3) := by decide +kernel
theorem dX8_catchOf_72 : decode cX8_catchOf 72 = .ok (.iload_n 3, 1) := by decide +kernel
theorem dX8_catchOf_73 : decode cX8_catchOf 73 = .ok (.bipush 6, 2) := by decide +kernel
theorem dX8_catchOf_75 : decode cX8_catchOf 75 = .ok (.idiv, 1) := by decide +kernel
theorem dX8_catchOf_76 : decode cX8_catchOf 76 = .ok (.aload_n 0, 1) := by decide +kernel
theorem dX8_catchOf_77 : decode cX8_catchOf 77 = .ok (.getfield 134, 3) := by decide +kernel
theorem dX8_catchOf_80 : decode cX8_catchOf 80 = .ok (.if_icmp .ge 18, 3) := by decide +kernel
theorem dX8_catchOf_83 : decode cX8_catchOf 83 = .ok (.iload_n 3, 1) := by decide +kernel
theorem dX8_catchOf_84 : decode cX8_catchOf 84 = .ok (.bipush 6, 2) := by decide +kernel
theorem dX8_catchOf_86 : decode cX8_catchOf 86 = .ok (.irem, 1) := by decide +kernel
theorem dX8_catchOf_87 : decode cX8_catchOf 87 = .ok (.aload_n 0, 1) := by decide +kernel
theorem dX8_catchOf_88 : decode cX8_catchOf 88 = .ok (.getfield 134, 3) := by decide +kernel
theorem dX8_catchOf_91 : decode cX8_catchOf 91 = .ok (.if_icmp .ge 7, 3) := by decide +kernel
theorem dX8_catchOf_94 : decode cX8_catchOf 94 = .ok (.iconst 1, 1) := by decide +kernel
theorem dX8_catchOf_95 : decode cX8_catchOf 95 = .ok (.goto 4, 3) := by decide +kernel
theorem dX8_catchOf_98 : decode cX8_catchOf 98 = .ok (.iconst 0, 1) := by decide +kernel
theorem dX8_catchOf_99 : decode cX8_catchOf 99 = .ok (.istore 4, 2) := by decide +kernel
theorem dX8_catchOf_101 : decode cX8_catchOf 101 = .ok (.aload_n 0, 1) := by decide +kernel
theorem dX8_catchOf_102 : decode cX8_catchOf 102 = .ok (.getfield 55, 3) := by decide +kernel
theorem dX8_catchOf_105 : decode cX8_catchOf 105 = .ok (.iload_n 3, 1) := by decide +kernel
theorem dX8_catchOf_106 : decode cX8_catchOf 106 = .ok (.aload_n 0, 1) := by decide +kernel
theorem dX8_catchOf_107 : decode cX8_catchOf 107 = .ok (.getfield 52, 3) := by decide +kernel
theorem dX8_catchOf_110 : decode cX8_catchOf 110 = .ok (.iload_n 3, 1) := by decide +kernel
theorem dX8_catchOf_111 : decode cX8_catchOf 111 = .ok (.iaload, 1) := by decide +kernel
theorem dX8_catchOf_112 : decode cX8_catchOf 112 = .ok (.iconst 1, 1) := by decide +kernel
theorem dX8_catchOf_113 : decode cX8_catchOf 113 = .ok (.if_icmp .eq 23, 3) := by decide +kernel
theorem dX8_catchOf_116 : decode cX8_catchOf 116 = .ok (.iload 4, 2) := by decide +kernel
theorem dX8_catchOf_118 : decode cX8_catchOf 118 = .ok (.ifCond .eq 22, 3) := by decide +kernel
theorem dX8_catchOf_121 : decode cX8_catchOf 121 = .ok (.aload_n 0, 1) := by decide +kernel
theorem dX8_catchOf_122 : decode cX8_catchOf 122 = .ok (.iload_n 3, 1) := by decide +kernel
theorem dX8_catchOf_123 : decode cX8_catchOf 123 = .ok (.bipush 6, 2) := by decide +kernel
theorem dX8_catchOf_125 : decode cX8_catchOf 125 = .ok (.idiv, 1) := by decide +kernel
theorem dX8_catchOf_126 : decode cX8_catchOf 126 = .ok (.iload_n 3, 1) := by decide +kernel
theorem dX8_catchOf_127 : decode cX8_catchOf 127 = .ok (.bipush 6, 2) := by decide +kernel
theorem dX8_catchOf_129 : decode cX8_catchOf 129 = .ok (.irem, 1) := by decide +kernel
theorem dX8_catchOf_130 : decode cX8_catchOf 130 = .ok (.invokevirtual 187, 3) := by decide +kernel
theorem dX8_catchOf_133 : decode cX8_catchOf 133 = .ok (.ifCond .eq 7, 3) := by decide +kernel
theorem dX8_catchOf_136 : decode cX8_catchOf 136 = .ok (.iconst 1, 1) := by decide +kernel
theorem dX8_catchOf_137 : decode cX8_catchOf 137 = .ok (.goto 4, 3) := by decide +kernel
theorem dX8_catchOf_140 : decode cX8_catchOf 140 = .ok (.iconst 0, 1) := by decide +kernel
theorem dX8_catchOf_141 : decode cX8_catchOf 141 = .ok (.iastore, 1) := by decide +kernel
theorem dX8_catchOf_142 : decode cX8_catchOf 142 = .ok (.iinc 3 1, 3) := by decide +kernel
theorem dX8_catchOf_145 : decode cX8_catchOf 145 = .ok (.goto (-79), 3) := by decide +kernel
theorem dX8_catchOf_148 : decode cX8_catchOf 148 = .ok (.aload_n 0, 1) := by decide +kernel
theorem dX8_catchOf_149 : decode cX8_catchOf 149 = .ok (.getfield 55, 3) := by decide +kernel
theorem dX8_catchOf_152 : decode cX8_catchOf 152 = .ok (.aload_n 0, 1) := by decide +kernel
theorem dX8_catchOf_153 : decode cX8_catchOf 153 = .ok (.getfield 52, 3) := by decide +kernel
theorem dX8_catchOf_156 : decode cX8_catchOf 156 = .ok (.invokestatic 155, 3) := by decide +kernel
theorem dX8_catchOf_159 : decode cX8_catchOf 159 = .ok (.iinc 2 1, 3) := by decide +kernel
theorem dX8_catchOf_162 : decode cX8_catchOf 162 = .ok (.goto (-124), 3) := by decide +kernel
theorem dX8_catchOf_165 : decode cX8_catchOf 165 = .ok (.iconst (-1), 1) := by decide +kernel
theorem dX8_catchOf_166 : decode cX8_catchOf 166 = .ok (.ireturn, 1) := by decide +kernel
theorem dX8_tellCorner_0 : decode cX8_tellCorner 0 = .ok (.iload_n 2, 1) := by decide +kernel
theorem dX8_tellCorner_1 : decode cX8_tellCorner 1 = .ok (.tableswitch 59 0 3 #[31, 37, 43, 53], 31) := by decide +kernel
theorem dX8_tellCorner_32 : decode cX8_tellCorner 32 = .ok (.aload_n 0, 1) := by decide +kernel
theorem dX8_tellCorner_33 : decode cX8_tellCorner 33 = .ok (.iload_n 1, 1) := by decide +kernel
theorem dX8_tellCorner_34 : decode cX8_tellCorner 34 = .ok (.invokevirtual 190, 3) := by decide +kernel
theorem dX8_tellCorner_37 : decode cX8_tellCorner 37 = .ok (.ireturn, 1) := by decide +kernel
theorem dX8_tellCorner_38 : decode cX8_tellCorner 38 = .ok (.aload_n 0, 1) := by decide +kernel
theorem dX8_tellCorner_39 : decode cX8_tellCorner 39 = .ok (.iload_n 1, 1) := by decide +kernel
theorem dX8_tellCorner_40 : decode cX8_tellCorner 40 = .ok (.invokevirtual 193, 3) := by decide +kernel
theorem dX8_tellCorner_43 : decode cX8_tellCorner 43 = .ok (.ireturn, 1) := by decide +kernel
theorem dX8_tellCorner_44 : decode cX8_tellCorner 44 = .ok (.aload_n 0, 1) := by decide +kernel
theorem dX8_tellCorner_45 : decode cX8_tellCorner 45 = .ok (.iload_n 1, 1) := by decide +kernel
theorem dX8_tellCorner_46 : decode cX8_tellCorner 46 = .ok (.aload_n 0, 1) := by decide +kernel
theorem dX8_tellCorner_47 : decode cX8_tellCorner 47 = .ok (.getfield 137, 3) := by decide +kernel
theorem dX8_tellCorner_50 : decode cX8_tellCorner 50 = .ok (.invokevirtual 196, 3) := by decide +kernel
theorem dX8_tellCorner_53 : decode cX8_tellCorner 53 = .ok (.ireturn, 1) := by decide +kernel
theorem dX8_tellCorner_54 : decode cX8_tellCorner 54 = .ok (.aload_n 0, 1) := by decide +kernel
theorem dX8_tellCorner_55 : decode cX8_tellCorner 55 = .ok (.iload_n 1, 1) := by decide +kernel
theorem dX8_tellCorner_56 : decode cX8_tellCorner 56 = .ok (.invokevirtual 199, 3) := by decide +kernel
theorem dX8_tellCorner_59 : decode cX8_tellCorner 59 = .ok (.ireturn, 1) := by decide +kernel
theorem dX8_tellCorner_60 : decode cX8_tellCorner 60 = .ok (.bipush (-102), 2) := by decide +kernel
theorem dX8_tellCorner_62 : decode cX8_tellCorner 62 = .ok (.ireturn, 1) := by decide +kernel
theorem dX8_corner_0 : decode cX8_corner 0 = .ok (.aload_n 0, 1) := by decide +kernel
theorem dX8_corner_1 : decode cX8_corner 1 = .ok (.iload_n 1, 1) := by decide +kernel
theorem dX8_corner_2 : decode cX8_corner 2 = .ok (.invokevirtual 202, 3) := by decide +kernel
theorem dX8_corner_5 : decode cX8_corner 5 = .ok (.ifCond .eq 12, 3) := by decide +kernel
theorem dX8_corner_8 : decode cX8_corner 8 = .ok (.aload_n 0, 1) := by decide +kernel
theorem dX8_corner_9 : decode cX8_corner 9 = .ok (.iload_n 1, 1) := by decide +kernel
theorem dX8_corner_10 : decode cX8_corner 10 = .ok (.iload_n 2, 1) := by decide +kernel
theorem dX8_corner_11 : decode cX8_corner 11 = .ok (.invokevirtual 205, 3) := by decide +kernel
theorem dX8_corner_14 : decode cX8_corner 14 = .ok (.goto 5, 3) := by decide +kernel
theorem dX8_corner_17 : decode cX8_corner 17 = .ok (.bipush (-101), 2) := by decide +kernel
theorem dX8_corner_19 : decode cX8_corner 19 = .ok (.ireturn, 1) := by decide +kernel
theorem dX8_far_0 : decode cX8_far 0 = .ok (.aload_n 0, 1) := by decide +kernel
theorem dX8_far_1 : decode cX8_far 1 = .ok (.iload_n 1, 1) := by decide +kernel
theorem dX8_far_2 : decode cX8_far 2 = .ok (.invokevirtual 202, 3) := by decide +kernel
theorem dX8_far_5 : decode cX8_far 5 = .ok (.ifCond .eq 20, 3) := by decide +kernel
theorem dX8_far_8 : decode cX8_far 8 = .ok (.aload_n 0, 1) := by decide +kernel
theorem dX8_far_9 : decode cX8_far 9 = .ok (.iload_n 2, 1) := by decide +kernel
theorem dX8_far_10 : decode cX8_far 10 = .ok (.invokevirtual 202, 3) := by decide +kernel
theorem dX8_far_13 : decode cX8_far 13 = .ok (.ifCond .eq 12, 3) := by decide +kernel
theorem dX8_far_16 : decode cX8_far 16 = .ok (.aload_n 0, 1) := by decide +kernel
theorem dX8_far_17 : decode cX8_far 17 = .ok (.iload_n 1, 1) := by decide +kernel
theorem dX8_far_18 : decode cX8_far 18 = .ok (.iload_n 2, 1) := by decide +kernel
theorem dX8_far_19 : decode cX8_far 19 = .ok (.invokevirtual 196, 3) := by decide +kernel
theorem dX8_far_22 : decode cX8_far 22 = .ok (.goto 5, 3) := by decide +kernel
theorem dX8_far_25 : decode cX8_far 25 = .ok (.bipush (-101), 2) := by decide +kernel
theorem dX8_far_27 : decode cX8_far 27 = .ok (.ireturn, 1) := by decide +kernel
theorem dX8_go_0 : decode cX8_go 0 = .ok (.aload_n 0, 1) := by decide +kernel
theorem dX8_go_1 : decode cX8_go 1 = .ok (.iload_n 1, 1) := by decide +kernel
theorem dX8_go_2 : decode cX8_go 2 = .ok (.invokevirtual 202, 3) := by decide +kernel
theorem dX8_go_5 : decode cX8_go 5 = .ok (.ifCond .ne 6, 3) := by decide +kernel
theorem dX8_go_8 : decode cX8_go 8 = .ok (.bipush (-101), 2) := by decide +kernel
theorem dX8_go_10 : decode cX8_go 10 = .ok (.ireturn, 1) := by decide +kernel
theorem dX8_go_11 : decode cX8_go 11 = .ok (.aload_n 0, 1) := by decide +kernel
theorem dX8_go_12 : decode cX8_go 12 = .ok (.aload_n 0, 1) := by decide +kernel
theorem dX8_go_13 : decode cX8_go 13 = .ok (.getfield 137, 3) := by decide +kernel
theorem dX8_go_16 : decode cX8_go 16 = .ok (.iload_n 1, 1) := by decide +kernel
theorem dX8_go_17 : decode cX8_go 17 = .ok (.invokevirtual 166, 3) := by decide +kernel
theorem dX8_go_20 : decode cX8_go 20 = .ok (.ifCond .ne 6, 3) := by decide +kernel
theorem dX8_go_23 : decode cX8_go 23 = .ok (.bipush (-103), 2) := by decide +kernel
theorem dX8_go_25 : decode cX8_go 25 = .ok (.ireturn, 1) := by decide +kernel
theorem dX8_go_26 : decode cX8_go 26 = .ok (.aload_n 0, 1) := by decide +kernel
theorem dX8_go_27 : decode cX8_go 27 = .ok (.getfield 146, 3) := by decide +kernel
theorem dX8_go_30 : decode cX8_go 30 = .ok (.sipush 999, 3) := by decide +kernel
theorem dX8_go_33 : decode cX8_go 33 = .ok (.if_icmp .ne 6, 3) := by decide +kernel
theorem dX8_go_36 : decode cX8_go 36 = .ok (.bipush (-104), 2) := by decide +kernel
theorem dX8_go_38 : decode cX8_go 38 = .ok (.ireturn, 1) := by decide +kernel
theorem dX8_go_39 : decode cX8_go 39 = .ok (.aload_n 0, 1) := by decide +kernel
theorem dX8_go_40 : decode cX8_go 40 = .ok (.dup, 1) := by decide +kernel
theorem dX8_go_41 : decode cX8_go 41 = .ok (.getfield 146, 3) := by decide +kernel
theorem dX8_go_44 : decode cX8_go 44 = .ok (.iconst 1, 1) := by decide +kernel
theorem dX8_go_45 : decode cX8_go 45 = .ok (.iadd, 1) := by decide +kernel
theorem dX8_go_46 : decode cX8_go 46 = .ok (.putfield 146, 3) := by decide +kernel
theorem dX8_go_49 : decode cX8_go 49 = .ok (.aload_n 0, 1) := by decide +kernel
theorem dX8_go_50 : decode cX8_go 50 = .ok (.iload_n 1, 1) := by decide +kernel
theorem dX8_go_51 : decode cX8_go 51 = .ok (.putfield 137, 3) := by decide +kernel
theorem dX8_go_54 : decode cX8_go 54 = .ok (.aload_n 0, 1) := by decide +kernel
theorem dX8_go_55 : decode cX8_go 55 = .ok (.invokevirtual 208, 3) := by decide +kernel
theorem dX8_go_58 : decode cX8_go 58 = .ok (.aload_n 0, 1) := by decide +kernel
theorem dX8_go_59 : decode cX8_go 59 = .ok (.aload_n 0, 1) := by decide +kernel
theorem dX8_go_60 : decode cX8_go 60 = .ok (.getfield 137, 3) := by decide +kernel
theorem dX8_go_63 : decode cX8_go 63 = .ok (.aload_n 0, 1) := by decide +kernel
theorem dX8_go_64 : decode cX8_go 64 = .ok (.getfield 146, 3) := by decide +kernel
theorem dX8_go_67 : decode cX8_go 67 = .ok (.invokevirtual 211, 3) := by decide +kernel
theorem dX8_go_70 : decode cX8_go 70 = .ok (.istore_n 2, 1) := by decide +kernel
theorem dX8_go_71 : decode cX8_go 71 = .ok (.aload_n 0, 1) := by decide +kernel
theorem dX8_go_72 : decode cX8_go 72 = .ok (.getfield 40, 3) := by decide +kernel
theorem dX8_go_75 : decode cX8_go 75 = .ok (.aload_n 0, 1) := by decide +kernel
theorem dX8_go_76 : decode cX8_go 76 = .ok (.getfield 31, 3) := by decide +kernel
theorem dX8_go_79 : decode cX8_go 79 = .ok (.invokestatic 155, 3) := by decide +kernel
theorem dX8_go_82 : decode cX8_go 82 = .ok (.aload_n 0, 1) := by decide +kernel
theorem dX8_go_83 : decode cX8_go 83 = .ok (.getfield 43, 3) := by decide +kernel
theorem dX8_go_86 : decode cX8_go 86 = .ok (.aload_n 0, 1) := by decide +kernel
theorem dX8_go_87 : decode cX8_go 87 = .ok (.getfield 34, 3) := by decide +kernel
theorem dX8_go_90 : decode cX8_go 90 = .ok (.invokestatic 155, 3) := by decide +kernel
theorem dX8_go_93 : decode cX8_go 93 = .ok (.iload_n 2, 1) := by decide +kernel
theorem dX8_go_94 : decode cX8_go 94 = .ok (.ireturn, 1) := by decide +kernel
theorem dX8_stand_0 : decode cX8_stand 0 = .ok (.aload_n 0, 1) := by decide +kernel
theorem dX8_stand_1 : decode cX8_stand 1 = .ok (.iload_n 1, 1) := by decide +kernel
theorem dX8_stand_2 : decode cX8_stand 2 = .ok (.invokevirtual 202, 3) := by decide +kernel
theorem dX8_stand_5 : decode cX8_stand 5 = .ok (.ifCond .ne 6, 3) := by decide +kernel
theorem dX8_stand_8 : decode cX8_stand 8 = .ok (.bipush (-101), 2) := by decide +kernel
theorem dX8_stand_10 : decode cX8_stand 10 = .ok (.ireturn, 1) := by decide +kernel
theorem dX8_stand_11 : decode cX8_stand 11 = .ok (.aload_n 0, 1) := by decide +kernel
theorem dX8_stand_12 : decode cX8_stand 12 = .ok (.getfield 137, 3) := by decide +kernel
theorem dX8_stand_15 : decode cX8_stand 15 = .ok (.istore_n 2, 1) := by decide +kernel
theorem dX8_stand_16 : decode cX8_stand 16 = .ok (.aload_n 0, 1) := by decide +kernel
theorem dX8_stand_17 : decode cX8_stand 17 = .ok (.iload_n 1, 1) := by decide +kernel
theorem dX8_stand_18 : decode cX8_stand 18 = .ok (.putfield 137, 3) := by decide +kernel
theorem dX8_stand_21 : decode cX8_stand 21 = .ok (.iload_n 2, 1) := by decide +kernel
theorem dX8_stand_22 : decode cX8_stand 22 = .ok (.ireturn, 1) := by decide +kernel
theorem dX8_call_0 : decode cX8_call 0 = .ok (.aload_n 0, 1) := by decide +kernel
theorem dX8_call_1 : decode cX8_call 1 = .ok (.iload_n 1, 1) := by decide +kernel
theorem dX8_call_2 : decode cX8_call 2 = .ok (.invokevirtual 175, 3) := by decide +kernel
theorem dX8_call_5 : decode cX8_call 5 = .ok (.ifCond .ne 6, 3) := by decide +kernel
theorem dX8_call_8 : decode cX8_call 8 = .ok (.bipush (-101), 2) := by decide +kernel
theorem dX8_call_10 : decode cX8_call 10 = .ok (.ireturn, 1) := by decide +kernel
theorem dX8_call_11 : decode cX8_call 11 = .ok (.iload_n 2, 1) := by decide +kernel
theorem dX8_call_12 : decode cX8_call 12 = .ok (.i2l, 1) := by decide +kernel
theorem dX8_call_13 : decode cX8_call 13 = .ok (.lconst 0, 1) := by decide +kernel
theorem dX8_call_14 : decode cX8_call 14 = .ok (.ldc2_w 182, 3) := by decide +kernel
theorem dX8_call_17 : decode cX8_call 17 = .ok (.invokestatic 92, 3) := by decide +kernel
theorem dX8_call_20 : decode cX8_call 20 = .ok (.ifCond .eq 28, 3) := by decide +kernel
theorem dX8_call_23 : decode cX8_call 23 = .ok (.iload_n 3, 1) := by decide +kernel
theorem dX8_call_24 : decode cX8_call 24 = .ok (.i2l, 1) := by decide +kernel
theorem dX8_call_25 : decode cX8_call 25 = .ok (.lconst 0, 1) := by decide +kernel
theorem dX8_call_26 : decode cX8_call 26 = .ok (.ldc2_w 214, 3) := by decide +kernel
theorem dX8_call_29 : decode cX8_call 29 = .ok (.invokestatic 92, 3) := by decide +kernel
theorem dX8_call_32 : decode cX8_call 32 = .ok (.ifCond .eq 16, 3) := by decide +kernel
theorem dX8_call_35 : decode cX8_call 35 = .ok (.iload 4, 2) := by decide +kernel
theorem dX8_call_37 : decode cX8_call 37 = .ok (.i2l, 1) := by decide +kernel
theorem dX8_call_38 : decode cX8_call 38 = .ok (.lconst 0, 1) := by decide +kernel
theorem dX8_call_39 : decode cX8_call 39 = .ok (.ldc2_w 214, 3) := by decide +kernel
theorem dX8_call_42 : decode cX8_call 42 = .ok (.invokestatic 92, 3) := by decide +kernel
theorem dX8_call_45 : decode cX8_call 45 = .ok (.ifCond .ne 6, 3) := by decide +kernel
theorem dX8_call_48 : decode cX8_call 48 = .ok (.bipush (-102), 2) := by decide +kernel
theorem dX8_call_50 : decode cX8_call 50 = .ok (.ireturn, 1) := by decide +kernel
theorem dX8_call_51 : decode cX8_call 51 = .ok (.aload_n 0, 1) := by decide +kernel
theorem dX8_call_52 : decode cX8_call 52 = .ok (.getfield 19, 3) := by decide +kernel
theorem dX8_call_55 : decode cX8_call 55 = .ok (.iload_n 1, 1) := by decide +kernel
theorem dX8_call_56 : decode cX8_call 56 = .ok (.iaload, 1) := by decide +kernel
theorem dX8_call_57 : decode cX8_call 57 = .ok (.istore 5, 2) := by decide +kernel
theorem dX8_call_59 : decode cX8_call 59 = .ok (.aload_n 0, 1) := by decide +kernel
theorem dX8_call_60 : decode cX8_call 60 = .ok (.getfield 19, 3) := by decide +kernel
theorem dX8_call_63 : decode cX8_call 63 = .ok (.iload_n 1, 1) := by decide +kernel
theorem dX8_call_64 : decode cX8_call 64 = .ok (.iload_n 2, 1) := by decide +kernel
theorem dX8_call_65 : decode cX8_call 65 = .ok (.iastore, 1) := by decide +kernel
theorem dX8_call_66 : decode cX8_call 66 = .ok (.aload_n 0, 1) := by decide +kernel
theorem dX8_call_67 : decode cX8_call 67 = .ok (.getfield 25, 3) := by decide +kernel
theorem dX8_call_70 : decode cX8_call 70 = .ok (.iload_n 1, 1) := by decide +kernel
theorem dX8_call_71 : decode cX8_call 71 = .ok (.iload_n 3, 1) := by decide +kernel
theorem dX8_call_72 : decode cX8_call 72 = .ok (.iastore, 1) := by decide +kernel
theorem dX8_call_73 : decode cX8_call 73 = .ok (.aload_n 0, 1) := by decide +kernel
theorem dX8_call_74 : decode cX8_call 74 = .ok (.getfield 28, 3) := by decide +kernel
theorem dX8_call_77 : decode cX8_call 77 = .ok (.iload_n 1, 1) := by decide +kernel
theorem dX8_call_78 : decode cX8_call 78 = .ok (.iload 4, 2) := by decide +kernel
theorem dX8_call_80 : decode cX8_call 80 = .ok (.iastore, 1) := by decide +kernel
theorem dX8_call_81 : decode cX8_call 81 = .ok (.aload_n 0, 1) := by decide +kernel
theorem dX8_call_82 : decode cX8_call 82 = .ok (.getfield 31, 3) := by decide +kernel
theorem dX8_call_85 : decode cX8_call 85 = .ok (.iload_n 1, 1) := by decide +kernel
theorem dX8_call_86 : decode cX8_call 86 = .ok (.iconst 0, 1) := by decide +kernel
theorem dX8_call_87 : decode cX8_call 87 = .ok (.iastore, 1) := by decide +kernel
theorem dX8_call_88 : decode cX8_call 88 = .ok (.aload_n 0, 1) := by decide +kernel
theorem dX8_call_89 : decode cX8_call 89 = .ok (.getfield 34, 3) := by decide +kernel
theorem dX8_call_92 : decode cX8_call 92 = .ok (.iload_n 1, 1) := by decide +kernel
theorem dX8_call_93 : decode cX8_call 93 = .ok (.iconst 0, 1) := by decide +kernel
theorem dX8_call_94 : decode cX8_call 94 = .ok (.iastore, 1) := by decide +kernel
theorem dX8_call_95 : decode cX8_call 95 = .ok (.iload 5, 2) := by decide +kernel
theorem dX8_call_97 : decode cX8_call 97 = .ok (.ireturn, 1) := by decide +kernel
theorem dX8_figure_0 : decode cX8_figure 0 = .ok (.iload_n 0, 1) := by decide +kernel
theorem dX8_figure_1 : decode cX8_figure 1 = .ok (.istore_n 3, 1) := by decide +kernel
theorem dX8_figure_2 : decode cX8_figure 2 = .ok (.iload_n 2, 1) := by decide +kernel
theorem dX8_figure_3 : decode cX8_figure 3 = .ok (.iconst 1, 1) := by decide +kernel
theorem dX8_figure_4 : decode cX8_figure 4 = .ok (.iadd, 1) := by decide +kernel
theorem dX8_figure_5 : decode cX8_figure 5 = .ok (.istore 4, 2) := by decide +kernel
theorem dX8_figure_7 : decode cX8_figure 7 = .ok (.iload 4, 2) := by decide +kernel
theorem dX8_figure_9 : decode cX8_figure 9 = .ok (.iload_n 1, 1) := by decide +kernel
theorem dX8_figure_10 : decode cX8_figure 10 = .ok (.if_icmp .ge 14, 3) := by decide +kernel
theorem dX8_figure_13 : decode cX8_figure 13 = .ok (.iload_n 3, 1) := by decide +kernel
theorem dX8_figure_14 : decode cX8_figure 14 = .ok (.bipush 6, 2) := by decide +kernel
theorem dX8_figure_16 : decode cX8_figure 16 = .ok (.idiv, 1) := by decide +kernel
theorem dX8_figure_17 : decode cX8_figure 17 = .ok (.istore_n 3, 1) := by decide +kernel
theorem dX8_figure_18 : decode cX8_figure 18 = .ok (.iinc 4 1, 3) := by decide +kernel
theorem dX8_figure_21 : decode cX8_figure 21 = .ok (.goto (-14), 3) := by decide +kernel
theorem dX8_figure_24 : decode cX8_figure 24 = .ok (.iload_n 3, 1) := by decide +kernel
theorem dX8_figure_25 : decode cX8_figure 25 = .ok (.bipush 6, 2) := by decide +kernel
theorem dX8_figure_27 : decode cX8_figure 27 = .ok (.irem, 1) := by decide +kernel
theorem dX8_figure_28 : decode cX8_figure 28 = .ok (.ireturn, 1) := by decide +kernel
theorem dX8_worthOf_0 : decode cX8_worthOf 0 = .ok (.aload_n 0, 1) := by decide +kernel
theorem dX8_worthOf_1 : decode cX8_worthOf 1 = .ok (.invokevirtual 208, 3) := by decide +kernel
theorem dX8_worthOf_4 : decode cX8_worthOf 4 = .ok (.aload_n 0, 1) := by decide +kernel
theorem dX8_worthOf_5 : decode cX8_worthOf 5 = .ok (.getfield 137, 3) := by decide +kernel
theorem dX8_worthOf_8 : decode cX8_worthOf 8 = .ok (.istore_n 3, 1) := by decide +kernel
theorem dX8_worthOf_9 : decode cX8_worthOf 9 = .ok (.iconst 0, 1) := by decide +kernel
theorem dX8_worthOf_10 : decode cX8_worthOf 10 = .ok (.istore 4, 2) := by decide +kernel
theorem dX8_worthOf_12 : decode cX8_worthOf 12 = .ok (.iconst 0, 1) := by decide +kernel
theorem dX8_worthOf_13 : decode cX8_worthOf 13 = .ok (.istore 5, 2) := by decide +kernel
theorem dX8_worthOf_15 : decode cX8_worthOf 15 = .ok (.iload 5, 2) := by decide +kernel
theorem dX8_worthOf_17 : decode cX8_worthOf 17 = .ok (.iload_n 2, 1) := by decide +kernel
theorem dX8_worthOf_18 : decode cX8_worthOf 18 = .ok (.if_icmp .ge 65, 3) := by decide +kernel
theorem dX8_worthOf_21 : decode cX8_worthOf 21 = .ok (.iload_n 1, 1) := by decide +kernel
theorem dX8_worthOf_22 : decode cX8_worthOf 22 = .ok (.iload_n 2, 1) := by decide +kernel
theorem dX8_worthOf_23 : decode cX8_worthOf 23 = .ok (.iload 5, 2) := by decide +kernel
theorem dX8_worthOf_25 : decode cX8_worthOf 25 = .ok (.invokestatic 216, 3) := by decide +kernel
theorem dX8_worthOf_28 : decode cX8_worthOf 28 = .ok (.istore 6, 2) := by decide +kernel
theorem dX8_worthOf_30 : decode cX8_worthOf 30 = .ok (.iload 6, 2) := by decide +kernel
theorem dX8_worthOf_32 : decode cX8_worthOf 32 = .ok (.aload_n 0, 1) := by decide +kernel
theorem dX8_worthOf_33 : decode cX8_worthOf 33 = .ok (.getfield 134, 3) := by decide +kernel
theorem dX8_worthOf_36 : decode cX8_worthOf 36 = .ok (.if_icmp .ge 13, 3) := by decide +kernel
theorem dX8_worthOf_39 : decode cX8_worthOf 39 = .ok (.aload_n 0, 1) := by decide +kernel
theorem dX8_worthOf_40 : decode cX8_worthOf 40 = .ok (.iload_n 3, 1) := by decide +kernel
theorem dX8_worthOf_41 : decode cX8_worthOf 41 = .ok (.iload 6, 2) := by decide +kernel
theorem dX8_worthOf_43 : decode cX8_worthOf 43 = .ok (.invokevirtual 166, 3) := by decide +kernel
theorem dX8_worthOf_46 : decode cX8_worthOf 46 = .ok (.ifCond .ne 5, 3) := by decide +kernel
theorem dX8_worthOf_49 : decode cX8_worthOf 49 = .ok (.iconst (-1), 1) := by decide +kernel
theorem dX8_worthOf_50 : decode cX8_worthOf 50 = .ok (.ireturn, 1) := by decide +kernel
theorem dX8_worthOf_51 : decode cX8_worthOf 51 = .ok (.iload 4, 2) := by decide +kernel
theorem dX8_worthOf_53 : decode cX8_worthOf 53 = .ok (.bipush 100, 2) := by decide +kernel
theorem dX8_worthOf_55 : decode cX8_worthOf 55 = .ok (.aload_n 0, 1) := by decide +kernel
theorem dX8_worthOf_56 : decode cX8_worthOf 56 = .ok (.iload 6, 2) := by decide +kernel
theorem dX8_worthOf_58 : decode cX8_worthOf 58 = .ok (.aload_n 0, 1) := by decide +kernel
theorem dX8_worthOf_59 : decode cX8_worthOf 59 = .ok (.getfield 146, 3) := by decide +kernel
theorem dX8_worthOf_62 : decode cX8_worthOf 62 = .ok (.iload 5, 2) := by decide +kernel
theorem dX8_worthOf_64 : decode cX8_worthOf 64 = .ok (.iadd, 1) := by decide +kernel
theorem dX8_worthOf_65 : decode cX8_worthOf 65 = .ok (.iconst 1, 1) := by decide +kernel
theorem dX8_worthOf_66 : decode cX8_worthOf 66 = .ok (.iadd, 1) := by decide +kernel
theorem dX8_worthOf_67 : decode cX8_worthOf 67 = .ok (.invokevirtual 211, 3) := by decide +kernel
theorem dX8_worthOf_70 : decode cX8_worthOf 70 = .ok (.imul, 1) := by decide +kernel
theorem dX8_worthOf_71 : decode cX8_worthOf 71 = .ok (.iadd, 1) := by decide +kernel
theorem dX8_worthOf_72 : decode cX8_worthOf 72 = .ok (.istore 4, 2) := by decide +kernel
theorem dX8_worthOf_74 : decode cX8_worthOf 74 = .ok (.iload 6, 2) := by decide +kernel
theorem dX8_worthOf_76 : decode cX8_worthOf 76 = .ok (.istore_n 3, 1) := by decide +kernel
theorem dX8_worthOf_77 : decode cX8_worthOf 77 = .ok (.iinc 5 1, 3) := by decide +kernel
theorem dX8_worthOf_80 : decode cX8_worthOf 80 = .ok (.goto (-65), 3) := by decide +kernel
theorem dX8_worthOf_83 : decode cX8_worthOf 83 = .ok (.iconst 0, 1) := by decide +kernel
theorem dX8_worthOf_84 : decode cX8_worthOf 84 = .ok (.istore 5, 2) := by decide +kernel
theorem dX8_worthOf_86 : decode cX8_worthOf 86 = .ok (.iload 5, 2) := by decide +kernel
theorem dX8_worthOf_88 : decode cX8_worthOf 88 = .ok (.aload_n 0, 1) := by decide +kernel
theorem dX8_worthOf_89 : decode cX8_worthOf 89 = .ok (.getfield 140, 3) := by decide +kernel
theorem dX8_worthOf_92 : decode cX8_worthOf 92 = .ok (.if_icmp .ge 35, 3) := by decide +kernel
theorem dX8_worthOf_95 : decode cX8_worthOf 95 = .ok (.iload 4, 2) := by decide +kernel
theorem dX8_worthOf_97 : decode cX8_worthOf 97 = .ok (.aload_n 0, 1) := by decide +kernel
theorem dX8_worthOf_98 : decode cX8_worthOf 98 = .ok (.getfield 43, 3) := by decide +kernel
theorem dX8_worthOf_101 : decode cX8_worthOf 101 = .ok (.iload 5, 2) := by decide +kernel
theorem dX8_worthOf_103 : decode cX8_worthOf 103 = .ok (.iaload, 1) := by decide +kernel
theorem dX8_worthOf_104 : decode cX8_worthOf 104 = .ok (.ifCond .ne 13, 3) := by decide +kernel
theorem dX8_worthOf_107 : decode cX8_worthOf 107 = .ok (.aload_n 0, 1) := by decide +kernel
theorem dX8_worthOf_108 : decode cX8_worthOf 108 = .ok (.getfield 40, 3) := by decide +kernel
theorem dX8_worthOf_111 : decode cX8_worthOf 111 = .ok (.iload 5, 2) := by decide +kernel
theorem dX8_worthOf_113 : decode cX8_worthOf 113 = .ok (.iaload, 1) := by decide +kernel
theorem dX8_worthOf_114 : decode cX8_worthOf 114 = .ok (.goto 4, 3) := by decide +kernel
theorem dX8_worthOf_117 : decode cX8_worthOf 117 = .ok (.iconst 0, 1) := by decide +kernel
theorem dX8_worthOf_118 : decode cX8_worthOf 118 = .ok (.iadd, 1) := by decide +kernel
theorem dX8_worthOf_119 : decode cX8_worthOf 119 = .ok (.istore 4, 2) := by decide +kernel
theorem dX8_worthOf_121 : decode cX8_worthOf 121 = .ok (.iinc 5 1, 3) := by decide +kernel
theorem dX8_worthOf_124 : decode cX8_worthOf 124 = .ok (.goto (-38), 3) := by decide +kernel
theorem dX8_worthOf_127 : decode cX8_worthOf 127 = .ok (.iload 4, 2) := by decide +kernel
theorem dX8_worthOf_129 : decode cX8_worthOf 129 = .ok (.ireturn, 1) := by decide +kernel
theorem dX8_roundOf_0 : decode cX8_roundOf 0 = .ok (.iconst 1, 1) := by decide +kernel
theorem dX8_roundOf_1 : decode cX8_roundOf 1 = .ok (.istore_n 3, 1) := by decide +kernel
theorem dX8_roundOf_2 : decode cX8_roundOf 2 = .ok (.iconst 0, 1) := by decide +kernel
theorem dX8_roundOf_3 : decode cX8_roundOf 3 = .ok (.istore 4, 2) := by decide +kernel
theorem dX8_roundOf_5 : decode cX8_roundOf 5 = .ok (.iload 4, 2) := by decide +kernel
theorem dX8_roundOf_7 : decode cX8_roundOf 7 = .ok (.iload_n 1, 1) := by decide +kernel
theorem dX8_roundOf_8 : decode cX8_roundOf 8 = .ok (.if_icmp .ge 14, 3) := by decide +kernel
theorem dX8_roundOf_11 : decode cX8_roundOf 11 = .ok (.iload_n 3, 1) := by decide +kernel
theorem dX8_roundOf_12 : decode cX8_roundOf 12 = .ok (.bipush 6, 2) := by decide +kernel
theorem dX8_roundOf_14 : decode cX8_roundOf 14 = .ok (.imul, 1) := by decide +kernel
theorem dX8_roundOf_15 : decode cX8_roundOf 15 = .ok (.istore_n 3, 1) := by decide +kernel
theorem dX8_roundOf_16 : decode cX8_roundOf 16 = .ok (.iinc 4 1, 3) := by decide +kernel
theorem dX8_roundOf_19 : decode cX8_roundOf 19 = .ok (.goto (-14), 3) := by decide +kernel
theorem dX8_roundOf_22 : decode cX8_roundOf 22 = .ok (.iconst 0, 1) := by decide +kernel
theorem dX8_roundOf_23 : decode cX8_roundOf 23 = .ok (.istore 4, 2) := by decide +kernel
theorem dX8_roundOf_25 : decode cX8_roundOf 25 = .ok (.iconst (-1), 1) := by decide +kernel
theorem dX8_roundOf_26 : decode cX8_roundOf 26 = .ok (.istore 5, 2) := by decide +kernel
theorem dX8_roundOf_28 : decode cX8_roundOf 28 = .ok (.iconst 0, 1) := by decide +kernel
theorem dX8_roundOf_29 : decode cX8_roundOf 29 = .ok (.istore 6, 2) := by decide +kernel
theorem dX8_roundOf_31 : decode cX8_roundOf 31 = .ok (.iload 6, 2) := by decide +kernel
theorem dX8_roundOf_33 : decode cX8_roundOf 33 = .ok (.iload_n 3, 1) := by decide +kernel
theorem dX8_roundOf_34 : decode cX8_roundOf 34 = .ok (.if_icmp .ge 50, 3) := by decide +kernel
theorem dX8_roundOf_37 : decode cX8_roundOf 37 = .ok (.aload_n 0, 1) := by decide +kernel
theorem dX8_roundOf_38 : decode cX8_roundOf 38 = .ok (.iload 6, 2) := by decide +kernel
theorem dX8_roundOf_40 : decode cX8_roundOf 40 = .ok (.iload_n 1, 1) := by decide +kernel
theorem dX8_roundOf_41 : decode cX8_roundOf 41 = .ok (.invokevirtual 220, 3) := by decide +kernel
theorem dX8_roundOf_44 : decode cX8_roundOf 44 = .ok (.istore 7, 2) := by decide +kernel
theorem dX8_roundOf_46 : decode cX8_roundOf 46 = .ok (.iload 7, 2) := by decide +kernel
theorem dX8_roundOf_48 : decode cX8_roundOf 48 = .ok (.iload 5, 2) := by decide +kernel
theorem dX8_roundOf_50 : decode cX8_roundOf 50 = .ok (.if_icmp .le 8, 3) := by decide +kernel
theorem dX8_roundOf_53 : decode cX8_roundOf 53 = .ok (.iload 6, 2) := by decide +kernel
theorem dX8_roundOf_55 : decode cX8_roundOf 55 = .ok (.goto 5, 3) := by decide +kernel
theorem dX8_roundOf_58 : decode cX8_roundOf 58 = .ok (.iload 4, 2) := by decide +kernel
theorem dX8_roundOf_60 : decode cX8_roundOf 60 = .ok (.istore 4, 2) := by decide +kernel
theorem dX8_roundOf_62 : decode cX8_roundOf 62 = .ok (.iload 7, 2) := by decide +kernel
theorem dX8_roundOf_64 : decode cX8_roundOf 64 = .ok (.iload 5, 2) := by decide +kernel
theorem dX8_roundOf_66 : decode cX8_roundOf 66 = .ok (.if_icmp .le 8, 3) := by decide +kernel
theorem dX8_roundOf_69 : decode cX8_roundOf 69 = .ok (.iload 7, 2) := by decide +kernel
theorem dX8_roundOf_71 : decode cX8_roundOf 71 = .ok (.goto 5, 3) := by decide +kernel
theorem dX8_roundOf_74 : decode cX8_roundOf 74 = .ok (.iload 5, 2) := by decide +kernel
theorem dX8_roundOf_76 : decode cX8_roundOf 76 = .ok (.istore 5, 2) := by decide +kernel
theorem dX8_roundOf_78 : decode cX8_roundOf 78 = .ok (.iinc 6 1, 3) := by decide +kernel
theorem dX8_roundOf_81 : decode cX8_roundOf 81 = .ok (.goto (-50), 3) := by decide +kernel
theorem dX8_roundOf_84 : decode cX8_roundOf 84 = .ok (.iload_n 2, 1) := by decide +kernel
theorem dX8_roundOf_85 : decode cX8_roundOf 85 = .ok (.iconst 2, 1) := by decide +kernel
theorem dX8_roundOf_86 : decode cX8_roundOf 86 = .ok (.if_icmp .ge 21, 3) := by decide +kernel
theorem dX8_roundOf_89 : decode cX8_roundOf 89 = .ok (.iload_n 2, 1) := by decide +kernel
theorem dX8_roundOf_90 : decode cX8_roundOf 90 = .ok (.ifCond .ne 11, 3) := by decide +kernel
theorem dX8_roundOf_93 : decode cX8_roundOf 93 = .ok (.iload 5, 2) := by decide +kernel
theorem dX8_roundOf_95 : decode cX8_roundOf 95 = .ok (.bipush 100, 2) := by decide +kernel
theorem dX8_roundOf_97 : decode cX8_roundOf 97 = .ok (.idiv, 1) := by decide +kernel
theorem dX8_roundOf_98 : decode cX8_roundOf 98 = .ok (.goto 8, 3) := by decide +kernel
theorem dX8_roundOf_101 : decode cX8_roundOf 101 = .ok (.iload 5, 2) := by decide +kernel
theorem dX8_roundOf_103 : decode cX8_roundOf 103 = .ok (.bipush 100, 2) := by decide +kernel
theorem dX8_roundOf_105 : decode cX8_roundOf 105 = .ok (.irem, 1) := by decide +kernel
theorem dX8_roundOf_106 : decode cX8_roundOf 106 = .ok (.ireturn, 1) := by decide +kernel
theorem dX8_roundOf_107 : decode cX8_roundOf 107 = .ok (.iload_n 2, 1) := by decide +kernel
theorem dX8_roundOf_108 : decode cX8_roundOf 108 = .ok (.bipush 10, 2) := by decide +kernel
theorem dX8_roundOf_110 : decode cX8_roundOf 110 = .ok (.isub, 1) := by decide +kernel
theorem dX8_roundOf_111 : decode cX8_roundOf 111 = .ok (.iload_n 1, 1) := by decide +kernel
theorem dX8_roundOf_112 : decode cX8_roundOf 112 = .ok (.if_icmp .ge 16, 3) := by decide +kernel
theorem dX8_roundOf_115 : decode cX8_roundOf 115 = .ok (.iload 4, 2) := by decide +kernel
theorem dX8_roundOf_117 : decode cX8_roundOf 117 = .ok (.iload_n 1, 1) := by decide +kernel
theorem dX8_roundOf_118 : decode cX8_roundOf 118 = .ok (.iload_n 2, 1) := by decide +kernel
theorem dX8_roundOf_119 : decode cX8_roundOf 119 = .ok (.bipush 10, 2) := by decide +kernel
theorem dX8_roundOf_121 : decode cX8_roundOf 121 = .ok (.isub, 1) := by decide +kernel
theorem dX8_roundOf_122 : decode cX8_roundOf 122 = .ok (.invokestatic 216, 3) := by decide +kernel
theorem dX8_roundOf_125 : decode cX8_roundOf 125 = .ok (.goto 4, 3) := by decide +kernel
theorem dX8_roundOf_128 : decode cX8_roundOf 128 = .ok (.iconst (-1), 1) := by decide +kernel
theorem dX8_roundOf_129 : decode cX8_roundOf 129 = .ok (.ireturn, 1) := by decide +kernel
theorem dX8_round_0 : decode cX8_round 0 = .ok (.iload_n 1, 1) := by decide +kernel
theorem dX8_round_1 : decode cX8_round 1 = .ok (.i2l, 1) := by decide +kernel
theorem dX8_round_2 : decode cX8_round 2 = .ok (.lconst 1, 1) := by decide +kernel
theorem dX8_round_3 : decode cX8_round 3 = .ok (.ldc2_w 223, 3) := by decide +kernel
theorem dX8_round_6 : decode cX8_round 6 = .ok (.invokestatic 92, 3) := by decide +kernel
theorem dX8_round_9 : decode cX8_round 9 = .ok (.ifCond .eq 27, 3) := by decide +kernel
theorem dX8_round_12 : decode cX8_round 12 = .ok (.iload_n 2, 1) := by decide +kernel
theorem dX8_round_13 : decode cX8_round 13 = .ok (.i2l, 1) := by decide +kernel
theorem dX8_round_14 : decode cX8_round 14 = .ok (.lconst 0, 1) := by decide +kernel
theorem dX8_round_15 : decode cX8_round 15 = .ok (.lconst 1, 1) := by decide +kernel
theorem dX8_round_16 : decode cX8_round 16 = .ok (.invokestatic 92, 3) := by decide +kernel
theorem dX8_round_19 : decode cX8_round 19 = .ok (.ifCond .ne 20, 3) := by decide +kernel
theorem dX8_round_22 : decode cX8_round 22 = .ok (.iload_n 2, 1) := by decide +kernel
theorem dX8_round_23 : decode cX8_round 23 = .ok (.i2l, 1) := by decide +kernel
theorem dX8_round_24 : decode cX8_round 24 = .ok (.ldc2_w 225, 3) := by decide +kernel
theorem dX8_round_27 : decode cX8_round 27 = .ok (.ldc2_w 227, 3) := by decide +kernel
theorem dX8_round_30 : decode cX8_round 30 = .ok (.invokestatic 92, 3) := by decide +kernel
theorem dX8_round_33 : decode cX8_round 33 = .ok (.ifCond .ne 6, 3) := by decide +kernel
theorem dX8_round_36 : decode cX8_round 36 = .ok (.bipush (-102), 2) := by decide +kernel
theorem dX8_round_38 : decode cX8_round 38 = .ok (.ireturn, 1) := by decide +kernel
theorem dX8_round_39 : decode cX8_round 39 = .ok (.aload_n 0, 1) := by decide +kernel
theorem dX8_round_40 : decode cX8_round 40 = .ok (.invokevirtual 229, 3) := by decide +kernel
theorem dX8_round_43 : decode cX8_round 43 = .ok (.ifCond .ne 12, 3) := by decide +kernel
theorem dX8_round_46 : decode cX8_round 46 = .ok (.aload_n 0, 1) := by decide +kernel
theorem dX8_round_47 : decode cX8_round 47 = .ok (.getfield 233, 3) := by decide +kernel
theorem dX8_round_50 : decode cX8_round 50 = .ok (.bipush 20, 2) := by decide +kernel
theorem dX8_round_52 : decode cX8_round 52 = .ok (.if_icmp .ne 6, 3) := by decide +kernel
theorem dX8_round_55 : decode cX8_round 55 = .ok (.bipush (-103), 2) := by decide +kernel
theorem dX8_round_57 : decode cX8_round 57 = .ok (.ireturn, 1) := by decide +kernel
theorem dX8_round_58 : decode cX8_round 58 = .ok (.aload_n 0, 1) := by decide +kernel
theorem dX8_round_59 : decode cX8_round 59 = .ok (.dup, 1) := by decide +kernel
theorem dX8_round_60 : decode cX8_round 60 = .ok (.getfield 233, 3) := by decide +kernel
theorem dX8_round_63 : decode cX8_round 63 = .ok (.iconst 1, 1) := by decide +kernel
theorem dX8_round_64 : decode cX8_round 64 = .ok (.iadd, 1) := by decide +kernel
theorem dX8_round_65 : decode cX8_round 65 = .ok (.putfield 233, 3) := by decide +kernel
theorem dX8_round_68 : decode cX8_round 68 = .ok (.aload_n 0, 1) := by decide +kernel
theorem dX8_round_69 : decode cX8_round 69 = .ok (.iload_n 1, 1) := by decide +kernel
theorem dX8_round_70 : decode cX8_round 70 = .ok (.iload_n 2, 1) := by decide +kernel
theorem dX8_round_71 : decode cX8_round 71 = .ok (.invokevirtual 236, 3) := by decide +kernel
theorem dX8_round_74 : decode cX8_round 74 = .ok (.ireturn, 1) := by decide +kernel
theorem dX8_roadsAt_0 : decode cX8_roadsAt 0 = .ok (.iconst 0, 1) := by decide +kernel
theorem dX8_roadsAt_1 : decode cX8_roadsAt 1 = .ok (.istore_n 2, 1) := by decide +kernel
theorem dX8_roadsAt_2 : decode cX8_roadsAt 2 = .ok (.iconst 0, 1) := by decide +kernel
theorem dX8_roadsAt_3 : decode cX8_roadsAt 3 = .ok (.istore_n 3, 1) := by decide +kernel
theorem dX8_roadsAt_4 : decode cX8_roadsAt 4 = .ok (.iload_n 3, 1) := by decide +kernel
theorem dX8_roadsAt_5 : decode cX8_roadsAt 5 = .ok (.aload_n 0, 1) := by decide +kernel
theorem dX8_roadsAt_6 : decode cX8_roadsAt 6 = .ok (.getfield 131, 3) := by decide +kernel
theorem dX8_roadsAt_9 : decode cX8_roadsAt 9 = .ok (.if_icmp .ge 37, 3) := by decide +kernel
theorem dX8_roadsAt_12 : decode cX8_roadsAt 12 = .ok (.iload_n 2, 1) := by decide +kernel
theorem dX8_roadsAt_13 : decode cX8_roadsAt 13 = .ok (.aload_n 0, 1) := by decide +kernel
theorem dX8_roadsAt_14 : decode cX8_roadsAt 14 = .ok (.getfield 13, 3) := by decide +kernel
theorem dX8_roadsAt_17 : decode cX8_roadsAt 17 = .ok (.iload_n 3, 1) := by decide +kernel
theorem dX8_roadsAt_18 : decode cX8_roadsAt 18 = .ok (.iaload, 1) := by decide +kernel
theorem dX8_roadsAt_19 : decode cX8_roadsAt 19 = .ok (.iload_n 1, 1) := by decide +kernel
theorem dX8_roadsAt_20 : decode cX8_roadsAt 20 = .ok (.if_icmp .eq 13, 3) := by decide +kernel
theorem dX8_roadsAt_23 : decode cX8_roadsAt 23 = .ok (.aload_n 0, 1) := by decide +kernel
theorem dX8_roadsAt_24 : decode cX8_roadsAt 24 = .ok (.getfield 16, 3) := by decide +kernel
theorem dX8_roadsAt_27 : decode cX8_roadsAt 27 = .ok (.iload_n 3, 1) := by decide +kernel
theorem dX8_roadsAt_28 : decode cX8_roadsAt 28 = .ok (.iaload, 1) := by decide +kernel
theorem dX8_roadsAt_29 : decode cX8_roadsAt 29 = .ok (.iload_n 1, 1) := by decide +kernel
theorem dX8_roadsAt_30 : decode cX8_roadsAt 30 = .ok (.if_icmp .ne 7, 3) := by decide +kernel
theorem dX8_roadsAt_33 : decode cX8_roadsAt 33 = .ok (.iconst 1, 1) := by decide +kernel
theorem dX8_roadsAt_34 : decode cX8_roadsAt 34 = .ok (.goto 4, 3) := by decide +kernel
theorem dX8_roadsAt_37 : decode cX8_roadsAt 37 = .ok (.iconst 0, 1) := by decide +kernel
theorem dX8_roadsAt_38 : decode cX8_roadsAt 38 = .ok (.iadd, 1) := by decide +kernel
theorem dX8_roadsAt_39 : decode cX8_roadsAt 39 = .ok (.istore_n 2, 1) := by decide +kernel
theorem dX8_roadsAt_40 : decode cX8_roadsAt 40 = .ok (.iinc 3 1, 3) := by decide +kernel
theorem dX8_roadsAt_43 : decode cX8_roadsAt 43 = .ok (.goto (-39), 3) := by decide +kernel
theorem dX8_roadsAt_46 : decode cX8_roadsAt 46 = .ok (.iload_n 2, 1) := by decide +kernel
theorem dX8_roadsAt_47 : decode cX8_roadsAt 47 = .ok (.ireturn, 1) := by decide +kernel
theorem dX8_stray_0 : decode cX8_stray 0 = .ok (.iconst 0, 1) := by decide +kernel
theorem dX8_stray_1 : decode cX8_stray 1 = .ok (.istore_n 1, 1) := by decide +kernel
theorem dX8_stray_2 : decode cX8_stray 2 = .ok (.iload_n 1, 1) := by decide +kernel
theorem dX8_stray_3 : decode cX8_stray 3 = .ok (.bipush 6, 2) := by decide +kernel
theorem dX8_stray_5 : decode cX8_stray 5 = .ok (.if_icmp .ge 16, 3) := by decide +kernel
theorem dX8_stray_8 : decode cX8_stray 8 = .ok (.aload_n 0, 1) := by decide +kernel
theorem dX8_stray_9 : decode cX8_stray 9 = .ok (.getfield 62, 3) := by decide +kernel
theorem dX8_stray_12 : decode cX8_stray 12 = .ok (.iload_n 1, 1) := by decide +kernel
theorem dX8_stray_13 : decode cX8_stray 13 = .ok (.lconst 0, 1) := by decide +kernel
theorem dX8_stray_14 : decode cX8_stray 14 = .ok (.lastore, 1) := by decide +kernel
theorem dX8_stray_15 : decode cX8_stray 15 = .ok (.iinc 1 1, 3) := by decide +kernel
theorem dX8_stray_18 : decode cX8_stray 18 = .ok (.goto (-16), 3) := by decide +kernel
theorem dX8_stray_21 : decode cX8_stray 21 = .ok (.iconst 0, 1) := by decide +kernel
theorem dX8_stray_22 : decode cX8_stray 22 = .ok (.istore_n 1, 1) := by decide +kernel
theorem dX8_stray_23 : decode cX8_stray 23 = .ok (.iload_n 1, 1) := by decide +kernel
theorem dX8_stray_24 : decode cX8_stray 24 = .ok (.aload_n 0, 1) := by decide +kernel
theorem dX8_stray_25 : decode cX8_stray 25 = .ok (.getfield 134, 3) := by decide +kernel
theorem dX8_stray_28 : decode cX8_stray 28 = .ok (.if_icmp .ge 114, 3) := by decide +kernel
theorem dX8_stray_31 : decode cX8_stray 31 = .ok (.aload_n 0, 1) := by decide +kernel
theorem dX8_stray_32 : decode cX8_stray 32 = .ok (.iload_n 1, 1) := by decide +kernel
theorem dX8_stray_33 : decode cX8_stray 33 = .ok (.invokevirtual 239, 3) := by decide +kernel
theorem dX8_stray_36 : decode cX8_stray 36 = .ok (.istore_n 2, 1) := by decide +kernel
theorem dX8_stray_37 : decode cX8_stray 37 = .ok (.aload_n 0, 1) := by decide +kernel
theorem dX8_stray_38 : decode cX8_stray 38 = .ok (.getfield 62, 3) := by decide +kernel
theorem dX8_stray_41 : decode cX8_stray 41 = .ok (.iload_n 1, 1) := by decide +kernel
theorem dX8_stray_42 : decode cX8_stray 42 = .ok (.dup2, 1) := by decide +kernel
theorem dX8_stray_43 : decode cX8_stray 43 = .ok (.laload, 1) := by decide +kernel
theorem dX8_stray_44 : decode cX8_stray 44 = .ok (.iload_n 2, 1) := by decide +kernel
theorem dX8_stray_45 : decode cX8_stray 45 = .ok (.ifCond .ne 16, 3) := by decide +kernel
theorem dX8_stray_48 : decode cX8_stray 48 = .ok (.ldc2_w 242, 3) := by decide +kernel
theorem dX8_stray_51 : decode cX8_stray 51 = .ok (.aload_n 0, 1) := by decide +kernel
theorem dX8_stray_52 : decode cX8_stray 52 = .ok (.getfield 58, 3) := by decide +kernel
theorem dX8_stray_55 : decode cX8_stray 55 = .ok (.iload_n 1, 1) := by decide +kernel
theorem dX8_stray_56 : decode cX8_stray 56 = .ok (.laload, 1) := by decide +kernel
theorem dX8_stray_57 : decode cX8_stray 57 = .ok (.lmul, 1) := by decide +kernel
theorem dX8_stray_58 : decode cX8_stray 58 = .ok (.goto 4, 3) := by decide +kernel
theorem dX8_stray_61 : decode cX8_stray 61 = .ok (.lconst 0, 1) := by decide +kernel
theorem dX8_stray_62 : decode cX8_stray 62 = .ok (.ladd, 1) := by decide +kernel
theorem dX8_stray_63 : decode cX8_stray 63 = .ok (.lastore, 1) := by decide +kernel
theorem dX8_stray_64 : decode cX8_stray 64 = .ok (.iconst 0, 1) := by decide +kernel
theorem dX8_stray_65 : decode cX8_stray 65 = .ok (.istore_n 3, 1) := by decide +kernel
theorem dX8_stray_66 : decode cX8_stray 66 = .ok (.iload_n 3, 1) := by decide +kernel
theorem dX8_stray_67 : decode cX8_stray 67 = .ok (.aload_n 0, 1) := by decide +kernel
theorem dX8_stray_68 : decode cX8_stray 68 = .ok (.getfield 131, 3) := by decide +kernel
theorem dX8_stray_71 : decode cX8_stray 71 = .ok (.if_icmp .ge 65, 3) := by decide +kernel
theorem dX8_stray_74 : decode cX8_stray 74 = .ok (.aload_n 0, 1) := by decide +kernel
theorem dX8_stray_75 : decode cX8_stray 75 = .ok (.getfield 13, 3) := by decide +kernel
theorem dX8_stray_78 : decode cX8_stray 78 = .ok (.iload_n 3, 1) := by decide +kernel
theorem dX8_stray_79 : decode cX8_stray 79 = .ok (.iaload, 1) := by decide +kernel
theorem dX8_stray_80 : decode cX8_stray 80 = .ok (.iload_n 1, 1) := by decide +kernel
theorem dX8_stray_81 : decode cX8_stray 81 = .ok (.if_icmp .eq 13, 3) := by decide +kernel
theorem dX8_stray_84 : decode cX8_stray 84 = .ok (.aload_n 0, 1) := by decide +kernel
theorem dX8_stray_85 : decode cX8_stray 85 = .ok (.getfield 16, 3) := by decide +kernel
theorem dX8_stray_88 : decode cX8_stray 88 = .ok (.iload_n 3, 1) := by decide +kernel
theorem dX8_stray_89 : decode cX8_stray 89 = .ok (.iaload, 1) := by decide +kernel
theorem dX8_stray_90 : decode cX8_stray 90 = .ok (.iload_n 1, 1) := by decide +kernel
theorem dX8_stray_91 : decode cX8_stray 91 = .ok (.if_icmp .ne 39, 3) := by decide +kernel
theorem dX8_stray_94 : decode cX8_stray 94 = .ok (.aload_n 0, 1) := by decide +kernel
theorem dX8_stray_95 : decode cX8_stray 95 = .ok (.getfield 62, 3) := by decide +kernel
theorem dX8_stray_98 : decode cX8_stray 98 = .ok (.aload_n 0, 1) := by decide +kernel
theorem dX8_stray_99 : decode cX8_stray 99 = .ok (.getfield 13, 3) := by decide +kernel
theorem dX8_stray_102 : decode cX8_stray 102 = .ok (.iload_n 3, 1) := by decide +kernel
theorem dX8_stray_103 : decode cX8_stray 103 = .ok (.iaload, 1) := by decide +kernel
theorem dX8_stray_104 : decode cX8_stray 104 = .ok (.aload_n 0, 1) := by decide +kernel
theorem dX8_stray_105 : decode cX8_stray 105 = .ok (.getfield 16, 3) := by decide +kernel
theorem dX8_stray_108 : decode cX8_stray 108 = .ok (.iload_n 3, 1) := by decide +kernel
theorem dX8_stray_109 : decode cX8_stray 109 = .ok (.iaload, 1) := by decide +kernel
theorem dX8_stray_110 : decode cX8_stray 110 = .ok (.iadd, 1) := by decide +kernel
theorem dX8_stray_111 : decode cX8_stray 111 = .ok (.iload_n 1, 1) := by decide +kernel
theorem dX8_stray_112 : decode cX8_stray 112 = .ok (.isub, 1) := by decide +kernel
theorem dX8_stray_113 : decode cX8_stray 113 = .ok (.dup2, 1) := by decide +kernel
theorem dX8_stray_114 : decode cX8_stray 114 = .ok (.laload, 1) := by decide +kernel
theorem dX8_stray_115 : decode cX8_stray 115 = .ok (.sipush 840, 3) := by decide +kernel
theorem dX8_stray_118 : decode cX8_stray 118 = .ok (.iload_n 2, 1) := by decide +kernel
theorem dX8_stray_119 : decode cX8_stray 119 = .ok (.idiv, 1) := by decide +kernel
theorem dX8_stray_120 : decode cX8_stray 120 = .ok (.i2l, 1) := by decide +kernel
theorem dX8_stray_121 : decode cX8_stray 121 = .ok (.aload_n 0, 1) := by decide +kernel
theorem dX8_stray_122 : decode cX8_stray 122 = .ok (.getfield 58, 3) := by decide +kernel
theorem dX8_stray_125 : decode cX8_stray 125 = .ok (.iload_n 1, 1) := by decide +kernel
theorem dX8_stray_126 : decode cX8_stray 126 = .ok (.laload, 1) := by decide +kernel
theorem dX8_stray_127 : decode cX8_stray 127 = .ok (.lmul, 1) := by decide +kernel
theorem dX8_stray_128 : decode cX8_stray 128 = .ok (.ladd, 1) := by decide +kernel
theorem dX8_stray_129 : decode cX8_stray 129 = .ok (.lastore, 1) := by decide +kernel
theorem dX8_stray_130 : decode cX8_stray 130 = .ok (.iinc 3 1, 3) := by decide +kernel
theorem dX8_stray_133 : decode cX8_stray 133 = .ok (.goto (-67), 3) := by decide +kernel
theorem dX8_stray_136 : decode cX8_stray 136 = .ok (.iinc 1 1, 3) := by decide +kernel
theorem dX8_stray_139 : decode cX8_stray 139 = .ok (.goto (-116), 3) := by decide +kernel
theorem dX8_stray_142 : decode cX8_stray 142 = .ok (.iconst 0, 1) := by decide +kernel
theorem dX8_stray_143 : decode cX8_stray 143 = .ok (.istore_n 1, 1) := by decide +kernel
theorem dX8_stray_144 : decode cX8_stray 144 = .ok (.iload_n 1, 1) := by decide +kernel
theorem dX8_stray_145 : decode cX8_stray 145 = .ok (.bipush 6, 2) := by decide +kernel
theorem dX8_stray_147 : decode cX8_stray 147 = .ok (.if_icmp .ge 21, 3) := by decide +kernel
theorem dX8_stray_150 : decode cX8_stray 150 = .ok (.aload_n 0, 1) := by decide +kernel
theorem dX8_stray_151 : decode cX8_stray 151 = .ok (.getfield 58, 3) := by decide +kernel
theorem dX8_stray_154 : decode cX8_stray 154 = .ok (.iload_n 1, 1) := by decide +kernel
theorem dX8_stray_155 : decode cX8_stray 155 = .ok (.aload_n 0, 1) := by decide +kernel
theorem dX8_stray_156 : decode cX8_stray 156 = .ok (.getfield 62, 3) := by decide +kernel
theorem dX8_stray_159 : decode cX8_stray 159 = .ok (.iload_n 1, 1) := by decide +kernel
theorem dX8_stray_160 : decode cX8_stray 160 = .ok (.laload, 1) := by decide +kernel
theorem dX8_stray_161 : decode cX8_stray 161 = .ok (.lastore, 1) := by decide +kernel
theorem dX8_stray_162 : decode cX8_stray 162 = .ok (.iinc 1 1, 3) := by decide +kernel
theorem dX8_stray_165 : decode cX8_stray 165 = .ok (.goto (-21), 3) := by decide +kernel
theorem dX8_stray_168 : decode cX8_stray 168 = .ok (.return_, 1) := by decide +kernel
theorem dX8_oddsOf_0 : decode cX8_oddsOf 0 = .ok (.lconst 1, 1) := by decide +kernel
theorem dX8_oddsOf_1 : decode cX8_oddsOf 1 = .ok (.lstore 4, 2) := by decide +kernel
theorem dX8_oddsOf_3 : decode cX8_oddsOf 3 = .ok (.iconst 0, 1) := by decide +kernel
theorem dX8_oddsOf_4 : decode cX8_oddsOf 4 = .ok (.istore 6, 2) := by decide +kernel
theorem dX8_oddsOf_6 : decode cX8_oddsOf 6 = .ok (.iload 6, 2) := by decide +kernel
theorem dX8_oddsOf_8 : decode cX8_oddsOf 8 = .ok (.bipush 6, 2) := by decide +kernel
theorem dX8_oddsOf_10 : decode cX8_oddsOf 10 = .ok (.if_icmp .ge 30, 3) := by decide +kernel
theorem dX8_oddsOf_13 : decode cX8_oddsOf 13 = .ok (.aload_n 0, 1) := by decide +kernel
theorem dX8_oddsOf_14 : decode cX8_oddsOf 14 = .ok (.getfield 58, 3) := by decide +kernel
theorem dX8_oddsOf_17 : decode cX8_oddsOf 17 = .ok (.iload 6, 2) := by decide +kernel
theorem dX8_oddsOf_19 : decode cX8_oddsOf 19 = .ok (.iload 6, 2) := by decide +kernel
theorem dX8_oddsOf_21 : decode cX8_oddsOf 21 = .ok (.aload_n 0, 1) := by decide +kernel
theorem dX8_oddsOf_22 : decode cX8_oddsOf 22 = .ok (.getfield 137, 3) := by decide +kernel
theorem dX8_oddsOf_25 : decode cX8_oddsOf 25 = .ok (.if_icmp .ne 7, 3) := by decide +kernel
theorem dX8_oddsOf_28 : decode cX8_oddsOf 28 = .ok (.lconst 1, 1) := by decide +kernel
theorem dX8_oddsOf_29 : decode cX8_oddsOf 29 = .ok (.goto 4, 3) := by decide +kernel
theorem dX8_oddsOf_32 : decode cX8_oddsOf 32 = .ok (.lconst 0, 1) := by decide +kernel
theorem dX8_oddsOf_33 : decode cX8_oddsOf 33 = .ok (.lastore, 1) := by decide +kernel
theorem dX8_oddsOf_34 : decode cX8_oddsOf 34 = .ok (.iinc 6 1, 3) := by decide +kernel
theorem dX8_oddsOf_37 : decode cX8_oddsOf 37 = .ok (.goto (-31), 3) := by decide +kernel
theorem dX8_oddsOf_40 : decode cX8_oddsOf 40 = .ok (.iconst 0, 1) := by decide +kernel
theorem dX8_oddsOf_41 : decode cX8_oddsOf 41 = .ok (.istore 6, 2) := by decide +kernel
theorem dX8_oddsOf_43 : decode cX8_oddsOf 43 = .ok (.iload 6, 2) := by decide +kernel
theorem dX8_oddsOf_45 : decode cX8_oddsOf 45 = .ok (.iload_n 2, 1) := by decide +kernel
theorem dX8_oddsOf_46 : decode cX8_oddsOf 46 = .ok (.if_icmp .ge 21, 3) := by decide +kernel
theorem dX8_oddsOf_49 : decode cX8_oddsOf 49 = .ok (.aload_n 0, 1) := by decide +kernel
theorem dX8_oddsOf_50 : decode cX8_oddsOf 50 = .ok (.invokevirtual 244, 3) := by decide +kernel
theorem dX8_oddsOf_53 : decode cX8_oddsOf 53 = .ok (.lload 4, 2) := by decide +kernel
theorem dX8_oddsOf_55 : decode cX8_oddsOf 55 = .ok (.ldc2_w 242, 3) := by decide +kernel
theorem dX8_oddsOf_58 : decode cX8_oddsOf 58 = .ok (.lmul, 1) := by decide +kernel
theorem dX8_oddsOf_59 : decode cX8_oddsOf 59 = .ok (.lstore 4, 2) := by decide +kernel
theorem dX8_oddsOf_61 : decode cX8_oddsOf 61 = .ok (.iinc 6 1, 3) := by decide +kernel
theorem dX8_oddsOf_64 : decode cX8_oddsOf 64 = .ok (.goto (-21), 3) := by decide +kernel
theorem dX8_oddsOf_67 : decode cX8_oddsOf 67 = .ok (.aload_n 0, 1) := by decide +kernel
theorem dX8_oddsOf_68 : decode cX8_oddsOf 68 = .ok (.getfield 58, 3) := by decide +kernel
theorem dX8_oddsOf_71 : decode cX8_oddsOf 71 = .ok (.aload_n 0, 1) := by decide +kernel
theorem dX8_oddsOf_72 : decode cX8_oddsOf 72 = .ok (.getfield 22, 3) := by decide +kernel
theorem dX8_oddsOf_75 : decode cX8_oddsOf 75 = .ok (.iload_n 1, 1) := by decide +kernel
theorem dX8_oddsOf_76 : decode cX8_oddsOf 76 = .ok (.iaload, 1) := by decide +kernel
theorem dX8_oddsOf_77 : decode cX8_oddsOf 77 = .ok (.laload, 1) := by decide +kernel
theorem dX8_oddsOf_78 : decode cX8_oddsOf 78 = .ok (.lstore 6, 2) := by decide +kernel
theorem dX8_oddsOf_80 : decode cX8_oddsOf 80 = .ok (.lload 4, 2) := by decide +kernel
theorem dX8_oddsOf_82 : decode cX8_oddsOf 82 = .ok (.lstore 8, 2) := by decide +kernel
theorem dX8_oddsOf_84 : decode cX8_oddsOf 84 = .ok (.lload 6, 2) := by decide +kernel
theorem dX8_oddsOf_86 : decode cX8_oddsOf 86 = .ok (.lstore 10, 2) := by decide +kernel
theorem dX8_oddsOf_88 : decode cX8_oddsOf 88 = .ok (.lload 10, 2) := by decide +kernel
theorem dX8_oddsOf_90 : decode cX8_oddsOf 90 = .ok (.lconst 0, 1) := by decide +kernel
theorem dX8_oddsOf_91 : decode cX8_oddsOf 91 = .ok (.lcmp, 1) := by decide +kernel
theorem dX8_oddsOf_92 : decode cX8_oddsOf 92 = .ok (.ifCond .le 21, 3) := by decide +kernel
theorem dX8_oddsOf_95 : decode cX8_oddsOf 95 = .ok (.lload 8, 2) := by decide +kernel
theorem dX8_oddsOf_97 : decode cX8_oddsOf 97 = .ok (.lload 10, 2) := by decide +kernel
theorem dX8_oddsOf_99 : decode cX8_oddsOf 99 = .ok (.lrem, 1) := by decide +kernel
theorem dX8_oddsOf_100 : decode cX8_oddsOf 100 = .ok (.lstore 12, 2) := by decide +kernel
theorem dX8_oddsOf_102 : decode cX8_oddsOf 102 = .ok (.lload 10, 2) := by decide +kernel
theorem dX8_oddsOf_104 : decode cX8_oddsOf 104 = .ok (.lstore 8, 2) := by decide +kernel
theorem dX8_oddsOf_106 : decode cX8_oddsOf 106 = .ok (.lload 12, 2) := by decide +kernel
theorem dX8_oddsOf_108 : decode cX8_oddsOf 108 = .ok (.lstore 10, 2) := by decide +kernel
theorem dX8_oddsOf_110 : decode cX8_oddsOf 110 = .ok (.goto (-22), 3) := by decide +kernel
theorem dX8_oddsOf_113 : decode cX8_oddsOf 113 = .ok (.iload_n 3, 1) := by decide +kernel
theorem dX8_oddsOf_114 : decode cX8_oddsOf 114 = .ok (.ifCond .ne 11, 3) := by decide +kernel
theorem dX8_oddsOf_117 : decode cX8_oddsOf 117 = .ok (.lload 6, 2) := by decide +kernel
theorem dX8_oddsOf_119 : decode cX8_oddsOf 119 = .ok (.lload 8, 2) := by decide +kernel
theorem dX8_oddsOf_121 : decode cX8_oddsOf 121 = .ok (.ldiv, 1) := by decide +kernel
theorem dX8_oddsOf_122 : decode cX8_oddsOf 122 = .ok (.goto 8, 3) := by decide +kernel
theorem dX8_oddsOf_125 : decode cX8_oddsOf 125 = .ok (.lload 4, 2) := by decide +kernel
theorem dX8_oddsOf_127 : decode cX8_oddsOf 127 = .ok (.lload 8, 2) := by decide +kernel
theorem dX8_oddsOf_129 : decode cX8_oddsOf 129 = .ok (.ldiv, 1) := by decide +kernel
theorem dX8_oddsOf_130 : decode cX8_oddsOf 130 = .ok (.l2i, 1) := by decide +kernel
theorem dX8_oddsOf_131 : decode cX8_oddsOf 131 = .ok (.ireturn, 1) := by decide +kernel
theorem dX8_odds_0 : decode cX8_odds 0 = .ok (.aload_n 0, 1) := by decide +kernel
theorem dX8_odds_1 : decode cX8_odds 1 = .ok (.iload_n 1, 1) := by decide +kernel
theorem dX8_odds_2 : decode cX8_odds 2 = .ok (.invokevirtual 175, 3) := by decide +kernel
theorem dX8_odds_5 : decode cX8_odds 5 = .ok (.ifCond .ne 6, 3) := by decide +kernel
theorem dX8_odds_8 : decode cX8_odds 8 = .ok (.bipush (-101), 2) := by decide +kernel
theorem dX8_odds_10 : decode cX8_odds 10 = .ok (.ireturn, 1) := by decide +kernel
theorem dX8_odds_11 : decode cX8_odds 11 = .ok (.iload_n 2, 1) := by decide +kernel
theorem dX8_odds_12 : decode cX8_odds 12 = .ok (.i2l, 1) := by decide +kernel
theorem dX8_odds_13 : decode cX8_odds 13 = .ok (.lconst 1, 1) := by decide +kernel
theorem dX8_odds_14 : decode cX8_odds 14 = .ok (.ldc2_w 182, 3) := by decide +kernel
theorem dX8_odds_17 : decode cX8_odds 17 = .ok (.invokestatic 92, 3) := by decide +kernel
theorem dX8_odds_20 : decode cX8_odds 20 = .ok (.ifCond .eq 23, 3) := by decide +kernel
theorem dX8_odds_23 : decode cX8_odds 23 = .ok (.iload_n 3, 1) := by decide +kernel
theorem dX8_odds_24 : decode cX8_odds 24 = .ok (.i2l, 1) := by decide +kernel
theorem dX8_odds_25 : decode cX8_odds 25 = .ok (.lconst 0, 1) := by decide +kernel
theorem dX8_odds_26 : decode cX8_odds 26 = .ok (.lconst 1, 1) := by decide +kernel
theorem dX8_odds_27 : decode cX8_odds 27 = .ok (.invokestatic 92, 3) := by decide +kernel
theorem dX8_odds_30 : decode cX8_odds 30 = .ok (.ifCond .eq 13, 3) := by decide +kernel
theorem dX8_odds_33 : decode cX8_odds 33 = .ok (.aload_n 0, 1) := by decide +kernel
theorem dX8_odds_34 : decode cX8_odds 34 = .ok (.iload_n 1, 1) := by decide +kernel
theorem dX8_odds_35 : decode cX8_odds 35 = .ok (.iload_n 2, 1) := by decide +kernel
theorem dX8_odds_36 : decode cX8_odds 36 = .ok (.iload_n 3, 1) := by decide +kernel
theorem dX8_odds_37 : decode cX8_odds 37 = .ok (.invokevirtual 247, 3) := by decide +kernel
theorem dX8_odds_40 : decode cX8_odds 40 = .ok (.goto 5, 3) := by decide +kernel
theorem dX8_odds_43 : decode cX8_odds 43 = .ok (.bipush (-102), 2) := by decide +kernel
theorem dX8_odds_45 : decode cX8_odds 45 = .ok (.ireturn, 1) := by decide +kernel
theorem dX8_see_0 : decode cX8_see 0 = .ok (.aload_n 0, 1) := by decide +kernel
theorem dX8_see_1 : decode cX8_see 1 = .ok (.iload_n 1, 1) := by decide +kernel
theorem dX8_see_2 : decode cX8_see 2 = .ok (.invokevirtual 175, 3) := by decide +kernel
theorem dX8_see_5 : decode cX8_see 5 = .ok (.ifCond .ne 6, 3) := by decide +kernel
theorem dX8_see_8 : decode cX8_see 8 = .ok (.bipush (-101), 2) := by decide +kernel
theorem dX8_see_10 : decode cX8_see 10 = .ok (.ireturn, 1) := by decide +kernel
theorem dX8_see_11 : decode cX8_see 11 = .ok (.aload_n 0, 1) := by decide +kernel
theorem dX8_see_12 : decode cX8_see 12 = .ok (.getfield 149, 3) := by decide +kernel
theorem dX8_see_15 : decode cX8_see 15 = .ok (.bipush 6, 2) := by decide +kernel
theorem dX8_see_17 : decode cX8_see 17 = .ok (.if_icmp .ne 6, 3) := by decide +kernel
theorem dX8_see_20 : decode cX8_see 20 = .ok (.bipush (-104), 2) := by decide +kernel
theorem dX8_see_22 : decode cX8_see 22 = .ok (.ireturn, 1) := by decide +kernel
theorem dX8_see_23 : decode cX8_see 23 = .ok (.aload_n 0, 1) := by decide +kernel
theorem dX8_see_24 : decode cX8_see 24 = .ok (.getfield 65, 3) := by decide +kernel
theorem dX8_see_27 : decode cX8_see 27 = .ok (.iconst 2, 1) := by decide +kernel
theorem dX8_see_28 : decode cX8_see 28 = .ok (.aload_n 0, 1) := by decide +kernel
theorem dX8_see_29 : decode cX8_see 29 = .ok (.getfield 149, 3) := by decide +kernel
theorem dX8_see_32 : decode cX8_see 32 = .ok (.imul, 1) := by decide +kernel
theorem dX8_see_33 : decode cX8_see 33 = .ok (.iload_n 1, 1) := by decide +kernel
theorem dX8_see_34 : decode cX8_see 34 = .ok (.iastore, 1) := by decide +kernel
theorem dX8_see_35 : decode cX8_see 35 = .ok (.aload_n 0, 1) := by decide +kernel
theorem dX8_see_36 : decode cX8_see 36 = .ok (.getfield 65, 3) := by decide +kernel
theorem dX8_see_39 : decode cX8_see 39 = .ok (.iconst 2, 1) := by decide +kernel
theorem dX8_see_40 : decode cX8_see 40 = .ok (.aload_n 0, 1) := by decide +kernel
theorem dX8_see_41 : decode cX8_see 41 = .ok (.getfield 149, 3) := by decide +kernel
theorem dX8_see_44 : decode cX8_see 44 = .ok (.imul, 1) := by decide +kernel
theorem dX8_see_45 : decode cX8_see 45 = .ok (.iconst 1, 1) := by decide +kernel
theorem dX8_see_46 : decode cX8_see 46 = .ok (.iadd, 1) := by decide +kernel
theorem dX8_see_47 : decode cX8_see 47 = .ok (.iload_n 2, 1) := by decide +kernel
theorem dX8_see_48 : decode cX8_see 48 = .ok (.ifCond .eq 7, 3) := by decide +kernel
theorem dX8_see_51 : decode cX8_see 51 = .ok (.iconst 1, 1) := by decide +kernel
theorem dX8_see_52 : decode cX8_see 52 = .ok (.goto 4, 3) := by decide +kernel
theorem dX8_see_55 : decode cX8_see 55 = .ok (.iconst 0, 1) := by decide +kernel
theorem dX8_see_56 : decode cX8_see 56 = .ok (.iastore, 1) := by decide +kernel
theorem dX8_see_57 : decode cX8_see 57 = .ok (.aload_n 0, 1) := by decide +kernel
theorem dX8_see_58 : decode cX8_see 58 = .ok (.dup, 1) := by decide +kernel
theorem dX8_see_59 : decode cX8_see 59 = .ok (.getfield 149, 3) := by decide +kernel
theorem dX8_see_62 : decode cX8_see 62 = .ok (.iconst 1, 1) := by decide +kernel
theorem dX8_see_63 : decode cX8_see 63 = .ok (.iadd, 1) := by decide +kernel
theorem dX8_see_64 : decode cX8_see 64 = .ok (.putfield 149, 3) := by decide +kernel
theorem dX8_see_67 : decode cX8_see 67 = .ok (.aload_n 0, 1) := by decide +kernel
theorem dX8_see_68 : decode cX8_see 68 = .ok (.getfield 149, 3) := by decide +kernel
theorem dX8_see_71 : decode cX8_see 71 = .ok (.ireturn, 1) := by decide +kernel
theorem dX8_forget_0 : decode cX8_forget 0 = .ok (.aload_n 0, 1) := by decide +kernel
theorem dX8_forget_1 : decode cX8_forget 1 = .ok (.getfield 149, 3) := by decide +kernel
theorem dX8_forget_4 : decode cX8_forget 4 = .ok (.istore_n 1, 1) := by decide +kernel
theorem dX8_forget_5 : decode cX8_forget 5 = .ok (.aload_n 0, 1) := by decide +kernel
theorem dX8_forget_6 : decode cX8_forget 6 = .ok (.iconst 0, 1) := by decide +kernel
theorem dX8_forget_7 : decode cX8_forget 7 = .ok (.putfield 149, 3) := by decide +kernel
theorem dX8_forget_10 : decode cX8_forget 10 = .ok (.iload_n 1, 1) := by decide +kernel
theorem dX8_forget_11 : decode cX8_forget 11 = .ok (.ireturn, 1) := by decide +kernel
theorem dX8_hearsAt_0 : decode cX8_hearsAt 0 = .ok (.aload_n 0, 1) := by decide +kernel
theorem dX8_hearsAt_1 : decode cX8_hearsAt 1 = .ok (.getfield 37, 3) := by decide +kernel
theorem dX8_hearsAt_4 : decode cX8_hearsAt 4 = .ok (.bipush 6, 2) := by decide +kernel
theorem dX8_hearsAt_6 : decode cX8_hearsAt 6 = .ok (.aload_n 0, 1) := by decide +kernel
theorem dX8_hearsAt_7 : decode cX8_hearsAt 7 = .ok (.getfield 22, 3) := by decide +kernel
theorem dX8_hearsAt_10 : decode cX8_hearsAt 10 = .ok (.iload_n 1, 1) := by decide +kernel
theorem dX8_hearsAt_11 : decode cX8_hearsAt 11 = .ok (.iaload, 1) := by decide +kernel
theorem dX8_hearsAt_12 : decode cX8_hearsAt 12 = .ok (.imul, 1) := by decide +kernel
theorem dX8_hearsAt_13 : decode cX8_hearsAt 13 = .ok (.iload_n 2, 1) := by decide +kernel
theorem dX8_hearsAt_14 : decode cX8_hearsAt 14 = .ok (.iadd, 1) := by decide +kernel
theorem dX8_hearsAt_15 : decode cX8_hearsAt 15 = .ok (.iaload, 1) := by decide +kernel
theorem dX8_hearsAt_16 : decode cX8_hearsAt 16 = .ok (.aload_n 0, 1) := by decide +kernel
theorem dX8_hearsAt_17 : decode cX8_hearsAt 17 = .ok (.getfield 28, 3) := by decide +kernel
theorem dX8_hearsAt_20 : decode cX8_hearsAt 20 = .ok (.iload_n 1, 1) := by decide +kernel
theorem dX8_hearsAt_21 : decode cX8_hearsAt 21 = .ok (.iaload, 1) := by decide +kernel
theorem dX8_hearsAt_22 : decode cX8_hearsAt 22 = .ok (.if_icmp .gt 7, 3) := by decide +kernel
theorem dX8_hearsAt_25 : decode cX8_hearsAt 25 = .ok (.iconst 1, 1) := by decide +kernel
theorem dX8_hearsAt_26 : decode cX8_hearsAt 26 = .ok (.goto 4, 3) := by decide +kernel
theorem dX8_hearsAt_29 : decode cX8_hearsAt 29 = .ok (.iconst 0, 1) := by decide +kernel
theorem dX8_hearsAt_30 : decode cX8_hearsAt 30 = .ok (.ireturn, 1) := by decide +kernel
theorem dX8_placesOf_0 : decode cX8_placesOf 0 = .ok (.iconst 0, 1) := by decide +kernel
theorem dX8_placesOf_1 : decode cX8_placesOf 1 = .ok (.istore_n 1, 1) := by decide +kernel
theorem dX8_placesOf_2 : decode cX8_placesOf 2 = .ok (.iconst 0, 1) := by decide +kernel
theorem dX8_placesOf_3 : decode cX8_placesOf 3 = .ok (.istore_n 2, 1) := by decide +kernel
theorem dX8_placesOf_4 : decode cX8_placesOf 4 = .ok (.iload_n 2, 1) := by decide +kernel
theorem dX8_placesOf_5 : decode cX8_placesOf 5 = .ok (.aload_n 0, 1) := by decide +kernel
theorem dX8_placesOf_6 : decode cX8_placesOf 6 = .ok (.getfield 134, 3) := by decide +kernel
theorem dX8_placesOf_9 : decode cX8_placesOf 9 = .ok (.if_icmp .ge 79, 3) := by decide +kernel
theorem dX8_placesOf_12 : decode cX8_placesOf 12 = .ok (.iconst 1, 1) := by decide +kernel
theorem dX8_placesOf_13 : decode cX8_placesOf 13 = .ok (.istore_n 3, 1) := by decide +kernel
theorem dX8_placesOf_14 : decode cX8_placesOf 14 = .ok (.iconst 0, 1) := by decide +kernel
theorem dX8_placesOf_15 : decode cX8_placesOf 15 = .ok (.istore 4, 2) := by decide +kernel
theorem dX8_placesOf_17 : decode cX8_placesOf 17 = .ok (.iload 4, 2) := by decide +kernel
theorem dX8_placesOf_19 : decode cX8_placesOf 19 = .ok (.iconst 2, 1) := by decide +kernel
theorem dX8_placesOf_20 : decode cX8_placesOf 20 = .ok (.aload_n 0, 1) := by decide +kernel
theorem dX8_placesOf_21 : decode cX8_placesOf 21 = .ok (.getfield 149, 3) := by decide +kernel
theorem dX8_placesOf_24 : decode cX8_placesOf 24 = .ok (.imul, 1) := by decide +kernel
theorem dX8_placesOf_25 : decode cX8_placesOf 25 = .ok (.if_icmp .ge 43, 3) := by decide +kernel
theorem dX8_placesOf_28 : decode cX8_placesOf 28 = .ok (.iload_n 3, 1) := by decide +kernel
theorem dX8_placesOf_29 : decode cX8_placesOf 29 = .ok (.ifCond .eq 31, 3) := by decide +kernel
theorem dX8_placesOf_32 : decode cX8_placesOf 32 = .ok (.aload_n 0, 1) := by decide +kernel
theorem dX8_placesOf_33 : decode cX8_placesOf 33 = .ok (.aload_n 0, 1) := by decide +kernel
theorem dX8_placesOf_34 : decode cX8_placesOf 34 = .ok (.getfield 65, 3) := by decide +kernel
theorem dX8_placesOf_37 : decode cX8_placesOf 37 = .ok (.iload 4, 2) := by decide +kernel
theorem dX8_placesOf_39 : decode cX8_placesOf 39 = .ok (.iaload, 1) := by decide +kernel
theorem dX8_placesOf_40 : decode cX8_placesOf 40 = .ok (.iload_n 2, 1) := by decide +kernel
theorem dX8_placesOf_41 : decode cX8_placesOf 41 = .ok (.invokevirtual 250, 3) := by decide +kernel
theorem dX8_placesOf_44 : decode cX8_placesOf 44 = .ok (.aload_n 0, 1) := by decide +kernel
theorem dX8_placesOf_45 : decode cX8_placesOf 45 = .ok (.getfield 65, 3) := by decide +kernel
theorem dX8_placesOf_48 : decode cX8_placesOf 48 = .ok (.iload 4, 2) := by decide +kernel
theorem dX8_placesOf_50 : decode cX8_placesOf 50 = .ok (.iconst 1, 1) := by decide +kernel
theorem dX8_placesOf_51 : decode cX8_placesOf 51 = .ok (.iadd, 1) := by decide +kernel
theorem dX8_placesOf_52 : decode cX8_placesOf 52 = .ok (.iaload, 1) := by decide +kernel
theorem dX8_placesOf_53 : decode cX8_placesOf 53 = .ok (.if_icmp .ne 7, 3) := by decide +kernel
theorem dX8_placesOf_56 : decode cX8_placesOf 56 = .ok (.iconst 1, 1) := by decide +kernel
theorem dX8_placesOf_57 : decode cX8_placesOf 57 = .ok (.goto 4, 3) := by decide +kernel
theorem dX8_placesOf_60 : decode cX8_placesOf 60 = .ok (.iconst 0, 1) := by decide +kernel
theorem dX8_placesOf_61 : decode cX8_placesOf 61 = .ok (.istore_n 3, 1) := by decide +kernel
theorem dX8_placesOf_62 : decode cX8_placesOf 62 = .ok (.iinc 4 2, 3) := by decide +kernel
theorem dX8_placesOf_65 : decode cX8_placesOf 65 = .ok (.goto (-48), 3) := by decide +kernel
theorem dX8_placesOf_68 : decode cX8_placesOf 68 = .ok (.iload_n 1, 1) := by decide +kernel
theorem dX8_placesOf_69 : decode cX8_placesOf 69 = .ok (.iload_n 3, 1) := by decide +kernel
theorem dX8_placesOf_70 : decode cX8_placesOf 70 = .ok (.ifCond .eq 9, 3) := by decide +kernel
theorem dX8_placesOf_73 : decode cX8_placesOf 73 = .ok (.iconst 1, 1) := by decide +kernel
theorem dX8_placesOf_74 : decode cX8_placesOf 74 = .ok (.iload_n 2, 1) := by decide +kernel
theorem dX8_placesOf_75 : decode cX8_placesOf 75 = .ok (.ishl, 1) := by decide +kernel
theorem dX8_placesOf_76 : decode cX8_placesOf 76 = .ok (.goto 4, 3) := by decide +kernel
theorem dX8_placesOf_79 : decode cX8_placesOf 79 = .ok (.iconst 0, 1) := by decide +kernel
theorem dX8_placesOf_80 : decode cX8_placesOf 80 = .ok (.ior, 1) := by decide +kernel
theorem dX8_placesOf_81 : decode cX8_placesOf 81 = .ok (.istore_n 1, 1) := by decide +kernel
theorem dX8_placesOf_82 : decode cX8_placesOf 82 = .ok (.iinc 2 1, 3) := by decide +kernel
theorem dX8_placesOf_85 : decode cX8_placesOf 85 = .ok (.goto (-81), 3) := by decide +kernel
theorem dX8_placesOf_88 : decode cX8_placesOf 88 = .ok (.iload_n 1, 1) := by decide +kernel
theorem dX8_placesOf_89 : decode cX8_placesOf 89 = .ok (.ireturn, 1) := by decide +kernel
theorem dX8_places_0 : decode cX8_places 0 = .ok (.aload_n 0, 1) := by decide +kernel
theorem dX8_places_1 : decode cX8_places 1 = .ok (.invokevirtual 229, 3) := by decide +kernel
theorem dX8_places_4 : decode cX8_places 4 = .ok (.ifCond .eq 8, 3) := by decide +kernel
theorem dX8_places_7 : decode cX8_places 7 = .ok (.bipush (-103), 2) := by decide +kernel
theorem dX8_places_9 : decode cX8_places 9 = .ok (.goto 7, 3) := by decide +kernel
theorem dX8_places_12 : decode cX8_places 12 = .ok (.aload_n 0, 1) := by decide +kernel
theorem dX8_places_13 : decode cX8_places 13 = .ok (.invokevirtual 253, 3) := by decide +kernel
theorem dX8_places_16 : decode cX8_places 16 = .ok (.ireturn, 1) := by decide +kernel
theorem dX8_askOf_0 : decode cX8_askOf 0 = .ok (.aload_n 0, 1) := by decide +kernel
theorem dX8_askOf_1 : decode cX8_askOf 1 = .ok (.invokevirtual 253, 3) := by decide +kernel
theorem dX8_askOf_4 : decode cX8_askOf 4 = .ok (.istore_n 1, 1) := by decide +kernel
theorem dX8_askOf_5 : decode cX8_askOf 5 = .ok (.iconst (-1), 1) := by decide +kernel
theorem dX8_askOf_6 : decode cX8_askOf 6 = .ok (.istore_n 2, 1) := by decide +kernel
theorem dX8_askOf_7 : decode cX8_askOf 7 = .ok (.bipush 7, 2) := by decide +kernel
theorem dX8_askOf_9 : decode cX8_askOf 9 = .ok (.istore_n 3, 1) := by decide +kernel
theorem dX8_askOf_10 : decode cX8_askOf 10 = .ok (.iconst 0, 1) := by decide +kernel
theorem dX8_askOf_11 : decode cX8_askOf 11 = .ok (.istore 4, 2) := by decide +kernel
theorem dX8_askOf_13 : decode cX8_askOf 13 = .ok (.iload 4, 2) := by decide +kernel
theorem dX8_askOf_15 : decode cX8_askOf 15 = .ok (.aload_n 0, 1) := by decide +kernel
theorem dX8_askOf_16 : decode cX8_askOf 16 = .ok (.getfield 140, 3) := by decide +kernel
theorem dX8_askOf_19 : decode cX8_askOf 19 = .ok (.if_icmp .ge 121, 3) := by decide +kernel
theorem dX8_askOf_22 : decode cX8_askOf 22 = .ok (.iload_n 1, 1) := by decide +kernel
theorem dX8_askOf_23 : decode cX8_askOf 23 = .ok (.ifCond .eq 117, 3) := by decide +kernel
theorem dX8_askOf_26 : decode cX8_askOf 26 = .ok (.iconst 0, 1) := by decide +kernel
theorem dX8_askOf_27 : decode cX8_askOf 27 = .ok (.istore 5, 2) := by decide +kernel
theorem dX8_askOf_29 : decode cX8_askOf 29 = .ok (.iconst 0, 1) := by decide +kernel
theorem dX8_askOf_30 : decode cX8_askOf 30 = .ok (.istore 6, 2) := by decide +kernel
theorem dX8_askOf_32 : decode cX8_askOf 32 = .ok (.iconst 0, 1) := by decide +kernel
theorem dX8_askOf_33 : decode cX8_askOf 33 = .ok (.istore 7, 2) := by decide +kernel
theorem dX8_askOf_35 : decode cX8_askOf 35 = .ok (.iload 7, 2) := by decide +kernel
theorem dX8_askOf_37 : decode cX8_askOf 37 = .ok (.aload_n 0, 1) := by decide +kernel
theorem dX8_askOf_38 : decode cX8_askOf 38 = .ok (.getfield 134, 3) := by decide +kernel
theorem dX8_askOf_41 : decode cX8_askOf 41 = .ok (.if_icmp .ge 51, 3) := by decide +kernel
theorem dX8_askOf_44 : decode cX8_askOf 44 = .ok (.iload_n 1, 1) := by decide +kernel
theorem dX8_askOf_45 : decode cX8_askOf 45 = .ok (.iload 7, 2) := by decide +kernel
theorem dX8_askOf_47 : decode cX8_askOf 47 = .ok (.ishr, 1) := by decide +kernel
theorem dX8_askOf_48 : decode cX8_askOf 48 = .ok (.iconst 1, 1) := by decide +kernel
theorem dX8_askOf_49 : decode cX8_askOf 49 = .ok (.iand, 1) := by decide +kernel
theorem dX8_askOf_50 : decode cX8_askOf 50 = .ok (.istore 8, 2) := by decide +kernel
theorem dX8_askOf_52 : decode cX8_askOf 52 = .ok (.iload 5, 2) := by decide +kernel
theorem dX8_askOf_54 : decode cX8_askOf 54 = .ok (.iload 8, 2) := by decide +kernel
theorem dX8_askOf_56 : decode cX8_askOf 56 = .ok (.aload_n 0, 1) := by decide +kernel
theorem dX8_askOf_57 : decode cX8_askOf 57 = .ok (.iload 4, 2) := by decide +kernel
theorem dX8_askOf_59 : decode cX8_askOf 59 = .ok (.iload 7, 2) := by decide +kernel
theorem dX8_askOf_61 : decode cX8_askOf 61 = .ok (.invokevirtual 250, 3) := by decide +kernel
theorem dX8_askOf_64 : decode cX8_askOf 64 = .ok (.imul, 1) := by decide +kernel
theorem dX8_askOf_65 : decode cX8_askOf 65 = .ok (.iadd, 1) := by decide +kernel
theorem dX8_askOf_66 : decode cX8_askOf 66 = .ok (.istore 5, 2) := by decide +kernel
theorem dX8_askOf_68 : decode cX8_askOf 68 = .ok (.iload 6, 2) := by decide +kernel
theorem dX8_askOf_70 : decode cX8_askOf 70 = .ok (.iload 8, 2) := by decide +kernel
theorem dX8_askOf_72 : decode cX8_askOf 72 = .ok (.iconst 1, 1) := by decide +kernel
theorem dX8_askOf_73 : decode cX8_askOf 73 = .ok (.aload_n 0, 1) := by decide +kernel
theorem dX8_askOf_74 : decode cX8_askOf 74 = .ok (.iload 4, 2) := by decide +kernel
theorem dX8_askOf_76 : decode cX8_askOf 76 = .ok (.iload 7, 2) := by decide +kernel
theorem dX8_askOf_78 : decode cX8_askOf 78 = .ok (.invokevirtual 250, 3) := by decide +kernel
theorem dX8_askOf_81 : decode cX8_askOf 81 = .ok (.isub, 1) := by decide +kernel
theorem dX8_askOf_82 : decode cX8_askOf 82 = .ok (.imul, 1) := by decide +kernel
theorem dX8_askOf_83 : decode cX8_askOf 83 = .ok (.iadd, 1) := by decide +kernel
theorem dX8_askOf_84 : decode cX8_askOf 84 = .ok (.istore 6, 2) := by decide +kernel
theorem dX8_askOf_86 : decode cX8_askOf 86 = .ok (.iinc 7 1, 3) := by decide +kernel
theorem dX8_askOf_89 : decode cX8_askOf 89 = .ok (.goto (-54), 3) := by decide +kernel
theorem dX8_askOf_92 : decode cX8_askOf 92 = .ok (.iload 5, 2) := by decide +kernel
theorem dX8_askOf_94 : decode cX8_askOf 94 = .ok (.iload 6, 2) := by decide +kernel
theorem dX8_askOf_96 : decode cX8_askOf 96 = .ok (.if_icmp .le 8, 3) := by decide +kernel
theorem dX8_askOf_99 : decode cX8_askOf 99 = .ok (.iload 5, 2) := by decide +kernel
theorem dX8_askOf_101 : decode cX8_askOf 101 = .ok (.goto 5, 3) := by decide +kernel
theorem dX8_askOf_104 : decode cX8_askOf 104 = .ok (.iload 6, 2) := by decide +kernel
theorem dX8_askOf_106 : decode cX8_askOf 106 = .ok (.istore 7, 2) := by decide +kernel
theorem dX8_askOf_108 : decode cX8_askOf 108 = .ok (.iload 7, 2) := by decide +kernel
theorem dX8_askOf_110 : decode cX8_askOf 110 = .ok (.iload_n 3, 1) := by decide +kernel
theorem dX8_askOf_111 : decode cX8_askOf 111 = .ok (.if_icmp .ge 8, 3) := by decide +kernel
theorem dX8_askOf_114 : decode cX8_askOf 114 = .ok (.iload 4, 2) := by decide +kernel
theorem dX8_askOf_116 : decode cX8_askOf 116 = .ok (.goto 4, 3) := by decide +kernel
theorem dX8_askOf_119 : decode cX8_askOf 119 = .ok (.iload_n 2, 1) := by decide +kernel
theorem dX8_askOf_120 : decode cX8_askOf 120 = .ok (.istore_n 2, 1) := by decide +kernel
theorem dX8_askOf_121 : decode cX8_askOf 121 = .ok (.iload 7, 2) := by decide +kernel
theorem dX8_askOf_123 : decode cX8_askOf 123 = .ok (.iload_n 3, 1) := by decide +kernel
theorem dX8_askOf_124 : decode cX8_askOf 124 = .ok (.if_icmp .ge 8, 3) := by decide +kernel
theorem dX8_askOf_127 : decode cX8_askOf 127 = .ok (.iload 7, 2) := by decide +kernel
theorem dX8_askOf_129 : decode cX8_askOf 129 = .ok (.goto 4, 3) := by decide +kernel
theorem dX8_askOf_132 : decode cX8_askOf 132 = .ok (.iload_n 3, 1) := by decide +kernel
theorem dX8_askOf_133 : decode cX8_askOf 133 = .ok (.istore_n 3, 1) := by decide +kernel
theorem dX8_askOf_134 : decode cX8_askOf 134 = .ok (.iinc 4 1, 3) := by decide +kernel
theorem dX8_askOf_137 : decode cX8_askOf 137 = .ok (.goto (-124), 3) := by decide +kernel
theorem dX8_askOf_140 : decode cX8_askOf 140 = .ok (.iload_n 2, 1) := by decide +kernel
theorem dX8_askOf_141 : decode cX8_askOf 141 = .ok (.ireturn, 1) := by decide +kernel
theorem dX8_ask_0 : decode cX8_ask 0 = .ok (.aload_n 0, 1) := by decide +kernel
theorem dX8_ask_1 : decode cX8_ask 1 = .ok (.invokevirtual 229, 3) := by decide +kernel
theorem dX8_ask_4 : decode cX8_ask 4 = .ok (.ifCond .eq 8, 3) := by decide +kernel
theorem dX8_ask_7 : decode cX8_ask 7 = .ok (.bipush (-103), 2) := by decide +kernel
theorem dX8_ask_9 : decode cX8_ask 9 = .ok (.goto 7, 3) := by decide +kernel
theorem dX8_ask_12 : decode cX8_ask 12 = .ok (.aload_n 0, 1) := by decide +kernel
theorem dX8_ask_13 : decode cX8_ask 13 = .ok (.invokevirtual 256, 3) := by decide +kernel
theorem dX8_ask_16 : decode cX8_ask 16 = .ok (.ireturn, 1) := by decide +kernel
theorem dX8_draw_0 : decode cX8_draw 0 = .ok (.aload_n 0, 1) := by decide +kernel
theorem dX8_draw_1 : decode cX8_draw 1 = .ok (.ldc2_w 259, 3) := by decide +kernel
theorem dX8_draw_4 : decode cX8_draw 4 = .ok (.aload_n 0, 1) := by decide +kernel
theorem dX8_draw_5 : decode cX8_draw 5 = .ok (.getfield 261, 3) := by decide +kernel
theorem dX8_draw_8 : decode cX8_draw 8 = .ok (.i2l, 1) := by decide +kernel
theorem dX8_draw_9 : decode cX8_draw 9 = .ok (.lmul, 1) := by decide +kernel
theorem dX8_draw_10 : decode cX8_draw 10 = .ok (.ldc2_w 264, 3) := by decide +kernel
theorem dX8_draw_13 : decode cX8_draw 13 = .ok (.ladd, 1) := by decide +kernel
theorem dX8_draw_14 : decode cX8_draw 14 = .ok (.ldc2_w 266, 3) := by decide +kernel
theorem dX8_draw_17 : decode cX8_draw 17 = .ok (.land, 1) := by decide +kernel
theorem dX8_draw_18 : decode cX8_draw 18 = .ok (.l2i, 1) := by decide +kernel
theorem dX8_draw_19 : decode cX8_draw 19 = .ok (.putfield 261, 3) := by decide +kernel
theorem dX8_draw_22 : decode cX8_draw 22 = .ok (.aload_n 0, 1) := by decide +kernel
theorem dX8_draw_23 : decode cX8_draw 23 = .ok (.getfield 261, 3) := by decide +kernel
theorem dX8_draw_26 : decode cX8_draw 26 = .ok (.ldc_w 268, 3) := by decide +kernel
theorem dX8_draw_29 : decode cX8_draw 29 = .ok (.idiv, 1) := by decide +kernel
theorem dX8_draw_30 : decode cX8_draw 30 = .ok (.iload_n 1, 1) := by decide +kernel
theorem dX8_draw_31 : decode cX8_draw 31 = .ok (.irem, 1) := by decide +kernel
theorem dX8_draw_32 : decode cX8_draw 32 = .ok (.ireturn, 1) := by decide +kernel
theorem dX8_evenings_0 : decode cX8_evenings 0 = .ok (.iload_n 1, 1) := by decide +kernel
theorem dX8_evenings_1 : decode cX8_evenings 1 = .ok (.i2l, 1) := by decide +kernel
theorem dX8_evenings_2 : decode cX8_evenings 2 = .ok (.lconst 1, 1) := by decide +kernel
theorem dX8_evenings_3 : decode cX8_evenings 3 = .ok (.ldc2_w 269, 3) := by decide +kernel
theorem dX8_evenings_6 : decode cX8_evenings 6 = .ok (.invokestatic 92, 3) := by decide +kernel
theorem dX8_evenings_9 : decode cX8_evenings 9 = .ok (.ifCond .eq 19, 3) := by decide +kernel
theorem dX8_evenings_12 : decode cX8_evenings 12 = .ok (.iload_n 2, 1) := by decide +kernel
theorem dX8_evenings_13 : decode cX8_evenings 13 = .ok (.ifCond .lt 15, 3) := by decide +kernel
theorem dX8_evenings_16 : decode cX8_evenings 16 = .ok (.iload_n 3, 1) := by decide +kernel
theorem dX8_evenings_17 : decode cX8_evenings 17 = .ok (.i2l, 1) := by decide +kernel
theorem dX8_evenings_18 : decode cX8_evenings 18 = .ok (.lconst 0, 1) := by decide +kernel
theorem dX8_evenings_19 : decode cX8_evenings 19 = .ok (.ldc2_w 271, 3) := by decide +kernel
theorem dX8_evenings_22 : decode cX8_evenings 22 = .ok (.invokestatic 92, 3) := by decide +kernel
theorem dX8_evenings_25 : decode cX8_evenings 25 = .ok (.ifCond .ne 6, 3) := by decide +kernel
theorem dX8_evenings_28 : decode cX8_evenings 28 = .ok (.bipush (-102), 2) := by decide +kernel
theorem dX8_evenings_30 : decode cX8_evenings 30 = .ok (.ireturn, 1) := by decide +kernel
theorem dX8_evenings_31 : decode cX8_evenings 31 = .ok (.aload_n 0, 1) := by decide +kernel
theorem dX8_evenings_32 : decode cX8_evenings 32 = .ok (.invokevirtual 229, 3) := by decide +kernel
theorem dX8_evenings_35 : decode cX8_evenings 35 = .ok (.ifCond .eq 6, 3) := by decide +kernel
theorem dX8_evenings_38 : decode cX8_evenings 38 = .ok (.bipush (-103), 2) := by decide +kernel
theorem dX8_evenings_40 : decode cX8_evenings 40 = .ok (.ireturn, 1) := by decide +kernel
theorem dX8_evenings_41 : decode cX8_evenings 41 = .ok (.aload_n 0, 1) := by decide +kernel
theorem dX8_evenings_42 : decode cX8_evenings 42 = .ok (.iload_n 2, 1) := by decide +kernel
theorem dX8_evenings_43 : decode cX8_evenings 43 = .ok (.putfield 261, 3) := by decide +kernel
theorem dX8_evenings_46 : decode cX8_evenings 46 = .ok (.aload_n 0, 1) := by decide +kernel
theorem dX8_evenings_47 : decode cX8_evenings 47 = .ok (.invokevirtual 208, 3) := by decide +kernel
theorem dX8_evenings_50 : decode cX8_evenings 50 = .ok (.aload_n 0, 1) := by decide +kernel
theorem dX8_evenings_51 : decode cX8_evenings 51 = .ok (.getfield 137, 3) := by decide +kernel
theorem dX8_evenings_54 : decode cX8_evenings 54 = .ok (.istore 4, 2) := by decide +kernel
theorem dX8_evenings_56 : decode cX8_evenings 56 = .ok (.iconst 0, 1) := by decide +kernel
theorem dX8_evenings_57 : decode cX8_evenings 57 = .ok (.istore 5, 2) := by decide +kernel
theorem dX8_evenings_59 : decode cX8_evenings 59 = .ok (.iconst 1, 1) := by decide +kernel
theorem dX8_evenings_60 : decode cX8_evenings 60 = .ok (.istore 6, 2) := by decide +kernel
theorem dX8_evenings_62 : decode cX8_evenings 62 = .ok (.iload 6, 2) := by decide +kernel
theorem dX8_evenings_64 : decode cX8_evenings 64 = .ok (.iload_n 1, 1) := by decide +kernel
theorem dX8_evenings_65 : decode cX8_evenings 65 = .ok (.if_icmp .gt 85, 3) := by decide +kernel
theorem dX8_evenings_68 : decode cX8_evenings 68 = .ok (.aload_n 0, 1) := by decide +kernel
theorem dX8_evenings_69 : decode cX8_evenings 69 = .ok (.aload_n 0, 1) := by decide +kernel
theorem dX8_evenings_70 : decode cX8_evenings 70 = .ok (.getfield 131, 3) := by decide +kernel
theorem dX8_evenings_73 : decode cX8_evenings 73 = .ok (.invokevirtual 273, 3) := by decide +kernel
theorem dX8_evenings_76 : decode cX8_evenings 76 = .ok (.istore 7, 2) := by decide +kernel
theorem dX8_evenings_78 : decode cX8_evenings 78 = .ok (.aload_n 0, 1) := by decide +kernel
theorem dX8_evenings_79 : decode cX8_evenings 79 = .ok (.getfield 13, 3) := by decide +kernel
theorem dX8_evenings_82 : decode cX8_evenings 82 = .ok (.iload 7, 2) := by decide +kernel
theorem dX8_evenings_84 : decode cX8_evenings 84 = .ok (.iaload, 1) := by decide +kernel
theorem dX8_evenings_85 : decode cX8_evenings 85 = .ok (.iload 4, 2) := by decide +kernel
theorem dX8_evenings_87 : decode cX8_evenings 87 = .ok (.if_icmp .ne 13, 3) := by decide +kernel
theorem dX8_evenings_90 : decode cX8_evenings 90 = .ok (.aload_n 0, 1) := by decide +kernel
theorem dX8_evenings_91 : decode cX8_evenings 91 = .ok (.getfield 16, 3) := by decide +kernel
theorem dX8_evenings_94 : decode cX8_evenings 94 = .ok (.iload 7, 2) := by decide +kernel
theorem dX8_evenings_96 : decode cX8_evenings 96 = .ok (.iaload, 1) := by decide +kernel
theorem dX8_evenings_97 : decode cX8_evenings 97 = .ok (.goto 27, 3) := by decide +kernel
theorem dX8_evenings_100 : decode cX8_evenings 100 = .ok (.aload_n 0, 1) := by decide +kernel
theorem dX8_evenings_101 : decode cX8_evenings 101 = .ok (.getfield 16, 3) := by decide +kernel
theorem dX8_evenings_104 : decode cX8_evenings 104 = .ok (.iload 7, 2) := by decide +kernel
theorem dX8_evenings_106 : decode cX8_evenings 106 = .ok (.iaload, 1) := by decide +kernel
theorem dX8_evenings_107 : decode cX8_evenings 107 = .ok (.iload 4, 2) := by decide +kernel
theorem dX8_evenings_109 : decode cX8_evenings 109 = .ok (.if_icmp .ne 13, 3) := by decide +kernel
theorem dX8_evenings_112 : decode cX8_evenings 112 = .ok (.aload_n 0, 1) := by decide +kernel
theorem dX8_evenings_113 : decode cX8_evenings 113 = .ok (.getfield 13, 3) := by decide +kernel
theorem dX8_evenings_116 : decode cX8_evenings 116 = .ok (.iload 7, 2) := by decide +kernel
theorem dX8_evenings_118 : decode cX8_evenings 118 = .ok (.iaload, 1) := by decide +kernel
theorem dX8_evenings_119 : decode cX8_evenings 119 = .ok (.goto 5, 3) := by decide +kernel
theorem dX8_evenings_122 : decode cX8_evenings 122 = .ok (.iload 4, 2) := by decide +kernel
theorem dX8_evenings_124 : decode cX8_evenings 124 = .ok (.istore 4, 2) := by decide +kernel
theorem dX8_evenings_126 : decode cX8_evenings 126 = .ok (.iload 5, 2) := by decide +kernel
theorem dX8_evenings_128 : decode cX8_evenings 128 = .ok (.aload_n 0, 1) := by decide +kernel
theorem dX8_evenings_129 : decode cX8_evenings 129 = .ok (.iload 4, 2) := by decide +kernel
theorem dX8_evenings_131 : decode cX8_evenings 131 = .ok (.aload_n 0, 1) := by decide +kernel
theorem dX8_evenings_132 : decode cX8_evenings 132 = .ok (.getfield 146, 3) := by decide +kernel
theorem dX8_evenings_135 : decode cX8_evenings 135 = .ok (.iload 6, 2) := by decide +kernel
theorem dX8_evenings_137 : decode cX8_evenings 137 = .ok (.iadd, 1) := by decide +kernel
theorem dX8_evenings_138 : decode cX8_evenings 138 = .ok (.invokevirtual 211, 3) := by decide +kernel
theorem dX8_evenings_141 : decode cX8_evenings 141 = .ok (.iadd, 1) := by decide +kernel
theorem dX8_evenings_142 : decode cX8_evenings 142 = .ok (.istore 5, 2) := by decide +kernel
theorem dX8_evenings_144 : decode cX8_evenings 144 = .ok (.iinc 6 1, 3) := by decide +kernel
theorem dX8_evenings_147 : decode cX8_evenings 147 = .ok (.goto (-85), 3) := by decide +kernel
theorem dX8_evenings_150 : decode cX8_evenings 150 = .ok (.iload_n 3, 1) := by decide +kernel
theorem dX8_evenings_151 : decode cX8_evenings 151 = .ok (.ifCond .ne 8, 3) := by decide +kernel
theorem dX8_evenings_154 : decode cX8_evenings 154 = .ok (.iload 5, 2) := by decide +kernel
theorem dX8_evenings_156 : decode cX8_evenings 156 = .ok (.goto 17, 3) := by decide +kernel
theorem dX8_evenings_159 : decode cX8_evenings 159 = .ok (.iload_n 3, 1) := by decide +kernel
theorem dX8_evenings_160 : decode cX8_evenings 160 = .ok (.iconst 1, 1) := by decide +kernel
theorem dX8_evenings_161 : decode cX8_evenings 161 = .ok (.if_icmp .ne 8, 3) := by decide +kernel
theorem dX8_evenings_164 : decode cX8_evenings 164 = .ok (.iload 4, 2) := by decide +kernel
theorem dX8_evenings_166 : decode cX8_evenings 166 = .ok (.goto 7, 3) := by decide +kernel
theorem dX8_evenings_169 : decode cX8_evenings 169 = .ok (.aload_n 0, 1) := by decide +kernel
theorem dX8_evenings_170 : decode cX8_evenings 170 = .ok (.getfield 261, 3) := by decide +kernel
theorem dX8_evenings_173 : decode cX8_evenings 173 = .ok (.ireturn, 1) := by decide +kernel
theorem dX8_image_0 : decode cX8_image 0 = .ok (.aload_n 0, 1) := by decide +kernel
theorem dX8_image_1 : decode cX8_image 1 = .ok (.invokevirtual 229, 3) := by decide +kernel
theorem dX8_image_4 : decode cX8_image 4 = .ok (.ifCond .eq 6, 3) := by decide +kernel
theorem dX8_image_7 : decode cX8_image 7 = .ok (.bipush (-103), 2) := by decide +kernel
theorem dX8_image_9 : decode cX8_image 9 = .ok (.ireturn, 1) := by decide +kernel
theorem dX8_image_10 : decode cX8_image 10 = .ok (.aload_n 0, 1) := by decide +kernel
theorem dX8_image_11 : decode cX8_image 11 = .ok (.getfield 19, 3) := by decide +kernel
theorem dX8_image_14 : decode cX8_image 14 = .ok (.aload_n 0, 1) := by decide +kernel
theorem dX8_image_15 : decode cX8_image 15 = .ok (.getfield 68, 3) := by decide +kernel
theorem dX8_image_18 : decode cX8_image 18 = .ok (.invokestatic 155, 3) := by decide +kernel
theorem dX8_image_21 : decode cX8_image 21 = .ok (.aload_n 0, 1) := by decide +kernel
theorem dX8_image_22 : decode cX8_image 22 = .ok (.getfield 25, 3) := by decide +kernel
theorem dX8_image_25 : decode cX8_image 25 = .ok (.aload_n 0, 1) := by decide +kernel
theorem dX8_image_26 : decode cX8_image 26 = .ok (.getfield 71, 3) := by decide +kernel
theorem dX8_image_29 : decode cX8_image 29 = .ok (.invokestatic 155, 3) := by decide +kernel
theorem dX8_image_32 : decode cX8_image 32 = .ok (.aload_n 0, 1) := by decide +kernel
theorem dX8_image_33 : decode cX8_image 33 = .ok (.getfield 28, 3) := by decide +kernel
theorem dX8_image_36 : decode cX8_image 36 = .ok (.aload_n 0, 1) := by decide +kernel
theorem dX8_image_37 : decode cX8_image 37 = .ok (.getfield 74, 3) := by decide +kernel
theorem dX8_image_40 : decode cX8_image 40 = .ok (.invokestatic 155, 3) := by decide +kernel
theorem dX8_image_43 : decode cX8_image 43 = .ok (.aload_n 0, 1) := by decide +kernel
theorem dX8_image_44 : decode cX8_image 44 = .ok (.getfield 31, 3) := by decide +kernel
theorem dX8_image_47 : decode cX8_image 47 = .ok (.aload_n 0, 1) := by decide +kernel
theorem dX8_image_48 : decode cX8_image 48 = .ok (.getfield 77, 3) := by decide +kernel
theorem dX8_image_51 : decode cX8_image 51 = .ok (.invokestatic 155, 3) := by decide +kernel
theorem dX8_image_54 : decode cX8_image 54 = .ok (.aload_n 0, 1) := by decide +kernel
theorem dX8_image_55 : decode cX8_image 55 = .ok (.getfield 34, 3) := by decide +kernel
theorem dX8_image_58 : decode cX8_image 58 = .ok (.aload_n 0, 1) := by decide +kernel
theorem dX8_image_59 : decode cX8_image 59 = .ok (.getfield 80, 3) := by decide +kernel
theorem dX8_image_62 : decode cX8_image 62 = .ok (.invokestatic 155, 3) := by decide +kernel
theorem dX8_image_65 : decode cX8_image 65 = .ok (.aload_n 0, 1) := by decide +kernel
theorem dX8_image_66 : decode cX8_image 66 = .ok (.getfield 65, 3) := by decide +kernel
theorem dX8_image_69 : decode cX8_image 69 = .ok (.aload_n 0, 1) := by decide +kernel
theorem dX8_image_70 : decode cX8_image 70 = .ok (.getfield 83, 3) := by decide +kernel
theorem dX8_image_73 : decode cX8_image 73 = .ok (.invokestatic 155, 3) := by decide +kernel
theorem dX8_image_76 : decode cX8_image 76 = .ok (.aload_n 0, 1) := by decide +kernel
theorem dX8_image_77 : decode cX8_image 77 = .ok (.aload_n 0, 1) := by decide +kernel
theorem dX8_image_78 : decode cX8_image 78 = .ok (.getfield 137, 3) := by decide +kernel
theorem dX8_image_81 : decode cX8_image 81 = .ok (.putfield 276, 3) := by decide +kernel
theorem dX8_image_84 : decode cX8_image 84 = .ok (.aload_n 0, 1) := by decide +kernel
theorem dX8_image_85 : decode cX8_image 85 = .ok (.aload_n 0, 1) := by decide +kernel
theorem dX8_image_86 : decode cX8_image 86 = .ok (.getfield 146, 3) := by decide +kernel
theorem dX8_image_89 : decode cX8_image 89 = .ok (.putfield 279, 3) := by decide +kernel
theorem dX8_image_92 : decode cX8_image 92 = .ok (.aload_n 0, 1) := by decide +kernel
theorem dX8_image_93 : decode cX8_image 93 = .ok (.aload_n 0, 1) := by decide +kernel
theorem dX8_image_94 : decode cX8_image 94 = .ok (.getfield 149, 3) := by decide +kernel
theorem dX8_image_97 : decode cX8_image 97 = .ok (.putfield 282, 3) := by decide +kernel
theorem dX8_image_100 : decode cX8_image 100 = .ok (.aload_n 0, 1) := by decide +kernel
theorem dX8_image_101 : decode cX8_image 101 = .ok (.aload_n 0, 1) := by decide +kernel
theorem dX8_image_102 : decode cX8_image 102 = .ok (.getfield 152, 3) := by decide +kernel
theorem dX8_image_105 : decode cX8_image 105 = .ok (.putfield 86, 3) := by decide +kernel
theorem dX8_image_108 : decode cX8_image 108 = .ok (.aload_n 0, 1) := by decide +kernel
theorem dX8_image_109 : decode cX8_image 109 = .ok (.getfield 146, 3) := by decide +kernel
theorem dX8_image_112 : decode cX8_image 112 = .ok (.ireturn, 1) := by decide +kernel
theorem dX8_restore_0 : decode cX8_restore 0 = .ok (.aload_n 0, 1) := by decide +kernel
theorem dX8_restore_1 : decode cX8_restore 1 = .ok (.getfield 86, 3) := by decide +kernel
theorem dX8_restore_4 : decode cX8_restore 4 = .ok (.aload_n 0, 1) := by decide +kernel
theorem dX8_restore_5 : decode cX8_restore 5 = .ok (.getfield 152, 3) := by decide +kernel
theorem dX8_restore_8 : decode cX8_restore 8 = .ok (.if_icmp .eq 6, 3) := by decide +kernel
theorem dX8_restore_11 : decode cX8_restore 11 = .ok (.bipush (-103), 2) := by decide +kernel
theorem dX8_restore_13 : decode cX8_restore 13 = .ok (.ireturn, 1) := by decide +kernel
theorem dX8_restore_14 : decode cX8_restore 14 = .ok (.aload_n 0, 1) := by decide +kernel
theorem dX8_restore_15 : decode cX8_restore 15 = .ok (.getfield 68, 3) := by decide +kernel
theorem dX8_restore_18 : decode cX8_restore 18 = .ok (.aload_n 0, 1) := by decide +kernel
theorem dX8_restore_19 : decode cX8_restore 19 = .ok (.getfield 19, 3) := by decide +kernel
theorem dX8_restore_22 : decode cX8_restore 22 = .ok (.invokestatic 155, 3) := by decide +kernel
theorem dX8_restore_25 : decode cX8_restore 25 = .ok (.aload_n 0, 1) := by decide +kernel
theorem dX8_restore_26 : decode cX8_restore 26 = .ok (.getfield 71, 3) := by decide +kernel
theorem dX8_restore_29 : decode cX8_restore 29 = .ok (.aload_n 0, 1) := by decide +kernel
theorem dX8_restore_30 : decode cX8_restore 30 = .ok (.getfield 25, 3) := by decide +kernel
theorem dX8_restore_33 : decode cX8_restore 33 = .ok (.invokestatic 155, 3) := by decide +kernel
theorem dX8_restore_36 : decode cX8_restore 36 = .ok (.aload_n 0, 1) := by decide +kernel
theorem dX8_restore_37 : decode cX8_restore 37 = .ok (.getfield 74, 3) := by decide +kernel
theorem dX8_restore_40 : decode cX8_restore 40 = .ok (.aload_n 0, 1) := by decide +kernel
theorem dX8_restore_41 : decode cX8_restore 41 = .ok (.getfield 28, 3) := by decide +kernel
theorem dX8_restore_44 : decode cX8_restore 44 = .ok (.invokestatic 155, 3) := by decide +kernel
theorem dX8_restore_47 : decode cX8_restore 47 = .ok (.aload_n 0, 1) := by decide +kernel
theorem dX8_restore_48 : decode cX8_restore 48 = .ok (.getfield 77, 3) := by decide +kernel
theorem dX8_restore_51 : decode cX8_restore 51 = .ok (.aload_n 0, 1) := by decide +kernel
theorem dX8_restore_52 : decode cX8_restore 52 = .ok (.getfield 31, 3) := by decide +kernel
theorem dX8_restore_55 : decode cX8_restore 55 = .ok (.invokestatic 155, 3) := by decide +kernel
theorem dX8_restore_58 : decode cX8_restore 58 = .ok (.aload_n 0, 1) := by decide +kernel
theorem dX8_restore_59 : decode cX8_restore 59 = .ok (.getfield 80, 3) := by decide +kernel
theorem dX8_restore_62 : decode cX8_restore 62 = .ok (.aload_n 0, 1) := by decide +kernel
theorem dX8_restore_63 : decode cX8_restore 63 = .ok (.getfield 34, 3) := by decide +kernel
theorem dX8_restore_66 : decode cX8_restore 66 = .ok (.invokestatic 155, 3) := by decide +kernel
theorem dX8_restore_69 : decode cX8_restore 69 = .ok (.aload_n 0, 1) := by decide +kernel
theorem dX8_restore_70 : decode cX8_restore 70 = .ok (.getfield 83, 3) := by decide +kernel
theorem dX8_restore_73 : decode cX8_restore 73 = .ok (.aload_n 0, 1) := by decide +kernel
theorem dX8_restore_74 : decode cX8_restore 74 = .ok (.getfield 65, 3) := by decide +kernel
theorem dX8_restore_77 : decode cX8_restore 77 = .ok (.invokestatic 155, 3) := by decide +kernel
theorem dX8_restore_80 : decode cX8_restore 80 = .ok (.aload_n 0, 1) := by decide +kernel
theorem dX8_restore_81 : decode cX8_restore 81 = .ok (.aload_n 0, 1) := by decide +kernel
theorem dX8_restore_82 : decode cX8_restore 82 = .ok (.getfield 276, 3) := by decide +kernel
theorem dX8_restore_85 : decode cX8_restore 85 = .ok (.putfield 137, 3) := by decide +kernel
theorem dX8_restore_88 : decode cX8_restore 88 = .ok (.aload_n 0, 1) := by decide +kernel
theorem dX8_restore_89 : decode cX8_restore 89 = .ok (.aload_n 0, 1) := by decide +kernel
theorem dX8_restore_90 : decode cX8_restore 90 = .ok (.getfield 279, 3) := by decide +kernel
theorem dX8_restore_93 : decode cX8_restore 93 = .ok (.putfield 146, 3) := by decide +kernel
theorem dX8_restore_96 : decode cX8_restore 96 = .ok (.aload_n 0, 1) := by decide +kernel
theorem dX8_restore_97 : decode cX8_restore 97 = .ok (.aload_n 0, 1) := by decide +kernel
theorem dX8_restore_98 : decode cX8_restore 98 = .ok (.getfield 282, 3) := by decide +kernel
theorem dX8_restore_101 : decode cX8_restore 101 = .ok (.putfield 149, 3) := by decide +kernel
theorem dX8_restore_104 : decode cX8_restore 104 = .ok (.aload_n 0, 1) := by decide +kernel
theorem dX8_restore_105 : decode cX8_restore 105 = .ok (.getfield 146, 3) := by decide +kernel
theorem dX8_restore_108 : decode cX8_restore 108 = .ok (.ireturn, 1) := by decide +kernel
theorem dX8_sumOf_0 : decode cX8_sumOf 0 = .ok (.iconst 0, 1) := by decide +kernel
theorem dX8_sumOf_1 : decode cX8_sumOf 1 = .ok (.istore_n 2, 1) := by decide +kernel
theorem dX8_sumOf_2 : decode cX8_sumOf 2 = .ok (.iconst 0, 1) := by decide +kernel
theorem dX8_sumOf_3 : decode cX8_sumOf 3 = .ok (.istore_n 3, 1) := by decide +kernel
theorem dX8_sumOf_4 : decode cX8_sumOf 4 = .ok (.iload_n 3, 1) := by decide +kernel
theorem dX8_sumOf_5 : decode cX8_sumOf 5 = .ok (.aload_n 0, 1) := by decide +kernel
theorem dX8_sumOf_6 : decode cX8_sumOf 6 = .ok (.getfield 140, 3) := by decide +kernel
theorem dX8_sumOf_9 : decode cX8_sumOf 9 = .ok (.if_icmp .ge 15, 3) := by decide +kernel
theorem dX8_sumOf_12 : decode cX8_sumOf 12 = .ok (.iload_n 2, 1) := by decide +kernel
theorem dX8_sumOf_13 : decode cX8_sumOf 13 = .ok (.aload_n 1, 1) := by decide +kernel
theorem dX8_sumOf_14 : decode cX8_sumOf 14 = .ok (.iload_n 3, 1) := by decide +kernel
theorem dX8_sumOf_15 : decode cX8_sumOf 15 = .ok (.iaload, 1) := by decide +kernel
theorem dX8_sumOf_16 : decode cX8_sumOf 16 = .ok (.iadd, 1) := by decide +kernel
theorem dX8_sumOf_17 : decode cX8_sumOf 17 = .ok (.istore_n 2, 1) := by decide +kernel
theorem dX8_sumOf_18 : decode cX8_sumOf 18 = .ok (.iinc 3 1, 3) := by decide +kernel
theorem dX8_sumOf_21 : decode cX8_sumOf 21 = .ok (.goto (-17), 3) := by decide +kernel
theorem dX8_sumOf_24 : decode cX8_sumOf 24 = .ok (.iload_n 2, 1) := by decide +kernel
theorem dX8_sumOf_25 : decode cX8_sumOf 25 = .ok (.ireturn, 1) := by decide +kernel
theorem dX8_hearing_0 : decode cX8_hearing 0 = .ok (.iconst 0, 1) := by decide +kernel
theorem dX8_hearing_1 : decode cX8_hearing 1 = .ok (.istore_n 1, 1) := by decide +kernel
theorem dX8_hearing_2 : decode cX8_hearing 2 = .ok (.iconst 0, 1) := by decide +kernel
theorem dX8_hearing_3 : decode cX8_hearing 3 = .ok (.istore_n 2, 1) := by decide +kernel
theorem dX8_hearing_4 : decode cX8_hearing 4 = .ok (.iload_n 2, 1) := by decide +kernel
theorem dX8_hearing_5 : decode cX8_hearing 5 = .ok (.aload_n 0, 1) := by decide +kernel
theorem dX8_hearing_6 : decode cX8_hearing 6 = .ok (.getfield 140, 3) := by decide +kernel
theorem dX8_hearing_9 : decode cX8_hearing 9 = .ok (.if_icmp .ge 17, 3) := by decide +kernel
theorem dX8_hearing_12 : decode cX8_hearing 12 = .ok (.iload_n 1, 1) := by decide +kernel
theorem dX8_hearing_13 : decode cX8_hearing 13 = .ok (.aload_n 0, 1) := by decide +kernel
theorem dX8_hearing_14 : decode cX8_hearing 14 = .ok (.iload_n 2, 1) := by decide +kernel
theorem dX8_hearing_15 : decode cX8_hearing 15 = .ok (.invokevirtual 169, 3) := by decide +kernel
theorem dX8_hearing_18 : decode cX8_hearing 18 = .ok (.iadd, 1) := by decide +kernel
theorem dX8_hearing_19 : decode cX8_hearing 19 = .ok (.istore_n 1, 1) := by decide +kernel
theorem dX8_hearing_20 : decode cX8_hearing 20 = .ok (.iinc 2 1, 3) := by decide +kernel
theorem dX8_hearing_23 : decode cX8_hearing 23 = .ok (.goto (-19), 3) := by decide +kernel
theorem dX8_hearing_26 : decode cX8_hearing 26 = .ok (.iload_n 1, 1) := by decide +kernel
theorem dX8_hearing_27 : decode cX8_hearing 27 = .ok (.ireturn, 1) := by decide +kernel
theorem dX8_countOf_0 : decode cX8_countOf 0 = .ok (.iload_n 1, 1) := by decide +kernel
theorem dX8_countOf_1 : decode cX8_countOf 1 = .ok (.tableswitch 131 0 11 #[63, 68, 73, 78, 83, 88, 97, 106, 111, 116, 121, 126], 63) := by decide +kernel
theorem dX8_countOf_64 : decode cX8_countOf 64 = .ok (.aload_n 0, 1) := by decide +kernel
theorem dX8_countOf_65 : decode cX8_countOf 65 = .ok (.getfield 134, 3) := by decide +kernel
theorem dX8_countOf_68 : decode cX8_countOf 68 = .ok (.ireturn, 1) := by decide +kernel
theorem dX8_countOf_69 : decode cX8_countOf 69 = .ok (.aload_n 0, 1) := by decide +kernel
theorem dX8_countOf_70 : decode cX8_countOf 70 = .ok (.getfield 131, 3) := by decide +kernel
theorem dX8_countOf_73 : decode cX8_countOf 73 = .ok (.ireturn, 1) := by decide +kernel
theorem dX8_countOf_74 : decode cX8_countOf 74 = .ok (.aload_n 0, 1) := by decide +kernel
theorem dX8_countOf_75 : decode cX8_countOf 75 = .ok (.getfield 140, 3) := by decide +kernel
theorem dX8_countOf_78 : decode cX8_countOf 78 = .ok (.ireturn, 1) := by decide +kernel
theorem dX8_countOf_79 : decode cX8_countOf 79 = .ok (.aload_n 0, 1) := by decide +kernel
theorem dX8_countOf_80 : decode cX8_countOf 80 = .ok (.getfield 137, 3) := by decide +kernel
theorem dX8_countOf_83 : decode cX8_countOf 83 = .ok (.ireturn, 1) := by decide +kernel
theorem dX8_countOf_84 : decode cX8_countOf 84 = .ok (.aload_n 0, 1) := by decide +kernel
theorem dX8_countOf_85 : decode cX8_countOf 85 = .ok (.getfield 146, 3) := by decide +kernel
theorem dX8_countOf_88 : decode cX8_countOf 88 = .ok (.ireturn, 1) := by decide +kernel
theorem dX8_countOf_89 : decode cX8_countOf 89 = .ok (.aload_n 0, 1) := by decide +kernel
theorem dX8_countOf_90 : decode cX8_countOf 90 = .ok (.aload_n 0, 1) := by decide +kernel
theorem dX8_countOf_91 : decode cX8_countOf 91 = .ok (.getfield 34, 3) := by decide +kernel
theorem dX8_countOf_94 : decode cX8_countOf 94 = .ok (.invokevirtual 285, 3) := by decide +kernel
theorem dX8_countOf_97 : decode cX8_countOf 97 = .ok (.ireturn, 1) := by decide +kernel
theorem dX8_countOf_98 : decode cX8_countOf 98 = .ok (.aload_n 0, 1) := by decide +kernel
theorem dX8_countOf_99 : decode cX8_countOf 99 = .ok (.aload_n 0, 1) := by decide +kernel
theorem dX8_countOf_100 : decode cX8_countOf 100 = .ok (.getfield 31, 3) := by decide +kernel
theorem dX8_countOf_103 : decode cX8_countOf 103 = .ok (.invokevirtual 285, 3) := by decide +kernel
theorem dX8_countOf_106 : decode cX8_countOf 106 = .ok (.ireturn, 1) := by decide +kernel
theorem dX8_countOf_107 : decode cX8_countOf 107 = .ok (.aload_n 0, 1) := by decide +kernel
theorem dX8_countOf_108 : decode cX8_countOf 108 = .ok (.invokevirtual 289, 3) := by decide +kernel
theorem dX8_countOf_111 : decode cX8_countOf 111 = .ok (.ireturn, 1) := by decide +kernel
theorem dX8_countOf_112 : decode cX8_countOf 112 = .ok (.aload_n 0, 1) := by decide +kernel
theorem dX8_countOf_113 : decode cX8_countOf 113 = .ok (.getfield 149, 3) := by decide +kernel
theorem dX8_countOf_116 : decode cX8_countOf 116 = .ok (.ireturn, 1) := by decide +kernel
theorem dX8_countOf_117 : decode cX8_countOf 117 = .ok (.aload_n 0, 1) := by decide +kernel
theorem dX8_countOf_118 : decode cX8_countOf 118 = .ok (.getfield 96, 3) := by decide +kernel
theorem dX8_countOf_121 : decode cX8_countOf 121 = .ok (.ireturn, 1) := by decide +kernel
theorem dX8_countOf_122 : decode cX8_countOf 122 = .ok (.aload_n 0, 1) := by decide +kernel
theorem dX8_countOf_123 : decode cX8_countOf 123 = .ok (.getfield 152, 3) := by decide +kernel
theorem dX8_countOf_126 : decode cX8_countOf 126 = .ok (.ireturn, 1) := by decide +kernel
theorem dX8_countOf_127 : decode cX8_countOf 127 = .ok (.aload_n 0, 1) := by decide +kernel
theorem dX8_countOf_128 : decode cX8_countOf 128 = .ok (.getfield 233, 3) := by decide +kernel
theorem dX8_countOf_131 : decode cX8_countOf 131 = .ok (.ireturn, 1) := by decide +kernel
theorem dX8_countOf_132 : decode cX8_countOf 132 = .ok (.bipush (-102), 2) := by decide +kernel
theorem dX8_countOf_134 : decode cX8_countOf 134 = .ok (.ireturn, 1) := by decide +kernel
theorem dX8_count_0 : decode cX8_count 0 = .ok (.aload_n 0, 1) := by decide +kernel
theorem dX8_count_1 : decode cX8_count 1 = .ok (.iload_n 1, 1) := by decide +kernel
theorem dX8_count_2 : decode cX8_count 2 = .ok (.invokevirtual 292, 3) := by decide +kernel
theorem dX8_count_5 : decode cX8_count 5 = .ok (.ireturn, 1) := by decide +kernel
theorem dX8_say_0 : decode cX8_say 0 = .ok (.aload_n 0, 1) := by decide +kernel
theorem dX8_say_1 : decode cX8_say 1 = .ok (.ldc2_w 295, 3) := by decide +kernel
theorem dX8_say_4 : decode cX8_say 4 = .ok (.aload_n 0, 1) := by decide +kernel
theorem dX8_say_5 : decode cX8_say 5 = .ok (.getfield 297, 3) := by decide +kernel
theorem dX8_say_8 : decode cX8_say 8 = .ok (.lmul, 1) := by decide +kernel
theorem dX8_say_9 : decode cX8_say 9 = .ok (.lload_n 1, 1) := by decide +kernel
theorem dX8_say_10 : decode cX8_say 10 = .ok (.ladd, 1) := by decide +kernel
theorem dX8_say_11 : decode cX8_say 11 = .ok (.putfield 297, 3) := by decide +kernel
theorem dX8_say_14 : decode cX8_say 14 = .ok (.return_, 1) := by decide +kernel
theorem dX8_sayThings_0 : decode cX8_sayThings 0 = .ok (.iconst 0, 1) := by decide +kernel
theorem dX8_sayThings_1 : decode cX8_sayThings 1 = .ok (.istore_n 1, 1) := by decide +kernel
theorem dX8_sayThings_2 : decode cX8_sayThings 2 = .ok (.iload_n 1, 1) := by decide +kernel
theorem dX8_sayThings_3 : decode cX8_sayThings 3 = .ok (.aload_n 0, 1) := by decide +kernel
theorem dX8_sayThings_4 : decode cX8_sayThings 4 = .ok (.getfield 131, 3) := by decide +kernel
theorem dX8_sayThings_7 : decode cX8_sayThings 7 = .ok (.if_icmp .ge 31, 3) := by decide +kernel
theorem dX8_sayThings_10 : decode cX8_sayThings 10 = .ok (.aload_n 0, 1) := by decide +kernel
theorem dX8_sayThings_11 : decode cX8_sayThings 11 = .ok (.aload_n 0, 1) := by decide +kernel
theorem dX8_sayThings_12 : decode cX8_sayThings 12 = .ok (.getfield 13, 3) := by decide +kernel
theorem dX8_sayThings_15 : decode cX8_sayThings 15 = .ok (.iload_n 1, 1) := by decide +kernel
theorem dX8_sayThings_16 : decode cX8_sayThings 16 = .ok (.iaload, 1) := by decide +kernel
theorem dX8_sayThings_17 : decode cX8_sayThings 17 = .ok (.i2l, 1) := by decide +kernel
theorem dX8_sayThings_18 : decode cX8_sayThings 18 = .ok (.invokevirtual 301, 3) := by decide +kernel
theorem dX8_sayThings_21 : decode cX8_sayThings 21 = .ok (.aload_n 0, 1) := by decide +kernel
theorem dX8_sayThings_22 : decode cX8_sayThings 22 = .ok (.aload_n 0, 1) := by decide +kernel
theorem dX8_sayThings_23 : decode cX8_sayThings 23 = .ok (.getfield 16, 3) := by decide +kernel
theorem dX8_sayThings_26 : decode cX8_sayThings 26 = .ok (.iload_n 1, 1) := by decide +kernel
theorem dX8_sayThings_27 : decode cX8_sayThings 27 = .ok (.iaload, 1) := by decide +kernel
theorem dX8_sayThings_28 : decode cX8_sayThings 28 = .ok (.i2l, 1) := by decide +kernel
theorem dX8_sayThings_29 : decode cX8_sayThings 29 = .ok (.invokevirtual 301, 3) := by decide +kernel
theorem dX8_sayThings_32 : decode cX8_sayThings 32 = .ok (.iinc 1 1, 3) := by decide +kernel
theorem dX8_sayThings_35 : decode cX8_sayThings 35 = .ok (.goto (-33), 3) := by decide +kernel
theorem dX8_sayThings_38 : decode cX8_sayThings 38 = .ok (.iconst 0, 1) := by decide +kernel
theorem dX8_sayThings_39 : decode cX8_sayThings 39 = .ok (.istore_n 1, 1) := by decide +kernel
theorem dX8_sayThings_40 : decode cX8_sayThings 40 = .ok (.iload_n 1, 1) := by decide +kernel
theorem dX8_sayThings_41 : decode cX8_sayThings 41 = .ok (.aload_n 0, 1) := by decide +kernel
theorem dX8_sayThings_42 : decode cX8_sayThings 42 = .ok (.getfield 134, 3) := by decide +kernel
theorem dX8_sayThings_45 : decode cX8_sayThings 45 = .ok (.if_icmp .ge 33, 3) := by decide +kernel
theorem dX8_sayThings_48 : decode cX8_sayThings 48 = .ok (.iconst 0, 1) := by decide +kernel
theorem dX8_sayThings_49 : decode cX8_sayThings 49 = .ok (.istore_n 2, 1) := by decide +kernel
theorem dX8_sayThings_50 : decode cX8_sayThings 50 = .ok (.iload_n 2, 1) := by decide +kernel
theorem dX8_sayThings_51 : decode cX8_sayThings 51 = .ok (.iconst 4, 1) := by decide +kernel
theorem dX8_sayThings_52 : decode cX8_sayThings 52 = .ok (.if_icmp .ge 20, 3) := by decide +kernel
theorem dX8_sayThings_55 : decode cX8_sayThings 55 = .ok (.aload_n 0, 1) := by decide +kernel
theorem dX8_sayThings_56 : decode cX8_sayThings 56 = .ok (.aload_n 0, 1) := by decide +kernel
theorem dX8_sayThings_57 : decode cX8_sayThings 57 = .ok (.iload_n 1, 1) := by decide +kernel
theorem dX8_sayThings_58 : decode cX8_sayThings 58 = .ok (.iload_n 2, 1) := by decide +kernel
theorem dX8_sayThings_59 : decode cX8_sayThings 59 = .ok (.invokevirtual 205, 3) := by decide +kernel
theorem dX8_sayThings_62 : decode cX8_sayThings 62 = .ok (.i2l, 1) := by decide +kernel
theorem dX8_sayThings_63 : decode cX8_sayThings 63 = .ok (.invokevirtual 301, 3) := by decide +kernel
theorem dX8_sayThings_66 : decode cX8_sayThings 66 = .ok (.iinc 2 1, 3) := by decide +kernel
theorem dX8_sayThings_69 : decode cX8_sayThings 69 = .ok (.goto (-19), 3) := by decide +kernel
theorem dX8_sayThings_72 : decode cX8_sayThings 72 = .ok (.iinc 1 1, 3) := by decide +kernel
theorem dX8_sayThings_75 : decode cX8_sayThings 75 = .ok (.goto (-35), 3) := by decide +kernel
theorem dX8_sayThings_78 : decode cX8_sayThings 78 = .ok (.return_, 1) := by decide +kernel
theorem dX8_digest_0 : decode cX8_digest 0 = .ok (.aload_n 0, 1) := by decide +kernel
theorem dX8_digest_1 : decode cX8_digest 1 = .ok (.ldc2_w 305, 3) := by decide +kernel
theorem dX8_digest_4 : decode cX8_digest 4 = .ok (.putfield 297, 3) := by decide +kernel
theorem dX8_digest_7 : decode cX8_digest 7 = .ok (.iconst 0, 1) := by decide +kernel
theorem dX8_digest_8 : decode cX8_digest 8 = .ok (.istore_n 1, 1) := by decide +kernel
theorem dX8_digest_9 : decode cX8_digest 9 = .ok (.iload_n 1, 1) := by decide +kernel
theorem dX8_digest_10 : decode cX8_digest 10 = .ok (.aload_n 0, 1) := by decide +kernel
theorem dX8_digest_11 : decode cX8_digest 11 = .ok (.getfield 140, 3) := by decide +kernel
theorem dX8_digest_14 : decode cX8_digest 14 = .ok (.if_icmp .ge 58, 3) := by decide +kernel
theorem dX8_digest_17 : decode cX8_digest 17 = .ok (.iconst 0, 1) := by decide +kernel
theorem dX8_digest_18 : decode cX8_digest 18 = .ok (.istore_n 2, 1) := by decide +kernel
theorem dX8_digest_19 : decode cX8_digest 19 = .ok (.iload_n 2, 1) := by decide +kernel
theorem dX8_digest_20 : decode cX8_digest 20 = .ok (.bipush 9, 2) := by decide +kernel
theorem dX8_digest_22 : decode cX8_digest 22 = .ok (.if_icmp .ge 20, 3) := by decide +kernel
theorem dX8_digest_25 : decode cX8_digest 25 = .ok (.aload_n 0, 1) := by decide +kernel
theorem dX8_digest_26 : decode cX8_digest 26 = .ok (.aload_n 0, 1) := by decide +kernel
theorem dX8_digest_27 : decode cX8_digest 27 = .ok (.iload_n 1, 1) := by decide +kernel
theorem dX8_digest_28 : decode cX8_digest 28 = .ok (.iload_n 2, 1) := by decide +kernel
theorem dX8_digest_29 : decode cX8_digest 29 = .ok (.invokevirtual 178, 3) := by decide +kernel
theorem dX8_digest_32 : decode cX8_digest 32 = .ok (.i2l, 1) := by decide +kernel
theorem dX8_digest_33 : decode cX8_digest 33 = .ok (.invokevirtual 301, 3) := by decide +kernel
theorem dX8_digest_36 : decode cX8_digest 36 = .ok (.iinc 2 1, 3) := by decide +kernel
theorem dX8_digest_39 : decode cX8_digest 39 = .ok (.goto (-20), 3) := by decide +kernel
theorem dX8_digest_42 : decode cX8_digest 42 = .ok (.aload_n 0, 1) := by decide +kernel
theorem dX8_digest_43 : decode cX8_digest 43 = .ok (.aload_n 0, 1) := by decide +kernel
theorem dX8_digest_44 : decode cX8_digest 44 = .ok (.iload_n 1, 1) := by decide +kernel
theorem dX8_digest_45 : decode cX8_digest 45 = .ok (.iconst 2, 1) := by decide +kernel
theorem dX8_digest_46 : decode cX8_digest 46 = .ok (.iconst 0, 1) := by decide +kernel
theorem dX8_digest_47 : decode cX8_digest 47 = .ok (.invokevirtual 247, 3) := by decide +kernel
theorem dX8_digest_50 : decode cX8_digest 50 = .ok (.i2l, 1) := by decide +kernel
theorem dX8_digest_51 : decode cX8_digest 51 = .ok (.invokevirtual 301, 3) := by decide +kernel
theorem dX8_digest_54 : decode cX8_digest 54 = .ok (.aload_n 0, 1) := by decide +kernel
theorem dX8_digest_55 : decode cX8_digest 55 = .ok (.aload_n 0, 1) := by decide +kernel
theorem dX8_digest_56 : decode cX8_digest 56 = .ok (.iload_n 1, 1) := by decide +kernel
theorem dX8_digest_57 : decode cX8_digest 57 = .ok (.iconst 2, 1) := by decide +kernel
theorem dX8_digest_58 : decode cX8_digest 58 = .ok (.iconst 1, 1) := by decide +kernel
theorem dX8_digest_59 : decode cX8_digest 59 = .ok (.invokevirtual 247, 3) := by decide +kernel
theorem dX8_digest_62 : decode cX8_digest 62 = .ok (.i2l, 1) := by decide +kernel
theorem dX8_digest_63 : decode cX8_digest 63 = .ok (.invokevirtual 301, 3) := by decide +kernel
theorem dX8_digest_66 : decode cX8_digest 66 = .ok (.iinc 1 1, 3) := by decide +kernel
theorem dX8_digest_69 : decode cX8_digest 69 = .ok (.goto (-60), 3) := by decide +kernel
theorem dX8_digest_72 : decode cX8_digest 72 = .ok (.aload_n 0, 1) := by decide +kernel
theorem dX8_digest_73 : decode cX8_digest 73 = .ok (.invokevirtual 307, 3) := by decide +kernel
theorem dX8_digest_76 : decode cX8_digest 76 = .ok (.aload_n 0, 1) := by decide +kernel
theorem dX8_digest_77 : decode cX8_digest 77 = .ok (.invokevirtual 229, 3) := by decide +kernel
theorem dX8_digest_80 : decode cX8_digest 80 = .ok (.ifCond .ne 21, 3) := by decide +kernel
theorem dX8_digest_83 : decode cX8_digest 83 = .ok (.aload_n 0, 1) := by decide +kernel
theorem dX8_digest_84 : decode cX8_digest 84 = .ok (.aload_n 0, 1) := by decide +kernel
theorem dX8_digest_85 : decode cX8_digest 85 = .ok (.invokevirtual 253, 3) := by decide +kernel
theorem dX8_digest_88 : decode cX8_digest 88 = .ok (.i2l, 1) := by decide +kernel
theorem dX8_digest_89 : decode cX8_digest 89 = .ok (.invokevirtual 301, 3) := by decide +kernel
theorem dX8_digest_92 : decode cX8_digest 92 = .ok (.aload_n 0, 1) := by decide +kernel
theorem dX8_digest_93 : decode cX8_digest 93 = .ok (.aload_n 0, 1) := by decide +kernel
theorem dX8_digest_94 : decode cX8_digest 94 = .ok (.invokevirtual 256, 3) := by decide +kernel
theorem dX8_digest_97 : decode cX8_digest 97 = .ok (.i2l, 1) := by decide +kernel
theorem dX8_digest_98 : decode cX8_digest 98 = .ok (.invokevirtual 301, 3) := by decide +kernel
theorem dX8_digest_101 : decode cX8_digest 101 = .ok (.iconst 0, 1) := by decide +kernel
theorem dX8_digest_102 : decode cX8_digest 102 = .ok (.istore_n 1, 1) := by decide +kernel
theorem dX8_digest_103 : decode cX8_digest 103 = .ok (.iload_n 1, 1) := by decide +kernel
theorem dX8_digest_104 : decode cX8_digest 104 = .ok (.aload_n 0, 1) := by decide +kernel
theorem dX8_digest_105 : decode cX8_digest 105 = .ok (.getfield 96, 3) := by decide +kernel
theorem dX8_digest_108 : decode cX8_digest 108 = .ok (.if_icmp .ge 20, 3) := by decide +kernel
theorem dX8_digest_111 : decode cX8_digest 111 = .ok (.aload_n 0, 1) := by decide +kernel
theorem dX8_digest_112 : decode cX8_digest 112 = .ok (.aload_n 0, 1) := by decide +kernel
theorem dX8_digest_113 : decode cX8_digest 113 = .ok (.getfield 7, 3) := by decide +kernel
theorem dX8_digest_116 : decode cX8_digest 116 = .ok (.iload_n 1, 1) := by decide +kernel
theorem dX8_digest_117 : decode cX8_digest 117 = .ok (.iaload, 1) := by decide +kernel
theorem dX8_digest_118 : decode cX8_digest 118 = .ok (.i2l, 1) := by decide +kernel
theorem dX8_digest_119 : decode cX8_digest 119 = .ok (.invokevirtual 301, 3) := by decide +kernel
theorem dX8_digest_122 : decode cX8_digest 122 = .ok (.iinc 1 1, 3) := by decide +kernel
theorem dX8_digest_125 : decode cX8_digest 125 = .ok (.goto (-22), 3) := by decide +kernel
theorem dX8_digest_128 : decode cX8_digest 128 = .ok (.iconst 0, 1) := by decide +kernel
theorem dX8_digest_129 : decode cX8_digest 129 = .ok (.istore_n 1, 1) := by decide +kernel
theorem dX8_digest_130 : decode cX8_digest 130 = .ok (.iload_n 1, 1) := by decide +kernel
theorem dX8_digest_131 : decode cX8_digest 131 = .ok (.bipush 12, 2) := by decide +kernel
theorem dX8_digest_133 : decode cX8_digest 133 = .ok (.if_icmp .ge 19, 3) := by decide +kernel
theorem dX8_digest_136 : decode cX8_digest 136 = .ok (.aload_n 0, 1) := by decide +kernel
theorem dX8_digest_137 : decode cX8_digest 137 = .ok (.aload_n 0, 1) := by decide +kernel
theorem dX8_digest_138 : decode cX8_digest 138 = .ok (.iload_n 1, 1) := by decide +kernel
theorem dX8_digest_139 : decode cX8_digest 139 = .ok (.invokevirtual 292, 3) := by decide +kernel
theorem dX8_digest_142 : decode cX8_digest 142 = .ok (.i2l, 1) := by decide +kernel
theorem dX8_digest_143 : decode cX8_digest 143 = .ok (.invokevirtual 301, 3) := by decide +kernel
theorem dX8_digest_146 : decode cX8_digest 146 = .ok (.iinc 1 1, 3) := by decide +kernel
theorem dX8_digest_149 : decode cX8_digest 149 = .ok (.goto (-19), 3) := by decide +kernel
theorem dX8_digest_152 : decode cX8_digest 152 = .ok (.aload_n 0, 1) := by decide +kernel
theorem dX8_digest_153 : decode cX8_digest 153 = .ok (.getfield 297, 3) := by decide +kernel
theorem dX8_digest_156 : decode cX8_digest 156 = .ok (.lreturn, 1) := by decide +kernel
