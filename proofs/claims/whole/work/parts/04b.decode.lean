theorem dX12_init_0 : decode cX12_init 0 = .ok (.aload_n 0, 1) := by decide +kernel
theorem dX12_init_1 : decode cX12_init 1 = .ok (.invokespecial 1, 3) := by decide +kernel
theorem dX12_init_4 : decode cX12_init 4 = .ok (.aload_n 0, 1) := by decide +kernel
theorem dX12_init_5 : decode cX12_init 5 = .ok (.iconst (-1), 1) := by decide +kernel
theorem dX12_init_6 : decode cX12_init 6 = .ok (.putfield 9, 3) := by decide +kernel
theorem dX12_init_9 : decode cX12_init 9 = .ok (.aload_n 0, 1) := by decide +kernel
theorem dX12_init_10 : decode cX12_init 10 = .ok (.iconst (-1), 1) := by decide +kernel
theorem dX12_init_11 : decode cX12_init 11 = .ok (.putfield 13, 3) := by decide +kernel
theorem dX12_init_14 : decode cX12_init 14 = .ok (.aload_n 0, 1) := by decide +kernel
theorem dX12_init_15 : decode cX12_init 15 = .ok (.bipush 9, 2) := by decide +kernel
theorem dX12_init_17 : decode cX12_init 17 = .ok (.newarray .int, 2) := by decide +kernel
theorem dX12_init_19 : decode cX12_init 19 = .ok (.putfield 16, 3) := by decide +kernel
theorem dX12_init_22 : decode cX12_init 22 = .ok (.aload_n 0, 1) := by decide +kernel
theorem dX12_init_23 : decode cX12_init 23 = .ok (.sipush 1400, 3) := by decide +kernel
theorem dX12_init_26 : decode cX12_init 26 = .ok (.newarray .int, 2) := by decide +kernel
theorem dX12_init_28 : decode cX12_init 28 = .ok (.putfield 20, 3) := by decide +kernel
theorem dX12_init_31 : decode cX12_init 31 = .ok (.aload_n 0, 1) := by decide +kernel
theorem dX12_init_32 : decode cX12_init 32 = .ok (.sipush 700, 3) := by decide +kernel
theorem dX12_init_35 : decode cX12_init 35 = .ok (.newarray .int, 2) := by decide +kernel
theorem dX12_init_37 : decode cX12_init 37 = .ok (.putfield 23, 3) := by decide +kernel
theorem dX12_init_40 : decode cX12_init 40 = .ok (.aload_n 0, 1) := by decide +kernel
theorem dX12_init_41 : decode cX12_init 41 = .ok (.iconst (-1), 1) := by decide +kernel
theorem dX12_init_42 : decode cX12_init 42 = .ok (.putfield 26, 3) := by decide +kernel
theorem dX12_init_45 : decode cX12_init 45 = .ok (.aload_n 0, 1) := by decide +kernel
theorem dX12_init_46 : decode cX12_init 46 = .ok (.iconst 3, 1) := by decide +kernel
theorem dX12_init_47 : decode cX12_init 47 = .ok (.newarray .int, 2) := by decide +kernel
theorem dX12_init_49 : decode cX12_init 49 = .ok (.putfield 29, 3) := by decide +kernel
theorem dX12_init_52 : decode cX12_init 52 = .ok (.aload_n 0, 1) := by decide +kernel
theorem dX12_init_53 : decode cX12_init 53 = .ok (.bipush 9, 2) := by decide +kernel
theorem dX12_init_55 : decode cX12_init 55 = .ok (.newarray .int, 2) := by decide +kernel
theorem dX12_init_57 : decode cX12_init 57 = .ok (.putfield 32, 3) := by decide +kernel
theorem dX12_init_60 : decode cX12_init 60 = .ok (.aload_n 0, 1) := by decide +kernel
theorem dX12_init_61 : decode cX12_init 61 = .ok (.bipush 64, 2) := by decide +kernel
theorem dX12_init_63 : decode cX12_init 63 = .ok (.newarray .int, 2) := by decide +kernel
theorem dX12_init_65 : decode cX12_init 65 = .ok (.putfield 35, 3) := by decide +kernel
theorem dX12_init_68 : decode cX12_init 68 = .ok (.aload_n 0, 1) := by decide +kernel
theorem dX12_init_69 : decode cX12_init 69 = .ok (.sipush 1400, 3) := by decide +kernel
theorem dX12_init_72 : decode cX12_init 72 = .ok (.newarray .int, 2) := by decide +kernel
theorem dX12_init_74 : decode cX12_init 74 = .ok (.putfield 38, 3) := by decide +kernel
theorem dX12_init_77 : decode cX12_init 77 = .ok (.aload_n 0, 1) := by decide +kernel
theorem dX12_init_78 : decode cX12_init 78 = .ok (.sipush 950, 3) := by decide +kernel
theorem dX12_init_81 : decode cX12_init 81 = .ok (.newarray .int, 2) := by decide +kernel
theorem dX12_init_83 : decode cX12_init 83 = .ok (.putfield 41, 3) := by decide +kernel
theorem dX12_init_86 : decode cX12_init 86 = .ok (.aload_n 0, 1) := by decide +kernel
theorem dX12_init_87 : decode cX12_init 87 = .ok (.bipush 9, 2) := by decide +kernel
theorem dX12_init_89 : decode cX12_init 89 = .ok (.newarray .boolean, 2) := by decide +kernel
theorem dX12_init_91 : decode cX12_init 91 = .ok (.putfield 44, 3) := by decide +kernel
theorem dX12_init_94 : decode cX12_init 94 = .ok (.aload_n 0, 1) := by decide +kernel
theorem dX12_init_95 : decode cX12_init 95 = .ok (.bipush 9, 2) := by decide +kernel
theorem dX12_init_97 : decode cX12_init 97 = .ok (.newarray .boolean, 2) := by decide +kernel
theorem dX12_init_99 : decode cX12_init 99 = .ok (.putfield 48, 3) := by decide +kernel
theorem dX12_init_102 : decode cX12_init 102 = .ok (.aload_n 0, 1) := by decide +kernel
theorem dX12_init_103 : decode cX12_init 103 = .ok (.sipush 128, 3) := by decide +kernel
theorem dX12_init_106 : decode cX12_init 106 = .ok (.newarray .int, 2) := by decide +kernel
theorem dX12_init_108 : decode cX12_init 108 = .ok (.putfield 51, 3) := by decide +kernel
theorem dX12_init_111 : decode cX12_init 111 = .ok (.aload_n 0, 1) := by decide +kernel
theorem dX12_init_112 : decode cX12_init 112 = .ok (.sipush 2560, 3) := by decide +kernel
theorem dX12_init_115 : decode cX12_init 115 = .ok (.newarray .int, 2) := by decide +kernel
theorem dX12_init_117 : decode cX12_init 117 = .ok (.putfield 54, 3) := by decide +kernel
theorem dX12_init_120 : decode cX12_init 120 = .ok (.aload_n 0, 1) := by decide +kernel
theorem dX12_init_121 : decode cX12_init 121 = .ok (.bipush 6, 2) := by decide +kernel
theorem dX12_init_123 : decode cX12_init 123 = .ok (.newarray .int, 2) := by decide +kernel
theorem dX12_init_125 : decode cX12_init 125 = .ok (.putfield 57, 3) := by decide +kernel
theorem dX12_init_128 : decode cX12_init 128 = .ok (.aload_n 0, 1) := by decide +kernel
theorem dX12_init_129 : decode cX12_init 129 = .ok (.sipush 950, 3) := by decide +kernel
theorem dX12_init_132 : decode cX12_init 132 = .ok (.newarray .int, 2) := by decide +kernel
theorem dX12_init_134 : decode cX12_init 134 = .ok (.putfield 60, 3) := by decide +kernel
theorem dX12_init_137 : decode cX12_init 137 = .ok (.aload_n 0, 1) := by decide +kernel
theorem dX12_init_138 : decode cX12_init 138 = .ok (.bipush 9, 2) := by decide +kernel
theorem dX12_init_140 : decode cX12_init 140 = .ok (.newarray .int, 2) := by decide +kernel
theorem dX12_init_142 : decode cX12_init 142 = .ok (.putfield 63, 3) := by decide +kernel
theorem dX12_init_145 : decode cX12_init 145 = .ok (.aload_n 0, 1) := by decide +kernel
theorem dX12_init_146 : decode cX12_init 146 = .ok (.bipush 9, 2) := by decide +kernel
theorem dX12_init_148 : decode cX12_init 148 = .ok (.newarray .int, 2) := by decide +kernel
theorem dX12_init_150 : decode cX12_init 150 = .ok (.putfield 66, 3) := by decide +kernel
theorem dX12_init_153 : decode cX12_init 153 = .ok (.aload_n 0, 1) := by decide +kernel
theorem dX12_init_154 : decode cX12_init 154 = .ok (.iconst (-1), 1) := by decide +kernel
theorem dX12_init_155 : decode cX12_init 155 = .ok (.putfield 69, 3) := by decide +kernel
theorem dX12_init_158 : decode cX12_init 158 = .ok (.aload_n 0, 1) := by decide +kernel
theorem dX12_init_159 : decode cX12_init 159 = .ok (.bipush 9, 2) := by decide +kernel
theorem dX12_init_161 : decode cX12_init 161 = .ok (.newarray .int, 2) := by decide +kernel
theorem dX12_init_163 : decode cX12_init 163 = .ok (.putfield 72, 3) := by decide +kernel
theorem dX12_init_166 : decode cX12_init 166 = .ok (.aload_n 0, 1) := by decide +kernel
theorem dX12_init_167 : decode cX12_init 167 = .ok (.bipush 9, 2) := by decide +kernel
theorem dX12_init_169 : decode cX12_init 169 = .ok (.newarray .int, 2) := by decide +kernel
theorem dX12_init_171 : decode cX12_init 171 = .ok (.putfield 75, 3) := by decide +kernel
theorem dX12_init_174 : decode cX12_init 174 = .ok (.aload_n 0, 1) := by decide +kernel
theorem dX12_init_175 : decode cX12_init 175 = .ok (.bipush 9, 2) := by decide +kernel
theorem dX12_init_177 : decode cX12_init 177 = .ok (.newarray .int, 2) := by decide +kernel
theorem dX12_init_179 : decode cX12_init 179 = .ok (.putfield 78, 3) := by decide +kernel
theorem dX12_init_182 : decode cX12_init 182 = .ok (.aload_n 0, 1) := by decide +kernel
theorem dX12_init_183 : decode cX12_init 183 = .ok (.bipush 9, 2) := by decide +kernel
theorem dX12_init_185 : decode cX12_init 185 = .ok (.newarray .int, 2) := by decide +kernel
theorem dX12_init_187 : decode cX12_init 187 = .ok (.putfield 81, 3) := by decide +kernel
theorem dX12_init_190 : decode cX12_init 190 = .ok (.aload_n 0, 1) := by decide +kernel
theorem dX12_init_191 : decode cX12_init 191 = .ok (.bipush 9, 2) := by decide +kernel
theorem dX12_init_193 : decode cX12_init 193 = .ok (.newarray .int, 2) := by decide +kernel
theorem dX12_init_195 : decode cX12_init 195 = .ok (.putfield 84, 3) := by decide +kernel
theorem dX12_init_198 : decode cX12_init 198 = .ok (.aload_n 0, 1) := by decide +kernel
theorem dX12_init_199 : decode cX12_init 199 = .ok (.bipush 9, 2) := by decide +kernel
theorem dX12_init_201 : decode cX12_init 201 = .ok (.newarray .int, 2) := by decide +kernel
theorem dX12_init_203 : decode cX12_init 203 = .ok (.putfield 87, 3) := by decide +kernel
theorem dX12_init_206 : decode cX12_init 206 = .ok (.aload_n 0, 1) := by decide +kernel
theorem dX12_init_207 : decode cX12_init 207 = .ok (.bipush 9, 2) := by decide +kernel
theorem dX12_init_209 : decode cX12_init 209 = .ok (.newarray .int, 2) := by decide +kernel
theorem dX12_init_211 : decode cX12_init 211 = .ok (.putfield 90, 3) := by decide +kernel
theorem dX12_init_214 : decode cX12_init 214 = .ok (.aload_n 0, 1) := by decide +kernel
theorem dX12_init_215 : decode cX12_init 215 = .ok (.bipush 9, 2) := by decide +kernel
theorem dX12_init_217 : decode cX12_init 217 = .ok (.newarray .int, 2) := by decide +kernel
theorem dX12_init_219 : decode cX12_init 219 = .ok (.putfield 93, 3) := by decide +kernel
theorem dX12_init_222 : decode cX12_init 222 = .ok (.aload_n 0, 1) := by decide +kernel
theorem dX12_init_223 : decode cX12_init 223 = .ok (.bipush 24, 2) := by decide +kernel
theorem dX12_init_225 : decode cX12_init 225 = .ok (.newarray .int, 2) := by decide +kernel
theorem dX12_init_227 : decode cX12_init 227 = .ok (.putfield 96, 3) := by decide +kernel
theorem dX12_init_230 : decode cX12_init 230 = .ok (.aload_n 0, 1) := by decide +kernel
theorem dX12_init_231 : decode cX12_init 231 = .ok (.bipush 40, 2) := by decide +kernel
theorem dX12_init_233 : decode cX12_init 233 = .ok (.newarray .int, 2) := by decide +kernel
theorem dX12_init_235 : decode cX12_init 235 = .ok (.putfield 99, 3) := by decide +kernel
theorem dX12_init_238 : decode cX12_init 238 = .ok (.aload_n 0, 1) := by decide +kernel
theorem dX12_init_239 : decode cX12_init 239 = .ok (.sipush 20480, 3) := by decide +kernel
theorem dX12_init_242 : decode cX12_init 242 = .ok (.newarray .int, 2) := by decide +kernel
theorem dX12_init_244 : decode cX12_init 244 = .ok (.putfield 102, 3) := by decide +kernel
theorem dX12_init_247 : decode cX12_init 247 = .ok (.aload_n 0, 1) := by decide +kernel
theorem dX12_init_248 : decode cX12_init 248 = .ok (.bipush 64, 2) := by decide +kernel
theorem dX12_init_250 : decode cX12_init 250 = .ok (.newarray .int, 2) := by decide +kernel
theorem dX12_init_252 : decode cX12_init 252 = .ok (.putfield 105, 3) := by decide +kernel
theorem dX12_init_255 : decode cX12_init 255 = .ok (.aload_n 0, 1) := by decide +kernel
theorem dX12_init_256 : decode cX12_init 256 = .ok (.sipush 2560, 3) := by decide +kernel
theorem dX12_init_259 : decode cX12_init 259 = .ok (.newarray .int, 2) := by decide +kernel
theorem dX12_init_261 : decode cX12_init 261 = .ok (.putfield 108, 3) := by decide +kernel
theorem dX12_init_264 : decode cX12_init 264 = .ok (.aload_n 0, 1) := by decide +kernel
theorem dX12_init_265 : decode cX12_init 265 = .ok (.bipush 24, 2) := by decide +kernel
theorem dX12_init_267 : decode cX12_init 267 = .ok (.newarray .int, 2) := by decide +kernel
theorem dX12_init_269 : decode cX12_init 269 = .ok (.putfield 111, 3) := by decide +kernel
theorem dX12_init_272 : decode cX12_init 272 = .ok (.return_, 1) := by decide +kernel
theorem dX12_thrown_0 : decode cX12_thrown 0 = .ok (.aload_n 0, 1) := by decide +kernel
theorem dX12_thrown_1 : decode cX12_thrown 1 = .ok (.getfield 114, 3) := by decide +kernel
theorem dX12_thrown_4 : decode cX12_thrown 4 = .ok (.ireturn, 1) := by decide +kernel
theorem dX12_right_0 : decode cX12_right 0 = .ok (.aload_n 0, 1) := by decide +kernel
theorem dX12_right_1 : decode cX12_right 1 = .ok (.getfield 114, 3) := by decide +kernel
theorem dX12_right_4 : decode cX12_right 4 = .ok (.ifCond .ne 12, 3) := by decide +kernel
theorem dX12_right_7 : decode cX12_right 7 = .ok (.iload_n 1, 1) := by decide +kernel
theorem dX12_right_8 : decode cX12_right 8 = .ok (.ifCond .ne 8, 3) := by decide +kernel
theorem dX12_right_11 : decode cX12_right 11 = .ok (.aload_n 0, 1) := by decide +kernel
theorem dX12_right_12 : decode cX12_right 12 = .ok (.iload_n 2, 1) := by decide +kernel
theorem dX12_right_13 : decode cX12_right 13 = .ok (.putfield 114, 3) := by decide +kernel
theorem dX12_right_16 : decode cX12_right 16 = .ok (.aload_n 0, 1) := by decide +kernel
theorem dX12_right_17 : decode cX12_right 17 = .ok (.getfield 114, 3) := by decide +kernel
theorem dX12_right_20 : decode cX12_right 20 = .ok (.ifCond .ne 7, 3) := by decide +kernel
theorem dX12_right_23 : decode cX12_right 23 = .ok (.iconst 1, 1) := by decide +kernel
theorem dX12_right_24 : decode cX12_right 24 = .ok (.goto 4, 3) := by decide +kernel
theorem dX12_right_27 : decode cX12_right 27 = .ok (.iconst 0, 1) := by decide +kernel
theorem dX12_right_28 : decode cX12_right 28 = .ok (.ireturn, 1) := by decide +kernel
theorem dX12_within_0 : decode cX12_within 0 = .ok (.iload_n 0, 1) := by decide +kernel
theorem dX12_within_1 : decode cX12_within 1 = .ok (.iload_n 1, 1) := by decide +kernel
theorem dX12_within_2 : decode cX12_within 2 = .ok (.if_icmp .lt 12, 3) := by decide +kernel
theorem dX12_within_5 : decode cX12_within 5 = .ok (.iload_n 0, 1) := by decide +kernel
theorem dX12_within_6 : decode cX12_within 6 = .ok (.iload_n 2, 1) := by decide +kernel
theorem dX12_within_7 : decode cX12_within 7 = .ok (.if_icmp .gt 7, 3) := by decide +kernel
theorem dX12_within_10 : decode cX12_within 10 = .ok (.iconst 1, 1) := by decide +kernel
theorem dX12_within_11 : decode cX12_within 11 = .ok (.goto 4, 3) := by decide +kernel
theorem dX12_within_14 : decode cX12_within 14 = .ok (.iconst 0, 1) := by decide +kernel
theorem dX12_within_15 : decode cX12_within 15 = .ok (.ireturn, 1) := by decide +kernel
theorem dX12_bounded_0 : decode cX12_bounded 0 = .ok (.iload_n 0, 1) := by decide +kernel
theorem dX12_bounded_1 : decode cX12_bounded 1 = .ok (.iload_n 1, 1) := by decide +kernel
theorem dX12_bounded_2 : decode cX12_bounded 2 = .ok (.if_icmp .ge 7, 3) := by decide +kernel
theorem dX12_bounded_5 : decode cX12_bounded 5 = .ok (.iload_n 1, 1) := by decide +kernel
theorem dX12_bounded_6 : decode cX12_bounded 6 = .ok (.goto 13, 3) := by decide +kernel
theorem dX12_bounded_9 : decode cX12_bounded 9 = .ok (.iload_n 0, 1) := by decide +kernel
theorem dX12_bounded_10 : decode cX12_bounded 10 = .ok (.iload_n 2, 1) := by decide +kernel
theorem dX12_bounded_11 : decode cX12_bounded 11 = .ok (.if_icmp .le 7, 3) := by decide +kernel
theorem dX12_bounded_14 : decode cX12_bounded 14 = .ok (.iload_n 2, 1) := by decide +kernel
theorem dX12_bounded_15 : decode cX12_bounded 15 = .ok (.goto 4, 3) := by decide +kernel
theorem dX12_bounded_18 : decode cX12_bounded 18 = .ok (.iload_n 0, 1) := by decide +kernel
theorem dX12_bounded_19 : decode cX12_bounded 19 = .ok (.ireturn, 1) := by decide +kernel
theorem dX12_lesser_0 : decode cX12_lesser 0 = .ok (.iload_n 0, 1) := by decide +kernel
theorem dX12_lesser_1 : decode cX12_lesser 1 = .ok (.iload_n 1, 1) := by decide +kernel
theorem dX12_lesser_2 : decode cX12_lesser 2 = .ok (.if_icmp .ge 7, 3) := by decide +kernel
theorem dX12_lesser_5 : decode cX12_lesser 5 = .ok (.iload_n 0, 1) := by decide +kernel
theorem dX12_lesser_6 : decode cX12_lesser 6 = .ok (.goto 4, 3) := by decide +kernel
theorem dX12_lesser_9 : decode cX12_lesser 9 = .ok (.iload_n 1, 1) := by decide +kernel
theorem dX12_lesser_10 : decode cX12_lesser 10 = .ok (.ireturn, 1) := by decide +kernel
theorem dX12_greater_0 : decode cX12_greater 0 = .ok (.iload_n 0, 1) := by decide +kernel
theorem dX12_greater_1 : decode cX12_greater 1 = .ok (.iload_n 1, 1) := by decide +kernel
theorem dX12_greater_2 : decode cX12_greater 2 = .ok (.if_icmp .le 7, 3) := by decide +kernel
theorem dX12_greater_5 : decode cX12_greater 5 = .ok (.iload_n 0, 1) := by decide +kernel
theorem dX12_greater_6 : decode cX12_greater 6 = .ok (.goto 4, 3) := by decide +kernel
theorem dX12_greater_9 : decode cX12_greater 9 = .ok (.iload_n 1, 1) := by decide +kernel
theorem dX12_greater_10 : decode cX12_greater 10 = .ok (.ireturn, 1) := by decide +kernel
theorem dX12_copies_0 : decode cX12_copies 0 = .ok (.iconst 0, 1) := by decide +kernel
theorem dX12_copies_1 : decode cX12_copies 1 = .ok (.istore_n 3, 1) := by decide +kernel
theorem dX12_copies_2 : decode cX12_copies 2 = .ok (.iload_n 3, 1) := by decide +kernel
theorem dX12_copies_3 : decode cX12_copies 3 = .ok (.aload_n 1, 1) := by decide +kernel
theorem dX12_copies_4 : decode cX12_copies 4 = .ok (.arraylength, 1) := by decide +kernel
theorem dX12_copies_5 : decode cX12_copies 5 = .ok (.if_icmp .ge 15, 3) := by decide +kernel
theorem dX12_copies_8 : decode cX12_copies 8 = .ok (.aload_n 2, 1) := by decide +kernel
theorem dX12_copies_9 : decode cX12_copies 9 = .ok (.iload_n 3, 1) := by decide +kernel
theorem dX12_copies_10 : decode cX12_copies 10 = .ok (.aload_n 1, 1) := by decide +kernel
theorem dX12_copies_11 : decode cX12_copies 11 = .ok (.iload_n 3, 1) := by decide +kernel
theorem dX12_copies_12 : decode cX12_copies 12 = .ok (.iaload, 1) := by decide +kernel
theorem dX12_copies_13 : decode cX12_copies 13 = .ok (.iastore, 1) := by decide +kernel
theorem dX12_copies_14 : decode cX12_copies 14 = .ok (.iinc 3 1, 3) := by decide +kernel
theorem dX12_copies_17 : decode cX12_copies 17 = .ok (.goto (-15), 3) := by decide +kernel
theorem dX12_copies_20 : decode cX12_copies 20 = .ok (.return_, 1) := by decide +kernel
theorem dX12_bits_0 : decode cX12_bits 0 = .ok (.iconst 0, 1) := by decide +kernel
theorem dX12_bits_1 : decode cX12_bits 1 = .ok (.istore_n 1, 1) := by decide +kernel
theorem dX12_bits_2 : decode cX12_bits 2 = .ok (.iconst 0, 1) := by decide +kernel
theorem dX12_bits_3 : decode cX12_bits 3 = .ok (.istore_n 2, 1) := by decide +kernel
theorem dX12_bits_4 : decode cX12_bits 4 = .ok (.iload_n 2, 1) := by decide +kernel
theorem dX12_bits_5 : decode cX12_bits 5 = .ok (.bipush 9, 2) := by decide +kernel
theorem dX12_bits_7 : decode cX12_bits 7 = .ok (.if_icmp .ge 17, 3) := by decide +kernel
theorem dX12_bits_10 : decode cX12_bits 10 = .ok (.iload_n 1, 1) := by decide +kernel
theorem dX12_bits_11 : decode cX12_bits 11 = .ok (.iload_n 0, 1) := by decide +kernel
theorem dX12_bits_12 : decode cX12_bits 12 = .ok (.iload_n 2, 1) := by decide +kernel
theorem dX12_bits_13 : decode cX12_bits 13 = .ok (.ishr, 1) := by decide +kernel
theorem dX12_bits_14 : decode cX12_bits 14 = .ok (.iconst 1, 1) := by decide +kernel
theorem dX12_bits_15 : decode cX12_bits 15 = .ok (.iand, 1) := by decide +kernel
theorem dX12_bits_16 : decode cX12_bits 16 = .ok (.iadd, 1) := by decide +kernel
theorem dX12_bits_17 : decode cX12_bits 17 = .ok (.istore_n 1, 1) := by decide +kernel
theorem dX12_bits_18 : decode cX12_bits 18 = .ok (.iinc 2 1, 3) := by decide +kernel
theorem dX12_bits_21 : decode cX12_bits 21 = .ok (.goto (-17), 3) := by decide +kernel
theorem dX12_bits_24 : decode cX12_bits 24 = .ok (.iload_n 1, 1) := by decide +kernel
theorem dX12_bits_25 : decode cX12_bits 25 = .ok (.ireturn, 1) := by decide +kernel
theorem dX12_feed_0 : decode cX12_feed 0 = .ok (.aload_n 0, 1) := by decide +kernel
theorem dX12_feed_1 : decode cX12_feed 1 = .ok (.iconst 0, 1) := by decide +kernel
theorem dX12_feed_2 : decode cX12_feed 2 = .ok (.putfield 114, 3) := by decide +kernel
theorem dX12_feed_5 : decode cX12_feed 5 = .ok (.aload_n 0, 1) := by decide +kernel
theorem dX12_feed_6 : decode cX12_feed 6 = .ok (.getfield 117, 3) := by decide +kernel
theorem dX12_feed_9 : decode cX12_feed 9 = .ok (.bipush 20, 2) := by decide +kernel
theorem dX12_feed_11 : decode cX12_feed 11 = .ok (.iadd, 1) := by decide +kernel
theorem dX12_feed_12 : decode cX12_feed 12 = .ok (.sipush 700, 3) := by decide +kernel
theorem dX12_feed_15 : decode cX12_feed 15 = .ok (.if_icmp .le 5, 3) := by decide +kernel
theorem dX12_feed_18 : decode cX12_feed 18 = .ok (.iconst (-1), 1) := by decide +kernel
theorem dX12_feed_19 : decode cX12_feed 19 = .ok (.ireturn, 1) := by decide +kernel
theorem dX12_feed_20 : decode cX12_feed 20 = .ok (.aload_n 0, 1) := by decide +kernel
theorem dX12_feed_21 : decode cX12_feed 21 = .ok (.iload_n 1, 1) := by decide +kernel
theorem dX12_feed_22 : decode cX12_feed 22 = .ok (.invokevirtual 120, 3) := by decide +kernel
theorem dX12_feed_25 : decode cX12_feed 25 = .ok (.aload_n 0, 1) := by decide +kernel
theorem dX12_feed_26 : decode cX12_feed 26 = .ok (.iload_n 2, 1) := by decide +kernel
theorem dX12_feed_27 : decode cX12_feed 27 = .ok (.invokevirtual 120, 3) := by decide +kernel
theorem dX12_feed_30 : decode cX12_feed 30 = .ok (.aload_n 0, 1) := by decide +kernel
theorem dX12_feed_31 : decode cX12_feed 31 = .ok (.iload_n 3, 1) := by decide +kernel
theorem dX12_feed_32 : decode cX12_feed 32 = .ok (.invokevirtual 120, 3) := by decide +kernel
theorem dX12_feed_35 : decode cX12_feed 35 = .ok (.aload_n 0, 1) := by decide +kernel
theorem dX12_feed_36 : decode cX12_feed 36 = .ok (.iload 4, 2) := by decide +kernel
theorem dX12_feed_38 : decode cX12_feed 38 = .ok (.invokevirtual 120, 3) := by decide +kernel
theorem dX12_feed_41 : decode cX12_feed 41 = .ok (.aload_n 0, 1) := by decide +kernel
theorem dX12_feed_42 : decode cX12_feed 42 = .ok (.iload 5, 2) := by decide +kernel
theorem dX12_feed_44 : decode cX12_feed 44 = .ok (.invokevirtual 120, 3) := by decide +kernel
theorem dX12_feed_47 : decode cX12_feed 47 = .ok (.aload_n 0, 1) := by decide +kernel
theorem dX12_feed_48 : decode cX12_feed 48 = .ok (.getfield 117, 3) := by decide +kernel
theorem dX12_feed_51 : decode cX12_feed 51 = .ok (.ireturn, 1) := by decide +kernel
theorem dX12_lays_0 : decode cX12_lays 0 = .ok (.bipush 24, 2) := by decide +kernel
theorem dX12_lays_2 : decode cX12_lays 2 = .ok (.istore_n 2, 1) := by decide +kernel
theorem dX12_lays_3 : decode cX12_lays 3 = .ok (.iload_n 2, 1) := by decide +kernel
theorem dX12_lays_4 : decode cX12_lays 4 = .ok (.ifCond .lt 35, 3) := by decide +kernel
theorem dX12_lays_7 : decode cX12_lays 7 = .ok (.aload_n 0, 1) := by decide +kernel
theorem dX12_lays_8 : decode cX12_lays 8 = .ok (.getfield 23, 3) := by decide +kernel
theorem dX12_lays_11 : decode cX12_lays 11 = .ok (.aload_n 0, 1) := by decide +kernel
theorem dX12_lays_12 : decode cX12_lays 12 = .ok (.getfield 117, 3) := by decide +kernel
theorem dX12_lays_15 : decode cX12_lays 15 = .ok (.iload_n 1, 1) := by decide +kernel
theorem dX12_lays_16 : decode cX12_lays 16 = .ok (.iload_n 2, 1) := by decide +kernel
theorem dX12_lays_17 : decode cX12_lays 17 = .ok (.ishr, 1) := by decide +kernel
theorem dX12_lays_18 : decode cX12_lays 18 = .ok (.sipush 255, 3) := by decide +kernel
theorem dX12_lays_21 : decode cX12_lays 21 = .ok (.iand, 1) := by decide +kernel
theorem dX12_lays_22 : decode cX12_lays 22 = .ok (.iastore, 1) := by decide +kernel
theorem dX12_lays_23 : decode cX12_lays 23 = .ok (.aload_n 0, 1) := by decide +kernel
theorem dX12_lays_24 : decode cX12_lays 24 = .ok (.dup, 1) := by decide +kernel
theorem dX12_lays_25 : decode cX12_lays 25 = .ok (.getfield 117, 3) := by decide +kernel
theorem dX12_lays_28 : decode cX12_lays 28 = .ok (.iconst 1, 1) := by decide +kernel
theorem dX12_lays_29 : decode cX12_lays 29 = .ok (.iadd, 1) := by decide +kernel
theorem dX12_lays_30 : decode cX12_lays 30 = .ok (.putfield 117, 3) := by decide +kernel
theorem dX12_lays_33 : decode cX12_lays 33 = .ok (.iinc 2 (-8), 3) := by decide +kernel
theorem dX12_lays_36 : decode cX12_lays 36 = .ok (.goto (-33), 3) := by decide +kernel
theorem dX12_lays_39 : decode cX12_lays 39 = .ok (.return_, 1) := by decide +kernel
theorem dX12_byteAt_0 : decode cX12_byteAt 0 = .ok (.iload_n 1, 1) := by decide +kernel
theorem dX12_byteAt_1 : decode cX12_byteAt 1 = .ok (.aload_n 0, 1) := by decide +kernel
theorem dX12_byteAt_2 : decode cX12_byteAt 2 = .ok (.getfield 124, 3) := by decide +kernel
theorem dX12_byteAt_5 : decode cX12_byteAt 5 = .ok (.if_icmp .ge 12, 3) := by decide +kernel
theorem dX12_byteAt_8 : decode cX12_byteAt 8 = .ok (.aload_n 0, 1) := by decide +kernel
theorem dX12_byteAt_9 : decode cX12_byteAt 9 = .ok (.getfield 23, 3) := by decide +kernel
theorem dX12_byteAt_12 : decode cX12_byteAt 12 = .ok (.iload_n 1, 1) := by decide +kernel
theorem dX12_byteAt_13 : decode cX12_byteAt 13 = .ok (.iaload, 1) := by decide +kernel
theorem dX12_byteAt_14 : decode cX12_byteAt 14 = .ok (.goto 4, 3) := by decide +kernel
theorem dX12_byteAt_17 : decode cX12_byteAt 17 = .ok (.iconst 0, 1) := by decide +kernel
theorem dX12_byteAt_18 : decode cX12_byteAt 18 = .ok (.ireturn, 1) := by decide +kernel
theorem dX12_isLetter_0 : decode cX12_isLetter 0 = .ok (.iload_n 0, 1) := by decide +kernel
theorem dX12_isLetter_1 : decode cX12_isLetter 1 = .ok (.bipush 97, 2) := by decide +kernel
theorem dX12_isLetter_3 : decode cX12_isLetter 3 = .ok (.if_icmp .lt 13, 3) := by decide +kernel
theorem dX12_isLetter_6 : decode cX12_isLetter 6 = .ok (.iload_n 0, 1) := by decide +kernel
theorem dX12_isLetter_7 : decode cX12_isLetter 7 = .ok (.bipush 122, 2) := by decide +kernel
theorem dX12_isLetter_9 : decode cX12_isLetter 9 = .ok (.if_icmp .gt 7, 3) := by decide +kernel
theorem dX12_isLetter_12 : decode cX12_isLetter 12 = .ok (.iconst 1, 1) := by decide +kernel
theorem dX12_isLetter_13 : decode cX12_isLetter 13 = .ok (.goto 4, 3) := by decide +kernel
theorem dX12_isLetter_16 : decode cX12_isLetter 16 = .ok (.iconst 0, 1) := by decide +kernel
theorem dX12_isLetter_17 : decode cX12_isLetter 17 = .ok (.ireturn, 1) := by decide +kernel
theorem dX12_isDigit_0 : decode cX12_isDigit 0 = .ok (.iload_n 0, 1) := by decide +kernel
theorem dX12_isDigit_1 : decode cX12_isDigit 1 = .ok (.bipush 48, 2) := by decide +kernel
theorem dX12_isDigit_3 : decode cX12_isDigit 3 = .ok (.if_icmp .lt 13, 3) := by decide +kernel
theorem dX12_isDigit_6 : decode cX12_isDigit 6 = .ok (.iload_n 0, 1) := by decide +kernel
theorem dX12_isDigit_7 : decode cX12_isDigit 7 = .ok (.bipush 57, 2) := by decide +kernel
theorem dX12_isDigit_9 : decode cX12_isDigit 9 = .ok (.if_icmp .gt 7, 3) := by decide +kernel
theorem dX12_isDigit_12 : decode cX12_isDigit 12 = .ok (.iconst 1, 1) := by decide +kernel
theorem dX12_isDigit_13 : decode cX12_isDigit 13 = .ok (.goto 4, 3) := by decide +kernel
theorem dX12_isDigit_16 : decode cX12_isDigit 16 = .ok (.iconst 0, 1) := by decide +kernel
theorem dX12_isDigit_17 : decode cX12_isDigit 17 = .ok (.ireturn, 1) := by decide +kernel
theorem dX12_goes_0 : decode cX12_goes 0 = .ok (.aload_n 0, 1) := by decide +kernel
theorem dX12_goes_1 : decode cX12_goes 1 = .ok (.getfield 127, 3) := by decide +kernel
theorem dX12_goes_4 : decode cX12_goes 4 = .ok (.aload_n 0, 1) := by decide +kernel
theorem dX12_goes_5 : decode cX12_goes 5 = .ok (.getfield 124, 3) := by decide +kernel
theorem dX12_goes_8 : decode cX12_goes 8 = .ok (.if_icmp .ge 42, 3) := by decide +kernel
theorem dX12_goes_11 : decode cX12_goes 11 = .ok (.aload_n 0, 1) := by decide +kernel
theorem dX12_goes_12 : decode cX12_goes 12 = .ok (.aload_n 0, 1) := by decide +kernel
theorem dX12_goes_13 : decode cX12_goes 13 = .ok (.getfield 127, 3) := by decide +kernel
theorem dX12_goes_16 : decode cX12_goes 16 = .ok (.invokevirtual 130, 3) := by decide +kernel
theorem dX12_goes_19 : decode cX12_goes 19 = .ok (.bipush 32, 2) := by decide +kernel
theorem dX12_goes_21 : decode cX12_goes 21 = .ok (.if_icmp .eq 16, 3) := by decide +kernel
theorem dX12_goes_24 : decode cX12_goes 24 = .ok (.aload_n 0, 1) := by decide +kernel
theorem dX12_goes_25 : decode cX12_goes 25 = .ok (.aload_n 0, 1) := by decide +kernel
theorem dX12_goes_26 : decode cX12_goes 26 = .ok (.getfield 127, 3) := by decide +kernel
theorem dX12_goes_29 : decode cX12_goes 29 = .ok (.invokevirtual 130, 3) := by decide +kernel
theorem dX12_goes_32 : decode cX12_goes 32 = .ok (.bipush 10, 2) := by decide +kernel
theorem dX12_goes_34 : decode cX12_goes 34 = .ok (.if_icmp .ne 16, 3) := by decide +kernel
theorem dX12_goes_37 : decode cX12_goes 37 = .ok (.aload_n 0, 1) := by decide +kernel
theorem dX12_goes_38 : decode cX12_goes 38 = .ok (.dup, 1) := by decide +kernel
theorem dX12_goes_39 : decode cX12_goes 39 = .ok (.getfield 127, 3) := by decide +kernel
theorem dX12_goes_42 : decode cX12_goes 42 = .ok (.iconst 1, 1) := by decide +kernel
theorem dX12_goes_43 : decode cX12_goes 43 = .ok (.iadd, 1) := by decide +kernel
theorem dX12_goes_44 : decode cX12_goes 44 = .ok (.putfield 127, 3) := by decide +kernel
theorem dX12_goes_47 : decode cX12_goes 47 = .ok (.goto (-47), 3) := by decide +kernel
theorem dX12_goes_50 : decode cX12_goes 50 = .ok (.aload_n 0, 1) := by decide +kernel
theorem dX12_goes_51 : decode cX12_goes 51 = .ok (.aload_n 0, 1) := by decide +kernel
theorem dX12_goes_52 : decode cX12_goes 52 = .ok (.getfield 127, 3) := by decide +kernel
theorem dX12_goes_55 : decode cX12_goes 55 = .ok (.putfield 134, 3) := by decide +kernel
theorem dX12_goes_58 : decode cX12_goes 58 = .ok (.aload_n 0, 1) := by decide +kernel
theorem dX12_goes_59 : decode cX12_goes 59 = .ok (.lconst 0, 1) := by decide +kernel
theorem dX12_goes_60 : decode cX12_goes 60 = .ok (.putfield 137, 3) := by decide +kernel
theorem dX12_goes_63 : decode cX12_goes 63 = .ok (.aload_n 0, 1) := by decide +kernel
theorem dX12_goes_64 : decode cX12_goes 64 = .ok (.iconst 0, 1) := by decide +kernel
theorem dX12_goes_65 : decode cX12_goes 65 = .ok (.putfield 141, 3) := by decide +kernel
theorem dX12_goes_68 : decode cX12_goes 68 = .ok (.aload_n 0, 1) := by decide +kernel
theorem dX12_goes_69 : decode cX12_goes 69 = .ok (.aload_n 0, 1) := by decide +kernel
theorem dX12_goes_70 : decode cX12_goes 70 = .ok (.getfield 127, 3) := by decide +kernel
theorem dX12_goes_73 : decode cX12_goes 73 = .ok (.invokevirtual 130, 3) := by decide +kernel
theorem dX12_goes_76 : decode cX12_goes 76 = .ok (.istore_n 1, 1) := by decide +kernel
theorem dX12_goes_77 : decode cX12_goes 77 = .ok (.aload_n 0, 1) := by decide +kernel
theorem dX12_goes_78 : decode cX12_goes 78 = .ok (.iload_n 1, 1) := by decide +kernel
theorem dX12_goes_79 : decode cX12_goes 79 = .ok (.putfield 144, 3) := by decide +kernel
theorem dX12_goes_82 : decode cX12_goes 82 = .ok (.aload_n 0, 1) := by decide +kernel
theorem dX12_goes_83 : decode cX12_goes 83 = .ok (.getfield 127, 3) := by decide +kernel
theorem dX12_goes_86 : decode cX12_goes 86 = .ok (.aload_n 0, 1) := by decide +kernel
theorem dX12_goes_87 : decode cX12_goes 87 = .ok (.getfield 124, 3) := by decide +kernel
theorem dX12_goes_90 : decode cX12_goes 90 = .ok (.if_icmp .lt 11, 3) := by decide +kernel
theorem dX12_goes_93 : decode cX12_goes 93 = .ok (.aload_n 0, 1) := by decide +kernel
theorem dX12_goes_94 : decode cX12_goes 94 = .ok (.iconst 0, 1) := by decide +kernel
theorem dX12_goes_95 : decode cX12_goes 95 = .ok (.putfield 147, 3) := by decide +kernel
theorem dX12_goes_98 : decode cX12_goes 98 = .ok (.goto 233, 3) := by decide +kernel
theorem dX12_goes_101 : decode cX12_goes 101 = .ok (.iload_n 1, 1) := by decide +kernel
theorem dX12_goes_102 : decode cX12_goes 102 = .ok (.invokestatic 150, 3) := by decide +kernel
theorem dX12_goes_105 : decode cX12_goes 105 = .ok (.ifCond .eq 75, 3) := by decide +kernel
theorem dX12_goes_108 : decode cX12_goes 108 = .ok (.aload_n 0, 1) := by decide +kernel
theorem dX12_goes_109 : decode cX12_goes 109 = .ok (.aload_n 0, 1) := by decide +kernel
theorem dX12_goes_110 : decode cX12_goes 110 = .ok (.getfield 127, 3) := by decide +kernel
theorem dX12_goes_113 : decode cX12_goes 113 = .ok (.invokevirtual 130, 3) := by decide +kernel
theorem dX12_goes_116 : decode cX12_goes 116 = .ok (.invokestatic 150, 3) := by decide +kernel
theorem dX12_goes_119 : decode cX12_goes 119 = .ok (.ifCond .eq 53, 3) := by decide +kernel
theorem dX12_goes_122 : decode cX12_goes 122 = .ok (.aload_n 0, 1) := by decide +kernel
theorem dX12_goes_123 : decode cX12_goes 123 = .ok (.getfield 127, 3) := by decide +kernel
theorem dX12_goes_126 : decode cX12_goes 126 = .ok (.aload_n 0, 1) := by decide +kernel
theorem dX12_goes_127 : decode cX12_goes 127 = .ok (.getfield 134, 3) := by decide +kernel
theorem dX12_goes_130 : decode cX12_goes 130 = .ok (.isub, 1) := by decide +kernel
theorem dX12_goes_131 : decode cX12_goes 131 = .ok (.bipush 6, 2) := by decide +kernel
theorem dX12_goes_133 : decode cX12_goes 133 = .ok (.if_icmp .ge 26, 3) := by decide +kernel
theorem dX12_goes_136 : decode cX12_goes 136 = .ok (.aload_n 0, 1) := by decide +kernel
theorem dX12_goes_137 : decode cX12_goes 137 = .ok (.aload_n 0, 1) := by decide +kernel
theorem dX12_goes_138 : decode cX12_goes 138 = .ok (.getfield 137, 3) := by decide +kernel
theorem dX12_goes_141 : decode cX12_goes 141 = .ok (.iconst 5, 1) := by decide +kernel
theorem dX12_goes_142 : decode cX12_goes 142 = .ok (.lshl, 1) := by decide +kernel
theorem dX12_goes_143 : decode cX12_goes 143 = .ok (.aload_n 0, 1) := by decide +kernel
theorem dX12_goes_144 : decode cX12_goes 144 = .ok (.aload_n 0, 1) := by decide +kernel
theorem dX12_goes_145 : decode cX12_goes 145 = .ok (.getfield 127, 3) := by decide +kernel
theorem dX12_goes_148 : decode cX12_goes 148 = .ok (.invokevirtual 130, 3) := by decide +kernel
theorem dX12_goes_151 : decode cX12_goes 151 = .ok (.bipush 96, 2) := by decide +kernel
theorem dX12_goes_153 : decode cX12_goes 153 = .ok (.isub, 1) := by decide +kernel
theorem dX12_goes_154 : decode cX12_goes 154 = .ok (.i2l, 1) := by decide +kernel
theorem dX12_goes_155 : decode cX12_goes 155 = .ok (.lor, 1) := by decide +kernel
theorem dX12_goes_156 : decode cX12_goes 156 = .ok (.putfield 137, 3) := by decide +kernel
theorem dX12_goes_159 : decode cX12_goes 159 = .ok (.aload_n 0, 1) := by decide +kernel
theorem dX12_goes_160 : decode cX12_goes 160 = .ok (.dup, 1) := by decide +kernel
theorem dX12_goes_161 : decode cX12_goes 161 = .ok (.getfield 127, 3) := by decide +kernel
theorem dX12_goes_164 : decode cX12_goes 164 = .ok (.iconst 1, 1) := by decide +kernel
theorem dX12_goes_165 : decode cX12_goes 165 = .ok (.iadd, 1) := by decide +kernel
theorem dX12_goes_166 : decode cX12_goes 166 = .ok (.putfield 127, 3) := by decide +kernel
theorem dX12_goes_169 : decode cX12_goes 169 = .ok (.goto (-61), 3) := by decide +kernel
theorem dX12_goes_172 : decode cX12_goes 172 = .ok (.aload_n 0, 1) := by decide +kernel
theorem dX12_goes_173 : decode cX12_goes 173 = .ok (.iconst 1, 1) := by decide +kernel
theorem dX12_goes_174 : decode cX12_goes 174 = .ok (.putfield 147, 3) := by decide +kernel
theorem dX12_goes_177 : decode cX12_goes 177 = .ok (.goto 154, 3) := by decide +kernel
theorem dX12_goes_180 : decode cX12_goes 180 = .ok (.iload_n 1, 1) := by decide +kernel
theorem dX12_goes_181 : decode cX12_goes 181 = .ok (.invokestatic 154, 3) := by decide +kernel
theorem dX12_goes_184 : decode cX12_goes 184 = .ok (.ifCond .eq 74, 3) := by decide +kernel
theorem dX12_goes_187 : decode cX12_goes 187 = .ok (.aload_n 0, 1) := by decide +kernel
theorem dX12_goes_188 : decode cX12_goes 188 = .ok (.aload_n 0, 1) := by decide +kernel
theorem dX12_goes_189 : decode cX12_goes 189 = .ok (.getfield 127, 3) := by decide +kernel
theorem dX12_goes_192 : decode cX12_goes 192 = .ok (.invokevirtual 130, 3) := by decide +kernel
theorem dX12_goes_195 : decode cX12_goes 195 = .ok (.invokestatic 154, 3) := by decide +kernel
theorem dX12_goes_198 : decode cX12_goes 198 = .ok (.ifCond .eq 52, 3) := by decide +kernel
theorem dX12_goes_201 : decode cX12_goes 201 = .ok (.aload_n 0, 1) := by decide +kernel
theorem dX12_goes_202 : decode cX12_goes 202 = .ok (.getfield 127, 3) := by decide +kernel
theorem dX12_goes_205 : decode cX12_goes 205 = .ok (.aload_n 0, 1) := by decide +kernel
theorem dX12_goes_206 : decode cX12_goes 206 = .ok (.getfield 134, 3) := by decide +kernel
theorem dX12_goes_209 : decode cX12_goes 209 = .ok (.isub, 1) := by decide +kernel
theorem dX12_goes_210 : decode cX12_goes 210 = .ok (.iconst 4, 1) := by decide +kernel
theorem dX12_goes_211 : decode cX12_goes 211 = .ok (.if_icmp .ge 26, 3) := by decide +kernel
theorem dX12_goes_214 : decode cX12_goes 214 = .ok (.aload_n 0, 1) := by decide +kernel
theorem dX12_goes_215 : decode cX12_goes 215 = .ok (.bipush 10, 2) := by decide +kernel
theorem dX12_goes_217 : decode cX12_goes 217 = .ok (.aload_n 0, 1) := by decide +kernel
theorem dX12_goes_218 : decode cX12_goes 218 = .ok (.getfield 141, 3) := by decide +kernel
theorem dX12_goes_221 : decode cX12_goes 221 = .ok (.imul, 1) := by decide +kernel
theorem dX12_goes_222 : decode cX12_goes 222 = .ok (.aload_n 0, 1) := by decide +kernel
theorem dX12_goes_223 : decode cX12_goes 223 = .ok (.aload_n 0, 1) := by decide +kernel
theorem dX12_goes_224 : decode cX12_goes 224 = .ok (.getfield 127, 3) := by decide +kernel
theorem dX12_goes_227 : decode cX12_goes 227 = .ok (.invokevirtual 130, 3) := by decide +kernel
theorem dX12_goes_230 : decode cX12_goes 230 = .ok (.iadd, 1) := by decide +kernel
theorem dX12_goes_231 : decode cX12_goes 231 = .ok (.bipush 48, 2) := by decide +kernel
theorem dX12_goes_233 : decode cX12_goes 233 = .ok (.isub, 1) := by decide +kernel
theorem dX12_goes_234 : decode cX12_goes 234 = .ok (.putfield 141, 3) := by decide +kernel
theorem dX12_goes_237 : decode cX12_goes 237 = .ok (.aload_n 0, 1) := by decide +kernel
theorem dX12_goes_238 : decode cX12_goes 238 = .ok (.dup, 1) := by decide +kernel
theorem dX12_goes_239 : decode cX12_goes 239 = .ok (.getfield 127, 3) := by decide +kernel
theorem dX12_goes_242 : decode cX12_goes 242 = .ok (.iconst 1, 1) := by decide +kernel
theorem dX12_goes_243 : decode cX12_goes 243 = .ok (.iadd, 1) := by decide +kernel
theorem dX12_goes_244 : decode cX12_goes 244 = .ok (.putfield 127, 3) := by decide +kernel
theorem dX12_goes_247 : decode cX12_goes 247 = .ok (.goto (-60), 3) := by decide +kernel
theorem dX12_goes_250 : decode cX12_goes 250 = .ok (.aload_n 0, 1) := by decide +kernel
theorem dX12_goes_251 : decode cX12_goes 251 = .ok (.iconst 2, 1) := by decide +kernel
theorem dX12_goes_252 : decode cX12_goes 252 = .ok (.putfield 147, 3) := by decide +kernel
theorem dX12_goes_255 : decode cX12_goes 255 = .ok (.goto 76, 3) := by decide +kernel
theorem dX12_goes_258 : decode cX12_goes 258 = .ok (.aload_n 0, 1) := by decide +kernel
theorem dX12_goes_259 : decode cX12_goes 259 = .ok (.dup, 1) := by decide +kernel
theorem dX12_goes_260 : decode cX12_goes 260 = .ok (.getfield 127, 3) := by decide +kernel
theorem dX12_goes_263 : decode cX12_goes 263 = .ok (.iconst 1, 1) := by decide +kernel
theorem dX12_goes_264 : decode cX12_goes 264 = .ok (.iadd, 1) := by decide +kernel
theorem dX12_goes_265 : decode cX12_goes 265 = .ok (.putfield 127, 3) := by decide +kernel
theorem dX12_goes_268 : decode cX12_goes 268 = .ok (.aload_n 0, 1) := by decide +kernel
theorem dX12_goes_269 : decode cX12_goes 269 = .ok (.iload_n 1, 1) := by decide +kernel
theorem dX12_goes_270 : decode cX12_goes 270 = .ok (.bipush 59, 2) := by decide +kernel
theorem dX12_goes_272 : decode cX12_goes 272 = .ok (.if_icmp .eq 51, 3) := by decide +kernel
theorem dX12_goes_275 : decode cX12_goes 275 = .ok (.iload_n 1, 1) := by decide +kernel
theorem dX12_goes_276 : decode cX12_goes 276 = .ok (.bipush 40, 2) := by decide +kernel
theorem dX12_goes_278 : decode cX12_goes 278 = .ok (.if_icmp .eq 45, 3) := by decide +kernel
theorem dX12_goes_281 : decode cX12_goes 281 = .ok (.iload_n 1, 1) := by decide +kernel
theorem dX12_goes_282 : decode cX12_goes 282 = .ok (.bipush 41, 2) := by decide +kernel
theorem dX12_goes_284 : decode cX12_goes 284 = .ok (.if_icmp .eq 39, 3) := by decide +kernel
theorem dX12_goes_287 : decode cX12_goes 287 = .ok (.iload_n 1, 1) := by decide +kernel
theorem dX12_goes_288 : decode cX12_goes 288 = .ok (.bipush 43, 2) := by decide +kernel
theorem dX12_goes_290 : decode cX12_goes 290 = .ok (.if_icmp .eq 33, 3) := by decide +kernel
theorem dX12_goes_293 : decode cX12_goes 293 = .ok (.iload_n 1, 1) := by decide +kernel
theorem dX12_goes_294 : decode cX12_goes 294 = .ok (.bipush 45, 2) := by decide +kernel
theorem dX12_goes_296 : decode cX12_goes 296 = .ok (.if_icmp .eq 27, 3) := by decide +kernel
theorem dX12_goes_299 : decode cX12_goes 299 = .ok (.iload_n 1, 1) := by decide +kernel
theorem dX12_goes_300 : decode cX12_goes 300 = .ok (.bipush 42, 2) := by decide +kernel
theorem dX12_goes_302 : decode cX12_goes 302 = .ok (.if_icmp .eq 21, 3) := by decide +kernel
theorem dX12_goes_305 : decode cX12_goes 305 = .ok (.iload_n 1, 1) := by decide +kernel
theorem dX12_goes_306 : decode cX12_goes 306 = .ok (.bipush 47, 2) := by decide +kernel
theorem dX12_goes_308 : decode cX12_goes 308 = .ok (.if_icmp .eq 15, 3) := by decide +kernel
theorem dX12_goes_311 : decode cX12_goes 311 = .ok (.iload_n 1, 1) := by decide +kernel
theorem dX12_goes_312 : decode cX12_goes 312 = .ok (.bipush 60, 2) := by decide +kernel
theorem dX12_goes_314 : decode cX12_goes 314 = .ok (.if_icmp .eq 9, 3) := by decide +kernel
theorem dX12_goes_317 : decode cX12_goes 317 = .ok (.iload_n 1, 1) := by decide +kernel
theorem dX12_goes_318 : decode cX12_goes 318 = .ok (.bipush 61, 2) := by decide +kernel
theorem dX12_goes_320 : decode cX12_goes 320 = .ok (.if_icmp .ne 7, 3) := by decide +kernel
theorem dX12_goes_323 : decode cX12_goes 323 = .ok (.iconst 3, 1) := by decide +kernel
theorem dX12_goes_324 : decode cX12_goes 324 = .ok (.goto 4, 3) := by decide +kernel
theorem dX12_goes_327 : decode cX12_goes 327 = .ok (.iconst 4, 1) := by decide +kernel
theorem dX12_goes_328 : decode cX12_goes 328 = .ok (.putfield 147, 3) := by decide +kernel
theorem dX12_goes_331 : decode cX12_goes 331 = .ok (.aload_n 0, 1) := by decide +kernel
theorem dX12_goes_332 : decode cX12_goes 332 = .ok (.aload_n 0, 1) := by decide +kernel
theorem dX12_goes_333 : decode cX12_goes 333 = .ok (.getfield 127, 3) := by decide +kernel
theorem dX12_goes_336 : decode cX12_goes 336 = .ok (.aload_n 0, 1) := by decide +kernel
theorem dX12_goes_337 : decode cX12_goes 337 = .ok (.getfield 134, 3) := by decide +kernel
theorem dX12_goes_340 : decode cX12_goes 340 = .ok (.isub, 1) := by decide +kernel
theorem dX12_goes_341 : decode cX12_goes 341 = .ok (.putfield 157, 3) := by decide +kernel
theorem dX12_goes_344 : decode cX12_goes 344 = .ok (.return_, 1) := by decide +kernel
theorem dX12_spelled_0 : decode cX12_spelled 0 = .ok (.iload_n 0, 1) := by decide +kernel
theorem dX12_spelled_1 : decode cX12_spelled 1 = .ok (.i2l, 1) := by decide +kernel
theorem dX12_spelled_2 : decode cX12_spelled 2 = .ok (.ldc2_w 160, 3) := by decide +kernel
theorem dX12_spelled_5 : decode cX12_spelled 5 = .ok (.lsub, 1) := by decide +kernel
theorem dX12_spelled_6 : decode cX12_spelled 6 = .ok (.iconst 5, 1) := by decide +kernel
theorem dX12_spelled_7 : decode cX12_spelled 7 = .ok (.lshl, 1) := by decide +kernel
theorem dX12_spelled_8 : decode cX12_spelled 8 = .ok (.iload_n 1, 1) := by decide +kernel
theorem dX12_spelled_9 : decode cX12_spelled 9 = .ok (.bipush 96, 2) := by decide +kernel
theorem dX12_spelled_11 : decode cX12_spelled 11 = .ok (.isub, 1) := by decide +kernel
theorem dX12_spelled_12 : decode cX12_spelled 12 = .ok (.i2l, 1) := by decide +kernel
theorem dX12_spelled_13 : decode cX12_spelled 13 = .ok (.lor, 1) := by decide +kernel
theorem dX12_spelled_14 : decode cX12_spelled 14 = .ok (.lstore 6, 2) := by decide +kernel
theorem dX12_spelled_16 : decode cX12_spelled 16 = .ok (.iload_n 2, 1) := by decide +kernel
theorem dX12_spelled_17 : decode cX12_spelled 17 = .ok (.ifCond .eq 15, 3) := by decide +kernel
theorem dX12_spelled_20 : decode cX12_spelled 20 = .ok (.lload 6, 2) := by decide +kernel
theorem dX12_spelled_22 : decode cX12_spelled 22 = .ok (.iconst 5, 1) := by decide +kernel
theorem dX12_spelled_23 : decode cX12_spelled 23 = .ok (.lshl, 1) := by decide +kernel
theorem dX12_spelled_24 : decode cX12_spelled 24 = .ok (.iload_n 2, 1) := by decide +kernel
theorem dX12_spelled_25 : decode cX12_spelled 25 = .ok (.bipush 96, 2) := by decide +kernel
theorem dX12_spelled_27 : decode cX12_spelled 27 = .ok (.isub, 1) := by decide +kernel
theorem dX12_spelled_28 : decode cX12_spelled 28 = .ok (.i2l, 1) := by decide +kernel
theorem dX12_spelled_29 : decode cX12_spelled 29 = .ok (.lor, 1) := by decide +kernel
theorem dX12_spelled_30 : decode cX12_spelled 30 = .ok (.lstore 6, 2) := by decide +kernel
theorem dX12_spelled_32 : decode cX12_spelled 32 = .ok (.iload_n 3, 1) := by decide +kernel
theorem dX12_spelled_33 : decode cX12_spelled 33 = .ok (.ifCond .eq 15, 3) := by decide +kernel
theorem dX12_spelled_36 : decode cX12_spelled 36 = .ok (.lload 6, 2) := by decide +kernel
theorem dX12_spelled_38 : decode cX12_spelled 38 = .ok (.iconst 5, 1) := by decide +kernel
theorem dX12_spelled_39 : decode cX12_spelled 39 = .ok (.lshl, 1) := by decide +kernel
theorem dX12_spelled_40 : decode cX12_spelled 40 = .ok (.iload_n 3, 1) := by decide +kernel
theorem dX12_spelled_41 : decode cX12_spelled 41 = .ok (.bipush 96, 2) := by decide +kernel
theorem dX12_spelled_43 : decode cX12_spelled 43 = .ok (.isub, 1) := by decide +kernel
theorem dX12_spelled_44 : decode cX12_spelled 44 = .ok (.i2l, 1) := by decide +kernel
theorem dX12_spelled_45 : decode cX12_spelled 45 = .ok (.lor, 1) := by decide +kernel
theorem dX12_spelled_46 : decode cX12_spelled 46 = .ok (.lstore 6, 2) := by decide +kernel
theorem dX12_spelled_48 : decode cX12_spelled 48 = .ok (.iload 4, 2) := by decide +kernel
theorem dX12_spelled_50 : decode cX12_spelled 50 = .ok (.ifCond .eq 16, 3) := by decide +kernel
theorem dX12_spelled_53 : decode cX12_spelled 53 = .ok (.lload 6, 2) := by decide +kernel
theorem dX12_spelled_55 : decode cX12_spelled 55 = .ok (.iconst 5, 1) := by decide +kernel
theorem dX12_spelled_56 : decode cX12_spelled 56 = .ok (.lshl, 1) := by decide +kernel
theorem dX12_spelled_57 : decode cX12_spelled 57 = .ok (.iload 4, 2) := by decide +kernel
theorem dX12_spelled_59 : decode cX12_spelled 59 = .ok (.bipush 96, 2) := by decide +kernel
theorem dX12_spelled_61 : decode cX12_spelled 61 = .ok (.isub, 1) := by decide +kernel
theorem dX12_spelled_62 : decode cX12_spelled 62 = .ok (.i2l, 1) := by decide +kernel
theorem dX12_spelled_63 : decode cX12_spelled 63 = .ok (.lor, 1) := by decide +kernel
theorem dX12_spelled_64 : decode cX12_spelled 64 = .ok (.lstore 6, 2) := by decide +kernel
theorem dX12_spelled_66 : decode cX12_spelled 66 = .ok (.iload 5, 2) := by decide +kernel
theorem dX12_spelled_68 : decode cX12_spelled 68 = .ok (.ifCond .eq 16, 3) := by decide +kernel
theorem dX12_spelled_71 : decode cX12_spelled 71 = .ok (.lload 6, 2) := by decide +kernel
theorem dX12_spelled_73 : decode cX12_spelled 73 = .ok (.iconst 5, 1) := by decide +kernel
theorem dX12_spelled_74 : decode cX12_spelled 74 = .ok (.lshl, 1) := by decide +kernel
theorem dX12_spelled_75 : decode cX12_spelled 75 = .ok (.iload 5, 2) := by decide +kernel
theorem dX12_spelled_77 : decode cX12_spelled 77 = .ok (.bipush 96, 2) := by decide +kernel
theorem dX12_spelled_79 : decode cX12_spelled 79 = .ok (.isub, 1) := by decide +kernel
theorem dX12_spelled_80 : decode cX12_spelled 80 = .ok (.i2l, 1) := by decide +kernel
theorem dX12_spelled_81 : decode cX12_spelled 81 = .ok (.lor, 1) := by decide +kernel
theorem dX12_spelled_82 : decode cX12_spelled 82 = .ok (.lstore 6, 2) := by decide +kernel
theorem dX12_spelled_84 : decode cX12_spelled 84 = .ok (.lload 6, 2) := by decide +kernel
theorem dX12_spelled_86 : decode cX12_spelled 86 = .ok (.lreturn, 1) := by decide +kernel
theorem dX12_letters_0 : decode cX12_letters 0 = .ok (.iload_n 0, 1) := by decide +kernel
theorem dX12_letters_1 : decode cX12_letters 1 = .ok (.tableswitch 214 0 10 #[59, 73, 88, 104, 118, 132, 145, 159, 174, 189, 202], 59) := by decide +kernel
theorem dX12_letters_60 : decode cX12_letters 60 = .ok (.bipush 102, 2) := by decide +kernel
theorem dX12_letters_62 : decode cX12_letters 62 = .ok (.bipush 105, 2) := by decide +kernel
theorem dX12_letters_64 : decode cX12_letters 64 = .ok (.bipush 108, 2) := by decide +kernel
theorem dX12_letters_66 : decode cX12_letters 66 = .ok (.bipush 108, 2) := by decide +kernel
theorem dX12_letters_68 : decode cX12_letters 68 = .ok (.iconst 0, 1) := by decide +kernel
theorem dX12_letters_69 : decode cX12_letters 69 = .ok (.iconst 0, 1) := by decide +kernel
theorem dX12_letters_70 : decode cX12_letters 70 = .ok (.invokestatic 162, 3) := by decide +kernel
theorem dX12_letters_73 : decode cX12_letters 73 = .ok (.lreturn, 1) := by decide +kernel
theorem dX12_letters_74 : decode cX12_letters 74 = .ok (.bipush 104, 2) := by decide +kernel
theorem dX12_letters_76 : decode cX12_letters 76 = .ok (.bipush 111, 2) := by decide +kernel
theorem dX12_letters_78 : decode cX12_letters 78 = .ok (.bipush 108, 2) := by decide +kernel
theorem dX12_letters_80 : decode cX12_letters 80 = .ok (.bipush 100, 2) := by decide +kernel
theorem dX12_letters_82 : decode cX12_letters 82 = .ok (.bipush 115, 2) := by decide +kernel
theorem dX12_letters_84 : decode cX12_letters 84 = .ok (.iconst 0, 1) := by decide +kernel
theorem dX12_letters_85 : decode cX12_letters 85 = .ok (.invokestatic 162, 3) := by decide +kernel
theorem dX12_letters_88 : decode cX12_letters 88 = .ok (.lreturn, 1) := by decide +kernel
theorem dX12_letters_89 : decode cX12_letters 89 = .ok (.bipush 115, 2) := by decide +kernel
theorem dX12_letters_91 : decode cX12_letters 91 = .ok (.bipush 112, 2) := by decide +kernel
theorem dX12_letters_93 : decode cX12_letters 93 = .ok (.bipush 114, 2) := by decide +kernel
theorem dX12_letters_95 : decode cX12_letters 95 = .ok (.bipush 105, 2) := by decide +kernel
theorem dX12_letters_97 : decode cX12_letters 97 = .ok (.bipush 110, 2) := by decide +kernel
theorem dX12_letters_99 : decode cX12_letters 99 = .ok (.bipush 103, 2) := by decide +kernel
theorem dX12_letters_101 : decode cX12_letters 101 = .ok (.invokestatic 162, 3) := by decide +kernel
theorem dX12_letters_104 : decode cX12_letters 104 = .ok (.lreturn, 1) := by decide +kernel
theorem dX12_letters_105 : decode cX12_letters 105 = .ok (.bipush 116, 2) := by decide +kernel
theorem dX12_letters_107 : decode cX12_letters 107 = .ok (.bipush 105, 2) := by decide +kernel
theorem dX12_letters_109 : decode cX12_letters 109 = .ok (.bipush 112, 2) := by decide +kernel
theorem dX12_letters_111 : decode cX12_letters 111 = .ok (.bipush 115, 2) := by decide +kernel
theorem dX12_letters_113 : decode cX12_letters 113 = .ok (.iconst 0, 1) := by decide +kernel
theorem dX12_letters_114 : decode cX12_letters 114 = .ok (.iconst 0, 1) := by decide +kernel
theorem dX12_letters_115 : decode cX12_letters 115 = .ok (.invokestatic 162, 3) := by decide +kernel
theorem dX12_letters_118 : decode cX12_letters 118 = .ok (.lreturn, 1) := by decide +kernel
theorem dX12_letters_119 : decode cX12_letters 119 = .ok (.bipush 104, 2) := by decide +kernel
theorem dX12_letters_121 : decode cX12_letters 121 = .ok (.bipush 111, 2) := by decide +kernel
theorem dX12_letters_123 : decode cX12_letters 123 = .ok (.bipush 117, 2) := by decide +kernel
theorem dX12_letters_125 : decode cX12_letters 125 = .ok (.bipush 114, 2) := by decide +kernel
theorem dX12_letters_127 : decode cX12_letters 127 = .ok (.iconst 0, 1) := by decide +kernel
theorem dX12_letters_128 : decode cX12_letters 128 = .ok (.iconst 0, 1) := by decide +kernel
theorem dX12_letters_129 : decode cX12_letters 129 = .ok (.invokestatic 162, 3) := by decide +kernel
theorem dX12_letters_132 : decode cX12_letters 132 = .ok (.lreturn, 1) := by decide +kernel
theorem dX12_letters_133 : decode cX12_letters 133 = .ok (.bipush 99, 2) := by decide +kernel
theorem dX12_letters_135 : decode cX12_letters 135 = .ok (.bipush 117, 2) := by decide +kernel
theorem dX12_letters_137 : decode cX12_letters 137 = .ok (.bipush 112, 2) := by decide +kernel
theorem dX12_letters_139 : decode cX12_letters 139 = .ok (.iconst 0, 1) := by decide +kernel
theorem dX12_letters_140 : decode cX12_letters 140 = .ok (.iconst 0, 1) := by decide +kernel
theorem dX12_letters_141 : decode cX12_letters 141 = .ok (.iconst 0, 1) := by decide +kernel
theorem dX12_letters_142 : decode cX12_letters 142 = .ok (.invokestatic 162, 3) := by decide +kernel
theorem dX12_letters_145 : decode cX12_letters 145 = .ok (.lreturn, 1) := by decide +kernel
theorem dX12_letters_146 : decode cX12_letters 146 = .ok (.bipush 112, 2) := by decide +kernel
theorem dX12_letters_148 : decode cX12_letters 148 = .ok (.bipush 105, 2) := by decide +kernel
theorem dX12_letters_150 : decode cX12_letters 150 = .ok (.bipush 112, 2) := by decide +kernel
theorem dX12_letters_152 : decode cX12_letters 152 = .ok (.bipush 101, 2) := by decide +kernel
theorem dX12_letters_154 : decode cX12_letters 154 = .ok (.iconst 0, 1) := by decide +kernel
theorem dX12_letters_155 : decode cX12_letters 155 = .ok (.iconst 0, 1) := by decide +kernel
theorem dX12_letters_156 : decode cX12_letters 156 = .ok (.invokestatic 162, 3) := by decide +kernel
theorem dX12_letters_159 : decode cX12_letters 159 = .ok (.lreturn, 1) := by decide +kernel
theorem dX12_letters_160 : decode cX12_letters 160 = .ok (.bipush 108, 2) := by decide +kernel
theorem dX12_letters_162 : decode cX12_letters 162 = .ok (.bipush 101, 2) := by decide +kernel
theorem dX12_letters_164 : decode cX12_letters 164 = .ok (.bipush 97, 2) := by decide +kernel
theorem dX12_letters_166 : decode cX12_letters 166 = .ok (.bipush 107, 2) := by decide +kernel
theorem dX12_letters_168 : decode cX12_letters 168 = .ok (.bipush 115, 2) := by decide +kernel
theorem dX12_letters_170 : decode cX12_letters 170 = .ok (.iconst 0, 1) := by decide +kernel
theorem dX12_letters_171 : decode cX12_letters 171 = .ok (.invokestatic 162, 3) := by decide +kernel
theorem dX12_letters_174 : decode cX12_letters 174 = .ok (.lreturn, 1) := by decide +kernel
theorem dX12_letters_175 : decode cX12_letters 175 = .ok (.bipush 102, 2) := by decide +kernel
theorem dX12_letters_177 : decode cX12_letters 177 = .ok (.bipush 114, 2) := by decide +kernel
theorem dX12_letters_179 : decode cX12_letters 179 = .ok (.bipush 111, 2) := by decide +kernel
theorem dX12_letters_181 : decode cX12_letters 181 = .ok (.bipush 115, 2) := by decide +kernel
theorem dX12_letters_183 : decode cX12_letters 183 = .ok (.bipush 116, 2) := by decide +kernel
theorem dX12_letters_185 : decode cX12_letters 185 = .ok (.iconst 0, 1) := by decide +kernel
theorem dX12_letters_186 : decode cX12_letters 186 = .ok (.invokestatic 162, 3) := by decide +kernel
theorem dX12_letters_189 : decode cX12_letters 189 = .ok (.lreturn, 1) := by decide +kernel
theorem dX12_letters_190 : decode cX12_letters 190 = .ok (.bipush 97, 2) := by decide +kernel
theorem dX12_letters_192 : decode cX12_letters 192 = .ok (.bipush 110, 2) := by decide +kernel
theorem dX12_letters_194 : decode cX12_letters 194 = .ok (.bipush 100, 2) := by decide +kernel
theorem dX12_letters_196 : decode cX12_letters 196 = .ok (.iconst 0, 1) := by decide +kernel
theorem dX12_letters_197 : decode cX12_letters 197 = .ok (.iconst 0, 1) := by decide +kernel
theorem dX12_letters_198 : decode cX12_letters 198 = .ok (.iconst 0, 1) := by decide +kernel
theorem dX12_letters_199 : decode cX12_letters 199 = .ok (.invokestatic 162, 3) := by decide +kernel
theorem dX12_letters_202 : decode cX12_letters 202 = .ok (.lreturn, 1) := by decide +kernel
theorem dX12_letters_203 : decode cX12_letters 203 = .ok (.bipush 111, 2) := by decide +kernel
theorem dX12_letters_205 : decode cX12_letters 205 = .ok (.bipush 114, 2) := by decide +kernel
theorem dX12_letters_207 : decode cX12_letters 207 = .ok (.iconst 0, 1) := by decide +kernel
theorem dX12_letters_208 : decode cX12_letters 208 = .ok (.iconst 0, 1) := by decide +kernel
theorem dX12_letters_209 : decode cX12_letters 209 = .ok (.iconst 0, 1) := by decide +kernel
theorem dX12_letters_210 : decode cX12_letters 210 = .ok (.iconst 0, 1) := by decide +kernel
theorem dX12_letters_211 : decode cX12_letters 211 = .ok (.invokestatic 162, 3) := by decide +kernel
theorem dX12_letters_214 : decode cX12_letters 214 = .ok (.lreturn, 1) := by decide +kernel
theorem dX12_letters_215 : decode cX12_letters 215 = .ok (.bipush 110, 2) := by decide +kernel
theorem dX12_letters_217 : decode cX12_letters 217 = .ok (.bipush 111, 2) := by decide +kernel
theorem dX12_letters_219 : decode cX12_letters 219 = .ok (.bipush 116, 2) := by decide +kernel
theorem dX12_letters_221 : decode cX12_letters 221 = .ok (.iconst 0, 1) := by decide +kernel
theorem dX12_letters_222 : decode cX12_letters 222 = .ok (.iconst 0, 1) := by decide +kernel
theorem dX12_letters_223 : decode cX12_letters 223 = .ok (.iconst 0, 1) := by decide +kernel
theorem dX12_letters_224 : decode cX12_letters 224 = .ok (.invokestatic 162, 3) := by decide +kernel
theorem dX12_letters_227 : decode cX12_letters 227 = .ok (.lreturn, 1) := by decide +kernel
theorem dX12_knownWord_0 : decode cX12_knownWord 0 = .ok (.aload_n 0, 1) := by decide +kernel
theorem dX12_knownWord_1 : decode cX12_knownWord 1 = .ok (.getfield 147, 3) := by decide +kernel
theorem dX12_knownWord_4 : decode cX12_knownWord 4 = .ok (.iconst 1, 1) := by decide +kernel
theorem dX12_knownWord_5 : decode cX12_knownWord 5 = .ok (.if_icmp .ne 12, 3) := by decide +kernel
theorem dX12_knownWord_8 : decode cX12_knownWord 8 = .ok (.aload_n 0, 1) := by decide +kernel
theorem dX12_knownWord_9 : decode cX12_knownWord 9 = .ok (.getfield 157, 3) := by decide +kernel
theorem dX12_knownWord_12 : decode cX12_knownWord 12 = .ok (.bipush 6, 2) := by decide +kernel
theorem dX12_knownWord_14 : decode cX12_knownWord 14 = .ok (.if_icmp .le 5, 3) := by decide +kernel
theorem dX12_knownWord_17 : decode cX12_knownWord 17 = .ok (.iconst (-1), 1) := by decide +kernel
theorem dX12_knownWord_18 : decode cX12_knownWord 18 = .ok (.ireturn, 1) := by decide +kernel
theorem dX12_knownWord_19 : decode cX12_knownWord 19 = .ok (.iconst 0, 1) := by decide +kernel
theorem dX12_knownWord_20 : decode cX12_knownWord 20 = .ok (.istore_n 1, 1) := by decide +kernel
theorem dX12_knownWord_21 : decode cX12_knownWord 21 = .ok (.iload_n 1, 1) := by decide +kernel
theorem dX12_knownWord_22 : decode cX12_knownWord 22 = .ok (.bipush 12, 2) := by decide +kernel
theorem dX12_knownWord_24 : decode cX12_knownWord 24 = .ok (.if_icmp .ge 23, 3) := by decide +kernel
theorem dX12_knownWord_27 : decode cX12_knownWord 27 = .ok (.iload_n 1, 1) := by decide +kernel
theorem dX12_knownWord_28 : decode cX12_knownWord 28 = .ok (.invokestatic 166, 3) := by decide +kernel
theorem dX12_knownWord_31 : decode cX12_knownWord 31 = .ok (.aload_n 0, 1) := by decide +kernel
theorem dX12_knownWord_32 : decode cX12_knownWord 32 = .ok (.getfield 137, 3) := by decide +kernel
theorem dX12_knownWord_35 : decode cX12_knownWord 35 = .ok (.lcmp, 1) := by decide +kernel
theorem dX12_knownWord_36 : decode cX12_knownWord 36 = .ok (.ifCond .ne 5, 3) := by decide +kernel
theorem dX12_knownWord_39 : decode cX12_knownWord 39 = .ok (.iload_n 1, 1) := by decide +kernel
theorem dX12_knownWord_40 : decode cX12_knownWord 40 = .ok (.ireturn, 1) := by decide +kernel
theorem dX12_knownWord_41 : decode cX12_knownWord 41 = .ok (.iinc 1 1, 3) := by decide +kernel
theorem dX12_knownWord_44 : decode cX12_knownWord 44 = .ok (.goto (-23), 3) := by decide +kernel
theorem dX12_knownWord_47 : decode cX12_knownWord 47 = .ok (.iconst (-1), 1) := by decide +kernel
theorem dX12_knownWord_48 : decode cX12_knownWord 48 = .ok (.ireturn, 1) := by decide +kernel
theorem dX12_wrong_0 : decode cX12_wrong 0 = .ok (.aload_n 0, 1) := by decide +kernel
theorem dX12_wrong_1 : decode cX12_wrong 1 = .ok (.getfield 170, 3) := by decide +kernel
theorem dX12_wrong_4 : decode cX12_wrong 4 = .ok (.ifCond .eq 4, 3) := by decide +kernel
theorem dX12_wrong_7 : decode cX12_wrong 7 = .ok (.return_, 1) := by decide +kernel
theorem dX12_wrong_8 : decode cX12_wrong 8 = .ok (.aload_n 0, 1) := by decide +kernel
theorem dX12_wrong_9 : decode cX12_wrong 9 = .ok (.iload_n 1, 1) := by decide +kernel
theorem dX12_wrong_10 : decode cX12_wrong 10 = .ok (.putfield 170, 3) := by decide +kernel
theorem dX12_wrong_13 : decode cX12_wrong 13 = .ok (.aload_n 0, 1) := by decide +kernel
theorem dX12_wrong_14 : decode cX12_wrong 14 = .ok (.aload_n 0, 1) := by decide +kernel
theorem dX12_wrong_15 : decode cX12_wrong 15 = .ok (.getfield 134, 3) := by decide +kernel
theorem dX12_wrong_18 : decode cX12_wrong 18 = .ok (.putfield 26, 3) := by decide +kernel
theorem dX12_wrong_21 : decode cX12_wrong 21 = .ok (.return_, 1) := by decide +kernel
theorem dX12_isGood_0 : decode cX12_isGood 0 = .ok (.aload_n 0, 1) := by decide +kernel
theorem dX12_isGood_1 : decode cX12_isGood 1 = .ok (.getfield 170, 3) := by decide +kernel
theorem dX12_isGood_4 : decode cX12_isGood 4 = .ok (.ifCond .ne 7, 3) := by decide +kernel
theorem dX12_isGood_7 : decode cX12_isGood 7 = .ok (.iconst 1, 1) := by decide +kernel
theorem dX12_isGood_8 : decode cX12_isGood 8 = .ok (.goto 4, 3) := by decide +kernel
theorem dX12_isGood_11 : decode cX12_isGood 11 = .ok (.iconst 0, 1) := by decide +kernel
theorem dX12_isGood_12 : decode cX12_isGood 12 = .ok (.ireturn, 1) := by decide +kernel
theorem dX12_isSign_0 : decode cX12_isSign 0 = .ok (.aload_n 0, 1) := by decide +kernel
theorem dX12_isSign_1 : decode cX12_isSign 1 = .ok (.getfield 147, 3) := by decide +kernel
theorem dX12_isSign_4 : decode cX12_isSign 4 = .ok (.iconst 3, 1) := by decide +kernel
theorem dX12_isSign_5 : decode cX12_isSign 5 = .ok (.if_icmp .ne 15, 3) := by decide +kernel
theorem dX12_isSign_8 : decode cX12_isSign 8 = .ok (.aload_n 0, 1) := by decide +kernel
theorem dX12_isSign_9 : decode cX12_isSign 9 = .ok (.getfield 144, 3) := by decide +kernel
theorem dX12_isSign_12 : decode cX12_isSign 12 = .ok (.iload_n 1, 1) := by decide +kernel
theorem dX12_isSign_13 : decode cX12_isSign 13 = .ok (.if_icmp .ne 7, 3) := by decide +kernel
theorem dX12_isSign_16 : decode cX12_isSign 16 = .ok (.iconst 1, 1) := by decide +kernel
theorem dX12_isSign_17 : decode cX12_isSign 17 = .ok (.goto 4, 3) := by decide +kernel
theorem dX12_isSign_20 : decode cX12_isSign 20 = .ok (.iconst 0, 1) := by decide +kernel
theorem dX12_isSign_21 : decode cX12_isSign 21 = .ok (.ireturn, 1) := by decide +kernel
theorem dX12_need_0 : decode cX12_need 0 = .ok (.aload_n 0, 1) := by decide +kernel
theorem dX12_need_1 : decode cX12_need 1 = .ok (.invokevirtual 173, 3) := by decide +kernel
theorem dX12_need_4 : decode cX12_need 4 = .ok (.ifCond .ne 4, 3) := by decide +kernel
theorem dX12_need_7 : decode cX12_need 7 = .ok (.return_, 1) := by decide +kernel
theorem dX12_need_8 : decode cX12_need 8 = .ok (.iload_n 1, 1) := by decide +kernel
theorem dX12_need_9 : decode cX12_need 9 = .ok (.ifCond .eq 10, 3) := by decide +kernel
theorem dX12_need_12 : decode cX12_need 12 = .ok (.aload_n 0, 1) := by decide +kernel
theorem dX12_need_13 : decode cX12_need 13 = .ok (.invokevirtual 177, 3) := by decide +kernel
theorem dX12_need_16 : decode cX12_need 16 = .ok (.goto 8, 3) := by decide +kernel
theorem dX12_need_19 : decode cX12_need 19 = .ok (.aload_n 0, 1) := by decide +kernel
theorem dX12_need_20 : decode cX12_need 20 = .ok (.iconst 1, 1) := by decide +kernel
theorem dX12_need_21 : decode cX12_need 21 = .ok (.invokevirtual 180, 3) := by decide +kernel
theorem dX12_need_24 : decode cX12_need 24 = .ok (.return_, 1) := by decide +kernel
theorem dX12_number_0 : decode cX12_number 0 = .ok (.aload_n 0, 1) := by decide +kernel
theorem dX12_number_1 : decode cX12_number 1 = .ok (.invokevirtual 173, 3) := by decide +kernel
theorem dX12_number_4 : decode cX12_number 4 = .ok (.ifCond .ne 5, 3) := by decide +kernel
theorem dX12_number_7 : decode cX12_number 7 = .ok (.iconst 0, 1) := by decide +kernel
theorem dX12_number_8 : decode cX12_number 8 = .ok (.ireturn, 1) := by decide +kernel
theorem dX12_number_9 : decode cX12_number 9 = .ok (.aload_n 0, 1) := by decide +kernel
theorem dX12_number_10 : decode cX12_number 10 = .ok (.getfield 147, 3) := by decide +kernel
theorem dX12_number_13 : decode cX12_number 13 = .ok (.iconst 2, 1) := by decide +kernel
theorem dX12_number_14 : decode cX12_number 14 = .ok (.if_icmp .eq 11, 3) := by decide +kernel
theorem dX12_number_17 : decode cX12_number 17 = .ok (.aload_n 0, 1) := by decide +kernel
theorem dX12_number_18 : decode cX12_number 18 = .ok (.iconst 1, 1) := by decide +kernel
theorem dX12_number_19 : decode cX12_number 19 = .ok (.invokevirtual 180, 3) := by decide +kernel
theorem dX12_number_22 : decode cX12_number 22 = .ok (.goto 32, 3) := by decide +kernel
theorem dX12_number_25 : decode cX12_number 25 = .ok (.aload_n 0, 1) := by decide +kernel
theorem dX12_number_26 : decode cX12_number 26 = .ok (.getfield 157, 3) := by decide +kernel
theorem dX12_number_29 : decode cX12_number 29 = .ok (.iconst 4, 1) := by decide +kernel
theorem dX12_number_30 : decode cX12_number 30 = .ok (.if_icmp .gt 19, 3) := by decide +kernel
theorem dX12_number_33 : decode cX12_number 33 = .ok (.aload_n 0, 1) := by decide +kernel
theorem dX12_number_34 : decode cX12_number 34 = .ok (.getfield 141, 3) := by decide +kernel
theorem dX12_number_37 : decode cX12_number 37 = .ok (.iload_n 1, 1) := by decide +kernel
theorem dX12_number_38 : decode cX12_number 38 = .ok (.if_icmp .lt 11, 3) := by decide +kernel
theorem dX12_number_41 : decode cX12_number 41 = .ok (.aload_n 0, 1) := by decide +kernel
theorem dX12_number_42 : decode cX12_number 42 = .ok (.getfield 141, 3) := by decide +kernel
theorem dX12_number_45 : decode cX12_number 45 = .ok (.iload_n 2, 1) := by decide +kernel
theorem dX12_number_46 : decode cX12_number 46 = .ok (.if_icmp .le 8, 3) := by decide +kernel
theorem dX12_number_49 : decode cX12_number 49 = .ok (.aload_n 0, 1) := by decide +kernel
theorem dX12_number_50 : decode cX12_number 50 = .ok (.iconst 2, 1) := by decide +kernel
theorem dX12_number_51 : decode cX12_number 51 = .ok (.invokevirtual 180, 3) := by decide +kernel
theorem dX12_number_54 : decode cX12_number 54 = .ok (.aload_n 0, 1) := by decide +kernel
theorem dX12_number_55 : decode cX12_number 55 = .ok (.getfield 141, 3) := by decide +kernel
theorem dX12_number_58 : decode cX12_number 58 = .ok (.istore_n 3, 1) := by decide +kernel
theorem dX12_number_59 : decode cX12_number 59 = .ok (.aload_n 0, 1) := by decide +kernel
theorem dX12_number_60 : decode cX12_number 60 = .ok (.invokevirtual 173, 3) := by decide +kernel
theorem dX12_number_63 : decode cX12_number 63 = .ok (.ifCond .eq 7, 3) := by decide +kernel
theorem dX12_number_66 : decode cX12_number 66 = .ok (.aload_n 0, 1) := by decide +kernel
theorem dX12_number_67 : decode cX12_number 67 = .ok (.invokevirtual 177, 3) := by decide +kernel
theorem dX12_number_70 : decode cX12_number 70 = .ok (.iload_n 3, 1) := by decide +kernel
theorem dX12_number_71 : decode cX12_number 71 = .ok (.ireturn, 1) := by decide +kernel
theorem dX12_isCupHere_0 : decode cX12_isCupHere 0 = .ok (.aload_n 0, 1) := by decide +kernel
theorem dX12_isCupHere_1 : decode cX12_isCupHere 1 = .ok (.invokevirtual 173, 3) := by decide +kernel
theorem dX12_isCupHere_4 : decode cX12_isCupHere 4 = .ok (.ifCond .ne 5, 3) := by decide +kernel
theorem dX12_isCupHere_7 : decode cX12_isCupHere 7 = .ok (.iconst 0, 1) := by decide +kernel
theorem dX12_isCupHere_8 : decode cX12_isCupHere 8 = .ok (.ireturn, 1) := by decide +kernel
theorem dX12_isCupHere_9 : decode cX12_isCupHere 9 = .ok (.aload_n 0, 1) := by decide +kernel
theorem dX12_isCupHere_10 : decode cX12_isCupHere 10 = .ok (.getfield 147, 3) := by decide +kernel
theorem dX12_isCupHere_13 : decode cX12_isCupHere 13 = .ok (.iconst 2, 1) := by decide +kernel
theorem dX12_isCupHere_14 : decode cX12_isCupHere 14 = .ok (.if_icmp .eq 11, 3) := by decide +kernel
theorem dX12_isCupHere_17 : decode cX12_isCupHere 17 = .ok (.aload_n 0, 1) := by decide +kernel
theorem dX12_isCupHere_18 : decode cX12_isCupHere 18 = .ok (.iconst 1, 1) := by decide +kernel
theorem dX12_isCupHere_19 : decode cX12_isCupHere 19 = .ok (.invokevirtual 180, 3) := by decide +kernel
theorem dX12_isCupHere_22 : decode cX12_isCupHere 22 = .ok (.goto 35, 3) := by decide +kernel
theorem dX12_isCupHere_25 : decode cX12_isCupHere 25 = .ok (.aload_n 0, 1) := by decide +kernel
theorem dX12_isCupHere_26 : decode cX12_isCupHere 26 = .ok (.getfield 157, 3) := by decide +kernel
theorem dX12_isCupHere_29 : decode cX12_isCupHere 29 = .ok (.iconst 4, 1) := by decide +kernel
theorem dX12_isCupHere_30 : decode cX12_isCupHere 30 = .ok (.if_icmp .le 11, 3) := by decide +kernel
theorem dX12_isCupHere_33 : decode cX12_isCupHere 33 = .ok (.aload_n 0, 1) := by decide +kernel
theorem dX12_isCupHere_34 : decode cX12_isCupHere 34 = .ok (.iconst 2, 1) := by decide +kernel
theorem dX12_isCupHere_35 : decode cX12_isCupHere 35 = .ok (.invokevirtual 180, 3) := by decide +kernel
theorem dX12_isCupHere_38 : decode cX12_isCupHere 38 = .ok (.goto 19, 3) := by decide +kernel
theorem dX12_isCupHere_41 : decode cX12_isCupHere 41 = .ok (.aload_n 0, 1) := by decide +kernel
theorem dX12_isCupHere_42 : decode cX12_isCupHere 42 = .ok (.getfield 141, 3) := by decide +kernel
theorem dX12_isCupHere_45 : decode cX12_isCupHere 45 = .ok (.aload_n 0, 1) := by decide +kernel
theorem dX12_isCupHere_46 : decode cX12_isCupHere 46 = .ok (.getfield 183, 3) := by decide +kernel
theorem dX12_isCupHere_49 : decode cX12_isCupHere 49 = .ok (.if_icmp .lt 8, 3) := by decide +kernel
theorem dX12_isCupHere_52 : decode cX12_isCupHere 52 = .ok (.aload_n 0, 1) := by decide +kernel
theorem dX12_isCupHere_53 : decode cX12_isCupHere 53 = .ok (.iconst 3, 1) := by decide +kernel
theorem dX12_isCupHere_54 : decode cX12_isCupHere 54 = .ok (.invokevirtual 180, 3) := by decide +kernel
theorem dX12_isCupHere_57 : decode cX12_isCupHere 57 = .ok (.aload_n 0, 1) := by decide +kernel
theorem dX12_isCupHere_58 : decode cX12_isCupHere 58 = .ok (.invokevirtual 173, 3) := by decide +kernel
theorem dX12_isCupHere_61 : decode cX12_isCupHere 61 = .ok (.ireturn, 1) := by decide +kernel
theorem dX12_puts_0 : decode cX12_puts 0 = .ok (.aload_n 0, 1) := by decide +kernel
theorem dX12_puts_1 : decode cX12_puts 1 = .ok (.getfield 38, 3) := by decide +kernel
theorem dX12_puts_4 : decode cX12_puts 4 = .ok (.aload_n 0, 1) := by decide +kernel
theorem dX12_puts_5 : decode cX12_puts 5 = .ok (.getfield 186, 3) := by decide +kernel
theorem dX12_puts_8 : decode cX12_puts 8 = .ok (.iload_n 1, 1) := by decide +kernel
theorem dX12_puts_9 : decode cX12_puts 9 = .ok (.iastore, 1) := by decide +kernel
theorem dX12_puts_10 : decode cX12_puts 10 = .ok (.aload_n 0, 1) := by decide +kernel
theorem dX12_puts_11 : decode cX12_puts 11 = .ok (.dup, 1) := by decide +kernel
theorem dX12_puts_12 : decode cX12_puts 12 = .ok (.getfield 186, 3) := by decide +kernel
theorem dX12_puts_15 : decode cX12_puts 15 = .ok (.iconst 1, 1) := by decide +kernel
theorem dX12_puts_16 : decode cX12_puts 16 = .ok (.iadd, 1) := by decide +kernel
theorem dX12_puts_17 : decode cX12_puts 17 = .ok (.putfield 186, 3) := by decide +kernel
theorem dX12_puts_20 : decode cX12_puts 20 = .ok (.return_, 1) := by decide +kernel
theorem dX12_isOpen_0 : decode cX12_isOpen 0 = .ok (.iload_n 0, 1) := by decide +kernel
theorem dX12_isOpen_1 : decode cX12_isOpen 1 = .ok (.bipush 14, 2) := by decide +kernel
theorem dX12_isOpen_3 : decode cX12_isOpen 3 = .ok (.if_icmp .lt 7, 3) := by decide +kernel
theorem dX12_isOpen_6 : decode cX12_isOpen 6 = .ok (.iconst 1, 1) := by decide +kernel
theorem dX12_isOpen_7 : decode cX12_isOpen 7 = .ok (.goto 4, 3) := by decide +kernel
theorem dX12_isOpen_10 : decode cX12_isOpen 10 = .ok (.iconst 0, 1) := by decide +kernel
theorem dX12_isOpen_11 : decode cX12_isOpen 11 = .ok (.ireturn, 1) := by decide +kernel
theorem dX12_strength_0 : decode cX12_strength 0 = .ok (.iload_n 0, 1) := by decide +kernel
theorem dX12_strength_1 : decode cX12_strength 1 = .ok (.iconst 5, 1) := by decide +kernel
theorem dX12_strength_2 : decode cX12_strength 2 = .ok (.if_icmp .ne 7, 3) := by decide +kernel
theorem dX12_strength_5 : decode cX12_strength 5 = .ok (.iconst 1, 1) := by decide +kernel
theorem dX12_strength_6 : decode cX12_strength 6 = .ok (.goto 55, 3) := by decide +kernel
theorem dX12_strength_9 : decode cX12_strength 9 = .ok (.iload_n 0, 1) := by decide +kernel
theorem dX12_strength_10 : decode cX12_strength 10 = .ok (.iconst 4, 1) := by decide +kernel
theorem dX12_strength_11 : decode cX12_strength 11 = .ok (.if_icmp .ne 7, 3) := by decide +kernel
theorem dX12_strength_14 : decode cX12_strength 14 = .ok (.iconst 2, 1) := by decide +kernel
theorem dX12_strength_15 : decode cX12_strength 15 = .ok (.goto 46, 3) := by decide +kernel
theorem dX12_strength_18 : decode cX12_strength 18 = .ok (.iload_n 0, 1) := by decide +kernel
theorem dX12_strength_19 : decode cX12_strength 19 = .ok (.iconst 3, 1) := by decide +kernel
theorem dX12_strength_20 : decode cX12_strength 20 = .ok (.if_icmp .ne 7, 3) := by decide +kernel
theorem dX12_strength_23 : decode cX12_strength 23 = .ok (.iconst 3, 1) := by decide +kernel
theorem dX12_strength_24 : decode cX12_strength 24 = .ok (.goto 37, 3) := by decide +kernel
theorem dX12_strength_27 : decode cX12_strength 27 = .ok (.iload_n 0, 1) := by decide +kernel
theorem dX12_strength_28 : decode cX12_strength 28 = .ok (.bipush 6, 2) := by decide +kernel
theorem dX12_strength_30 : decode cX12_strength 30 = .ok (.if_icmp .eq 9, 3) := by decide +kernel
theorem dX12_strength_33 : decode cX12_strength 33 = .ok (.iload_n 0, 1) := by decide +kernel
theorem dX12_strength_34 : decode cX12_strength 34 = .ok (.bipush 7, 2) := by decide +kernel
theorem dX12_strength_36 : decode cX12_strength 36 = .ok (.if_icmp .ne 7, 3) := by decide +kernel
theorem dX12_strength_39 : decode cX12_strength 39 = .ok (.iconst 4, 1) := by decide +kernel
theorem dX12_strength_40 : decode cX12_strength 40 = .ok (.goto 21, 3) := by decide +kernel
theorem dX12_strength_43 : decode cX12_strength 43 = .ok (.iload_n 0, 1) := by decide +kernel
theorem dX12_strength_44 : decode cX12_strength 44 = .ok (.bipush 8, 2) := by decide +kernel
theorem dX12_strength_46 : decode cX12_strength 46 = .ok (.if_icmp .eq 9, 3) := by decide +kernel
theorem dX12_strength_49 : decode cX12_strength 49 = .ok (.iload_n 0, 1) := by decide +kernel
theorem dX12_strength_50 : decode cX12_strength 50 = .ok (.bipush 9, 2) := by decide +kernel
theorem dX12_strength_52 : decode cX12_strength 52 = .ok (.if_icmp .ne 7, 3) := by decide +kernel
theorem dX12_strength_55 : decode cX12_strength 55 = .ok (.iconst 5, 1) := by decide +kernel
theorem dX12_strength_56 : decode cX12_strength 56 = .ok (.goto 5, 3) := by decide +kernel
theorem dX12_strength_59 : decode cX12_strength 59 = .ok (.bipush 6, 2) := by decide +kernel
theorem dX12_strength_61 : decode cX12_strength 61 = .ok (.ireturn, 1) := by decide +kernel
theorem dX12_drops_0 : decode cX12_drops 0 = .ok (.aload_n 0, 1) := by decide +kernel
theorem dX12_drops_1 : decode cX12_drops 1 = .ok (.getfield 189, 3) := by decide +kernel
theorem dX12_drops_4 : decode cX12_drops 4 = .ok (.ifCond .le 64, 3) := by decide +kernel
theorem dX12_drops_7 : decode cX12_drops 7 = .ok (.aload_n 0, 1) := by decide +kernel
theorem dX12_drops_8 : decode cX12_drops 8 = .ok (.getfield 41, 3) := by decide +kernel
theorem dX12_drops_11 : decode cX12_drops 11 = .ok (.aload_n 0, 1) := by decide +kernel
theorem dX12_drops_12 : decode cX12_drops 12 = .ok (.getfield 189, 3) := by decide +kernel
theorem dX12_drops_15 : decode cX12_drops 15 = .ok (.iconst 1, 1) := by decide +kernel
theorem dX12_drops_16 : decode cX12_drops 16 = .ok (.isub, 1) := by decide +kernel
theorem dX12_drops_17 : decode cX12_drops 17 = .ok (.iaload, 1) := by decide +kernel
theorem dX12_drops_18 : decode cX12_drops 18 = .ok (.invokestatic 192, 3) := by decide +kernel
theorem dX12_drops_21 : decode cX12_drops 21 = .ok (.ifCond .ne 47, 3) := by decide +kernel
theorem dX12_drops_24 : decode cX12_drops 24 = .ok (.aload_n 0, 1) := by decide +kernel
theorem dX12_drops_25 : decode cX12_drops 25 = .ok (.getfield 41, 3) := by decide +kernel
theorem dX12_drops_28 : decode cX12_drops 28 = .ok (.aload_n 0, 1) := by decide +kernel
theorem dX12_drops_29 : decode cX12_drops 29 = .ok (.getfield 189, 3) := by decide +kernel
theorem dX12_drops_32 : decode cX12_drops 32 = .ok (.iconst 1, 1) := by decide +kernel
theorem dX12_drops_33 : decode cX12_drops 33 = .ok (.isub, 1) := by decide +kernel
theorem dX12_drops_34 : decode cX12_drops 34 = .ok (.iaload, 1) := by decide +kernel
theorem dX12_drops_35 : decode cX12_drops 35 = .ok (.invokestatic 195, 3) := by decide +kernel
theorem dX12_drops_38 : decode cX12_drops 38 = .ok (.iload_n 1, 1) := by decide +kernel
theorem dX12_drops_39 : decode cX12_drops 39 = .ok (.if_icmp .lt 29, 3) := by decide +kernel
theorem dX12_drops_42 : decode cX12_drops 42 = .ok (.aload_n 0, 1) := by decide +kernel
theorem dX12_drops_43 : decode cX12_drops 43 = .ok (.dup, 1) := by decide +kernel
theorem dX12_drops_44 : decode cX12_drops 44 = .ok (.getfield 189, 3) := by decide +kernel
theorem dX12_drops_47 : decode cX12_drops 47 = .ok (.iconst 1, 1) := by decide +kernel
theorem dX12_drops_48 : decode cX12_drops 48 = .ok (.isub, 1) := by decide +kernel
theorem dX12_drops_49 : decode cX12_drops 49 = .ok (.putfield 189, 3) := by decide +kernel
theorem dX12_drops_52 : decode cX12_drops 52 = .ok (.aload_n 0, 1) := by decide +kernel
theorem dX12_drops_53 : decode cX12_drops 53 = .ok (.aload_n 0, 1) := by decide +kernel
theorem dX12_drops_54 : decode cX12_drops 54 = .ok (.getfield 41, 3) := by decide +kernel
theorem dX12_drops_57 : decode cX12_drops 57 = .ok (.aload_n 0, 1) := by decide +kernel
theorem dX12_drops_58 : decode cX12_drops 58 = .ok (.getfield 189, 3) := by decide +kernel
theorem dX12_drops_61 : decode cX12_drops 61 = .ok (.iaload, 1) := by decide +kernel
theorem dX12_drops_62 : decode cX12_drops 62 = .ok (.invokevirtual 198, 3) := by decide +kernel
theorem dX12_drops_65 : decode cX12_drops 65 = .ok (.goto (-65), 3) := by decide +kernel
theorem dX12_drops_68 : decode cX12_drops 68 = .ok (.return_, 1) := by decide +kernel
theorem dX12_waitsFor_0 : decode cX12_waitsFor 0 = .ok (.aload_n 0, 1) := by decide +kernel
theorem dX12_waitsFor_1 : decode cX12_waitsFor 1 = .ok (.getfield 41, 3) := by decide +kernel
theorem dX12_waitsFor_4 : decode cX12_waitsFor 4 = .ok (.aload_n 0, 1) := by decide +kernel
theorem dX12_waitsFor_5 : decode cX12_waitsFor 5 = .ok (.getfield 189, 3) := by decide +kernel
theorem dX12_waitsFor_8 : decode cX12_waitsFor 8 = .ok (.iload_n 1, 1) := by decide +kernel
theorem dX12_waitsFor_9 : decode cX12_waitsFor 9 = .ok (.iastore, 1) := by decide +kernel
theorem dX12_waitsFor_10 : decode cX12_waitsFor 10 = .ok (.aload_n 0, 1) := by decide +kernel
theorem dX12_waitsFor_11 : decode cX12_waitsFor 11 = .ok (.dup, 1) := by decide +kernel
theorem dX12_waitsFor_12 : decode cX12_waitsFor 12 = .ok (.getfield 189, 3) := by decide +kernel
theorem dX12_waitsFor_15 : decode cX12_waitsFor 15 = .ok (.iconst 1, 1) := by decide +kernel
theorem dX12_waitsFor_16 : decode cX12_waitsFor 16 = .ok (.iadd, 1) := by decide +kernel
theorem dX12_waitsFor_17 : decode cX12_waitsFor 17 = .ok (.putfield 189, 3) := by decide +kernel
theorem dX12_waitsFor_20 : decode cX12_waitsFor 20 = .ok (.return_, 1) := by decide +kernel
theorem dX12_part_0 : decode cX12_part 0 = .ok (.aload_n 0, 1) := by decide +kernel
theorem dX12_part_1 : decode cX12_part 1 = .ok (.invokevirtual 173, 3) := by decide +kernel
theorem dX12_part_4 : decode cX12_part 4 = .ok (.ifCond .ne 4, 3) := by decide +kernel
theorem dX12_part_7 : decode cX12_part 7 = .ok (.return_, 1) := by decide +kernel
theorem dX12_part_8 : decode cX12_part 8 = .ok (.aload_n 0, 1) := by decide +kernel
theorem dX12_part_9 : decode cX12_part 9 = .ok (.getfield 147, 3) := by decide +kernel
theorem dX12_part_12 : decode cX12_part 12 = .ok (.iconst 2, 1) := by decide +kernel
theorem dX12_part_13 : decode cX12_part 13 = .ok (.if_icmp .ne 32, 3) := by decide +kernel
theorem dX12_part_16 : decode cX12_part 16 = .ok (.aload_n 0, 1) := by decide +kernel
theorem dX12_part_17 : decode cX12_part 17 = .ok (.getfield 157, 3) := by decide +kernel
theorem dX12_part_20 : decode cX12_part 20 = .ok (.iconst 4, 1) := by decide +kernel
theorem dX12_part_21 : decode cX12_part 21 = .ok (.if_icmp .le 8, 3) := by decide +kernel
theorem dX12_part_24 : decode cX12_part 24 = .ok (.aload_n 0, 1) := by decide +kernel
theorem dX12_part_25 : decode cX12_part 25 = .ok (.iconst 2, 1) := by decide +kernel
theorem dX12_part_26 : decode cX12_part 26 = .ok (.invokevirtual 180, 3) := by decide +kernel
theorem dX12_part_29 : decode cX12_part 29 = .ok (.aload_n 0, 1) := by decide +kernel
theorem dX12_part_30 : decode cX12_part 30 = .ok (.iconst 1, 1) := by decide +kernel
theorem dX12_part_31 : decode cX12_part 31 = .ok (.invokevirtual 198, 3) := by decide +kernel
theorem dX12_part_34 : decode cX12_part 34 = .ok (.aload_n 0, 1) := by decide +kernel
theorem dX12_part_35 : decode cX12_part 35 = .ok (.aload_n 0, 1) := by decide +kernel
theorem dX12_part_36 : decode cX12_part 36 = .ok (.getfield 141, 3) := by decide +kernel
theorem dX12_part_39 : decode cX12_part 39 = .ok (.invokevirtual 198, 3) := by decide +kernel
theorem dX12_part_42 : decode cX12_part 42 = .ok (.goto 48, 3) := by decide +kernel
theorem dX12_part_45 : decode cX12_part 45 = .ok (.aload_n 0, 1) := by decide +kernel
theorem dX12_part_46 : decode cX12_part 46 = .ok (.getfield 147, 3) := by decide +kernel
theorem dX12_part_49 : decode cX12_part 49 = .ok (.iconst 1, 1) := by decide +kernel
theorem dX12_part_50 : decode cX12_part 50 = .ok (.if_icmp .ne 35, 3) := by decide +kernel
theorem dX12_part_53 : decode cX12_part 53 = .ok (.aload_n 0, 1) := by decide +kernel
theorem dX12_part_54 : decode cX12_part 54 = .ok (.invokevirtual 201, 3) := by decide +kernel
theorem dX12_part_57 : decode cX12_part 57 = .ok (.istore_n 1, 1) := by decide +kernel
theorem dX12_part_58 : decode cX12_part 58 = .ok (.iload_n 1, 1) := by decide +kernel
theorem dX12_part_59 : decode cX12_part 59 = .ok (.ifCond .lt 8, 3) := by decide +kernel
theorem dX12_part_62 : decode cX12_part 62 = .ok (.iload_n 1, 1) := by decide +kernel
theorem dX12_part_63 : decode cX12_part 63 = .ok (.iconst 5, 1) := by decide +kernel
theorem dX12_part_64 : decode cX12_part 64 = .ok (.if_icmp .le 8, 3) := by decide +kernel
theorem dX12_part_67 : decode cX12_part 67 = .ok (.aload_n 0, 1) := by decide +kernel
theorem dX12_part_68 : decode cX12_part 68 = .ok (.iconst 3, 1) := by decide +kernel
theorem dX12_part_69 : decode cX12_part 69 = .ok (.invokevirtual 180, 3) := by decide +kernel
theorem dX12_part_72 : decode cX12_part 72 = .ok (.aload_n 0, 1) := by decide +kernel
theorem dX12_part_73 : decode cX12_part 73 = .ok (.iconst 2, 1) := by decide +kernel
theorem dX12_part_74 : decode cX12_part 74 = .ok (.invokevirtual 198, 3) := by decide +kernel
theorem dX12_part_77 : decode cX12_part 77 = .ok (.aload_n 0, 1) := by decide +kernel
theorem dX12_part_78 : decode cX12_part 78 = .ok (.iload_n 1, 1) := by decide +kernel
theorem dX12_part_79 : decode cX12_part 79 = .ok (.invokevirtual 198, 3) := by decide +kernel
theorem dX12_part_82 : decode cX12_part 82 = .ok (.goto 8, 3) := by decide +kernel
theorem dX12_part_85 : decode cX12_part 85 = .ok (.aload_n 0, 1) := by decide +kernel
theorem dX12_part_86 : decode cX12_part 86 = .ok (.iconst 1, 1) := by decide +kernel
theorem dX12_part_87 : decode cX12_part 87 = .ok (.invokevirtual 180, 3) := by decide +kernel
theorem dX12_part_90 : decode cX12_part 90 = .ok (.aload_n 0, 1) := by decide +kernel
theorem dX12_part_91 : decode cX12_part 91 = .ok (.invokevirtual 173, 3) := by decide +kernel
theorem dX12_part_94 : decode cX12_part 94 = .ok (.ifCond .eq 7, 3) := by decide +kernel
theorem dX12_part_97 : decode cX12_part 97 = .ok (.aload_n 0, 1) := by decide +kernel
theorem dX12_part_98 : decode cX12_part 98 = .ok (.invokevirtual 177, 3) := by decide +kernel
theorem dX12_part_101 : decode cX12_part 101 = .ok (.return_, 1) := by decide +kernel
theorem dX12_deeper_0 : decode cX12_deeper 0 = .ok (.aload_n 0, 1) := by decide +kernel
theorem dX12_deeper_1 : decode cX12_deeper 1 = .ok (.getfield 205, 3) := by decide +kernel
theorem dX12_deeper_4 : decode cX12_deeper 4 = .ok (.bipush 6, 2) := by decide +kernel
theorem dX12_deeper_6 : decode cX12_deeper 6 = .ok (.if_icmp .ge 24, 3) := by decide +kernel
theorem dX12_deeper_9 : decode cX12_deeper 9 = .ok (.aload_n 0, 1) := by decide +kernel
theorem dX12_deeper_10 : decode cX12_deeper 10 = .ok (.dup, 1) := by decide +kernel
theorem dX12_deeper_11 : decode cX12_deeper 11 = .ok (.getfield 205, 3) := by decide +kernel
theorem dX12_deeper_14 : decode cX12_deeper 14 = .ok (.iconst 1, 1) := by decide +kernel
theorem dX12_deeper_15 : decode cX12_deeper 15 = .ok (.iadd, 1) := by decide +kernel
theorem dX12_deeper_16 : decode cX12_deeper 16 = .ok (.putfield 205, 3) := by decide +kernel
theorem dX12_deeper_19 : decode cX12_deeper 19 = .ok (.aload_n 0, 1) := by decide +kernel
theorem dX12_deeper_20 : decode cX12_deeper 20 = .ok (.getfield 44, 3) := by decide +kernel
theorem dX12_deeper_23 : decode cX12_deeper 23 = .ok (.aload_n 0, 1) := by decide +kernel
theorem dX12_deeper_24 : decode cX12_deeper 24 = .ok (.getfield 205, 3) := by decide +kernel
theorem dX12_deeper_27 : decode cX12_deeper 27 = .ok (.iconst 0, 1) := by decide +kernel
theorem dX12_deeper_28 : decode cX12_deeper 28 = .ok (.bastore, 1) := by decide +kernel
theorem dX12_deeper_29 : decode cX12_deeper 29 = .ok (.return_, 1) := by decide +kernel
theorem dX12_deeper_30 : decode cX12_deeper 30 = .ok (.aload_n 0, 1) := by decide +kernel
theorem dX12_deeper_31 : decode cX12_deeper 31 = .ok (.aload_n 0, 1) := by decide +kernel
theorem dX12_deeper_32 : decode cX12_deeper 32 = .ok (.getfield 147, 3) := by decide +kernel
theorem dX12_deeper_35 : decode cX12_deeper 35 = .ok (.iconst 2, 1) := by decide +kernel
theorem dX12_deeper_36 : decode cX12_deeper 36 = .ok (.if_icmp .eq 20, 3) := by decide +kernel
theorem dX12_deeper_39 : decode cX12_deeper 39 = .ok (.aload_n 0, 1) := by decide +kernel
theorem dX12_deeper_40 : decode cX12_deeper 40 = .ok (.getfield 147, 3) := by decide +kernel
theorem dX12_deeper_43 : decode cX12_deeper 43 = .ok (.iconst 1, 1) := by decide +kernel
theorem dX12_deeper_44 : decode cX12_deeper 44 = .ok (.if_icmp .eq 12, 3) := by decide +kernel
theorem dX12_deeper_47 : decode cX12_deeper 47 = .ok (.aload_n 0, 1) := by decide +kernel
theorem dX12_deeper_48 : decode cX12_deeper 48 = .ok (.bipush 40, 2) := by decide +kernel
theorem dX12_deeper_50 : decode cX12_deeper 50 = .ok (.invokevirtual 208, 3) := by decide +kernel
theorem dX12_deeper_53 : decode cX12_deeper 53 = .ok (.ifCond .eq 7, 3) := by decide +kernel
theorem dX12_deeper_56 : decode cX12_deeper 56 = .ok (.iconst 2, 1) := by decide +kernel
theorem dX12_deeper_57 : decode cX12_deeper 57 = .ok (.goto 4, 3) := by decide +kernel
theorem dX12_deeper_60 : decode cX12_deeper 60 = .ok (.iconst 1, 1) := by decide +kernel
theorem dX12_deeper_61 : decode cX12_deeper 61 = .ok (.invokevirtual 180, 3) := by decide +kernel
theorem dX12_deeper_64 : decode cX12_deeper 64 = .ok (.return_, 1) := by decide +kernel
theorem dX12_operand_0 : decode cX12_operand 0 = .ok (.iload_n 1, 1) := by decide +kernel
theorem dX12_operand_1 : decode cX12_operand 1 = .ok (.istore_n 2, 1) := by decide +kernel
theorem dX12_operand_2 : decode cX12_operand 2 = .ok (.iconst 1, 1) := by decide +kernel
theorem dX12_operand_3 : decode cX12_operand 3 = .ok (.istore_n 3, 1) := by decide +kernel
theorem dX12_operand_4 : decode cX12_operand 4 = .ok (.iload_n 3, 1) := by decide +kernel
theorem dX12_operand_5 : decode cX12_operand 5 = .ok (.ifCond .eq 115, 3) := by decide +kernel
theorem dX12_operand_8 : decode cX12_operand 8 = .ok (.aload_n 0, 1) := by decide +kernel
theorem dX12_operand_9 : decode cX12_operand 9 = .ok (.invokevirtual 173, 3) := by decide +kernel
theorem dX12_operand_12 : decode cX12_operand 12 = .ok (.ifCond .eq 108, 3) := by decide +kernel
theorem dX12_operand_15 : decode cX12_operand 15 = .ok (.iconst 0, 1) := by decide +kernel
theorem dX12_operand_16 : decode cX12_operand 16 = .ok (.istore 4, 2) := by decide +kernel
theorem dX12_operand_18 : decode cX12_operand 18 = .ok (.aload_n 0, 1) := by decide +kernel
theorem dX12_operand_19 : decode cX12_operand 19 = .ok (.invokevirtual 173, 3) := by decide +kernel
theorem dX12_operand_22 : decode cX12_operand 22 = .ok (.ifCond .eq 53, 3) := by decide +kernel
theorem dX12_operand_25 : decode cX12_operand 25 = .ok (.iload_n 2, 1) := by decide +kernel
theorem dX12_operand_26 : decode cX12_operand 26 = .ok (.ifCond .eq 49, 3) := by decide +kernel
theorem dX12_operand_29 : decode cX12_operand 29 = .ok (.aload_n 0, 1) := by decide +kernel
theorem dX12_operand_30 : decode cX12_operand 30 = .ok (.invokevirtual 201, 3) := by decide +kernel
theorem dX12_operand_33 : decode cX12_operand 33 = .ok (.bipush 11, 2) := by decide +kernel
theorem dX12_operand_35 : decode cX12_operand 35 = .ok (.if_icmp .ne 40, 3) := by decide +kernel
theorem dX12_operand_38 : decode cX12_operand 38 = .ok (.iload 4, 2) := by decide +kernel
theorem dX12_operand_40 : decode cX12_operand 40 = .ok (.bipush 6, 2) := by decide +kernel
theorem dX12_operand_42 : decode cX12_operand 42 = .ok (.if_icmp .ne 8, 3) := by decide +kernel
theorem dX12_operand_45 : decode cX12_operand 45 = .ok (.aload_n 0, 1) := by decide +kernel
theorem dX12_operand_46 : decode cX12_operand 46 = .ok (.iconst 2, 1) := by decide +kernel
theorem dX12_operand_47 : decode cX12_operand 47 = .ok (.invokevirtual 180, 3) := by decide +kernel
theorem dX12_operand_50 : decode cX12_operand 50 = .ok (.iinc 4 1, 3) := by decide +kernel
theorem dX12_operand_53 : decode cX12_operand 53 = .ok (.aload_n 0, 1) := by decide +kernel
theorem dX12_operand_54 : decode cX12_operand 54 = .ok (.invokevirtual 173, 3) := by decide +kernel
theorem dX12_operand_57 : decode cX12_operand 57 = .ok (.ifCond .ne 6, 3) := by decide +kernel
theorem dX12_operand_60 : decode cX12_operand 60 = .ok (.goto (-42), 3) := by decide +kernel
theorem dX12_operand_63 : decode cX12_operand 63 = .ok (.aload_n 0, 1) := by decide +kernel
theorem dX12_operand_64 : decode cX12_operand 64 = .ok (.iconst 3, 1) := by decide +kernel
theorem dX12_operand_65 : decode cX12_operand 65 = .ok (.invokevirtual 211, 3) := by decide +kernel
theorem dX12_operand_68 : decode cX12_operand 68 = .ok (.aload_n 0, 1) := by decide +kernel
theorem dX12_operand_69 : decode cX12_operand 69 = .ok (.invokevirtual 177, 3) := by decide +kernel
theorem dX12_operand_72 : decode cX12_operand 72 = .ok (.goto (-54), 3) := by decide +kernel
theorem dX12_operand_75 : decode cX12_operand 75 = .ok (.aload_n 0, 1) := by decide +kernel
theorem dX12_operand_76 : decode cX12_operand 76 = .ok (.invokevirtual 173, 3) := by decide +kernel
theorem dX12_operand_79 : decode cX12_operand 79 = .ok (.ifCond .eq 16, 3) := by decide +kernel
theorem dX12_operand_82 : decode cX12_operand 82 = .ok (.aload_n 0, 1) := by decide +kernel
theorem dX12_operand_83 : decode cX12_operand 83 = .ok (.bipush 40, 2) := by decide +kernel
theorem dX12_operand_85 : decode cX12_operand 85 = .ok (.invokevirtual 208, 3) := by decide +kernel
theorem dX12_operand_88 : decode cX12_operand 88 = .ok (.ifCond .eq 7, 3) := by decide +kernel
theorem dX12_operand_91 : decode cX12_operand 91 = .ok (.iconst 1, 1) := by decide +kernel
theorem dX12_operand_92 : decode cX12_operand 92 = .ok (.goto 4, 3) := by decide +kernel
theorem dX12_operand_95 : decode cX12_operand 95 = .ok (.iconst 0, 1) := by decide +kernel
theorem dX12_operand_96 : decode cX12_operand 96 = .ok (.istore_n 3, 1) := by decide +kernel
theorem dX12_operand_97 : decode cX12_operand 97 = .ok (.iload_n 3, 1) := by decide +kernel
theorem dX12_operand_98 : decode cX12_operand 98 = .ok (.ifCond .eq 19, 3) := by decide +kernel
theorem dX12_operand_101 : decode cX12_operand 101 = .ok (.aload_n 0, 1) := by decide +kernel
theorem dX12_operand_102 : decode cX12_operand 102 = .ok (.bipush 14, 2) := by decide +kernel
theorem dX12_operand_104 : decode cX12_operand 104 = .ok (.invokevirtual 211, 3) := by decide +kernel
theorem dX12_operand_107 : decode cX12_operand 107 = .ok (.aload_n 0, 1) := by decide +kernel
theorem dX12_operand_108 : decode cX12_operand 108 = .ok (.invokevirtual 177, 3) := by decide +kernel
theorem dX12_operand_111 : decode cX12_operand 111 = .ok (.aload_n 0, 1) := by decide +kernel
theorem dX12_operand_112 : decode cX12_operand 112 = .ok (.invokevirtual 214, 3) := by decide +kernel
theorem dX12_operand_115 : decode cX12_operand 115 = .ok (.iconst 1, 1) := by decide +kernel
theorem dX12_operand_116 : decode cX12_operand 116 = .ok (.istore_n 2, 1) := by decide +kernel
theorem dX12_operand_117 : decode cX12_operand 117 = .ok (.goto (-113), 3) := by decide +kernel
theorem dX12_operand_120 : decode cX12_operand 120 = .ok (.aload_n 0, 1) := by decide +kernel
theorem dX12_operand_121 : decode cX12_operand 121 = .ok (.invokevirtual 217, 3) := by decide +kernel
theorem dX12_operand_124 : decode cX12_operand 124 = .ok (.return_, 1) := by decide +kernel
theorem dX12_isOpened_0 : decode cX12_isOpened 0 = .ok (.aload_n 0, 1) := by decide +kernel
theorem dX12_isOpened_1 : decode cX12_isOpened 1 = .ok (.getfield 189, 3) := by decide +kernel
theorem dX12_isOpened_4 : decode cX12_isOpened 4 = .ok (.iconst 1, 1) := by decide +kernel
theorem dX12_isOpened_5 : decode cX12_isOpened 5 = .ok (.isub, 1) := by decide +kernel
theorem dX12_isOpened_6 : decode cX12_isOpened 6 = .ok (.istore_n 1, 1) := by decide +kernel
theorem dX12_isOpened_7 : decode cX12_isOpened 7 = .ok (.iload_n 1, 1) := by decide +kernel
theorem dX12_isOpened_8 : decode cX12_isOpened 8 = .ok (.ifCond .lt 21, 3) := by decide +kernel
theorem dX12_isOpened_11 : decode cX12_isOpened 11 = .ok (.aload_n 0, 1) := by decide +kernel
theorem dX12_isOpened_12 : decode cX12_isOpened 12 = .ok (.getfield 41, 3) := by decide +kernel
theorem dX12_isOpened_15 : decode cX12_isOpened 15 = .ok (.iload_n 1, 1) := by decide +kernel
theorem dX12_isOpened_16 : decode cX12_isOpened 16 = .ok (.iaload, 1) := by decide +kernel
theorem dX12_isOpened_17 : decode cX12_isOpened 17 = .ok (.invokestatic 192, 3) := by decide +kernel
theorem dX12_isOpened_20 : decode cX12_isOpened 20 = .ok (.ifCond .ne 9, 3) := by decide +kernel
theorem dX12_isOpened_23 : decode cX12_isOpened 23 = .ok (.iinc 1 (-1), 3) := by decide +kernel
theorem dX12_isOpened_26 : decode cX12_isOpened 26 = .ok (.goto (-19), 3) := by decide +kernel
theorem dX12_isOpened_29 : decode cX12_isOpened 29 = .ok (.iload_n 1, 1) := by decide +kernel
theorem dX12_isOpened_30 : decode cX12_isOpened 30 = .ok (.ifCond .lt 7, 3) := by decide +kernel
theorem dX12_isOpened_33 : decode cX12_isOpened 33 = .ok (.iconst 1, 1) := by decide +kernel
theorem dX12_isOpened_34 : decode cX12_isOpened 34 = .ok (.goto 4, 3) := by decide +kernel
theorem dX12_isOpened_37 : decode cX12_isOpened 37 = .ok (.iconst 0, 1) := by decide +kernel
theorem dX12_isOpened_38 : decode cX12_isOpened 38 = .ok (.ireturn, 1) := by decide +kernel
theorem dX12_closes_0 : decode cX12_closes 0 = .ok (.aload_n 0, 1) := by decide +kernel
theorem dX12_closes_1 : decode cX12_closes 1 = .ok (.iconst 0, 1) := by decide +kernel
theorem dX12_closes_2 : decode cX12_closes 2 = .ok (.invokevirtual 220, 3) := by decide +kernel
theorem dX12_closes_5 : decode cX12_closes 5 = .ok (.aload_n 0, 1) := by decide +kernel
theorem dX12_closes_6 : decode cX12_closes 6 = .ok (.dup, 1) := by decide +kernel
theorem dX12_closes_7 : decode cX12_closes 7 = .ok (.getfield 189, 3) := by decide +kernel
theorem dX12_closes_10 : decode cX12_closes 10 = .ok (.iconst 1, 1) := by decide +kernel
theorem dX12_closes_11 : decode cX12_closes 11 = .ok (.isub, 1) := by decide +kernel
theorem dX12_closes_12 : decode cX12_closes 12 = .ok (.putfield 189, 3) := by decide +kernel
theorem dX12_closes_15 : decode cX12_closes 15 = .ok (.aload_n 0, 1) := by decide +kernel
theorem dX12_closes_16 : decode cX12_closes 16 = .ok (.dup, 1) := by decide +kernel
theorem dX12_closes_17 : decode cX12_closes 17 = .ok (.getfield 205, 3) := by decide +kernel
theorem dX12_closes_20 : decode cX12_closes 20 = .ok (.iconst 1, 1) := by decide +kernel
theorem dX12_closes_21 : decode cX12_closes 21 = .ok (.isub, 1) := by decide +kernel
theorem dX12_closes_22 : decode cX12_closes 22 = .ok (.putfield 205, 3) := by decide +kernel
theorem dX12_closes_25 : decode cX12_closes 25 = .ok (.aload_n 0, 1) := by decide +kernel
theorem dX12_closes_26 : decode cX12_closes 26 = .ok (.invokevirtual 177, 3) := by decide +kernel
theorem dX12_closes_29 : decode cX12_closes 29 = .ok (.return_, 1) := by decide +kernel
theorem dX12_expression_0 : decode cX12_expression 0 = .ok (.aload_n 0, 1) := by decide +kernel
theorem dX12_expression_1 : decode cX12_expression 1 = .ok (.invokevirtual 173, 3) := by decide +kernel
theorem dX12_expression_4 : decode cX12_expression 4 = .ok (.ifCond .ne 4, 3) := by decide +kernel
theorem dX12_expression_7 : decode cX12_expression 7 = .ok (.return_, 1) := by decide +kernel
theorem dX12_expression_8 : decode cX12_expression 8 = .ok (.aload_n 0, 1) := by decide +kernel
theorem dX12_expression_9 : decode cX12_expression 9 = .ok (.iconst 0, 1) := by decide +kernel
theorem dX12_expression_10 : decode cX12_expression 10 = .ok (.putfield 189, 3) := by decide +kernel
theorem dX12_expression_13 : decode cX12_expression 13 = .ok (.aload_n 0, 1) := by decide +kernel
theorem dX12_expression_14 : decode cX12_expression 14 = .ok (.iconst 0, 1) := by decide +kernel
theorem dX12_expression_15 : decode cX12_expression 15 = .ok (.putfield 205, 3) := by decide +kernel
theorem dX12_expression_18 : decode cX12_expression 18 = .ok (.aload_n 0, 1) := by decide +kernel
theorem dX12_expression_19 : decode cX12_expression 19 = .ok (.invokevirtual 214, 3) := by decide +kernel
theorem dX12_expression_22 : decode cX12_expression 22 = .ok (.aload_n 0, 1) := by decide +kernel
theorem dX12_expression_23 : decode cX12_expression 23 = .ok (.iconst 1, 1) := by decide +kernel
theorem dX12_expression_24 : decode cX12_expression 24 = .ok (.invokevirtual 223, 3) := by decide +kernel
theorem dX12_expression_27 : decode cX12_expression 27 = .ok (.iconst 1, 1) := by decide +kernel
theorem dX12_expression_28 : decode cX12_expression 28 = .ok (.istore_n 1, 1) := by decide +kernel
theorem dX12_expression_29 : decode cX12_expression 29 = .ok (.iload_n 1, 1) := by decide +kernel
theorem dX12_expression_30 : decode cX12_expression 30 = .ok (.ifCond .eq 295, 3) := by decide +kernel
theorem dX12_expression_33 : decode cX12_expression 33 = .ok (.aload_n 0, 1) := by decide +kernel
theorem dX12_expression_34 : decode cX12_expression 34 = .ok (.invokevirtual 173, 3) := by decide +kernel
theorem dX12_expression_37 : decode cX12_expression 37 = .ok (.ifCond .eq 288, 3) := by decide +kernel
theorem dX12_expression_40 : decode cX12_expression 40 = .ok (.aload_n 0, 1) := by decide +kernel
theorem dX12_expression_41 : decode cX12_expression 41 = .ok (.invokevirtual 201, 3) := by decide +kernel
theorem dX12_expression_44 : decode cX12_expression 44 = .ok (.istore_n 2, 1) := by decide +kernel
theorem dX12_expression_45 : decode cX12_expression 45 = .ok (.iload_n 2, 1) := by decide +kernel
theorem dX12_expression_46 : decode cX12_expression 46 = .ok (.bipush 9, 2) := by decide +kernel
theorem dX12_expression_48 : decode cX12_expression 48 = .ok (.if_icmp .eq 9, 3) := by decide +kernel
theorem dX12_expression_51 : decode cX12_expression 51 = .ok (.iload_n 2, 1) := by decide +kernel
theorem dX12_expression_52 : decode cX12_expression 52 = .ok (.bipush 10, 2) := by decide +kernel
theorem dX12_expression_54 : decode cX12_expression 54 = .ok (.if_icmp .ne 55, 3) := by decide +kernel
theorem dX12_expression_57 : decode cX12_expression 57 = .ok (.aload_n 0, 1) := by decide +kernel
theorem dX12_expression_58 : decode cX12_expression 58 = .ok (.iload_n 2, 1) := by decide +kernel
theorem dX12_expression_59 : decode cX12_expression 59 = .ok (.bipush 9, 2) := by decide +kernel
theorem dX12_expression_61 : decode cX12_expression 61 = .ok (.if_icmp .ne 7, 3) := by decide +kernel
theorem dX12_expression_64 : decode cX12_expression 64 = .ok (.iconst 2, 1) := by decide +kernel
theorem dX12_expression_65 : decode cX12_expression 65 = .ok (.goto 4, 3) := by decide +kernel
theorem dX12_expression_68 : decode cX12_expression 68 = .ok (.iconst 1, 1) := by decide +kernel
theorem dX12_expression_69 : decode cX12_expression 69 = .ok (.invokevirtual 220, 3) := by decide +kernel
theorem dX12_expression_72 : decode cX12_expression 72 = .ok (.aload_n 0, 1) := by decide +kernel
theorem dX12_expression_73 : decode cX12_expression 73 = .ok (.iload_n 2, 1) := by decide +kernel
theorem dX12_expression_74 : decode cX12_expression 74 = .ok (.bipush 9, 2) := by decide +kernel
theorem dX12_expression_76 : decode cX12_expression 76 = .ok (.if_icmp .ne 7, 3) := by decide +kernel
theorem dX12_expression_79 : decode cX12_expression 79 = .ok (.iconst 4, 1) := by decide +kernel
theorem dX12_expression_80 : decode cX12_expression 80 = .ok (.goto 4, 3) := by decide +kernel
theorem dX12_expression_83 : decode cX12_expression 83 = .ok (.iconst 5, 1) := by decide +kernel
theorem dX12_expression_84 : decode cX12_expression 84 = .ok (.invokevirtual 211, 3) := by decide +kernel
theorem dX12_expression_87 : decode cX12_expression 87 = .ok (.aload_n 0, 1) := by decide +kernel
theorem dX12_expression_88 : decode cX12_expression 88 = .ok (.getfield 44, 3) := by decide +kernel
theorem dX12_expression_91 : decode cX12_expression 91 = .ok (.aload_n 0, 1) := by decide +kernel
theorem dX12_expression_92 : decode cX12_expression 92 = .ok (.getfield 205, 3) := by decide +kernel
theorem dX12_expression_95 : decode cX12_expression 95 = .ok (.iconst 0, 1) := by decide +kernel
theorem dX12_expression_96 : decode cX12_expression 96 = .ok (.bastore, 1) := by decide +kernel
theorem dX12_expression_97 : decode cX12_expression 97 = .ok (.aload_n 0, 1) := by decide +kernel
theorem dX12_expression_98 : decode cX12_expression 98 = .ok (.invokevirtual 177, 3) := by decide +kernel
theorem dX12_expression_101 : decode cX12_expression 101 = .ok (.aload_n 0, 1) := by decide +kernel
theorem dX12_expression_102 : decode cX12_expression 102 = .ok (.iconst 1, 1) := by decide +kernel
theorem dX12_expression_103 : decode cX12_expression 103 = .ok (.invokevirtual 223, 3) := by decide +kernel
theorem dX12_expression_106 : decode cX12_expression 106 = .ok (.goto 216, 3) := by decide +kernel
theorem dX12_expression_109 : decode cX12_expression 109 = .ok (.aload_n 0, 1) := by decide +kernel
theorem dX12_expression_110 : decode cX12_expression 110 = .ok (.bipush 60, 2) := by decide +kernel
theorem dX12_expression_112 : decode cX12_expression 112 = .ok (.invokevirtual 208, 3) := by decide +kernel
theorem dX12_expression_115 : decode cX12_expression 115 = .ok (.ifCond .ne 12, 3) := by decide +kernel
theorem dX12_expression_118 : decode cX12_expression 118 = .ok (.aload_n 0, 1) := by decide +kernel
theorem dX12_expression_119 : decode cX12_expression 119 = .ok (.bipush 61, 2) := by decide +kernel
theorem dX12_expression_121 : decode cX12_expression 121 = .ok (.invokevirtual 208, 3) := by decide +kernel
theorem dX12_expression_124 : decode cX12_expression 124 = .ok (.ifCond .eq 62, 3) := by decide +kernel
theorem dX12_expression_127 : decode cX12_expression 127 = .ok (.aload_n 0, 1) := by decide +kernel
theorem dX12_expression_128 : decode cX12_expression 128 = .ok (.getfield 44, 3) := by decide +kernel
theorem dX12_expression_131 : decode cX12_expression 131 = .ok (.aload_n 0, 1) := by decide +kernel
theorem dX12_expression_132 : decode cX12_expression 132 = .ok (.getfield 205, 3) := by decide +kernel
theorem dX12_expression_135 : decode cX12_expression 135 = .ok (.baload, 1) := by decide +kernel
theorem dX12_expression_136 : decode cX12_expression 136 = .ok (.ifCond .ne 50, 3) := by decide +kernel
theorem dX12_expression_139 : decode cX12_expression 139 = .ok (.aload_n 0, 1) := by decide +kernel
theorem dX12_expression_140 : decode cX12_expression 140 = .ok (.iconst 4, 1) := by decide +kernel
theorem dX12_expression_141 : decode cX12_expression 141 = .ok (.invokevirtual 220, 3) := by decide +kernel
theorem dX12_expression_144 : decode cX12_expression 144 = .ok (.aload_n 0, 1) := by decide +kernel
theorem dX12_expression_145 : decode cX12_expression 145 = .ok (.aload_n 0, 1) := by decide +kernel
theorem dX12_expression_146 : decode cX12_expression 146 = .ok (.bipush 60, 2) := by decide +kernel
theorem dX12_expression_148 : decode cX12_expression 148 = .ok (.invokevirtual 208, 3) := by decide +kernel
theorem dX12_expression_151 : decode cX12_expression 151 = .ok (.ifCond .eq 8, 3) := by decide +kernel
theorem dX12_expression_154 : decode cX12_expression 154 = .ok (.bipush 6, 2) := by decide +kernel
theorem dX12_expression_156 : decode cX12_expression 156 = .ok (.goto 5, 3) := by decide +kernel
theorem dX12_expression_159 : decode cX12_expression 159 = .ok (.bipush 7, 2) := by decide +kernel
theorem dX12_expression_161 : decode cX12_expression 161 = .ok (.invokevirtual 211, 3) := by decide +kernel
theorem dX12_expression_164 : decode cX12_expression 164 = .ok (.aload_n 0, 1) := by decide +kernel
theorem dX12_expression_165 : decode cX12_expression 165 = .ok (.getfield 44, 3) := by decide +kernel
theorem dX12_expression_168 : decode cX12_expression 168 = .ok (.aload_n 0, 1) := by decide +kernel
theorem dX12_expression_169 : decode cX12_expression 169 = .ok (.getfield 205, 3) := by decide +kernel
theorem dX12_expression_172 : decode cX12_expression 172 = .ok (.iconst 1, 1) := by decide +kernel
theorem dX12_expression_173 : decode cX12_expression 173 = .ok (.bastore, 1) := by decide +kernel
theorem dX12_expression_174 : decode cX12_expression 174 = .ok (.aload_n 0, 1) := by decide +kernel
theorem dX12_expression_175 : decode cX12_expression 175 = .ok (.invokevirtual 177, 3) := by decide +kernel
theorem dX12_expression_178 : decode cX12_expression 178 = .ok (.aload_n 0, 1) := by decide +kernel
theorem dX12_expression_179 : decode cX12_expression 179 = .ok (.iconst 0, 1) := by decide +kernel
theorem dX12_expression_180 : decode cX12_expression 180 = .ok (.invokevirtual 223, 3) := by decide +kernel
theorem dX12_expression_183 : decode cX12_expression 183 = .ok (.goto 139, 3) := by decide +kernel
theorem dX12_expression_186 : decode cX12_expression 186 = .ok (.aload_n 0, 1) := by decide +kernel
theorem dX12_expression_187 : decode cX12_expression 187 = .ok (.bipush 43, 2) := by decide +kernel
theorem dX12_expression_189 : decode cX12_expression 189 = .ok (.invokevirtual 208, 3) := by decide +kernel
theorem dX12_expression_192 : decode cX12_expression 192 = .ok (.ifCond .ne 12, 3) := by decide +kernel
theorem dX12_expression_195 : decode cX12_expression 195 = .ok (.aload_n 0, 1) := by decide +kernel
theorem dX12_expression_196 : decode cX12_expression 196 = .ok (.bipush 45, 2) := by decide +kernel
theorem dX12_expression_198 : decode cX12_expression 198 = .ok (.invokevirtual 208, 3) := by decide +kernel
theorem dX12_expression_201 : decode cX12_expression 201 = .ok (.ifCond .eq 40, 3) := by decide +kernel
theorem dX12_expression_204 : decode cX12_expression 204 = .ok (.aload_n 0, 1) := by decide +kernel
theorem dX12_expression_205 : decode cX12_expression 205 = .ok (.iconst 5, 1) := by decide +kernel
theorem dX12_expression_206 : decode cX12_expression 206 = .ok (.invokevirtual 220, 3) := by decide +kernel
theorem dX12_expression_209 : decode cX12_expression 209 = .ok (.aload_n 0, 1) := by decide +kernel
theorem dX12_expression_210 : decode cX12_expression 210 = .ok (.aload_n 0, 1) := by decide +kernel
theorem dX12_expression_211 : decode cX12_expression 211 = .ok (.bipush 43, 2) := by decide +kernel
theorem dX12_expression_213 : decode cX12_expression 213 = .ok (.invokevirtual 208, 3) := by decide +kernel
theorem dX12_expression_216 : decode cX12_expression 216 = .ok (.ifCond .eq 8, 3) := by decide +kernel
theorem dX12_expression_219 : decode cX12_expression 219 = .ok (.bipush 8, 2) := by decide +kernel
theorem dX12_expression_221 : decode cX12_expression 221 = .ok (.goto 5, 3) := by decide +kernel
theorem dX12_expression_224 : decode cX12_expression 224 = .ok (.bipush 9, 2) := by decide +kernel
theorem dX12_expression_226 : decode cX12_expression 226 = .ok (.invokevirtual 211, 3) := by decide +kernel
theorem dX12_expression_229 : decode cX12_expression 229 = .ok (.aload_n 0, 1) := by decide +kernel
theorem dX12_expression_230 : decode cX12_expression 230 = .ok (.invokevirtual 177, 3) := by decide +kernel
theorem dX12_expression_233 : decode cX12_expression 233 = .ok (.aload_n 0, 1) := by decide +kernel
theorem dX12_expression_234 : decode cX12_expression 234 = .ok (.iconst 0, 1) := by decide +kernel
theorem dX12_expression_235 : decode cX12_expression 235 = .ok (.invokevirtual 223, 3) := by decide +kernel
theorem dX12_expression_238 : decode cX12_expression 238 = .ok (.goto 84, 3) := by decide +kernel
theorem dX12_expression_241 : decode cX12_expression 241 = .ok (.aload_n 0, 1) := by decide +kernel
theorem dX12_expression_242 : decode cX12_expression 242 = .ok (.bipush 42, 2) := by decide +kernel
theorem dX12_expression_244 : decode cX12_expression 244 = .ok (.invokevirtual 208, 3) := by decide +kernel
theorem dX12_expression_247 : decode cX12_expression 247 = .ok (.ifCond .ne 12, 3) := by decide +kernel
theorem dX12_expression_250 : decode cX12_expression 250 = .ok (.aload_n 0, 1) := by decide +kernel
theorem dX12_expression_251 : decode cX12_expression 251 = .ok (.bipush 47, 2) := by decide +kernel
theorem dX12_expression_253 : decode cX12_expression 253 = .ok (.invokevirtual 208, 3) := by decide +kernel
theorem dX12_expression_256 : decode cX12_expression 256 = .ok (.ifCond .eq 41, 3) := by decide +kernel
theorem dX12_expression_259 : decode cX12_expression 259 = .ok (.aload_n 0, 1) := by decide +kernel
theorem dX12_expression_260 : decode cX12_expression 260 = .ok (.bipush 6, 2) := by decide +kernel
theorem dX12_expression_262 : decode cX12_expression 262 = .ok (.invokevirtual 220, 3) := by decide +kernel
theorem dX12_expression_265 : decode cX12_expression 265 = .ok (.aload_n 0, 1) := by decide +kernel
theorem dX12_expression_266 : decode cX12_expression 266 = .ok (.aload_n 0, 1) := by decide +kernel
theorem dX12_expression_267 : decode cX12_expression 267 = .ok (.bipush 42, 2) := by decide +kernel
theorem dX12_expression_269 : decode cX12_expression 269 = .ok (.invokevirtual 208, 3) := by decide +kernel
theorem dX12_expression_272 : decode cX12_expression 272 = .ok (.ifCond .eq 8, 3) := by decide +kernel
theorem dX12_expression_275 : decode cX12_expression 275 = .ok (.bipush 10, 2) := by decide +kernel
theorem dX12_expression_277 : decode cX12_expression 277 = .ok (.goto 5, 3) := by decide +kernel
theorem dX12_expression_280 : decode cX12_expression 280 = .ok (.bipush 11, 2) := by decide +kernel
theorem dX12_expression_282 : decode cX12_expression 282 = .ok (.invokevirtual 211, 3) := by decide +kernel
theorem dX12_expression_285 : decode cX12_expression 285 = .ok (.aload_n 0, 1) := by decide +kernel
theorem dX12_expression_286 : decode cX12_expression 286 = .ok (.invokevirtual 177, 3) := by decide +kernel
theorem dX12_expression_289 : decode cX12_expression 289 = .ok (.aload_n 0, 1) := by decide +kernel
theorem dX12_expression_290 : decode cX12_expression 290 = .ok (.iconst 0, 1) := by decide +kernel
theorem dX12_expression_291 : decode cX12_expression 291 = .ok (.invokevirtual 223, 3) := by decide +kernel
theorem dX12_expression_294 : decode cX12_expression 294 = .ok (.goto 28, 3) := by decide +kernel
theorem dX12_expression_297 : decode cX12_expression 297 = .ok (.aload_n 0, 1) := by decide +kernel
theorem dX12_expression_298 : decode cX12_expression 298 = .ok (.bipush 41, 2) := by decide +kernel
theorem dX12_expression_300 : decode cX12_expression 300 = .ok (.invokevirtual 208, 3) := by decide +kernel
theorem dX12_expression_303 : decode cX12_expression 303 = .ok (.ifCond .eq 17, 3) := by decide +kernel
theorem dX12_expression_306 : decode cX12_expression 306 = .ok (.aload_n 0, 1) := by decide +kernel
theorem dX12_expression_307 : decode cX12_expression 307 = .ok (.invokevirtual 227, 3) := by decide +kernel
theorem dX12_expression_310 : decode cX12_expression 310 = .ok (.ifCond .eq 10, 3) := by decide +kernel
theorem dX12_expression_313 : decode cX12_expression 313 = .ok (.aload_n 0, 1) := by decide +kernel
theorem dX12_expression_314 : decode cX12_expression 314 = .ok (.invokevirtual 230, 3) := by decide +kernel
theorem dX12_expression_317 : decode cX12_expression 317 = .ok (.goto 5, 3) := by decide +kernel
theorem dX12_expression_320 : decode cX12_expression 320 = .ok (.iconst 0, 1) := by decide +kernel
theorem dX12_expression_321 : decode cX12_expression 321 = .ok (.istore_n 1, 1) := by decide +kernel
theorem dX12_expression_322 : decode cX12_expression 322 = .ok (.goto (-293), 3) := by decide +kernel
theorem dX12_expression_325 : decode cX12_expression 325 = .ok (.aload_n 0, 1) := by decide +kernel
theorem dX12_expression_326 : decode cX12_expression 326 = .ok (.invokevirtual 173, 3) := by decide +kernel
theorem dX12_expression_329 : decode cX12_expression 329 = .ok (.ifCond .eq 16, 3) := by decide +kernel
theorem dX12_expression_332 : decode cX12_expression 332 = .ok (.aload_n 0, 1) := by decide +kernel
theorem dX12_expression_333 : decode cX12_expression 333 = .ok (.getfield 205, 3) := by decide +kernel
theorem dX12_expression_336 : decode cX12_expression 336 = .ok (.iconst 1, 1) := by decide +kernel
theorem dX12_expression_337 : decode cX12_expression 337 = .ok (.if_icmp .le 8, 3) := by decide +kernel
theorem dX12_expression_340 : decode cX12_expression 340 = .ok (.aload_n 0, 1) := by decide +kernel
theorem dX12_expression_341 : decode cX12_expression 341 = .ok (.iconst 1, 1) := by decide +kernel
theorem dX12_expression_342 : decode cX12_expression 342 = .ok (.invokevirtual 180, 3) := by decide +kernel
theorem dX12_expression_345 : decode cX12_expression 345 = .ok (.aload_n 0, 1) := by decide +kernel
theorem dX12_expression_346 : decode cX12_expression 346 = .ok (.iconst 0, 1) := by decide +kernel
theorem dX12_expression_347 : decode cX12_expression 347 = .ok (.invokevirtual 220, 3) := by decide +kernel
theorem dX12_expression_350 : decode cX12_expression 350 = .ok (.aload_n 0, 1) := by decide +kernel
theorem dX12_expression_351 : decode cX12_expression 351 = .ok (.iconst 0, 1) := by decide +kernel
theorem dX12_expression_352 : decode cX12_expression 352 = .ok (.invokevirtual 198, 3) := by decide +kernel
theorem dX12_expression_355 : decode cX12_expression 355 = .ok (.return_, 1) := by decide +kernel
theorem dX12_begins_0 : decode cX12_begins 0 = .ok (.iload_n 1, 1) := by decide +kernel
theorem dX12_begins_1 : decode cX12_begins 1 = .ok (.ifCond .eq 8, 3) := by decide +kernel
theorem dX12_begins_4 : decode cX12_begins 4 = .ok (.aload_n 0, 1) := by decide +kernel
theorem dX12_begins_5 : decode cX12_begins 5 = .ok (.iconst 2, 1) := by decide +kernel
theorem dX12_begins_6 : decode cX12_begins 6 = .ok (.invokevirtual 180, 3) := by decide +kernel
theorem dX12_begins_9 : decode cX12_begins 9 = .ok (.iload_n 2, 1) := by decide +kernel
theorem dX12_begins_10 : decode cX12_begins 10 = .ok (.ifCond .eq 8, 3) := by decide +kernel
theorem dX12_begins_13 : decode cX12_begins 13 = .ok (.aload_n 0, 1) := by decide +kernel
theorem dX12_begins_14 : decode cX12_begins 14 = .ok (.iconst 5, 1) := by decide +kernel
theorem dX12_begins_15 : decode cX12_begins 15 = .ok (.invokevirtual 180, 3) := by decide +kernel
theorem dX12_begins_18 : decode cX12_begins 18 = .ok (.aload_n 0, 1) := by decide +kernel
theorem dX12_begins_19 : decode cX12_begins 19 = .ok (.invokevirtual 173, 3) := by decide +kernel
theorem dX12_begins_22 : decode cX12_begins 22 = .ok (.ifCond .ne 5, 3) := by decide +kernel
theorem dX12_begins_25 : decode cX12_begins 25 = .ok (.iconst 0, 1) := by decide +kernel
theorem dX12_begins_26 : decode cX12_begins 26 = .ok (.ireturn, 1) := by decide +kernel
theorem dX12_begins_27 : decode cX12_begins 27 = .ok (.aload_n 0, 1) := by decide +kernel
theorem dX12_begins_28 : decode cX12_begins 28 = .ok (.invokevirtual 177, 3) := by decide +kernel
theorem dX12_begins_31 : decode cX12_begins 31 = .ok (.iconst 1, 1) := by decide +kernel
theorem dX12_begins_32 : decode cX12_begins 32 = .ok (.ireturn, 1) := by decide +kernel
theorem dX12_readsCup_0 : decode cX12_readsCup 0 = .ok (.aload_n 0, 1) := by decide +kernel
theorem dX12_readsCup_1 : decode cX12_readsCup 1 = .ok (.getfield 183, 3) := by decide +kernel
theorem dX12_readsCup_4 : decode cX12_readsCup 4 = .ok (.istore_n 1, 1) := by decide +kernel
theorem dX12_readsCup_5 : decode cX12_readsCup 5 = .ok (.aload_n 0, 1) := by decide +kernel
theorem dX12_readsCup_6 : decode cX12_readsCup 6 = .ok (.getfield 35, 3) := by decide +kernel
theorem dX12_readsCup_9 : decode cX12_readsCup 9 = .ok (.iconst 1, 1) := by decide +kernel
theorem dX12_readsCup_10 : decode cX12_readsCup 10 = .ok (.iload_n 1, 1) := by decide +kernel
theorem dX12_readsCup_11 : decode cX12_readsCup 11 = .ok (.iadd, 1) := by decide +kernel
theorem dX12_readsCup_12 : decode cX12_readsCup 12 = .ok (.aload_n 0, 1) := by decide +kernel
theorem dX12_readsCup_13 : decode cX12_readsCup 13 = .ok (.iconst 1, 1) := by decide +kernel
theorem dX12_readsCup_14 : decode cX12_readsCup 14 = .ok (.bipush 30, 2) := by decide +kernel
theorem dX12_readsCup_16 : decode cX12_readsCup 16 = .ok (.invokevirtual 233, 3) := by decide +kernel
theorem dX12_readsCup_19 : decode cX12_readsCup 19 = .ok (.iastore, 1) := by decide +kernel
theorem dX12_readsCup_20 : decode cX12_readsCup 20 = .ok (.aload_n 0, 1) := by decide +kernel
theorem dX12_readsCup_21 : decode cX12_readsCup 21 = .ok (.getfield 35, 3) := by decide +kernel
theorem dX12_readsCup_24 : decode cX12_readsCup 24 = .ok (.bipush 10, 2) := by decide +kernel
theorem dX12_readsCup_26 : decode cX12_readsCup 26 = .ok (.iload_n 1, 1) := by decide +kernel
theorem dX12_readsCup_27 : decode cX12_readsCup 27 = .ok (.iadd, 1) := by decide +kernel
theorem dX12_readsCup_28 : decode cX12_readsCup 28 = .ok (.aload_n 0, 1) := by decide +kernel
theorem dX12_readsCup_29 : decode cX12_readsCup 29 = .ok (.iconst 0, 1) := by decide +kernel
theorem dX12_readsCup_30 : decode cX12_readsCup 30 = .ok (.aload_n 0, 1) := by decide +kernel
theorem dX12_readsCup_31 : decode cX12_readsCup 31 = .ok (.getfield 35, 3) := by decide +kernel
theorem dX12_readsCup_34 : decode cX12_readsCup 34 = .ok (.iconst 1, 1) := by decide +kernel
theorem dX12_readsCup_35 : decode cX12_readsCup 35 = .ok (.iload_n 1, 1) := by decide +kernel
theorem dX12_readsCup_36 : decode cX12_readsCup 36 = .ok (.iadd, 1) := by decide +kernel
theorem dX12_readsCup_37 : decode cX12_readsCup 37 = .ok (.iaload, 1) := by decide +kernel
theorem dX12_readsCup_38 : decode cX12_readsCup 38 = .ok (.iconst 1, 1) := by decide +kernel
theorem dX12_readsCup_39 : decode cX12_readsCup 39 = .ok (.isub, 1) := by decide +kernel
theorem dX12_readsCup_40 : decode cX12_readsCup 40 = .ok (.invokevirtual 233, 3) := by decide +kernel
theorem dX12_readsCup_43 : decode cX12_readsCup 43 = .ok (.iastore, 1) := by decide +kernel
theorem dX12_readsCup_44 : decode cX12_readsCup 44 = .ok (.aload_n 0, 1) := by decide +kernel
theorem dX12_readsCup_45 : decode cX12_readsCup 45 = .ok (.getfield 32, 3) := by decide +kernel
theorem dX12_readsCup_48 : decode cX12_readsCup 48 = .ok (.iload_n 1, 1) := by decide +kernel
theorem dX12_readsCup_49 : decode cX12_readsCup 49 = .ok (.aload_n 0, 1) := by decide +kernel
theorem dX12_readsCup_50 : decode cX12_readsCup 50 = .ok (.iconst 0, 1) := by decide +kernel
theorem dX12_readsCup_51 : decode cX12_readsCup 51 = .ok (.bipush 20, 2) := by decide +kernel
theorem dX12_readsCup_53 : decode cX12_readsCup 53 = .ok (.invokevirtual 233, 3) := by decide +kernel
theorem dX12_readsCup_56 : decode cX12_readsCup 56 = .ok (.iastore, 1) := by decide +kernel
theorem dX12_readsCup_57 : decode cX12_readsCup 57 = .ok (.aload_n 0, 1) := by decide +kernel
theorem dX12_readsCup_58 : decode cX12_readsCup 58 = .ok (.getfield 35, 3) := by decide +kernel
theorem dX12_readsCup_61 : decode cX12_readsCup 61 = .ok (.bipush 19, 2) := by decide +kernel
theorem dX12_readsCup_63 : decode cX12_readsCup 63 = .ok (.iload_n 1, 1) := by decide +kernel
theorem dX12_readsCup_64 : decode cX12_readsCup 64 = .ok (.iadd, 1) := by decide +kernel
theorem dX12_readsCup_65 : decode cX12_readsCup 65 = .ok (.iconst (-1), 1) := by decide +kernel
theorem dX12_readsCup_66 : decode cX12_readsCup 66 = .ok (.iastore, 1) := by decide +kernel
theorem dX12_readsCup_67 : decode cX12_readsCup 67 = .ok (.aload_n 0, 1) := by decide +kernel
theorem dX12_readsCup_68 : decode cX12_readsCup 68 = .ok (.getfield 35, 3) := by decide +kernel
theorem dX12_readsCup_71 : decode cX12_readsCup 71 = .ok (.bipush 28, 2) := by decide +kernel
theorem dX12_readsCup_73 : decode cX12_readsCup 73 = .ok (.iload_n 1, 1) := by decide +kernel
theorem dX12_readsCup_74 : decode cX12_readsCup 74 = .ok (.iadd, 1) := by decide +kernel
theorem dX12_readsCup_75 : decode cX12_readsCup 75 = .ok (.iconst (-1), 1) := by decide +kernel
theorem dX12_readsCup_76 : decode cX12_readsCup 76 = .ok (.iastore, 1) := by decide +kernel
theorem dX12_readsCup_77 : decode cX12_readsCup 77 = .ok (.aload_n 0, 1) := by decide +kernel
theorem dX12_readsCup_78 : decode cX12_readsCup 78 = .ok (.getfield 48, 3) := by decide +kernel
theorem dX12_readsCup_81 : decode cX12_readsCup 81 = .ok (.iload_n 1, 1) := by decide +kernel
theorem dX12_readsCup_82 : decode cX12_readsCup 82 = .ok (.iconst 0, 1) := by decide +kernel
theorem dX12_readsCup_83 : decode cX12_readsCup 83 = .ok (.bastore, 1) := by decide +kernel
theorem dX12_readsCup_84 : decode cX12_readsCup 84 = .ok (.aload_n 0, 1) := by decide +kernel
theorem dX12_readsCup_85 : decode cX12_readsCup 85 = .ok (.invokevirtual 173, 3) := by decide +kernel
theorem dX12_readsCup_88 : decode cX12_readsCup 88 = .ok (.ifCond .eq 13, 3) := by decide +kernel
theorem dX12_readsCup_91 : decode cX12_readsCup 91 = .ok (.aload_n 0, 1) := by decide +kernel
theorem dX12_readsCup_92 : decode cX12_readsCup 92 = .ok (.dup, 1) := by decide +kernel
theorem dX12_readsCup_93 : decode cX12_readsCup 93 = .ok (.getfield 183, 3) := by decide +kernel
theorem dX12_readsCup_96 : decode cX12_readsCup 96 = .ok (.iconst 1, 1) := by decide +kernel
theorem dX12_readsCup_97 : decode cX12_readsCup 97 = .ok (.iadd, 1) := by decide +kernel
theorem dX12_readsCup_98 : decode cX12_readsCup 98 = .ok (.putfield 183, 3) := by decide +kernel
theorem dX12_readsCup_101 : decode cX12_readsCup 101 = .ok (.return_, 1) := by decide +kernel
theorem dX12_readsPipe_0 : decode cX12_readsPipe 0 = .ok (.aload_n 0, 1) := by decide +kernel
theorem dX12_readsPipe_1 : decode cX12_readsPipe 1 = .ok (.invokevirtual 237, 3) := by decide +kernel
theorem dX12_readsPipe_4 : decode cX12_readsPipe 4 = .ok (.ifCond .ne 4, 3) := by decide +kernel
theorem dX12_readsPipe_7 : decode cX12_readsPipe 7 = .ok (.return_, 1) := by decide +kernel
theorem dX12_readsPipe_8 : decode cX12_readsPipe 8 = .ok (.aload_n 0, 1) := by decide +kernel
theorem dX12_readsPipe_9 : decode cX12_readsPipe 9 = .ok (.getfield 141, 3) := by decide +kernel
theorem dX12_readsPipe_12 : decode cX12_readsPipe 12 = .ok (.istore_n 1, 1) := by decide +kernel
theorem dX12_readsPipe_13 : decode cX12_readsPipe 13 = .ok (.aload_n 0, 1) := by decide +kernel
theorem dX12_readsPipe_14 : decode cX12_readsPipe 14 = .ok (.getfield 48, 3) := by decide +kernel
theorem dX12_readsPipe_17 : decode cX12_readsPipe 17 = .ok (.iload_n 1, 1) := by decide +kernel
theorem dX12_readsPipe_18 : decode cX12_readsPipe 18 = .ok (.baload, 1) := by decide +kernel
theorem dX12_readsPipe_19 : decode cX12_readsPipe 19 = .ok (.ifCond .eq 8, 3) := by decide +kernel
theorem dX12_readsPipe_22 : decode cX12_readsPipe 22 = .ok (.aload_n 0, 1) := by decide +kernel
theorem dX12_readsPipe_23 : decode cX12_readsPipe 23 = .ok (.iconst 4, 1) := by decide +kernel
theorem dX12_readsPipe_24 : decode cX12_readsPipe 24 = .ok (.invokevirtual 180, 3) := by decide +kernel
theorem dX12_readsPipe_27 : decode cX12_readsPipe 27 = .ok (.aload_n 0, 1) := by decide +kernel
theorem dX12_readsPipe_28 : decode cX12_readsPipe 28 = .ok (.invokevirtual 173, 3) := by decide +kernel
theorem dX12_readsPipe_31 : decode cX12_readsPipe 31 = .ok (.ifCond .ne 4, 3) := by decide +kernel
theorem dX12_readsPipe_34 : decode cX12_readsPipe 34 = .ok (.return_, 1) := by decide +kernel
theorem dX12_readsPipe_35 : decode cX12_readsPipe 35 = .ok (.aload_n 0, 1) := by decide +kernel
theorem dX12_readsPipe_36 : decode cX12_readsPipe 36 = .ok (.invokevirtual 177, 3) := by decide +kernel
theorem dX12_readsPipe_39 : decode cX12_readsPipe 39 = .ok (.aload_n 0, 1) := by decide +kernel
theorem dX12_readsPipe_40 : decode cX12_readsPipe 40 = .ok (.invokevirtual 237, 3) := by decide +kernel
theorem dX12_readsPipe_43 : decode cX12_readsPipe 43 = .ok (.ifCond .ne 4, 3) := by decide +kernel
theorem dX12_readsPipe_46 : decode cX12_readsPipe 46 = .ok (.return_, 1) := by decide +kernel
theorem dX12_readsPipe_47 : decode cX12_readsPipe 47 = .ok (.aload_n 0, 1) := by decide +kernel
theorem dX12_readsPipe_48 : decode cX12_readsPipe 48 = .ok (.getfield 141, 3) := by decide +kernel
theorem dX12_readsPipe_51 : decode cX12_readsPipe 51 = .ok (.iload_n 1, 1) := by decide +kernel
theorem dX12_readsPipe_52 : decode cX12_readsPipe 52 = .ok (.if_icmp .gt 8, 3) := by decide +kernel
theorem dX12_readsPipe_55 : decode cX12_readsPipe 55 = .ok (.aload_n 0, 1) := by decide +kernel
theorem dX12_readsPipe_56 : decode cX12_readsPipe 56 = .ok (.iconst 4, 1) := by decide +kernel
theorem dX12_readsPipe_57 : decode cX12_readsPipe 57 = .ok (.invokevirtual 180, 3) := by decide +kernel
theorem dX12_readsPipe_60 : decode cX12_readsPipe 60 = .ok (.aload_n 0, 1) := by decide +kernel
theorem dX12_readsPipe_61 : decode cX12_readsPipe 61 = .ok (.invokevirtual 173, 3) := by decide +kernel
theorem dX12_readsPipe_64 : decode cX12_readsPipe 64 = .ok (.ifCond .ne 4, 3) := by decide +kernel
theorem dX12_readsPipe_67 : decode cX12_readsPipe 67 = .ok (.return_, 1) := by decide +kernel
theorem dX12_readsPipe_68 : decode cX12_readsPipe 68 = .ok (.aload_n 0, 1) := by decide +kernel
theorem dX12_readsPipe_69 : decode cX12_readsPipe 69 = .ok (.getfield 48, 3) := by decide +kernel
theorem dX12_readsPipe_72 : decode cX12_readsPipe 72 = .ok (.iload_n 1, 1) := by decide +kernel
theorem dX12_readsPipe_73 : decode cX12_readsPipe 73 = .ok (.iconst 1, 1) := by decide +kernel
theorem dX12_readsPipe_74 : decode cX12_readsPipe 74 = .ok (.bastore, 1) := by decide +kernel
theorem dX12_readsPipe_75 : decode cX12_readsPipe 75 = .ok (.aload_n 0, 1) := by decide +kernel
theorem dX12_readsPipe_76 : decode cX12_readsPipe 76 = .ok (.getfield 35, 3) := by decide +kernel
theorem dX12_readsPipe_79 : decode cX12_readsPipe 79 = .ok (.bipush 19, 2) := by decide +kernel
theorem dX12_readsPipe_81 : decode cX12_readsPipe 81 = .ok (.iload_n 1, 1) := by decide +kernel
theorem dX12_readsPipe_82 : decode cX12_readsPipe 82 = .ok (.iadd, 1) := by decide +kernel
theorem dX12_readsPipe_83 : decode cX12_readsPipe 83 = .ok (.aload_n 0, 1) := by decide +kernel
theorem dX12_readsPipe_84 : decode cX12_readsPipe 84 = .ok (.getfield 141, 3) := by decide +kernel
theorem dX12_readsPipe_87 : decode cX12_readsPipe 87 = .ok (.iastore, 1) := by decide +kernel
theorem dX12_readsPipe_88 : decode cX12_readsPipe 88 = .ok (.aload_n 0, 1) := by decide +kernel
theorem dX12_readsPipe_89 : decode cX12_readsPipe 89 = .ok (.invokevirtual 177, 3) := by decide +kernel
theorem dX12_readsPipe_92 : decode cX12_readsPipe 92 = .ok (.aload_n 0, 1) := by decide +kernel
theorem dX12_readsPipe_93 : decode cX12_readsPipe 93 = .ok (.getfield 147, 3) := by decide +kernel
theorem dX12_readsPipe_96 : decode cX12_readsPipe 96 = .ok (.iconst 2, 1) := by decide +kernel
theorem dX12_readsPipe_97 : decode cX12_readsPipe 97 = .ok (.if_icmp .ne 10, 3) := by decide +kernel
theorem dX12_readsPipe_100 : decode cX12_readsPipe 100 = .ok (.aload_n 0, 1) := by decide +kernel
theorem dX12_readsPipe_101 : decode cX12_readsPipe 101 = .ok (.invokevirtual 237, 3) := by decide +kernel
theorem dX12_readsPipe_104 : decode cX12_readsPipe 104 = .ok (.ifCond .ne 4, 3) := by decide +kernel
theorem dX12_readsPipe_107 : decode cX12_readsPipe 107 = .ok (.return_, 1) := by decide +kernel
theorem dX12_readsPipe_108 : decode cX12_readsPipe 108 = .ok (.aload_n 0, 1) := by decide +kernel
theorem dX12_readsPipe_109 : decode cX12_readsPipe 109 = .ok (.getfield 141, 3) := by decide +kernel
theorem dX12_readsPipe_112 : decode cX12_readsPipe 112 = .ok (.iload_n 1, 1) := by decide +kernel
theorem dX12_readsPipe_113 : decode cX12_readsPipe 113 = .ok (.if_icmp .le 19, 3) := by decide +kernel
theorem dX12_readsPipe_116 : decode cX12_readsPipe 116 = .ok (.aload_n 0, 1) := by decide +kernel
theorem dX12_readsPipe_117 : decode cX12_readsPipe 117 = .ok (.getfield 141, 3) := by decide +kernel
theorem dX12_readsPipe_120 : decode cX12_readsPipe 120 = .ok (.aload_n 0, 1) := by decide +kernel
theorem dX12_readsPipe_121 : decode cX12_readsPipe 121 = .ok (.getfield 35, 3) := by decide +kernel
theorem dX12_readsPipe_124 : decode cX12_readsPipe 124 = .ok (.bipush 19, 2) := by decide +kernel
theorem dX12_readsPipe_126 : decode cX12_readsPipe 126 = .ok (.iload_n 1, 1) := by decide +kernel
theorem dX12_readsPipe_127 : decode cX12_readsPipe 127 = .ok (.iadd, 1) := by decide +kernel
theorem dX12_readsPipe_128 : decode cX12_readsPipe 128 = .ok (.iaload, 1) := by decide +kernel
theorem dX12_readsPipe_129 : decode cX12_readsPipe 129 = .ok (.if_icmp .ne 8, 3) := by decide +kernel
theorem dX12_readsPipe_132 : decode cX12_readsPipe 132 = .ok (.aload_n 0, 1) := by decide +kernel
theorem dX12_readsPipe_133 : decode cX12_readsPipe 133 = .ok (.iconst 4, 1) := by decide +kernel
theorem dX12_readsPipe_134 : decode cX12_readsPipe 134 = .ok (.invokevirtual 180, 3) := by decide +kernel
theorem dX12_readsPipe_137 : decode cX12_readsPipe 137 = .ok (.aload_n 0, 1) := by decide +kernel
theorem dX12_readsPipe_138 : decode cX12_readsPipe 138 = .ok (.invokevirtual 173, 3) := by decide +kernel
theorem dX12_readsPipe_141 : decode cX12_readsPipe 141 = .ok (.ifCond .ne 4, 3) := by decide +kernel
theorem dX12_readsPipe_144 : decode cX12_readsPipe 144 = .ok (.return_, 1) := by decide +kernel
theorem dX12_readsPipe_145 : decode cX12_readsPipe 145 = .ok (.aload_n 0, 1) := by decide +kernel
theorem dX12_readsPipe_146 : decode cX12_readsPipe 146 = .ok (.getfield 35, 3) := by decide +kernel
theorem dX12_readsPipe_149 : decode cX12_readsPipe 149 = .ok (.bipush 28, 2) := by decide +kernel
theorem dX12_readsPipe_151 : decode cX12_readsPipe 151 = .ok (.iload_n 1, 1) := by decide +kernel
theorem dX12_readsPipe_152 : decode cX12_readsPipe 152 = .ok (.iadd, 1) := by decide +kernel
theorem dX12_readsPipe_153 : decode cX12_readsPipe 153 = .ok (.aload_n 0, 1) := by decide +kernel
theorem dX12_readsPipe_154 : decode cX12_readsPipe 154 = .ok (.getfield 141, 3) := by decide +kernel
theorem dX12_readsPipe_157 : decode cX12_readsPipe 157 = .ok (.iastore, 1) := by decide +kernel
theorem dX12_readsPipe_158 : decode cX12_readsPipe 158 = .ok (.aload_n 0, 1) := by decide +kernel
theorem dX12_readsPipe_159 : decode cX12_readsPipe 159 = .ok (.invokevirtual 177, 3) := by decide +kernel
theorem dX12_readsPipe_162 : decode cX12_readsPipe 162 = .ok (.return_, 1) := by decide +kernel
theorem dX12_line_0 : decode cX12_line 0 = .ok (.aload_n 0, 1) := by decide +kernel
theorem dX12_line_1 : decode cX12_line 1 = .ok (.invokevirtual 201, 3) := by decide +kernel
theorem dX12_line_4 : decode cX12_line 4 = .ok (.istore_n 1, 1) := by decide +kernel
theorem dX12_line_5 : decode cX12_line 5 = .ok (.iload_n 1, 1) := by decide +kernel
theorem dX12_line_6 : decode cX12_line 6 = .ok (.iconst 5, 1) := by decide +kernel
theorem dX12_line_7 : decode cX12_line 7 = .ok (.if_icmp .ne 32, 3) := by decide +kernel
theorem dX12_line_10 : decode cX12_line 10 = .ok (.aload_n 0, 1) := by decide +kernel
theorem dX12_line_11 : decode cX12_line 11 = .ok (.aload_n 0, 1) := by decide +kernel
theorem dX12_line_12 : decode cX12_line 12 = .ok (.getfield 183, 3) := by decide +kernel
theorem dX12_line_15 : decode cX12_line 15 = .ok (.bipush 9, 2) := by decide +kernel
theorem dX12_line_17 : decode cX12_line 17 = .ok (.if_icmp .ne 7, 3) := by decide +kernel
theorem dX12_line_20 : decode cX12_line 20 = .ok (.iconst 1, 1) := by decide +kernel
theorem dX12_line_21 : decode cX12_line 21 = .ok (.goto 4, 3) := by decide +kernel
theorem dX12_line_24 : decode cX12_line 24 = .ok (.iconst 0, 1) := by decide +kernel
theorem dX12_line_25 : decode cX12_line 25 = .ok (.iconst 0, 1) := by decide +kernel
theorem dX12_line_26 : decode cX12_line 26 = .ok (.invokevirtual 240, 3) := by decide +kernel
theorem dX12_line_29 : decode cX12_line 29 = .ok (.ifCond .eq 121, 3) := by decide +kernel
theorem dX12_line_32 : decode cX12_line 32 = .ok (.aload_n 0, 1) := by decide +kernel
theorem dX12_line_33 : decode cX12_line 33 = .ok (.invokevirtual 244, 3) := by decide +kernel
theorem dX12_line_36 : decode cX12_line 36 = .ok (.goto 114, 3) := by decide +kernel
theorem dX12_line_39 : decode cX12_line 39 = .ok (.iload_n 1, 1) := by decide +kernel
theorem dX12_line_40 : decode cX12_line 40 = .ok (.bipush 6, 2) := by decide +kernel
theorem dX12_line_42 : decode cX12_line 42 = .ok (.if_icmp .ne 19, 3) := by decide +kernel
theorem dX12_line_45 : decode cX12_line 45 = .ok (.aload_n 0, 1) := by decide +kernel
theorem dX12_line_46 : decode cX12_line 46 = .ok (.iconst 0, 1) := by decide +kernel
theorem dX12_line_47 : decode cX12_line 47 = .ok (.iconst 0, 1) := by decide +kernel
theorem dX12_line_48 : decode cX12_line 48 = .ok (.invokevirtual 240, 3) := by decide +kernel
theorem dX12_line_51 : decode cX12_line 51 = .ok (.ifCond .eq 99, 3) := by decide +kernel
theorem dX12_line_54 : decode cX12_line 54 = .ok (.aload_n 0, 1) := by decide +kernel
theorem dX12_line_55 : decode cX12_line 55 = .ok (.invokevirtual 247, 3) := by decide +kernel
theorem dX12_line_58 : decode cX12_line 58 = .ok (.goto 92, 3) := by decide +kernel
theorem dX12_line_61 : decode cX12_line 61 = .ok (.iload_n 1, 1) := by decide +kernel
theorem dX12_line_62 : decode cX12_line 62 = .ok (.bipush 7, 2) := by decide +kernel
theorem dX12_line_64 : decode cX12_line 64 = .ok (.if_icmp .ne 39, 3) := by decide +kernel
theorem dX12_line_67 : decode cX12_line 67 = .ok (.aload_n 0, 1) := by decide +kernel
theorem dX12_line_68 : decode cX12_line 68 = .ok (.iconst 0, 1) := by decide +kernel
theorem dX12_line_69 : decode cX12_line 69 = .ok (.aload_n 0, 1) := by decide +kernel
theorem dX12_line_70 : decode cX12_line 70 = .ok (.getfield 250, 3) := by decide +kernel
theorem dX12_line_73 : decode cX12_line 73 = .ok (.iconst (-1), 1) := by decide +kernel
theorem dX12_line_74 : decode cX12_line 74 = .ok (.if_icmp .eq 7, 3) := by decide +kernel
theorem dX12_line_77 : decode cX12_line 77 = .ok (.iconst 1, 1) := by decide +kernel
theorem dX12_line_78 : decode cX12_line 78 = .ok (.goto 4, 3) := by decide +kernel
theorem dX12_line_81 : decode cX12_line 81 = .ok (.iconst 0, 1) := by decide +kernel
theorem dX12_line_82 : decode cX12_line 82 = .ok (.invokevirtual 240, 3) := by decide +kernel
theorem dX12_line_85 : decode cX12_line 85 = .ok (.ifCond .eq 65, 3) := by decide +kernel
theorem dX12_line_88 : decode cX12_line 88 = .ok (.aload_n 0, 1) := by decide +kernel
theorem dX12_line_89 : decode cX12_line 89 = .ok (.aload_n 0, 1) := by decide +kernel
theorem dX12_line_90 : decode cX12_line 90 = .ok (.getfield 186, 3) := by decide +kernel
theorem dX12_line_93 : decode cX12_line 93 = .ok (.putfield 250, 3) := by decide +kernel
theorem dX12_line_96 : decode cX12_line 96 = .ok (.aload_n 0, 1) := by decide +kernel
theorem dX12_line_97 : decode cX12_line 97 = .ok (.invokevirtual 253, 3) := by decide +kernel
theorem dX12_line_100 : decode cX12_line 100 = .ok (.goto 50, 3) := by decide +kernel
theorem dX12_line_103 : decode cX12_line 103 = .ok (.iload_n 1, 1) := by decide +kernel
theorem dX12_line_104 : decode cX12_line 104 = .ok (.bipush 8, 2) := by decide +kernel
theorem dX12_line_106 : decode cX12_line 106 = .ok (.if_icmp .ne 39, 3) := by decide +kernel
theorem dX12_line_109 : decode cX12_line 109 = .ok (.aload_n 0, 1) := by decide +kernel
theorem dX12_line_110 : decode cX12_line 110 = .ok (.iconst 0, 1) := by decide +kernel
theorem dX12_line_111 : decode cX12_line 111 = .ok (.aload_n 0, 1) := by decide +kernel
theorem dX12_line_112 : decode cX12_line 112 = .ok (.getfield 256, 3) := by decide +kernel
theorem dX12_line_115 : decode cX12_line 115 = .ok (.iconst (-1), 1) := by decide +kernel
theorem dX12_line_116 : decode cX12_line 116 = .ok (.if_icmp .eq 7, 3) := by decide +kernel
theorem dX12_line_119 : decode cX12_line 119 = .ok (.iconst 1, 1) := by decide +kernel
theorem dX12_line_120 : decode cX12_line 120 = .ok (.goto 4, 3) := by decide +kernel
theorem dX12_line_123 : decode cX12_line 123 = .ok (.iconst 0, 1) := by decide +kernel
theorem dX12_line_124 : decode cX12_line 124 = .ok (.invokevirtual 240, 3) := by decide +kernel
theorem dX12_line_127 : decode cX12_line 127 = .ok (.ifCond .eq 23, 3) := by decide +kernel
theorem dX12_line_130 : decode cX12_line 130 = .ok (.aload_n 0, 1) := by decide +kernel
theorem dX12_line_131 : decode cX12_line 131 = .ok (.aload_n 0, 1) := by decide +kernel
theorem dX12_line_132 : decode cX12_line 132 = .ok (.getfield 186, 3) := by decide +kernel
theorem dX12_line_135 : decode cX12_line 135 = .ok (.putfield 256, 3) := by decide +kernel
theorem dX12_line_138 : decode cX12_line 138 = .ok (.aload_n 0, 1) := by decide +kernel
theorem dX12_line_139 : decode cX12_line 139 = .ok (.invokevirtual 253, 3) := by decide +kernel
theorem dX12_line_142 : decode cX12_line 142 = .ok (.goto 8, 3) := by decide +kernel
theorem dX12_line_145 : decode cX12_line 145 = .ok (.aload_n 0, 1) := by decide +kernel
theorem dX12_line_146 : decode cX12_line 146 = .ok (.iconst 1, 1) := by decide +kernel
theorem dX12_line_147 : decode cX12_line 147 = .ok (.invokevirtual 180, 3) := by decide +kernel
theorem dX12_line_150 : decode cX12_line 150 = .ok (.aload_n 0, 1) := by decide +kernel
theorem dX12_line_151 : decode cX12_line 151 = .ok (.aload_n 0, 1) := by decide +kernel
theorem dX12_line_152 : decode cX12_line 152 = .ok (.bipush 59, 2) := by decide +kernel
theorem dX12_line_154 : decode cX12_line 154 = .ok (.invokevirtual 208, 3) := by decide +kernel
theorem dX12_line_157 : decode cX12_line 157 = .ok (.invokevirtual 259, 3) := by decide +kernel
theorem dX12_line_160 : decode cX12_line 160 = .ok (.return_, 1) := by decide +kernel
theorem dX12_cave_0 : decode cX12_cave 0 = .ok (.aload_n 0, 1) := by decide +kernel
theorem dX12_cave_1 : decode cX12_cave 1 = .ok (.iconst 0, 1) := by decide +kernel
theorem dX12_cave_2 : decode cX12_cave 2 = .ok (.putfield 114, 3) := by decide +kernel
theorem dX12_cave_5 : decode cX12_cave 5 = .ok (.aload_n 0, 1) := by decide +kernel
theorem dX12_cave_6 : decode cX12_cave 6 = .ok (.iload_n 1, 1) := by decide +kernel
theorem dX12_cave_7 : decode cX12_cave 7 = .ok (.ifCond .lt 15, 3) := by decide +kernel
theorem dX12_cave_10 : decode cX12_cave 10 = .ok (.iload_n 1, 1) := by decide +kernel
theorem dX12_cave_11 : decode cX12_cave 11 = .ok (.aload_n 0, 1) := by decide +kernel
theorem dX12_cave_12 : decode cX12_cave 12 = .ok (.getfield 117, 3) := by decide +kernel
theorem dX12_cave_15 : decode cX12_cave 15 = .ok (.if_icmp .gt 7, 3) := by decide +kernel
theorem dX12_cave_18 : decode cX12_cave 18 = .ok (.iconst 1, 1) := by decide +kernel
theorem dX12_cave_19 : decode cX12_cave 19 = .ok (.goto 4, 3) := by decide +kernel
theorem dX12_cave_22 : decode cX12_cave 22 = .ok (.iconst 0, 1) := by decide +kernel
theorem dX12_cave_23 : decode cX12_cave 23 = .ok (.iconst 1, 1) := by decide +kernel
theorem dX12_cave_24 : decode cX12_cave 24 = .ok (.invokevirtual 262, 3) := by decide +kernel
theorem dX12_cave_27 : decode cX12_cave 27 = .ok (.ifCond .ne 5, 3) := by decide +kernel
theorem dX12_cave_30 : decode cX12_cave 30 = .ok (.iconst 0, 1) := by decide +kernel
theorem dX12_cave_31 : decode cX12_cave 31 = .ok (.ireturn, 1) := by decide +kernel
theorem dX12_cave_32 : decode cX12_cave 32 = .ok (.aload_n 0, 1) := by decide +kernel
theorem dX12_cave_33 : decode cX12_cave 33 = .ok (.iconst 0, 1) := by decide +kernel
theorem dX12_cave_34 : decode cX12_cave 34 = .ok (.putfield 117, 3) := by decide +kernel
theorem dX12_cave_37 : decode cX12_cave 37 = .ok (.aload_n 0, 1) := by decide +kernel
theorem dX12_cave_38 : decode cX12_cave 38 = .ok (.iconst (-1), 1) := by decide +kernel
theorem dX12_cave_39 : decode cX12_cave 39 = .ok (.putfield 26, 3) := by decide +kernel
theorem dX12_cave_42 : decode cX12_cave 42 = .ok (.aload_n 0, 1) := by decide +kernel
theorem dX12_cave_43 : decode cX12_cave 43 = .ok (.iconst 0, 1) := by decide +kernel
theorem dX12_cave_44 : decode cX12_cave 44 = .ok (.putfield 170, 3) := by decide +kernel
theorem dX12_cave_47 : decode cX12_cave 47 = .ok (.aload_n 0, 1) := by decide +kernel
theorem dX12_cave_48 : decode cX12_cave 48 = .ok (.iload_n 1, 1) := by decide +kernel
theorem dX12_cave_49 : decode cX12_cave 49 = .ok (.putfield 124, 3) := by decide +kernel
theorem dX12_cave_52 : decode cX12_cave 52 = .ok (.aload_n 0, 1) := by decide +kernel
theorem dX12_cave_53 : decode cX12_cave 53 = .ok (.iconst 0, 1) := by decide +kernel
theorem dX12_cave_54 : decode cX12_cave 54 = .ok (.putfield 127, 3) := by decide +kernel
theorem dX12_cave_57 : decode cX12_cave 57 = .ok (.aload_n 0, 1) := by decide +kernel
theorem dX12_cave_58 : decode cX12_cave 58 = .ok (.iconst 0, 1) := by decide +kernel
theorem dX12_cave_59 : decode cX12_cave 59 = .ok (.putfield 183, 3) := by decide +kernel
theorem dX12_cave_62 : decode cX12_cave 62 = .ok (.aload_n 0, 1) := by decide +kernel
theorem dX12_cave_63 : decode cX12_cave 63 = .ok (.iconst (-1), 1) := by decide +kernel
theorem dX12_cave_64 : decode cX12_cave 64 = .ok (.putfield 250, 3) := by decide +kernel
theorem dX12_cave_67 : decode cX12_cave 67 = .ok (.aload_n 0, 1) := by decide +kernel
theorem dX12_cave_68 : decode cX12_cave 68 = .ok (.iconst (-1), 1) := by decide +kernel
theorem dX12_cave_69 : decode cX12_cave 69 = .ok (.putfield 256, 3) := by decide +kernel
theorem dX12_cave_72 : decode cX12_cave 72 = .ok (.iconst 0, 1) := by decide +kernel
theorem dX12_cave_73 : decode cX12_cave 73 = .ok (.istore_n 2, 1) := by decide +kernel
theorem dX12_cave_74 : decode cX12_cave 74 = .ok (.iload_n 2, 1) := by decide +kernel
theorem dX12_cave_75 : decode cX12_cave 75 = .ok (.bipush 64, 2) := by decide +kernel
theorem dX12_cave_77 : decode cX12_cave 77 = .ok (.if_icmp .ge 16, 3) := by decide +kernel
theorem dX12_cave_80 : decode cX12_cave 80 = .ok (.aload_n 0, 1) := by decide +kernel
theorem dX12_cave_81 : decode cX12_cave 81 = .ok (.getfield 35, 3) := by decide +kernel
theorem dX12_cave_84 : decode cX12_cave 84 = .ok (.iload_n 2, 1) := by decide +kernel
theorem dX12_cave_85 : decode cX12_cave 85 = .ok (.iconst 0, 1) := by decide +kernel
theorem dX12_cave_86 : decode cX12_cave 86 = .ok (.iastore, 1) := by decide +kernel
theorem dX12_cave_87 : decode cX12_cave 87 = .ok (.iinc 2 1, 3) := by decide +kernel
theorem dX12_cave_90 : decode cX12_cave 90 = .ok (.goto (-16), 3) := by decide +kernel
theorem dX12_cave_93 : decode cX12_cave 93 = .ok (.aload_n 0, 1) := by decide +kernel
theorem dX12_cave_94 : decode cX12_cave 94 = .ok (.iconst 0, 1) := by decide +kernel
theorem dX12_cave_95 : decode cX12_cave 95 = .ok (.putfield 186, 3) := by decide +kernel
theorem dX12_cave_98 : decode cX12_cave 98 = .ok (.aload_n 0, 1) := by decide +kernel
theorem dX12_cave_99 : decode cX12_cave 99 = .ok (.invokevirtual 177, 3) := by decide +kernel
theorem dX12_cave_102 : decode cX12_cave 102 = .ok (.aload_n 0, 1) := by decide +kernel
theorem dX12_cave_103 : decode cX12_cave 103 = .ok (.invokevirtual 173, 3) := by decide +kernel
theorem dX12_cave_106 : decode cX12_cave 106 = .ok (.ifCond .eq 17, 3) := by decide +kernel
theorem dX12_cave_109 : decode cX12_cave 109 = .ok (.aload_n 0, 1) := by decide +kernel
theorem dX12_cave_110 : decode cX12_cave 110 = .ok (.getfield 147, 3) := by decide +kernel
theorem dX12_cave_113 : decode cX12_cave 113 = .ok (.ifCond .eq 10, 3) := by decide +kernel
theorem dX12_cave_116 : decode cX12_cave 116 = .ok (.aload_n 0, 1) := by decide +kernel
theorem dX12_cave_117 : decode cX12_cave 117 = .ok (.invokevirtual 266, 3) := by decide +kernel
theorem dX12_cave_120 : decode cX12_cave 120 = .ok (.goto (-18), 3) := by decide +kernel
theorem dX12_cave_123 : decode cX12_cave 123 = .ok (.aload_n 0, 1) := by decide +kernel
theorem dX12_cave_124 : decode cX12_cave 124 = .ok (.invokevirtual 173, 3) := by decide +kernel
theorem dX12_cave_127 : decode cX12_cave 127 = .ok (.ifCond .ne 18, 3) := by decide +kernel
theorem dX12_cave_130 : decode cX12_cave 130 = .ok (.aload_n 0, 1) := by decide +kernel
theorem dX12_cave_131 : decode cX12_cave 131 = .ok (.getfield 29, 3) := by decide +kernel
theorem dX12_cave_134 : decode cX12_cave 134 = .ok (.iconst 0, 1) := by decide +kernel
theorem dX12_cave_135 : decode cX12_cave 135 = .ok (.dup2, 1) := by decide +kernel
theorem dX12_cave_136 : decode cX12_cave 136 = .ok (.iaload, 1) := by decide +kernel
theorem dX12_cave_137 : decode cX12_cave 137 = .ok (.iconst 1, 1) := by decide +kernel
theorem dX12_cave_138 : decode cX12_cave 138 = .ok (.iadd, 1) := by decide +kernel
theorem dX12_cave_139 : decode cX12_cave 139 = .ok (.iastore, 1) := by decide +kernel
theorem dX12_cave_140 : decode cX12_cave 140 = .ok (.aload_n 0, 1) := by decide +kernel
theorem dX12_cave_141 : decode cX12_cave 141 = .ok (.getfield 170, 3) := by decide +kernel
theorem dX12_cave_144 : decode cX12_cave 144 = .ok (.ireturn, 1) := by decide +kernel
theorem dX12_cave_145 : decode cX12_cave 145 = .ok (.aload_n 0, 1) := by decide +kernel
theorem dX12_cave_146 : decode cX12_cave 146 = .ok (.aload_n 0, 1) := by decide +kernel
theorem dX12_cave_147 : decode cX12_cave 147 = .ok (.getfield 183, 3) := by decide +kernel
theorem dX12_cave_150 : decode cX12_cave 150 = .ok (.putfield 269, 3) := by decide +kernel
theorem dX12_cave_153 : decode cX12_cave 153 = .ok (.aload_n 0, 1) := by decide +kernel
theorem dX12_cave_154 : decode cX12_cave 154 = .ok (.aload_n 0, 1) := by decide +kernel
theorem dX12_cave_155 : decode cX12_cave 155 = .ok (.getfield 250, 3) := by decide +kernel
theorem dX12_cave_158 : decode cX12_cave 158 = .ok (.putfield 9, 3) := by decide +kernel
theorem dX12_cave_161 : decode cX12_cave 161 = .ok (.aload_n 0, 1) := by decide +kernel
theorem dX12_cave_162 : decode cX12_cave 162 = .ok (.aload_n 0, 1) := by decide +kernel
theorem dX12_cave_163 : decode cX12_cave 163 = .ok (.getfield 256, 3) := by decide +kernel
theorem dX12_cave_166 : decode cX12_cave 166 = .ok (.putfield 13, 3) := by decide +kernel
theorem dX12_cave_169 : decode cX12_cave 169 = .ok (.aload_n 0, 1) := by decide +kernel
theorem dX12_cave_170 : decode cX12_cave 170 = .ok (.aload_n 0, 1) := by decide +kernel
theorem dX12_cave_171 : decode cX12_cave 171 = .ok (.getfield 32, 3) := by decide +kernel
theorem dX12_cave_174 : decode cX12_cave 174 = .ok (.aload_n 0, 1) := by decide +kernel
theorem dX12_cave_175 : decode cX12_cave 175 = .ok (.getfield 16, 3) := by decide +kernel
theorem dX12_cave_178 : decode cX12_cave 178 = .ok (.invokevirtual 272, 3) := by decide +kernel
theorem dX12_cave_181 : decode cX12_cave 181 = .ok (.aload_n 0, 1) := by decide +kernel
theorem dX12_cave_182 : decode cX12_cave 182 = .ok (.aload_n 0, 1) := by decide +kernel
theorem dX12_cave_183 : decode cX12_cave 183 = .ok (.getfield 38, 3) := by decide +kernel
theorem dX12_cave_186 : decode cX12_cave 186 = .ok (.aload_n 0, 1) := by decide +kernel
theorem dX12_cave_187 : decode cX12_cave 187 = .ok (.getfield 20, 3) := by decide +kernel
theorem dX12_cave_190 : decode cX12_cave 190 = .ok (.invokevirtual 272, 3) := by decide +kernel
theorem dX12_cave_193 : decode cX12_cave 193 = .ok (.iconst 0, 1) := by decide +kernel
theorem dX12_cave_194 : decode cX12_cave 194 = .ok (.istore_n 2, 1) := by decide +kernel
theorem dX12_cave_195 : decode cX12_cave 195 = .ok (.iload_n 2, 1) := by decide +kernel
theorem dX12_cave_196 : decode cX12_cave 196 = .ok (.bipush 64, 2) := by decide +kernel
theorem dX12_cave_198 : decode cX12_cave 198 = .ok (.if_icmp .ge 21, 3) := by decide +kernel
theorem dX12_cave_201 : decode cX12_cave 201 = .ok (.aload_n 0, 1) := by decide +kernel
theorem dX12_cave_202 : decode cX12_cave 202 = .ok (.getfield 51, 3) := by decide +kernel
theorem dX12_cave_205 : decode cX12_cave 205 = .ok (.iload_n 2, 1) := by decide +kernel
theorem dX12_cave_206 : decode cX12_cave 206 = .ok (.aload_n 0, 1) := by decide +kernel
theorem dX12_cave_207 : decode cX12_cave 207 = .ok (.getfield 35, 3) := by decide +kernel
theorem dX12_cave_210 : decode cX12_cave 210 = .ok (.iload_n 2, 1) := by decide +kernel
theorem dX12_cave_211 : decode cX12_cave 211 = .ok (.iaload, 1) := by decide +kernel
theorem dX12_cave_212 : decode cX12_cave 212 = .ok (.iastore, 1) := by decide +kernel
theorem dX12_cave_213 : decode cX12_cave 213 = .ok (.iinc 2 1, 3) := by decide +kernel
theorem dX12_cave_216 : decode cX12_cave 216 = .ok (.goto (-21), 3) := by decide +kernel
theorem dX12_cave_219 : decode cX12_cave 219 = .ok (.aload_n 0, 1) := by decide +kernel
theorem dX12_cave_220 : decode cX12_cave 220 = .ok (.iconst 0, 1) := by decide +kernel
theorem dX12_cave_221 : decode cX12_cave 221 = .ok (.putfield 276, 3) := by decide +kernel
theorem dX12_cave_224 : decode cX12_cave 224 = .ok (.aload_n 0, 1) := by decide +kernel
theorem dX12_cave_225 : decode cX12_cave 225 = .ok (.iconst 0, 1) := by decide +kernel
theorem dX12_cave_226 : decode cX12_cave 226 = .ok (.putfield 279, 3) := by decide +kernel
theorem dX12_cave_229 : decode cX12_cave 229 = .ok (.aload_n 0, 1) := by decide +kernel
theorem dX12_cave_230 : decode cX12_cave 230 = .ok (.iconst 0, 1) := by decide +kernel
theorem dX12_cave_231 : decode cX12_cave 231 = .ok (.putfield 282, 3) := by decide +kernel
theorem dX12_cave_234 : decode cX12_cave 234 = .ok (.iconst 0, 1) := by decide +kernel
theorem dX12_cave_235 : decode cX12_cave 235 = .ok (.ireturn, 1) := by decide +kernel
theorem dX12_fault_0 : decode cX12_fault 0 = .ok (.aload_n 0, 1) := by decide +kernel
theorem dX12_fault_1 : decode cX12_fault 1 = .ok (.iconst 0, 1) := by decide +kernel
theorem dX12_fault_2 : decode cX12_fault 2 = .ok (.putfield 114, 3) := by decide +kernel
theorem dX12_fault_5 : decode cX12_fault 5 = .ok (.aload_n 0, 1) := by decide +kernel
theorem dX12_fault_6 : decode cX12_fault 6 = .ok (.getfield 26, 3) := by decide +kernel
theorem dX12_fault_9 : decode cX12_fault 9 = .ok (.ireturn, 1) := by decide +kernel
theorem dX12_keeps_0 : decode cX12_keeps 0 = .ok (.aload_n 0, 1) := by decide +kernel
theorem dX12_keeps_1 : decode cX12_keeps 1 = .ok (.getfield 276, 3) := by decide +kernel
theorem dX12_keeps_4 : decode cX12_keeps 4 = .ok (.bipush 40, 2) := by decide +kernel
theorem dX12_keeps_6 : decode cX12_keeps 6 = .ok (.if_icmp .ne 44, 3) := by decide +kernel
theorem dX12_keeps_9 : decode cX12_keeps 9 = .ok (.bipush 64, 2) := by decide +kernel
theorem dX12_keeps_11 : decode cX12_keeps 11 = .ok (.istore_n 1, 1) := by decide +kernel
theorem dX12_keeps_12 : decode cX12_keeps 12 = .ok (.iload_n 1, 1) := by decide +kernel
theorem dX12_keeps_13 : decode cX12_keeps 13 = .ok (.sipush 2560, 3) := by decide +kernel
theorem dX12_keeps_16 : decode cX12_keeps 16 = .ok (.if_icmp .ge 24, 3) := by decide +kernel
theorem dX12_keeps_19 : decode cX12_keeps 19 = .ok (.aload_n 0, 1) := by decide +kernel
theorem dX12_keeps_20 : decode cX12_keeps 20 = .ok (.getfield 54, 3) := by decide +kernel
theorem dX12_keeps_23 : decode cX12_keeps 23 = .ok (.iload_n 1, 1) := by decide +kernel
theorem dX12_keeps_24 : decode cX12_keeps 24 = .ok (.bipush 64, 2) := by decide +kernel
theorem dX12_keeps_26 : decode cX12_keeps 26 = .ok (.isub, 1) := by decide +kernel
theorem dX12_keeps_27 : decode cX12_keeps 27 = .ok (.aload_n 0, 1) := by decide +kernel
theorem dX12_keeps_28 : decode cX12_keeps 28 = .ok (.getfield 54, 3) := by decide +kernel
theorem dX12_keeps_31 : decode cX12_keeps 31 = .ok (.iload_n 1, 1) := by decide +kernel
theorem dX12_keeps_32 : decode cX12_keeps 32 = .ok (.iaload, 1) := by decide +kernel
theorem dX12_keeps_33 : decode cX12_keeps 33 = .ok (.iastore, 1) := by decide +kernel
theorem dX12_keeps_34 : decode cX12_keeps 34 = .ok (.iinc 1 1, 3) := by decide +kernel
theorem dX12_keeps_37 : decode cX12_keeps 37 = .ok (.goto (-25), 3) := by decide +kernel
theorem dX12_keeps_40 : decode cX12_keeps 40 = .ok (.aload_n 0, 1) := by decide +kernel
theorem dX12_keeps_41 : decode cX12_keeps 41 = .ok (.dup, 1) := by decide +kernel
theorem dX12_keeps_42 : decode cX12_keeps 42 = .ok (.getfield 276, 3) := by decide +kernel
theorem dX12_keeps_45 : decode cX12_keeps 45 = .ok (.iconst 1, 1) := by decide +kernel
theorem dX12_keeps_46 : decode cX12_keeps 46 = .ok (.isub, 1) := by decide +kernel
theorem dX12_keeps_47 : decode cX12_keeps 47 = .ok (.putfield 276, 3) := by decide +kernel
theorem dX12_keeps_50 : decode cX12_keeps 50 = .ok (.iconst 0, 1) := by decide +kernel
theorem dX12_keeps_51 : decode cX12_keeps 51 = .ok (.istore_n 1, 1) := by decide +kernel
theorem dX12_keeps_52 : decode cX12_keeps 52 = .ok (.iload_n 1, 1) := by decide +kernel
theorem dX12_keeps_53 : decode cX12_keeps 53 = .ok (.bipush 64, 2) := by decide +kernel
theorem dX12_keeps_55 : decode cX12_keeps 55 = .ok (.if_icmp .ge 29, 3) := by decide +kernel
theorem dX12_keeps_58 : decode cX12_keeps 58 = .ok (.aload_n 0, 1) := by decide +kernel
theorem dX12_keeps_59 : decode cX12_keeps 59 = .ok (.getfield 54, 3) := by decide +kernel
theorem dX12_keeps_62 : decode cX12_keeps 62 = .ok (.bipush 64, 2) := by decide +kernel
theorem dX12_keeps_64 : decode cX12_keeps 64 = .ok (.aload_n 0, 1) := by decide +kernel
theorem dX12_keeps_65 : decode cX12_keeps 65 = .ok (.getfield 276, 3) := by decide +kernel
theorem dX12_keeps_68 : decode cX12_keeps 68 = .ok (.imul, 1) := by decide +kernel
theorem dX12_keeps_69 : decode cX12_keeps 69 = .ok (.iload_n 1, 1) := by decide +kernel
theorem dX12_keeps_70 : decode cX12_keeps 70 = .ok (.iadd, 1) := by decide +kernel
theorem dX12_keeps_71 : decode cX12_keeps 71 = .ok (.aload_n 0, 1) := by decide +kernel
theorem dX12_keeps_72 : decode cX12_keeps 72 = .ok (.getfield 51, 3) := by decide +kernel
theorem dX12_keeps_75 : decode cX12_keeps 75 = .ok (.iload_n 1, 1) := by decide +kernel
theorem dX12_keeps_76 : decode cX12_keeps 76 = .ok (.iaload, 1) := by decide +kernel
theorem dX12_keeps_77 : decode cX12_keeps 77 = .ok (.iastore, 1) := by decide +kernel
theorem dX12_keeps_78 : decode cX12_keeps 78 = .ok (.iinc 1 1, 3) := by decide +kernel
theorem dX12_keeps_81 : decode cX12_keeps 81 = .ok (.goto (-29), 3) := by decide +kernel
theorem dX12_keeps_84 : decode cX12_keeps 84 = .ok (.aload_n 0, 1) := by decide +kernel
theorem dX12_keeps_85 : decode cX12_keeps 85 = .ok (.dup, 1) := by decide +kernel
theorem dX12_keeps_86 : decode cX12_keeps 86 = .ok (.getfield 276, 3) := by decide +kernel
theorem dX12_keeps_89 : decode cX12_keeps 89 = .ok (.iconst 1, 1) := by decide +kernel
theorem dX12_keeps_90 : decode cX12_keeps 90 = .ok (.iadd, 1) := by decide +kernel
theorem dX12_keeps_91 : decode cX12_keeps 91 = .ok (.putfield 276, 3) := by decide +kernel
theorem dX12_keeps_94 : decode cX12_keeps 94 = .ok (.return_, 1) := by decide +kernel
theorem dX12_refuses_0 : decode cX12_refuses 0 = .ok (.aload_n 0, 1) := by decide +kernel
theorem dX12_refuses_1 : decode cX12_refuses 1 = .ok (.getfield 29, 3) := by decide +kernel
theorem dX12_refuses_4 : decode cX12_refuses 4 = .ok (.iload_n 1, 1) := by decide +kernel
theorem dX12_refuses_5 : decode cX12_refuses 5 = .ok (.dup2, 1) := by decide +kernel
theorem dX12_refuses_6 : decode cX12_refuses 6 = .ok (.iaload, 1) := by decide +kernel
theorem dX12_refuses_7 : decode cX12_refuses 7 = .ok (.iconst 1, 1) := by decide +kernel
theorem dX12_refuses_8 : decode cX12_refuses 8 = .ok (.iadd, 1) := by decide +kernel
theorem dX12_refuses_9 : decode cX12_refuses 9 = .ok (.iastore, 1) := by decide +kernel
theorem dX12_refuses_10 : decode cX12_refuses 10 = .ok (.iconst (-1), 1) := by decide +kernel
theorem dX12_refuses_11 : decode cX12_refuses 11 = .ok (.ireturn, 1) := by decide +kernel
theorem dX12_undo_0 : decode cX12_undo 0 = .ok (.aload_n 0, 1) := by decide +kernel
theorem dX12_undo_1 : decode cX12_undo 1 = .ok (.iconst 0, 1) := by decide +kernel
theorem dX12_undo_2 : decode cX12_undo 2 = .ok (.putfield 114, 3) := by decide +kernel
theorem dX12_undo_5 : decode cX12_undo 5 = .ok (.aload_n 0, 1) := by decide +kernel
theorem dX12_undo_6 : decode cX12_undo 6 = .ok (.getfield 276, 3) := by decide +kernel
theorem dX12_undo_9 : decode cX12_undo 9 = .ok (.ifCond .ne 5, 3) := by decide +kernel
theorem dX12_undo_12 : decode cX12_undo 12 = .ok (.iconst (-1), 1) := by decide +kernel
theorem dX12_undo_13 : decode cX12_undo 13 = .ok (.ireturn, 1) := by decide +kernel
theorem dX12_undo_14 : decode cX12_undo 14 = .ok (.aload_n 0, 1) := by decide +kernel
theorem dX12_undo_15 : decode cX12_undo 15 = .ok (.dup, 1) := by decide +kernel
theorem dX12_undo_16 : decode cX12_undo 16 = .ok (.getfield 276, 3) := by decide +kernel
theorem dX12_undo_19 : decode cX12_undo 19 = .ok (.iconst 1, 1) := by decide +kernel
theorem dX12_undo_20 : decode cX12_undo 20 = .ok (.isub, 1) := by decide +kernel
theorem dX12_undo_21 : decode cX12_undo 21 = .ok (.putfield 276, 3) := by decide +kernel
theorem dX12_undo_24 : decode cX12_undo 24 = .ok (.iconst 0, 1) := by decide +kernel
theorem dX12_undo_25 : decode cX12_undo 25 = .ok (.istore_n 1, 1) := by decide +kernel
theorem dX12_undo_26 : decode cX12_undo 26 = .ok (.iload_n 1, 1) := by decide +kernel
theorem dX12_undo_27 : decode cX12_undo 27 = .ok (.bipush 64, 2) := by decide +kernel
theorem dX12_undo_29 : decode cX12_undo 29 = .ok (.if_icmp .ge 29, 3) := by decide +kernel
theorem dX12_undo_32 : decode cX12_undo 32 = .ok (.aload_n 0, 1) := by decide +kernel
theorem dX12_undo_33 : decode cX12_undo 33 = .ok (.getfield 51, 3) := by decide +kernel
theorem dX12_undo_36 : decode cX12_undo 36 = .ok (.iload_n 1, 1) := by decide +kernel
theorem dX12_undo_37 : decode cX12_undo 37 = .ok (.aload_n 0, 1) := by decide +kernel
theorem dX12_undo_38 : decode cX12_undo 38 = .ok (.getfield 54, 3) := by decide +kernel
theorem dX12_undo_41 : decode cX12_undo 41 = .ok (.bipush 64, 2) := by decide +kernel
theorem dX12_undo_43 : decode cX12_undo 43 = .ok (.aload_n 0, 1) := by decide +kernel
theorem dX12_undo_44 : decode cX12_undo 44 = .ok (.getfield 276, 3) := by decide +kernel
theorem dX12_undo_47 : decode cX12_undo 47 = .ok (.imul, 1) := by decide +kernel
theorem dX12_undo_48 : decode cX12_undo 48 = .ok (.iload_n 1, 1) := by decide +kernel
theorem dX12_undo_49 : decode cX12_undo 49 = .ok (.iadd, 1) := by decide +kernel
theorem dX12_undo_50 : decode cX12_undo 50 = .ok (.iaload, 1) := by decide +kernel
theorem dX12_undo_51 : decode cX12_undo 51 = .ok (.iastore, 1) := by decide +kernel
theorem dX12_undo_52 : decode cX12_undo 52 = .ok (.iinc 1 1, 3) := by decide +kernel
theorem dX12_undo_55 : decode cX12_undo 55 = .ok (.goto (-29), 3) := by decide +kernel
theorem dX12_undo_58 : decode cX12_undo 58 = .ok (.aload_n 0, 1) := by decide +kernel
theorem dX12_undo_59 : decode cX12_undo 59 = .ok (.getfield 276, 3) := by decide +kernel
theorem dX12_undo_62 : decode cX12_undo 62 = .ok (.ireturn, 1) := by decide +kernel
theorem dX12_tries_0 : decode cX12_tries 0 = .ok (.iconst 0, 1) := by decide +kernel
theorem dX12_tries_1 : decode cX12_tries 1 = .ok (.istore_n 1, 1) := by decide +kernel
theorem dX12_tries_2 : decode cX12_tries 2 = .ok (.iload_n 1, 1) := by decide +kernel
theorem dX12_tries_3 : decode cX12_tries 3 = .ok (.bipush 64, 2) := by decide +kernel
theorem dX12_tries_5 : decode cX12_tries 5 = .ok (.if_icmp .ge 24, 3) := by decide +kernel
theorem dX12_tries_8 : decode cX12_tries 8 = .ok (.aload_n 0, 1) := by decide +kernel
theorem dX12_tries_9 : decode cX12_tries 9 = .ok (.getfield 51, 3) := by decide +kernel
theorem dX12_tries_12 : decode cX12_tries 12 = .ok (.bipush 64, 2) := by decide +kernel
theorem dX12_tries_14 : decode cX12_tries 14 = .ok (.iload_n 1, 1) := by decide +kernel
theorem dX12_tries_15 : decode cX12_tries 15 = .ok (.iadd, 1) := by decide +kernel
theorem dX12_tries_16 : decode cX12_tries 16 = .ok (.aload_n 0, 1) := by decide +kernel
theorem dX12_tries_17 : decode cX12_tries 17 = .ok (.getfield 51, 3) := by decide +kernel
theorem dX12_tries_20 : decode cX12_tries 20 = .ok (.iload_n 1, 1) := by decide +kernel
theorem dX12_tries_21 : decode cX12_tries 21 = .ok (.iaload, 1) := by decide +kernel
theorem dX12_tries_22 : decode cX12_tries 22 = .ok (.iastore, 1) := by decide +kernel
theorem dX12_tries_23 : decode cX12_tries 23 = .ok (.iinc 1 1, 3) := by decide +kernel
theorem dX12_tries_26 : decode cX12_tries 26 = .ok (.goto (-24), 3) := by decide +kernel
theorem dX12_tries_29 : decode cX12_tries 29 = .ok (.return_, 1) := by decide +kernel
theorem dX12_works_0 : decode cX12_works 0 = .ok (.iload_n 0, 1) := by decide +kernel
theorem dX12_works_1 : decode cX12_works 1 = .ok (.tableswitch 105 4 10 #[43, 57, 71, 82, 93, 97, 101], 43) := by decide +kernel
theorem dX12_works_44 : decode cX12_works 44 = .ok (.iload_n 1, 1) := by decide +kernel
theorem dX12_works_45 : decode cX12_works 45 = .ok (.ifCond .eq 11, 3) := by decide +kernel
theorem dX12_works_48 : decode cX12_works 48 = .ok (.iload_n 2, 1) := by decide +kernel
theorem dX12_works_49 : decode cX12_works 49 = .ok (.ifCond .eq 7, 3) := by decide +kernel
theorem dX12_works_52 : decode cX12_works 52 = .ok (.iconst 1, 1) := by decide +kernel
theorem dX12_works_53 : decode cX12_works 53 = .ok (.goto 4, 3) := by decide +kernel
theorem dX12_works_56 : decode cX12_works 56 = .ok (.iconst 0, 1) := by decide +kernel
theorem dX12_works_57 : decode cX12_works 57 = .ok (.ireturn, 1) := by decide +kernel
theorem dX12_works_58 : decode cX12_works 58 = .ok (.iload_n 1, 1) := by decide +kernel
theorem dX12_works_59 : decode cX12_works 59 = .ok (.ifCond .ne 7, 3) := by decide +kernel
theorem dX12_works_62 : decode cX12_works 62 = .ok (.iload_n 2, 1) := by decide +kernel
theorem dX12_works_63 : decode cX12_works 63 = .ok (.ifCond .eq 7, 3) := by decide +kernel
theorem dX12_works_66 : decode cX12_works 66 = .ok (.iconst 1, 1) := by decide +kernel
theorem dX12_works_67 : decode cX12_works 67 = .ok (.goto 4, 3) := by decide +kernel
theorem dX12_works_70 : decode cX12_works 70 = .ok (.iconst 0, 1) := by decide +kernel
theorem dX12_works_71 : decode cX12_works 71 = .ok (.ireturn, 1) := by decide +kernel
theorem dX12_works_72 : decode cX12_works 72 = .ok (.iload_n 1, 1) := by decide +kernel
theorem dX12_works_73 : decode cX12_works 73 = .ok (.iload_n 2, 1) := by decide +kernel
theorem dX12_works_74 : decode cX12_works 74 = .ok (.if_icmp .ge 7, 3) := by decide +kernel
theorem dX12_works_77 : decode cX12_works 77 = .ok (.iconst 1, 1) := by decide +kernel
theorem dX12_works_78 : decode cX12_works 78 = .ok (.goto 4, 3) := by decide +kernel
theorem dX12_works_81 : decode cX12_works 81 = .ok (.iconst 0, 1) := by decide +kernel
theorem dX12_works_82 : decode cX12_works 82 = .ok (.ireturn, 1) := by decide +kernel
theorem dX12_works_83 : decode cX12_works 83 = .ok (.iload_n 1, 1) := by decide +kernel
theorem dX12_works_84 : decode cX12_works 84 = .ok (.iload_n 2, 1) := by decide +kernel
theorem dX12_works_85 : decode cX12_works 85 = .ok (.if_icmp .ne 7, 3) := by decide +kernel
theorem dX12_works_88 : decode cX12_works 88 = .ok (.iconst 1, 1) := by decide +kernel
theorem dX12_works_89 : decode cX12_works 89 = .ok (.goto 4, 3) := by decide +kernel
theorem dX12_works_92 : decode cX12_works 92 = .ok (.iconst 0, 1) := by decide +kernel
theorem dX12_works_93 : decode cX12_works 93 = .ok (.ireturn, 1) := by decide +kernel
theorem dX12_works_94 : decode cX12_works 94 = .ok (.iload_n 1, 1) := by decide +kernel
theorem dX12_works_95 : decode cX12_works 95 = .ok (.iload_n 2, 1) := by decide +kernel
theorem dX12_works_96 : decode cX12_works 96 = .ok (.iadd, 1) := by decide +kernel
theorem dX12_works_97 : decode cX12_works 97 = .ok (.ireturn, 1) := by decide +kernel
theorem dX12_works_98 : decode cX12_works 98 = .ok (.iload_n 1, 1) := by decide +kernel
theorem dX12_works_99 : decode cX12_works 99 = .ok (.iload_n 2, 1) := by decide +kernel
theorem dX12_works_100 : decode cX12_works 100 = .ok (.isub, 1) := by decide +kernel
theorem dX12_works_101 : decode cX12_works 101 = .ok (.ireturn, 1) := by decide +kernel
theorem dX12_works_102 : decode cX12_works 102 = .ok (.iload_n 1, 1) := by decide +kernel
theorem dX12_works_103 : decode cX12_works 103 = .ok (.iload_n 2, 1) := by decide +kernel
theorem dX12_works_104 : decode cX12_works 104 = .ok (.imul, 1) := by decide +kernel
theorem dX12_works_105 : decode cX12_works 105 = .ok (.ireturn, 1) := by decide +kernel
theorem dX12_works_106 : decode cX12_works 106 = .ok (.iload_n 2, 1) := by decide +kernel
theorem dX12_works_107 : decode cX12_works 107 = .ok (.ifCond .ne 7, 3) := by decide +kernel
theorem dX12_works_110 : decode cX12_works 110 = .ok (.iconst 0, 1) := by decide +kernel
theorem dX12_works_111 : decode cX12_works 111 = .ok (.goto 6, 3) := by decide +kernel
theorem dX12_works_114 : decode cX12_works 114 = .ok (.iload_n 1, 1) := by decide +kernel
theorem dX12_works_115 : decode cX12_works 115 = .ok (.iload_n 2, 1) := by decide +kernel
theorem dX12_works_116 : decode cX12_works 116 = .ok (.idiv, 1) := by decide +kernel
theorem dX12_works_117 : decode cX12_works 117 = .ok (.ireturn, 1) := by decide +kernel
theorem dX12_reckons_0 : decode cX12_reckons 0 = .ok (.iconst 0, 1) := by decide +kernel
theorem dX12_reckons_1 : decode cX12_reckons 1 = .ok (.istore_n 2, 1) := by decide +kernel
theorem dX12_reckons_2 : decode cX12_reckons 2 = .ok (.iload_n 1, 1) := by decide +kernel
theorem dX12_reckons_3 : decode cX12_reckons 3 = .ok (.istore_n 3, 1) := by decide +kernel
theorem dX12_reckons_4 : decode cX12_reckons 4 = .ok (.aload_n 0, 1) := by decide +kernel
theorem dX12_reckons_5 : decode cX12_reckons 5 = .ok (.getfield 20, 3) := by decide +kernel
theorem dX12_reckons_8 : decode cX12_reckons 8 = .ok (.iload_n 3, 1) := by decide +kernel
theorem dX12_reckons_9 : decode cX12_reckons 9 = .ok (.iaload, 1) := by decide +kernel
theorem dX12_reckons_10 : decode cX12_reckons 10 = .ok (.ifCond .eq 133, 3) := by decide +kernel
theorem dX12_reckons_13 : decode cX12_reckons 13 = .ok (.aload_n 0, 1) := by decide +kernel
theorem dX12_reckons_14 : decode cX12_reckons 14 = .ok (.getfield 20, 3) := by decide +kernel
theorem dX12_reckons_17 : decode cX12_reckons 17 = .ok (.iload_n 3, 1) := by decide +kernel
theorem dX12_reckons_18 : decode cX12_reckons 18 = .ok (.iaload, 1) := by decide +kernel
theorem dX12_reckons_19 : decode cX12_reckons 19 = .ok (.istore 4, 2) := by decide +kernel
theorem dX12_reckons_21 : decode cX12_reckons 21 = .ok (.iinc 3 1, 3) := by decide +kernel
theorem dX12_reckons_24 : decode cX12_reckons 24 = .ok (.iload 4, 2) := by decide +kernel
theorem dX12_reckons_26 : decode cX12_reckons 26 = .ok (.iconst 1, 1) := by decide +kernel
theorem dX12_reckons_27 : decode cX12_reckons 27 = .ok (.if_icmp .eq 9, 3) := by decide +kernel
theorem dX12_reckons_30 : decode cX12_reckons 30 = .ok (.iload 4, 2) := by decide +kernel
theorem dX12_reckons_32 : decode cX12_reckons 32 = .ok (.iconst 2, 1) := by decide +kernel
theorem dX12_reckons_33 : decode cX12_reckons 33 = .ok (.if_icmp .ne 44, 3) := by decide +kernel
theorem dX12_reckons_36 : decode cX12_reckons 36 = .ok (.aload_n 0, 1) := by decide +kernel
theorem dX12_reckons_37 : decode cX12_reckons 37 = .ok (.getfield 60, 3) := by decide +kernel
theorem dX12_reckons_40 : decode cX12_reckons 40 = .ok (.iload_n 2, 1) := by decide +kernel
theorem dX12_reckons_41 : decode cX12_reckons 41 = .ok (.iload 4, 2) := by decide +kernel
theorem dX12_reckons_43 : decode cX12_reckons 43 = .ok (.iconst 1, 1) := by decide +kernel
theorem dX12_reckons_44 : decode cX12_reckons 44 = .ok (.if_icmp .ne 12, 3) := by decide +kernel
theorem dX12_reckons_47 : decode cX12_reckons 47 = .ok (.aload_n 0, 1) := by decide +kernel
theorem dX12_reckons_48 : decode cX12_reckons 48 = .ok (.getfield 20, 3) := by decide +kernel
theorem dX12_reckons_51 : decode cX12_reckons 51 = .ok (.iload_n 3, 1) := by decide +kernel
theorem dX12_reckons_52 : decode cX12_reckons 52 = .ok (.iaload, 1) := by decide +kernel
theorem dX12_reckons_53 : decode cX12_reckons 53 = .ok (.goto 14, 3) := by decide +kernel
theorem dX12_reckons_56 : decode cX12_reckons 56 = .ok (.aload_n 0, 1) := by decide +kernel
theorem dX12_reckons_57 : decode cX12_reckons 57 = .ok (.getfield 57, 3) := by decide +kernel
theorem dX12_reckons_60 : decode cX12_reckons 60 = .ok (.aload_n 0, 1) := by decide +kernel
theorem dX12_reckons_61 : decode cX12_reckons 61 = .ok (.getfield 20, 3) := by decide +kernel
theorem dX12_reckons_64 : decode cX12_reckons 64 = .ok (.iload_n 3, 1) := by decide +kernel
theorem dX12_reckons_65 : decode cX12_reckons 65 = .ok (.iaload, 1) := by decide +kernel
theorem dX12_reckons_66 : decode cX12_reckons 66 = .ok (.iaload, 1) := by decide +kernel
theorem dX12_reckons_67 : decode cX12_reckons 67 = .ok (.iastore, 1) := by decide +kernel
theorem dX12_reckons_68 : decode cX12_reckons 68 = .ok (.iinc 3 1, 3) := by decide +kernel
theorem dX12_reckons_71 : decode cX12_reckons 71 = .ok (.iinc 2 1, 3) := by decide +kernel
theorem dX12_reckons_74 : decode cX12_reckons 74 = .ok (.goto 66, 3) := by decide +kernel
theorem dX12_reckons_77 : decode cX12_reckons 77 = .ok (.iload 4, 2) := by decide +kernel
theorem dX12_reckons_79 : decode cX12_reckons 79 = .ok (.iconst 3, 1) := by decide +kernel
theorem dX12_reckons_80 : decode cX12_reckons 80 = .ok (.if_icmp .ne 30, 3) := by decide +kernel
theorem dX12_reckons_83 : decode cX12_reckons 83 = .ok (.aload_n 0, 1) := by decide +kernel
theorem dX12_reckons_84 : decode cX12_reckons 84 = .ok (.getfield 60, 3) := by decide +kernel
theorem dX12_reckons_87 : decode cX12_reckons 87 = .ok (.iload_n 2, 1) := by decide +kernel
theorem dX12_reckons_88 : decode cX12_reckons 88 = .ok (.iconst 1, 1) := by decide +kernel
theorem dX12_reckons_89 : decode cX12_reckons 89 = .ok (.isub, 1) := by decide +kernel
theorem dX12_reckons_90 : decode cX12_reckons 90 = .ok (.aload_n 0, 1) := by decide +kernel
theorem dX12_reckons_91 : decode cX12_reckons 91 = .ok (.getfield 60, 3) := by decide +kernel
theorem dX12_reckons_94 : decode cX12_reckons 94 = .ok (.iload_n 2, 1) := by decide +kernel
theorem dX12_reckons_95 : decode cX12_reckons 95 = .ok (.iconst 1, 1) := by decide +kernel
theorem dX12_reckons_96 : decode cX12_reckons 96 = .ok (.isub, 1) := by decide +kernel
theorem dX12_reckons_97 : decode cX12_reckons 97 = .ok (.iaload, 1) := by decide +kernel
theorem dX12_reckons_98 : decode cX12_reckons 98 = .ok (.ifCond .ne 7, 3) := by decide +kernel
theorem dX12_reckons_101 : decode cX12_reckons 101 = .ok (.iconst 1, 1) := by decide +kernel
theorem dX12_reckons_102 : decode cX12_reckons 102 = .ok (.goto 4, 3) := by decide +kernel
theorem dX12_reckons_105 : decode cX12_reckons 105 = .ok (.iconst 0, 1) := by decide +kernel
theorem dX12_reckons_106 : decode cX12_reckons 106 = .ok (.iastore, 1) := by decide +kernel
theorem dX12_reckons_107 : decode cX12_reckons 107 = .ok (.goto 33, 3) := by decide +kernel
theorem dX12_reckons_110 : decode cX12_reckons 110 = .ok (.iinc 2 (-1), 3) := by decide +kernel
theorem dX12_reckons_113 : decode cX12_reckons 113 = .ok (.aload_n 0, 1) := by decide +kernel
theorem dX12_reckons_114 : decode cX12_reckons 114 = .ok (.getfield 60, 3) := by decide +kernel
theorem dX12_reckons_117 : decode cX12_reckons 117 = .ok (.iload_n 2, 1) := by decide +kernel
theorem dX12_reckons_118 : decode cX12_reckons 118 = .ok (.iconst 1, 1) := by decide +kernel
theorem dX12_reckons_119 : decode cX12_reckons 119 = .ok (.isub, 1) := by decide +kernel
theorem dX12_reckons_120 : decode cX12_reckons 120 = .ok (.iload 4, 2) := by decide +kernel
theorem dX12_reckons_122 : decode cX12_reckons 122 = .ok (.aload_n 0, 1) := by decide +kernel
theorem dX12_reckons_123 : decode cX12_reckons 123 = .ok (.getfield 60, 3) := by decide +kernel
theorem dX12_reckons_126 : decode cX12_reckons 126 = .ok (.iload_n 2, 1) := by decide +kernel
theorem dX12_reckons_127 : decode cX12_reckons 127 = .ok (.iconst 1, 1) := by decide +kernel
theorem dX12_reckons_128 : decode cX12_reckons 128 = .ok (.isub, 1) := by decide +kernel
theorem dX12_reckons_129 : decode cX12_reckons 129 = .ok (.iaload, 1) := by decide +kernel
theorem dX12_reckons_130 : decode cX12_reckons 130 = .ok (.aload_n 0, 1) := by decide +kernel
theorem dX12_reckons_131 : decode cX12_reckons 131 = .ok (.getfield 60, 3) := by decide +kernel
theorem dX12_reckons_134 : decode cX12_reckons 134 = .ok (.iload_n 2, 1) := by decide +kernel
theorem dX12_reckons_135 : decode cX12_reckons 135 = .ok (.iaload, 1) := by decide +kernel
theorem dX12_reckons_136 : decode cX12_reckons 136 = .ok (.invokestatic 286, 3) := by decide +kernel
theorem dX12_reckons_139 : decode cX12_reckons 139 = .ok (.iastore, 1) := by decide +kernel
theorem dX12_reckons_140 : decode cX12_reckons 140 = .ok (.goto (-136), 3) := by decide +kernel
theorem dX12_reckons_143 : decode cX12_reckons 143 = .ok (.aload_n 0, 1) := by decide +kernel
theorem dX12_reckons_144 : decode cX12_reckons 144 = .ok (.getfield 60, 3) := by decide +kernel
theorem dX12_reckons_147 : decode cX12_reckons 147 = .ok (.iconst 0, 1) := by decide +kernel
theorem dX12_reckons_148 : decode cX12_reckons 148 = .ok (.iaload, 1) := by decide +kernel
theorem dX12_reckons_149 : decode cX12_reckons 149 = .ok (.ireturn, 1) := by decide +kernel
theorem dX12_asks_0 : decode cX12_asks 0 = .ok (.aload_n 0, 1) := by decide +kernel
theorem dX12_asks_1 : decode cX12_asks 1 = .ok (.getfield 57, 3) := by decide +kernel
theorem dX12_asks_4 : decode cX12_asks 4 = .ok (.iconst 0, 1) := by decide +kernel
theorem dX12_asks_5 : decode cX12_asks 5 = .ok (.aload_n 0, 1) := by decide +kernel
theorem dX12_asks_6 : decode cX12_asks 6 = .ok (.getfield 51, 3) := by decide +kernel
theorem dX12_asks_9 : decode cX12_asks 9 = .ok (.iload_n 2, 1) := by decide +kernel
theorem dX12_asks_10 : decode cX12_asks 10 = .ok (.bipush 10, 2) := by decide +kernel
theorem dX12_asks_12 : decode cX12_asks 12 = .ok (.iadd, 1) := by decide +kernel
theorem dX12_asks_13 : decode cX12_asks 13 = .ok (.iload_n 3, 1) := by decide +kernel
theorem dX12_asks_14 : decode cX12_asks 14 = .ok (.iadd, 1) := by decide +kernel
theorem dX12_asks_15 : decode cX12_asks 15 = .ok (.iaload, 1) := by decide +kernel
theorem dX12_asks_16 : decode cX12_asks 16 = .ok (.iastore, 1) := by decide +kernel
theorem dX12_asks_17 : decode cX12_asks 17 = .ok (.aload_n 0, 1) := by decide +kernel
theorem dX12_asks_18 : decode cX12_asks 18 = .ok (.getfield 57, 3) := by decide +kernel
theorem dX12_asks_21 : decode cX12_asks 21 = .ok (.iconst 1, 1) := by decide +kernel
theorem dX12_asks_22 : decode cX12_asks 22 = .ok (.aload_n 0, 1) := by decide +kernel
theorem dX12_asks_23 : decode cX12_asks 23 = .ok (.getfield 51, 3) := by decide +kernel
theorem dX12_asks_26 : decode cX12_asks 26 = .ok (.iload_n 2, 1) := by decide +kernel
theorem dX12_asks_27 : decode cX12_asks 27 = .ok (.iconst 1, 1) := by decide +kernel
theorem dX12_asks_28 : decode cX12_asks 28 = .ok (.iadd, 1) := by decide +kernel
theorem dX12_asks_29 : decode cX12_asks 29 = .ok (.iload_n 3, 1) := by decide +kernel
theorem dX12_asks_30 : decode cX12_asks 30 = .ok (.iadd, 1) := by decide +kernel
theorem dX12_asks_31 : decode cX12_asks 31 = .ok (.iaload, 1) := by decide +kernel
theorem dX12_asks_32 : decode cX12_asks 32 = .ok (.iastore, 1) := by decide +kernel
theorem dX12_asks_33 : decode cX12_asks 33 = .ok (.aload_n 0, 1) := by decide +kernel
theorem dX12_asks_34 : decode cX12_asks 34 = .ok (.getfield 57, 3) := by decide +kernel
theorem dX12_asks_37 : decode cX12_asks 37 = .ok (.iconst 2, 1) := by decide +kernel
theorem dX12_asks_38 : decode cX12_asks 38 = .ok (.aload_n 0, 1) := by decide +kernel
theorem dX12_asks_39 : decode cX12_asks 39 = .ok (.getfield 16, 3) := by decide +kernel
theorem dX12_asks_42 : decode cX12_asks 42 = .ok (.iload_n 3, 1) := by decide +kernel
theorem dX12_asks_43 : decode cX12_asks 43 = .ok (.iaload, 1) := by decide +kernel
theorem dX12_asks_44 : decode cX12_asks 44 = .ok (.iastore, 1) := by decide +kernel
theorem dX12_asks_45 : decode cX12_asks 45 = .ok (.aload_n 0, 1) := by decide +kernel
theorem dX12_asks_46 : decode cX12_asks 46 = .ok (.getfield 57, 3) := by decide +kernel
theorem dX12_asks_49 : decode cX12_asks 49 = .ok (.iconst 3, 1) := by decide +kernel
theorem dX12_asks_50 : decode cX12_asks 50 = .ok (.aload_n 0, 1) := by decide +kernel
theorem dX12_asks_51 : decode cX12_asks 51 = .ok (.getfield 51, 3) := by decide +kernel
theorem dX12_asks_54 : decode cX12_asks 54 = .ok (.iload_n 2, 1) := by decide +kernel
theorem dX12_asks_55 : decode cX12_asks 55 = .ok (.bipush 46, 2) := by decide +kernel
theorem dX12_asks_57 : decode cX12_asks 57 = .ok (.iadd, 1) := by decide +kernel
theorem dX12_asks_58 : decode cX12_asks 58 = .ok (.iload_n 3, 1) := by decide +kernel
theorem dX12_asks_59 : decode cX12_asks 59 = .ok (.iadd, 1) := by decide +kernel
theorem dX12_asks_60 : decode cX12_asks 60 = .ok (.iaload, 1) := by decide +kernel
theorem dX12_asks_61 : decode cX12_asks 61 = .ok (.iastore, 1) := by decide +kernel
theorem dX12_asks_62 : decode cX12_asks 62 = .ok (.aload_n 0, 1) := by decide +kernel
theorem dX12_asks_63 : decode cX12_asks 63 = .ok (.getfield 57, 3) := by decide +kernel
theorem dX12_asks_66 : decode cX12_asks 66 = .ok (.iconst 4, 1) := by decide +kernel
theorem dX12_asks_67 : decode cX12_asks 67 = .ok (.aload_n 0, 1) := by decide +kernel
theorem dX12_asks_68 : decode cX12_asks 68 = .ok (.getfield 51, 3) := by decide +kernel
theorem dX12_asks_71 : decode cX12_asks 71 = .ok (.iload_n 2, 1) := by decide +kernel
theorem dX12_asks_72 : decode cX12_asks 72 = .ok (.iconst 0, 1) := by decide +kernel
theorem dX12_asks_73 : decode cX12_asks 73 = .ok (.iadd, 1) := by decide +kernel
theorem dX12_asks_74 : decode cX12_asks 74 = .ok (.iaload, 1) := by decide +kernel
theorem dX12_asks_75 : decode cX12_asks 75 = .ok (.iastore, 1) := by decide +kernel
theorem dX12_asks_76 : decode cX12_asks 76 = .ok (.aload_n 0, 1) := by decide +kernel
theorem dX12_asks_77 : decode cX12_asks 77 = .ok (.getfield 57, 3) := by decide +kernel
theorem dX12_asks_80 : decode cX12_asks 80 = .ok (.iconst 5, 1) := by decide +kernel
theorem dX12_asks_81 : decode cX12_asks 81 = .ok (.iload_n 3, 1) := by decide +kernel
theorem dX12_asks_82 : decode cX12_asks 82 = .ok (.iastore, 1) := by decide +kernel
theorem dX12_asks_83 : decode cX12_asks 83 = .ok (.aload_n 0, 1) := by decide +kernel
theorem dX12_asks_84 : decode cX12_asks 84 = .ok (.iload_n 1, 1) := by decide +kernel
theorem dX12_asks_85 : decode cX12_asks 85 = .ok (.invokevirtual 290, 3) := by decide +kernel
theorem dX12_asks_88 : decode cX12_asks 88 = .ok (.ireturn, 1) := by decide +kernel
theorem dX12_falls_0 : decode cX12_falls 0 = .ok (.aload_n 0, 1) := by decide +kernel
theorem dX12_falls_1 : decode cX12_falls 1 = .ok (.getfield 51, 3) := by decide +kernel
theorem dX12_falls_4 : decode cX12_falls 4 = .ok (.iload_n 1, 1) := by decide +kernel
theorem dX12_falls_5 : decode cX12_falls 5 = .ok (.bipush 19, 2) := by decide +kernel
theorem dX12_falls_7 : decode cX12_falls 7 = .ok (.iadd, 1) := by decide +kernel
theorem dX12_falls_8 : decode cX12_falls 8 = .ok (.iload_n 2, 1) := by decide +kernel
theorem dX12_falls_9 : decode cX12_falls 9 = .ok (.iadd, 1) := by decide +kernel
theorem dX12_falls_10 : decode cX12_falls 10 = .ok (.iaload, 1) := by decide +kernel
theorem dX12_falls_11 : decode cX12_falls 11 = .ok (.istore 4, 2) := by decide +kernel
theorem dX12_falls_13 : decode cX12_falls 13 = .ok (.aload_n 0, 1) := by decide +kernel
theorem dX12_falls_14 : decode cX12_falls 14 = .ok (.getfield 51, 3) := by decide +kernel
theorem dX12_falls_17 : decode cX12_falls 17 = .ok (.iload_n 1, 1) := by decide +kernel
theorem dX12_falls_18 : decode cX12_falls 18 = .ok (.bipush 28, 2) := by decide +kernel
theorem dX12_falls_20 : decode cX12_falls 20 = .ok (.iadd, 1) := by decide +kernel
theorem dX12_falls_21 : decode cX12_falls 21 = .ok (.iload_n 2, 1) := by decide +kernel
theorem dX12_falls_22 : decode cX12_falls 22 = .ok (.iadd, 1) := by decide +kernel
theorem dX12_falls_23 : decode cX12_falls 23 = .ok (.iaload, 1) := by decide +kernel
theorem dX12_falls_24 : decode cX12_falls 24 = .ok (.istore 5, 2) := by decide +kernel
theorem dX12_falls_26 : decode cX12_falls 26 = .ok (.iload 4, 2) := by decide +kernel
theorem dX12_falls_28 : decode cX12_falls 28 = .ok (.iconst (-1), 1) := by decide +kernel
theorem dX12_falls_29 : decode cX12_falls 29 = .ok (.if_icmp .ne 16, 3) := by decide +kernel
theorem dX12_falls_32 : decode cX12_falls 32 = .ok (.aload_n 0, 1) := by decide +kernel
theorem dX12_falls_33 : decode cX12_falls 33 = .ok (.dup, 1) := by decide +kernel
theorem dX12_falls_34 : decode cX12_falls 34 = .ok (.getfield 293, 3) := by decide +kernel
theorem dX12_falls_37 : decode cX12_falls 37 = .ok (.iload_n 3, 1) := by decide +kernel
theorem dX12_falls_38 : decode cX12_falls 38 = .ok (.iadd, 1) := by decide +kernel
theorem dX12_falls_39 : decode cX12_falls 39 = .ok (.putfield 293, 3) := by decide +kernel
theorem dX12_falls_42 : decode cX12_falls 42 = .ok (.goto 102, 3) := by decide +kernel
theorem dX12_falls_45 : decode cX12_falls 45 = .ok (.iload 5, 2) := by decide +kernel
theorem dX12_falls_47 : decode cX12_falls 47 = .ok (.iconst (-1), 1) := by decide +kernel
theorem dX12_falls_48 : decode cX12_falls 48 = .ok (.if_icmp .ne 17, 3) := by decide +kernel
theorem dX12_falls_51 : decode cX12_falls 51 = .ok (.aload_n 0, 1) := by decide +kernel
theorem dX12_falls_52 : decode cX12_falls 52 = .ok (.getfield 63, 3) := by decide +kernel
theorem dX12_falls_55 : decode cX12_falls 55 = .ok (.iload 4, 2) := by decide +kernel
theorem dX12_falls_57 : decode cX12_falls 57 = .ok (.dup2, 1) := by decide +kernel
theorem dX12_falls_58 : decode cX12_falls 58 = .ok (.iaload, 1) := by decide +kernel
theorem dX12_falls_59 : decode cX12_falls 59 = .ok (.iload_n 3, 1) := by decide +kernel
theorem dX12_falls_60 : decode cX12_falls 60 = .ok (.iadd, 1) := by decide +kernel
theorem dX12_falls_61 : decode cX12_falls 61 = .ok (.iastore, 1) := by decide +kernel
theorem dX12_falls_62 : decode cX12_falls 62 = .ok (.goto 82, 3) := by decide +kernel
theorem dX12_falls_65 : decode cX12_falls 65 = .ok (.aload_n 0, 1) := by decide +kernel
theorem dX12_falls_66 : decode cX12_falls 66 = .ok (.getfield 51, 3) := by decide +kernel
theorem dX12_falls_69 : decode cX12_falls 69 = .ok (.iload_n 1, 1) := by decide +kernel
theorem dX12_falls_70 : decode cX12_falls 70 = .ok (.bipush 37, 2) := by decide +kernel
theorem dX12_falls_72 : decode cX12_falls 72 = .ok (.iadd, 1) := by decide +kernel
theorem dX12_falls_73 : decode cX12_falls 73 = .ok (.iload_n 2, 1) := by decide +kernel
theorem dX12_falls_74 : decode cX12_falls 74 = .ok (.iadd, 1) := by decide +kernel
theorem dX12_falls_75 : decode cX12_falls 75 = .ok (.iaload, 1) := by decide +kernel
theorem dX12_falls_76 : decode cX12_falls 76 = .ok (.ifCond .ne 11, 3) := by decide +kernel
theorem dX12_falls_79 : decode cX12_falls 79 = .ok (.iload_n 3, 1) := by decide +kernel
theorem dX12_falls_80 : decode cX12_falls 80 = .ok (.iconst 1, 1) := by decide +kernel
theorem dX12_falls_81 : decode cX12_falls 81 = .ok (.iadd, 1) := by decide +kernel
theorem dX12_falls_82 : decode cX12_falls 82 = .ok (.iconst 2, 1) := by decide +kernel
theorem dX12_falls_83 : decode cX12_falls 83 = .ok (.idiv, 1) := by decide +kernel
theorem dX12_falls_84 : decode cX12_falls 84 = .ok (.goto 6, 3) := by decide +kernel
theorem dX12_falls_87 : decode cX12_falls 87 = .ok (.iload_n 3, 1) := by decide +kernel
theorem dX12_falls_88 : decode cX12_falls 88 = .ok (.iconst 2, 1) := by decide +kernel
theorem dX12_falls_89 : decode cX12_falls 89 = .ok (.idiv, 1) := by decide +kernel
theorem dX12_falls_90 : decode cX12_falls 90 = .ok (.istore 6, 2) := by decide +kernel
theorem dX12_falls_92 : decode cX12_falls 92 = .ok (.aload_n 0, 1) := by decide +kernel
theorem dX12_falls_93 : decode cX12_falls 93 = .ok (.getfield 63, 3) := by decide +kernel
theorem dX12_falls_96 : decode cX12_falls 96 = .ok (.iload 4, 2) := by decide +kernel
theorem dX12_falls_98 : decode cX12_falls 98 = .ok (.dup2, 1) := by decide +kernel
theorem dX12_falls_99 : decode cX12_falls 99 = .ok (.iaload, 1) := by decide +kernel
theorem dX12_falls_100 : decode cX12_falls 100 = .ok (.iload 6, 2) := by decide +kernel
theorem dX12_falls_102 : decode cX12_falls 102 = .ok (.iadd, 1) := by decide +kernel
theorem dX12_falls_103 : decode cX12_falls 103 = .ok (.iastore, 1) := by decide +kernel
theorem dX12_falls_104 : decode cX12_falls 104 = .ok (.aload_n 0, 1) := by decide +kernel
theorem dX12_falls_105 : decode cX12_falls 105 = .ok (.getfield 63, 3) := by decide +kernel
theorem dX12_falls_108 : decode cX12_falls 108 = .ok (.iload 5, 2) := by decide +kernel
theorem dX12_falls_110 : decode cX12_falls 110 = .ok (.dup2, 1) := by decide +kernel
theorem dX12_falls_111 : decode cX12_falls 111 = .ok (.iaload, 1) := by decide +kernel
theorem dX12_falls_112 : decode cX12_falls 112 = .ok (.iload_n 3, 1) := by decide +kernel
theorem dX12_falls_113 : decode cX12_falls 113 = .ok (.iload 6, 2) := by decide +kernel
theorem dX12_falls_115 : decode cX12_falls 115 = .ok (.isub, 1) := by decide +kernel
theorem dX12_falls_116 : decode cX12_falls 116 = .ok (.iadd, 1) := by decide +kernel
theorem dX12_falls_117 : decode cX12_falls 117 = .ok (.iastore, 1) := by decide +kernel
theorem dX12_falls_118 : decode cX12_falls 118 = .ok (.aload_n 0, 1) := by decide +kernel
theorem dX12_falls_119 : decode cX12_falls 119 = .ok (.getfield 51, 3) := by decide +kernel
theorem dX12_falls_122 : decode cX12_falls 122 = .ok (.iload_n 1, 1) := by decide +kernel
theorem dX12_falls_123 : decode cX12_falls 123 = .ok (.bipush 37, 2) := by decide +kernel
theorem dX12_falls_125 : decode cX12_falls 125 = .ok (.iadd, 1) := by decide +kernel
theorem dX12_falls_126 : decode cX12_falls 126 = .ok (.iload_n 2, 1) := by decide +kernel
theorem dX12_falls_127 : decode cX12_falls 127 = .ok (.iadd, 1) := by decide +kernel
theorem dX12_falls_128 : decode cX12_falls 128 = .ok (.aload_n 0, 1) := by decide +kernel
theorem dX12_falls_129 : decode cX12_falls 129 = .ok (.getfield 51, 3) := by decide +kernel
theorem dX12_falls_132 : decode cX12_falls 132 = .ok (.iload_n 1, 1) := by decide +kernel
theorem dX12_falls_133 : decode cX12_falls 133 = .ok (.bipush 37, 2) := by decide +kernel
theorem dX12_falls_135 : decode cX12_falls 135 = .ok (.iadd, 1) := by decide +kernel
theorem dX12_falls_136 : decode cX12_falls 136 = .ok (.iload_n 2, 1) := by decide +kernel
theorem dX12_falls_137 : decode cX12_falls 137 = .ok (.iadd, 1) := by decide +kernel
theorem dX12_falls_138 : decode cX12_falls 138 = .ok (.iaload, 1) := by decide +kernel
theorem dX12_falls_139 : decode cX12_falls 139 = .ok (.iload_n 3, 1) := by decide +kernel
theorem dX12_falls_140 : decode cX12_falls 140 = .ok (.iadd, 1) := by decide +kernel
theorem dX12_falls_141 : decode cX12_falls 141 = .ok (.iconst 2, 1) := by decide +kernel
theorem dX12_falls_142 : decode cX12_falls 142 = .ok (.irem, 1) := by decide +kernel
theorem dX12_falls_143 : decode cX12_falls 143 = .ok (.iastore, 1) := by decide +kernel
theorem dX12_falls_144 : decode cX12_falls 144 = .ok (.return_, 1) := by decide +kernel
theorem dX12_gets_0 : decode cX12_gets 0 = .ok (.aload_n 0, 1) := by decide +kernel
theorem dX12_gets_1 : decode cX12_gets 1 = .ok (.getfield 51, 3) := by decide +kernel
theorem dX12_gets_4 : decode cX12_gets 4 = .ok (.iload_n 1, 1) := by decide +kernel
theorem dX12_gets_5 : decode cX12_gets 5 = .ok (.bipush 10, 2) := by decide +kernel
theorem dX12_gets_7 : decode cX12_gets 7 = .ok (.iadd, 1) := by decide +kernel
theorem dX12_gets_8 : decode cX12_gets 8 = .ok (.iload_n 2, 1) := by decide +kernel
theorem dX12_gets_9 : decode cX12_gets 9 = .ok (.iadd, 1) := by decide +kernel
theorem dX12_gets_10 : decode cX12_gets 10 = .ok (.iaload, 1) := by decide +kernel
theorem dX12_gets_11 : decode cX12_gets 11 = .ok (.iload_n 3, 1) := by decide +kernel
theorem dX12_gets_12 : decode cX12_gets 12 = .ok (.iadd, 1) := by decide +kernel
theorem dX12_gets_13 : decode cX12_gets 13 = .ok (.istore 4, 2) := by decide +kernel
theorem dX12_gets_15 : decode cX12_gets 15 = .ok (.iload 4, 2) := by decide +kernel
theorem dX12_gets_17 : decode cX12_gets 17 = .ok (.aload_n 0, 1) := by decide +kernel
theorem dX12_gets_18 : decode cX12_gets 18 = .ok (.getfield 51, 3) := by decide +kernel
theorem dX12_gets_21 : decode cX12_gets 21 = .ok (.iload_n 1, 1) := by decide +kernel
theorem dX12_gets_22 : decode cX12_gets 22 = .ok (.iconst 1, 1) := by decide +kernel
theorem dX12_gets_23 : decode cX12_gets 23 = .ok (.iadd, 1) := by decide +kernel
theorem dX12_gets_24 : decode cX12_gets 24 = .ok (.iload_n 2, 1) := by decide +kernel
theorem dX12_gets_25 : decode cX12_gets 25 = .ok (.iadd, 1) := by decide +kernel
theorem dX12_gets_26 : decode cX12_gets 26 = .ok (.iaload, 1) := by decide +kernel
theorem dX12_gets_27 : decode cX12_gets 27 = .ok (.idiv, 1) := by decide +kernel
theorem dX12_gets_28 : decode cX12_gets 28 = .ok (.istore 5, 2) := by decide +kernel
theorem dX12_gets_30 : decode cX12_gets 30 = .ok (.aload_n 0, 1) := by decide +kernel
theorem dX12_gets_31 : decode cX12_gets 31 = .ok (.getfield 51, 3) := by decide +kernel
theorem dX12_gets_34 : decode cX12_gets 34 = .ok (.iload_n 1, 1) := by decide +kernel
theorem dX12_gets_35 : decode cX12_gets 35 = .ok (.bipush 10, 2) := by decide +kernel
theorem dX12_gets_37 : decode cX12_gets 37 = .ok (.iadd, 1) := by decide +kernel
theorem dX12_gets_38 : decode cX12_gets 38 = .ok (.iload_n 2, 1) := by decide +kernel
theorem dX12_gets_39 : decode cX12_gets 39 = .ok (.iadd, 1) := by decide +kernel
theorem dX12_gets_40 : decode cX12_gets 40 = .ok (.iload 4, 2) := by decide +kernel
theorem dX12_gets_42 : decode cX12_gets 42 = .ok (.aload_n 0, 1) := by decide +kernel
theorem dX12_gets_43 : decode cX12_gets 43 = .ok (.getfield 51, 3) := by decide +kernel
theorem dX12_gets_46 : decode cX12_gets 46 = .ok (.iload_n 1, 1) := by decide +kernel
theorem dX12_gets_47 : decode cX12_gets 47 = .ok (.iconst 1, 1) := by decide +kernel
theorem dX12_gets_48 : decode cX12_gets 48 = .ok (.iadd, 1) := by decide +kernel
theorem dX12_gets_49 : decode cX12_gets 49 = .ok (.iload_n 2, 1) := by decide +kernel
theorem dX12_gets_50 : decode cX12_gets 50 = .ok (.iadd, 1) := by decide +kernel
theorem dX12_gets_51 : decode cX12_gets 51 = .ok (.iaload, 1) := by decide +kernel
theorem dX12_gets_52 : decode cX12_gets 52 = .ok (.irem, 1) := by decide +kernel
theorem dX12_gets_53 : decode cX12_gets 53 = .ok (.iastore, 1) := by decide +kernel
theorem dX12_gets_54 : decode cX12_gets 54 = .ok (.aload_n 0, 1) := by decide +kernel
theorem dX12_gets_55 : decode cX12_gets 55 = .ok (.getfield 51, 3) := by decide +kernel
theorem dX12_gets_58 : decode cX12_gets 58 = .ok (.iload_n 1, 1) := by decide +kernel
theorem dX12_gets_59 : decode cX12_gets 59 = .ok (.bipush 46, 2) := by decide +kernel
theorem dX12_gets_61 : decode cX12_gets 61 = .ok (.iadd, 1) := by decide +kernel
theorem dX12_gets_62 : decode cX12_gets 62 = .ok (.iload_n 2, 1) := by decide +kernel
theorem dX12_gets_63 : decode cX12_gets 63 = .ok (.iadd, 1) := by decide +kernel
theorem dX12_gets_64 : decode cX12_gets 64 = .ok (.ldc_w 296, 3) := by decide +kernel
theorem dX12_gets_67 : decode cX12_gets 67 = .ok (.aload_n 0, 1) := by decide +kernel
theorem dX12_gets_68 : decode cX12_gets 68 = .ok (.getfield 51, 3) := by decide +kernel
theorem dX12_gets_71 : decode cX12_gets 71 = .ok (.iload_n 1, 1) := by decide +kernel
theorem dX12_gets_72 : decode cX12_gets 72 = .ok (.bipush 46, 2) := by decide +kernel
theorem dX12_gets_74 : decode cX12_gets 74 = .ok (.iadd, 1) := by decide +kernel
theorem dX12_gets_75 : decode cX12_gets 75 = .ok (.iload_n 2, 1) := by decide +kernel
theorem dX12_gets_76 : decode cX12_gets 76 = .ok (.iadd, 1) := by decide +kernel
theorem dX12_gets_77 : decode cX12_gets 77 = .ok (.iaload, 1) := by decide +kernel
theorem dX12_gets_78 : decode cX12_gets 78 = .ok (.iload 5, 2) := by decide +kernel
theorem dX12_gets_80 : decode cX12_gets 80 = .ok (.iadd, 1) := by decide +kernel
theorem dX12_gets_81 : decode cX12_gets 81 = .ok (.invokestatic 297, 3) := by decide +kernel
theorem dX12_gets_84 : decode cX12_gets 84 = .ok (.iastore, 1) := by decide +kernel
theorem dX12_gets_85 : decode cX12_gets 85 = .ok (.aload_n 0, 1) := by decide +kernel
theorem dX12_gets_86 : decode cX12_gets 86 = .ok (.getfield 66, 3) := by decide +kernel
theorem dX12_gets_89 : decode cX12_gets 89 = .ok (.iload_n 2, 1) := by decide +kernel
theorem dX12_gets_90 : decode cX12_gets 90 = .ok (.iload 5, 2) := by decide +kernel
theorem dX12_gets_92 : decode cX12_gets 92 = .ok (.iastore, 1) := by decide +kernel
theorem dX12_gets_93 : decode cX12_gets 93 = .ok (.iload 5, 2) := by decide +kernel
theorem dX12_gets_95 : decode cX12_gets 95 = .ok (.ifCond .ne 4, 3) := by decide +kernel
theorem dX12_gets_98 : decode cX12_gets 98 = .ok (.return_, 1) := by decide +kernel
theorem dX12_gets_99 : decode cX12_gets 99 = .ok (.aload_n 0, 1) := by decide +kernel
theorem dX12_gets_100 : decode cX12_gets 100 = .ok (.dup, 1) := by decide +kernel
theorem dX12_gets_101 : decode cX12_gets 101 = .ok (.getfield 300, 3) := by decide +kernel
theorem dX12_gets_104 : decode cX12_gets 104 = .ok (.iconst 1, 1) := by decide +kernel
theorem dX12_gets_105 : decode cX12_gets 105 = .ok (.iload_n 2, 1) := by decide +kernel
theorem dX12_gets_106 : decode cX12_gets 106 = .ok (.ishl, 1) := by decide +kernel
theorem dX12_gets_107 : decode cX12_gets 107 = .ok (.ior, 1) := by decide +kernel
theorem dX12_gets_108 : decode cX12_gets 108 = .ok (.putfield 300, 3) := by decide +kernel
theorem dX12_gets_111 : decode cX12_gets 111 = .ok (.aload_n 0, 1) := by decide +kernel
theorem dX12_gets_112 : decode cX12_gets 112 = .ok (.iload_n 1, 1) := by decide +kernel
theorem dX12_gets_113 : decode cX12_gets 113 = .ok (.iload_n 2, 1) := by decide +kernel
theorem dX12_gets_114 : decode cX12_gets 114 = .ok (.iload 5, 2) := by decide +kernel
theorem dX12_gets_116 : decode cX12_gets 116 = .ok (.invokevirtual 303, 3) := by decide +kernel
theorem dX12_gets_119 : decode cX12_gets 119 = .ok (.return_, 1) := by decide +kernel
theorem dX12_runs_0 : decode cX12_runs 0 = .ok (.aload_n 0, 1) := by decide +kernel
theorem dX12_runs_1 : decode cX12_runs 1 = .ok (.getfield 51, 3) := by decide +kernel
theorem dX12_runs_4 : decode cX12_runs 4 = .ok (.iload_n 1, 1) := by decide +kernel
theorem dX12_runs_5 : decode cX12_runs 5 = .ok (.bipush 55, 2) := by decide +kernel
theorem dX12_runs_7 : decode cX12_runs 7 = .ok (.iadd, 1) := by decide +kernel
theorem dX12_runs_8 : decode cX12_runs 8 = .ok (.iload_n 2, 1) := by decide +kernel
theorem dX12_runs_9 : decode cX12_runs 9 = .ok (.iadd, 1) := by decide +kernel
theorem dX12_runs_10 : decode cX12_runs 10 = .ok (.iaload, 1) := by decide +kernel
theorem dX12_runs_11 : decode cX12_runs 11 = .ok (.iconst 1, 1) := by decide +kernel
theorem dX12_runs_12 : decode cX12_runs 12 = .ok (.if_icmp .ne 5, 3) := by decide +kernel
theorem dX12_runs_15 : decode cX12_runs 15 = .ok (.iconst 0, 1) := by decide +kernel
theorem dX12_runs_16 : decode cX12_runs 16 = .ok (.ireturn, 1) := by decide +kernel
theorem dX12_runs_17 : decode cX12_runs 17 = .ok (.aload_n 0, 1) := by decide +kernel
theorem dX12_runs_18 : decode cX12_runs 18 = .ok (.getfield 69, 3) := by decide +kernel
theorem dX12_runs_21 : decode cX12_runs 21 = .ok (.iconst (-1), 1) := by decide +kernel
theorem dX12_runs_22 : decode cX12_runs 22 = .ok (.if_icmp .ne 32, 3) := by decide +kernel
theorem dX12_runs_25 : decode cX12_runs 25 = .ok (.aload_n 0, 1) := by decide +kernel
theorem dX12_runs_26 : decode cX12_runs 26 = .ok (.getfield 13, 3) := by decide +kernel
theorem dX12_runs_29 : decode cX12_runs 29 = .ok (.iconst (-1), 1) := by decide +kernel
theorem dX12_runs_30 : decode cX12_runs 30 = .ok (.if_icmp .eq 16, 3) := by decide +kernel
theorem dX12_runs_33 : decode cX12_runs 33 = .ok (.aload_n 0, 1) := by decide +kernel
theorem dX12_runs_34 : decode cX12_runs 34 = .ok (.aload_n 0, 1) := by decide +kernel
theorem dX12_runs_35 : decode cX12_runs 35 = .ok (.getfield 13, 3) := by decide +kernel
theorem dX12_runs_38 : decode cX12_runs 38 = .ok (.iload_n 1, 1) := by decide +kernel
theorem dX12_runs_39 : decode cX12_runs 39 = .ok (.iload_n 2, 1) := by decide +kernel
theorem dX12_runs_40 : decode cX12_runs 40 = .ok (.invokevirtual 307, 3) := by decide +kernel
theorem dX12_runs_43 : decode cX12_runs 43 = .ok (.ifCond .gt 7, 3) := by decide +kernel
theorem dX12_runs_46 : decode cX12_runs 46 = .ok (.iconst 1, 1) := by decide +kernel
theorem dX12_runs_47 : decode cX12_runs 47 = .ok (.goto 19, 3) := by decide +kernel
theorem dX12_runs_50 : decode cX12_runs 50 = .ok (.iconst 0, 1) := by decide +kernel
theorem dX12_runs_51 : decode cX12_runs 51 = .ok (.goto 15, 3) := by decide +kernel
theorem dX12_runs_54 : decode cX12_runs 54 = .ok (.aload_n 0, 1) := by decide +kernel
theorem dX12_runs_55 : decode cX12_runs 55 = .ok (.getfield 69, 3) := by decide +kernel
theorem dX12_runs_58 : decode cX12_runs 58 = .ok (.ifCond .ne 7, 3) := by decide +kernel
theorem dX12_runs_61 : decode cX12_runs 61 = .ok (.iconst 1, 1) := by decide +kernel
theorem dX12_runs_62 : decode cX12_runs 62 = .ok (.goto 4, 3) := by decide +kernel
theorem dX12_runs_65 : decode cX12_runs 65 = .ok (.iconst 0, 1) := by decide +kernel
theorem dX12_runs_66 : decode cX12_runs 66 = .ok (.ireturn, 1) := by decide +kernel
theorem dX12_begins0_0 : decode cX12_begins0 0 = .ok (.aload_n 0, 1) := by decide +kernel
theorem dX12_begins0_1 : decode cX12_begins0 1 = .ok (.iconst 0, 1) := by decide +kernel
theorem dX12_begins0_2 : decode cX12_begins0 2 = .ok (.putfield 300, 3) := by decide +kernel
theorem dX12_begins0_5 : decode cX12_begins0 5 = .ok (.iconst 0, 1) := by decide +kernel
theorem dX12_begins0_6 : decode cX12_begins0 6 = .ok (.istore_n 1, 1) := by decide +kernel
theorem dX12_begins0_7 : decode cX12_begins0 7 = .ok (.iload_n 1, 1) := by decide +kernel
theorem dX12_begins0_8 : decode cX12_begins0 8 = .ok (.aload_n 0, 1) := by decide +kernel
theorem dX12_begins0_9 : decode cX12_begins0 9 = .ok (.getfield 269, 3) := by decide +kernel
theorem dX12_begins0_12 : decode cX12_begins0 12 = .ok (.if_icmp .ge 23, 3) := by decide +kernel
theorem dX12_begins0_15 : decode cX12_begins0 15 = .ok (.aload_n 0, 1) := by decide +kernel
theorem dX12_begins0_16 : decode cX12_begins0 16 = .ok (.getfield 63, 3) := by decide +kernel
theorem dX12_begins0_19 : decode cX12_begins0 19 = .ok (.iload_n 1, 1) := by decide +kernel
theorem dX12_begins0_20 : decode cX12_begins0 20 = .ok (.iconst 0, 1) := by decide +kernel
theorem dX12_begins0_21 : decode cX12_begins0 21 = .ok (.iastore, 1) := by decide +kernel
theorem dX12_begins0_22 : decode cX12_begins0 22 = .ok (.aload_n 0, 1) := by decide +kernel
theorem dX12_begins0_23 : decode cX12_begins0 23 = .ok (.getfield 66, 3) := by decide +kernel
theorem dX12_begins0_26 : decode cX12_begins0 26 = .ok (.iload_n 1, 1) := by decide +kernel
theorem dX12_begins0_27 : decode cX12_begins0 27 = .ok (.iconst 0, 1) := by decide +kernel
theorem dX12_begins0_28 : decode cX12_begins0 28 = .ok (.iastore, 1) := by decide +kernel
theorem dX12_begins0_29 : decode cX12_begins0 29 = .ok (.iinc 1 1, 3) := by decide +kernel
theorem dX12_begins0_32 : decode cX12_begins0 32 = .ok (.goto (-25), 3) := by decide +kernel
theorem dX12_begins0_35 : decode cX12_begins0 35 = .ok (.return_, 1) := by decide +kernel
theorem dX12_hourGoes_0 : decode cX12_hourGoes 0 = .ok (.aload_n 0, 1) := by decide +kernel
theorem dX12_hourGoes_1 : decode cX12_hourGoes 1 = .ok (.invokevirtual 310, 3) := by decide +kernel
theorem dX12_hourGoes_4 : decode cX12_hourGoes 4 = .ok (.aload_n 0, 1) := by decide +kernel
theorem dX12_hourGoes_5 : decode cX12_hourGoes 5 = .ok (.iconst 0, 1) := by decide +kernel
theorem dX12_hourGoes_6 : decode cX12_hourGoes 6 = .ok (.putfield 293, 3) := by decide +kernel
theorem dX12_hourGoes_9 : decode cX12_hourGoes 9 = .ok (.iconst 0, 1) := by decide +kernel
theorem dX12_hourGoes_10 : decode cX12_hourGoes 10 = .ok (.istore_n 2, 1) := by decide +kernel
theorem dX12_hourGoes_11 : decode cX12_hourGoes 11 = .ok (.iload_n 2, 1) := by decide +kernel
theorem dX12_hourGoes_12 : decode cX12_hourGoes 12 = .ok (.aload_n 0, 1) := by decide +kernel
theorem dX12_hourGoes_13 : decode cX12_hourGoes 13 = .ok (.getfield 269, 3) := by decide +kernel
theorem dX12_hourGoes_16 : decode cX12_hourGoes 16 = .ok (.if_icmp .ge 41, 3) := by decide +kernel
theorem dX12_hourGoes_19 : decode cX12_hourGoes 19 = .ok (.aload_n 0, 1) := by decide +kernel
theorem dX12_hourGoes_20 : decode cX12_hourGoes 20 = .ok (.iload_n 1, 1) := by decide +kernel
theorem dX12_hourGoes_21 : decode cX12_hourGoes 21 = .ok (.iload_n 2, 1) := by decide +kernel
theorem dX12_hourGoes_22 : decode cX12_hourGoes 22 = .ok (.aload_n 0, 1) := by decide +kernel
theorem dX12_hourGoes_23 : decode cX12_hourGoes 23 = .ok (.getfield 63, 3) := by decide +kernel
theorem dX12_hourGoes_26 : decode cX12_hourGoes 26 = .ok (.iload_n 2, 1) := by decide +kernel
theorem dX12_hourGoes_27 : decode cX12_hourGoes 27 = .ok (.iaload, 1) := by decide +kernel
theorem dX12_hourGoes_28 : decode cX12_hourGoes 28 = .ok (.aload_n 0, 1) := by decide +kernel
theorem dX12_hourGoes_29 : decode cX12_hourGoes 29 = .ok (.iload_n 1, 1) := by decide +kernel
theorem dX12_hourGoes_30 : decode cX12_hourGoes 30 = .ok (.iload_n 2, 1) := by decide +kernel
theorem dX12_hourGoes_31 : decode cX12_hourGoes 31 = .ok (.invokevirtual 313, 3) := by decide +kernel
theorem dX12_hourGoes_34 : decode cX12_hourGoes 34 = .ok (.ifCond .eq 12, 3) := by decide +kernel
theorem dX12_hourGoes_37 : decode cX12_hourGoes 37 = .ok (.aload_n 0, 1) := by decide +kernel
theorem dX12_hourGoes_38 : decode cX12_hourGoes 38 = .ok (.getfield 16, 3) := by decide +kernel
theorem dX12_hourGoes_41 : decode cX12_hourGoes 41 = .ok (.iload_n 2, 1) := by decide +kernel
theorem dX12_hourGoes_42 : decode cX12_hourGoes 42 = .ok (.iaload, 1) := by decide +kernel
theorem dX12_hourGoes_43 : decode cX12_hourGoes 43 = .ok (.goto 4, 3) := by decide +kernel
theorem dX12_hourGoes_46 : decode cX12_hourGoes 46 = .ok (.iconst 0, 1) := by decide +kernel
theorem dX12_hourGoes_47 : decode cX12_hourGoes 47 = .ok (.iadd, 1) := by decide +kernel
theorem dX12_hourGoes_48 : decode cX12_hourGoes 48 = .ok (.invokevirtual 317, 3) := by decide +kernel
theorem dX12_hourGoes_51 : decode cX12_hourGoes 51 = .ok (.iinc 2 1, 3) := by decide +kernel
theorem dX12_hourGoes_54 : decode cX12_hourGoes 54 = .ok (.goto (-43), 3) := by decide +kernel
theorem dX12_hourGoes_57 : decode cX12_hourGoes 57 = .ok (.iconst 0, 1) := by decide +kernel
theorem dX12_hourGoes_58 : decode cX12_hourGoes 58 = .ok (.istore_n 2, 1) := by decide +kernel
theorem dX12_hourGoes_59 : decode cX12_hourGoes 59 = .ok (.iload_n 2, 1) := by decide +kernel
theorem dX12_hourGoes_60 : decode cX12_hourGoes 60 = .ok (.aload_n 0, 1) := by decide +kernel
theorem dX12_hourGoes_61 : decode cX12_hourGoes 61 = .ok (.getfield 269, 3) := by decide +kernel
theorem dX12_hourGoes_64 : decode cX12_hourGoes 64 = .ok (.if_icmp .ge 68, 3) := by decide +kernel
theorem dX12_hourGoes_67 : decode cX12_hourGoes 67 = .ok (.aload_n 0, 1) := by decide +kernel
theorem dX12_hourGoes_68 : decode cX12_hourGoes 68 = .ok (.getfield 9, 3) := by decide +kernel
theorem dX12_hourGoes_71 : decode cX12_hourGoes 71 = .ok (.iconst (-1), 1) := by decide +kernel
theorem dX12_hourGoes_72 : decode cX12_hourGoes 72 = .ok (.if_icmp .eq 60, 3) := by decide +kernel
theorem dX12_hourGoes_75 : decode cX12_hourGoes 75 = .ok (.aload_n 0, 1) := by decide +kernel
theorem dX12_hourGoes_76 : decode cX12_hourGoes 76 = .ok (.aload_n 0, 1) := by decide +kernel
theorem dX12_hourGoes_77 : decode cX12_hourGoes 77 = .ok (.getfield 9, 3) := by decide +kernel
theorem dX12_hourGoes_80 : decode cX12_hourGoes 80 = .ok (.iload_n 1, 1) := by decide +kernel
theorem dX12_hourGoes_81 : decode cX12_hourGoes 81 = .ok (.iload_n 2, 1) := by decide +kernel
theorem dX12_hourGoes_82 : decode cX12_hourGoes 82 = .ok (.invokevirtual 307, 3) := by decide +kernel
theorem dX12_hourGoes_85 : decode cX12_hourGoes 85 = .ok (.iconst 0, 1) := by decide +kernel
theorem dX12_hourGoes_86 : decode cX12_hourGoes 86 = .ok (.aload_n 0, 1) := by decide +kernel
theorem dX12_hourGoes_87 : decode cX12_hourGoes 87 = .ok (.getfield 51, 3) := by decide +kernel
theorem dX12_hourGoes_90 : decode cX12_hourGoes 90 = .ok (.iload_n 1, 1) := by decide +kernel
theorem dX12_hourGoes_91 : decode cX12_hourGoes 91 = .ok (.bipush 10, 2) := by decide +kernel
theorem dX12_hourGoes_93 : decode cX12_hourGoes 93 = .ok (.iadd, 1) := by decide +kernel
theorem dX12_hourGoes_94 : decode cX12_hourGoes 94 = .ok (.iload_n 2, 1) := by decide +kernel
theorem dX12_hourGoes_95 : decode cX12_hourGoes 95 = .ok (.iadd, 1) := by decide +kernel
theorem dX12_hourGoes_96 : decode cX12_hourGoes 96 = .ok (.iaload, 1) := by decide +kernel
theorem dX12_hourGoes_97 : decode cX12_hourGoes 97 = .ok (.invokestatic 320, 3) := by decide +kernel
theorem dX12_hourGoes_100 : decode cX12_hourGoes 100 = .ok (.istore_n 3, 1) := by decide +kernel
theorem dX12_hourGoes_101 : decode cX12_hourGoes 101 = .ok (.aload_n 0, 1) := by decide +kernel
theorem dX12_hourGoes_102 : decode cX12_hourGoes 102 = .ok (.getfield 51, 3) := by decide +kernel
theorem dX12_hourGoes_105 : decode cX12_hourGoes 105 = .ok (.iload_n 1, 1) := by decide +kernel
theorem dX12_hourGoes_106 : decode cX12_hourGoes 106 = .ok (.bipush 10, 2) := by decide +kernel
theorem dX12_hourGoes_108 : decode cX12_hourGoes 108 = .ok (.iadd, 1) := by decide +kernel
theorem dX12_hourGoes_109 : decode cX12_hourGoes 109 = .ok (.iload_n 2, 1) := by decide +kernel
theorem dX12_hourGoes_110 : decode cX12_hourGoes 110 = .ok (.iadd, 1) := by decide +kernel
theorem dX12_hourGoes_111 : decode cX12_hourGoes 111 = .ok (.dup2, 1) := by decide +kernel
theorem dX12_hourGoes_112 : decode cX12_hourGoes 112 = .ok (.iaload, 1) := by decide +kernel
theorem dX12_hourGoes_113 : decode cX12_hourGoes 113 = .ok (.iload_n 3, 1) := by decide +kernel
theorem dX12_hourGoes_114 : decode cX12_hourGoes 114 = .ok (.isub, 1) := by decide +kernel
theorem dX12_hourGoes_115 : decode cX12_hourGoes 115 = .ok (.iastore, 1) := by decide +kernel
theorem dX12_hourGoes_116 : decode cX12_hourGoes 116 = .ok (.aload_n 0, 1) := by decide +kernel
theorem dX12_hourGoes_117 : decode cX12_hourGoes 117 = .ok (.dup, 1) := by decide +kernel
theorem dX12_hourGoes_118 : decode cX12_hourGoes 118 = .ok (.getfield 293, 3) := by decide +kernel
theorem dX12_hourGoes_121 : decode cX12_hourGoes 121 = .ok (.iload_n 3, 1) := by decide +kernel
theorem dX12_hourGoes_122 : decode cX12_hourGoes 122 = .ok (.iadd, 1) := by decide +kernel
theorem dX12_hourGoes_123 : decode cX12_hourGoes 123 = .ok (.putfield 293, 3) := by decide +kernel
theorem dX12_hourGoes_126 : decode cX12_hourGoes 126 = .ok (.iinc 2 1, 3) := by decide +kernel
theorem dX12_hourGoes_129 : decode cX12_hourGoes 129 = .ok (.goto (-70), 3) := by decide +kernel
theorem dX12_hourGoes_132 : decode cX12_hourGoes 132 = .ok (.aload_n 0, 1) := by decide +kernel
theorem dX12_hourGoes_133 : decode cX12_hourGoes 133 = .ok (.getfield 51, 3) := by decide +kernel
theorem dX12_hourGoes_136 : decode cX12_hourGoes 136 = .ok (.iload_n 1, 1) := by decide +kernel
theorem dX12_hourGoes_137 : decode cX12_hourGoes 137 = .ok (.iconst 0, 1) := by decide +kernel
theorem dX12_hourGoes_138 : decode cX12_hourGoes 138 = .ok (.iadd, 1) := by decide +kernel
theorem dX12_hourGoes_139 : decode cX12_hourGoes 139 = .ok (.dup2, 1) := by decide +kernel
theorem dX12_hourGoes_140 : decode cX12_hourGoes 140 = .ok (.iaload, 1) := by decide +kernel
theorem dX12_hourGoes_141 : decode cX12_hourGoes 141 = .ok (.iconst 1, 1) := by decide +kernel
theorem dX12_hourGoes_142 : decode cX12_hourGoes 142 = .ok (.iadd, 1) := by decide +kernel
theorem dX12_hourGoes_143 : decode cX12_hourGoes 143 = .ok (.iastore, 1) := by decide +kernel
theorem dX12_hourGoes_144 : decode cX12_hourGoes 144 = .ok (.return_, 1) := by decide +kernel
theorem dX12_hoursGo_0 : decode cX12_hoursGo 0 = .ok (.iconst 0, 1) := by decide +kernel
theorem dX12_hoursGo_1 : decode cX12_hoursGo 1 = .ok (.istore_n 2, 1) := by decide +kernel
theorem dX12_hoursGo_2 : decode cX12_hoursGo 2 = .ok (.iload_n 2, 1) := by decide +kernel
theorem dX12_hoursGo_3 : decode cX12_hoursGo 3 = .ok (.iload_n 1, 1) := by decide +kernel
theorem dX12_hoursGo_4 : decode cX12_hoursGo 4 = .ok (.if_icmp .ge 15, 3) := by decide +kernel
theorem dX12_hoursGo_7 : decode cX12_hoursGo 7 = .ok (.aload_n 0, 1) := by decide +kernel
theorem dX12_hoursGo_8 : decode cX12_hoursGo 8 = .ok (.bipush 64, 2) := by decide +kernel
theorem dX12_hoursGo_10 : decode cX12_hoursGo 10 = .ok (.invokevirtual 323, 3) := by decide +kernel
theorem dX12_hoursGo_13 : decode cX12_hoursGo 13 = .ok (.iinc 2 1, 3) := by decide +kernel
theorem dX12_hoursGo_16 : decode cX12_hoursGo 16 = .ok (.goto (-14), 3) := by decide +kernel
theorem dX12_hoursGo_19 : decode cX12_hoursGo 19 = .ok (.return_, 1) := by decide +kernel
theorem dX12_roots_0 : decode cX12_roots 0 = .ok (.iconst 0, 1) := by decide +kernel
theorem dX12_roots_1 : decode cX12_roots 1 = .ok (.istore_n 1, 1) := by decide +kernel
theorem dX12_roots_2 : decode cX12_roots 2 = .ok (.iconst 0, 1) := by decide +kernel
theorem dX12_roots_3 : decode cX12_roots 3 = .ok (.istore_n 2, 1) := by decide +kernel
theorem dX12_roots_4 : decode cX12_roots 4 = .ok (.iload_n 2, 1) := by decide +kernel
theorem dX12_roots_5 : decode cX12_roots 5 = .ok (.aload_n 0, 1) := by decide +kernel
theorem dX12_roots_6 : decode cX12_roots 6 = .ok (.getfield 269, 3) := by decide +kernel
theorem dX12_roots_9 : decode cX12_roots 9 = .ok (.if_icmp .ge 27, 3) := by decide +kernel
theorem dX12_roots_12 : decode cX12_roots 12 = .ok (.iload_n 1, 1) := by decide +kernel
theorem dX12_roots_13 : decode cX12_roots 13 = .ok (.aload_n 0, 1) := by decide +kernel
theorem dX12_roots_14 : decode cX12_roots 14 = .ok (.iload_n 2, 1) := by decide +kernel
theorem dX12_roots_15 : decode cX12_roots 15 = .ok (.invokevirtual 326, 3) := by decide +kernel
theorem dX12_roots_18 : decode cX12_roots 18 = .ok (.ifCond .ne 9, 3) := by decide +kernel
theorem dX12_roots_21 : decode cX12_roots 21 = .ok (.iconst 1, 1) := by decide +kernel
theorem dX12_roots_22 : decode cX12_roots 22 = .ok (.iload_n 2, 1) := by decide +kernel
theorem dX12_roots_23 : decode cX12_roots 23 = .ok (.ishl, 1) := by decide +kernel
theorem dX12_roots_24 : decode cX12_roots 24 = .ok (.goto 4, 3) := by decide +kernel
theorem dX12_roots_27 : decode cX12_roots 27 = .ok (.iconst 0, 1) := by decide +kernel
theorem dX12_roots_28 : decode cX12_roots 28 = .ok (.ior, 1) := by decide +kernel
theorem dX12_roots_29 : decode cX12_roots 29 = .ok (.istore_n 1, 1) := by decide +kernel
theorem dX12_roots_30 : decode cX12_roots 30 = .ok (.iinc 2 1, 3) := by decide +kernel
theorem dX12_roots_33 : decode cX12_roots 33 = .ok (.goto (-29), 3) := by decide +kernel
theorem dX12_roots_36 : decode cX12_roots 36 = .ok (.iload_n 1, 1) := by decide +kernel
theorem dX12_roots_37 : decode cX12_roots 37 = .ok (.ireturn, 1) := by decide +kernel
theorem dX12_goesInto_0 : decode cX12_goesInto 0 = .ok (.aload_n 0, 1) := by decide +kernel
theorem dX12_goesInto_1 : decode cX12_goesInto 1 = .ok (.getfield 51, 3) := by decide +kernel
theorem dX12_goesInto_4 : decode cX12_goesInto 4 = .ok (.bipush 19, 2) := by decide +kernel
theorem dX12_goesInto_6 : decode cX12_goesInto 6 = .ok (.iload_n 1, 1) := by decide +kernel
theorem dX12_goesInto_7 : decode cX12_goesInto 7 = .ok (.iadd, 1) := by decide +kernel
theorem dX12_goesInto_8 : decode cX12_goesInto 8 = .ok (.iaload, 1) := by decide +kernel
theorem dX12_goesInto_9 : decode cX12_goesInto 9 = .ok (.iload_n 2, 1) := by decide +kernel
theorem dX12_goesInto_10 : decode cX12_goesInto 10 = .ok (.if_icmp .eq 16, 3) := by decide +kernel
theorem dX12_goesInto_13 : decode cX12_goesInto 13 = .ok (.aload_n 0, 1) := by decide +kernel
theorem dX12_goesInto_14 : decode cX12_goesInto 14 = .ok (.getfield 51, 3) := by decide +kernel
theorem dX12_goesInto_17 : decode cX12_goesInto 17 = .ok (.bipush 28, 2) := by decide +kernel
theorem dX12_goesInto_19 : decode cX12_goesInto 19 = .ok (.iload_n 1, 1) := by decide +kernel
theorem dX12_goesInto_20 : decode cX12_goesInto 20 = .ok (.iadd, 1) := by decide +kernel
theorem dX12_goesInto_21 : decode cX12_goesInto 21 = .ok (.iaload, 1) := by decide +kernel
theorem dX12_goesInto_22 : decode cX12_goesInto 22 = .ok (.iload_n 2, 1) := by decide +kernel
theorem dX12_goesInto_23 : decode cX12_goesInto 23 = .ok (.if_icmp .ne 7, 3) := by decide +kernel
theorem dX12_goesInto_26 : decode cX12_goesInto 26 = .ok (.iconst 1, 1) := by decide +kernel
theorem dX12_goesInto_27 : decode cX12_goesInto 27 = .ok (.goto 4, 3) := by decide +kernel
theorem dX12_goesInto_30 : decode cX12_goesInto 30 = .ok (.iconst 0, 1) := by decide +kernel
theorem dX12_goesInto_31 : decode cX12_goesInto 31 = .ok (.ireturn, 1) := by decide +kernel
theorem dX12_giversOf_0 : decode cX12_giversOf 0 = .ok (.iconst 0, 1) := by decide +kernel
theorem dX12_giversOf_1 : decode cX12_giversOf 1 = .ok (.istore_n 2, 1) := by decide +kernel
theorem dX12_giversOf_2 : decode cX12_giversOf 2 = .ok (.iconst 0, 1) := by decide +kernel
theorem dX12_giversOf_3 : decode cX12_giversOf 3 = .ok (.istore_n 3, 1) := by decide +kernel
theorem dX12_giversOf_4 : decode cX12_giversOf 4 = .ok (.iload_n 3, 1) := by decide +kernel
theorem dX12_giversOf_5 : decode cX12_giversOf 5 = .ok (.aload_n 0, 1) := by decide +kernel
theorem dX12_giversOf_6 : decode cX12_giversOf 6 = .ok (.getfield 269, 3) := by decide +kernel
theorem dX12_giversOf_9 : decode cX12_giversOf 9 = .ok (.if_icmp .ge 28, 3) := by decide +kernel
theorem dX12_giversOf_12 : decode cX12_giversOf 12 = .ok (.iload_n 2, 1) := by decide +kernel
theorem dX12_giversOf_13 : decode cX12_giversOf 13 = .ok (.aload_n 0, 1) := by decide +kernel
theorem dX12_giversOf_14 : decode cX12_giversOf 14 = .ok (.iload_n 3, 1) := by decide +kernel
theorem dX12_giversOf_15 : decode cX12_giversOf 15 = .ok (.iload_n 1, 1) := by decide +kernel
theorem dX12_giversOf_16 : decode cX12_giversOf 16 = .ok (.invokevirtual 329, 3) := by decide +kernel
theorem dX12_giversOf_19 : decode cX12_giversOf 19 = .ok (.ifCond .eq 9, 3) := by decide +kernel
theorem dX12_giversOf_22 : decode cX12_giversOf 22 = .ok (.iconst 1, 1) := by decide +kernel
theorem dX12_giversOf_23 : decode cX12_giversOf 23 = .ok (.iload_n 3, 1) := by decide +kernel
theorem dX12_giversOf_24 : decode cX12_giversOf 24 = .ok (.ishl, 1) := by decide +kernel
theorem dX12_giversOf_25 : decode cX12_giversOf 25 = .ok (.goto 4, 3) := by decide +kernel
theorem dX12_giversOf_28 : decode cX12_giversOf 28 = .ok (.iconst 0, 1) := by decide +kernel
theorem dX12_giversOf_29 : decode cX12_giversOf 29 = .ok (.ior, 1) := by decide +kernel
theorem dX12_giversOf_30 : decode cX12_giversOf 30 = .ok (.istore_n 2, 1) := by decide +kernel
theorem dX12_giversOf_31 : decode cX12_giversOf 31 = .ok (.iinc 3 1, 3) := by decide +kernel
theorem dX12_giversOf_34 : decode cX12_giversOf 34 = .ok (.goto (-30), 3) := by decide +kernel
theorem dX12_giversOf_37 : decode cX12_giversOf 37 = .ok (.iload_n 2, 1) := by decide +kernel
theorem dX12_giversOf_38 : decode cX12_giversOf 38 = .ok (.ireturn, 1) := by decide +kernel
theorem dX12_sumOf_0 : decode cX12_sumOf 0 = .ok (.iconst 0, 1) := by decide +kernel
theorem dX12_sumOf_1 : decode cX12_sumOf 1 = .ok (.istore_n 3, 1) := by decide +kernel
theorem dX12_sumOf_2 : decode cX12_sumOf 2 = .ok (.iconst 0, 1) := by decide +kernel
theorem dX12_sumOf_3 : decode cX12_sumOf 3 = .ok (.istore 4, 2) := by decide +kernel
theorem dX12_sumOf_5 : decode cX12_sumOf 5 = .ok (.iload 4, 2) := by decide +kernel
theorem dX12_sumOf_7 : decode cX12_sumOf 7 = .ok (.aload_n 0, 1) := by decide +kernel
theorem dX12_sumOf_8 : decode cX12_sumOf 8 = .ok (.getfield 269, 3) := by decide +kernel
theorem dX12_sumOf_11 : decode cX12_sumOf 11 = .ok (.if_icmp .ge 29, 3) := by decide +kernel
theorem dX12_sumOf_14 : decode cX12_sumOf 14 = .ok (.ldc_w 296, 3) := by decide +kernel
theorem dX12_sumOf_17 : decode cX12_sumOf 17 = .ok (.iload_n 3, 1) := by decide +kernel
theorem dX12_sumOf_18 : decode cX12_sumOf 18 = .ok (.aload_n 0, 1) := by decide +kernel
theorem dX12_sumOf_19 : decode cX12_sumOf 19 = .ok (.getfield 51, 3) := by decide +kernel
theorem dX12_sumOf_22 : decode cX12_sumOf 22 = .ok (.iload_n 1, 1) := by decide +kernel
theorem dX12_sumOf_23 : decode cX12_sumOf 23 = .ok (.iload_n 2, 1) := by decide +kernel
theorem dX12_sumOf_24 : decode cX12_sumOf 24 = .ok (.iadd, 1) := by decide +kernel
theorem dX12_sumOf_25 : decode cX12_sumOf 25 = .ok (.iload 4, 2) := by decide +kernel
theorem dX12_sumOf_27 : decode cX12_sumOf 27 = .ok (.iadd, 1) := by decide +kernel
theorem dX12_sumOf_28 : decode cX12_sumOf 28 = .ok (.iaload, 1) := by decide +kernel
theorem dX12_sumOf_29 : decode cX12_sumOf 29 = .ok (.iadd, 1) := by decide +kernel
theorem dX12_sumOf_30 : decode cX12_sumOf 30 = .ok (.invokestatic 297, 3) := by decide +kernel
theorem dX12_sumOf_33 : decode cX12_sumOf 33 = .ok (.istore_n 3, 1) := by decide +kernel
theorem dX12_sumOf_34 : decode cX12_sumOf 34 = .ok (.iinc 4 1, 3) := by decide +kernel
theorem dX12_sumOf_37 : decode cX12_sumOf 37 = .ok (.goto (-32), 3) := by decide +kernel
theorem dX12_sumOf_40 : decode cX12_sumOf 40 = .ok (.iload_n 3, 1) := by decide +kernel
theorem dX12_sumOf_41 : decode cX12_sumOf 41 = .ok (.ireturn, 1) := by decide +kernel
theorem dX12_alike_0 : decode cX12_alike 0 = .ok (.iconst 0, 1) := by decide +kernel
theorem dX12_alike_1 : decode cX12_alike 1 = .ok (.istore_n 1, 1) := by decide +kernel
theorem dX12_alike_2 : decode cX12_alike 2 = .ok (.iconst 0, 1) := by decide +kernel
theorem dX12_alike_3 : decode cX12_alike 3 = .ok (.istore_n 2, 1) := by decide +kernel
theorem dX12_alike_4 : decode cX12_alike 4 = .ok (.iload_n 2, 1) := by decide +kernel
theorem dX12_alike_5 : decode cX12_alike 5 = .ok (.aload_n 0, 1) := by decide +kernel
theorem dX12_alike_6 : decode cX12_alike 6 = .ok (.getfield 269, 3) := by decide +kernel
theorem dX12_alike_9 : decode cX12_alike 9 = .ok (.if_icmp .ge 85, 3) := by decide +kernel
theorem dX12_alike_12 : decode cX12_alike 12 = .ok (.iconst 0, 1) := by decide +kernel
theorem dX12_alike_13 : decode cX12_alike 13 = .ok (.istore_n 3, 1) := by decide +kernel
theorem dX12_alike_14 : decode cX12_alike 14 = .ok (.iload_n 3, 1) := by decide +kernel
theorem dX12_alike_15 : decode cX12_alike 15 = .ok (.iload_n 2, 1) := by decide +kernel
theorem dX12_alike_16 : decode cX12_alike 16 = .ok (.if_icmp .ge 72, 3) := by decide +kernel
theorem dX12_alike_19 : decode cX12_alike 19 = .ok (.iload_n 1, 1) := by decide +kernel
theorem dX12_alike_20 : decode cX12_alike 20 = .ok (.aload_n 0, 1) := by decide +kernel
theorem dX12_alike_21 : decode cX12_alike 21 = .ok (.getfield 51, 3) := by decide +kernel
theorem dX12_alike_24 : decode cX12_alike 24 = .ok (.iconst 1, 1) := by decide +kernel
theorem dX12_alike_25 : decode cX12_alike 25 = .ok (.iload_n 2, 1) := by decide +kernel
theorem dX12_alike_26 : decode cX12_alike 26 = .ok (.iadd, 1) := by decide +kernel
theorem dX12_alike_27 : decode cX12_alike 27 = .ok (.iaload, 1) := by decide +kernel
theorem dX12_alike_28 : decode cX12_alike 28 = .ok (.aload_n 0, 1) := by decide +kernel
theorem dX12_alike_29 : decode cX12_alike 29 = .ok (.getfield 51, 3) := by decide +kernel
theorem dX12_alike_32 : decode cX12_alike 32 = .ok (.iconst 1, 1) := by decide +kernel
theorem dX12_alike_33 : decode cX12_alike 33 = .ok (.iload_n 3, 1) := by decide +kernel
theorem dX12_alike_34 : decode cX12_alike 34 = .ok (.iadd, 1) := by decide +kernel
theorem dX12_alike_35 : decode cX12_alike 35 = .ok (.iaload, 1) := by decide +kernel
theorem dX12_alike_36 : decode cX12_alike 36 = .ok (.if_icmp .ne 43, 3) := by decide +kernel
theorem dX12_alike_39 : decode cX12_alike 39 = .ok (.aload_n 0, 1) := by decide +kernel
theorem dX12_alike_40 : decode cX12_alike 40 = .ok (.getfield 51, 3) := by decide +kernel
theorem dX12_alike_43 : decode cX12_alike 43 = .ok (.bipush 10, 2) := by decide +kernel
theorem dX12_alike_45 : decode cX12_alike 45 = .ok (.iload_n 2, 1) := by decide +kernel
theorem dX12_alike_46 : decode cX12_alike 46 = .ok (.iadd, 1) := by decide +kernel
theorem dX12_alike_47 : decode cX12_alike 47 = .ok (.iaload, 1) := by decide +kernel
theorem dX12_alike_48 : decode cX12_alike 48 = .ok (.aload_n 0, 1) := by decide +kernel
theorem dX12_alike_49 : decode cX12_alike 49 = .ok (.getfield 51, 3) := by decide +kernel
theorem dX12_alike_52 : decode cX12_alike 52 = .ok (.bipush 10, 2) := by decide +kernel
theorem dX12_alike_54 : decode cX12_alike 54 = .ok (.iload_n 3, 1) := by decide +kernel
theorem dX12_alike_55 : decode cX12_alike 55 = .ok (.iadd, 1) := by decide +kernel
theorem dX12_alike_56 : decode cX12_alike 56 = .ok (.iaload, 1) := by decide +kernel
theorem dX12_alike_57 : decode cX12_alike 57 = .ok (.if_icmp .ne 22, 3) := by decide +kernel
theorem dX12_alike_60 : decode cX12_alike 60 = .ok (.aload_n 0, 1) := by decide +kernel
theorem dX12_alike_61 : decode cX12_alike 61 = .ok (.getfield 16, 3) := by decide +kernel
theorem dX12_alike_64 : decode cX12_alike 64 = .ok (.iload_n 2, 1) := by decide +kernel
theorem dX12_alike_65 : decode cX12_alike 65 = .ok (.iaload, 1) := by decide +kernel
theorem dX12_alike_66 : decode cX12_alike 66 = .ok (.aload_n 0, 1) := by decide +kernel
theorem dX12_alike_67 : decode cX12_alike 67 = .ok (.getfield 16, 3) := by decide +kernel
theorem dX12_alike_70 : decode cX12_alike 70 = .ok (.iload_n 3, 1) := by decide +kernel
theorem dX12_alike_71 : decode cX12_alike 71 = .ok (.iaload, 1) := by decide +kernel
theorem dX12_alike_72 : decode cX12_alike 72 = .ok (.if_icmp .ne 7, 3) := by decide +kernel
theorem dX12_alike_75 : decode cX12_alike 75 = .ok (.iconst 1, 1) := by decide +kernel
theorem dX12_alike_76 : decode cX12_alike 76 = .ok (.goto 4, 3) := by decide +kernel
theorem dX12_alike_79 : decode cX12_alike 79 = .ok (.iconst 0, 1) := by decide +kernel
theorem dX12_alike_80 : decode cX12_alike 80 = .ok (.iadd, 1) := by decide +kernel
theorem dX12_alike_81 : decode cX12_alike 81 = .ok (.istore_n 1, 1) := by decide +kernel
theorem dX12_alike_82 : decode cX12_alike 82 = .ok (.iinc 3 1, 3) := by decide +kernel
theorem dX12_alike_85 : decode cX12_alike 85 = .ok (.goto (-71), 3) := by decide +kernel
theorem dX12_alike_88 : decode cX12_alike 88 = .ok (.iinc 2 1, 3) := by decide +kernel
theorem dX12_alike_91 : decode cX12_alike 91 = .ok (.goto (-87), 3) := by decide +kernel
theorem dX12_alike_94 : decode cX12_alike 94 = .ok (.iload_n 1, 1) := by decide +kernel
theorem dX12_alike_95 : decode cX12_alike 95 = .ok (.ireturn, 1) := by decide +kernel
theorem dX12_plugged_0 : decode cX12_plugged 0 = .ok (.iconst 0, 1) := by decide +kernel
theorem dX12_plugged_1 : decode cX12_plugged 1 = .ok (.istore_n 1, 1) := by decide +kernel
theorem dX12_plugged_2 : decode cX12_plugged 2 = .ok (.iconst 0, 1) := by decide +kernel
theorem dX12_plugged_3 : decode cX12_plugged 3 = .ok (.istore_n 2, 1) := by decide +kernel
theorem dX12_plugged_4 : decode cX12_plugged 4 = .ok (.iload_n 2, 1) := by decide +kernel
theorem dX12_plugged_5 : decode cX12_plugged 5 = .ok (.aload_n 0, 1) := by decide +kernel
theorem dX12_plugged_6 : decode cX12_plugged 6 = .ok (.getfield 269, 3) := by decide +kernel
theorem dX12_plugged_9 : decode cX12_plugged 9 = .ok (.if_icmp .ge 23, 3) := by decide +kernel
theorem dX12_plugged_12 : decode cX12_plugged 12 = .ok (.iload_n 1, 1) := by decide +kernel
theorem dX12_plugged_13 : decode cX12_plugged 13 = .ok (.aload_n 0, 1) := by decide +kernel
theorem dX12_plugged_14 : decode cX12_plugged 14 = .ok (.getfield 51, 3) := by decide +kernel
theorem dX12_plugged_17 : decode cX12_plugged 17 = .ok (.bipush 55, 2) := by decide +kernel
theorem dX12_plugged_19 : decode cX12_plugged 19 = .ok (.iload_n 2, 1) := by decide +kernel
theorem dX12_plugged_20 : decode cX12_plugged 20 = .ok (.iadd, 1) := by decide +kernel
theorem dX12_plugged_21 : decode cX12_plugged 21 = .ok (.iaload, 1) := by decide +kernel
theorem dX12_plugged_22 : decode cX12_plugged 22 = .ok (.iload_n 2, 1) := by decide +kernel
theorem dX12_plugged_23 : decode cX12_plugged 23 = .ok (.ishl, 1) := by decide +kernel
theorem dX12_plugged_24 : decode cX12_plugged 24 = .ok (.ior, 1) := by decide +kernel
theorem dX12_plugged_25 : decode cX12_plugged 25 = .ok (.istore_n 1, 1) := by decide +kernel
theorem dX12_plugged_26 : decode cX12_plugged 26 = .ok (.iinc 2 1, 3) := by decide +kernel
theorem dX12_plugged_29 : decode cX12_plugged 29 = .ok (.goto (-25), 3) := by decide +kernel
theorem dX12_plugged_32 : decode cX12_plugged 32 = .ok (.iload_n 1, 1) := by decide +kernel
theorem dX12_plugged_33 : decode cX12_plugged 33 = .ok (.ireturn, 1) := by decide +kernel
theorem dX12_count_0 : decode cX12_count 0 = .ok (.aload_n 0, 1) := by decide +kernel
theorem dX12_count_1 : decode cX12_count 1 = .ok (.iconst 0, 1) := by decide +kernel
theorem dX12_count_2 : decode cX12_count 2 = .ok (.putfield 114, 3) := by decide +kernel
theorem dX12_count_5 : decode cX12_count 5 = .ok (.aload_n 0, 1) := by decide +kernel
theorem dX12_count_6 : decode cX12_count 6 = .ok (.iload_n 1, 1) := by decide +kernel
theorem dX12_count_7 : decode cX12_count 7 = .ok (.iconst 0, 1) := by decide +kernel
theorem dX12_count_8 : decode cX12_count 8 = .ok (.bipush 12, 2) := by decide +kernel
theorem dX12_count_10 : decode cX12_count 10 = .ok (.invokestatic 332, 3) := by decide +kernel
theorem dX12_count_13 : decode cX12_count 13 = .ok (.iconst 1, 1) := by decide +kernel
theorem dX12_count_14 : decode cX12_count 14 = .ok (.invokevirtual 262, 3) := by decide +kernel
theorem dX12_count_17 : decode cX12_count 17 = .ok (.ifCond .ne 5, 3) := by decide +kernel
theorem dX12_count_20 : decode cX12_count 20 = .ok (.iconst 0, 1) := by decide +kernel
theorem dX12_count_21 : decode cX12_count 21 = .ok (.ireturn, 1) := by decide +kernel
theorem dX12_count_22 : decode cX12_count 22 = .ok (.iload_n 1, 1) := by decide +kernel
theorem dX12_count_23 : decode cX12_count 23 = .ok (.tableswitch 111 0 9 #[53, 58, 65, 70, 78, 86, 91, 96, 101, 106], 53) := by decide +kernel
theorem dX12_count_76 : decode cX12_count 76 = .ok (.aload_n 0, 1) := by decide +kernel
theorem dX12_count_77 : decode cX12_count 77 = .ok (.getfield 269, 3) := by decide +kernel
theorem dX12_count_80 : decode cX12_count 80 = .ok (.ireturn, 1) := by decide +kernel
theorem dX12_count_81 : decode cX12_count 81 = .ok (.aload_n 0, 1) := by decide +kernel
theorem dX12_count_82 : decode cX12_count 82 = .ok (.getfield 51, 3) := by decide +kernel
theorem dX12_count_85 : decode cX12_count 85 = .ok (.iconst 0, 1) := by decide +kernel
theorem dX12_count_86 : decode cX12_count 86 = .ok (.iaload, 1) := by decide +kernel
theorem dX12_count_87 : decode cX12_count 87 = .ok (.ireturn, 1) := by decide +kernel
theorem dX12_count_88 : decode cX12_count 88 = .ok (.aload_n 0, 1) := by decide +kernel
theorem dX12_count_89 : decode cX12_count 89 = .ok (.invokevirtual 336, 3) := by decide +kernel
theorem dX12_count_92 : decode cX12_count 92 = .ok (.ireturn, 1) := by decide +kernel
theorem dX12_count_93 : decode cX12_count 93 = .ok (.aload_n 0, 1) := by decide +kernel
theorem dX12_count_94 : decode cX12_count 94 = .ok (.iconst 0, 1) := by decide +kernel
theorem dX12_count_95 : decode cX12_count 95 = .ok (.bipush 10, 2) := by decide +kernel
theorem dX12_count_97 : decode cX12_count 97 = .ok (.invokevirtual 339, 3) := by decide +kernel
theorem dX12_count_100 : decode cX12_count 100 = .ok (.ireturn, 1) := by decide +kernel
theorem dX12_count_101 : decode cX12_count 101 = .ok (.aload_n 0, 1) := by decide +kernel
theorem dX12_count_102 : decode cX12_count 102 = .ok (.iconst 0, 1) := by decide +kernel
theorem dX12_count_103 : decode cX12_count 103 = .ok (.bipush 46, 2) := by decide +kernel
theorem dX12_count_105 : decode cX12_count 105 = .ok (.invokevirtual 339, 3) := by decide +kernel
theorem dX12_count_108 : decode cX12_count 108 = .ok (.ireturn, 1) := by decide +kernel
theorem dX12_count_109 : decode cX12_count 109 = .ok (.aload_n 0, 1) := by decide +kernel
theorem dX12_count_110 : decode cX12_count 110 = .ok (.invokevirtual 342, 3) := by decide +kernel
theorem dX12_count_113 : decode cX12_count 113 = .ok (.ireturn, 1) := by decide +kernel
theorem dX12_count_114 : decode cX12_count 114 = .ok (.aload_n 0, 1) := by decide +kernel
theorem dX12_count_115 : decode cX12_count 115 = .ok (.invokevirtual 345, 3) := by decide +kernel
theorem dX12_count_118 : decode cX12_count 118 = .ok (.ireturn, 1) := by decide +kernel
theorem dX12_count_119 : decode cX12_count 119 = .ok (.aload_n 0, 1) := by decide +kernel
theorem dX12_count_120 : decode cX12_count 120 = .ok (.getfield 276, 3) := by decide +kernel
theorem dX12_count_123 : decode cX12_count 123 = .ok (.ireturn, 1) := by decide +kernel
theorem dX12_count_124 : decode cX12_count 124 = .ok (.aload_n 0, 1) := by decide +kernel
theorem dX12_count_125 : decode cX12_count 125 = .ok (.getfield 279, 3) := by decide +kernel
theorem dX12_count_128 : decode cX12_count 128 = .ok (.ireturn, 1) := by decide +kernel
theorem dX12_count_129 : decode cX12_count 129 = .ok (.aload_n 0, 1) := by decide +kernel
theorem dX12_count_130 : decode cX12_count 130 = .ok (.getfield 117, 3) := by decide +kernel
theorem dX12_count_133 : decode cX12_count 133 = .ok (.ireturn, 1) := by decide +kernel
theorem dX12_count_134 : decode cX12_count 134 = .ok (.aload_n 0, 1) := by decide +kernel
theorem dX12_count_135 : decode cX12_count 135 = .ok (.getfield 29, 3) := by decide +kernel
theorem dX12_count_138 : decode cX12_count 138 = .ok (.iload_n 1, 1) := by decide +kernel
theorem dX12_count_139 : decode cX12_count 139 = .ok (.bipush 10, 2) := by decide +kernel
theorem dX12_count_141 : decode cX12_count 141 = .ok (.isub, 1) := by decide +kernel
theorem dX12_count_142 : decode cX12_count 142 = .ok (.iaload, 1) := by decide +kernel
theorem dX12_count_143 : decode cX12_count 143 = .ok (.ireturn, 1) := by decide +kernel
theorem dX12_isCup_0 : decode cX12_isCup 0 = .ok (.aload_n 0, 1) := by decide +kernel
theorem dX12_isCup_1 : decode cX12_isCup 1 = .ok (.iload_n 1, 1) := by decide +kernel
theorem dX12_isCup_2 : decode cX12_isCup 2 = .ok (.ifCond .lt 15, 3) := by decide +kernel
theorem dX12_isCup_5 : decode cX12_isCup 5 = .ok (.iload_n 1, 1) := by decide +kernel
theorem dX12_isCup_6 : decode cX12_isCup 6 = .ok (.aload_n 0, 1) := by decide +kernel
theorem dX12_isCup_7 : decode cX12_isCup 7 = .ok (.getfield 269, 3) := by decide +kernel
theorem dX12_isCup_10 : decode cX12_isCup 10 = .ok (.if_icmp .ge 7, 3) := by decide +kernel
theorem dX12_isCup_13 : decode cX12_isCup 13 = .ok (.iconst 1, 1) := by decide +kernel
theorem dX12_isCup_14 : decode cX12_isCup 14 = .ok (.goto 4, 3) := by decide +kernel
theorem dX12_isCup_17 : decode cX12_isCup 17 = .ok (.iconst 0, 1) := by decide +kernel
theorem dX12_isCup_18 : decode cX12_isCup 18 = .ok (.iconst 1, 1) := by decide +kernel
theorem dX12_isCup_19 : decode cX12_isCup 19 = .ok (.invokevirtual 262, 3) := by decide +kernel
theorem dX12_isCup_22 : decode cX12_isCup 22 = .ok (.ireturn, 1) := by decide +kernel
theorem dX12_isWhat_0 : decode cX12_isWhat 0 = .ok (.aload_n 0, 1) := by decide +kernel
theorem dX12_isWhat_1 : decode cX12_isWhat 1 = .ok (.iload_n 1, 1) := by decide +kernel
theorem dX12_isWhat_2 : decode cX12_isWhat 2 = .ok (.iconst 0, 1) := by decide +kernel
theorem dX12_isWhat_3 : decode cX12_isWhat 3 = .ok (.iload_n 2, 1) := by decide +kernel
theorem dX12_isWhat_4 : decode cX12_isWhat 4 = .ok (.invokestatic 332, 3) := by decide +kernel
theorem dX12_isWhat_7 : decode cX12_isWhat 7 = .ok (.iconst 1, 1) := by decide +kernel
theorem dX12_isWhat_8 : decode cX12_isWhat 8 = .ok (.invokevirtual 262, 3) := by decide +kernel
theorem dX12_isWhat_11 : decode cX12_isWhat 11 = .ok (.ireturn, 1) := by decide +kernel
theorem dX12_isSome_0 : decode cX12_isSome 0 = .ok (.aload_n 0, 1) := by decide +kernel
theorem dX12_isSome_1 : decode cX12_isSome 1 = .ok (.iload_n 1, 1) := by decide +kernel
theorem dX12_isSome_2 : decode cX12_isSome 2 = .ok (.ifCond .lt 17, 3) := by decide +kernel
theorem dX12_isSome_5 : decode cX12_isSome 5 = .ok (.iload_n 1, 1) := by decide +kernel
theorem dX12_isSome_6 : decode cX12_isSome 6 = .ok (.iconst 1, 1) := by decide +kernel
theorem dX12_isSome_7 : decode cX12_isSome 7 = .ok (.aload_n 0, 1) := by decide +kernel
theorem dX12_isSome_8 : decode cX12_isSome 8 = .ok (.getfield 269, 3) := by decide +kernel
theorem dX12_isSome_11 : decode cX12_isSome 11 = .ok (.ishl, 1) := by decide +kernel
theorem dX12_isSome_12 : decode cX12_isSome 12 = .ok (.if_icmp .ge 7, 3) := by decide +kernel
theorem dX12_isSome_15 : decode cX12_isSome 15 = .ok (.iconst 1, 1) := by decide +kernel
theorem dX12_isSome_16 : decode cX12_isSome 16 = .ok (.goto 4, 3) := by decide +kernel
theorem dX12_isSome_19 : decode cX12_isSome 19 = .ok (.iconst 0, 1) := by decide +kernel
theorem dX12_isSome_20 : decode cX12_isSome 20 = .ok (.iconst 1, 1) := by decide +kernel
theorem dX12_isSome_21 : decode cX12_isSome 21 = .ok (.invokevirtual 262, 3) := by decide +kernel
theorem dX12_isSome_24 : decode cX12_isSome 24 = .ok (.ireturn, 1) := by decide +kernel
theorem dX12_isSoon_0 : decode cX12_isSoon 0 = .ok (.aload_n 0, 1) := by decide +kernel
theorem dX12_isSoon_1 : decode cX12_isSoon 1 = .ok (.iload_n 1, 1) := by decide +kernel
theorem dX12_isSoon_2 : decode cX12_isSoon 2 = .ok (.iload_n 2, 1) := by decide +kernel
theorem dX12_isSoon_3 : decode cX12_isSoon 3 = .ok (.sipush 200, 3) := by decide +kernel
theorem dX12_isSoon_6 : decode cX12_isSoon 6 = .ok (.invokestatic 332, 3) := by decide +kernel
theorem dX12_isSoon_9 : decode cX12_isSoon 9 = .ok (.iload_n 3, 1) := by decide +kernel
theorem dX12_isSoon_10 : decode cX12_isSoon 10 = .ok (.invokevirtual 262, 3) := by decide +kernel
theorem dX12_isSoon_13 : decode cX12_isSoon 13 = .ok (.ireturn, 1) := by decide +kernel
theorem dX12_deep_0 : decode cX12_deep 0 = .ok (.aload_n 0, 1) := by decide +kernel
theorem dX12_deep_1 : decode cX12_deep 1 = .ok (.getfield 269, 3) := by decide +kernel
theorem dX12_deep_4 : decode cX12_deep 4 = .ok (.iconst 1, 1) := by decide +kernel
theorem dX12_deep_5 : decode cX12_deep 5 = .ok (.isub, 1) := by decide +kernel
theorem dX12_deep_6 : decode cX12_deep 6 = .ok (.istore_n 2, 1) := by decide +kernel
theorem dX12_deep_7 : decode cX12_deep 7 = .ok (.iload_n 2, 1) := by decide +kernel
theorem dX12_deep_8 : decode cX12_deep 8 = .ok (.ifCond .lt 66, 3) := by decide +kernel
theorem dX12_deep_11 : decode cX12_deep 11 = .ok (.aload_n 0, 1) := by decide +kernel
theorem dX12_deep_12 : decode cX12_deep 12 = .ok (.getfield 72, 3) := by decide +kernel
theorem dX12_deep_15 : decode cX12_deep 15 = .ok (.iload_n 2, 1) := by decide +kernel
theorem dX12_deep_16 : decode cX12_deep 16 = .ok (.iconst 0, 1) := by decide +kernel
theorem dX12_deep_17 : decode cX12_deep 17 = .ok (.iastore, 1) := by decide +kernel
theorem dX12_deep_18 : decode cX12_deep 18 = .ok (.iload_n 2, 1) := by decide +kernel
theorem dX12_deep_19 : decode cX12_deep 19 = .ok (.iconst 1, 1) := by decide +kernel
theorem dX12_deep_20 : decode cX12_deep 20 = .ok (.iadd, 1) := by decide +kernel
theorem dX12_deep_21 : decode cX12_deep 21 = .ok (.istore_n 3, 1) := by decide +kernel
theorem dX12_deep_22 : decode cX12_deep 22 = .ok (.iload_n 3, 1) := by decide +kernel
theorem dX12_deep_23 : decode cX12_deep 23 = .ok (.aload_n 0, 1) := by decide +kernel
theorem dX12_deep_24 : decode cX12_deep 24 = .ok (.getfield 269, 3) := by decide +kernel
theorem dX12_deep_27 : decode cX12_deep 27 = .ok (.if_icmp .ge 41, 3) := by decide +kernel
theorem dX12_deep_30 : decode cX12_deep 30 = .ok (.aload_n 0, 1) := by decide +kernel
theorem dX12_deep_31 : decode cX12_deep 31 = .ok (.iload_n 2, 1) := by decide +kernel
theorem dX12_deep_32 : decode cX12_deep 32 = .ok (.iload_n 3, 1) := by decide +kernel
theorem dX12_deep_33 : decode cX12_deep 33 = .ok (.invokevirtual 329, 3) := by decide +kernel
theorem dX12_deep_36 : decode cX12_deep 36 = .ok (.ifCond .eq 26, 3) := by decide +kernel
theorem dX12_deep_39 : decode cX12_deep 39 = .ok (.aload_n 0, 1) := by decide +kernel
theorem dX12_deep_40 : decode cX12_deep 40 = .ok (.getfield 72, 3) := by decide +kernel
theorem dX12_deep_43 : decode cX12_deep 43 = .ok (.iload_n 2, 1) := by decide +kernel
theorem dX12_deep_44 : decode cX12_deep 44 = .ok (.aload_n 0, 1) := by decide +kernel
theorem dX12_deep_45 : decode cX12_deep 45 = .ok (.getfield 72, 3) := by decide +kernel
theorem dX12_deep_48 : decode cX12_deep 48 = .ok (.iload_n 2, 1) := by decide +kernel
theorem dX12_deep_49 : decode cX12_deep 49 = .ok (.iaload, 1) := by decide +kernel
theorem dX12_deep_50 : decode cX12_deep 50 = .ok (.iconst 1, 1) := by decide +kernel
theorem dX12_deep_51 : decode cX12_deep 51 = .ok (.aload_n 0, 1) := by decide +kernel
theorem dX12_deep_52 : decode cX12_deep 52 = .ok (.getfield 72, 3) := by decide +kernel
theorem dX12_deep_55 : decode cX12_deep 55 = .ok (.iload_n 3, 1) := by decide +kernel
theorem dX12_deep_56 : decode cX12_deep 56 = .ok (.iaload, 1) := by decide +kernel
theorem dX12_deep_57 : decode cX12_deep 57 = .ok (.iadd, 1) := by decide +kernel
theorem dX12_deep_58 : decode cX12_deep 58 = .ok (.invokestatic 348, 3) := by decide +kernel
theorem dX12_deep_61 : decode cX12_deep 61 = .ok (.iastore, 1) := by decide +kernel
theorem dX12_deep_62 : decode cX12_deep 62 = .ok (.iinc 3 1, 3) := by decide +kernel
theorem dX12_deep_65 : decode cX12_deep 65 = .ok (.goto (-43), 3) := by decide +kernel
theorem dX12_deep_68 : decode cX12_deep 68 = .ok (.iinc 2 (-1), 3) := by decide +kernel
theorem dX12_deep_71 : decode cX12_deep 71 = .ok (.goto (-64), 3) := by decide +kernel
theorem dX12_deep_74 : decode cX12_deep 74 = .ok (.aload_n 0, 1) := by decide +kernel
theorem dX12_deep_75 : decode cX12_deep 75 = .ok (.getfield 72, 3) := by decide +kernel
theorem dX12_deep_78 : decode cX12_deep 78 = .ok (.iload_n 1, 1) := by decide +kernel
theorem dX12_deep_79 : decode cX12_deep 79 = .ok (.iaload, 1) := by decide +kernel
theorem dX12_deep_80 : decode cX12_deep 80 = .ok (.ireturn, 1) := by decide +kernel
theorem dX12_into_0 : decode cX12_into 0 = .ok (.aload_n 0, 1) := by decide +kernel
theorem dX12_into_1 : decode cX12_into 1 = .ok (.getfield 51, 3) := by decide +kernel
theorem dX12_into_4 : decode cX12_into 4 = .ok (.bipush 28, 2) := by decide +kernel
theorem dX12_into_6 : decode cX12_into 6 = .ok (.iload_n 1, 1) := by decide +kernel
theorem dX12_into_7 : decode cX12_into 7 = .ok (.iadd, 1) := by decide +kernel
theorem dX12_into_8 : decode cX12_into 8 = .ok (.iaload, 1) := by decide +kernel
theorem dX12_into_9 : decode cX12_into 9 = .ok (.iconst (-1), 1) := by decide +kernel
theorem dX12_into_10 : decode cX12_into 10 = .ok (.if_icmp .ne 13, 3) := by decide +kernel
theorem dX12_into_13 : decode cX12_into 13 = .ok (.aload_n 0, 1) := by decide +kernel
theorem dX12_into_14 : decode cX12_into 14 = .ok (.getfield 51, 3) := by decide +kernel
theorem dX12_into_17 : decode cX12_into 17 = .ok (.bipush 19, 2) := by decide +kernel
theorem dX12_into_19 : decode cX12_into 19 = .ok (.iload_n 1, 1) := by decide +kernel
theorem dX12_into_20 : decode cX12_into 20 = .ok (.iadd, 1) := by decide +kernel
theorem dX12_into_21 : decode cX12_into 21 = .ok (.iaload, 1) := by decide +kernel
theorem dX12_into_22 : decode cX12_into 22 = .ok (.ireturn, 1) := by decide +kernel
theorem dX12_into_23 : decode cX12_into 23 = .ok (.aload_n 0, 1) := by decide +kernel
theorem dX12_into_24 : decode cX12_into 24 = .ok (.getfield 51, 3) := by decide +kernel
theorem dX12_into_27 : decode cX12_into 27 = .ok (.bipush 37, 2) := by decide +kernel
theorem dX12_into_29 : decode cX12_into 29 = .ok (.iload_n 1, 1) := by decide +kernel
theorem dX12_into_30 : decode cX12_into 30 = .ok (.iadd, 1) := by decide +kernel
theorem dX12_into_31 : decode cX12_into 31 = .ok (.iaload, 1) := by decide +kernel
theorem dX12_into_32 : decode cX12_into 32 = .ok (.iload_n 2, 1) := by decide +kernel
theorem dX12_into_33 : decode cX12_into 33 = .ok (.iadd, 1) := by decide +kernel
theorem dX12_into_34 : decode cX12_into 34 = .ok (.iconst 2, 1) := by decide +kernel
theorem dX12_into_35 : decode cX12_into 35 = .ok (.irem, 1) := by decide +kernel
theorem dX12_into_36 : decode cX12_into 36 = .ok (.ifCond .ne 15, 3) := by decide +kernel
theorem dX12_into_39 : decode cX12_into 39 = .ok (.aload_n 0, 1) := by decide +kernel
theorem dX12_into_40 : decode cX12_into 40 = .ok (.getfield 51, 3) := by decide +kernel
theorem dX12_into_43 : decode cX12_into 43 = .ok (.bipush 19, 2) := by decide +kernel
theorem dX12_into_45 : decode cX12_into 45 = .ok (.iload_n 1, 1) := by decide +kernel
theorem dX12_into_46 : decode cX12_into 46 = .ok (.iadd, 1) := by decide +kernel
theorem dX12_into_47 : decode cX12_into 47 = .ok (.iaload, 1) := by decide +kernel
theorem dX12_into_48 : decode cX12_into 48 = .ok (.goto 12, 3) := by decide +kernel
theorem dX12_into_51 : decode cX12_into 51 = .ok (.aload_n 0, 1) := by decide +kernel
theorem dX12_into_52 : decode cX12_into 52 = .ok (.getfield 51, 3) := by decide +kernel
theorem dX12_into_55 : decode cX12_into 55 = .ok (.bipush 28, 2) := by decide +kernel
theorem dX12_into_57 : decode cX12_into 57 = .ok (.iload_n 1, 1) := by decide +kernel
theorem dX12_into_58 : decode cX12_into 58 = .ok (.iadd, 1) := by decide +kernel
theorem dX12_into_59 : decode cX12_into 59 = .ok (.iaload, 1) := by decide +kernel
theorem dX12_into_60 : decode cX12_into 60 = .ok (.ireturn, 1) := by decide +kernel
theorem dX12_cup_0 : decode cX12_cup 0 = .ok (.aload_n 0, 1) := by decide +kernel
theorem dX12_cup_1 : decode cX12_cup 1 = .ok (.iconst 0, 1) := by decide +kernel
theorem dX12_cup_2 : decode cX12_cup 2 = .ok (.putfield 114, 3) := by decide +kernel
theorem dX12_cup_5 : decode cX12_cup 5 = .ok (.aload_n 0, 1) := by decide +kernel
theorem dX12_cup_6 : decode cX12_cup 6 = .ok (.iload_n 1, 1) := by decide +kernel
theorem dX12_cup_7 : decode cX12_cup 7 = .ok (.invokevirtual 351, 3) := by decide +kernel
theorem dX12_cup_10 : decode cX12_cup 10 = .ok (.ifCond .eq 13, 3) := by decide +kernel
theorem dX12_cup_13 : decode cX12_cup 13 = .ok (.aload_n 0, 1) := by decide +kernel
theorem dX12_cup_14 : decode cX12_cup 14 = .ok (.iload_n 2, 1) := by decide +kernel
theorem dX12_cup_15 : decode cX12_cup 15 = .ok (.bipush 8, 2) := by decide +kernel
theorem dX12_cup_17 : decode cX12_cup 17 = .ok (.invokevirtual 354, 3) := by decide +kernel
theorem dX12_cup_20 : decode cX12_cup 20 = .ok (.ifCond .ne 5, 3) := by decide +kernel
theorem dX12_cup_23 : decode cX12_cup 23 = .ok (.iconst 0, 1) := by decide +kernel
theorem dX12_cup_24 : decode cX12_cup 24 = .ok (.ireturn, 1) := by decide +kernel
theorem dX12_cup_25 : decode cX12_cup 25 = .ok (.iload_n 2, 1) := by decide +kernel
theorem dX12_cup_26 : decode cX12_cup 26 = .ok (.tableswitch 112 0 7 #[46, 55, 65, 72, 79, 86, 96, 106], 46) := by decide +kernel
theorem dX12_cup_72 : decode cX12_cup 72 = .ok (.aload_n 0, 1) := by decide +kernel
theorem dX12_cup_73 : decode cX12_cup 73 = .ok (.getfield 51, 3) := by decide +kernel
theorem dX12_cup_76 : decode cX12_cup 76 = .ok (.iconst 1, 1) := by decide +kernel
theorem dX12_cup_77 : decode cX12_cup 77 = .ok (.iload_n 1, 1) := by decide +kernel
theorem dX12_cup_78 : decode cX12_cup 78 = .ok (.iadd, 1) := by decide +kernel
theorem dX12_cup_79 : decode cX12_cup 79 = .ok (.iaload, 1) := by decide +kernel
theorem dX12_cup_80 : decode cX12_cup 80 = .ok (.ireturn, 1) := by decide +kernel
theorem dX12_cup_81 : decode cX12_cup 81 = .ok (.aload_n 0, 1) := by decide +kernel
theorem dX12_cup_82 : decode cX12_cup 82 = .ok (.getfield 51, 3) := by decide +kernel
theorem dX12_cup_85 : decode cX12_cup 85 = .ok (.bipush 10, 2) := by decide +kernel
theorem dX12_cup_87 : decode cX12_cup 87 = .ok (.iload_n 1, 1) := by decide +kernel
theorem dX12_cup_88 : decode cX12_cup 88 = .ok (.iadd, 1) := by decide +kernel
theorem dX12_cup_89 : decode cX12_cup 89 = .ok (.iaload, 1) := by decide +kernel
theorem dX12_cup_90 : decode cX12_cup 90 = .ok (.ireturn, 1) := by decide +kernel
theorem dX12_cup_91 : decode cX12_cup 91 = .ok (.aload_n 0, 1) := by decide +kernel
theorem dX12_cup_92 : decode cX12_cup 92 = .ok (.getfield 16, 3) := by decide +kernel
theorem dX12_cup_95 : decode cX12_cup 95 = .ok (.iload_n 1, 1) := by decide +kernel
theorem dX12_cup_96 : decode cX12_cup 96 = .ok (.iaload, 1) := by decide +kernel
theorem dX12_cup_97 : decode cX12_cup 97 = .ok (.ireturn, 1) := by decide +kernel
theorem dX12_cup_98 : decode cX12_cup 98 = .ok (.aload_n 0, 1) := by decide +kernel
theorem dX12_cup_99 : decode cX12_cup 99 = .ok (.iload_n 1, 1) := by decide +kernel
theorem dX12_cup_100 : decode cX12_cup 100 = .ok (.iconst 0, 1) := by decide +kernel
theorem dX12_cup_101 : decode cX12_cup 101 = .ok (.invokevirtual 357, 3) := by decide +kernel
theorem dX12_cup_104 : decode cX12_cup 104 = .ok (.ireturn, 1) := by decide +kernel
theorem dX12_cup_105 : decode cX12_cup 105 = .ok (.aload_n 0, 1) := by decide +kernel
theorem dX12_cup_106 : decode cX12_cup 106 = .ok (.iload_n 1, 1) := by decide +kernel
theorem dX12_cup_107 : decode cX12_cup 107 = .ok (.iconst 1, 1) := by decide +kernel
theorem dX12_cup_108 : decode cX12_cup 108 = .ok (.invokevirtual 357, 3) := by decide +kernel
theorem dX12_cup_111 : decode cX12_cup 111 = .ok (.ireturn, 1) := by decide +kernel
theorem dX12_cup_112 : decode cX12_cup 112 = .ok (.aload_n 0, 1) := by decide +kernel
theorem dX12_cup_113 : decode cX12_cup 113 = .ok (.getfield 51, 3) := by decide +kernel
theorem dX12_cup_116 : decode cX12_cup 116 = .ok (.bipush 46, 2) := by decide +kernel
theorem dX12_cup_118 : decode cX12_cup 118 = .ok (.iload_n 1, 1) := by decide +kernel
theorem dX12_cup_119 : decode cX12_cup 119 = .ok (.iadd, 1) := by decide +kernel
theorem dX12_cup_120 : decode cX12_cup 120 = .ok (.iaload, 1) := by decide +kernel
theorem dX12_cup_121 : decode cX12_cup 121 = .ok (.ireturn, 1) := by decide +kernel
theorem dX12_cup_122 : decode cX12_cup 122 = .ok (.aload_n 0, 1) := by decide +kernel
theorem dX12_cup_123 : decode cX12_cup 123 = .ok (.getfield 51, 3) := by decide +kernel
theorem dX12_cup_126 : decode cX12_cup 126 = .ok (.bipush 55, 2) := by decide +kernel
theorem dX12_cup_128 : decode cX12_cup 128 = .ok (.iload_n 1, 1) := by decide +kernel
theorem dX12_cup_129 : decode cX12_cup 129 = .ok (.iadd, 1) := by decide +kernel
theorem dX12_cup_130 : decode cX12_cup 130 = .ok (.iaload, 1) := by decide +kernel
theorem dX12_cup_131 : decode cX12_cup 131 = .ok (.ireturn, 1) := by decide +kernel
theorem dX12_cup_132 : decode cX12_cup 132 = .ok (.aload_n 0, 1) := by decide +kernel
theorem dX12_cup_133 : decode cX12_cup 133 = .ok (.iload_n 1, 1) := by decide +kernel
theorem dX12_cup_134 : decode cX12_cup 134 = .ok (.invokevirtual 360, 3) := by decide +kernel
theorem dX12_cup_137 : decode cX12_cup 137 = .ok (.ireturn, 1) := by decide +kernel
theorem dX12_cup_138 : decode cX12_cup 138 = .ok (.aload_n 0, 1) := by decide +kernel
theorem dX12_cup_139 : decode cX12_cup 139 = .ok (.getfield 51, 3) := by decide +kernel
theorem dX12_cup_142 : decode cX12_cup 142 = .ok (.iconst 1, 1) := by decide +kernel
theorem dX12_cup_143 : decode cX12_cup 143 = .ok (.iload_n 1, 1) := by decide +kernel
theorem dX12_cup_144 : decode cX12_cup 144 = .ok (.iadd, 1) := by decide +kernel
theorem dX12_cup_145 : decode cX12_cup 145 = .ok (.iaload, 1) := by decide +kernel
theorem dX12_cup_146 : decode cX12_cup 146 = .ok (.aload_n 0, 1) := by decide +kernel
theorem dX12_cup_147 : decode cX12_cup 147 = .ok (.getfield 51, 3) := by decide +kernel
theorem dX12_cup_150 : decode cX12_cup 150 = .ok (.bipush 10, 2) := by decide +kernel
theorem dX12_cup_152 : decode cX12_cup 152 = .ok (.iload_n 1, 1) := by decide +kernel
theorem dX12_cup_153 : decode cX12_cup 153 = .ok (.iadd, 1) := by decide +kernel
theorem dX12_cup_154 : decode cX12_cup 154 = .ok (.iaload, 1) := by decide +kernel
theorem dX12_cup_155 : decode cX12_cup 155 = .ok (.isub, 1) := by decide +kernel
theorem dX12_cup_156 : decode cX12_cup 156 = .ok (.ireturn, 1) := by decide +kernel
theorem dX12_hours_0 : decode cX12_hours 0 = .ok (.aload_n 0, 1) := by decide +kernel
theorem dX12_hours_1 : decode cX12_hours 1 = .ok (.iconst 0, 1) := by decide +kernel
theorem dX12_hours_2 : decode cX12_hours 2 = .ok (.putfield 114, 3) := by decide +kernel
theorem dX12_hours_5 : decode cX12_hours 5 = .ok (.iload_n 1, 1) := by decide +kernel
theorem dX12_hours_6 : decode cX12_hours 6 = .ok (.iconst 1, 1) := by decide +kernel
theorem dX12_hours_7 : decode cX12_hours 7 = .ok (.bipush 20, 2) := by decide +kernel
theorem dX12_hours_9 : decode cX12_hours 9 = .ok (.invokestatic 332, 3) := by decide +kernel
theorem dX12_hours_12 : decode cX12_hours 12 = .ok (.ifCond .eq 17, 3) := by decide +kernel
theorem dX12_hours_15 : decode cX12_hours 15 = .ok (.aload_n 0, 1) := by decide +kernel
theorem dX12_hours_16 : decode cX12_hours 16 = .ok (.getfield 51, 3) := by decide +kernel
theorem dX12_hours_19 : decode cX12_hours 19 = .ok (.iconst 0, 1) := by decide +kernel
theorem dX12_hours_20 : decode cX12_hours 20 = .ok (.iaload, 1) := by decide +kernel
theorem dX12_hours_21 : decode cX12_hours 21 = .ok (.iload_n 1, 1) := by decide +kernel
theorem dX12_hours_22 : decode cX12_hours 22 = .ok (.iadd, 1) := by decide +kernel
theorem dX12_hours_23 : decode cX12_hours 23 = .ok (.sipush 9999, 3) := by decide +kernel
theorem dX12_hours_26 : decode cX12_hours 26 = .ok (.if_icmp .le 9, 3) := by decide +kernel
theorem dX12_hours_29 : decode cX12_hours 29 = .ok (.aload_n 0, 1) := by decide +kernel
theorem dX12_hours_30 : decode cX12_hours 30 = .ok (.iconst 1, 1) := by decide +kernel
theorem dX12_hours_31 : decode cX12_hours 31 = .ok (.invokevirtual 363, 3) := by decide +kernel
theorem dX12_hours_34 : decode cX12_hours 34 = .ok (.ireturn, 1) := by decide +kernel
theorem dX12_hours_35 : decode cX12_hours 35 = .ok (.aload_n 0, 1) := by decide +kernel
theorem dX12_hours_36 : decode cX12_hours 36 = .ok (.invokevirtual 366, 3) := by decide +kernel
theorem dX12_hours_39 : decode cX12_hours 39 = .ok (.iconst 0, 1) := by decide +kernel
theorem dX12_hours_40 : decode cX12_hours 40 = .ok (.istore_n 2, 1) := by decide +kernel
theorem dX12_hours_41 : decode cX12_hours 41 = .ok (.iload_n 2, 1) := by decide +kernel
theorem dX12_hours_42 : decode cX12_hours 42 = .ok (.iload_n 1, 1) := by decide +kernel
theorem dX12_hours_43 : decode cX12_hours 43 = .ok (.if_icmp .ge 14, 3) := by decide +kernel
theorem dX12_hours_46 : decode cX12_hours 46 = .ok (.aload_n 0, 1) := by decide +kernel
theorem dX12_hours_47 : decode cX12_hours 47 = .ok (.iconst 0, 1) := by decide +kernel
theorem dX12_hours_48 : decode cX12_hours 48 = .ok (.invokevirtual 323, 3) := by decide +kernel
theorem dX12_hours_51 : decode cX12_hours 51 = .ok (.iinc 2 1, 3) := by decide +kernel
theorem dX12_hours_54 : decode cX12_hours 54 = .ok (.goto (-13), 3) := by decide +kernel
theorem dX12_hours_57 : decode cX12_hours 57 = .ok (.aload_n 0, 1) := by decide +kernel
theorem dX12_hours_58 : decode cX12_hours 58 = .ok (.getfield 51, 3) := by decide +kernel
theorem dX12_hours_61 : decode cX12_hours 61 = .ok (.iconst 0, 1) := by decide +kernel
theorem dX12_hours_62 : decode cX12_hours 62 = .ok (.iaload, 1) := by decide +kernel
theorem dX12_hours_63 : decode cX12_hours 63 = .ok (.ireturn, 1) := by decide +kernel
theorem dX12_leads_0 : decode cX12_leads 0 = .ok (.aload_n 0, 1) := by decide +kernel
theorem dX12_leads_1 : decode cX12_leads 1 = .ok (.getfield 51, 3) := by decide +kernel
theorem dX12_leads_4 : decode cX12_leads 4 = .ok (.iload_n 1, 1) := by decide +kernel
theorem dX12_leads_5 : decode cX12_leads 5 = .ok (.bipush 19, 2) := by decide +kernel
theorem dX12_leads_7 : decode cX12_leads 7 = .ok (.iadd, 1) := by decide +kernel
theorem dX12_leads_8 : decode cX12_leads 8 = .ok (.iload_n 2, 1) := by decide +kernel
theorem dX12_leads_9 : decode cX12_leads 9 = .ok (.iadd, 1) := by decide +kernel
theorem dX12_leads_10 : decode cX12_leads 10 = .ok (.iload_n 3, 1) := by decide +kernel
theorem dX12_leads_11 : decode cX12_leads 11 = .ok (.iastore, 1) := by decide +kernel
theorem dX12_leads_12 : decode cX12_leads 12 = .ok (.aload_n 0, 1) := by decide +kernel
theorem dX12_leads_13 : decode cX12_leads 13 = .ok (.getfield 51, 3) := by decide +kernel
theorem dX12_leads_16 : decode cX12_leads 16 = .ok (.iload_n 1, 1) := by decide +kernel
theorem dX12_leads_17 : decode cX12_leads 17 = .ok (.bipush 28, 2) := by decide +kernel
theorem dX12_leads_19 : decode cX12_leads 19 = .ok (.iadd, 1) := by decide +kernel
theorem dX12_leads_20 : decode cX12_leads 20 = .ok (.iload_n 2, 1) := by decide +kernel
theorem dX12_leads_21 : decode cX12_leads 21 = .ok (.iadd, 1) := by decide +kernel
theorem dX12_leads_22 : decode cX12_leads 22 = .ok (.iconst (-1), 1) := by decide +kernel
theorem dX12_leads_23 : decode cX12_leads 23 = .ok (.iastore, 1) := by decide +kernel
theorem dX12_leads_24 : decode cX12_leads 24 = .ok (.aload_n 0, 1) := by decide +kernel
theorem dX12_leads_25 : decode cX12_leads 25 = .ok (.getfield 51, 3) := by decide +kernel
theorem dX12_leads_28 : decode cX12_leads 28 = .ok (.iload_n 1, 1) := by decide +kernel
theorem dX12_leads_29 : decode cX12_leads 29 = .ok (.bipush 37, 2) := by decide +kernel
theorem dX12_leads_31 : decode cX12_leads 31 = .ok (.iadd, 1) := by decide +kernel
theorem dX12_leads_32 : decode cX12_leads 32 = .ok (.iload_n 2, 1) := by decide +kernel
theorem dX12_leads_33 : decode cX12_leads 33 = .ok (.iadd, 1) := by decide +kernel
theorem dX12_leads_34 : decode cX12_leads 34 = .ok (.iconst 0, 1) := by decide +kernel
theorem dX12_leads_35 : decode cX12_leads 35 = .ok (.iastore, 1) := by decide +kernel
theorem dX12_leads_36 : decode cX12_leads 36 = .ok (.return_, 1) := by decide +kernel
theorem dX12_lead_0 : decode cX12_lead 0 = .ok (.aload_n 0, 1) := by decide +kernel
theorem dX12_lead_1 : decode cX12_lead 1 = .ok (.iconst 0, 1) := by decide +kernel
theorem dX12_lead_2 : decode cX12_lead 2 = .ok (.putfield 114, 3) := by decide +kernel
theorem dX12_lead_5 : decode cX12_lead 5 = .ok (.aload_n 0, 1) := by decide +kernel
theorem dX12_lead_6 : decode cX12_lead 6 = .ok (.iload_n 1, 1) := by decide +kernel
theorem dX12_lead_7 : decode cX12_lead 7 = .ok (.invokevirtual 351, 3) := by decide +kernel
theorem dX12_lead_10 : decode cX12_lead 10 = .ok (.ifCond .eq 29, 3) := by decide +kernel
theorem dX12_lead_13 : decode cX12_lead 13 = .ok (.aload_n 0, 1) := by decide +kernel
theorem dX12_lead_14 : decode cX12_lead 14 = .ok (.iload_n 2, 1) := by decide +kernel
theorem dX12_lead_15 : decode cX12_lead 15 = .ok (.iconst (-1), 1) := by decide +kernel
theorem dX12_lead_16 : decode cX12_lead 16 = .ok (.if_icmp .lt 15, 3) := by decide +kernel
theorem dX12_lead_19 : decode cX12_lead 19 = .ok (.iload_n 2, 1) := by decide +kernel
theorem dX12_lead_20 : decode cX12_lead 20 = .ok (.aload_n 0, 1) := by decide +kernel
theorem dX12_lead_21 : decode cX12_lead 21 = .ok (.getfield 269, 3) := by decide +kernel
theorem dX12_lead_24 : decode cX12_lead 24 = .ok (.if_icmp .ge 7, 3) := by decide +kernel
theorem dX12_lead_27 : decode cX12_lead 27 = .ok (.iconst 1, 1) := by decide +kernel
theorem dX12_lead_28 : decode cX12_lead 28 = .ok (.goto 4, 3) := by decide +kernel
theorem dX12_lead_31 : decode cX12_lead 31 = .ok (.iconst 0, 1) := by decide +kernel
theorem dX12_lead_32 : decode cX12_lead 32 = .ok (.iconst 1, 1) := by decide +kernel
theorem dX12_lead_33 : decode cX12_lead 33 = .ok (.invokevirtual 262, 3) := by decide +kernel
theorem dX12_lead_36 : decode cX12_lead 36 = .ok (.ifCond .ne 5, 3) := by decide +kernel
theorem dX12_lead_39 : decode cX12_lead 39 = .ok (.iconst 0, 1) := by decide +kernel
theorem dX12_lead_40 : decode cX12_lead 40 = .ok (.ireturn, 1) := by decide +kernel
theorem dX12_lead_41 : decode cX12_lead 41 = .ok (.iload_n 2, 1) := by decide +kernel
theorem dX12_lead_42 : decode cX12_lead 42 = .ok (.iconst (-1), 1) := by decide +kernel
theorem dX12_lead_43 : decode cX12_lead 43 = .ok (.if_icmp .eq 8, 3) := by decide +kernel
theorem dX12_lead_46 : decode cX12_lead 46 = .ok (.iload_n 2, 1) := by decide +kernel
theorem dX12_lead_47 : decode cX12_lead 47 = .ok (.iload_n 1, 1) := by decide +kernel
theorem dX12_lead_48 : decode cX12_lead 48 = .ok (.if_icmp .le 29, 3) := by decide +kernel
theorem dX12_lead_51 : decode cX12_lead 51 = .ok (.aload_n 0, 1) := by decide +kernel
theorem dX12_lead_52 : decode cX12_lead 52 = .ok (.getfield 51, 3) := by decide +kernel
theorem dX12_lead_55 : decode cX12_lead 55 = .ok (.bipush 28, 2) := by decide +kernel
theorem dX12_lead_57 : decode cX12_lead 57 = .ok (.iload_n 1, 1) := by decide +kernel
theorem dX12_lead_58 : decode cX12_lead 58 = .ok (.iadd, 1) := by decide +kernel
theorem dX12_lead_59 : decode cX12_lead 59 = .ok (.iaload, 1) := by decide +kernel
theorem dX12_lead_60 : decode cX12_lead 60 = .ok (.iconst (-1), 1) := by decide +kernel
theorem dX12_lead_61 : decode cX12_lead 61 = .ok (.if_icmp .ne 30, 3) := by decide +kernel
theorem dX12_lead_64 : decode cX12_lead 64 = .ok (.aload_n 0, 1) := by decide +kernel
theorem dX12_lead_65 : decode cX12_lead 65 = .ok (.getfield 51, 3) := by decide +kernel
theorem dX12_lead_68 : decode cX12_lead 68 = .ok (.bipush 19, 2) := by decide +kernel
theorem dX12_lead_70 : decode cX12_lead 70 = .ok (.iload_n 1, 1) := by decide +kernel
theorem dX12_lead_71 : decode cX12_lead 71 = .ok (.iadd, 1) := by decide +kernel
theorem dX12_lead_72 : decode cX12_lead 72 = .ok (.iaload, 1) := by decide +kernel
theorem dX12_lead_73 : decode cX12_lead 73 = .ok (.iload_n 2, 1) := by decide +kernel
theorem dX12_lead_74 : decode cX12_lead 74 = .ok (.if_icmp .ne 17, 3) := by decide +kernel
theorem dX12_lead_77 : decode cX12_lead 77 = .ok (.aload_n 0, 1) := by decide +kernel
theorem dX12_lead_78 : decode cX12_lead 78 = .ok (.iconst 1, 1) := by decide +kernel
theorem dX12_lead_79 : decode cX12_lead 79 = .ok (.invokevirtual 363, 3) := by decide +kernel
theorem dX12_lead_82 : decode cX12_lead 82 = .ok (.ifCond .le 7, 3) := by decide +kernel
theorem dX12_lead_85 : decode cX12_lead 85 = .ok (.iconst 1, 1) := by decide +kernel
theorem dX12_lead_86 : decode cX12_lead 86 = .ok (.goto 4, 3) := by decide +kernel
theorem dX12_lead_89 : decode cX12_lead 89 = .ok (.iconst 0, 1) := by decide +kernel
theorem dX12_lead_90 : decode cX12_lead 90 = .ok (.ireturn, 1) := by decide +kernel
theorem dX12_lead_91 : decode cX12_lead 91 = .ok (.aload_n 0, 1) := by decide +kernel
theorem dX12_lead_92 : decode cX12_lead 92 = .ok (.invokevirtual 366, 3) := by decide +kernel
theorem dX12_lead_95 : decode cX12_lead 95 = .ok (.aload_n 0, 1) := by decide +kernel
theorem dX12_lead_96 : decode cX12_lead 96 = .ok (.iconst 0, 1) := by decide +kernel
theorem dX12_lead_97 : decode cX12_lead 97 = .ok (.iload_n 1, 1) := by decide +kernel
theorem dX12_lead_98 : decode cX12_lead 98 = .ok (.iload_n 2, 1) := by decide +kernel
theorem dX12_lead_99 : decode cX12_lead 99 = .ok (.invokevirtual 369, 3) := by decide +kernel
theorem dX12_lead_102 : decode cX12_lead 102 = .ok (.iconst 1, 1) := by decide +kernel
theorem dX12_lead_103 : decode cX12_lead 103 = .ok (.ireturn, 1) := by decide +kernel
theorem dX12_plug_0 : decode cX12_plug 0 = .ok (.aload_n 0, 1) := by decide +kernel
theorem dX12_plug_1 : decode cX12_plug 1 = .ok (.iconst 0, 1) := by decide +kernel
theorem dX12_plug_2 : decode cX12_plug 2 = .ok (.putfield 114, 3) := by decide +kernel
theorem dX12_plug_5 : decode cX12_plug 5 = .ok (.aload_n 0, 1) := by decide +kernel
theorem dX12_plug_6 : decode cX12_plug 6 = .ok (.iload_n 1, 1) := by decide +kernel
theorem dX12_plug_7 : decode cX12_plug 7 = .ok (.invokevirtual 351, 3) := by decide +kernel
theorem dX12_plug_10 : decode cX12_plug 10 = .ok (.ifCond .ne 5, 3) := by decide +kernel
theorem dX12_plug_13 : decode cX12_plug 13 = .ok (.iconst 0, 1) := by decide +kernel
theorem dX12_plug_14 : decode cX12_plug 14 = .ok (.ireturn, 1) := by decide +kernel
theorem dX12_plug_15 : decode cX12_plug 15 = .ok (.aload_n 0, 1) := by decide +kernel
theorem dX12_plug_16 : decode cX12_plug 16 = .ok (.getfield 51, 3) := by decide +kernel
theorem dX12_plug_19 : decode cX12_plug 19 = .ok (.bipush 55, 2) := by decide +kernel
theorem dX12_plug_21 : decode cX12_plug 21 = .ok (.iload_n 1, 1) := by decide +kernel
theorem dX12_plug_22 : decode cX12_plug 22 = .ok (.iadd, 1) := by decide +kernel
theorem dX12_plug_23 : decode cX12_plug 23 = .ok (.iaload, 1) := by decide +kernel
theorem dX12_plug_24 : decode cX12_plug 24 = .ok (.iconst 1, 1) := by decide +kernel
theorem dX12_plug_25 : decode cX12_plug 25 = .ok (.if_icmp .ne 7, 3) := by decide +kernel
theorem dX12_plug_28 : decode cX12_plug 28 = .ok (.iconst 1, 1) := by decide +kernel
theorem dX12_plug_29 : decode cX12_plug 29 = .ok (.goto 4, 3) := by decide +kernel
theorem dX12_plug_32 : decode cX12_plug 32 = .ok (.iconst 0, 1) := by decide +kernel
theorem dX12_plug_33 : decode cX12_plug 33 = .ok (.iload_n 2, 1) := by decide +kernel
theorem dX12_plug_34 : decode cX12_plug 34 = .ok (.if_icmp .ne 17, 3) := by decide +kernel
theorem dX12_plug_37 : decode cX12_plug 37 = .ok (.aload_n 0, 1) := by decide +kernel
theorem dX12_plug_38 : decode cX12_plug 38 = .ok (.iconst 1, 1) := by decide +kernel
theorem dX12_plug_39 : decode cX12_plug 39 = .ok (.invokevirtual 363, 3) := by decide +kernel
theorem dX12_plug_42 : decode cX12_plug 42 = .ok (.ifCond .le 7, 3) := by decide +kernel
theorem dX12_plug_45 : decode cX12_plug 45 = .ok (.iconst 1, 1) := by decide +kernel
theorem dX12_plug_46 : decode cX12_plug 46 = .ok (.goto 4, 3) := by decide +kernel
theorem dX12_plug_49 : decode cX12_plug 49 = .ok (.iconst 0, 1) := by decide +kernel
theorem dX12_plug_50 : decode cX12_plug 50 = .ok (.ireturn, 1) := by decide +kernel
theorem dX12_plug_51 : decode cX12_plug 51 = .ok (.aload_n 0, 1) := by decide +kernel
theorem dX12_plug_52 : decode cX12_plug 52 = .ok (.invokevirtual 366, 3) := by decide +kernel
theorem dX12_plug_55 : decode cX12_plug 55 = .ok (.aload_n 0, 1) := by decide +kernel
theorem dX12_plug_56 : decode cX12_plug 56 = .ok (.getfield 51, 3) := by decide +kernel
theorem dX12_plug_59 : decode cX12_plug 59 = .ok (.bipush 55, 2) := by decide +kernel
theorem dX12_plug_61 : decode cX12_plug 61 = .ok (.iload_n 1, 1) := by decide +kernel
theorem dX12_plug_62 : decode cX12_plug 62 = .ok (.iadd, 1) := by decide +kernel
theorem dX12_plug_63 : decode cX12_plug 63 = .ok (.iload_n 2, 1) := by decide +kernel
theorem dX12_plug_64 : decode cX12_plug 64 = .ok (.ifCond .eq 7, 3) := by decide +kernel
theorem dX12_plug_67 : decode cX12_plug 67 = .ok (.iconst 1, 1) := by decide +kernel
theorem dX12_plug_68 : decode cX12_plug 68 = .ok (.goto 4, 3) := by decide +kernel
theorem dX12_plug_71 : decode cX12_plug 71 = .ok (.iconst 0, 1) := by decide +kernel
theorem dX12_plug_72 : decode cX12_plug 72 = .ok (.iastore, 1) := by decide +kernel
theorem dX12_plug_73 : decode cX12_plug 73 = .ok (.iconst 1, 1) := by decide +kernel
theorem dX12_plug_74 : decode cX12_plug 74 = .ok (.ireturn, 1) := by decide +kernel
theorem dX12_pours_0 : decode cX12_pours 0 = .ok (.aload_n 0, 1) := by decide +kernel
theorem dX12_pours_1 : decode cX12_pours 1 = .ok (.invokevirtual 310, 3) := by decide +kernel
theorem dX12_pours_4 : decode cX12_pours 4 = .ok (.aload_n 0, 1) := by decide +kernel
theorem dX12_pours_5 : decode cX12_pours 5 = .ok (.getfield 63, 3) := by decide +kernel
theorem dX12_pours_8 : decode cX12_pours 8 = .ok (.iload_n 2, 1) := by decide +kernel
theorem dX12_pours_9 : decode cX12_pours 9 = .ok (.iload_n 3, 1) := by decide +kernel
theorem dX12_pours_10 : decode cX12_pours 10 = .ok (.iastore, 1) := by decide +kernel
theorem dX12_pours_11 : decode cX12_pours 11 = .ok (.iload_n 2, 1) := by decide +kernel
theorem dX12_pours_12 : decode cX12_pours 12 = .ok (.istore 4, 2) := by decide +kernel
theorem dX12_pours_14 : decode cX12_pours 14 = .ok (.iload 4, 2) := by decide +kernel
theorem dX12_pours_16 : decode cX12_pours 16 = .ok (.aload_n 0, 1) := by decide +kernel
theorem dX12_pours_17 : decode cX12_pours 17 = .ok (.getfield 269, 3) := by decide +kernel
theorem dX12_pours_20 : decode cX12_pours 20 = .ok (.if_icmp .ge 23, 3) := by decide +kernel
theorem dX12_pours_23 : decode cX12_pours 23 = .ok (.aload_n 0, 1) := by decide +kernel
theorem dX12_pours_24 : decode cX12_pours 24 = .ok (.iload_n 1, 1) := by decide +kernel
theorem dX12_pours_25 : decode cX12_pours 25 = .ok (.iload 4, 2) := by decide +kernel
theorem dX12_pours_27 : decode cX12_pours 27 = .ok (.aload_n 0, 1) := by decide +kernel
theorem dX12_pours_28 : decode cX12_pours 28 = .ok (.getfield 63, 3) := by decide +kernel
theorem dX12_pours_31 : decode cX12_pours 31 = .ok (.iload 4, 2) := by decide +kernel
theorem dX12_pours_33 : decode cX12_pours 33 = .ok (.iaload, 1) := by decide +kernel
theorem dX12_pours_34 : decode cX12_pours 34 = .ok (.invokevirtual 317, 3) := by decide +kernel
theorem dX12_pours_37 : decode cX12_pours 37 = .ok (.iinc 4 1, 3) := by decide +kernel
theorem dX12_pours_40 : decode cX12_pours 40 = .ok (.goto (-26), 3) := by decide +kernel
theorem dX12_pours_43 : decode cX12_pours 43 = .ok (.aload_n 0, 1) := by decide +kernel
theorem dX12_pours_44 : decode cX12_pours 44 = .ok (.getfield 66, 3) := by decide +kernel
theorem dX12_pours_47 : decode cX12_pours 47 = .ok (.iload_n 2, 1) := by decide +kernel
theorem dX12_pours_48 : decode cX12_pours 48 = .ok (.iaload, 1) := by decide +kernel
theorem dX12_pours_49 : decode cX12_pours 49 = .ok (.ireturn, 1) := by decide +kernel
theorem dX12_pour_0 : decode cX12_pour 0 = .ok (.aload_n 0, 1) := by decide +kernel
theorem dX12_pour_1 : decode cX12_pour 1 = .ok (.iconst 0, 1) := by decide +kernel
theorem dX12_pour_2 : decode cX12_pour 2 = .ok (.putfield 114, 3) := by decide +kernel
theorem dX12_pour_5 : decode cX12_pour 5 = .ok (.aload_n 0, 1) := by decide +kernel
theorem dX12_pour_6 : decode cX12_pour 6 = .ok (.iload_n 1, 1) := by decide +kernel
theorem dX12_pour_7 : decode cX12_pour 7 = .ok (.invokevirtual 351, 3) := by decide +kernel
theorem dX12_pour_10 : decode cX12_pour 10 = .ok (.ifCond .ne 5, 3) := by decide +kernel
theorem dX12_pour_13 : decode cX12_pour 13 = .ok (.iconst 0, 1) := by decide +kernel
theorem dX12_pour_14 : decode cX12_pour 14 = .ok (.ireturn, 1) := by decide +kernel
theorem dX12_pour_15 : decode cX12_pour 15 = .ok (.iload_n 2, 1) := by decide +kernel
theorem dX12_pour_16 : decode cX12_pour 16 = .ok (.iconst 1, 1) := by decide +kernel
theorem dX12_pour_17 : decode cX12_pour 17 = .ok (.bipush 50, 2) := by decide +kernel
theorem dX12_pour_19 : decode cX12_pour 19 = .ok (.invokestatic 332, 3) := by decide +kernel
theorem dX12_pour_22 : decode cX12_pour 22 = .ok (.ifCond .ne 9, 3) := by decide +kernel
theorem dX12_pour_25 : decode cX12_pour 25 = .ok (.aload_n 0, 1) := by decide +kernel
theorem dX12_pour_26 : decode cX12_pour 26 = .ok (.iconst 1, 1) := by decide +kernel
theorem dX12_pour_27 : decode cX12_pour 27 = .ok (.invokevirtual 363, 3) := by decide +kernel
theorem dX12_pour_30 : decode cX12_pour 30 = .ok (.ireturn, 1) := by decide +kernel
theorem dX12_pour_31 : decode cX12_pour 31 = .ok (.aload_n 0, 1) := by decide +kernel
theorem dX12_pour_32 : decode cX12_pour 32 = .ok (.invokevirtual 366, 3) := by decide +kernel
theorem dX12_pour_35 : decode cX12_pour 35 = .ok (.aload_n 0, 1) := by decide +kernel
theorem dX12_pour_36 : decode cX12_pour 36 = .ok (.iconst 0, 1) := by decide +kernel
theorem dX12_pour_37 : decode cX12_pour 37 = .ok (.iload_n 1, 1) := by decide +kernel
theorem dX12_pour_38 : decode cX12_pour 38 = .ok (.iload_n 2, 1) := by decide +kernel
theorem dX12_pour_39 : decode cX12_pour 39 = .ok (.invokevirtual 372, 3) := by decide +kernel
theorem dX12_pour_42 : decode cX12_pour 42 = .ok (.ireturn, 1) := by decide +kernel
theorem dX12_cracks_0 : decode cX12_cracks 0 = .ok (.aload_n 0, 1) := by decide +kernel
theorem dX12_cracks_1 : decode cX12_cracks 1 = .ok (.getfield 51, 3) := by decide +kernel
theorem dX12_cracks_4 : decode cX12_cracks 4 = .ok (.iload_n 1, 1) := by decide +kernel
theorem dX12_cracks_5 : decode cX12_cracks 5 = .ok (.iconst 1, 1) := by decide +kernel
theorem dX12_cracks_6 : decode cX12_cracks 6 = .ok (.iadd, 1) := by decide +kernel
theorem dX12_cracks_7 : decode cX12_cracks 7 = .ok (.iload_n 2, 1) := by decide +kernel
theorem dX12_cracks_8 : decode cX12_cracks 8 = .ok (.iadd, 1) := by decide +kernel
theorem dX12_cracks_9 : decode cX12_cracks 9 = .ok (.iload_n 3, 1) := by decide +kernel
theorem dX12_cracks_10 : decode cX12_cracks 10 = .ok (.iastore, 1) := by decide +kernel
theorem dX12_cracks_11 : decode cX12_cracks 11 = .ok (.aload_n 0, 1) := by decide +kernel
theorem dX12_cracks_12 : decode cX12_cracks 12 = .ok (.getfield 51, 3) := by decide +kernel
theorem dX12_cracks_15 : decode cX12_cracks 15 = .ok (.iload_n 1, 1) := by decide +kernel
theorem dX12_cracks_16 : decode cX12_cracks 16 = .ok (.bipush 10, 2) := by decide +kernel
theorem dX12_cracks_18 : decode cX12_cracks 18 = .ok (.iadd, 1) := by decide +kernel
theorem dX12_cracks_19 : decode cX12_cracks 19 = .ok (.iload_n 2, 1) := by decide +kernel
theorem dX12_cracks_20 : decode cX12_cracks 20 = .ok (.iadd, 1) := by decide +kernel
theorem dX12_cracks_21 : decode cX12_cracks 21 = .ok (.aload_n 0, 1) := by decide +kernel
theorem dX12_cracks_22 : decode cX12_cracks 22 = .ok (.getfield 51, 3) := by decide +kernel
theorem dX12_cracks_25 : decode cX12_cracks 25 = .ok (.iload_n 1, 1) := by decide +kernel
theorem dX12_cracks_26 : decode cX12_cracks 26 = .ok (.bipush 10, 2) := by decide +kernel
theorem dX12_cracks_28 : decode cX12_cracks 28 = .ok (.iadd, 1) := by decide +kernel
theorem dX12_cracks_29 : decode cX12_cracks 29 = .ok (.iload_n 2, 1) := by decide +kernel
theorem dX12_cracks_30 : decode cX12_cracks 30 = .ok (.iadd, 1) := by decide +kernel
theorem dX12_cracks_31 : decode cX12_cracks 31 = .ok (.iaload, 1) := by decide +kernel
theorem dX12_cracks_32 : decode cX12_cracks 32 = .ok (.iload_n 3, 1) := by decide +kernel
theorem dX12_cracks_33 : decode cX12_cracks 33 = .ok (.iconst 1, 1) := by decide +kernel
theorem dX12_cracks_34 : decode cX12_cracks 34 = .ok (.isub, 1) := by decide +kernel
theorem dX12_cracks_35 : decode cX12_cracks 35 = .ok (.invokestatic 297, 3) := by decide +kernel
theorem dX12_cracks_38 : decode cX12_cracks 38 = .ok (.iastore, 1) := by decide +kernel
theorem dX12_cracks_39 : decode cX12_cracks 39 = .ok (.return_, 1) := by decide +kernel
theorem dX12_crack_0 : decode cX12_crack 0 = .ok (.aload_n 0, 1) := by decide +kernel
theorem dX12_crack_1 : decode cX12_crack 1 = .ok (.iconst 0, 1) := by decide +kernel
theorem dX12_crack_2 : decode cX12_crack 2 = .ok (.putfield 114, 3) := by decide +kernel
theorem dX12_crack_5 : decode cX12_crack 5 = .ok (.aload_n 0, 1) := by decide +kernel
theorem dX12_crack_6 : decode cX12_crack 6 = .ok (.iload_n 1, 1) := by decide +kernel
theorem dX12_crack_7 : decode cX12_crack 7 = .ok (.invokevirtual 351, 3) := by decide +kernel
theorem dX12_crack_10 : decode cX12_crack 10 = .ok (.ifCond .ne 5, 3) := by decide +kernel
theorem dX12_crack_13 : decode cX12_crack 13 = .ok (.iconst 0, 1) := by decide +kernel
theorem dX12_crack_14 : decode cX12_crack 14 = .ok (.ireturn, 1) := by decide +kernel
theorem dX12_crack_15 : decode cX12_crack 15 = .ok (.aload_n 0, 1) := by decide +kernel
theorem dX12_crack_16 : decode cX12_crack 16 = .ok (.getfield 51, 3) := by decide +kernel
theorem dX12_crack_19 : decode cX12_crack 19 = .ok (.iconst 1, 1) := by decide +kernel
theorem dX12_crack_20 : decode cX12_crack 20 = .ok (.iload_n 1, 1) := by decide +kernel
theorem dX12_crack_21 : decode cX12_crack 21 = .ok (.iadd, 1) := by decide +kernel
theorem dX12_crack_22 : decode cX12_crack 22 = .ok (.iaload, 1) := by decide +kernel
theorem dX12_crack_23 : decode cX12_crack 23 = .ok (.istore_n 3, 1) := by decide +kernel
theorem dX12_crack_24 : decode cX12_crack 24 = .ok (.iload_n 2, 1) := by decide +kernel
theorem dX12_crack_25 : decode cX12_crack 25 = .ok (.iconst 1, 1) := by decide +kernel
theorem dX12_crack_26 : decode cX12_crack 26 = .ok (.bipush 30, 2) := by decide +kernel
theorem dX12_crack_28 : decode cX12_crack 28 = .ok (.invokestatic 332, 3) := by decide +kernel
theorem dX12_crack_31 : decode cX12_crack 31 = .ok (.ifCond .eq 8, 3) := by decide +kernel
theorem dX12_crack_34 : decode cX12_crack 34 = .ok (.iload_n 3, 1) := by decide +kernel
theorem dX12_crack_35 : decode cX12_crack 35 = .ok (.iload_n 2, 1) := by decide +kernel
theorem dX12_crack_36 : decode cX12_crack 36 = .ok (.if_icmp .ne 9, 3) := by decide +kernel
theorem dX12_crack_39 : decode cX12_crack 39 = .ok (.aload_n 0, 1) := by decide +kernel
theorem dX12_crack_40 : decode cX12_crack 40 = .ok (.iconst 1, 1) := by decide +kernel
theorem dX12_crack_41 : decode cX12_crack 41 = .ok (.invokevirtual 363, 3) := by decide +kernel
theorem dX12_crack_44 : decode cX12_crack 44 = .ok (.ireturn, 1) := by decide +kernel
theorem dX12_crack_45 : decode cX12_crack 45 = .ok (.aload_n 0, 1) := by decide +kernel
theorem dX12_crack_46 : decode cX12_crack 46 = .ok (.invokevirtual 366, 3) := by decide +kernel
theorem dX12_crack_49 : decode cX12_crack 49 = .ok (.aload_n 0, 1) := by decide +kernel
theorem dX12_crack_50 : decode cX12_crack 50 = .ok (.iconst 0, 1) := by decide +kernel
theorem dX12_crack_51 : decode cX12_crack 51 = .ok (.iload_n 1, 1) := by decide +kernel
theorem dX12_crack_52 : decode cX12_crack 52 = .ok (.iload_n 2, 1) := by decide +kernel
theorem dX12_crack_53 : decode cX12_crack 53 = .ok (.invokevirtual 375, 3) := by decide +kernel
theorem dX12_crack_56 : decode cX12_crack 56 = .ok (.iload_n 3, 1) := by decide +kernel
theorem dX12_crack_57 : decode cX12_crack 57 = .ok (.ireturn, 1) := by decide +kernel
theorem dX12_then_0 : decode cX12_then 0 = .ok (.aload_n 0, 1) := by decide +kernel
theorem dX12_then_1 : decode cX12_then 1 = .ok (.iconst 0, 1) := by decide +kernel
theorem dX12_then_2 : decode cX12_then 2 = .ok (.putfield 114, 3) := by decide +kernel
theorem dX12_then_5 : decode cX12_then 5 = .ok (.aload_n 0, 1) := by decide +kernel
theorem dX12_then_6 : decode cX12_then 6 = .ok (.iload_n 1, 1) := by decide +kernel
theorem dX12_then_7 : decode cX12_then 7 = .ok (.invokevirtual 351, 3) := by decide +kernel
theorem dX12_then_10 : decode cX12_then 10 = .ok (.ifCond .eq 22, 3) := by decide +kernel
theorem dX12_then_13 : decode cX12_then 13 = .ok (.aload_n 0, 1) := by decide +kernel
theorem dX12_then_14 : decode cX12_then 14 = .ok (.iload_n 3, 1) := by decide +kernel
theorem dX12_then_15 : decode cX12_then 15 = .ok (.iconst 1, 1) := by decide +kernel
theorem dX12_then_16 : decode cX12_then 16 = .ok (.invokevirtual 354, 3) := by decide +kernel
theorem dX12_then_19 : decode cX12_then 19 = .ok (.ifCond .eq 13, 3) := by decide +kernel
theorem dX12_then_22 : decode cX12_then 22 = .ok (.aload_n 0, 1) := by decide +kernel
theorem dX12_then_23 : decode cX12_then 23 = .ok (.iload_n 2, 1) := by decide +kernel
theorem dX12_then_24 : decode cX12_then 24 = .ok (.iconst 0, 1) := by decide +kernel
theorem dX12_then_25 : decode cX12_then 25 = .ok (.iconst 2, 1) := by decide +kernel
theorem dX12_then_26 : decode cX12_then 26 = .ok (.invokevirtual 378, 3) := by decide +kernel
theorem dX12_then_29 : decode cX12_then 29 = .ok (.ifCond .ne 5, 3) := by decide +kernel
theorem dX12_then_32 : decode cX12_then 32 = .ok (.iconst 0, 1) := by decide +kernel
theorem dX12_then_33 : decode cX12_then 33 = .ok (.ireturn, 1) := by decide +kernel
theorem dX12_then_34 : decode cX12_then 34 = .ok (.iconst 0, 1) := by decide +kernel
theorem dX12_then_35 : decode cX12_then 35 = .ok (.istore 4, 2) := by decide +kernel
theorem dX12_then_37 : decode cX12_then 37 = .ok (.aload_n 0, 1) := by decide +kernel
theorem dX12_then_38 : decode cX12_then 38 = .ok (.invokevirtual 381, 3) := by decide +kernel
theorem dX12_then_41 : decode cX12_then 41 = .ok (.iconst 0, 1) := by decide +kernel
theorem dX12_then_42 : decode cX12_then 42 = .ok (.istore 5, 2) := by decide +kernel
theorem dX12_then_44 : decode cX12_then 44 = .ok (.iload 5, 2) := by decide +kernel
theorem dX12_then_46 : decode cX12_then 46 = .ok (.iload_n 2, 1) := by decide +kernel
theorem dX12_then_47 : decode cX12_then 47 = .ok (.if_icmp .ge 26, 3) := by decide +kernel
theorem dX12_then_50 : decode cX12_then 50 = .ok (.aload_n 0, 1) := by decide +kernel
theorem dX12_then_51 : decode cX12_then 51 = .ok (.bipush 64, 2) := by decide +kernel
theorem dX12_then_53 : decode cX12_then 53 = .ok (.invokevirtual 323, 3) := by decide +kernel
theorem dX12_then_56 : decode cX12_then 56 = .ok (.iload 4, 2) := by decide +kernel
theorem dX12_then_58 : decode cX12_then 58 = .ok (.aload_n 0, 1) := by decide +kernel
theorem dX12_then_59 : decode cX12_then 59 = .ok (.getfield 66, 3) := by decide +kernel
theorem dX12_then_62 : decode cX12_then 62 = .ok (.iload_n 1, 1) := by decide +kernel
theorem dX12_then_63 : decode cX12_then 63 = .ok (.iaload, 1) := by decide +kernel
theorem dX12_then_64 : decode cX12_then 64 = .ok (.iadd, 1) := by decide +kernel
theorem dX12_then_65 : decode cX12_then 65 = .ok (.istore 4, 2) := by decide +kernel
theorem dX12_then_67 : decode cX12_then 67 = .ok (.iinc 5 1, 3) := by decide +kernel
theorem dX12_then_70 : decode cX12_then 70 = .ok (.goto (-26), 3) := by decide +kernel
theorem dX12_then_73 : decode cX12_then 73 = .ok (.iload_n 3, 1) := by decide +kernel
theorem dX12_then_74 : decode cX12_then 74 = .ok (.ifCond .ne 15, 3) := by decide +kernel
theorem dX12_then_77 : decode cX12_then 77 = .ok (.aload_n 0, 1) := by decide +kernel
theorem dX12_then_78 : decode cX12_then 78 = .ok (.getfield 51, 3) := by decide +kernel
theorem dX12_then_81 : decode cX12_then 81 = .ok (.bipush 74, 2) := by decide +kernel
theorem dX12_then_83 : decode cX12_then 83 = .ok (.iload_n 1, 1) := by decide +kernel
theorem dX12_then_84 : decode cX12_then 84 = .ok (.iadd, 1) := by decide +kernel
theorem dX12_then_85 : decode cX12_then 85 = .ok (.iaload, 1) := by decide +kernel
theorem dX12_then_86 : decode cX12_then 86 = .ok (.goto 5, 3) := by decide +kernel
theorem dX12_then_89 : decode cX12_then 89 = .ok (.iload 4, 2) := by decide +kernel
theorem dX12_then_91 : decode cX12_then 91 = .ok (.ireturn, 1) := by decide +kernel
theorem dX12_tipping_0 : decode cX12_tipping 0 = .ok (.aload_n 0, 1) := by decide +kernel
theorem dX12_tipping_1 : decode cX12_tipping 1 = .ok (.iconst 0, 1) := by decide +kernel
theorem dX12_tipping_2 : decode cX12_tipping 2 = .ok (.putfield 114, 3) := by decide +kernel
theorem dX12_tipping_5 : decode cX12_tipping 5 = .ok (.aload_n 0, 1) := by decide +kernel
theorem dX12_tipping_6 : decode cX12_tipping 6 = .ok (.iload_n 1, 1) := by decide +kernel
theorem dX12_tipping_7 : decode cX12_tipping 7 = .ok (.iconst 1, 1) := by decide +kernel
theorem dX12_tipping_8 : decode cX12_tipping 8 = .ok (.iconst 1, 1) := by decide +kernel
theorem dX12_tipping_9 : decode cX12_tipping 9 = .ok (.invokevirtual 378, 3) := by decide +kernel
theorem dX12_tipping_12 : decode cX12_tipping 12 = .ok (.ifCond .ne 5, 3) := by decide +kernel
theorem dX12_tipping_15 : decode cX12_tipping 15 = .ok (.iconst 0, 1) := by decide +kernel
theorem dX12_tipping_16 : decode cX12_tipping 16 = .ok (.ireturn, 1) := by decide +kernel
theorem dX12_tipping_17 : decode cX12_tipping 17 = .ok (.aload_n 0, 1) := by decide +kernel
theorem dX12_tipping_18 : decode cX12_tipping 18 = .ok (.invokevirtual 381, 3) := by decide +kernel
theorem dX12_tipping_21 : decode cX12_tipping 21 = .ok (.aload_n 0, 1) := by decide +kernel
theorem dX12_tipping_22 : decode cX12_tipping 22 = .ok (.iload_n 1, 1) := by decide +kernel
theorem dX12_tipping_23 : decode cX12_tipping 23 = .ok (.invokevirtual 384, 3) := by decide +kernel
theorem dX12_tipping_26 : decode cX12_tipping 26 = .ok (.aload_n 0, 1) := by decide +kernel
theorem dX12_tipping_27 : decode cX12_tipping 27 = .ok (.getfield 300, 3) := by decide +kernel
theorem dX12_tipping_30 : decode cX12_tipping 30 = .ok (.ireturn, 1) := by decide +kernel
theorem dX12_allTip_0 : decode cX12_allTip 0 = .ok (.iload_n 2, 1) := by decide +kernel
theorem dX12_allTip_1 : decode cX12_allTip 1 = .ok (.iconst 1, 1) := by decide +kernel
theorem dX12_allTip_2 : decode cX12_allTip 2 = .ok (.iadd, 1) := by decide +kernel
theorem dX12_allTip_3 : decode cX12_allTip 3 = .ok (.istore_n 3, 1) := by decide +kernel
theorem dX12_allTip_4 : decode cX12_allTip 4 = .ok (.iload_n 3, 1) := by decide +kernel
theorem dX12_allTip_5 : decode cX12_allTip 5 = .ok (.sipush 200, 3) := by decide +kernel
theorem dX12_allTip_8 : decode cX12_allTip 8 = .ok (.if_icmp .gt 27, 3) := by decide +kernel
theorem dX12_allTip_11 : decode cX12_allTip 11 = .ok (.aload_n 0, 1) := by decide +kernel
theorem dX12_allTip_12 : decode cX12_allTip 12 = .ok (.bipush 64, 2) := by decide +kernel
theorem dX12_allTip_14 : decode cX12_allTip 14 = .ok (.invokevirtual 323, 3) := by decide +kernel
theorem dX12_allTip_17 : decode cX12_allTip 17 = .ok (.aload_n 0, 1) := by decide +kernel
theorem dX12_allTip_18 : decode cX12_allTip 18 = .ok (.getfield 300, 3) := by decide +kernel
theorem dX12_allTip_21 : decode cX12_allTip 21 = .ok (.iload_n 1, 1) := by decide +kernel
theorem dX12_allTip_22 : decode cX12_allTip 22 = .ok (.iand, 1) := by decide +kernel
theorem dX12_allTip_23 : decode cX12_allTip 23 = .ok (.iload_n 1, 1) := by decide +kernel
theorem dX12_allTip_24 : decode cX12_allTip 24 = .ok (.if_icmp .ne 5, 3) := by decide +kernel
theorem dX12_allTip_27 : decode cX12_allTip 27 = .ok (.iload_n 3, 1) := by decide +kernel
theorem dX12_allTip_28 : decode cX12_allTip 28 = .ok (.ireturn, 1) := by decide +kernel
theorem dX12_allTip_29 : decode cX12_allTip 29 = .ok (.iinc 3 1, 3) := by decide +kernel
theorem dX12_allTip_32 : decode cX12_allTip 32 = .ok (.goto (-28), 3) := by decide +kernel
theorem dX12_allTip_35 : decode cX12_allTip 35 = .ok (.iconst (-1), 1) := by decide +kernel
theorem dX12_allTip_36 : decode cX12_allTip 36 = .ok (.ireturn, 1) := by decide +kernel
theorem dX12_next_0 : decode cX12_next 0 = .ok (.aload_n 0, 1) := by decide +kernel
theorem dX12_next_1 : decode cX12_next 1 = .ok (.iconst 0, 1) := by decide +kernel
theorem dX12_next_2 : decode cX12_next 2 = .ok (.putfield 114, 3) := by decide +kernel
theorem dX12_next_5 : decode cX12_next 5 = .ok (.aload_n 0, 1) := by decide +kernel
theorem dX12_next_6 : decode cX12_next 6 = .ok (.iload_n 1, 1) := by decide +kernel
theorem dX12_next_7 : decode cX12_next 7 = .ok (.invokevirtual 351, 3) := by decide +kernel
theorem dX12_next_10 : decode cX12_next 10 = .ok (.ifCond .ne 5, 3) := by decide +kernel
theorem dX12_next_13 : decode cX12_next 13 = .ok (.iconst 0, 1) := by decide +kernel
theorem dX12_next_14 : decode cX12_next 14 = .ok (.ireturn, 1) := by decide +kernel
theorem dX12_next_15 : decode cX12_next 15 = .ok (.aload_n 0, 1) := by decide +kernel
theorem dX12_next_16 : decode cX12_next 16 = .ok (.invokevirtual 381, 3) := by decide +kernel
theorem dX12_next_19 : decode cX12_next 19 = .ok (.aload_n 0, 1) := by decide +kernel
theorem dX12_next_20 : decode cX12_next 20 = .ok (.iconst 1, 1) := by decide +kernel
theorem dX12_next_21 : decode cX12_next 21 = .ok (.iload_n 1, 1) := by decide +kernel
theorem dX12_next_22 : decode cX12_next 22 = .ok (.ishl, 1) := by decide +kernel
theorem dX12_next_23 : decode cX12_next 23 = .ok (.iconst 0, 1) := by decide +kernel
theorem dX12_next_24 : decode cX12_next 24 = .ok (.invokevirtual 387, 3) := by decide +kernel
theorem dX12_next_27 : decode cX12_next 27 = .ok (.ireturn, 1) := by decide +kernel
theorem dX12_together_0 : decode cX12_together 0 = .ok (.aload_n 0, 1) := by decide +kernel
theorem dX12_together_1 : decode cX12_together 1 = .ok (.iconst 0, 1) := by decide +kernel
theorem dX12_together_2 : decode cX12_together 2 = .ok (.putfield 114, 3) := by decide +kernel
theorem dX12_together_5 : decode cX12_together 5 = .ok (.aload_n 0, 1) := by decide +kernel
theorem dX12_together_6 : decode cX12_together 6 = .ok (.iload_n 1, 1) := by decide +kernel
theorem dX12_together_7 : decode cX12_together 7 = .ok (.invokevirtual 390, 3) := by decide +kernel
theorem dX12_together_10 : decode cX12_together 10 = .ok (.ifCond .ne 5, 3) := by decide +kernel
theorem dX12_together_13 : decode cX12_together 13 = .ok (.iconst 0, 1) := by decide +kernel
theorem dX12_together_14 : decode cX12_together 14 = .ok (.ireturn, 1) := by decide +kernel
theorem dX12_together_15 : decode cX12_together 15 = .ok (.aload_n 0, 1) := by decide +kernel
theorem dX12_together_16 : decode cX12_together 16 = .ok (.invokevirtual 381, 3) := by decide +kernel
theorem dX12_together_19 : decode cX12_together 19 = .ok (.aload_n 0, 1) := by decide +kernel
theorem dX12_together_20 : decode cX12_together 20 = .ok (.iload_n 1, 1) := by decide +kernel
theorem dX12_together_21 : decode cX12_together 21 = .ok (.iconst 0, 1) := by decide +kernel
theorem dX12_together_22 : decode cX12_together 22 = .ok (.invokevirtual 387, 3) := by decide +kernel
theorem dX12_together_25 : decode cX12_together 25 = .ok (.ireturn, 1) := by decide +kernel
theorem dX12_pause_0 : decode cX12_pause 0 = .ok (.aload_n 0, 1) := by decide +kernel
theorem dX12_pause_1 : decode cX12_pause 1 = .ok (.iconst 0, 1) := by decide +kernel
theorem dX12_pause_2 : decode cX12_pause 2 = .ok (.putfield 114, 3) := by decide +kernel
theorem dX12_pause_5 : decode cX12_pause 5 = .ok (.aload_n 0, 1) := by decide +kernel
theorem dX12_pause_6 : decode cX12_pause 6 = .ok (.iload_n 1, 1) := by decide +kernel
theorem dX12_pause_7 : decode cX12_pause 7 = .ok (.invokevirtual 351, 3) := by decide +kernel
theorem dX12_pause_10 : decode cX12_pause 10 = .ok (.ifCond .ne 5, 3) := by decide +kernel
theorem dX12_pause_13 : decode cX12_pause 13 = .ok (.iconst 0, 1) := by decide +kernel
theorem dX12_pause_14 : decode cX12_pause 14 = .ok (.ireturn, 1) := by decide +kernel
theorem dX12_pause_15 : decode cX12_pause 15 = .ok (.aload_n 0, 1) := by decide +kernel
theorem dX12_pause_16 : decode cX12_pause 16 = .ok (.invokevirtual 381, 3) := by decide +kernel
theorem dX12_pause_19 : decode cX12_pause 19 = .ok (.aload_n 0, 1) := by decide +kernel
theorem dX12_pause_20 : decode cX12_pause 20 = .ok (.iconst 1, 1) := by decide +kernel
theorem dX12_pause_21 : decode cX12_pause 21 = .ok (.iload_n 1, 1) := by decide +kernel
theorem dX12_pause_22 : decode cX12_pause 22 = .ok (.ishl, 1) := by decide +kernel
theorem dX12_pause_23 : decode cX12_pause 23 = .ok (.iconst 0, 1) := by decide +kernel
theorem dX12_pause_24 : decode cX12_pause 24 = .ok (.invokevirtual 387, 3) := by decide +kernel
theorem dX12_pause_27 : decode cX12_pause 27 = .ok (.istore_n 2, 1) := by decide +kernel
theorem dX12_pause_28 : decode cX12_pause 28 = .ok (.iload_n 2, 1) := by decide +kernel
theorem dX12_pause_29 : decode cX12_pause 29 = .ok (.iconst (-1), 1) := by decide +kernel
theorem dX12_pause_30 : decode cX12_pause 30 = .ok (.if_icmp .ne 7, 3) := by decide +kernel
theorem dX12_pause_33 : decode cX12_pause 33 = .ok (.iconst (-1), 1) := by decide +kernel
theorem dX12_pause_34 : decode cX12_pause 34 = .ok (.goto 11, 3) := by decide +kernel
theorem dX12_pause_37 : decode cX12_pause 37 = .ok (.aload_n 0, 1) := by decide +kernel
theorem dX12_pause_38 : decode cX12_pause 38 = .ok (.iconst 1, 1) := by decide +kernel
theorem dX12_pause_39 : decode cX12_pause 39 = .ok (.iload_n 1, 1) := by decide +kernel
theorem dX12_pause_40 : decode cX12_pause 40 = .ok (.ishl, 1) := by decide +kernel
theorem dX12_pause_41 : decode cX12_pause 41 = .ok (.iload_n 2, 1) := by decide +kernel
theorem dX12_pause_42 : decode cX12_pause 42 = .ok (.invokevirtual 387, 3) := by decide +kernel
theorem dX12_pause_45 : decode cX12_pause 45 = .ok (.istore_n 3, 1) := by decide +kernel
theorem dX12_pause_46 : decode cX12_pause 46 = .ok (.iload_n 3, 1) := by decide +kernel
theorem dX12_pause_47 : decode cX12_pause 47 = .ok (.iconst (-1), 1) := by decide +kernel
theorem dX12_pause_48 : decode cX12_pause 48 = .ok (.if_icmp .ne 7, 3) := by decide +kernel
theorem dX12_pause_51 : decode cX12_pause 51 = .ok (.iconst (-1), 1) := by decide +kernel
theorem dX12_pause_52 : decode cX12_pause 52 = .ok (.goto 6, 3) := by decide +kernel
theorem dX12_pause_55 : decode cX12_pause 55 = .ok (.iload_n 3, 1) := by decide +kernel
theorem dX12_pause_56 : decode cX12_pause 56 = .ok (.iload_n 2, 1) := by decide +kernel
theorem dX12_pause_57 : decode cX12_pause 57 = .ok (.isub, 1) := by decide +kernel
theorem dX12_pause_58 : decode cX12_pause 58 = .ok (.ireturn, 1) := by decide +kernel
theorem dX12_sound_0 : decode cX12_sound 0 = .ok (.aload_n 0, 1) := by decide +kernel
theorem dX12_sound_1 : decode cX12_sound 1 = .ok (.iconst 0, 1) := by decide +kernel
theorem dX12_sound_2 : decode cX12_sound 2 = .ok (.putfield 114, 3) := by decide +kernel
theorem dX12_sound_5 : decode cX12_sound 5 = .ok (.aload_n 0, 1) := by decide +kernel
theorem dX12_sound_6 : decode cX12_sound 6 = .ok (.iload_n 2, 1) := by decide +kernel
theorem dX12_sound_7 : decode cX12_sound 7 = .ok (.iconst 1, 1) := by decide +kernel
theorem dX12_sound_8 : decode cX12_sound 8 = .ok (.invokevirtual 354, 3) := by decide +kernel
theorem dX12_sound_11 : decode cX12_sound 11 = .ok (.ifCond .eq 13, 3) := by decide +kernel
theorem dX12_sound_14 : decode cX12_sound 14 = .ok (.aload_n 0, 1) := by decide +kernel
theorem dX12_sound_15 : decode cX12_sound 15 = .ok (.iload_n 1, 1) := by decide +kernel
theorem dX12_sound_16 : decode cX12_sound 16 = .ok (.iconst 1, 1) := by decide +kernel
theorem dX12_sound_17 : decode cX12_sound 17 = .ok (.iconst 2, 1) := by decide +kernel
theorem dX12_sound_18 : decode cX12_sound 18 = .ok (.invokevirtual 378, 3) := by decide +kernel
theorem dX12_sound_21 : decode cX12_sound 21 = .ok (.ifCond .ne 5, 3) := by decide +kernel
theorem dX12_sound_24 : decode cX12_sound 24 = .ok (.iconst 0, 1) := by decide +kernel
theorem dX12_sound_25 : decode cX12_sound 25 = .ok (.ireturn, 1) := by decide +kernel
theorem dX12_sound_26 : decode cX12_sound 26 = .ok (.iconst 0, 1) := by decide +kernel
theorem dX12_sound_27 : decode cX12_sound 27 = .ok (.istore_n 3, 1) := by decide +kernel
theorem dX12_sound_28 : decode cX12_sound 28 = .ok (.iconst 0, 1) := by decide +kernel
theorem dX12_sound_29 : decode cX12_sound 29 = .ok (.istore 4, 2) := by decide +kernel
theorem dX12_sound_31 : decode cX12_sound 31 = .ok (.iconst (-1), 1) := by decide +kernel
theorem dX12_sound_32 : decode cX12_sound 32 = .ok (.istore 5, 2) := by decide +kernel
theorem dX12_sound_34 : decode cX12_sound 34 = .ok (.iconst (-1), 1) := by decide +kernel
theorem dX12_sound_35 : decode cX12_sound 35 = .ok (.istore 6, 2) := by decide +kernel
theorem dX12_sound_37 : decode cX12_sound 37 = .ok (.aload_n 0, 1) := by decide +kernel
theorem dX12_sound_38 : decode cX12_sound 38 = .ok (.invokevirtual 381, 3) := by decide +kernel
theorem dX12_sound_41 : decode cX12_sound 41 = .ok (.iconst 1, 1) := by decide +kernel
theorem dX12_sound_42 : decode cX12_sound 42 = .ok (.istore 7, 2) := by decide +kernel
theorem dX12_sound_44 : decode cX12_sound 44 = .ok (.iload 7, 2) := by decide +kernel
theorem dX12_sound_46 : decode cX12_sound 46 = .ok (.iload_n 1, 1) := by decide +kernel
theorem dX12_sound_47 : decode cX12_sound 47 = .ok (.if_icmp .gt 66, 3) := by decide +kernel
theorem dX12_sound_50 : decode cX12_sound 50 = .ok (.aload_n 0, 1) := by decide +kernel
theorem dX12_sound_51 : decode cX12_sound 51 = .ok (.bipush 64, 2) := by decide +kernel
theorem dX12_sound_53 : decode cX12_sound 53 = .ok (.invokevirtual 323, 3) := by decide +kernel
theorem dX12_sound_56 : decode cX12_sound 56 = .ok (.aload_n 0, 1) := by decide +kernel
theorem dX12_sound_57 : decode cX12_sound 57 = .ok (.getfield 300, 3) := by decide +kernel
theorem dX12_sound_60 : decode cX12_sound 60 = .ok (.ifCond .ne 9, 3) := by decide +kernel
theorem dX12_sound_63 : decode cX12_sound 63 = .ok (.iload_n 3, 1) := by decide +kernel
theorem dX12_sound_64 : decode cX12_sound 64 = .ok (.iconst 1, 1) := by decide +kernel
theorem dX12_sound_65 : decode cX12_sound 65 = .ok (.iadd, 1) := by decide +kernel
theorem dX12_sound_66 : decode cX12_sound 66 = .ok (.goto 4, 3) := by decide +kernel
theorem dX12_sound_69 : decode cX12_sound 69 = .ok (.iconst 0, 1) := by decide +kernel
theorem dX12_sound_70 : decode cX12_sound 70 = .ok (.istore_n 3, 1) := by decide +kernel
theorem dX12_sound_71 : decode cX12_sound 71 = .ok (.iload 4, 2) := by decide +kernel
theorem dX12_sound_73 : decode cX12_sound 73 = .ok (.iload_n 3, 1) := by decide +kernel
theorem dX12_sound_74 : decode cX12_sound 74 = .ok (.invokestatic 348, 3) := by decide +kernel
theorem dX12_sound_77 : decode cX12_sound 77 = .ok (.istore 4, 2) := by decide +kernel
theorem dX12_sound_79 : decode cX12_sound 79 = .ok (.aload_n 0, 1) := by decide +kernel
theorem dX12_sound_80 : decode cX12_sound 80 = .ok (.getfield 300, 3) := by decide +kernel
theorem dX12_sound_83 : decode cX12_sound 83 = .ok (.invokestatic 393, 3) := by decide +kernel
theorem dX12_sound_86 : decode cX12_sound 86 = .ok (.iload 6, 2) := by decide +kernel
theorem dX12_sound_88 : decode cX12_sound 88 = .ok (.if_icmp .gt 6, 3) := by decide +kernel
theorem dX12_sound_91 : decode cX12_sound 91 = .ok (.goto 16, 3) := by decide +kernel
theorem dX12_sound_94 : decode cX12_sound 94 = .ok (.iload 7, 2) := by decide +kernel
theorem dX12_sound_96 : decode cX12_sound 96 = .ok (.istore 5, 2) := by decide +kernel
theorem dX12_sound_98 : decode cX12_sound 98 = .ok (.aload_n 0, 1) := by decide +kernel
theorem dX12_sound_99 : decode cX12_sound 99 = .ok (.getfield 300, 3) := by decide +kernel
theorem dX12_sound_102 : decode cX12_sound 102 = .ok (.invokestatic 393, 3) := by decide +kernel
theorem dX12_sound_105 : decode cX12_sound 105 = .ok (.istore 6, 2) := by decide +kernel
theorem dX12_sound_107 : decode cX12_sound 107 = .ok (.iinc 7 1, 3) := by decide +kernel
theorem dX12_sound_110 : decode cX12_sound 110 = .ok (.goto (-66), 3) := by decide +kernel
theorem dX12_sound_113 : decode cX12_sound 113 = .ok (.iload_n 2, 1) := by decide +kernel
theorem dX12_sound_114 : decode cX12_sound 114 = .ok (.ifCond .ne 8, 3) := by decide +kernel
theorem dX12_sound_117 : decode cX12_sound 117 = .ok (.iload 4, 2) := by decide +kernel
theorem dX12_sound_119 : decode cX12_sound 119 = .ok (.goto 5, 3) := by decide +kernel
theorem dX12_sound_122 : decode cX12_sound 122 = .ok (.iload 5, 2) := by decide +kernel
theorem dX12_sound_124 : decode cX12_sound 124 = .ok (.ireturn, 1) := by decide +kernel
theorem dX12_chorus_0 : decode cX12_chorus 0 = .ok (.aload_n 0, 1) := by decide +kernel
theorem dX12_chorus_1 : decode cX12_chorus 1 = .ok (.iconst 0, 1) := by decide +kernel
theorem dX12_chorus_2 : decode cX12_chorus 2 = .ok (.putfield 114, 3) := by decide +kernel
theorem dX12_chorus_5 : decode cX12_chorus 5 = .ok (.aload_n 0, 1) := by decide +kernel
theorem dX12_chorus_6 : decode cX12_chorus 6 = .ok (.iload_n 1, 1) := by decide +kernel
theorem dX12_chorus_7 : decode cX12_chorus 7 = .ok (.invokevirtual 390, 3) := by decide +kernel
theorem dX12_chorus_10 : decode cX12_chorus 10 = .ok (.ifCond .eq 13, 3) := by decide +kernel
theorem dX12_chorus_13 : decode cX12_chorus 13 = .ok (.aload_n 0, 1) := by decide +kernel
theorem dX12_chorus_14 : decode cX12_chorus 14 = .ok (.iload_n 2, 1) := by decide +kernel
theorem dX12_chorus_15 : decode cX12_chorus 15 = .ok (.iconst 1, 1) := by decide +kernel
theorem dX12_chorus_16 : decode cX12_chorus 16 = .ok (.iconst 1, 1) := by decide +kernel
theorem dX12_chorus_17 : decode cX12_chorus 17 = .ok (.invokevirtual 378, 3) := by decide +kernel
theorem dX12_chorus_20 : decode cX12_chorus 20 = .ok (.ifCond .ne 5, 3) := by decide +kernel
theorem dX12_chorus_23 : decode cX12_chorus 23 = .ok (.iconst 0, 1) := by decide +kernel
theorem dX12_chorus_24 : decode cX12_chorus 24 = .ok (.ireturn, 1) := by decide +kernel
theorem dX12_chorus_25 : decode cX12_chorus 25 = .ok (.iconst 0, 1) := by decide +kernel
theorem dX12_chorus_26 : decode cX12_chorus 26 = .ok (.istore_n 3, 1) := by decide +kernel
theorem dX12_chorus_27 : decode cX12_chorus 27 = .ok (.aload_n 0, 1) := by decide +kernel
theorem dX12_chorus_28 : decode cX12_chorus 28 = .ok (.invokevirtual 381, 3) := by decide +kernel
theorem dX12_chorus_31 : decode cX12_chorus 31 = .ok (.iconst 0, 1) := by decide +kernel
theorem dX12_chorus_32 : decode cX12_chorus 32 = .ok (.istore 4, 2) := by decide +kernel
theorem dX12_chorus_34 : decode cX12_chorus 34 = .ok (.iload 4, 2) := by decide +kernel
theorem dX12_chorus_36 : decode cX12_chorus 36 = .ok (.iload_n 2, 1) := by decide +kernel
theorem dX12_chorus_37 : decode cX12_chorus 37 = .ok (.if_icmp .ge 33, 3) := by decide +kernel
theorem dX12_chorus_40 : decode cX12_chorus 40 = .ok (.aload_n 0, 1) := by decide +kernel
theorem dX12_chorus_41 : decode cX12_chorus 41 = .ok (.bipush 64, 2) := by decide +kernel
theorem dX12_chorus_43 : decode cX12_chorus 43 = .ok (.invokevirtual 323, 3) := by decide +kernel
theorem dX12_chorus_46 : decode cX12_chorus 46 = .ok (.iload_n 3, 1) := by decide +kernel
theorem dX12_chorus_47 : decode cX12_chorus 47 = .ok (.aload_n 0, 1) := by decide +kernel
theorem dX12_chorus_48 : decode cX12_chorus 48 = .ok (.getfield 300, 3) := by decide +kernel
theorem dX12_chorus_51 : decode cX12_chorus 51 = .ok (.iload_n 1, 1) := by decide +kernel
theorem dX12_chorus_52 : decode cX12_chorus 52 = .ok (.iand, 1) := by decide +kernel
theorem dX12_chorus_53 : decode cX12_chorus 53 = .ok (.iload_n 1, 1) := by decide +kernel
theorem dX12_chorus_54 : decode cX12_chorus 54 = .ok (.if_icmp .ne 7, 3) := by decide +kernel
theorem dX12_chorus_57 : decode cX12_chorus 57 = .ok (.iconst 1, 1) := by decide +kernel
theorem dX12_chorus_58 : decode cX12_chorus 58 = .ok (.goto 4, 3) := by decide +kernel
theorem dX12_chorus_61 : decode cX12_chorus 61 = .ok (.iconst 0, 1) := by decide +kernel
theorem dX12_chorus_62 : decode cX12_chorus 62 = .ok (.iadd, 1) := by decide +kernel
theorem dX12_chorus_63 : decode cX12_chorus 63 = .ok (.istore_n 3, 1) := by decide +kernel
theorem dX12_chorus_64 : decode cX12_chorus 64 = .ok (.iinc 4 1, 3) := by decide +kernel
theorem dX12_chorus_67 : decode cX12_chorus 67 = .ok (.goto (-33), 3) := by decide +kernel
theorem dX12_chorus_70 : decode cX12_chorus 70 = .ok (.iload_n 3, 1) := by decide +kernel
theorem dX12_chorus_71 : decode cX12_chorus 71 = .ok (.ireturn, 1) := by decide +kernel
theorem dX12_never_0 : decode cX12_never 0 = .ok (.aload_n 0, 1) := by decide +kernel
theorem dX12_never_1 : decode cX12_never 1 = .ok (.iconst 0, 1) := by decide +kernel
theorem dX12_never_2 : decode cX12_never 2 = .ok (.putfield 114, 3) := by decide +kernel
theorem dX12_never_5 : decode cX12_never 5 = .ok (.aload_n 0, 1) := by decide +kernel
theorem dX12_never_6 : decode cX12_never 6 = .ok (.iload_n 1, 1) := by decide +kernel
theorem dX12_never_7 : decode cX12_never 7 = .ok (.iconst 1, 1) := by decide +kernel
theorem dX12_never_8 : decode cX12_never 8 = .ok (.iconst 1, 1) := by decide +kernel
theorem dX12_never_9 : decode cX12_never 9 = .ok (.invokevirtual 378, 3) := by decide +kernel
theorem dX12_never_12 : decode cX12_never 12 = .ok (.ifCond .ne 5, 3) := by decide +kernel
theorem dX12_never_15 : decode cX12_never 15 = .ok (.iconst 0, 1) := by decide +kernel
theorem dX12_never_16 : decode cX12_never 16 = .ok (.ireturn, 1) := by decide +kernel
theorem dX12_never_17 : decode cX12_never 17 = .ok (.iconst 1, 1) := by decide +kernel
theorem dX12_never_18 : decode cX12_never 18 = .ok (.aload_n 0, 1) := by decide +kernel
theorem dX12_never_19 : decode cX12_never 19 = .ok (.getfield 269, 3) := by decide +kernel
theorem dX12_never_22 : decode cX12_never 22 = .ok (.ishl, 1) := by decide +kernel
theorem dX12_never_23 : decode cX12_never 23 = .ok (.iconst 1, 1) := by decide +kernel
theorem dX12_never_24 : decode cX12_never 24 = .ok (.isub, 1) := by decide +kernel
theorem dX12_never_25 : decode cX12_never 25 = .ok (.istore_n 2, 1) := by decide +kernel
theorem dX12_never_26 : decode cX12_never 26 = .ok (.aload_n 0, 1) := by decide +kernel
theorem dX12_never_27 : decode cX12_never 27 = .ok (.invokevirtual 381, 3) := by decide +kernel
theorem dX12_never_30 : decode cX12_never 30 = .ok (.iconst 0, 1) := by decide +kernel
theorem dX12_never_31 : decode cX12_never 31 = .ok (.istore_n 3, 1) := by decide +kernel
theorem dX12_never_32 : decode cX12_never 32 = .ok (.iload_n 3, 1) := by decide +kernel
theorem dX12_never_33 : decode cX12_never 33 = .ok (.iload_n 1, 1) := by decide +kernel
theorem dX12_never_34 : decode cX12_never 34 = .ok (.if_icmp .ge 24, 3) := by decide +kernel
theorem dX12_never_37 : decode cX12_never 37 = .ok (.aload_n 0, 1) := by decide +kernel
theorem dX12_never_38 : decode cX12_never 38 = .ok (.bipush 64, 2) := by decide +kernel
theorem dX12_never_40 : decode cX12_never 40 = .ok (.invokevirtual 323, 3) := by decide +kernel
theorem dX12_never_43 : decode cX12_never 43 = .ok (.iload_n 2, 1) := by decide +kernel
theorem dX12_never_44 : decode cX12_never 44 = .ok (.aload_n 0, 1) := by decide +kernel
theorem dX12_never_45 : decode cX12_never 45 = .ok (.getfield 300, 3) := by decide +kernel
theorem dX12_never_48 : decode cX12_never 48 = .ok (.iconst (-1), 1) := by decide +kernel
theorem dX12_never_49 : decode cX12_never 49 = .ok (.ixor, 1) := by decide +kernel
theorem dX12_never_50 : decode cX12_never 50 = .ok (.iand, 1) := by decide +kernel
theorem dX12_never_51 : decode cX12_never 51 = .ok (.istore_n 2, 1) := by decide +kernel
theorem dX12_never_52 : decode cX12_never 52 = .ok (.iinc 3 1, 3) := by decide +kernel
theorem dX12_never_55 : decode cX12_never 55 = .ok (.goto (-23), 3) := by decide +kernel
theorem dX12_never_58 : decode cX12_never 58 = .ok (.iload_n 2, 1) := by decide +kernel
theorem dX12_never_59 : decode cX12_never 59 = .ok (.ireturn, 1) := by decide +kernel
theorem dX12_swell_0 : decode cX12_swell 0 = .ok (.aload_n 0, 1) := by decide +kernel
theorem dX12_swell_1 : decode cX12_swell 1 = .ok (.iconst 0, 1) := by decide +kernel
theorem dX12_swell_2 : decode cX12_swell 2 = .ok (.putfield 114, 3) := by decide +kernel
theorem dX12_swell_5 : decode cX12_swell 5 = .ok (.aload_n 0, 1) := by decide +kernel
theorem dX12_swell_6 : decode cX12_swell 6 = .ok (.iload_n 1, 1) := by decide +kernel
theorem dX12_swell_7 : decode cX12_swell 7 = .ok (.invokevirtual 351, 3) := by decide +kernel
theorem dX12_swell_10 : decode cX12_swell 10 = .ok (.ifCond .eq 13, 3) := by decide +kernel
theorem dX12_swell_13 : decode cX12_swell 13 = .ok (.aload_n 0, 1) := by decide +kernel
theorem dX12_swell_14 : decode cX12_swell 14 = .ok (.iload_n 2, 1) := by decide +kernel
theorem dX12_swell_15 : decode cX12_swell 15 = .ok (.iconst 0, 1) := by decide +kernel
theorem dX12_swell_16 : decode cX12_swell 16 = .ok (.iconst 2, 1) := by decide +kernel
theorem dX12_swell_17 : decode cX12_swell 17 = .ok (.invokevirtual 378, 3) := by decide +kernel
theorem dX12_swell_20 : decode cX12_swell 20 = .ok (.ifCond .ne 5, 3) := by decide +kernel
theorem dX12_swell_23 : decode cX12_swell 23 = .ok (.iconst 0, 1) := by decide +kernel
theorem dX12_swell_24 : decode cX12_swell 24 = .ok (.ireturn, 1) := by decide +kernel
theorem dX12_swell_25 : decode cX12_swell 25 = .ok (.aload_n 0, 1) := by decide +kernel
theorem dX12_swell_26 : decode cX12_swell 26 = .ok (.getfield 51, 3) := by decide +kernel
theorem dX12_swell_29 : decode cX12_swell 29 = .ok (.bipush 10, 2) := by decide +kernel
theorem dX12_swell_31 : decode cX12_swell 31 = .ok (.iload_n 1, 1) := by decide +kernel
theorem dX12_swell_32 : decode cX12_swell 32 = .ok (.iadd, 1) := by decide +kernel
theorem dX12_swell_33 : decode cX12_swell 33 = .ok (.iaload, 1) := by decide +kernel
theorem dX12_swell_34 : decode cX12_swell 34 = .ok (.istore_n 3, 1) := by decide +kernel
theorem dX12_swell_35 : decode cX12_swell 35 = .ok (.aload_n 0, 1) := by decide +kernel
theorem dX12_swell_36 : decode cX12_swell 36 = .ok (.invokevirtual 381, 3) := by decide +kernel
theorem dX12_swell_39 : decode cX12_swell 39 = .ok (.iconst 0, 1) := by decide +kernel
theorem dX12_swell_40 : decode cX12_swell 40 = .ok (.istore 4, 2) := by decide +kernel
theorem dX12_swell_42 : decode cX12_swell 42 = .ok (.iload 4, 2) := by decide +kernel
theorem dX12_swell_44 : decode cX12_swell 44 = .ok (.iload_n 2, 1) := by decide +kernel
theorem dX12_swell_45 : decode cX12_swell 45 = .ok (.if_icmp .ge 29, 3) := by decide +kernel
theorem dX12_swell_48 : decode cX12_swell 48 = .ok (.aload_n 0, 1) := by decide +kernel
theorem dX12_swell_49 : decode cX12_swell 49 = .ok (.bipush 64, 2) := by decide +kernel
theorem dX12_swell_51 : decode cX12_swell 51 = .ok (.invokevirtual 323, 3) := by decide +kernel
theorem dX12_swell_54 : decode cX12_swell 54 = .ok (.iload_n 3, 1) := by decide +kernel
theorem dX12_swell_55 : decode cX12_swell 55 = .ok (.aload_n 0, 1) := by decide +kernel
theorem dX12_swell_56 : decode cX12_swell 56 = .ok (.getfield 51, 3) := by decide +kernel
theorem dX12_swell_59 : decode cX12_swell 59 = .ok (.bipush 74, 2) := by decide +kernel
theorem dX12_swell_61 : decode cX12_swell 61 = .ok (.iload_n 1, 1) := by decide +kernel
theorem dX12_swell_62 : decode cX12_swell 62 = .ok (.iadd, 1) := by decide +kernel
theorem dX12_swell_63 : decode cX12_swell 63 = .ok (.iaload, 1) := by decide +kernel
theorem dX12_swell_64 : decode cX12_swell 64 = .ok (.invokestatic 348, 3) := by decide +kernel
theorem dX12_swell_67 : decode cX12_swell 67 = .ok (.istore_n 3, 1) := by decide +kernel
theorem dX12_swell_68 : decode cX12_swell 68 = .ok (.iinc 4 1, 3) := by decide +kernel
theorem dX12_swell_71 : decode cX12_swell 71 = .ok (.goto (-29), 3) := by decide +kernel
theorem dX12_swell_74 : decode cX12_swell 74 = .ok (.iload_n 3, 1) := by decide +kernel
theorem dX12_swell_75 : decode cX12_swell 75 = .ok (.ireturn, 1) := by decide +kernel
theorem dX12_later_0 : decode cX12_later 0 = .ok (.aload_n 0, 1) := by decide +kernel
theorem dX12_later_1 : decode cX12_later 1 = .ok (.iconst 0, 1) := by decide +kernel
theorem dX12_later_2 : decode cX12_later 2 = .ok (.putfield 114, 3) := by decide +kernel
theorem dX12_later_5 : decode cX12_later 5 = .ok (.aload_n 0, 1) := by decide +kernel
theorem dX12_later_6 : decode cX12_later 6 = .ok (.iload_n 2, 1) := by decide +kernel
theorem dX12_later_7 : decode cX12_later 7 = .ok (.iconst 2, 1) := by decide +kernel
theorem dX12_later_8 : decode cX12_later 8 = .ok (.invokevirtual 354, 3) := by decide +kernel
theorem dX12_later_11 : decode cX12_later 11 = .ok (.ifCond .eq 13, 3) := by decide +kernel
theorem dX12_later_14 : decode cX12_later 14 = .ok (.aload_n 0, 1) := by decide +kernel
theorem dX12_later_15 : decode cX12_later 15 = .ok (.iload_n 1, 1) := by decide +kernel
theorem dX12_later_16 : decode cX12_later 16 = .ok (.iconst 0, 1) := by decide +kernel
theorem dX12_later_17 : decode cX12_later 17 = .ok (.iconst 2, 1) := by decide +kernel
theorem dX12_later_18 : decode cX12_later 18 = .ok (.invokevirtual 378, 3) := by decide +kernel
theorem dX12_later_21 : decode cX12_later 21 = .ok (.ifCond .ne 5, 3) := by decide +kernel
theorem dX12_later_24 : decode cX12_later 24 = .ok (.iconst 0, 1) := by decide +kernel
theorem dX12_later_25 : decode cX12_later 25 = .ok (.ireturn, 1) := by decide +kernel
theorem dX12_later_26 : decode cX12_later 26 = .ok (.iconst 0, 1) := by decide +kernel
theorem dX12_later_27 : decode cX12_later 27 = .ok (.istore_n 3, 1) := by decide +kernel
theorem dX12_later_28 : decode cX12_later 28 = .ok (.aload_n 0, 1) := by decide +kernel
theorem dX12_later_29 : decode cX12_later 29 = .ok (.invokevirtual 381, 3) := by decide +kernel
theorem dX12_later_32 : decode cX12_later 32 = .ok (.iconst 0, 1) := by decide +kernel
theorem dX12_later_33 : decode cX12_later 33 = .ok (.istore 4, 2) := by decide +kernel
theorem dX12_later_35 : decode cX12_later 35 = .ok (.iload 4, 2) := by decide +kernel
theorem dX12_later_37 : decode cX12_later 37 = .ok (.iload_n 1, 1) := by decide +kernel
theorem dX12_later_38 : decode cX12_later 38 = .ok (.if_icmp .ge 22, 3) := by decide +kernel
theorem dX12_later_41 : decode cX12_later 41 = .ok (.aload_n 0, 1) := by decide +kernel
theorem dX12_later_42 : decode cX12_later 42 = .ok (.bipush 64, 2) := by decide +kernel
theorem dX12_later_44 : decode cX12_later 44 = .ok (.invokevirtual 323, 3) := by decide +kernel
theorem dX12_later_47 : decode cX12_later 47 = .ok (.iload_n 3, 1) := by decide +kernel
theorem dX12_later_48 : decode cX12_later 48 = .ok (.aload_n 0, 1) := by decide +kernel
theorem dX12_later_49 : decode cX12_later 49 = .ok (.getfield 293, 3) := by decide +kernel
theorem dX12_later_52 : decode cX12_later 52 = .ok (.iadd, 1) := by decide +kernel
theorem dX12_later_53 : decode cX12_later 53 = .ok (.istore_n 3, 1) := by decide +kernel
theorem dX12_later_54 : decode cX12_later 54 = .ok (.iinc 4 1, 3) := by decide +kernel
theorem dX12_later_57 : decode cX12_later 57 = .ok (.goto (-22), 3) := by decide +kernel
theorem dX12_later_60 : decode cX12_later 60 = .ok (.iconst (-1), 1) := by decide +kernel
theorem dX12_later_61 : decode cX12_later 61 = .ok (.istore 4, 2) := by decide +kernel
theorem dX12_later_63 : decode cX12_later 63 = .ok (.iconst 0, 1) := by decide +kernel
theorem dX12_later_64 : decode cX12_later 64 = .ok (.istore 5, 2) := by decide +kernel
theorem dX12_later_66 : decode cX12_later 66 = .ok (.iconst 0, 1) := by decide +kernel
theorem dX12_later_67 : decode cX12_later 67 = .ok (.istore 6, 2) := by decide +kernel
theorem dX12_later_69 : decode cX12_later 69 = .ok (.iload 6, 2) := by decide +kernel
theorem dX12_later_71 : decode cX12_later 71 = .ok (.aload_n 0, 1) := by decide +kernel
theorem dX12_later_72 : decode cX12_later 72 = .ok (.getfield 269, 3) := by decide +kernel
theorem dX12_later_75 : decode cX12_later 75 = .ok (.if_icmp .ge 68, 3) := by decide +kernel
theorem dX12_later_78 : decode cX12_later 78 = .ok (.iload 4, 2) := by decide +kernel
theorem dX12_later_80 : decode cX12_later 80 = .ok (.iconst (-1), 1) := by decide +kernel
theorem dX12_later_81 : decode cX12_later 81 = .ok (.if_icmp .eq 26, 3) := by decide +kernel
theorem dX12_later_84 : decode cX12_later 84 = .ok (.aload_n 0, 1) := by decide +kernel
theorem dX12_later_85 : decode cX12_later 85 = .ok (.getfield 51, 3) := by decide +kernel
theorem dX12_later_88 : decode cX12_later 88 = .ok (.bipush 74, 2) := by decide +kernel
theorem dX12_later_90 : decode cX12_later 90 = .ok (.iload 6, 2) := by decide +kernel
theorem dX12_later_92 : decode cX12_later 92 = .ok (.iadd, 1) := by decide +kernel
theorem dX12_later_93 : decode cX12_later 93 = .ok (.iaload, 1) := by decide +kernel
theorem dX12_later_94 : decode cX12_later 94 = .ok (.aload_n 0, 1) := by decide +kernel
theorem dX12_later_95 : decode cX12_later 95 = .ok (.getfield 51, 3) := by decide +kernel
theorem dX12_later_98 : decode cX12_later 98 = .ok (.bipush 74, 2) := by decide +kernel
theorem dX12_later_100 : decode cX12_later 100 = .ok (.iload 4, 2) := by decide +kernel
theorem dX12_later_102 : decode cX12_later 102 = .ok (.iadd, 1) := by decide +kernel
theorem dX12_later_103 : decode cX12_later 103 = .ok (.iaload, 1) := by decide +kernel
theorem dX12_later_104 : decode cX12_later 104 = .ok (.if_icmp .le 7, 3) := by decide +kernel
theorem dX12_later_107 : decode cX12_later 107 = .ok (.iload 6, 2) := by decide +kernel
theorem dX12_later_109 : decode cX12_later 109 = .ok (.istore 4, 2) := by decide +kernel
theorem dX12_later_111 : decode cX12_later 111 = .ok (.iload 5, 2) := by decide +kernel
theorem dX12_later_113 : decode cX12_later 113 = .ok (.aload_n 0, 1) := by decide +kernel
theorem dX12_later_114 : decode cX12_later 114 = .ok (.getfield 51, 3) := by decide +kernel
theorem dX12_later_117 : decode cX12_later 117 = .ok (.bipush 74, 2) := by decide +kernel
theorem dX12_later_119 : decode cX12_later 119 = .ok (.iload 6, 2) := by decide +kernel
theorem dX12_later_121 : decode cX12_later 121 = .ok (.iadd, 1) := by decide +kernel
theorem dX12_later_122 : decode cX12_later 122 = .ok (.iaload, 1) := by decide +kernel
theorem dX12_later_123 : decode cX12_later 123 = .ok (.ifCond .ne 10, 3) := by decide +kernel
theorem dX12_later_126 : decode cX12_later 126 = .ok (.iconst 1, 1) := by decide +kernel
theorem dX12_later_127 : decode cX12_later 127 = .ok (.iload 6, 2) := by decide +kernel
theorem dX12_later_129 : decode cX12_later 129 = .ok (.ishl, 1) := by decide +kernel
theorem dX12_later_130 : decode cX12_later 130 = .ok (.goto 4, 3) := by decide +kernel
theorem dX12_later_133 : decode cX12_later 133 = .ok (.iconst 0, 1) := by decide +kernel
theorem dX12_later_134 : decode cX12_later 134 = .ok (.ior, 1) := by decide +kernel
theorem dX12_later_135 : decode cX12_later 135 = .ok (.istore 5, 2) := by decide +kernel
theorem dX12_later_137 : decode cX12_later 137 = .ok (.iinc 6 1, 3) := by decide +kernel
theorem dX12_later_140 : decode cX12_later 140 = .ok (.goto (-71), 3) := by decide +kernel
theorem dX12_later_143 : decode cX12_later 143 = .ok (.iload_n 2, 1) := by decide +kernel
theorem dX12_later_144 : decode cX12_later 144 = .ok (.ifCond .ne 8, 3) := by decide +kernel
theorem dX12_later_147 : decode cX12_later 147 = .ok (.iload 4, 2) := by decide +kernel
theorem dX12_later_149 : decode cX12_later 149 = .ok (.goto 14, 3) := by decide +kernel
theorem dX12_later_152 : decode cX12_later 152 = .ok (.iload_n 2, 1) := by decide +kernel
theorem dX12_later_153 : decode cX12_later 153 = .ok (.iconst 1, 1) := by decide +kernel
theorem dX12_later_154 : decode cX12_later 154 = .ok (.if_icmp .ne 8, 3) := by decide +kernel
theorem dX12_later_157 : decode cX12_later 157 = .ok (.iload 5, 2) := by decide +kernel
theorem dX12_later_159 : decode cX12_later 159 = .ok (.goto 4, 3) := by decide +kernel
theorem dX12_later_162 : decode cX12_later 162 = .ok (.iload_n 3, 1) := by decide +kernel
theorem dX12_later_163 : decode cX12_later 163 = .ok (.ireturn, 1) := by decide +kernel
theorem dX12_oftenest_0 : decode cX12_oftenest 0 = .ok (.aload_n 0, 1) := by decide +kernel
theorem dX12_oftenest_1 : decode cX12_oftenest 1 = .ok (.iconst 0, 1) := by decide +kernel
theorem dX12_oftenest_2 : decode cX12_oftenest 2 = .ok (.putfield 114, 3) := by decide +kernel
theorem dX12_oftenest_5 : decode cX12_oftenest 5 = .ok (.aload_n 0, 1) := by decide +kernel
theorem dX12_oftenest_6 : decode cX12_oftenest 6 = .ok (.iload_n 1, 1) := by decide +kernel
theorem dX12_oftenest_7 : decode cX12_oftenest 7 = .ok (.iconst 1, 1) := by decide +kernel
theorem dX12_oftenest_8 : decode cX12_oftenest 8 = .ok (.iconst 1, 1) := by decide +kernel
theorem dX12_oftenest_9 : decode cX12_oftenest 9 = .ok (.invokevirtual 378, 3) := by decide +kernel
theorem dX12_oftenest_12 : decode cX12_oftenest 12 = .ok (.ifCond .ne 5, 3) := by decide +kernel
theorem dX12_oftenest_15 : decode cX12_oftenest 15 = .ok (.iconst 0, 1) := by decide +kernel
theorem dX12_oftenest_16 : decode cX12_oftenest 16 = .ok (.ireturn, 1) := by decide +kernel
theorem dX12_oftenest_17 : decode cX12_oftenest 17 = .ok (.iconst 0, 1) := by decide +kernel
theorem dX12_oftenest_18 : decode cX12_oftenest 18 = .ok (.istore_n 2, 1) := by decide +kernel
theorem dX12_oftenest_19 : decode cX12_oftenest 19 = .ok (.iload_n 2, 1) := by decide +kernel
theorem dX12_oftenest_20 : decode cX12_oftenest 20 = .ok (.bipush 9, 2) := by decide +kernel
theorem dX12_oftenest_22 : decode cX12_oftenest 22 = .ok (.if_icmp .ge 16, 3) := by decide +kernel
theorem dX12_oftenest_25 : decode cX12_oftenest 25 = .ok (.aload_n 0, 1) := by decide +kernel
theorem dX12_oftenest_26 : decode cX12_oftenest 26 = .ok (.getfield 75, 3) := by decide +kernel
theorem dX12_oftenest_29 : decode cX12_oftenest 29 = .ok (.iload_n 2, 1) := by decide +kernel
theorem dX12_oftenest_30 : decode cX12_oftenest 30 = .ok (.iconst 0, 1) := by decide +kernel
theorem dX12_oftenest_31 : decode cX12_oftenest 31 = .ok (.iastore, 1) := by decide +kernel
theorem dX12_oftenest_32 : decode cX12_oftenest 32 = .ok (.iinc 2 1, 3) := by decide +kernel
theorem dX12_oftenest_35 : decode cX12_oftenest 35 = .ok (.goto (-16), 3) := by decide +kernel
theorem dX12_oftenest_38 : decode cX12_oftenest 38 = .ok (.aload_n 0, 1) := by decide +kernel
theorem dX12_oftenest_39 : decode cX12_oftenest 39 = .ok (.invokevirtual 381, 3) := by decide +kernel
theorem dX12_oftenest_42 : decode cX12_oftenest 42 = .ok (.iconst 0, 1) := by decide +kernel
theorem dX12_oftenest_43 : decode cX12_oftenest 43 = .ok (.istore_n 2, 1) := by decide +kernel
theorem dX12_oftenest_44 : decode cX12_oftenest 44 = .ok (.iload_n 2, 1) := by decide +kernel
theorem dX12_oftenest_45 : decode cX12_oftenest 45 = .ok (.iload_n 1, 1) := by decide +kernel
theorem dX12_oftenest_46 : decode cX12_oftenest 46 = .ok (.if_icmp .ge 46, 3) := by decide +kernel
theorem dX12_oftenest_49 : decode cX12_oftenest 49 = .ok (.aload_n 0, 1) := by decide +kernel
theorem dX12_oftenest_50 : decode cX12_oftenest 50 = .ok (.bipush 64, 2) := by decide +kernel
theorem dX12_oftenest_52 : decode cX12_oftenest 52 = .ok (.invokevirtual 323, 3) := by decide +kernel
theorem dX12_oftenest_55 : decode cX12_oftenest 55 = .ok (.iconst 0, 1) := by decide +kernel
theorem dX12_oftenest_56 : decode cX12_oftenest 56 = .ok (.istore_n 3, 1) := by decide +kernel
theorem dX12_oftenest_57 : decode cX12_oftenest 57 = .ok (.iload_n 3, 1) := by decide +kernel
theorem dX12_oftenest_58 : decode cX12_oftenest 58 = .ok (.aload_n 0, 1) := by decide +kernel
theorem dX12_oftenest_59 : decode cX12_oftenest 59 = .ok (.getfield 269, 3) := by decide +kernel
theorem dX12_oftenest_62 : decode cX12_oftenest 62 = .ok (.if_icmp .ge 24, 3) := by decide +kernel
theorem dX12_oftenest_65 : decode cX12_oftenest 65 = .ok (.aload_n 0, 1) := by decide +kernel
theorem dX12_oftenest_66 : decode cX12_oftenest 66 = .ok (.getfield 75, 3) := by decide +kernel
theorem dX12_oftenest_69 : decode cX12_oftenest 69 = .ok (.iload_n 3, 1) := by decide +kernel
theorem dX12_oftenest_70 : decode cX12_oftenest 70 = .ok (.dup2, 1) := by decide +kernel
theorem dX12_oftenest_71 : decode cX12_oftenest 71 = .ok (.iaload, 1) := by decide +kernel
theorem dX12_oftenest_72 : decode cX12_oftenest 72 = .ok (.aload_n 0, 1) := by decide +kernel
theorem dX12_oftenest_73 : decode cX12_oftenest 73 = .ok (.getfield 66, 3) := by decide +kernel
theorem dX12_oftenest_76 : decode cX12_oftenest 76 = .ok (.iload_n 3, 1) := by decide +kernel
theorem dX12_oftenest_77 : decode cX12_oftenest 77 = .ok (.iaload, 1) := by decide +kernel
theorem dX12_oftenest_78 : decode cX12_oftenest 78 = .ok (.iadd, 1) := by decide +kernel
theorem dX12_oftenest_79 : decode cX12_oftenest 79 = .ok (.iastore, 1) := by decide +kernel
theorem dX12_oftenest_80 : decode cX12_oftenest 80 = .ok (.iinc 3 1, 3) := by decide +kernel
theorem dX12_oftenest_83 : decode cX12_oftenest 83 = .ok (.goto (-26), 3) := by decide +kernel
theorem dX12_oftenest_86 : decode cX12_oftenest 86 = .ok (.iinc 2 1, 3) := by decide +kernel
theorem dX12_oftenest_89 : decode cX12_oftenest 89 = .ok (.goto (-45), 3) := by decide +kernel
theorem dX12_oftenest_92 : decode cX12_oftenest 92 = .ok (.iconst (-1), 1) := by decide +kernel
theorem dX12_oftenest_93 : decode cX12_oftenest 93 = .ok (.istore_n 2, 1) := by decide +kernel
theorem dX12_oftenest_94 : decode cX12_oftenest 94 = .ok (.iconst 0, 1) := by decide +kernel
theorem dX12_oftenest_95 : decode cX12_oftenest 95 = .ok (.istore_n 3, 1) := by decide +kernel
theorem dX12_oftenest_96 : decode cX12_oftenest 96 = .ok (.iload_n 3, 1) := by decide +kernel
theorem dX12_oftenest_97 : decode cX12_oftenest 97 = .ok (.aload_n 0, 1) := by decide +kernel
theorem dX12_oftenest_98 : decode cX12_oftenest 98 = .ok (.getfield 269, 3) := by decide +kernel
theorem dX12_oftenest_101 : decode cX12_oftenest 101 = .ok (.if_icmp .ge 31, 3) := by decide +kernel
theorem dX12_oftenest_104 : decode cX12_oftenest 104 = .ok (.iload_n 2, 1) := by decide +kernel
theorem dX12_oftenest_105 : decode cX12_oftenest 105 = .ok (.iconst (-1), 1) := by decide +kernel
theorem dX12_oftenest_106 : decode cX12_oftenest 106 = .ok (.if_icmp .eq 18, 3) := by decide +kernel
theorem dX12_oftenest_109 : decode cX12_oftenest 109 = .ok (.aload_n 0, 1) := by decide +kernel
theorem dX12_oftenest_110 : decode cX12_oftenest 110 = .ok (.getfield 75, 3) := by decide +kernel
theorem dX12_oftenest_113 : decode cX12_oftenest 113 = .ok (.iload_n 3, 1) := by decide +kernel
theorem dX12_oftenest_114 : decode cX12_oftenest 114 = .ok (.iaload, 1) := by decide +kernel
theorem dX12_oftenest_115 : decode cX12_oftenest 115 = .ok (.aload_n 0, 1) := by decide +kernel
theorem dX12_oftenest_116 : decode cX12_oftenest 116 = .ok (.getfield 75, 3) := by decide +kernel
theorem dX12_oftenest_119 : decode cX12_oftenest 119 = .ok (.iload_n 2, 1) := by decide +kernel
theorem dX12_oftenest_120 : decode cX12_oftenest 120 = .ok (.iaload, 1) := by decide +kernel
theorem dX12_oftenest_121 : decode cX12_oftenest 121 = .ok (.if_icmp .le 5, 3) := by decide +kernel
theorem dX12_oftenest_124 : decode cX12_oftenest 124 = .ok (.iload_n 3, 1) := by decide +kernel
theorem dX12_oftenest_125 : decode cX12_oftenest 125 = .ok (.istore_n 2, 1) := by decide +kernel
theorem dX12_oftenest_126 : decode cX12_oftenest 126 = .ok (.iinc 3 1, 3) := by decide +kernel
theorem dX12_oftenest_129 : decode cX12_oftenest 129 = .ok (.goto (-33), 3) := by decide +kernel
theorem dX12_oftenest_132 : decode cX12_oftenest 132 = .ok (.iload_n 2, 1) := by decide +kernel
theorem dX12_oftenest_133 : decode cX12_oftenest 133 = .ok (.ireturn, 1) := by decide +kernel
theorem dX12_round_0 : decode cX12_round 0 = .ok (.aload_n 0, 1) := by decide +kernel
theorem dX12_round_1 : decode cX12_round 1 = .ok (.iconst 0, 1) := by decide +kernel
theorem dX12_round_2 : decode cX12_round 2 = .ok (.putfield 114, 3) := by decide +kernel
theorem dX12_round_5 : decode cX12_round 5 = .ok (.aload_n 0, 1) := by decide +kernel
theorem dX12_round_6 : decode cX12_round 6 = .ok (.invokevirtual 381, 3) := by decide +kernel
theorem dX12_round_9 : decode cX12_round 9 = .ok (.iconst 1, 1) := by decide +kernel
theorem dX12_round_10 : decode cX12_round 10 = .ok (.istore_n 1, 1) := by decide +kernel
theorem dX12_round_11 : decode cX12_round 11 = .ok (.iload_n 1, 1) := by decide +kernel
theorem dX12_round_12 : decode cX12_round 12 = .ok (.sipush 200, 3) := by decide +kernel
theorem dX12_round_15 : decode cX12_round 15 = .ok (.if_icmp .gt 70, 3) := by decide +kernel
theorem dX12_round_18 : decode cX12_round 18 = .ok (.aload_n 0, 1) := by decide +kernel
theorem dX12_round_19 : decode cX12_round 19 = .ok (.bipush 64, 2) := by decide +kernel
theorem dX12_round_21 : decode cX12_round 21 = .ok (.invokevirtual 323, 3) := by decide +kernel
theorem dX12_round_24 : decode cX12_round 24 = .ok (.iconst 1, 1) := by decide +kernel
theorem dX12_round_25 : decode cX12_round 25 = .ok (.istore_n 2, 1) := by decide +kernel
theorem dX12_round_26 : decode cX12_round 26 = .ok (.iconst 0, 1) := by decide +kernel
theorem dX12_round_27 : decode cX12_round 27 = .ok (.istore_n 3, 1) := by decide +kernel
theorem dX12_round_28 : decode cX12_round 28 = .ok (.iload_n 3, 1) := by decide +kernel
theorem dX12_round_29 : decode cX12_round 29 = .ok (.aload_n 0, 1) := by decide +kernel
theorem dX12_round_30 : decode cX12_round 30 = .ok (.getfield 269, 3) := by decide +kernel
theorem dX12_round_33 : decode cX12_round 33 = .ok (.if_icmp .ge 40, 3) := by decide +kernel
theorem dX12_round_36 : decode cX12_round 36 = .ok (.iload_n 2, 1) := by decide +kernel
theorem dX12_round_37 : decode cX12_round 37 = .ok (.ifCond .eq 28, 3) := by decide +kernel
theorem dX12_round_40 : decode cX12_round 40 = .ok (.aload_n 0, 1) := by decide +kernel
theorem dX12_round_41 : decode cX12_round 41 = .ok (.getfield 51, 3) := by decide +kernel
theorem dX12_round_44 : decode cX12_round 44 = .ok (.bipush 74, 2) := by decide +kernel
theorem dX12_round_46 : decode cX12_round 46 = .ok (.iload_n 3, 1) := by decide +kernel
theorem dX12_round_47 : decode cX12_round 47 = .ok (.iadd, 1) := by decide +kernel
theorem dX12_round_48 : decode cX12_round 48 = .ok (.iaload, 1) := by decide +kernel
theorem dX12_round_49 : decode cX12_round 49 = .ok (.aload_n 0, 1) := by decide +kernel
theorem dX12_round_50 : decode cX12_round 50 = .ok (.getfield 51, 3) := by decide +kernel
theorem dX12_round_53 : decode cX12_round 53 = .ok (.bipush 10, 2) := by decide +kernel
theorem dX12_round_55 : decode cX12_round 55 = .ok (.iload_n 3, 1) := by decide +kernel
theorem dX12_round_56 : decode cX12_round 56 = .ok (.iadd, 1) := by decide +kernel
theorem dX12_round_57 : decode cX12_round 57 = .ok (.iaload, 1) := by decide +kernel
theorem dX12_round_58 : decode cX12_round 58 = .ok (.if_icmp .ne 7, 3) := by decide +kernel
theorem dX12_round_61 : decode cX12_round 61 = .ok (.iconst 1, 1) := by decide +kernel
theorem dX12_round_62 : decode cX12_round 62 = .ok (.goto 4, 3) := by decide +kernel
theorem dX12_round_65 : decode cX12_round 65 = .ok (.iconst 0, 1) := by decide +kernel
theorem dX12_round_66 : decode cX12_round 66 = .ok (.istore_n 2, 1) := by decide +kernel
theorem dX12_round_67 : decode cX12_round 67 = .ok (.iinc 3 1, 3) := by decide +kernel
theorem dX12_round_70 : decode cX12_round 70 = .ok (.goto (-42), 3) := by decide +kernel
theorem dX12_round_73 : decode cX12_round 73 = .ok (.iload_n 2, 1) := by decide +kernel
theorem dX12_round_74 : decode cX12_round 74 = .ok (.ifCond .eq 5, 3) := by decide +kernel
theorem dX12_round_77 : decode cX12_round 77 = .ok (.iload_n 1, 1) := by decide +kernel
theorem dX12_round_78 : decode cX12_round 78 = .ok (.ireturn, 1) := by decide +kernel
theorem dX12_round_79 : decode cX12_round 79 = .ok (.iinc 1 1, 3) := by decide +kernel
theorem dX12_round_82 : decode cX12_round 82 = .ok (.goto (-71), 3) := by decide +kernel
theorem dX12_round_85 : decode cX12_round 85 = .ok (.iconst (-1), 1) := by decide +kernel
theorem dX12_round_86 : decode cX12_round 86 = .ok (.ireturn, 1) := by decide +kernel
theorem dX12_flows_0 : decode cX12_flows 0 = .ok (.iconst 0, 1) := by decide +kernel
theorem dX12_flows_1 : decode cX12_flows 1 = .ok (.istore_n 2, 1) := by decide +kernel
theorem dX12_flows_2 : decode cX12_flows 2 = .ok (.iload_n 2, 1) := by decide +kernel
theorem dX12_flows_3 : decode cX12_flows 3 = .ok (.aload_n 0, 1) := by decide +kernel
theorem dX12_flows_4 : decode cX12_flows 4 = .ok (.getfield 269, 3) := by decide +kernel
theorem dX12_flows_7 : decode cX12_flows 7 = .ok (.if_icmp .ge 179, 3) := by decide +kernel
theorem dX12_flows_10 : decode cX12_flows 10 = .ok (.aload_n 0, 1) := by decide +kernel
theorem dX12_flows_11 : decode cX12_flows 11 = .ok (.getfield 78, 3) := by decide +kernel
theorem dX12_flows_14 : decode cX12_flows 14 = .ok (.iload_n 2, 1) := by decide +kernel
theorem dX12_flows_15 : decode cX12_flows 15 = .ok (.aload_n 0, 1) := by decide +kernel
theorem dX12_flows_16 : decode cX12_flows 16 = .ok (.getfield 51, 3) := by decide +kernel
theorem dX12_flows_19 : decode cX12_flows 19 = .ok (.bipush 55, 2) := by decide +kernel
theorem dX12_flows_21 : decode cX12_flows 21 = .ok (.iload_n 2, 1) := by decide +kernel
theorem dX12_flows_22 : decode cX12_flows 22 = .ok (.iadd, 1) := by decide +kernel
theorem dX12_flows_23 : decode cX12_flows 23 = .ok (.iaload, 1) := by decide +kernel
theorem dX12_flows_24 : decode cX12_flows 24 = .ok (.iconst 1, 1) := by decide +kernel
theorem dX12_flows_25 : decode cX12_flows 25 = .ok (.if_icmp .ne 7, 3) := by decide +kernel
theorem dX12_flows_28 : decode cX12_flows 28 = .ok (.iconst 0, 1) := by decide +kernel
theorem dX12_flows_29 : decode cX12_flows 29 = .ok (.goto 11, 3) := by decide +kernel
theorem dX12_flows_32 : decode cX12_flows 32 = .ok (.aload_n 0, 1) := by decide +kernel
theorem dX12_flows_33 : decode cX12_flows 33 = .ok (.getfield 16, 3) := by decide +kernel
theorem dX12_flows_36 : decode cX12_flows 36 = .ok (.iload_n 2, 1) := by decide +kernel
theorem dX12_flows_37 : decode cX12_flows 37 = .ok (.iaload, 1) := by decide +kernel
theorem dX12_flows_38 : decode cX12_flows 38 = .ok (.iload_n 1, 1) := by decide +kernel
theorem dX12_flows_39 : decode cX12_flows 39 = .ok (.imul, 1) := by decide +kernel
theorem dX12_flows_40 : decode cX12_flows 40 = .ok (.iastore, 1) := by decide +kernel
theorem dX12_flows_41 : decode cX12_flows 41 = .ok (.iconst 0, 1) := by decide +kernel
theorem dX12_flows_42 : decode cX12_flows 42 = .ok (.istore_n 3, 1) := by decide +kernel
theorem dX12_flows_43 : decode cX12_flows 43 = .ok (.iload_n 3, 1) := by decide +kernel
theorem dX12_flows_44 : decode cX12_flows 44 = .ok (.iload_n 2, 1) := by decide +kernel
theorem dX12_flows_45 : decode cX12_flows 45 = .ok (.if_icmp .ge 24, 3) := by decide +kernel
theorem dX12_flows_48 : decode cX12_flows 48 = .ok (.aload_n 0, 1) := by decide +kernel
theorem dX12_flows_49 : decode cX12_flows 49 = .ok (.getfield 78, 3) := by decide +kernel
theorem dX12_flows_52 : decode cX12_flows 52 = .ok (.iload_n 2, 1) := by decide +kernel
theorem dX12_flows_53 : decode cX12_flows 53 = .ok (.dup2, 1) := by decide +kernel
theorem dX12_flows_54 : decode cX12_flows 54 = .ok (.iaload, 1) := by decide +kernel
theorem dX12_flows_55 : decode cX12_flows 55 = .ok (.aload_n 0, 1) := by decide +kernel
theorem dX12_flows_56 : decode cX12_flows 56 = .ok (.iload_n 3, 1) := by decide +kernel
theorem dX12_flows_57 : decode cX12_flows 57 = .ok (.iload_n 2, 1) := by decide +kernel
theorem dX12_flows_58 : decode cX12_flows 58 = .ok (.invokevirtual 396, 3) := by decide +kernel
theorem dX12_flows_61 : decode cX12_flows 61 = .ok (.iadd, 1) := by decide +kernel
theorem dX12_flows_62 : decode cX12_flows 62 = .ok (.iastore, 1) := by decide +kernel
theorem dX12_flows_63 : decode cX12_flows 63 = .ok (.iinc 3 1, 3) := by decide +kernel
theorem dX12_flows_66 : decode cX12_flows 66 = .ok (.goto (-23), 3) := by decide +kernel
theorem dX12_flows_69 : decode cX12_flows 69 = .ok (.aload_n 0, 1) := by decide +kernel
theorem dX12_flows_70 : decode cX12_flows 70 = .ok (.getfield 81, 3) := by decide +kernel
theorem dX12_flows_73 : decode cX12_flows 73 = .ok (.iload_n 2, 1) := by decide +kernel
theorem dX12_flows_74 : decode cX12_flows 74 = .ok (.aload_n 0, 1) := by decide +kernel
theorem dX12_flows_75 : decode cX12_flows 75 = .ok (.getfield 51, 3) := by decide +kernel
theorem dX12_flows_78 : decode cX12_flows 78 = .ok (.bipush 10, 2) := by decide +kernel
theorem dX12_flows_80 : decode cX12_flows 80 = .ok (.iload_n 2, 1) := by decide +kernel
theorem dX12_flows_81 : decode cX12_flows 81 = .ok (.iadd, 1) := by decide +kernel
theorem dX12_flows_82 : decode cX12_flows 82 = .ok (.iaload, 1) := by decide +kernel
theorem dX12_flows_83 : decode cX12_flows 83 = .ok (.aload_n 0, 1) := by decide +kernel
theorem dX12_flows_84 : decode cX12_flows 84 = .ok (.getfield 78, 3) := by decide +kernel
theorem dX12_flows_87 : decode cX12_flows 87 = .ok (.iload_n 2, 1) := by decide +kernel
theorem dX12_flows_88 : decode cX12_flows 88 = .ok (.iaload, 1) := by decide +kernel
theorem dX12_flows_89 : decode cX12_flows 89 = .ok (.iadd, 1) := by decide +kernel
theorem dX12_flows_90 : decode cX12_flows 90 = .ok (.aload_n 0, 1) := by decide +kernel
theorem dX12_flows_91 : decode cX12_flows 91 = .ok (.getfield 51, 3) := by decide +kernel
theorem dX12_flows_94 : decode cX12_flows 94 = .ok (.iconst 1, 1) := by decide +kernel
theorem dX12_flows_95 : decode cX12_flows 95 = .ok (.iload_n 2, 1) := by decide +kernel
theorem dX12_flows_96 : decode cX12_flows 96 = .ok (.iadd, 1) := by decide +kernel
theorem dX12_flows_97 : decode cX12_flows 97 = .ok (.iaload, 1) := by decide +kernel
theorem dX12_flows_98 : decode cX12_flows 98 = .ok (.idiv, 1) := by decide +kernel
theorem dX12_flows_99 : decode cX12_flows 99 = .ok (.iastore, 1) := by decide +kernel
theorem dX12_flows_100 : decode cX12_flows 100 = .ok (.aload_n 0, 1) := by decide +kernel
theorem dX12_flows_101 : decode cX12_flows 101 = .ok (.getfield 84, 3) := by decide +kernel
theorem dX12_flows_104 : decode cX12_flows 104 = .ok (.iload_n 2, 1) := by decide +kernel
theorem dX12_flows_105 : decode cX12_flows 105 = .ok (.aload_n 0, 1) := by decide +kernel
theorem dX12_flows_106 : decode cX12_flows 106 = .ok (.getfield 51, 3) := by decide +kernel
theorem dX12_flows_109 : decode cX12_flows 109 = .ok (.bipush 28, 2) := by decide +kernel
theorem dX12_flows_111 : decode cX12_flows 111 = .ok (.iload_n 2, 1) := by decide +kernel
theorem dX12_flows_112 : decode cX12_flows 112 = .ok (.iadd, 1) := by decide +kernel
theorem dX12_flows_113 : decode cX12_flows 113 = .ok (.iaload, 1) := by decide +kernel
theorem dX12_flows_114 : decode cX12_flows 114 = .ok (.iconst (-1), 1) := by decide +kernel
theorem dX12_flows_115 : decode cX12_flows 115 = .ok (.if_icmp .ne 12, 3) := by decide +kernel
theorem dX12_flows_118 : decode cX12_flows 118 = .ok (.aload_n 0, 1) := by decide +kernel
theorem dX12_flows_119 : decode cX12_flows 119 = .ok (.getfield 81, 3) := by decide +kernel
theorem dX12_flows_122 : decode cX12_flows 122 = .ok (.iload_n 2, 1) := by decide +kernel
theorem dX12_flows_123 : decode cX12_flows 123 = .ok (.iaload, 1) := by decide +kernel
theorem dX12_flows_124 : decode cX12_flows 124 = .ok (.goto 36, 3) := by decide +kernel
theorem dX12_flows_127 : decode cX12_flows 127 = .ok (.aload_n 0, 1) := by decide +kernel
theorem dX12_flows_128 : decode cX12_flows 128 = .ok (.getfield 51, 3) := by decide +kernel
theorem dX12_flows_131 : decode cX12_flows 131 = .ok (.bipush 37, 2) := by decide +kernel
theorem dX12_flows_133 : decode cX12_flows 133 = .ok (.iload_n 2, 1) := by decide +kernel
theorem dX12_flows_134 : decode cX12_flows 134 = .ok (.iadd, 1) := by decide +kernel
theorem dX12_flows_135 : decode cX12_flows 135 = .ok (.iaload, 1) := by decide +kernel
theorem dX12_flows_136 : decode cX12_flows 136 = .ok (.ifCond .ne 16, 3) := by decide +kernel
theorem dX12_flows_139 : decode cX12_flows 139 = .ok (.aload_n 0, 1) := by decide +kernel
theorem dX12_flows_140 : decode cX12_flows 140 = .ok (.getfield 81, 3) := by decide +kernel
theorem dX12_flows_143 : decode cX12_flows 143 = .ok (.iload_n 2, 1) := by decide +kernel
theorem dX12_flows_144 : decode cX12_flows 144 = .ok (.iaload, 1) := by decide +kernel
theorem dX12_flows_145 : decode cX12_flows 145 = .ok (.iconst 1, 1) := by decide +kernel
theorem dX12_flows_146 : decode cX12_flows 146 = .ok (.iadd, 1) := by decide +kernel
theorem dX12_flows_147 : decode cX12_flows 147 = .ok (.iconst 2, 1) := by decide +kernel
theorem dX12_flows_148 : decode cX12_flows 148 = .ok (.idiv, 1) := by decide +kernel
theorem dX12_flows_149 : decode cX12_flows 149 = .ok (.goto 11, 3) := by decide +kernel
theorem dX12_flows_152 : decode cX12_flows 152 = .ok (.aload_n 0, 1) := by decide +kernel
theorem dX12_flows_153 : decode cX12_flows 153 = .ok (.getfield 81, 3) := by decide +kernel
theorem dX12_flows_156 : decode cX12_flows 156 = .ok (.iload_n 2, 1) := by decide +kernel
theorem dX12_flows_157 : decode cX12_flows 157 = .ok (.iaload, 1) := by decide +kernel
theorem dX12_flows_158 : decode cX12_flows 158 = .ok (.iconst 2, 1) := by decide +kernel
theorem dX12_flows_159 : decode cX12_flows 159 = .ok (.idiv, 1) := by decide +kernel
theorem dX12_flows_160 : decode cX12_flows 160 = .ok (.iastore, 1) := by decide +kernel
theorem dX12_flows_161 : decode cX12_flows 161 = .ok (.aload_n 0, 1) := by decide +kernel
theorem dX12_flows_162 : decode cX12_flows 162 = .ok (.getfield 87, 3) := by decide +kernel
theorem dX12_flows_165 : decode cX12_flows 165 = .ok (.iload_n 2, 1) := by decide +kernel
theorem dX12_flows_166 : decode cX12_flows 166 = .ok (.aload_n 0, 1) := by decide +kernel
theorem dX12_flows_167 : decode cX12_flows 167 = .ok (.getfield 81, 3) := by decide +kernel
theorem dX12_flows_170 : decode cX12_flows 170 = .ok (.iload_n 2, 1) := by decide +kernel
theorem dX12_flows_171 : decode cX12_flows 171 = .ok (.iaload, 1) := by decide +kernel
theorem dX12_flows_172 : decode cX12_flows 172 = .ok (.aload_n 0, 1) := by decide +kernel
theorem dX12_flows_173 : decode cX12_flows 173 = .ok (.getfield 84, 3) := by decide +kernel
theorem dX12_flows_176 : decode cX12_flows 176 = .ok (.iload_n 2, 1) := by decide +kernel
theorem dX12_flows_177 : decode cX12_flows 177 = .ok (.iaload, 1) := by decide +kernel
theorem dX12_flows_178 : decode cX12_flows 178 = .ok (.isub, 1) := by decide +kernel
theorem dX12_flows_179 : decode cX12_flows 179 = .ok (.iastore, 1) := by decide +kernel
theorem dX12_flows_180 : decode cX12_flows 180 = .ok (.iinc 2 1, 3) := by decide +kernel
theorem dX12_flows_183 : decode cX12_flows 183 = .ok (.goto (-181), 3) := by decide +kernel
theorem dX12_flows_186 : decode cX12_flows 186 = .ok (.return_, 1) := by decide +kernel
theorem dX12_gives_0 : decode cX12_gives 0 = .ok (.aload_n 0, 1) := by decide +kernel
theorem dX12_gives_1 : decode cX12_gives 1 = .ok (.getfield 51, 3) := by decide +kernel
theorem dX12_gives_4 : decode cX12_gives 4 = .ok (.bipush 19, 2) := by decide +kernel
theorem dX12_gives_6 : decode cX12_gives 6 = .ok (.iload_n 1, 1) := by decide +kernel
theorem dX12_gives_7 : decode cX12_gives 7 = .ok (.iadd, 1) := by decide +kernel
theorem dX12_gives_8 : decode cX12_gives 8 = .ok (.iaload, 1) := by decide +kernel
theorem dX12_gives_9 : decode cX12_gives 9 = .ok (.iload_n 2, 1) := by decide +kernel
theorem dX12_gives_10 : decode cX12_gives 10 = .ok (.if_icmp .ne 12, 3) := by decide +kernel
theorem dX12_gives_13 : decode cX12_gives 13 = .ok (.aload_n 0, 1) := by decide +kernel
theorem dX12_gives_14 : decode cX12_gives 14 = .ok (.getfield 84, 3) := by decide +kernel
theorem dX12_gives_17 : decode cX12_gives 17 = .ok (.iload_n 1, 1) := by decide +kernel
theorem dX12_gives_18 : decode cX12_gives 18 = .ok (.iaload, 1) := by decide +kernel
theorem dX12_gives_19 : decode cX12_gives 19 = .ok (.goto 26, 3) := by decide +kernel
theorem dX12_gives_22 : decode cX12_gives 22 = .ok (.aload_n 0, 1) := by decide +kernel
theorem dX12_gives_23 : decode cX12_gives 23 = .ok (.getfield 51, 3) := by decide +kernel
theorem dX12_gives_26 : decode cX12_gives 26 = .ok (.bipush 28, 2) := by decide +kernel
theorem dX12_gives_28 : decode cX12_gives 28 = .ok (.iload_n 1, 1) := by decide +kernel
theorem dX12_gives_29 : decode cX12_gives 29 = .ok (.iadd, 1) := by decide +kernel
theorem dX12_gives_30 : decode cX12_gives 30 = .ok (.iaload, 1) := by decide +kernel
theorem dX12_gives_31 : decode cX12_gives 31 = .ok (.iload_n 2, 1) := by decide +kernel
theorem dX12_gives_32 : decode cX12_gives 32 = .ok (.if_icmp .ne 12, 3) := by decide +kernel
theorem dX12_gives_35 : decode cX12_gives 35 = .ok (.aload_n 0, 1) := by decide +kernel
theorem dX12_gives_36 : decode cX12_gives 36 = .ok (.getfield 87, 3) := by decide +kernel
theorem dX12_gives_39 : decode cX12_gives 39 = .ok (.iload_n 1, 1) := by decide +kernel
theorem dX12_gives_40 : decode cX12_gives 40 = .ok (.iaload, 1) := by decide +kernel
theorem dX12_gives_41 : decode cX12_gives 41 = .ok (.goto 4, 3) := by decide +kernel
theorem dX12_gives_44 : decode cX12_gives 44 = .ok (.iconst 0, 1) := by decide +kernel
theorem dX12_gives_45 : decode cX12_gives 45 = .ok (.ireturn, 1) := by decide +kernel
theorem dX12_fallen_0 : decode cX12_fallen 0 = .ok (.aload_n 0, 1) := by decide +kernel
theorem dX12_fallen_1 : decode cX12_fallen 1 = .ok (.iconst 0, 1) := by decide +kernel
theorem dX12_fallen_2 : decode cX12_fallen 2 = .ok (.putfield 114, 3) := by decide +kernel
theorem dX12_fallen_5 : decode cX12_fallen 5 = .ok (.aload_n 0, 1) := by decide +kernel
theorem dX12_fallen_6 : decode cX12_fallen 6 = .ok (.iload_n 1, 1) := by decide +kernel
theorem dX12_fallen_7 : decode cX12_fallen 7 = .ok (.invokevirtual 351, 3) := by decide +kernel
theorem dX12_fallen_10 : decode cX12_fallen 10 = .ok (.ifCond .eq 19, 3) := by decide +kernel
theorem dX12_fallen_13 : decode cX12_fallen 13 = .ok (.aload_n 0, 1) := by decide +kernel
theorem dX12_fallen_14 : decode cX12_fallen 14 = .ok (.iload_n 2, 1) := by decide +kernel
theorem dX12_fallen_15 : decode cX12_fallen 15 = .ok (.iconst 0, 1) := by decide +kernel
theorem dX12_fallen_16 : decode cX12_fallen 16 = .ok (.ldc_w 399, 3) := by decide +kernel
theorem dX12_fallen_19 : decode cX12_fallen 19 = .ok (.invokestatic 332, 3) := by decide +kernel
theorem dX12_fallen_22 : decode cX12_fallen 22 = .ok (.iconst 2, 1) := by decide +kernel
theorem dX12_fallen_23 : decode cX12_fallen 23 = .ok (.invokevirtual 262, 3) := by decide +kernel
theorem dX12_fallen_26 : decode cX12_fallen 26 = .ok (.ifCond .ne 5, 3) := by decide +kernel
theorem dX12_fallen_29 : decode cX12_fallen 29 = .ok (.iconst 0, 1) := by decide +kernel
theorem dX12_fallen_30 : decode cX12_fallen 30 = .ok (.ireturn, 1) := by decide +kernel
theorem dX12_fallen_31 : decode cX12_fallen 31 = .ok (.aload_n 0, 1) := by decide +kernel
theorem dX12_fallen_32 : decode cX12_fallen 32 = .ok (.iload_n 2, 1) := by decide +kernel
theorem dX12_fallen_33 : decode cX12_fallen 33 = .ok (.invokevirtual 400, 3) := by decide +kernel
theorem dX12_fallen_36 : decode cX12_fallen 36 = .ok (.aload_n 0, 1) := by decide +kernel
theorem dX12_fallen_37 : decode cX12_fallen 37 = .ok (.getfield 81, 3) := by decide +kernel
theorem dX12_fallen_40 : decode cX12_fallen 40 = .ok (.iload_n 1, 1) := by decide +kernel
theorem dX12_fallen_41 : decode cX12_fallen 41 = .ok (.iaload, 1) := by decide +kernel
theorem dX12_fallen_42 : decode cX12_fallen 42 = .ok (.ireturn, 1) := by decide +kernel
theorem dX12_flow_0 : decode cX12_flow 0 = .ok (.aload_n 0, 1) := by decide +kernel
theorem dX12_flow_1 : decode cX12_flow 1 = .ok (.iconst 0, 1) := by decide +kernel
theorem dX12_flow_2 : decode cX12_flow 2 = .ok (.putfield 114, 3) := by decide +kernel
theorem dX12_flow_5 : decode cX12_flow 5 = .ok (.aload_n 0, 1) := by decide +kernel
theorem dX12_flow_6 : decode cX12_flow 6 = .ok (.iload_n 1, 1) := by decide +kernel
theorem dX12_flow_7 : decode cX12_flow 7 = .ok (.invokevirtual 351, 3) := by decide +kernel
theorem dX12_flow_10 : decode cX12_flow 10 = .ok (.ifCond .eq 19, 3) := by decide +kernel
theorem dX12_flow_13 : decode cX12_flow 13 = .ok (.aload_n 0, 1) := by decide +kernel
theorem dX12_flow_14 : decode cX12_flow 14 = .ok (.iload_n 2, 1) := by decide +kernel
theorem dX12_flow_15 : decode cX12_flow 15 = .ok (.iconst 0, 1) := by decide +kernel
theorem dX12_flow_16 : decode cX12_flow 16 = .ok (.ldc_w 399, 3) := by decide +kernel
theorem dX12_flow_19 : decode cX12_flow 19 = .ok (.invokestatic 332, 3) := by decide +kernel
theorem dX12_flow_22 : decode cX12_flow 22 = .ok (.iconst 2, 1) := by decide +kernel
theorem dX12_flow_23 : decode cX12_flow 23 = .ok (.invokevirtual 262, 3) := by decide +kernel
theorem dX12_flow_26 : decode cX12_flow 26 = .ok (.ifCond .ne 5, 3) := by decide +kernel
theorem dX12_flow_29 : decode cX12_flow 29 = .ok (.iconst 0, 1) := by decide +kernel
theorem dX12_flow_30 : decode cX12_flow 30 = .ok (.ireturn, 1) := by decide +kernel
theorem dX12_flow_31 : decode cX12_flow 31 = .ok (.aload_n 0, 1) := by decide +kernel
theorem dX12_flow_32 : decode cX12_flow 32 = .ok (.iload_n 2, 1) := by decide +kernel
theorem dX12_flow_33 : decode cX12_flow 33 = .ok (.invokevirtual 400, 3) := by decide +kernel
theorem dX12_flow_36 : decode cX12_flow 36 = .ok (.aload_n 0, 1) := by decide +kernel
theorem dX12_flow_37 : decode cX12_flow 37 = .ok (.getfield 78, 3) := by decide +kernel
theorem dX12_flow_40 : decode cX12_flow 40 = .ok (.iload_n 1, 1) := by decide +kernel
theorem dX12_flow_41 : decode cX12_flow 41 = .ok (.iaload, 1) := by decide +kernel
theorem dX12_flow_42 : decode cX12_flow 42 = .ok (.ireturn, 1) := by decide +kernel
theorem dX12_nth_0 : decode cX12_nth 0 = .ok (.aload_n 0, 1) := by decide +kernel
theorem dX12_nth_1 : decode cX12_nth 1 = .ok (.iconst 0, 1) := by decide +kernel
theorem dX12_nth_2 : decode cX12_nth 2 = .ok (.putfield 114, 3) := by decide +kernel
theorem dX12_nth_5 : decode cX12_nth 5 = .ok (.aload_n 0, 1) := by decide +kernel
theorem dX12_nth_6 : decode cX12_nth 6 = .ok (.iload_n 1, 1) := by decide +kernel
theorem dX12_nth_7 : decode cX12_nth 7 = .ok (.invokevirtual 351, 3) := by decide +kernel
theorem dX12_nth_10 : decode cX12_nth 10 = .ok (.ifCond .eq 19, 3) := by decide +kernel
theorem dX12_nth_13 : decode cX12_nth 13 = .ok (.aload_n 0, 1) := by decide +kernel
theorem dX12_nth_14 : decode cX12_nth 14 = .ok (.iload_n 2, 1) := by decide +kernel
theorem dX12_nth_15 : decode cX12_nth 15 = .ok (.iconst 1, 1) := by decide +kernel
theorem dX12_nth_16 : decode cX12_nth 16 = .ok (.ldc_w 403, 3) := by decide +kernel
theorem dX12_nth_19 : decode cX12_nth 19 = .ok (.invokestatic 332, 3) := by decide +kernel
theorem dX12_nth_22 : decode cX12_nth 22 = .ok (.iconst 2, 1) := by decide +kernel
theorem dX12_nth_23 : decode cX12_nth 23 = .ok (.invokevirtual 262, 3) := by decide +kernel
theorem dX12_nth_26 : decode cX12_nth 26 = .ok (.ifCond .ne 5, 3) := by decide +kernel
theorem dX12_nth_29 : decode cX12_nth 29 = .ok (.iconst 0, 1) := by decide +kernel
theorem dX12_nth_30 : decode cX12_nth 30 = .ok (.ireturn, 1) := by decide +kernel
theorem dX12_nth_31 : decode cX12_nth 31 = .ok (.iconst 1, 1) := by decide +kernel
theorem dX12_nth_32 : decode cX12_nth 32 = .ok (.istore_n 3, 1) := by decide +kernel
theorem dX12_nth_33 : decode cX12_nth 33 = .ok (.ldc_w 404, 3) := by decide +kernel
theorem dX12_nth_36 : decode cX12_nth 36 = .ok (.istore 4, 2) := by decide +kernel
theorem dX12_nth_38 : decode cX12_nth 38 = .ok (.iload_n 3, 1) := by decide +kernel
theorem dX12_nth_39 : decode cX12_nth 39 = .ok (.iload 4, 2) := by decide +kernel
theorem dX12_nth_41 : decode cX12_nth 41 = .ok (.if_icmp .ge 44, 3) := by decide +kernel
theorem dX12_nth_44 : decode cX12_nth 44 = .ok (.iload_n 3, 1) := by decide +kernel
theorem dX12_nth_45 : decode cX12_nth 45 = .ok (.iload 4, 2) := by decide +kernel
theorem dX12_nth_47 : decode cX12_nth 47 = .ok (.iload_n 3, 1) := by decide +kernel
theorem dX12_nth_48 : decode cX12_nth 48 = .ok (.isub, 1) := by decide +kernel
theorem dX12_nth_49 : decode cX12_nth 49 = .ok (.iconst 2, 1) := by decide +kernel
theorem dX12_nth_50 : decode cX12_nth 50 = .ok (.idiv, 1) := by decide +kernel
theorem dX12_nth_51 : decode cX12_nth 51 = .ok (.iadd, 1) := by decide +kernel
theorem dX12_nth_52 : decode cX12_nth 52 = .ok (.istore 5, 2) := by decide +kernel
theorem dX12_nth_54 : decode cX12_nth 54 = .ok (.aload_n 0, 1) := by decide +kernel
theorem dX12_nth_55 : decode cX12_nth 55 = .ok (.iload 5, 2) := by decide +kernel
theorem dX12_nth_57 : decode cX12_nth 57 = .ok (.invokevirtual 400, 3) := by decide +kernel
theorem dX12_nth_60 : decode cX12_nth 60 = .ok (.aload_n 0, 1) := by decide +kernel
theorem dX12_nth_61 : decode cX12_nth 61 = .ok (.getfield 81, 3) := by decide +kernel
theorem dX12_nth_64 : decode cX12_nth 64 = .ok (.iload_n 1, 1) := by decide +kernel
theorem dX12_nth_65 : decode cX12_nth 65 = .ok (.iaload, 1) := by decide +kernel
theorem dX12_nth_66 : decode cX12_nth 66 = .ok (.iload_n 2, 1) := by decide +kernel
theorem dX12_nth_67 : decode cX12_nth 67 = .ok (.if_icmp .lt 10, 3) := by decide +kernel
theorem dX12_nth_70 : decode cX12_nth 70 = .ok (.iload 5, 2) := by decide +kernel
theorem dX12_nth_72 : decode cX12_nth 72 = .ok (.istore 4, 2) := by decide +kernel
theorem dX12_nth_74 : decode cX12_nth 74 = .ok (.goto 8, 3) := by decide +kernel
theorem dX12_nth_77 : decode cX12_nth 77 = .ok (.iload 5, 2) := by decide +kernel
theorem dX12_nth_79 : decode cX12_nth 79 = .ok (.iconst 1, 1) := by decide +kernel
theorem dX12_nth_80 : decode cX12_nth 80 = .ok (.iadd, 1) := by decide +kernel
theorem dX12_nth_81 : decode cX12_nth 81 = .ok (.istore_n 3, 1) := by decide +kernel
theorem dX12_nth_82 : decode cX12_nth 82 = .ok (.goto (-44), 3) := by decide +kernel
theorem dX12_nth_85 : decode cX12_nth 85 = .ok (.iload_n 3, 1) := by decide +kernel
theorem dX12_nth_86 : decode cX12_nth 86 = .ok (.ldc_w 399, 3) := by decide +kernel
theorem dX12_nth_89 : decode cX12_nth 89 = .ok (.if_icmp .le 7, 3) := by decide +kernel
theorem dX12_nth_92 : decode cX12_nth 92 = .ok (.iconst (-1), 1) := by decide +kernel
theorem dX12_nth_93 : decode cX12_nth 93 = .ok (.goto 4, 3) := by decide +kernel
theorem dX12_nth_96 : decode cX12_nth 96 = .ok (.iload_n 3, 1) := by decide +kernel
theorem dX12_nth_97 : decode cX12_nth 97 = .ok (.ireturn, 1) := by decide +kernel
theorem dX12_meeting_0 : decode cX12_meeting 0 = .ok (.aload_n 0, 1) := by decide +kernel
theorem dX12_meeting_1 : decode cX12_meeting 1 = .ok (.iconst 0, 1) := by decide +kernel
theorem dX12_meeting_2 : decode cX12_meeting 2 = .ok (.putfield 114, 3) := by decide +kernel
theorem dX12_meeting_5 : decode cX12_meeting 5 = .ok (.aload_n 0, 1) := by decide +kernel
theorem dX12_meeting_6 : decode cX12_meeting 6 = .ok (.iload_n 1, 1) := by decide +kernel
theorem dX12_meeting_7 : decode cX12_meeting 7 = .ok (.invokevirtual 390, 3) := by decide +kernel
theorem dX12_meeting_10 : decode cX12_meeting 10 = .ok (.ifCond .ne 5, 3) := by decide +kernel
theorem dX12_meeting_13 : decode cX12_meeting 13 = .ok (.iconst 0, 1) := by decide +kernel
theorem dX12_meeting_14 : decode cX12_meeting 14 = .ok (.ireturn, 1) := by decide +kernel
theorem dX12_meeting_15 : decode cX12_meeting 15 = .ok (.aload_n 0, 1) := by decide +kernel
theorem dX12_meeting_16 : decode cX12_meeting 16 = .ok (.iconst 0, 1) := by decide +kernel
theorem dX12_meeting_17 : decode cX12_meeting 17 = .ok (.invokevirtual 400, 3) := by decide +kernel
theorem dX12_meeting_20 : decode cX12_meeting 20 = .ok (.iconst 1, 1) := by decide +kernel
theorem dX12_meeting_21 : decode cX12_meeting 21 = .ok (.istore_n 2, 1) := by decide +kernel
theorem dX12_meeting_22 : decode cX12_meeting 22 = .ok (.iload_n 2, 1) := by decide +kernel
theorem dX12_meeting_23 : decode cX12_meeting 23 = .ok (.sipush 5000, 3) := by decide +kernel
theorem dX12_meeting_26 : decode cX12_meeting 26 = .ok (.if_icmp .gt 88, 3) := by decide +kernel
theorem dX12_meeting_29 : decode cX12_meeting 29 = .ok (.aload_n 0, 1) := by decide +kernel
theorem dX12_meeting_30 : decode cX12_meeting 30 = .ok (.aload_n 0, 1) := by decide +kernel
theorem dX12_meeting_31 : decode cX12_meeting 31 = .ok (.getfield 81, 3) := by decide +kernel
theorem dX12_meeting_34 : decode cX12_meeting 34 = .ok (.aload_n 0, 1) := by decide +kernel
theorem dX12_meeting_35 : decode cX12_meeting 35 = .ok (.getfield 90, 3) := by decide +kernel
theorem dX12_meeting_38 : decode cX12_meeting 38 = .ok (.invokevirtual 272, 3) := by decide +kernel
theorem dX12_meeting_41 : decode cX12_meeting 41 = .ok (.aload_n 0, 1) := by decide +kernel
theorem dX12_meeting_42 : decode cX12_meeting 42 = .ok (.iload_n 2, 1) := by decide +kernel
theorem dX12_meeting_43 : decode cX12_meeting 43 = .ok (.invokevirtual 400, 3) := by decide +kernel
theorem dX12_meeting_46 : decode cX12_meeting 46 = .ok (.iconst 1, 1) := by decide +kernel
theorem dX12_meeting_47 : decode cX12_meeting 47 = .ok (.istore_n 3, 1) := by decide +kernel
theorem dX12_meeting_48 : decode cX12_meeting 48 = .ok (.iconst 0, 1) := by decide +kernel
theorem dX12_meeting_49 : decode cX12_meeting 49 = .ok (.istore 4, 2) := by decide +kernel
theorem dX12_meeting_51 : decode cX12_meeting 51 = .ok (.iload 4, 2) := by decide +kernel
theorem dX12_meeting_53 : decode cX12_meeting 53 = .ok (.aload_n 0, 1) := by decide +kernel
theorem dX12_meeting_54 : decode cX12_meeting 54 = .ok (.getfield 269, 3) := by decide +kernel
theorem dX12_meeting_57 : decode cX12_meeting 57 = .ok (.if_icmp .ge 45, 3) := by decide +kernel
theorem dX12_meeting_60 : decode cX12_meeting 60 = .ok (.iload_n 3, 1) := by decide +kernel
theorem dX12_meeting_61 : decode cX12_meeting 61 = .ok (.ifCond .eq 33, 3) := by decide +kernel
theorem dX12_meeting_64 : decode cX12_meeting 64 = .ok (.iload_n 1, 1) := by decide +kernel
theorem dX12_meeting_65 : decode cX12_meeting 65 = .ok (.iload 4, 2) := by decide +kernel
theorem dX12_meeting_67 : decode cX12_meeting 67 = .ok (.ishr, 1) := by decide +kernel
theorem dX12_meeting_68 : decode cX12_meeting 68 = .ok (.iconst 1, 1) := by decide +kernel
theorem dX12_meeting_69 : decode cX12_meeting 69 = .ok (.iand, 1) := by decide +kernel
theorem dX12_meeting_70 : decode cX12_meeting 70 = .ok (.ifCond .eq 20, 3) := by decide +kernel
theorem dX12_meeting_73 : decode cX12_meeting 73 = .ok (.aload_n 0, 1) := by decide +kernel
theorem dX12_meeting_74 : decode cX12_meeting 74 = .ok (.getfield 81, 3) := by decide +kernel
theorem dX12_meeting_77 : decode cX12_meeting 77 = .ok (.iload 4, 2) := by decide +kernel
theorem dX12_meeting_79 : decode cX12_meeting 79 = .ok (.iaload, 1) := by decide +kernel
theorem dX12_meeting_80 : decode cX12_meeting 80 = .ok (.aload_n 0, 1) := by decide +kernel
theorem dX12_meeting_81 : decode cX12_meeting 81 = .ok (.getfield 90, 3) := by decide +kernel
theorem dX12_meeting_84 : decode cX12_meeting 84 = .ok (.iload 4, 2) := by decide +kernel
theorem dX12_meeting_86 : decode cX12_meeting 86 = .ok (.iaload, 1) := by decide +kernel
theorem dX12_meeting_87 : decode cX12_meeting 87 = .ok (.if_icmp .le 7, 3) := by decide +kernel
theorem dX12_meeting_90 : decode cX12_meeting 90 = .ok (.iconst 1, 1) := by decide +kernel
theorem dX12_meeting_91 : decode cX12_meeting 91 = .ok (.goto 4, 3) := by decide +kernel
theorem dX12_meeting_94 : decode cX12_meeting 94 = .ok (.iconst 0, 1) := by decide +kernel
theorem dX12_meeting_95 : decode cX12_meeting 95 = .ok (.istore_n 3, 1) := by decide +kernel
theorem dX12_meeting_96 : decode cX12_meeting 96 = .ok (.iinc 4 1, 3) := by decide +kernel
theorem dX12_meeting_99 : decode cX12_meeting 99 = .ok (.goto (-48), 3) := by decide +kernel
theorem dX12_meeting_102 : decode cX12_meeting 102 = .ok (.iload_n 3, 1) := by decide +kernel
theorem dX12_meeting_103 : decode cX12_meeting 103 = .ok (.ifCond .eq 5, 3) := by decide +kernel
theorem dX12_meeting_106 : decode cX12_meeting 106 = .ok (.iload_n 2, 1) := by decide +kernel
theorem dX12_meeting_107 : decode cX12_meeting 107 = .ok (.ireturn, 1) := by decide +kernel
theorem dX12_meeting_108 : decode cX12_meeting 108 = .ok (.iinc 2 1, 3) := by decide +kernel
theorem dX12_meeting_111 : decode cX12_meeting 111 = .ok (.goto (-89), 3) := by decide +kernel
theorem dX12_meeting_114 : decode cX12_meeting 114 = .ok (.iconst (-1), 1) := by decide +kernel
theorem dX12_meeting_115 : decode cX12_meeting 115 = .ok (.ireturn, 1) := by decide +kernel
theorem dX12_giver_0 : decode cX12_giver 0 = .ok (.aload_n 0, 1) := by decide +kernel
theorem dX12_giver_1 : decode cX12_giver 1 = .ok (.iconst 0, 1) := by decide +kernel
theorem dX12_giver_2 : decode cX12_giver 2 = .ok (.putfield 114, 3) := by decide +kernel
theorem dX12_giver_5 : decode cX12_giver 5 = .ok (.aload_n 0, 1) := by decide +kernel
theorem dX12_giver_6 : decode cX12_giver 6 = .ok (.iload_n 1, 1) := by decide +kernel
theorem dX12_giver_7 : decode cX12_giver 7 = .ok (.invokevirtual 351, 3) := by decide +kernel
theorem dX12_giver_10 : decode cX12_giver 10 = .ok (.ifCond .eq 19, 3) := by decide +kernel
theorem dX12_giver_13 : decode cX12_giver 13 = .ok (.aload_n 0, 1) := by decide +kernel
theorem dX12_giver_14 : decode cX12_giver 14 = .ok (.iload_n 2, 1) := by decide +kernel
theorem dX12_giver_15 : decode cX12_giver 15 = .ok (.iconst 0, 1) := by decide +kernel
theorem dX12_giver_16 : decode cX12_giver 16 = .ok (.ldc_w 399, 3) := by decide +kernel
theorem dX12_giver_19 : decode cX12_giver 19 = .ok (.invokestatic 332, 3) := by decide +kernel
theorem dX12_giver_22 : decode cX12_giver 22 = .ok (.iconst 2, 1) := by decide +kernel
theorem dX12_giver_23 : decode cX12_giver 23 = .ok (.invokevirtual 262, 3) := by decide +kernel
theorem dX12_giver_26 : decode cX12_giver 26 = .ok (.ifCond .ne 5, 3) := by decide +kernel
theorem dX12_giver_29 : decode cX12_giver 29 = .ok (.iconst 0, 1) := by decide +kernel
theorem dX12_giver_30 : decode cX12_giver 30 = .ok (.ireturn, 1) := by decide +kernel
theorem dX12_giver_31 : decode cX12_giver 31 = .ok (.aload_n 0, 1) := by decide +kernel
theorem dX12_giver_32 : decode cX12_giver 32 = .ok (.iload_n 2, 1) := by decide +kernel
theorem dX12_giver_33 : decode cX12_giver 33 = .ok (.invokevirtual 400, 3) := by decide +kernel
theorem dX12_giver_36 : decode cX12_giver 36 = .ok (.iconst (-1), 1) := by decide +kernel
theorem dX12_giver_37 : decode cX12_giver 37 = .ok (.istore_n 3, 1) := by decide +kernel
theorem dX12_giver_38 : decode cX12_giver 38 = .ok (.iconst 0, 1) := by decide +kernel
theorem dX12_giver_39 : decode cX12_giver 39 = .ok (.istore 4, 2) := by decide +kernel
theorem dX12_giver_41 : decode cX12_giver 41 = .ok (.iload 4, 2) := by decide +kernel
theorem dX12_giver_43 : decode cX12_giver 43 = .ok (.iload_n 1, 1) := by decide +kernel
theorem dX12_giver_44 : decode cX12_giver 44 = .ok (.if_icmp .ge 43, 3) := by decide +kernel
theorem dX12_giver_47 : decode cX12_giver 47 = .ok (.aload_n 0, 1) := by decide +kernel
theorem dX12_giver_48 : decode cX12_giver 48 = .ok (.iload 4, 2) := by decide +kernel
theorem dX12_giver_50 : decode cX12_giver 50 = .ok (.iload_n 1, 1) := by decide +kernel
theorem dX12_giver_51 : decode cX12_giver 51 = .ok (.invokevirtual 329, 3) := by decide +kernel
theorem dX12_giver_54 : decode cX12_giver 54 = .ok (.ifCond .eq 27, 3) := by decide +kernel
theorem dX12_giver_57 : decode cX12_giver 57 = .ok (.iload_n 3, 1) := by decide +kernel
theorem dX12_giver_58 : decode cX12_giver 58 = .ok (.iconst (-1), 1) := by decide +kernel
theorem dX12_giver_59 : decode cX12_giver 59 = .ok (.if_icmp .eq 19, 3) := by decide +kernel
theorem dX12_giver_62 : decode cX12_giver 62 = .ok (.aload_n 0, 1) := by decide +kernel
theorem dX12_giver_63 : decode cX12_giver 63 = .ok (.iload 4, 2) := by decide +kernel
theorem dX12_giver_65 : decode cX12_giver 65 = .ok (.iload_n 1, 1) := by decide +kernel
theorem dX12_giver_66 : decode cX12_giver 66 = .ok (.invokevirtual 396, 3) := by decide +kernel
theorem dX12_giver_69 : decode cX12_giver 69 = .ok (.aload_n 0, 1) := by decide +kernel
theorem dX12_giver_70 : decode cX12_giver 70 = .ok (.iload_n 3, 1) := by decide +kernel
theorem dX12_giver_71 : decode cX12_giver 71 = .ok (.iload_n 1, 1) := by decide +kernel
theorem dX12_giver_72 : decode cX12_giver 72 = .ok (.invokevirtual 396, 3) := by decide +kernel
theorem dX12_giver_75 : decode cX12_giver 75 = .ok (.if_icmp .le 6, 3) := by decide +kernel
theorem dX12_giver_78 : decode cX12_giver 78 = .ok (.iload 4, 2) := by decide +kernel
theorem dX12_giver_80 : decode cX12_giver 80 = .ok (.istore_n 3, 1) := by decide +kernel
theorem dX12_giver_81 : decode cX12_giver 81 = .ok (.iinc 4 1, 3) := by decide +kernel
theorem dX12_giver_84 : decode cX12_giver 84 = .ok (.goto (-43), 3) := by decide +kernel
theorem dX12_giver_87 : decode cX12_giver 87 = .ok (.iload_n 3, 1) := by decide +kernel
theorem dX12_giver_88 : decode cX12_giver 88 = .ok (.ireturn, 1) := by decide +kernel
theorem dX12_tier_0 : decode cX12_tier 0 = .ok (.aload_n 0, 1) := by decide +kernel
theorem dX12_tier_1 : decode cX12_tier 1 = .ok (.iconst 0, 1) := by decide +kernel
theorem dX12_tier_2 : decode cX12_tier 2 = .ok (.putfield 114, 3) := by decide +kernel
theorem dX12_tier_5 : decode cX12_tier 5 = .ok (.aload_n 0, 1) := by decide +kernel
theorem dX12_tier_6 : decode cX12_tier 6 = .ok (.iload_n 1, 1) := by decide +kernel
theorem dX12_tier_7 : decode cX12_tier 7 = .ok (.invokevirtual 351, 3) := by decide +kernel
theorem dX12_tier_10 : decode cX12_tier 10 = .ok (.ifCond .eq 12, 3) := by decide +kernel
theorem dX12_tier_13 : decode cX12_tier 13 = .ok (.aload_n 0, 1) := by decide +kernel
theorem dX12_tier_14 : decode cX12_tier 14 = .ok (.iload_n 2, 1) := by decide +kernel
theorem dX12_tier_15 : decode cX12_tier 15 = .ok (.iconst 1, 1) := by decide +kernel
theorem dX12_tier_16 : decode cX12_tier 16 = .ok (.invokevirtual 354, 3) := by decide +kernel
theorem dX12_tier_19 : decode cX12_tier 19 = .ok (.ifCond .ne 5, 3) := by decide +kernel
theorem dX12_tier_22 : decode cX12_tier 22 = .ok (.iconst 0, 1) := by decide +kernel
theorem dX12_tier_23 : decode cX12_tier 23 = .ok (.ireturn, 1) := by decide +kernel
theorem dX12_tier_24 : decode cX12_tier 24 = .ok (.iconst 1, 1) := by decide +kernel
theorem dX12_tier_25 : decode cX12_tier 25 = .ok (.iload_n 1, 1) := by decide +kernel
theorem dX12_tier_26 : decode cX12_tier 26 = .ok (.ishl, 1) := by decide +kernel
theorem dX12_tier_27 : decode cX12_tier 27 = .ok (.istore_n 3, 1) := by decide +kernel
theorem dX12_tier_28 : decode cX12_tier 28 = .ok (.iconst 0, 1) := by decide +kernel
theorem dX12_tier_29 : decode cX12_tier 29 = .ok (.istore 4, 2) := by decide +kernel
theorem dX12_tier_31 : decode cX12_tier 31 = .ok (.iload 4, 2) := by decide +kernel
theorem dX12_tier_33 : decode cX12_tier 33 = .ok (.aload_n 0, 1) := by decide +kernel
theorem dX12_tier_34 : decode cX12_tier 34 = .ok (.getfield 269, 3) := by decide +kernel
theorem dX12_tier_37 : decode cX12_tier 37 = .ok (.if_icmp .ge 84, 3) := by decide +kernel
theorem dX12_tier_40 : decode cX12_tier 40 = .ok (.iconst 0, 1) := by decide +kernel
theorem dX12_tier_41 : decode cX12_tier 41 = .ok (.istore 5, 2) := by decide +kernel
theorem dX12_tier_43 : decode cX12_tier 43 = .ok (.iload 5, 2) := by decide +kernel
theorem dX12_tier_45 : decode cX12_tier 45 = .ok (.aload_n 0, 1) := by decide +kernel
theorem dX12_tier_46 : decode cX12_tier 46 = .ok (.getfield 269, 3) := by decide +kernel
theorem dX12_tier_49 : decode cX12_tier 49 = .ok (.if_icmp .ge 66, 3) := by decide +kernel
theorem dX12_tier_52 : decode cX12_tier 52 = .ok (.iconst 0, 1) := by decide +kernel
theorem dX12_tier_53 : decode cX12_tier 53 = .ok (.istore 6, 2) := by decide +kernel
theorem dX12_tier_55 : decode cX12_tier 55 = .ok (.iload 6, 2) := by decide +kernel
theorem dX12_tier_57 : decode cX12_tier 57 = .ok (.aload_n 0, 1) := by decide +kernel
theorem dX12_tier_58 : decode cX12_tier 58 = .ok (.getfield 269, 3) := by decide +kernel
theorem dX12_tier_61 : decode cX12_tier 61 = .ok (.if_icmp .ge 48, 3) := by decide +kernel
theorem dX12_tier_64 : decode cX12_tier 64 = .ok (.aload_n 0, 1) := by decide +kernel
theorem dX12_tier_65 : decode cX12_tier 65 = .ok (.iload 5, 2) := by decide +kernel
theorem dX12_tier_67 : decode cX12_tier 67 = .ok (.iload 6, 2) := by decide +kernel
theorem dX12_tier_69 : decode cX12_tier 69 = .ok (.invokevirtual 329, 3) := by decide +kernel
theorem dX12_tier_72 : decode cX12_tier 72 = .ok (.ifCond .eq 31, 3) := by decide +kernel
theorem dX12_tier_75 : decode cX12_tier 75 = .ok (.iload_n 3, 1) := by decide +kernel
theorem dX12_tier_76 : decode cX12_tier 76 = .ok (.iload_n 2, 1) := by decide +kernel
theorem dX12_tier_77 : decode cX12_tier 77 = .ok (.ifCond .ne 15, 3) := by decide +kernel
theorem dX12_tier_80 : decode cX12_tier 80 = .ok (.iload_n 3, 1) := by decide +kernel
theorem dX12_tier_81 : decode cX12_tier 81 = .ok (.iload 6, 2) := by decide +kernel
theorem dX12_tier_83 : decode cX12_tier 83 = .ok (.ishr, 1) := by decide +kernel
theorem dX12_tier_84 : decode cX12_tier 84 = .ok (.iconst 1, 1) := by decide +kernel
theorem dX12_tier_85 : decode cX12_tier 85 = .ok (.iand, 1) := by decide +kernel
theorem dX12_tier_86 : decode cX12_tier 86 = .ok (.iload 5, 2) := by decide +kernel
theorem dX12_tier_88 : decode cX12_tier 88 = .ok (.ishl, 1) := by decide +kernel
theorem dX12_tier_89 : decode cX12_tier 89 = .ok (.goto 12, 3) := by decide +kernel
theorem dX12_tier_92 : decode cX12_tier 92 = .ok (.iload_n 3, 1) := by decide +kernel
theorem dX12_tier_93 : decode cX12_tier 93 = .ok (.iload 5, 2) := by decide +kernel
theorem dX12_tier_95 : decode cX12_tier 95 = .ok (.ishr, 1) := by decide +kernel
theorem dX12_tier_96 : decode cX12_tier 96 = .ok (.iconst 1, 1) := by decide +kernel
theorem dX12_tier_97 : decode cX12_tier 97 = .ok (.iand, 1) := by decide +kernel
theorem dX12_tier_98 : decode cX12_tier 98 = .ok (.iload 6, 2) := by decide +kernel
theorem dX12_tier_100 : decode cX12_tier 100 = .ok (.ishl, 1) := by decide +kernel
theorem dX12_tier_101 : decode cX12_tier 101 = .ok (.ior, 1) := by decide +kernel
theorem dX12_tier_102 : decode cX12_tier 102 = .ok (.istore_n 3, 1) := by decide +kernel
theorem dX12_tier_103 : decode cX12_tier 103 = .ok (.iinc 6 1, 3) := by decide +kernel
theorem dX12_tier_106 : decode cX12_tier 106 = .ok (.goto (-51), 3) := by decide +kernel
theorem dX12_tier_109 : decode cX12_tier 109 = .ok (.iinc 5 1, 3) := by decide +kernel
theorem dX12_tier_112 : decode cX12_tier 112 = .ok (.goto (-69), 3) := by decide +kernel
theorem dX12_tier_115 : decode cX12_tier 115 = .ok (.iinc 4 1, 3) := by decide +kernel
theorem dX12_tier_118 : decode cX12_tier 118 = .ok (.goto (-87), 3) := by decide +kernel
theorem dX12_tier_121 : decode cX12_tier 121 = .ok (.iload_n 3, 1) := by decide +kernel
theorem dX12_tier_122 : decode cX12_tier 122 = .ok (.iconst 1, 1) := by decide +kernel
theorem dX12_tier_123 : decode cX12_tier 123 = .ok (.iload_n 1, 1) := by decide +kernel
theorem dX12_tier_124 : decode cX12_tier 124 = .ok (.ishl, 1) := by decide +kernel
theorem dX12_tier_125 : decode cX12_tier 125 = .ok (.iconst (-1), 1) := by decide +kernel
theorem dX12_tier_126 : decode cX12_tier 126 = .ok (.ixor, 1) := by decide +kernel
theorem dX12_tier_127 : decode cX12_tier 127 = .ok (.iand, 1) := by decide +kernel
theorem dX12_tier_128 : decode cX12_tier 128 = .ok (.ireturn, 1) := by decide +kernel
theorem dX12_ways_0 : decode cX12_ways 0 = .ok (.aload_n 0, 1) := by decide +kernel
theorem dX12_ways_1 : decode cX12_ways 1 = .ok (.iconst 0, 1) := by decide +kernel
theorem dX12_ways_2 : decode cX12_ways 2 = .ok (.putfield 114, 3) := by decide +kernel
theorem dX12_ways_5 : decode cX12_ways 5 = .ok (.aload_n 0, 1) := by decide +kernel
theorem dX12_ways_6 : decode cX12_ways 6 = .ok (.iload_n 1, 1) := by decide +kernel
theorem dX12_ways_7 : decode cX12_ways 7 = .ok (.invokevirtual 351, 3) := by decide +kernel
theorem dX12_ways_10 : decode cX12_ways 10 = .ok (.ifCond .eq 11, 3) := by decide +kernel
theorem dX12_ways_13 : decode cX12_ways 13 = .ok (.aload_n 0, 1) := by decide +kernel
theorem dX12_ways_14 : decode cX12_ways 14 = .ok (.iload_n 2, 1) := by decide +kernel
theorem dX12_ways_15 : decode cX12_ways 15 = .ok (.invokevirtual 351, 3) := by decide +kernel
theorem dX12_ways_18 : decode cX12_ways 18 = .ok (.ifCond .ne 5, 3) := by decide +kernel
theorem dX12_ways_21 : decode cX12_ways 21 = .ok (.iconst 0, 1) := by decide +kernel
theorem dX12_ways_22 : decode cX12_ways 22 = .ok (.ireturn, 1) := by decide +kernel
theorem dX12_ways_23 : decode cX12_ways 23 = .ok (.iconst 0, 1) := by decide +kernel
theorem dX12_ways_24 : decode cX12_ways 24 = .ok (.istore_n 3, 1) := by decide +kernel
theorem dX12_ways_25 : decode cX12_ways 25 = .ok (.iload_n 3, 1) := by decide +kernel
theorem dX12_ways_26 : decode cX12_ways 26 = .ok (.aload_n 0, 1) := by decide +kernel
theorem dX12_ways_27 : decode cX12_ways 27 = .ok (.getfield 269, 3) := by decide +kernel
theorem dX12_ways_30 : decode cX12_ways 30 = .ok (.if_icmp .ge 70, 3) := by decide +kernel
theorem dX12_ways_33 : decode cX12_ways 33 = .ok (.aload_n 0, 1) := by decide +kernel
theorem dX12_ways_34 : decode cX12_ways 34 = .ok (.getfield 93, 3) := by decide +kernel
theorem dX12_ways_37 : decode cX12_ways 37 = .ok (.iload_n 3, 1) := by decide +kernel
theorem dX12_ways_38 : decode cX12_ways 38 = .ok (.iload_n 3, 1) := by decide +kernel
theorem dX12_ways_39 : decode cX12_ways 39 = .ok (.iload_n 1, 1) := by decide +kernel
theorem dX12_ways_40 : decode cX12_ways 40 = .ok (.if_icmp .ne 7, 3) := by decide +kernel
theorem dX12_ways_43 : decode cX12_ways 43 = .ok (.iconst 1, 1) := by decide +kernel
theorem dX12_ways_44 : decode cX12_ways 44 = .ok (.goto 4, 3) := by decide +kernel
theorem dX12_ways_47 : decode cX12_ways 47 = .ok (.iconst 0, 1) := by decide +kernel
theorem dX12_ways_48 : decode cX12_ways 48 = .ok (.iastore, 1) := by decide +kernel
theorem dX12_ways_49 : decode cX12_ways 49 = .ok (.iconst 0, 1) := by decide +kernel
theorem dX12_ways_50 : decode cX12_ways 50 = .ok (.istore 4, 2) := by decide +kernel
theorem dX12_ways_52 : decode cX12_ways 52 = .ok (.iload 4, 2) := by decide +kernel
theorem dX12_ways_54 : decode cX12_ways 54 = .ok (.iload_n 3, 1) := by decide +kernel
theorem dX12_ways_55 : decode cX12_ways 55 = .ok (.if_icmp .ge 39, 3) := by decide +kernel
theorem dX12_ways_58 : decode cX12_ways 58 = .ok (.aload_n 0, 1) := by decide +kernel
theorem dX12_ways_59 : decode cX12_ways 59 = .ok (.getfield 93, 3) := by decide +kernel
theorem dX12_ways_62 : decode cX12_ways 62 = .ok (.iload_n 3, 1) := by decide +kernel
theorem dX12_ways_63 : decode cX12_ways 63 = .ok (.dup2, 1) := by decide +kernel
theorem dX12_ways_64 : decode cX12_ways 64 = .ok (.iaload, 1) := by decide +kernel
theorem dX12_ways_65 : decode cX12_ways 65 = .ok (.aload_n 0, 1) := by decide +kernel
theorem dX12_ways_66 : decode cX12_ways 66 = .ok (.iload 4, 2) := by decide +kernel
theorem dX12_ways_68 : decode cX12_ways 68 = .ok (.iload_n 3, 1) := by decide +kernel
theorem dX12_ways_69 : decode cX12_ways 69 = .ok (.invokevirtual 329, 3) := by decide +kernel
theorem dX12_ways_72 : decode cX12_ways 72 = .ok (.ifCond .eq 13, 3) := by decide +kernel
theorem dX12_ways_75 : decode cX12_ways 75 = .ok (.aload_n 0, 1) := by decide +kernel
theorem dX12_ways_76 : decode cX12_ways 76 = .ok (.getfield 93, 3) := by decide +kernel
theorem dX12_ways_79 : decode cX12_ways 79 = .ok (.iload 4, 2) := by decide +kernel
theorem dX12_ways_81 : decode cX12_ways 81 = .ok (.iaload, 1) := by decide +kernel
theorem dX12_ways_82 : decode cX12_ways 82 = .ok (.goto 4, 3) := by decide +kernel
theorem dX12_ways_85 : decode cX12_ways 85 = .ok (.iconst 0, 1) := by decide +kernel
theorem dX12_ways_86 : decode cX12_ways 86 = .ok (.iadd, 1) := by decide +kernel
theorem dX12_ways_87 : decode cX12_ways 87 = .ok (.iastore, 1) := by decide +kernel
theorem dX12_ways_88 : decode cX12_ways 88 = .ok (.iinc 4 1, 3) := by decide +kernel
theorem dX12_ways_91 : decode cX12_ways 91 = .ok (.goto (-39), 3) := by decide +kernel
theorem dX12_ways_94 : decode cX12_ways 94 = .ok (.iinc 3 1, 3) := by decide +kernel
theorem dX12_ways_97 : decode cX12_ways 97 = .ok (.goto (-72), 3) := by decide +kernel
theorem dX12_ways_100 : decode cX12_ways 100 = .ok (.aload_n 0, 1) := by decide +kernel
theorem dX12_ways_101 : decode cX12_ways 101 = .ok (.getfield 93, 3) := by decide +kernel
theorem dX12_ways_104 : decode cX12_ways 104 = .ok (.iload_n 2, 1) := by decide +kernel
theorem dX12_ways_105 : decode cX12_ways 105 = .ok (.iaload, 1) := by decide +kernel
theorem dX12_ways_106 : decode cX12_ways 106 = .ok (.ireturn, 1) := by decide +kernel
theorem dX12_toCrack_0 : decode cX12_toCrack 0 = .ok (.aload_n 0, 1) := by decide +kernel
theorem dX12_toCrack_1 : decode cX12_toCrack 1 = .ok (.iconst 0, 1) := by decide +kernel
theorem dX12_toCrack_2 : decode cX12_toCrack 2 = .ok (.putfield 114, 3) := by decide +kernel
theorem dX12_toCrack_5 : decode cX12_toCrack 5 = .ok (.aload_n 0, 1) := by decide +kernel
theorem dX12_toCrack_6 : decode cX12_toCrack 6 = .ok (.iload_n 1, 1) := by decide +kernel
theorem dX12_toCrack_7 : decode cX12_toCrack 7 = .ok (.invokevirtual 351, 3) := by decide +kernel
theorem dX12_toCrack_10 : decode cX12_toCrack 10 = .ok (.ifCond .eq 40, 3) := by decide +kernel
theorem dX12_toCrack_13 : decode cX12_toCrack 13 = .ok (.aload_n 0, 1) := by decide +kernel
theorem dX12_toCrack_14 : decode cX12_toCrack 14 = .ok (.iload 4, 2) := by decide +kernel
theorem dX12_toCrack_16 : decode cX12_toCrack 16 = .ok (.iconst 1, 1) := by decide +kernel
theorem dX12_toCrack_17 : decode cX12_toCrack 17 = .ok (.invokevirtual 354, 3) := by decide +kernel
theorem dX12_toCrack_20 : decode cX12_toCrack 20 = .ok (.ifCond .eq 30, 3) := by decide +kernel
theorem dX12_toCrack_23 : decode cX12_toCrack 23 = .ok (.aload_n 0, 1) := by decide +kernel
theorem dX12_toCrack_24 : decode cX12_toCrack 24 = .ok (.iload_n 2, 1) := by decide +kernel
theorem dX12_toCrack_25 : decode cX12_toCrack 25 = .ok (.ifCond .lt 17, 3) := by decide +kernel
theorem dX12_toCrack_28 : decode cX12_toCrack 28 = .ok (.iload_n 3, 1) := by decide +kernel
theorem dX12_toCrack_29 : decode cX12_toCrack 29 = .ok (.iconst 1, 1) := by decide +kernel
theorem dX12_toCrack_30 : decode cX12_toCrack 30 = .ok (.bipush 60, 2) := by decide +kernel
theorem dX12_toCrack_32 : decode cX12_toCrack 32 = .ok (.invokestatic 332, 3) := by decide +kernel
theorem dX12_toCrack_35 : decode cX12_toCrack 35 = .ok (.ifCond .eq 7, 3) := by decide +kernel
theorem dX12_toCrack_38 : decode cX12_toCrack 38 = .ok (.iconst 1, 1) := by decide +kernel
theorem dX12_toCrack_39 : decode cX12_toCrack 39 = .ok (.goto 4, 3) := by decide +kernel
theorem dX12_toCrack_42 : decode cX12_toCrack 42 = .ok (.iconst 0, 1) := by decide +kernel
theorem dX12_toCrack_43 : decode cX12_toCrack 43 = .ok (.iconst 2, 1) := by decide +kernel
theorem dX12_toCrack_44 : decode cX12_toCrack 44 = .ok (.invokevirtual 262, 3) := by decide +kernel
theorem dX12_toCrack_47 : decode cX12_toCrack 47 = .ok (.ifCond .ne 5, 3) := by decide +kernel
theorem dX12_toCrack_50 : decode cX12_toCrack 50 = .ok (.iconst 0, 1) := by decide +kernel
theorem dX12_toCrack_51 : decode cX12_toCrack 51 = .ok (.ireturn, 1) := by decide +kernel
theorem dX12_toCrack_52 : decode cX12_toCrack 52 = .ok (.iconst (-1), 1) := by decide +kernel
theorem dX12_toCrack_53 : decode cX12_toCrack 53 = .ok (.istore 5, 2) := by decide +kernel
theorem dX12_toCrack_55 : decode cX12_toCrack 55 = .ok (.iconst 0, 1) := by decide +kernel
theorem dX12_toCrack_56 : decode cX12_toCrack 56 = .ok (.istore 6, 2) := by decide +kernel
theorem dX12_toCrack_58 : decode cX12_toCrack 58 = .ok (.iconst 1, 1) := by decide +kernel
theorem dX12_toCrack_59 : decode cX12_toCrack 59 = .ok (.istore 7, 2) := by decide +kernel
theorem dX12_toCrack_61 : decode cX12_toCrack 61 = .ok (.iload 7, 2) := by decide +kernel
theorem dX12_toCrack_63 : decode cX12_toCrack 63 = .ok (.bipush 30, 2) := by decide +kernel
theorem dX12_toCrack_65 : decode cX12_toCrack 65 = .ok (.if_icmp .gt 100, 3) := by decide +kernel
theorem dX12_toCrack_68 : decode cX12_toCrack 68 = .ok (.aload_n 0, 1) := by decide +kernel
theorem dX12_toCrack_69 : decode cX12_toCrack 69 = .ok (.invokevirtual 381, 3) := by decide +kernel
theorem dX12_toCrack_72 : decode cX12_toCrack 72 = .ok (.aload_n 0, 1) := by decide +kernel
theorem dX12_toCrack_73 : decode cX12_toCrack 73 = .ok (.bipush 64, 2) := by decide +kernel
theorem dX12_toCrack_75 : decode cX12_toCrack 75 = .ok (.iload_n 1, 1) := by decide +kernel
theorem dX12_toCrack_76 : decode cX12_toCrack 76 = .ok (.iload 7, 2) := by decide +kernel
theorem dX12_toCrack_78 : decode cX12_toCrack 78 = .ok (.invokevirtual 375, 3) := by decide +kernel
theorem dX12_toCrack_81 : decode cX12_toCrack 81 = .ok (.iconst 0, 1) := by decide +kernel
theorem dX12_toCrack_82 : decode cX12_toCrack 82 = .ok (.istore 8, 2) := by decide +kernel
theorem dX12_toCrack_84 : decode cX12_toCrack 84 = .ok (.iconst 0, 1) := by decide +kernel
theorem dX12_toCrack_85 : decode cX12_toCrack 85 = .ok (.istore 9, 2) := by decide +kernel
theorem dX12_toCrack_87 : decode cX12_toCrack 87 = .ok (.iload 9, 2) := by decide +kernel
theorem dX12_toCrack_89 : decode cX12_toCrack 89 = .ok (.iload_n 3, 1) := by decide +kernel
theorem dX12_toCrack_90 : decode cX12_toCrack 90 = .ok (.if_icmp .ge 26, 3) := by decide +kernel
theorem dX12_toCrack_93 : decode cX12_toCrack 93 = .ok (.aload_n 0, 1) := by decide +kernel
theorem dX12_toCrack_94 : decode cX12_toCrack 94 = .ok (.bipush 64, 2) := by decide +kernel
theorem dX12_toCrack_96 : decode cX12_toCrack 96 = .ok (.invokevirtual 323, 3) := by decide +kernel
theorem dX12_toCrack_99 : decode cX12_toCrack 99 = .ok (.iload 8, 2) := by decide +kernel
theorem dX12_toCrack_101 : decode cX12_toCrack 101 = .ok (.aload_n 0, 1) := by decide +kernel
theorem dX12_toCrack_102 : decode cX12_toCrack 102 = .ok (.getfield 66, 3) := by decide +kernel
theorem dX12_toCrack_105 : decode cX12_toCrack 105 = .ok (.iload_n 1, 1) := by decide +kernel
theorem dX12_toCrack_106 : decode cX12_toCrack 106 = .ok (.iaload, 1) := by decide +kernel
theorem dX12_toCrack_107 : decode cX12_toCrack 107 = .ok (.iadd, 1) := by decide +kernel
theorem dX12_toCrack_108 : decode cX12_toCrack 108 = .ok (.istore 8, 2) := by decide +kernel
theorem dX12_toCrack_110 : decode cX12_toCrack 110 = .ok (.iinc 9 1, 3) := by decide +kernel
theorem dX12_toCrack_113 : decode cX12_toCrack 113 = .ok (.goto (-26), 3) := by decide +kernel
theorem dX12_toCrack_116 : decode cX12_toCrack 116 = .ok (.iload 8, 2) := by decide +kernel
theorem dX12_toCrack_118 : decode cX12_toCrack 118 = .ok (.iload_n 2, 1) := by decide +kernel
theorem dX12_toCrack_119 : decode cX12_toCrack 119 = .ok (.if_icmp .le 10, 3) := by decide +kernel
theorem dX12_toCrack_122 : decode cX12_toCrack 122 = .ok (.iload 8, 2) := by decide +kernel
theorem dX12_toCrack_124 : decode cX12_toCrack 124 = .ok (.iload_n 2, 1) := by decide +kernel
theorem dX12_toCrack_125 : decode cX12_toCrack 125 = .ok (.isub, 1) := by decide +kernel
theorem dX12_toCrack_126 : decode cX12_toCrack 126 = .ok (.goto 7, 3) := by decide +kernel
theorem dX12_toCrack_129 : decode cX12_toCrack 129 = .ok (.iload_n 2, 1) := by decide +kernel
theorem dX12_toCrack_130 : decode cX12_toCrack 130 = .ok (.iload 8, 2) := by decide +kernel
theorem dX12_toCrack_132 : decode cX12_toCrack 132 = .ok (.isub, 1) := by decide +kernel
theorem dX12_toCrack_133 : decode cX12_toCrack 133 = .ok (.istore 9, 2) := by decide +kernel
theorem dX12_toCrack_135 : decode cX12_toCrack 135 = .ok (.iload 5, 2) := by decide +kernel
theorem dX12_toCrack_137 : decode cX12_toCrack 137 = .ok (.iconst (-1), 1) := by decide +kernel
theorem dX12_toCrack_138 : decode cX12_toCrack 138 = .ok (.if_icmp .eq 13, 3) := by decide +kernel
theorem dX12_toCrack_141 : decode cX12_toCrack 141 = .ok (.iload 9, 2) := by decide +kernel
theorem dX12_toCrack_143 : decode cX12_toCrack 143 = .ok (.iload 6, 2) := by decide +kernel
theorem dX12_toCrack_145 : decode cX12_toCrack 145 = .ok (.if_icmp .lt 6, 3) := by decide +kernel
theorem dX12_toCrack_148 : decode cX12_toCrack 148 = .ok (.goto 11, 3) := by decide +kernel
theorem dX12_toCrack_151 : decode cX12_toCrack 151 = .ok (.iload 7, 2) := by decide +kernel
theorem dX12_toCrack_153 : decode cX12_toCrack 153 = .ok (.istore 5, 2) := by decide +kernel
theorem dX12_toCrack_155 : decode cX12_toCrack 155 = .ok (.iload 9, 2) := by decide +kernel
theorem dX12_toCrack_157 : decode cX12_toCrack 157 = .ok (.istore 6, 2) := by decide +kernel
theorem dX12_toCrack_159 : decode cX12_toCrack 159 = .ok (.iinc 7 1, 3) := by decide +kernel
theorem dX12_toCrack_162 : decode cX12_toCrack 162 = .ok (.goto (-101), 3) := by decide +kernel
theorem dX12_toCrack_165 : decode cX12_toCrack 165 = .ok (.iload 4, 2) := by decide +kernel
theorem dX12_toCrack_167 : decode cX12_toCrack 167 = .ok (.ifCond .ne 8, 3) := by decide +kernel
theorem dX12_toCrack_170 : decode cX12_toCrack 170 = .ok (.iload 5, 2) := by decide +kernel
theorem dX12_toCrack_172 : decode cX12_toCrack 172 = .ok (.goto 5, 3) := by decide +kernel
theorem dX12_toCrack_175 : decode cX12_toCrack 175 = .ok (.iload 6, 2) := by decide +kernel
theorem dX12_toCrack_177 : decode cX12_toCrack 177 = .ok (.ireturn, 1) := by decide +kernel
theorem dX12_toPour_0 : decode cX12_toPour 0 = .ok (.aload_n 0, 1) := by decide +kernel
theorem dX12_toPour_1 : decode cX12_toPour 1 = .ok (.iconst 0, 1) := by decide +kernel
theorem dX12_toPour_2 : decode cX12_toPour 2 = .ok (.putfield 114, 3) := by decide +kernel
theorem dX12_toPour_5 : decode cX12_toPour 5 = .ok (.aload_n 0, 1) := by decide +kernel
theorem dX12_toPour_6 : decode cX12_toPour 6 = .ok (.iload_n 1, 1) := by decide +kernel
theorem dX12_toPour_7 : decode cX12_toPour 7 = .ok (.invokevirtual 351, 3) := by decide +kernel
theorem dX12_toPour_10 : decode cX12_toPour 10 = .ok (.ifCond .eq 18, 3) := by decide +kernel
theorem dX12_toPour_13 : decode cX12_toPour 13 = .ok (.aload_n 0, 1) := by decide +kernel
theorem dX12_toPour_14 : decode cX12_toPour 14 = .ok (.iload_n 2, 1) := by decide +kernel
theorem dX12_toPour_15 : decode cX12_toPour 15 = .ok (.iconst 1, 1) := by decide +kernel
theorem dX12_toPour_16 : decode cX12_toPour 16 = .ok (.bipush 60, 2) := by decide +kernel
theorem dX12_toPour_18 : decode cX12_toPour 18 = .ok (.invokestatic 332, 3) := by decide +kernel
theorem dX12_toPour_21 : decode cX12_toPour 21 = .ok (.iconst 2, 1) := by decide +kernel
theorem dX12_toPour_22 : decode cX12_toPour 22 = .ok (.invokevirtual 262, 3) := by decide +kernel
theorem dX12_toPour_25 : decode cX12_toPour 25 = .ok (.ifCond .ne 5, 3) := by decide +kernel
theorem dX12_toPour_28 : decode cX12_toPour 28 = .ok (.iconst 0, 1) := by decide +kernel
theorem dX12_toPour_29 : decode cX12_toPour 29 = .ok (.ireturn, 1) := by decide +kernel
theorem dX12_toPour_30 : decode cX12_toPour 30 = .ok (.iconst 0, 1) := by decide +kernel
theorem dX12_toPour_31 : decode cX12_toPour 31 = .ok (.istore_n 3, 1) := by decide +kernel
theorem dX12_toPour_32 : decode cX12_toPour 32 = .ok (.iload_n 3, 1) := by decide +kernel
theorem dX12_toPour_33 : decode cX12_toPour 33 = .ok (.bipush 50, 2) := by decide +kernel
theorem dX12_toPour_35 : decode cX12_toPour 35 = .ok (.if_icmp .gt 45, 3) := by decide +kernel
theorem dX12_toPour_38 : decode cX12_toPour 38 = .ok (.aload_n 0, 1) := by decide +kernel
theorem dX12_toPour_39 : decode cX12_toPour 39 = .ok (.invokevirtual 381, 3) := by decide +kernel
theorem dX12_toPour_42 : decode cX12_toPour 42 = .ok (.iload_n 3, 1) := by decide +kernel
theorem dX12_toPour_43 : decode cX12_toPour 43 = .ok (.ifCond .le 12, 3) := by decide +kernel
theorem dX12_toPour_46 : decode cX12_toPour 46 = .ok (.aload_n 0, 1) := by decide +kernel
theorem dX12_toPour_47 : decode cX12_toPour 47 = .ok (.bipush 64, 2) := by decide +kernel
theorem dX12_toPour_49 : decode cX12_toPour 49 = .ok (.iload_n 1, 1) := by decide +kernel
theorem dX12_toPour_50 : decode cX12_toPour 50 = .ok (.iload_n 3, 1) := by decide +kernel
theorem dX12_toPour_51 : decode cX12_toPour 51 = .ok (.invokevirtual 372, 3) := by decide +kernel
theorem dX12_toPour_54 : decode cX12_toPour 54 = .ok (.pop, 1) := by decide +kernel
theorem dX12_toPour_55 : decode cX12_toPour 55 = .ok (.aload_n 0, 1) := by decide +kernel
theorem dX12_toPour_56 : decode cX12_toPour 56 = .ok (.iload_n 2, 1) := by decide +kernel
theorem dX12_toPour_57 : decode cX12_toPour 57 = .ok (.invokevirtual 384, 3) := by decide +kernel
theorem dX12_toPour_60 : decode cX12_toPour 60 = .ok (.aload_n 0, 1) := by decide +kernel
theorem dX12_toPour_61 : decode cX12_toPour 61 = .ok (.getfield 300, 3) := by decide +kernel
theorem dX12_toPour_64 : decode cX12_toPour 64 = .ok (.iload_n 1, 1) := by decide +kernel
theorem dX12_toPour_65 : decode cX12_toPour 65 = .ok (.ishr, 1) := by decide +kernel
theorem dX12_toPour_66 : decode cX12_toPour 66 = .ok (.iconst 1, 1) := by decide +kernel
theorem dX12_toPour_67 : decode cX12_toPour 67 = .ok (.iand, 1) := by decide +kernel
theorem dX12_toPour_68 : decode cX12_toPour 68 = .ok (.iconst 1, 1) := by decide +kernel
theorem dX12_toPour_69 : decode cX12_toPour 69 = .ok (.if_icmp .ne 5, 3) := by decide +kernel
theorem dX12_toPour_72 : decode cX12_toPour 72 = .ok (.iload_n 3, 1) := by decide +kernel
theorem dX12_toPour_73 : decode cX12_toPour 73 = .ok (.ireturn, 1) := by decide +kernel
theorem dX12_toPour_74 : decode cX12_toPour 74 = .ok (.iinc 3 1, 3) := by decide +kernel
theorem dX12_toPour_77 : decode cX12_toPour 77 = .ok (.goto (-45), 3) := by decide +kernel
theorem dX12_toPour_80 : decode cX12_toPour 80 = .ok (.iconst (-1), 1) := by decide +kernel
theorem dX12_toPour_81 : decode cX12_toPour 81 = .ok (.ireturn, 1) := by decide +kernel
theorem dX12_office_0 : decode cX12_office 0 = .ok (.aload_n 0, 1) := by decide +kernel
theorem dX12_office_1 : decode cX12_office 1 = .ok (.iconst 0, 1) := by decide +kernel
theorem dX12_office_2 : decode cX12_office 2 = .ok (.putfield 114, 3) := by decide +kernel
theorem dX12_office_5 : decode cX12_office 5 = .ok (.aload_n 0, 1) := by decide +kernel
theorem dX12_office_6 : decode cX12_office 6 = .ok (.iload_n 2, 1) := by decide +kernel
theorem dX12_office_7 : decode cX12_office 7 = .ok (.iconst 1, 1) := by decide +kernel
theorem dX12_office_8 : decode cX12_office 8 = .ok (.invokevirtual 354, 3) := by decide +kernel
theorem dX12_office_11 : decode cX12_office 11 = .ok (.ifCond .eq 18, 3) := by decide +kernel
theorem dX12_office_14 : decode cX12_office 14 = .ok (.aload_n 0, 1) := by decide +kernel
theorem dX12_office_15 : decode cX12_office 15 = .ok (.iload_n 1, 1) := by decide +kernel
theorem dX12_office_16 : decode cX12_office 16 = .ok (.iconst 1, 1) := by decide +kernel
theorem dX12_office_17 : decode cX12_office 17 = .ok (.bipush 60, 2) := by decide +kernel
theorem dX12_office_19 : decode cX12_office 19 = .ok (.invokestatic 332, 3) := by decide +kernel
theorem dX12_office_22 : decode cX12_office 22 = .ok (.iconst 2, 1) := by decide +kernel
theorem dX12_office_23 : decode cX12_office 23 = .ok (.invokevirtual 262, 3) := by decide +kernel
theorem dX12_office_26 : decode cX12_office 26 = .ok (.ifCond .ne 5, 3) := by decide +kernel
theorem dX12_office_29 : decode cX12_office 29 = .ok (.iconst 0, 1) := by decide +kernel
theorem dX12_office_30 : decode cX12_office 30 = .ok (.ireturn, 1) := by decide +kernel
theorem dX12_office_31 : decode cX12_office 31 = .ok (.iconst (-1), 1) := by decide +kernel
theorem dX12_office_32 : decode cX12_office 32 = .ok (.istore_n 3, 1) := by decide +kernel
theorem dX12_office_33 : decode cX12_office 33 = .ok (.iconst (-1), 1) := by decide +kernel
theorem dX12_office_34 : decode cX12_office 34 = .ok (.istore 4, 2) := by decide +kernel
theorem dX12_office_36 : decode cX12_office 36 = .ok (.aload_n 0, 1) := by decide +kernel
theorem dX12_office_37 : decode cX12_office 37 = .ok (.invokevirtual 381, 3) := by decide +kernel
theorem dX12_office_40 : decode cX12_office 40 = .ok (.iconst 1, 1) := by decide +kernel
theorem dX12_office_41 : decode cX12_office 41 = .ok (.istore 5, 2) := by decide +kernel
theorem dX12_office_43 : decode cX12_office 43 = .ok (.iload 5, 2) := by decide +kernel
theorem dX12_office_45 : decode cX12_office 45 = .ok (.bipush 120, 2) := by decide +kernel
theorem dX12_office_47 : decode cX12_office 47 = .ok (.if_icmp .gt 69, 3) := by decide +kernel
theorem dX12_office_50 : decode cX12_office 50 = .ok (.aload_n 0, 1) := by decide +kernel
theorem dX12_office_51 : decode cX12_office 51 = .ok (.bipush 64, 2) := by decide +kernel
theorem dX12_office_53 : decode cX12_office 53 = .ok (.invokevirtual 323, 3) := by decide +kernel
theorem dX12_office_56 : decode cX12_office 56 = .ok (.aload_n 0, 1) := by decide +kernel
theorem dX12_office_57 : decode cX12_office 57 = .ok (.getfield 300, 3) := by decide +kernel
theorem dX12_office_60 : decode cX12_office 60 = .ok (.ifCond .eq 50, 3) := by decide +kernel
theorem dX12_office_63 : decode cX12_office 63 = .ok (.iload 4, 2) := by decide +kernel
theorem dX12_office_65 : decode cX12_office 65 = .ok (.iconst (-1), 1) := by decide +kernel
theorem dX12_office_66 : decode cX12_office 66 = .ok (.if_icmp .eq 21, 3) := by decide +kernel
theorem dX12_office_69 : decode cX12_office 69 = .ok (.iload 5, 2) := by decide +kernel
theorem dX12_office_71 : decode cX12_office 71 = .ok (.iload_n 1, 1) := by decide +kernel
theorem dX12_office_72 : decode cX12_office 72 = .ok (.invokestatic 405, 3) := by decide +kernel
theorem dX12_office_75 : decode cX12_office 75 = .ok (.iload 4, 2) := by decide +kernel
theorem dX12_office_77 : decode cX12_office 77 = .ok (.iload_n 1, 1) := by decide +kernel
theorem dX12_office_78 : decode cX12_office 78 = .ok (.invokestatic 405, 3) := by decide +kernel
theorem dX12_office_81 : decode cX12_office 81 = .ok (.if_icmp .lt 6, 3) := by decide +kernel
theorem dX12_office_84 : decode cX12_office 84 = .ok (.goto 26, 3) := by decide +kernel
theorem dX12_office_87 : decode cX12_office 87 = .ok (.iload 5, 2) := by decide +kernel
theorem dX12_office_89 : decode cX12_office 89 = .ok (.istore 4, 2) := by decide +kernel
theorem dX12_office_91 : decode cX12_office 91 = .ok (.iconst 0, 1) := by decide +kernel
theorem dX12_office_92 : decode cX12_office 92 = .ok (.istore_n 3, 1) := by decide +kernel
theorem dX12_office_93 : decode cX12_office 93 = .ok (.aload_n 0, 1) := by decide +kernel
theorem dX12_office_94 : decode cX12_office 94 = .ok (.getfield 300, 3) := by decide +kernel
theorem dX12_office_97 : decode cX12_office 97 = .ok (.iload_n 3, 1) := by decide +kernel
theorem dX12_office_98 : decode cX12_office 98 = .ok (.ishr, 1) := by decide +kernel
theorem dX12_office_99 : decode cX12_office 99 = .ok (.iconst 1, 1) := by decide +kernel
theorem dX12_office_100 : decode cX12_office 100 = .ok (.iand, 1) := by decide +kernel
theorem dX12_office_101 : decode cX12_office 101 = .ok (.ifCond .ne 9, 3) := by decide +kernel
theorem dX12_office_104 : decode cX12_office 104 = .ok (.iinc 3 1, 3) := by decide +kernel
theorem dX12_office_107 : decode cX12_office 107 = .ok (.goto (-14), 3) := by decide +kernel
theorem dX12_office_110 : decode cX12_office 110 = .ok (.iinc 5 1, 3) := by decide +kernel
theorem dX12_office_113 : decode cX12_office 113 = .ok (.goto (-70), 3) := by decide +kernel
theorem dX12_office_116 : decode cX12_office 116 = .ok (.iload_n 2, 1) := by decide +kernel
theorem dX12_office_117 : decode cX12_office 117 = .ok (.ifCond .ne 7, 3) := by decide +kernel
theorem dX12_office_120 : decode cX12_office 120 = .ok (.iload_n 3, 1) := by decide +kernel
theorem dX12_office_121 : decode cX12_office 121 = .ok (.goto 5, 3) := by decide +kernel
theorem dX12_office_124 : decode cX12_office 124 = .ok (.iload 4, 2) := by decide +kernel
theorem dX12_office_126 : decode cX12_office 126 = .ok (.ireturn, 1) := by decide +kernel
theorem dX12_offBy_0 : decode cX12_offBy 0 = .ok (.iload_n 0, 1) := by decide +kernel
theorem dX12_offBy_1 : decode cX12_offBy 1 = .ok (.iload_n 1, 1) := by decide +kernel
theorem dX12_offBy_2 : decode cX12_offBy 2 = .ok (.if_icmp .ge 9, 3) := by decide +kernel
theorem dX12_offBy_5 : decode cX12_offBy 5 = .ok (.iload_n 1, 1) := by decide +kernel
theorem dX12_offBy_6 : decode cX12_offBy 6 = .ok (.iload_n 0, 1) := by decide +kernel
theorem dX12_offBy_7 : decode cX12_offBy 7 = .ok (.isub, 1) := by decide +kernel
theorem dX12_offBy_8 : decode cX12_offBy 8 = .ok (.goto 6, 3) := by decide +kernel
theorem dX12_offBy_11 : decode cX12_offBy 11 = .ok (.iload_n 0, 1) := by decide +kernel
theorem dX12_offBy_12 : decode cX12_offBy 12 = .ok (.iload_n 1, 1) := by decide +kernel
theorem dX12_offBy_13 : decode cX12_offBy 13 = .ok (.isub, 1) := by decide +kernel
theorem dX12_offBy_14 : decode cX12_offBy 14 = .ok (.ireturn, 1) := by decide +kernel
theorem dX12_hear_0 : decode cX12_hear 0 = .ok (.aload_n 0, 1) := by decide +kernel
theorem dX12_hear_1 : decode cX12_hear 1 = .ok (.iconst 0, 1) := by decide +kernel
theorem dX12_hear_2 : decode cX12_hear 2 = .ok (.putfield 114, 3) := by decide +kernel
theorem dX12_hear_5 : decode cX12_hear 5 = .ok (.aload_n 0, 1) := by decide +kernel
theorem dX12_hear_6 : decode cX12_hear 6 = .ok (.iload_n 1, 1) := by decide +kernel
theorem dX12_hear_7 : decode cX12_hear 7 = .ok (.invokevirtual 351, 3) := by decide +kernel
theorem dX12_hear_10 : decode cX12_hear 10 = .ok (.ifCond .ne 5, 3) := by decide +kernel
theorem dX12_hear_13 : decode cX12_hear 13 = .ok (.iconst 0, 1) := by decide +kernel
theorem dX12_hear_14 : decode cX12_hear 14 = .ok (.ireturn, 1) := by decide +kernel
theorem dX12_hear_15 : decode cX12_hear 15 = .ok (.aload_n 0, 1) := by decide +kernel
theorem dX12_hear_16 : decode cX12_hear 16 = .ok (.getfield 279, 3) := by decide +kernel
theorem dX12_hear_19 : decode cX12_hear 19 = .ok (.bipush 8, 2) := by decide +kernel
theorem dX12_hear_21 : decode cX12_hear 21 = .ok (.if_icmp .eq 13, 3) := by decide +kernel
theorem dX12_hear_24 : decode cX12_hear 24 = .ok (.iload_n 2, 1) := by decide +kernel
theorem dX12_hear_25 : decode cX12_hear 25 = .ok (.iconst 1, 1) := by decide +kernel
theorem dX12_hear_26 : decode cX12_hear 26 = .ok (.bipush 40, 2) := by decide +kernel
theorem dX12_hear_28 : decode cX12_hear 28 = .ok (.invokestatic 332, 3) := by decide +kernel
theorem dX12_hear_31 : decode cX12_hear 31 = .ok (.ifCond .ne 9, 3) := by decide +kernel
theorem dX12_hear_34 : decode cX12_hear 34 = .ok (.aload_n 0, 1) := by decide +kernel
theorem dX12_hear_35 : decode cX12_hear 35 = .ok (.iconst 2, 1) := by decide +kernel
theorem dX12_hear_36 : decode cX12_hear 36 = .ok (.invokevirtual 363, 3) := by decide +kernel
theorem dX12_hear_39 : decode cX12_hear 39 = .ok (.ireturn, 1) := by decide +kernel
theorem dX12_hear_40 : decode cX12_hear 40 = .ok (.aload_n 0, 1) := by decide +kernel
theorem dX12_hear_41 : decode cX12_hear 41 = .ok (.getfield 96, 3) := by decide +kernel
theorem dX12_hear_44 : decode cX12_hear 44 = .ok (.iconst 3, 1) := by decide +kernel
theorem dX12_hear_45 : decode cX12_hear 45 = .ok (.aload_n 0, 1) := by decide +kernel
theorem dX12_hear_46 : decode cX12_hear 46 = .ok (.getfield 279, 3) := by decide +kernel
theorem dX12_hear_49 : decode cX12_hear 49 = .ok (.imul, 1) := by decide +kernel
theorem dX12_hear_50 : decode cX12_hear 50 = .ok (.iload_n 1, 1) := by decide +kernel
theorem dX12_hear_51 : decode cX12_hear 51 = .ok (.iastore, 1) := by decide +kernel
theorem dX12_hear_52 : decode cX12_hear 52 = .ok (.aload_n 0, 1) := by decide +kernel
theorem dX12_hear_53 : decode cX12_hear 53 = .ok (.getfield 96, 3) := by decide +kernel
theorem dX12_hear_56 : decode cX12_hear 56 = .ok (.iconst 3, 1) := by decide +kernel
theorem dX12_hear_57 : decode cX12_hear 57 = .ok (.aload_n 0, 1) := by decide +kernel
theorem dX12_hear_58 : decode cX12_hear 58 = .ok (.getfield 279, 3) := by decide +kernel
theorem dX12_hear_61 : decode cX12_hear 61 = .ok (.imul, 1) := by decide +kernel
theorem dX12_hear_62 : decode cX12_hear 62 = .ok (.iconst 1, 1) := by decide +kernel
theorem dX12_hear_63 : decode cX12_hear 63 = .ok (.iadd, 1) := by decide +kernel
theorem dX12_hear_64 : decode cX12_hear 64 = .ok (.iload_n 2, 1) := by decide +kernel
theorem dX12_hear_65 : decode cX12_hear 65 = .ok (.iastore, 1) := by decide +kernel
theorem dX12_hear_66 : decode cX12_hear 66 = .ok (.aload_n 0, 1) := by decide +kernel
theorem dX12_hear_67 : decode cX12_hear 67 = .ok (.getfield 96, 3) := by decide +kernel
theorem dX12_hear_70 : decode cX12_hear 70 = .ok (.iconst 3, 1) := by decide +kernel
theorem dX12_hear_71 : decode cX12_hear 71 = .ok (.aload_n 0, 1) := by decide +kernel
theorem dX12_hear_72 : decode cX12_hear 72 = .ok (.getfield 279, 3) := by decide +kernel
theorem dX12_hear_75 : decode cX12_hear 75 = .ok (.imul, 1) := by decide +kernel
theorem dX12_hear_76 : decode cX12_hear 76 = .ok (.iconst 2, 1) := by decide +kernel
theorem dX12_hear_77 : decode cX12_hear 77 = .ok (.iadd, 1) := by decide +kernel
theorem dX12_hear_78 : decode cX12_hear 78 = .ok (.iload_n 3, 1) := by decide +kernel
theorem dX12_hear_79 : decode cX12_hear 79 = .ok (.ifCond .eq 7, 3) := by decide +kernel
theorem dX12_hear_82 : decode cX12_hear 82 = .ok (.iconst 1, 1) := by decide +kernel
theorem dX12_hear_83 : decode cX12_hear 83 = .ok (.goto 4, 3) := by decide +kernel
theorem dX12_hear_86 : decode cX12_hear 86 = .ok (.iconst 0, 1) := by decide +kernel
theorem dX12_hear_87 : decode cX12_hear 87 = .ok (.iastore, 1) := by decide +kernel
theorem dX12_hear_88 : decode cX12_hear 88 = .ok (.aload_n 0, 1) := by decide +kernel
theorem dX12_hear_89 : decode cX12_hear 89 = .ok (.dup, 1) := by decide +kernel
theorem dX12_hear_90 : decode cX12_hear 90 = .ok (.getfield 279, 3) := by decide +kernel
theorem dX12_hear_93 : decode cX12_hear 93 = .ok (.iconst 1, 1) := by decide +kernel
theorem dX12_hear_94 : decode cX12_hear 94 = .ok (.iadd, 1) := by decide +kernel
theorem dX12_hear_95 : decode cX12_hear 95 = .ok (.putfield 279, 3) := by decide +kernel
theorem dX12_hear_98 : decode cX12_hear 98 = .ok (.aload_n 0, 1) := by decide +kernel
theorem dX12_hear_99 : decode cX12_hear 99 = .ok (.getfield 279, 3) := by decide +kernel
theorem dX12_hear_102 : decode cX12_hear 102 = .ok (.ireturn, 1) := by decide +kernel
theorem dX12_forget_0 : decode cX12_forget 0 = .ok (.aload_n 0, 1) := by decide +kernel
theorem dX12_forget_1 : decode cX12_forget 1 = .ok (.iconst 0, 1) := by decide +kernel
theorem dX12_forget_2 : decode cX12_forget 2 = .ok (.putfield 114, 3) := by decide +kernel
theorem dX12_forget_5 : decode cX12_forget 5 = .ok (.aload_n 0, 1) := by decide +kernel
theorem dX12_forget_6 : decode cX12_forget 6 = .ok (.iconst 0, 1) := by decide +kernel
theorem dX12_forget_7 : decode cX12_forget 7 = .ok (.putfield 279, 3) := by decide +kernel
theorem dX12_forget_10 : decode cX12_forget 10 = .ok (.return_, 1) := by decide +kernel
theorem dX12_isHeard_0 : decode cX12_isHeard 0 = .ok (.iconst 1, 1) := by decide +kernel
theorem dX12_isHeard_1 : decode cX12_isHeard 1 = .ok (.istore_n 1, 1) := by decide +kernel
theorem dX12_isHeard_2 : decode cX12_isHeard 2 = .ok (.iload_n 1, 1) := by decide +kernel
theorem dX12_isHeard_3 : decode cX12_isHeard 3 = .ok (.bipush 40, 2) := by decide +kernel
theorem dX12_isHeard_5 : decode cX12_isHeard 5 = .ok (.if_icmp .gt 87, 3) := by decide +kernel
theorem dX12_isHeard_8 : decode cX12_isHeard 8 = .ok (.aload_n 0, 1) := by decide +kernel
theorem dX12_isHeard_9 : decode cX12_isHeard 9 = .ok (.bipush 64, 2) := by decide +kernel
theorem dX12_isHeard_11 : decode cX12_isHeard 11 = .ok (.invokevirtual 323, 3) := by decide +kernel
theorem dX12_isHeard_14 : decode cX12_isHeard 14 = .ok (.aload_n 0, 1) := by decide +kernel
theorem dX12_isHeard_15 : decode cX12_isHeard 15 = .ok (.getfield 99, 3) := by decide +kernel
theorem dX12_isHeard_18 : decode cX12_isHeard 18 = .ok (.iload_n 1, 1) := by decide +kernel
theorem dX12_isHeard_19 : decode cX12_isHeard 19 = .ok (.iconst 1, 1) := by decide +kernel
theorem dX12_isHeard_20 : decode cX12_isHeard 20 = .ok (.isub, 1) := by decide +kernel
theorem dX12_isHeard_21 : decode cX12_isHeard 21 = .ok (.aload_n 0, 1) := by decide +kernel
theorem dX12_isHeard_22 : decode cX12_isHeard 22 = .ok (.getfield 300, 3) := by decide +kernel
theorem dX12_isHeard_25 : decode cX12_isHeard 25 = .ok (.iastore, 1) := by decide +kernel
theorem dX12_isHeard_26 : decode cX12_isHeard 26 = .ok (.iconst 0, 1) := by decide +kernel
theorem dX12_isHeard_27 : decode cX12_isHeard 27 = .ok (.istore_n 2, 1) := by decide +kernel
theorem dX12_isHeard_28 : decode cX12_isHeard 28 = .ok (.iload_n 2, 1) := by decide +kernel
theorem dX12_isHeard_29 : decode cX12_isHeard 29 = .ok (.aload_n 0, 1) := by decide +kernel
theorem dX12_isHeard_30 : decode cX12_isHeard 30 = .ok (.getfield 279, 3) := by decide +kernel
theorem dX12_isHeard_33 : decode cX12_isHeard 33 = .ok (.if_icmp .ge 53, 3) := by decide +kernel
theorem dX12_isHeard_36 : decode cX12_isHeard 36 = .ok (.aload_n 0, 1) := by decide +kernel
theorem dX12_isHeard_37 : decode cX12_isHeard 37 = .ok (.getfield 96, 3) := by decide +kernel
theorem dX12_isHeard_40 : decode cX12_isHeard 40 = .ok (.iconst 3, 1) := by decide +kernel
theorem dX12_isHeard_41 : decode cX12_isHeard 41 = .ok (.iload_n 2, 1) := by decide +kernel
theorem dX12_isHeard_42 : decode cX12_isHeard 42 = .ok (.imul, 1) := by decide +kernel
theorem dX12_isHeard_43 : decode cX12_isHeard 43 = .ok (.iconst 1, 1) := by decide +kernel
theorem dX12_isHeard_44 : decode cX12_isHeard 44 = .ok (.iadd, 1) := by decide +kernel
theorem dX12_isHeard_45 : decode cX12_isHeard 45 = .ok (.iaload, 1) := by decide +kernel
theorem dX12_isHeard_46 : decode cX12_isHeard 46 = .ok (.iload_n 1, 1) := by decide +kernel
theorem dX12_isHeard_47 : decode cX12_isHeard 47 = .ok (.if_icmp .ne 33, 3) := by decide +kernel
theorem dX12_isHeard_50 : decode cX12_isHeard 50 = .ok (.aload_n 0, 1) := by decide +kernel
theorem dX12_isHeard_51 : decode cX12_isHeard 51 = .ok (.getfield 300, 3) := by decide +kernel
theorem dX12_isHeard_54 : decode cX12_isHeard 54 = .ok (.aload_n 0, 1) := by decide +kernel
theorem dX12_isHeard_55 : decode cX12_isHeard 55 = .ok (.getfield 96, 3) := by decide +kernel
theorem dX12_isHeard_58 : decode cX12_isHeard 58 = .ok (.iconst 3, 1) := by decide +kernel
theorem dX12_isHeard_59 : decode cX12_isHeard 59 = .ok (.iload_n 2, 1) := by decide +kernel
theorem dX12_isHeard_60 : decode cX12_isHeard 60 = .ok (.imul, 1) := by decide +kernel
theorem dX12_isHeard_61 : decode cX12_isHeard 61 = .ok (.iaload, 1) := by decide +kernel
theorem dX12_isHeard_62 : decode cX12_isHeard 62 = .ok (.ishr, 1) := by decide +kernel
theorem dX12_isHeard_63 : decode cX12_isHeard 63 = .ok (.iconst 1, 1) := by decide +kernel
theorem dX12_isHeard_64 : decode cX12_isHeard 64 = .ok (.iand, 1) := by decide +kernel
theorem dX12_isHeard_65 : decode cX12_isHeard 65 = .ok (.aload_n 0, 1) := by decide +kernel
theorem dX12_isHeard_66 : decode cX12_isHeard 66 = .ok (.getfield 96, 3) := by decide +kernel
theorem dX12_isHeard_69 : decode cX12_isHeard 69 = .ok (.iconst 3, 1) := by decide +kernel
theorem dX12_isHeard_70 : decode cX12_isHeard 70 = .ok (.iload_n 2, 1) := by decide +kernel
theorem dX12_isHeard_71 : decode cX12_isHeard 71 = .ok (.imul, 1) := by decide +kernel
theorem dX12_isHeard_72 : decode cX12_isHeard 72 = .ok (.iconst 2, 1) := by decide +kernel
theorem dX12_isHeard_73 : decode cX12_isHeard 73 = .ok (.iadd, 1) := by decide +kernel
theorem dX12_isHeard_74 : decode cX12_isHeard 74 = .ok (.iaload, 1) := by decide +kernel
theorem dX12_isHeard_75 : decode cX12_isHeard 75 = .ok (.if_icmp .eq 5, 3) := by decide +kernel
theorem dX12_isHeard_78 : decode cX12_isHeard 78 = .ok (.iconst 0, 1) := by decide +kernel
theorem dX12_isHeard_79 : decode cX12_isHeard 79 = .ok (.ireturn, 1) := by decide +kernel
theorem dX12_isHeard_80 : decode cX12_isHeard 80 = .ok (.iinc 2 1, 3) := by decide +kernel
theorem dX12_isHeard_83 : decode cX12_isHeard 83 = .ok (.goto (-55), 3) := by decide +kernel
theorem dX12_isHeard_86 : decode cX12_isHeard 86 = .ok (.iinc 1 1, 3) := by decide +kernel
theorem dX12_isHeard_89 : decode cX12_isHeard 89 = .ok (.goto (-87), 3) := by decide +kernel
theorem dX12_isHeard_92 : decode cX12_isHeard 92 = .ok (.iconst 1, 1) := by decide +kernel
theorem dX12_isHeard_93 : decode cX12_isHeard 93 = .ok (.ireturn, 1) := by decide +kernel
theorem dX12_isGuess_0 : decode cX12_isGuess 0 = .ok (.iload_n 1, 1) := by decide +kernel
theorem dX12_isGuess_1 : decode cX12_isGuess 1 = .ok (.bipush 10, 2) := by decide +kernel
theorem dX12_isGuess_3 : decode cX12_isGuess 3 = .ok (.idiv, 1) := by decide +kernel
theorem dX12_isGuess_4 : decode cX12_isGuess 4 = .ok (.istore_n 2, 1) := by decide +kernel
theorem dX12_isGuess_5 : decode cX12_isGuess 5 = .ok (.iload_n 1, 1) := by decide +kernel
theorem dX12_isGuess_6 : decode cX12_isGuess 6 = .ok (.bipush 10, 2) := by decide +kernel
theorem dX12_isGuess_8 : decode cX12_isGuess 8 = .ok (.irem, 1) := by decide +kernel
theorem dX12_isGuess_9 : decode cX12_isGuess 9 = .ok (.bipush 9, 2) := by decide +kernel
theorem dX12_isGuess_11 : decode cX12_isGuess 11 = .ok (.if_icmp .ne 7, 3) := by decide +kernel
theorem dX12_isGuess_14 : decode cX12_isGuess 14 = .ok (.iconst (-1), 1) := by decide +kernel
theorem dX12_isGuess_15 : decode cX12_isGuess 15 = .ok (.goto 7, 3) := by decide +kernel
theorem dX12_isGuess_18 : decode cX12_isGuess 18 = .ok (.iload_n 1, 1) := by decide +kernel
theorem dX12_isGuess_19 : decode cX12_isGuess 19 = .ok (.bipush 10, 2) := by decide +kernel
theorem dX12_isGuess_21 : decode cX12_isGuess 21 = .ok (.irem, 1) := by decide +kernel
theorem dX12_isGuess_22 : decode cX12_isGuess 22 = .ok (.istore_n 3, 1) := by decide +kernel
theorem dX12_isGuess_23 : decode cX12_isGuess 23 = .ok (.iload_n 3, 1) := by decide +kernel
theorem dX12_isGuess_24 : decode cX12_isGuess 24 = .ok (.iconst (-1), 1) := by decide +kernel
theorem dX12_isGuess_25 : decode cX12_isGuess 25 = .ok (.if_icmp .eq 16, 3) := by decide +kernel
theorem dX12_isGuess_28 : decode cX12_isGuess 28 = .ok (.iload_n 3, 1) := by decide +kernel
theorem dX12_isGuess_29 : decode cX12_isGuess 29 = .ok (.iload_n 2, 1) := by decide +kernel
theorem dX12_isGuess_30 : decode cX12_isGuess 30 = .ok (.if_icmp .le 37, 3) := by decide +kernel
theorem dX12_isGuess_33 : decode cX12_isGuess 33 = .ok (.iload_n 3, 1) := by decide +kernel
theorem dX12_isGuess_34 : decode cX12_isGuess 34 = .ok (.aload_n 0, 1) := by decide +kernel
theorem dX12_isGuess_35 : decode cX12_isGuess 35 = .ok (.getfield 269, 3) := by decide +kernel
theorem dX12_isGuess_38 : decode cX12_isGuess 38 = .ok (.if_icmp .ge 29, 3) := by decide +kernel
theorem dX12_isGuess_41 : decode cX12_isGuess 41 = .ok (.aload_n 0, 1) := by decide +kernel
theorem dX12_isGuess_42 : decode cX12_isGuess 42 = .ok (.getfield 51, 3) := by decide +kernel
theorem dX12_isGuess_45 : decode cX12_isGuess 45 = .ok (.bipush 28, 2) := by decide +kernel
theorem dX12_isGuess_47 : decode cX12_isGuess 47 = .ok (.iload_n 2, 1) := by decide +kernel
theorem dX12_isGuess_48 : decode cX12_isGuess 48 = .ok (.iadd, 1) := by decide +kernel
theorem dX12_isGuess_49 : decode cX12_isGuess 49 = .ok (.iaload, 1) := by decide +kernel
theorem dX12_isGuess_50 : decode cX12_isGuess 50 = .ok (.iconst (-1), 1) := by decide +kernel
theorem dX12_isGuess_51 : decode cX12_isGuess 51 = .ok (.if_icmp .ne 18, 3) := by decide +kernel
theorem dX12_isGuess_54 : decode cX12_isGuess 54 = .ok (.aload_n 0, 1) := by decide +kernel
theorem dX12_isGuess_55 : decode cX12_isGuess 55 = .ok (.getfield 51, 3) := by decide +kernel
theorem dX12_isGuess_58 : decode cX12_isGuess 58 = .ok (.bipush 19, 2) := by decide +kernel
theorem dX12_isGuess_60 : decode cX12_isGuess 60 = .ok (.iload_n 2, 1) := by decide +kernel
theorem dX12_isGuess_61 : decode cX12_isGuess 61 = .ok (.iadd, 1) := by decide +kernel
theorem dX12_isGuess_62 : decode cX12_isGuess 62 = .ok (.iaload, 1) := by decide +kernel
theorem dX12_isGuess_63 : decode cX12_isGuess 63 = .ok (.iload_n 3, 1) := by decide +kernel
theorem dX12_isGuess_64 : decode cX12_isGuess 64 = .ok (.if_icmp .ne 5, 3) := by decide +kernel
theorem dX12_isGuess_67 : decode cX12_isGuess 67 = .ok (.iconst 0, 1) := by decide +kernel
theorem dX12_isGuess_68 : decode cX12_isGuess 68 = .ok (.ireturn, 1) := by decide +kernel
theorem dX12_isGuess_69 : decode cX12_isGuess 69 = .ok (.aload_n 0, 1) := by decide +kernel
theorem dX12_isGuess_70 : decode cX12_isGuess 70 = .ok (.invokevirtual 381, 3) := by decide +kernel
theorem dX12_isGuess_73 : decode cX12_isGuess 73 = .ok (.aload_n 0, 1) := by decide +kernel
theorem dX12_isGuess_74 : decode cX12_isGuess 74 = .ok (.bipush 64, 2) := by decide +kernel
theorem dX12_isGuess_76 : decode cX12_isGuess 76 = .ok (.iload_n 2, 1) := by decide +kernel
theorem dX12_isGuess_77 : decode cX12_isGuess 77 = .ok (.iload_n 3, 1) := by decide +kernel
theorem dX12_isGuess_78 : decode cX12_isGuess 78 = .ok (.invokevirtual 369, 3) := by decide +kernel
theorem dX12_isGuess_81 : decode cX12_isGuess 81 = .ok (.aload_n 0, 1) := by decide +kernel
theorem dX12_isGuess_82 : decode cX12_isGuess 82 = .ok (.invokevirtual 408, 3) := by decide +kernel
theorem dX12_isGuess_85 : decode cX12_isGuess 85 = .ok (.ireturn, 1) := by decide +kernel
theorem dX12_led_0 : decode cX12_led 0 = .ok (.aload_n 0, 1) := by decide +kernel
theorem dX12_led_1 : decode cX12_led 1 = .ok (.iconst 0, 1) := by decide +kernel
theorem dX12_led_2 : decode cX12_led 2 = .ok (.putfield 114, 3) := by decide +kernel
theorem dX12_led_5 : decode cX12_led 5 = .ok (.aload_n 0, 1) := by decide +kernel
theorem dX12_led_6 : decode cX12_led 6 = .ok (.iload_n 1, 1) := by decide +kernel
theorem dX12_led_7 : decode cX12_led 7 = .ok (.iconst 2, 1) := by decide +kernel
theorem dX12_led_8 : decode cX12_led 8 = .ok (.invokevirtual 354, 3) := by decide +kernel
theorem dX12_led_11 : decode cX12_led 11 = .ok (.ifCond .ne 5, 3) := by decide +kernel
theorem dX12_led_14 : decode cX12_led 14 = .ok (.iconst 0, 1) := by decide +kernel
theorem dX12_led_15 : decode cX12_led 15 = .ok (.ireturn, 1) := by decide +kernel
theorem dX12_led_16 : decode cX12_led 16 = .ok (.iload_n 1, 1) := by decide +kernel
theorem dX12_led_17 : decode cX12_led 17 = .ok (.iconst 2, 1) := by decide +kernel
theorem dX12_led_18 : decode cX12_led 18 = .ok (.if_icmp .ne 20, 3) := by decide +kernel
theorem dX12_led_21 : decode cX12_led 21 = .ok (.aload_n 0, 1) := by decide +kernel
theorem dX12_led_22 : decode cX12_led 22 = .ok (.invokevirtual 381, 3) := by decide +kernel
theorem dX12_led_25 : decode cX12_led 25 = .ok (.aload_n 0, 1) := by decide +kernel
theorem dX12_led_26 : decode cX12_led 26 = .ok (.invokevirtual 408, 3) := by decide +kernel
theorem dX12_led_29 : decode cX12_led 29 = .ok (.ifCond .eq 7, 3) := by decide +kernel
theorem dX12_led_32 : decode cX12_led 32 = .ok (.iconst 1, 1) := by decide +kernel
theorem dX12_led_33 : decode cX12_led 33 = .ok (.goto 4, 3) := by decide +kernel
theorem dX12_led_36 : decode cX12_led 36 = .ok (.iconst 0, 1) := by decide +kernel
theorem dX12_led_37 : decode cX12_led 37 = .ok (.ireturn, 1) := by decide +kernel
theorem dX12_led_38 : decode cX12_led 38 = .ok (.iconst 0, 1) := by decide +kernel
theorem dX12_led_39 : decode cX12_led 39 = .ok (.istore_n 2, 1) := by decide +kernel
theorem dX12_led_40 : decode cX12_led 40 = .ok (.iconst (-1), 1) := by decide +kernel
theorem dX12_led_41 : decode cX12_led 41 = .ok (.istore_n 3, 1) := by decide +kernel
theorem dX12_led_42 : decode cX12_led 42 = .ok (.iconst 0, 1) := by decide +kernel
theorem dX12_led_43 : decode cX12_led 43 = .ok (.istore 4, 2) := by decide +kernel
theorem dX12_led_45 : decode cX12_led 45 = .ok (.iload 4, 2) := by decide +kernel
theorem dX12_led_47 : decode cX12_led 47 = .ok (.bipush 10, 2) := by decide +kernel
theorem dX12_led_49 : decode cX12_led 49 = .ok (.aload_n 0, 1) := by decide +kernel
theorem dX12_led_50 : decode cX12_led 50 = .ok (.getfield 269, 3) := by decide +kernel
theorem dX12_led_53 : decode cX12_led 53 = .ok (.imul, 1) := by decide +kernel
theorem dX12_led_54 : decode cX12_led 54 = .ok (.if_icmp .ge 32, 3) := by decide +kernel
theorem dX12_led_57 : decode cX12_led 57 = .ok (.aload_n 0, 1) := by decide +kernel
theorem dX12_led_58 : decode cX12_led 58 = .ok (.iload 4, 2) := by decide +kernel
theorem dX12_led_60 : decode cX12_led 60 = .ok (.invokevirtual 411, 3) := by decide +kernel
theorem dX12_led_63 : decode cX12_led 63 = .ok (.ifCond .ne 6, 3) := by decide +kernel
theorem dX12_led_66 : decode cX12_led 66 = .ok (.goto 14, 3) := by decide +kernel
theorem dX12_led_69 : decode cX12_led 69 = .ok (.iinc 2 1, 3) := by decide +kernel
theorem dX12_led_72 : decode cX12_led 72 = .ok (.iload_n 3, 1) := by decide +kernel
theorem dX12_led_73 : decode cX12_led 73 = .ok (.iconst (-1), 1) := by decide +kernel
theorem dX12_led_74 : decode cX12_led 74 = .ok (.if_icmp .ne 6, 3) := by decide +kernel
theorem dX12_led_77 : decode cX12_led 77 = .ok (.iload 4, 2) := by decide +kernel
theorem dX12_led_79 : decode cX12_led 79 = .ok (.istore_n 3, 1) := by decide +kernel
theorem dX12_led_80 : decode cX12_led 80 = .ok (.iinc 4 1, 3) := by decide +kernel
theorem dX12_led_83 : decode cX12_led 83 = .ok (.goto (-38), 3) := by decide +kernel
theorem dX12_led_86 : decode cX12_led 86 = .ok (.iload_n 1, 1) := by decide +kernel
theorem dX12_led_87 : decode cX12_led 87 = .ok (.ifCond .ne 7, 3) := by decide +kernel
theorem dX12_led_90 : decode cX12_led 90 = .ok (.iload_n 2, 1) := by decide +kernel
theorem dX12_led_91 : decode cX12_led 91 = .ok (.goto 4, 3) := by decide +kernel
theorem dX12_led_94 : decode cX12_led 94 = .ok (.iload_n 3, 1) := by decide +kernel
theorem dX12_led_95 : decode cX12_led 95 = .ok (.ireturn, 1) := by decide +kernel
theorem dX12_listen_0 : decode cX12_listen 0 = .ok (.aload_n 0, 1) := by decide +kernel
theorem dX12_listen_1 : decode cX12_listen 1 = .ok (.iconst 0, 1) := by decide +kernel
theorem dX12_listen_2 : decode cX12_listen 2 = .ok (.putfield 114, 3) := by decide +kernel
theorem dX12_listen_5 : decode cX12_listen 5 = .ok (.aload_n 0, 1) := by decide +kernel
theorem dX12_listen_6 : decode cX12_listen 6 = .ok (.iload_n 1, 1) := by decide +kernel
theorem dX12_listen_7 : decode cX12_listen 7 = .ok (.iconst 1, 1) := by decide +kernel
theorem dX12_listen_8 : decode cX12_listen 8 = .ok (.invokevirtual 354, 3) := by decide +kernel
theorem dX12_listen_11 : decode cX12_listen 11 = .ok (.ifCond .ne 5, 3) := by decide +kernel
theorem dX12_listen_14 : decode cX12_listen 14 = .ok (.iconst 0, 1) := by decide +kernel
theorem dX12_listen_15 : decode cX12_listen 15 = .ok (.ireturn, 1) := by decide +kernel
theorem dX12_listen_16 : decode cX12_listen 16 = .ok (.iconst 0, 1) := by decide +kernel
theorem dX12_listen_17 : decode cX12_listen 17 = .ok (.istore_n 2, 1) := by decide +kernel
theorem dX12_listen_18 : decode cX12_listen 18 = .ok (.iload_n 2, 1) := by decide +kernel
theorem dX12_listen_19 : decode cX12_listen 19 = .ok (.sipush 20480, 3) := by decide +kernel
theorem dX12_listen_22 : decode cX12_listen 22 = .ok (.if_icmp .ge 16, 3) := by decide +kernel
theorem dX12_listen_25 : decode cX12_listen 25 = .ok (.aload_n 0, 1) := by decide +kernel
theorem dX12_listen_26 : decode cX12_listen 26 = .ok (.getfield 102, 3) := by decide +kernel
theorem dX12_listen_29 : decode cX12_listen 29 = .ok (.iload_n 2, 1) := by decide +kernel
theorem dX12_listen_30 : decode cX12_listen 30 = .ok (.iconst 0, 1) := by decide +kernel
theorem dX12_listen_31 : decode cX12_listen 31 = .ok (.iastore, 1) := by decide +kernel
theorem dX12_listen_32 : decode cX12_listen 32 = .ok (.iinc 2 1, 3) := by decide +kernel
theorem dX12_listen_35 : decode cX12_listen 35 = .ok (.goto (-17), 3) := by decide +kernel
theorem dX12_listen_38 : decode cX12_listen 38 = .ok (.iconst 0, 1) := by decide +kernel
theorem dX12_listen_39 : decode cX12_listen 39 = .ok (.istore_n 2, 1) := by decide +kernel
theorem dX12_listen_40 : decode cX12_listen 40 = .ok (.iload_n 2, 1) := by decide +kernel
theorem dX12_listen_41 : decode cX12_listen 41 = .ok (.bipush 10, 2) := by decide +kernel
theorem dX12_listen_43 : decode cX12_listen 43 = .ok (.aload_n 0, 1) := by decide +kernel
theorem dX12_listen_44 : decode cX12_listen 44 = .ok (.getfield 269, 3) := by decide +kernel
theorem dX12_listen_47 : decode cX12_listen 47 = .ok (.imul, 1) := by decide +kernel
theorem dX12_listen_48 : decode cX12_listen 48 = .ok (.if_icmp .ge 49, 3) := by decide +kernel
theorem dX12_listen_51 : decode cX12_listen 51 = .ok (.aload_n 0, 1) := by decide +kernel
theorem dX12_listen_52 : decode cX12_listen 52 = .ok (.iload_n 2, 1) := by decide +kernel
theorem dX12_listen_53 : decode cX12_listen 53 = .ok (.invokevirtual 411, 3) := by decide +kernel
theorem dX12_listen_56 : decode cX12_listen 56 = .ok (.ifCond .eq 35, 3) := by decide +kernel
theorem dX12_listen_59 : decode cX12_listen 59 = .ok (.iconst 0, 1) := by decide +kernel
theorem dX12_listen_60 : decode cX12_listen 60 = .ok (.istore_n 3, 1) := by decide +kernel
theorem dX12_listen_61 : decode cX12_listen 61 = .ok (.iload_n 3, 1) := by decide +kernel
theorem dX12_listen_62 : decode cX12_listen 62 = .ok (.bipush 40, 2) := by decide +kernel
theorem dX12_listen_64 : decode cX12_listen 64 = .ok (.if_icmp .ge 27, 3) := by decide +kernel
theorem dX12_listen_67 : decode cX12_listen 67 = .ok (.aload_n 0, 1) := by decide +kernel
theorem dX12_listen_68 : decode cX12_listen 68 = .ok (.getfield 102, 3) := by decide +kernel
theorem dX12_listen_71 : decode cX12_listen 71 = .ok (.sipush 512, 3) := by decide +kernel
theorem dX12_listen_74 : decode cX12_listen 74 = .ok (.iload_n 3, 1) := by decide +kernel
theorem dX12_listen_75 : decode cX12_listen 75 = .ok (.imul, 1) := by decide +kernel
theorem dX12_listen_76 : decode cX12_listen 76 = .ok (.aload_n 0, 1) := by decide +kernel
theorem dX12_listen_77 : decode cX12_listen 77 = .ok (.getfield 99, 3) := by decide +kernel
theorem dX12_listen_80 : decode cX12_listen 80 = .ok (.iload_n 3, 1) := by decide +kernel
theorem dX12_listen_81 : decode cX12_listen 81 = .ok (.iaload, 1) := by decide +kernel
theorem dX12_listen_82 : decode cX12_listen 82 = .ok (.iadd, 1) := by decide +kernel
theorem dX12_listen_83 : decode cX12_listen 83 = .ok (.iconst 1, 1) := by decide +kernel
theorem dX12_listen_84 : decode cX12_listen 84 = .ok (.iastore, 1) := by decide +kernel
theorem dX12_listen_85 : decode cX12_listen 85 = .ok (.iinc 3 1, 3) := by decide +kernel
theorem dX12_listen_88 : decode cX12_listen 88 = .ok (.goto (-27), 3) := by decide +kernel
theorem dX12_listen_91 : decode cX12_listen 91 = .ok (.iinc 2 1, 3) := by decide +kernel
theorem dX12_listen_94 : decode cX12_listen 94 = .ok (.goto (-54), 3) := by decide +kernel
theorem dX12_listen_97 : decode cX12_listen 97 = .ok (.iconst (-1), 1) := by decide +kernel
theorem dX12_listen_98 : decode cX12_listen 98 = .ok (.istore_n 2, 1) := by decide +kernel
theorem dX12_listen_99 : decode cX12_listen 99 = .ok (.iconst 0, 1) := by decide +kernel
theorem dX12_listen_100 : decode cX12_listen 100 = .ok (.istore_n 3, 1) := by decide +kernel
theorem dX12_listen_101 : decode cX12_listen 101 = .ok (.iconst 0, 1) := by decide +kernel
theorem dX12_listen_102 : decode cX12_listen 102 = .ok (.istore 4, 2) := by decide +kernel
theorem dX12_listen_104 : decode cX12_listen 104 = .ok (.iload 4, 2) := by decide +kernel
theorem dX12_listen_106 : decode cX12_listen 106 = .ok (.bipush 40, 2) := by decide +kernel
theorem dX12_listen_108 : decode cX12_listen 108 = .ok (.if_icmp .ge 65, 3) := by decide +kernel
theorem dX12_listen_111 : decode cX12_listen 111 = .ok (.iconst 0, 1) := by decide +kernel
theorem dX12_listen_112 : decode cX12_listen 112 = .ok (.istore 5, 2) := by decide +kernel
theorem dX12_listen_114 : decode cX12_listen 114 = .ok (.iconst 0, 1) := by decide +kernel
theorem dX12_listen_115 : decode cX12_listen 115 = .ok (.istore 6, 2) := by decide +kernel
theorem dX12_listen_117 : decode cX12_listen 117 = .ok (.iload 6, 2) := by decide +kernel
theorem dX12_listen_119 : decode cX12_listen 119 = .ok (.sipush 512, 3) := by decide +kernel
theorem dX12_listen_122 : decode cX12_listen 122 = .ok (.if_icmp .ge 28, 3) := by decide +kernel
theorem dX12_listen_125 : decode cX12_listen 125 = .ok (.iload 5, 2) := by decide +kernel
theorem dX12_listen_127 : decode cX12_listen 127 = .ok (.aload_n 0, 1) := by decide +kernel
theorem dX12_listen_128 : decode cX12_listen 128 = .ok (.getfield 102, 3) := by decide +kernel
theorem dX12_listen_131 : decode cX12_listen 131 = .ok (.sipush 512, 3) := by decide +kernel
theorem dX12_listen_134 : decode cX12_listen 134 = .ok (.iload 4, 2) := by decide +kernel
theorem dX12_listen_136 : decode cX12_listen 136 = .ok (.imul, 1) := by decide +kernel
theorem dX12_listen_137 : decode cX12_listen 137 = .ok (.iload 6, 2) := by decide +kernel
theorem dX12_listen_139 : decode cX12_listen 139 = .ok (.iadd, 1) := by decide +kernel
theorem dX12_listen_140 : decode cX12_listen 140 = .ok (.iaload, 1) := by decide +kernel
theorem dX12_listen_141 : decode cX12_listen 141 = .ok (.iadd, 1) := by decide +kernel
theorem dX12_listen_142 : decode cX12_listen 142 = .ok (.istore 5, 2) := by decide +kernel
theorem dX12_listen_144 : decode cX12_listen 144 = .ok (.iinc 6 1, 3) := by decide +kernel
theorem dX12_listen_147 : decode cX12_listen 147 = .ok (.goto (-30), 3) := by decide +kernel
theorem dX12_listen_150 : decode cX12_listen 150 = .ok (.iload 5, 2) := by decide +kernel
theorem dX12_listen_152 : decode cX12_listen 152 = .ok (.iload_n 3, 1) := by decide +kernel
theorem dX12_listen_153 : decode cX12_listen 153 = .ok (.if_icmp .gt 6, 3) := by decide +kernel
theorem dX12_listen_156 : decode cX12_listen 156 = .ok (.goto 11, 3) := by decide +kernel
theorem dX12_listen_159 : decode cX12_listen 159 = .ok (.iload 4, 2) := by decide +kernel
theorem dX12_listen_161 : decode cX12_listen 161 = .ok (.iconst 1, 1) := by decide +kernel
theorem dX12_listen_162 : decode cX12_listen 162 = .ok (.iadd, 1) := by decide +kernel
theorem dX12_listen_163 : decode cX12_listen 163 = .ok (.istore_n 2, 1) := by decide +kernel
theorem dX12_listen_164 : decode cX12_listen 164 = .ok (.iload 5, 2) := by decide +kernel
theorem dX12_listen_166 : decode cX12_listen 166 = .ok (.istore_n 3, 1) := by decide +kernel
theorem dX12_listen_167 : decode cX12_listen 167 = .ok (.iinc 4 1, 3) := by decide +kernel
theorem dX12_listen_170 : decode cX12_listen 170 = .ok (.goto (-66), 3) := by decide +kernel
theorem dX12_listen_173 : decode cX12_listen 173 = .ok (.iload_n 1, 1) := by decide +kernel
theorem dX12_listen_174 : decode cX12_listen 174 = .ok (.ifCond .ne 7, 3) := by decide +kernel
theorem dX12_listen_177 : decode cX12_listen 177 = .ok (.iload_n 2, 1) := by decide +kernel
theorem dX12_listen_178 : decode cX12_listen 178 = .ok (.goto 4, 3) := by decide +kernel
theorem dX12_listen_181 : decode cX12_listen 181 = .ok (.iload_n 3, 1) := by decide +kernel
theorem dX12_listen_182 : decode cX12_listen 182 = .ok (.ireturn, 1) := by decide +kernel
theorem dX12_cold_0 : decode cX12_cold 0 = .ok (.aload_n 0, 1) := by decide +kernel
theorem dX12_cold_1 : decode cX12_cold 1 = .ok (.iconst 0, 1) := by decide +kernel
theorem dX12_cold_2 : decode cX12_cold 2 = .ok (.putfield 114, 3) := by decide +kernel
theorem dX12_cold_5 : decode cX12_cold 5 = .ok (.aload_n 0, 1) := by decide +kernel
theorem dX12_cold_6 : decode cX12_cold 6 = .ok (.iload_n 1, 1) := by decide +kernel
theorem dX12_cold_7 : decode cX12_cold 7 = .ok (.invokevirtual 351, 3) := by decide +kernel
theorem dX12_cold_10 : decode cX12_cold 10 = .ok (.ifCond .eq 35, 3) := by decide +kernel
theorem dX12_cold_13 : decode cX12_cold 13 = .ok (.aload_n 0, 1) := by decide +kernel
theorem dX12_cold_14 : decode cX12_cold 14 = .ok (.iload_n 2, 1) := by decide +kernel
theorem dX12_cold_15 : decode cX12_cold 15 = .ok (.iconst 1, 1) := by decide +kernel
theorem dX12_cold_16 : decode cX12_cold 16 = .ok (.iconst 5, 1) := by decide +kernel
theorem dX12_cold_17 : decode cX12_cold 17 = .ok (.invokestatic 332, 3) := by decide +kernel
theorem dX12_cold_20 : decode cX12_cold 20 = .ok (.ifCond .eq 17, 3) := by decide +kernel
theorem dX12_cold_23 : decode cX12_cold 23 = .ok (.iload_n 3, 1) := by decide +kernel
theorem dX12_cold_24 : decode cX12_cold 24 = .ok (.iconst 0, 1) := by decide +kernel
theorem dX12_cold_25 : decode cX12_cold 25 = .ok (.bipush 10, 2) := by decide +kernel
theorem dX12_cold_27 : decode cX12_cold 27 = .ok (.invokestatic 332, 3) := by decide +kernel
theorem dX12_cold_30 : decode cX12_cold 30 = .ok (.ifCond .eq 7, 3) := by decide +kernel
theorem dX12_cold_33 : decode cX12_cold 33 = .ok (.iconst 1, 1) := by decide +kernel
theorem dX12_cold_34 : decode cX12_cold 34 = .ok (.goto 4, 3) := by decide +kernel
theorem dX12_cold_37 : decode cX12_cold 37 = .ok (.iconst 0, 1) := by decide +kernel
theorem dX12_cold_38 : decode cX12_cold 38 = .ok (.iconst 2, 1) := by decide +kernel
theorem dX12_cold_39 : decode cX12_cold 39 = .ok (.invokevirtual 262, 3) := by decide +kernel
theorem dX12_cold_42 : decode cX12_cold 42 = .ok (.ifCond .ne 5, 3) := by decide +kernel
theorem dX12_cold_45 : decode cX12_cold 45 = .ok (.iconst 0, 1) := by decide +kernel
theorem dX12_cold_46 : decode cX12_cold 46 = .ok (.ireturn, 1) := by decide +kernel
theorem dX12_cold_47 : decode cX12_cold 47 = .ok (.iconst 0, 1) := by decide +kernel
theorem dX12_cold_48 : decode cX12_cold 48 = .ok (.istore 4, 2) := by decide +kernel
theorem dX12_cold_50 : decode cX12_cold 50 = .ok (.iconst 0, 1) := by decide +kernel
theorem dX12_cold_51 : decode cX12_cold 51 = .ok (.istore 5, 2) := by decide +kernel
theorem dX12_cold_53 : decode cX12_cold 53 = .ok (.iload 5, 2) := by decide +kernel
theorem dX12_cold_55 : decode cX12_cold 55 = .ok (.iconst 1, 1) := by decide +kernel
theorem dX12_cold_56 : decode cX12_cold 56 = .ok (.iload_n 2, 1) := by decide +kernel
theorem dX12_cold_57 : decode cX12_cold 57 = .ok (.ishl, 1) := by decide +kernel
theorem dX12_cold_58 : decode cX12_cold 58 = .ok (.if_icmp .ge 102, 3) := by decide +kernel
theorem dX12_cold_61 : decode cX12_cold 61 = .ok (.iconst 1, 1) := by decide +kernel
theorem dX12_cold_62 : decode cX12_cold 62 = .ok (.istore 6, 2) := by decide +kernel
theorem dX12_cold_64 : decode cX12_cold 64 = .ok (.iconst 0, 1) := by decide +kernel
theorem dX12_cold_65 : decode cX12_cold 65 = .ok (.istore 7, 2) := by decide +kernel
theorem dX12_cold_67 : decode cX12_cold 67 = .ok (.aload_n 0, 1) := by decide +kernel
theorem dX12_cold_68 : decode cX12_cold 68 = .ok (.invokevirtual 381, 3) := by decide +kernel
theorem dX12_cold_71 : decode cX12_cold 71 = .ok (.iconst 0, 1) := by decide +kernel
theorem dX12_cold_72 : decode cX12_cold 72 = .ok (.istore 8, 2) := by decide +kernel
theorem dX12_cold_74 : decode cX12_cold 74 = .ok (.iload 8, 2) := by decide +kernel
theorem dX12_cold_76 : decode cX12_cold 76 = .ok (.iload_n 2, 1) := by decide +kernel
theorem dX12_cold_77 : decode cX12_cold 77 = .ok (.if_icmp .ge 56, 3) := by decide +kernel
theorem dX12_cold_80 : decode cX12_cold 80 = .ok (.aload_n 0, 1) := by decide +kernel
theorem dX12_cold_81 : decode cX12_cold 81 = .ok (.iload 5, 2) := by decide +kernel
theorem dX12_cold_83 : decode cX12_cold 83 = .ok (.iload 8, 2) := by decide +kernel
theorem dX12_cold_85 : decode cX12_cold 85 = .ok (.ishr, 1) := by decide +kernel
theorem dX12_cold_86 : decode cX12_cold 86 = .ok (.iconst 1, 1) := by decide +kernel
theorem dX12_cold_87 : decode cX12_cold 87 = .ok (.iand, 1) := by decide +kernel
theorem dX12_cold_88 : decode cX12_cold 88 = .ok (.putfield 69, 3) := by decide +kernel
theorem dX12_cold_91 : decode cX12_cold 91 = .ok (.iload 6, 2) := by decide +kernel
theorem dX12_cold_93 : decode cX12_cold 93 = .ok (.aload_n 0, 1) := by decide +kernel
theorem dX12_cold_94 : decode cX12_cold 94 = .ok (.getfield 69, 3) := by decide +kernel
theorem dX12_cold_97 : decode cX12_cold 97 = .ok (.iconst 1, 1) := by decide +kernel
theorem dX12_cold_98 : decode cX12_cold 98 = .ok (.if_icmp .ne 7, 3) := by decide +kernel
theorem dX12_cold_101 : decode cX12_cold 101 = .ok (.iload_n 3, 1) := by decide +kernel
theorem dX12_cold_102 : decode cX12_cold 102 = .ok (.goto 7, 3) := by decide +kernel
theorem dX12_cold_105 : decode cX12_cold 105 = .ok (.bipush 10, 2) := by decide +kernel
theorem dX12_cold_107 : decode cX12_cold 107 = .ok (.iload_n 3, 1) := by decide +kernel
theorem dX12_cold_108 : decode cX12_cold 108 = .ok (.isub, 1) := by decide +kernel
theorem dX12_cold_109 : decode cX12_cold 109 = .ok (.imul, 1) := by decide +kernel
theorem dX12_cold_110 : decode cX12_cold 110 = .ok (.istore 6, 2) := by decide +kernel
theorem dX12_cold_112 : decode cX12_cold 112 = .ok (.aload_n 0, 1) := by decide +kernel
theorem dX12_cold_113 : decode cX12_cold 113 = .ok (.bipush 64, 2) := by decide +kernel
theorem dX12_cold_115 : decode cX12_cold 115 = .ok (.invokevirtual 323, 3) := by decide +kernel
theorem dX12_cold_118 : decode cX12_cold 118 = .ok (.iload 7, 2) := by decide +kernel
theorem dX12_cold_120 : decode cX12_cold 120 = .ok (.aload_n 0, 1) := by decide +kernel
theorem dX12_cold_121 : decode cX12_cold 121 = .ok (.getfield 300, 3) := by decide +kernel
theorem dX12_cold_124 : decode cX12_cold 124 = .ok (.ior, 1) := by decide +kernel
theorem dX12_cold_125 : decode cX12_cold 125 = .ok (.istore 7, 2) := by decide +kernel
theorem dX12_cold_127 : decode cX12_cold 127 = .ok (.iinc 8 1, 3) := by decide +kernel
theorem dX12_cold_130 : decode cX12_cold 130 = .ok (.goto (-56), 3) := by decide +kernel
theorem dX12_cold_133 : decode cX12_cold 133 = .ok (.iload 4, 2) := by decide +kernel
theorem dX12_cold_135 : decode cX12_cold 135 = .ok (.iload 7, 2) := by decide +kernel
theorem dX12_cold_137 : decode cX12_cold 137 = .ok (.iload_n 1, 1) := by decide +kernel
theorem dX12_cold_138 : decode cX12_cold 138 = .ok (.ishr, 1) := by decide +kernel
theorem dX12_cold_139 : decode cX12_cold 139 = .ok (.iconst 1, 1) := by decide +kernel
theorem dX12_cold_140 : decode cX12_cold 140 = .ok (.iand, 1) := by decide +kernel
theorem dX12_cold_141 : decode cX12_cold 141 = .ok (.iconst 1, 1) := by decide +kernel
theorem dX12_cold_142 : decode cX12_cold 142 = .ok (.if_icmp .ne 8, 3) := by decide +kernel
theorem dX12_cold_145 : decode cX12_cold 145 = .ok (.iload 6, 2) := by decide +kernel
theorem dX12_cold_147 : decode cX12_cold 147 = .ok (.goto 4, 3) := by decide +kernel
theorem dX12_cold_150 : decode cX12_cold 150 = .ok (.iconst 0, 1) := by decide +kernel
theorem dX12_cold_151 : decode cX12_cold 151 = .ok (.iadd, 1) := by decide +kernel
theorem dX12_cold_152 : decode cX12_cold 152 = .ok (.istore 4, 2) := by decide +kernel
theorem dX12_cold_154 : decode cX12_cold 154 = .ok (.iinc 5 1, 3) := by decide +kernel
theorem dX12_cold_157 : decode cX12_cold 157 = .ok (.goto (-104), 3) := by decide +kernel
theorem dX12_cold_160 : decode cX12_cold 160 = .ok (.aload_n 0, 1) := by decide +kernel
theorem dX12_cold_161 : decode cX12_cold 161 = .ok (.iconst (-1), 1) := by decide +kernel
theorem dX12_cold_162 : decode cX12_cold 162 = .ok (.putfield 69, 3) := by decide +kernel
theorem dX12_cold_165 : decode cX12_cold 165 = .ok (.iload 4, 2) := by decide +kernel
theorem dX12_cold_167 : decode cX12_cold 167 = .ok (.ireturn, 1) := by decide +kernel
theorem dX12_gains_0 : decode cX12_gains 0 = .ok (.aload_n 0, 1) := by decide +kernel
theorem dX12_gains_1 : decode cX12_gains 1 = .ok (.invokevirtual 381, 3) := by decide +kernel
theorem dX12_gains_4 : decode cX12_gains 4 = .ok (.iload_n 3, 1) := by decide +kernel
theorem dX12_gains_5 : decode cX12_gains 5 = .ok (.iconst 1, 1) := by decide +kernel
theorem dX12_gains_6 : decode cX12_gains 6 = .ok (.if_icmp .ne 13, 3) := by decide +kernel
theorem dX12_gains_9 : decode cX12_gains 9 = .ok (.aload_n 0, 1) := by decide +kernel
theorem dX12_gains_10 : decode cX12_gains 10 = .ok (.getfield 51, 3) := by decide +kernel
theorem dX12_gains_13 : decode cX12_gains 13 = .ok (.bipush 119, 2) := by decide +kernel
theorem dX12_gains_15 : decode cX12_gains 15 = .ok (.iload_n 1, 1) := by decide +kernel
theorem dX12_gains_16 : decode cX12_gains 16 = .ok (.iadd, 1) := by decide +kernel
theorem dX12_gains_17 : decode cX12_gains 17 = .ok (.iconst 1, 1) := by decide +kernel
theorem dX12_gains_18 : decode cX12_gains 18 = .ok (.iastore, 1) := by decide +kernel
theorem dX12_gains_19 : decode cX12_gains 19 = .ok (.iload 4, 2) := by decide +kernel
theorem dX12_gains_21 : decode cX12_gains 21 = .ok (.iconst 1, 1) := by decide +kernel
theorem dX12_gains_22 : decode cX12_gains 22 = .ok (.if_icmp .ne 13, 3) := by decide +kernel
theorem dX12_gains_25 : decode cX12_gains 25 = .ok (.aload_n 0, 1) := by decide +kernel
theorem dX12_gains_26 : decode cX12_gains 26 = .ok (.getfield 51, 3) := by decide +kernel
theorem dX12_gains_29 : decode cX12_gains 29 = .ok (.bipush 119, 2) := by decide +kernel
theorem dX12_gains_31 : decode cX12_gains 31 = .ok (.iload_n 2, 1) := by decide +kernel
theorem dX12_gains_32 : decode cX12_gains 32 = .ok (.iadd, 1) := by decide +kernel
theorem dX12_gains_33 : decode cX12_gains 33 = .ok (.iconst 1, 1) := by decide +kernel
theorem dX12_gains_34 : decode cX12_gains 34 = .ok (.iastore, 1) := by decide +kernel
theorem dX12_gains_35 : decode cX12_gains 35 = .ok (.iconst 0, 1) := by decide +kernel
theorem dX12_gains_36 : decode cX12_gains 36 = .ok (.istore 5, 2) := by decide +kernel
theorem dX12_gains_38 : decode cX12_gains 38 = .ok (.iconst 0, 1) := by decide +kernel
theorem dX12_gains_39 : decode cX12_gains 39 = .ok (.istore 6, 2) := by decide +kernel
theorem dX12_gains_41 : decode cX12_gains 41 = .ok (.iload 6, 2) := by decide +kernel
theorem dX12_gains_43 : decode cX12_gains 43 = .ok (.bipush 12, 2) := by decide +kernel
theorem dX12_gains_45 : decode cX12_gains 45 = .ok (.if_icmp .ge 33, 3) := by decide +kernel
theorem dX12_gains_48 : decode cX12_gains 48 = .ok (.aload_n 0, 1) := by decide +kernel
theorem dX12_gains_49 : decode cX12_gains 49 = .ok (.bipush 64, 2) := by decide +kernel
theorem dX12_gains_51 : decode cX12_gains 51 = .ok (.invokevirtual 323, 3) := by decide +kernel
theorem dX12_gains_54 : decode cX12_gains 54 = .ok (.iload 5, 2) := by decide +kernel
theorem dX12_gains_56 : decode cX12_gains 56 = .ok (.aload_n 0, 1) := by decide +kernel
theorem dX12_gains_57 : decode cX12_gains 57 = .ok (.getfield 66, 3) := by decide +kernel
theorem dX12_gains_60 : decode cX12_gains 60 = .ok (.iload_n 1, 1) := by decide +kernel
theorem dX12_gains_61 : decode cX12_gains 61 = .ok (.iaload, 1) := by decide +kernel
theorem dX12_gains_62 : decode cX12_gains 62 = .ok (.aload_n 0, 1) := by decide +kernel
theorem dX12_gains_63 : decode cX12_gains 63 = .ok (.getfield 66, 3) := by decide +kernel
theorem dX12_gains_66 : decode cX12_gains 66 = .ok (.iload_n 2, 1) := by decide +kernel
theorem dX12_gains_67 : decode cX12_gains 67 = .ok (.iaload, 1) := by decide +kernel
theorem dX12_gains_68 : decode cX12_gains 68 = .ok (.isub, 1) := by decide +kernel
theorem dX12_gains_69 : decode cX12_gains 69 = .ok (.iadd, 1) := by decide +kernel
theorem dX12_gains_70 : decode cX12_gains 70 = .ok (.istore 5, 2) := by decide +kernel
theorem dX12_gains_72 : decode cX12_gains 72 = .ok (.iinc 6 1, 3) := by decide +kernel
theorem dX12_gains_75 : decode cX12_gains 75 = .ok (.goto (-34), 3) := by decide +kernel
theorem dX12_gains_78 : decode cX12_gains 78 = .ok (.iload 5, 2) := by decide +kernel
theorem dX12_gains_80 : decode cX12_gains 80 = .ok (.iconst 2, 1) := by decide +kernel
theorem dX12_gains_81 : decode cX12_gains 81 = .ok (.idiv, 1) := by decide +kernel
theorem dX12_gains_82 : decode cX12_gains 82 = .ok (.iload_n 3, 1) := by decide +kernel
theorem dX12_gains_83 : decode cX12_gains 83 = .ok (.isub, 1) := by decide +kernel
theorem dX12_gains_84 : decode cX12_gains 84 = .ok (.ireturn, 1) := by decide +kernel
theorem dX12_game_0 : decode cX12_game 0 = .ok (.aload_n 0, 1) := by decide +kernel
theorem dX12_game_1 : decode cX12_game 1 = .ok (.iconst 0, 1) := by decide +kernel
theorem dX12_game_2 : decode cX12_game 2 = .ok (.putfield 114, 3) := by decide +kernel
theorem dX12_game_5 : decode cX12_game 5 = .ok (.aload_n 0, 1) := by decide +kernel
theorem dX12_game_6 : decode cX12_game 6 = .ok (.iload_n 1, 1) := by decide +kernel
theorem dX12_game_7 : decode cX12_game 7 = .ok (.invokevirtual 351, 3) := by decide +kernel
theorem dX12_game_10 : decode cX12_game 10 = .ok (.ifCond .eq 38, 3) := by decide +kernel
theorem dX12_game_13 : decode cX12_game 13 = .ok (.aload_n 0, 1) := by decide +kernel
theorem dX12_game_14 : decode cX12_game 14 = .ok (.iload_n 2, 1) := by decide +kernel
theorem dX12_game_15 : decode cX12_game 15 = .ok (.invokevirtual 351, 3) := by decide +kernel
theorem dX12_game_18 : decode cX12_game 18 = .ok (.ifCond .eq 30, 3) := by decide +kernel
theorem dX12_game_21 : decode cX12_game 21 = .ok (.aload_n 0, 1) := by decide +kernel
theorem dX12_game_22 : decode cX12_game 22 = .ok (.iload_n 3, 1) := by decide +kernel
theorem dX12_game_23 : decode cX12_game 23 = .ok (.iconst 1, 1) := by decide +kernel
theorem dX12_game_24 : decode cX12_game 24 = .ok (.invokevirtual 354, 3) := by decide +kernel
theorem dX12_game_27 : decode cX12_game 27 = .ok (.ifCond .eq 21, 3) := by decide +kernel
theorem dX12_game_30 : decode cX12_game 30 = .ok (.aload_n 0, 1) := by decide +kernel
theorem dX12_game_31 : decode cX12_game 31 = .ok (.iload_n 1, 1) := by decide +kernel
theorem dX12_game_32 : decode cX12_game 32 = .ok (.iload_n 2, 1) := by decide +kernel
theorem dX12_game_33 : decode cX12_game 33 = .ok (.if_icmp .eq 7, 3) := by decide +kernel
theorem dX12_game_36 : decode cX12_game 36 = .ok (.iconst 1, 1) := by decide +kernel
theorem dX12_game_37 : decode cX12_game 37 = .ok (.goto 4, 3) := by decide +kernel
theorem dX12_game_40 : decode cX12_game 40 = .ok (.iconst 0, 1) := by decide +kernel
theorem dX12_game_41 : decode cX12_game 41 = .ok (.iconst 2, 1) := by decide +kernel
theorem dX12_game_42 : decode cX12_game 42 = .ok (.invokevirtual 262, 3) := by decide +kernel
theorem dX12_game_45 : decode cX12_game 45 = .ok (.ifCond .ne 5, 3) := by decide +kernel
theorem dX12_game_48 : decode cX12_game 48 = .ok (.iconst 0, 1) := by decide +kernel
theorem dX12_game_49 : decode cX12_game 49 = .ok (.ireturn, 1) := by decide +kernel
theorem dX12_game_50 : decode cX12_game 50 = .ok (.iconst 0, 1) := by decide +kernel
theorem dX12_game_51 : decode cX12_game 51 = .ok (.istore 4, 2) := by decide +kernel
theorem dX12_game_53 : decode cX12_game 53 = .ok (.iconst (-1), 1) := by decide +kernel
theorem dX12_game_54 : decode cX12_game 54 = .ok (.istore 5, 2) := by decide +kernel
theorem dX12_game_56 : decode cX12_game 56 = .ok (.iconst 0, 1) := by decide +kernel
theorem dX12_game_57 : decode cX12_game 57 = .ok (.istore 6, 2) := by decide +kernel
theorem dX12_game_59 : decode cX12_game 59 = .ok (.iload 6, 2) := by decide +kernel
theorem dX12_game_61 : decode cX12_game 61 = .ok (.iconst 4, 1) := by decide +kernel
theorem dX12_game_62 : decode cX12_game 62 = .ok (.if_icmp .ge 93, 3) := by decide +kernel
theorem dX12_game_65 : decode cX12_game 65 = .ok (.iload 6, 2) := by decide +kernel
theorem dX12_game_67 : decode cX12_game 67 = .ok (.iconst 2, 1) := by decide +kernel
theorem dX12_game_68 : decode cX12_game 68 = .ok (.idiv, 1) := by decide +kernel
theorem dX12_game_69 : decode cX12_game 69 = .ok (.istore 7, 2) := by decide +kernel
theorem dX12_game_71 : decode cX12_game 71 = .ok (.iload 6, 2) := by decide +kernel
theorem dX12_game_73 : decode cX12_game 73 = .ok (.iconst 2, 1) := by decide +kernel
theorem dX12_game_74 : decode cX12_game 74 = .ok (.irem, 1) := by decide +kernel
theorem dX12_game_75 : decode cX12_game 75 = .ok (.istore 8, 2) := by decide +kernel
theorem dX12_game_77 : decode cX12_game 77 = .ok (.aload_n 0, 1) := by decide +kernel
theorem dX12_game_78 : decode cX12_game 78 = .ok (.iload_n 1, 1) := by decide +kernel
theorem dX12_game_79 : decode cX12_game 79 = .ok (.iload_n 2, 1) := by decide +kernel
theorem dX12_game_80 : decode cX12_game 80 = .ok (.iconst 1, 1) := by decide +kernel
theorem dX12_game_81 : decode cX12_game 81 = .ok (.iload 7, 2) := by decide +kernel
theorem dX12_game_83 : decode cX12_game 83 = .ok (.isub, 1) := by decide +kernel
theorem dX12_game_84 : decode cX12_game 84 = .ok (.iload 8, 2) := by decide +kernel
theorem dX12_game_86 : decode cX12_game 86 = .ok (.invokevirtual 414, 3) := by decide +kernel
theorem dX12_game_89 : decode cX12_game 89 = .ok (.aload_n 0, 1) := by decide +kernel
theorem dX12_game_90 : decode cX12_game 90 = .ok (.iload_n 1, 1) := by decide +kernel
theorem dX12_game_91 : decode cX12_game 91 = .ok (.iload_n 2, 1) := by decide +kernel
theorem dX12_game_92 : decode cX12_game 92 = .ok (.iload 7, 2) := by decide +kernel
theorem dX12_game_94 : decode cX12_game 94 = .ok (.iload 8, 2) := by decide +kernel
theorem dX12_game_96 : decode cX12_game 96 = .ok (.invokevirtual 414, 3) := by decide +kernel
theorem dX12_game_99 : decode cX12_game 99 = .ok (.if_icmp .gt 50, 3) := by decide +kernel
theorem dX12_game_102 : decode cX12_game 102 = .ok (.aload_n 0, 1) := by decide +kernel
theorem dX12_game_103 : decode cX12_game 103 = .ok (.iload_n 2, 1) := by decide +kernel
theorem dX12_game_104 : decode cX12_game 104 = .ok (.iload_n 1, 1) := by decide +kernel
theorem dX12_game_105 : decode cX12_game 105 = .ok (.iconst 1, 1) := by decide +kernel
theorem dX12_game_106 : decode cX12_game 106 = .ok (.iload 8, 2) := by decide +kernel
theorem dX12_game_108 : decode cX12_game 108 = .ok (.isub, 1) := by decide +kernel
theorem dX12_game_109 : decode cX12_game 109 = .ok (.iload 7, 2) := by decide +kernel
theorem dX12_game_111 : decode cX12_game 111 = .ok (.invokevirtual 414, 3) := by decide +kernel
theorem dX12_game_114 : decode cX12_game 114 = .ok (.aload_n 0, 1) := by decide +kernel
theorem dX12_game_115 : decode cX12_game 115 = .ok (.iload_n 2, 1) := by decide +kernel
theorem dX12_game_116 : decode cX12_game 116 = .ok (.iload_n 1, 1) := by decide +kernel
theorem dX12_game_117 : decode cX12_game 117 = .ok (.iload 8, 2) := by decide +kernel
theorem dX12_game_119 : decode cX12_game 119 = .ok (.iload 7, 2) := by decide +kernel
theorem dX12_game_121 : decode cX12_game 121 = .ok (.invokevirtual 414, 3) := by decide +kernel
theorem dX12_game_124 : decode cX12_game 124 = .ok (.if_icmp .le 6, 3) := by decide +kernel
theorem dX12_game_127 : decode cX12_game 127 = .ok (.goto 22, 3) := by decide +kernel
theorem dX12_game_130 : decode cX12_game 130 = .ok (.iinc 4 1, 3) := by decide +kernel
theorem dX12_game_133 : decode cX12_game 133 = .ok (.iload 5, 2) := by decide +kernel
theorem dX12_game_135 : decode cX12_game 135 = .ok (.iconst (-1), 1) := by decide +kernel
theorem dX12_game_136 : decode cX12_game 136 = .ok (.if_icmp .ne 13, 3) := by decide +kernel
theorem dX12_game_139 : decode cX12_game 139 = .ok (.bipush 10, 2) := by decide +kernel
theorem dX12_game_141 : decode cX12_game 141 = .ok (.iload 7, 2) := by decide +kernel
theorem dX12_game_143 : decode cX12_game 143 = .ok (.imul, 1) := by decide +kernel
theorem dX12_game_144 : decode cX12_game 144 = .ok (.iload 8, 2) := by decide +kernel
theorem dX12_game_146 : decode cX12_game 146 = .ok (.iadd, 1) := by decide +kernel
theorem dX12_game_147 : decode cX12_game 147 = .ok (.istore 5, 2) := by decide +kernel
theorem dX12_game_149 : decode cX12_game 149 = .ok (.iinc 6 1, 3) := by decide +kernel
theorem dX12_game_152 : decode cX12_game 152 = .ok (.goto (-93), 3) := by decide +kernel
theorem dX12_game_155 : decode cX12_game 155 = .ok (.iload_n 3, 1) := by decide +kernel
theorem dX12_game_156 : decode cX12_game 156 = .ok (.ifCond .ne 8, 3) := by decide +kernel
theorem dX12_game_159 : decode cX12_game 159 = .ok (.iload 4, 2) := by decide +kernel
theorem dX12_game_161 : decode cX12_game 161 = .ok (.goto 5, 3) := by decide +kernel
theorem dX12_game_164 : decode cX12_game 164 = .ok (.iload 5, 2) := by decide +kernel
theorem dX12_game_166 : decode cX12_game 166 = .ok (.ireturn, 1) := by decide +kernel
theorem dX12_draw_0 : decode cX12_draw 0 = .ok (.aload_n 0, 1) := by decide +kernel
theorem dX12_draw_1 : decode cX12_draw 1 = .ok (.aload_n 0, 1) := by decide +kernel
theorem dX12_draw_2 : decode cX12_draw 2 = .ok (.getfield 418, 3) := by decide +kernel
theorem dX12_draw_5 : decode cX12_draw 5 = .ok (.ldc_w 421, 3) := by decide +kernel
theorem dX12_draw_8 : decode cX12_draw 8 = .ok (.imul, 1) := by decide +kernel
theorem dX12_draw_9 : decode cX12_draw 9 = .ok (.sipush 12345, 3) := by decide +kernel
theorem dX12_draw_12 : decode cX12_draw 12 = .ok (.iadd, 1) := by decide +kernel
theorem dX12_draw_13 : decode cX12_draw 13 = .ok (.putfield 418, 3) := by decide +kernel
theorem dX12_draw_16 : decode cX12_draw 16 = .ok (.aload_n 0, 1) := by decide +kernel
theorem dX12_draw_17 : decode cX12_draw 17 = .ok (.getfield 418, 3) := by decide +kernel
theorem dX12_draw_20 : decode cX12_draw 20 = .ok (.bipush 16, 2) := by decide +kernel
theorem dX12_draw_22 : decode cX12_draw 22 = .ok (.ishr, 1) := by decide +kernel
theorem dX12_draw_23 : decode cX12_draw 23 = .ok (.sipush 32767, 3) := by decide +kernel
theorem dX12_draw_26 : decode cX12_draw 26 = .ok (.iand, 1) := by decide +kernel
theorem dX12_draw_27 : decode cX12_draw 27 = .ok (.iload_n 1, 1) := by decide +kernel
theorem dX12_draw_28 : decode cX12_draw 28 = .ok (.irem, 1) := by decide +kernel
theorem dX12_draw_29 : decode cX12_draw 29 = .ok (.ireturn, 1) := by decide +kernel
theorem dX12_happens_0 : decode cX12_happens 0 = .ok (.aload_n 0, 1) := by decide +kernel
theorem dX12_happens_1 : decode cX12_happens 1 = .ok (.bipush 6, 2) := by decide +kernel
theorem dX12_happens_3 : decode cX12_happens 3 = .ok (.invokevirtual 422, 3) := by decide +kernel
theorem dX12_happens_6 : decode cX12_happens 6 = .ok (.istore_n 1, 1) := by decide +kernel
theorem dX12_happens_7 : decode cX12_happens 7 = .ok (.iload_n 1, 1) := by decide +kernel
theorem dX12_happens_8 : decode cX12_happens 8 = .ok (.iconst 2, 1) := by decide +kernel
theorem dX12_happens_9 : decode cX12_happens 9 = .ok (.if_icmp .gt 10, 3) := by decide +kernel
theorem dX12_happens_12 : decode cX12_happens 12 = .ok (.aload_n 0, 1) := by decide +kernel
theorem dX12_happens_13 : decode cX12_happens 13 = .ok (.getfield 269, 3) := by decide +kernel
theorem dX12_happens_16 : decode cX12_happens 16 = .ok (.ifCond .ne 4, 3) := by decide +kernel
theorem dX12_happens_19 : decode cX12_happens 19 = .ok (.return_, 1) := by decide +kernel
theorem dX12_happens_20 : decode cX12_happens 20 = .ok (.aload_n 0, 1) := by decide +kernel
theorem dX12_happens_21 : decode cX12_happens 21 = .ok (.aload_n 0, 1) := by decide +kernel
theorem dX12_happens_22 : decode cX12_happens 22 = .ok (.getfield 269, 3) := by decide +kernel
theorem dX12_happens_25 : decode cX12_happens 25 = .ok (.invokevirtual 422, 3) := by decide +kernel
theorem dX12_happens_28 : decode cX12_happens 28 = .ok (.istore_n 2, 1) := by decide +kernel
theorem dX12_happens_29 : decode cX12_happens 29 = .ok (.iload_n 1, 1) := by decide +kernel
theorem dX12_happens_30 : decode cX12_happens 30 = .ok (.ifCond .ne 23, 3) := by decide +kernel
theorem dX12_happens_33 : decode cX12_happens 33 = .ok (.aload_n 0, 1) := by decide +kernel
theorem dX12_happens_34 : decode cX12_happens 34 = .ok (.getfield 51, 3) := by decide +kernel
theorem dX12_happens_37 : decode cX12_happens 37 = .ok (.bipush 119, 2) := by decide +kernel
theorem dX12_happens_39 : decode cX12_happens 39 = .ok (.iload_n 2, 1) := by decide +kernel
theorem dX12_happens_40 : decode cX12_happens 40 = .ok (.iadd, 1) := by decide +kernel
theorem dX12_happens_41 : decode cX12_happens 41 = .ok (.iconst 1, 1) := by decide +kernel
theorem dX12_happens_42 : decode cX12_happens 42 = .ok (.aload_n 0, 1) := by decide +kernel
theorem dX12_happens_43 : decode cX12_happens 43 = .ok (.getfield 51, 3) := by decide +kernel
theorem dX12_happens_46 : decode cX12_happens 46 = .ok (.bipush 119, 2) := by decide +kernel
theorem dX12_happens_48 : decode cX12_happens 48 = .ok (.iload_n 2, 1) := by decide +kernel
theorem dX12_happens_49 : decode cX12_happens 49 = .ok (.iadd, 1) := by decide +kernel
theorem dX12_happens_50 : decode cX12_happens 50 = .ok (.iaload, 1) := by decide +kernel
theorem dX12_happens_51 : decode cX12_happens 51 = .ok (.isub, 1) := by decide +kernel
theorem dX12_happens_52 : decode cX12_happens 52 = .ok (.iastore, 1) := by decide +kernel
theorem dX12_happens_53 : decode cX12_happens 53 = .ok (.iload_n 1, 1) := by decide +kernel
theorem dX12_happens_54 : decode cX12_happens 54 = .ok (.iconst 1, 1) := by decide +kernel
theorem dX12_happens_55 : decode cX12_happens 55 = .ok (.if_icmp .ne 18, 3) := by decide +kernel
theorem dX12_happens_58 : decode cX12_happens 58 = .ok (.aload_n 0, 1) := by decide +kernel
theorem dX12_happens_59 : decode cX12_happens 59 = .ok (.bipush 64, 2) := by decide +kernel
theorem dX12_happens_61 : decode cX12_happens 61 = .ok (.iload_n 2, 1) := by decide +kernel
theorem dX12_happens_62 : decode cX12_happens 62 = .ok (.aload_n 0, 1) := by decide +kernel
theorem dX12_happens_63 : decode cX12_happens 63 = .ok (.bipush 30, 2) := by decide +kernel
theorem dX12_happens_65 : decode cX12_happens 65 = .ok (.invokevirtual 422, 3) := by decide +kernel
theorem dX12_happens_68 : decode cX12_happens 68 = .ok (.iconst 1, 1) := by decide +kernel
theorem dX12_happens_69 : decode cX12_happens 69 = .ok (.iadd, 1) := by decide +kernel
theorem dX12_happens_70 : decode cX12_happens 70 = .ok (.invokevirtual 375, 3) := by decide +kernel
theorem dX12_happens_73 : decode cX12_happens 73 = .ok (.iload_n 1, 1) := by decide +kernel
theorem dX12_happens_74 : decode cX12_happens 74 = .ok (.iconst 2, 1) := by decide +kernel
theorem dX12_happens_75 : decode cX12_happens 75 = .ok (.if_icmp .eq 4, 3) := by decide +kernel
theorem dX12_happens_78 : decode cX12_happens 78 = .ok (.return_, 1) := by decide +kernel
theorem dX12_happens_79 : decode cX12_happens 79 = .ok (.aload_n 0, 1) := by decide +kernel
theorem dX12_happens_80 : decode cX12_happens 80 = .ok (.aload_n 0, 1) := by decide +kernel
theorem dX12_happens_81 : decode cX12_happens 81 = .ok (.getfield 269, 3) := by decide +kernel
theorem dX12_happens_84 : decode cX12_happens 84 = .ok (.invokevirtual 422, 3) := by decide +kernel
theorem dX12_happens_87 : decode cX12_happens 87 = .ok (.istore_n 3, 1) := by decide +kernel
theorem dX12_happens_88 : decode cX12_happens 88 = .ok (.aload_n 0, 1) := by decide +kernel
theorem dX12_happens_89 : decode cX12_happens 89 = .ok (.bipush 64, 2) := by decide +kernel
theorem dX12_happens_91 : decode cX12_happens 91 = .ok (.iload_n 2, 1) := by decide +kernel
theorem dX12_happens_92 : decode cX12_happens 92 = .ok (.iload_n 3, 1) := by decide +kernel
theorem dX12_happens_93 : decode cX12_happens 93 = .ok (.iload_n 2, 1) := by decide +kernel
theorem dX12_happens_94 : decode cX12_happens 94 = .ok (.if_icmp .le 7, 3) := by decide +kernel
theorem dX12_happens_97 : decode cX12_happens 97 = .ok (.iload_n 3, 1) := by decide +kernel
theorem dX12_happens_98 : decode cX12_happens 98 = .ok (.goto 4, 3) := by decide +kernel
theorem dX12_happens_101 : decode cX12_happens 101 = .ok (.iconst (-1), 1) := by decide +kernel
theorem dX12_happens_102 : decode cX12_happens 102 = .ok (.invokevirtual 369, 3) := by decide +kernel
theorem dX12_happens_105 : decode cX12_happens 105 = .ok (.return_, 1) := by decide +kernel
theorem dX12_years_0 : decode cX12_years 0 = .ok (.aload_n 0, 1) := by decide +kernel
theorem dX12_years_1 : decode cX12_years 1 = .ok (.iconst 0, 1) := by decide +kernel
theorem dX12_years_2 : decode cX12_years 2 = .ok (.putfield 114, 3) := by decide +kernel
theorem dX12_years_5 : decode cX12_years 5 = .ok (.aload_n 0, 1) := by decide +kernel
theorem dX12_years_6 : decode cX12_years 6 = .ok (.iload_n 3, 1) := by decide +kernel
theorem dX12_years_7 : decode cX12_years 7 = .ok (.iconst 2, 1) := by decide +kernel
theorem dX12_years_8 : decode cX12_years 8 = .ok (.invokevirtual 354, 3) := by decide +kernel
theorem dX12_years_11 : decode cX12_years 11 = .ok (.ifCond .eq 13, 3) := by decide +kernel
theorem dX12_years_14 : decode cX12_years 14 = .ok (.aload_n 0, 1) := by decide +kernel
theorem dX12_years_15 : decode cX12_years 15 = .ok (.iload_n 2, 1) := by decide +kernel
theorem dX12_years_16 : decode cX12_years 16 = .ok (.iconst 0, 1) := by decide +kernel
theorem dX12_years_17 : decode cX12_years 17 = .ok (.iconst 2, 1) := by decide +kernel
theorem dX12_years_18 : decode cX12_years 18 = .ok (.invokevirtual 378, 3) := by decide +kernel
theorem dX12_years_21 : decode cX12_years 21 = .ok (.ifCond .ne 5, 3) := by decide +kernel
theorem dX12_years_24 : decode cX12_years 24 = .ok (.iconst 0, 1) := by decide +kernel
theorem dX12_years_25 : decode cX12_years 25 = .ok (.ireturn, 1) := by decide +kernel
theorem dX12_years_26 : decode cX12_years 26 = .ok (.aload_n 0, 1) := by decide +kernel
theorem dX12_years_27 : decode cX12_years 27 = .ok (.invokevirtual 381, 3) := by decide +kernel
theorem dX12_years_30 : decode cX12_years 30 = .ok (.aload_n 0, 1) := by decide +kernel
theorem dX12_years_31 : decode cX12_years 31 = .ok (.iload_n 1, 1) := by decide +kernel
theorem dX12_years_32 : decode cX12_years 32 = .ok (.putfield 418, 3) := by decide +kernel
theorem dX12_years_35 : decode cX12_years 35 = .ok (.iconst 0, 1) := by decide +kernel
theorem dX12_years_36 : decode cX12_years 36 = .ok (.istore 4, 2) := by decide +kernel
theorem dX12_years_38 : decode cX12_years 38 = .ok (.iconst 0, 1) := by decide +kernel
theorem dX12_years_39 : decode cX12_years 39 = .ok (.istore 5, 2) := by decide +kernel
theorem dX12_years_41 : decode cX12_years 41 = .ok (.iconst 0, 1) := by decide +kernel
theorem dX12_years_42 : decode cX12_years 42 = .ok (.istore 6, 2) := by decide +kernel
theorem dX12_years_44 : decode cX12_years 44 = .ok (.iload 6, 2) := by decide +kernel
theorem dX12_years_46 : decode cX12_years 46 = .ok (.iload_n 2, 1) := by decide +kernel
theorem dX12_years_47 : decode cX12_years 47 = .ok (.if_icmp .ge 58, 3) := by decide +kernel
theorem dX12_years_50 : decode cX12_years 50 = .ok (.aload_n 0, 1) := by decide +kernel
theorem dX12_years_51 : decode cX12_years 51 = .ok (.invokevirtual 425, 3) := by decide +kernel
theorem dX12_years_54 : decode cX12_years 54 = .ok (.aload_n 0, 1) := by decide +kernel
theorem dX12_years_55 : decode cX12_years 55 = .ok (.bipush 64, 2) := by decide +kernel
theorem dX12_years_57 : decode cX12_years 57 = .ok (.invokevirtual 323, 3) := by decide +kernel
theorem dX12_years_60 : decode cX12_years 60 = .ok (.iconst 0, 1) := by decide +kernel
theorem dX12_years_61 : decode cX12_years 61 = .ok (.istore 7, 2) := by decide +kernel
theorem dX12_years_63 : decode cX12_years 63 = .ok (.iload 7, 2) := by decide +kernel
theorem dX12_years_65 : decode cX12_years 65 = .ok (.aload_n 0, 1) := by decide +kernel
theorem dX12_years_66 : decode cX12_years 66 = .ok (.getfield 269, 3) := by decide +kernel
theorem dX12_years_69 : decode cX12_years 69 = .ok (.if_icmp .ge 21, 3) := by decide +kernel
theorem dX12_years_72 : decode cX12_years 72 = .ok (.iload 4, 2) := by decide +kernel
theorem dX12_years_74 : decode cX12_years 74 = .ok (.aload_n 0, 1) := by decide +kernel
theorem dX12_years_75 : decode cX12_years 75 = .ok (.getfield 66, 3) := by decide +kernel
theorem dX12_years_78 : decode cX12_years 78 = .ok (.iload 7, 2) := by decide +kernel
theorem dX12_years_80 : decode cX12_years 80 = .ok (.iaload, 1) := by decide +kernel
theorem dX12_years_81 : decode cX12_years 81 = .ok (.iadd, 1) := by decide +kernel
theorem dX12_years_82 : decode cX12_years 82 = .ok (.istore 4, 2) := by decide +kernel
theorem dX12_years_84 : decode cX12_years 84 = .ok (.iinc 7 1, 3) := by decide +kernel
theorem dX12_years_87 : decode cX12_years 87 = .ok (.goto (-24), 3) := by decide +kernel
theorem dX12_years_90 : decode cX12_years 90 = .ok (.iload 5, 2) := by decide +kernel
theorem dX12_years_92 : decode cX12_years 92 = .ok (.aload_n 0, 1) := by decide +kernel
theorem dX12_years_93 : decode cX12_years 93 = .ok (.getfield 300, 3) := by decide +kernel
theorem dX12_years_96 : decode cX12_years 96 = .ok (.ior, 1) := by decide +kernel
theorem dX12_years_97 : decode cX12_years 97 = .ok (.istore 5, 2) := by decide +kernel
theorem dX12_years_99 : decode cX12_years 99 = .ok (.iinc 6 1, 3) := by decide +kernel
theorem dX12_years_102 : decode cX12_years 102 = .ok (.goto (-58), 3) := by decide +kernel
theorem dX12_years_105 : decode cX12_years 105 = .ok (.iload_n 3, 1) := by decide +kernel
theorem dX12_years_106 : decode cX12_years 106 = .ok (.ifCond .ne 8, 3) := by decide +kernel
theorem dX12_years_109 : decode cX12_years 109 = .ok (.iload 4, 2) := by decide +kernel
theorem dX12_years_111 : decode cX12_years 111 = .ok (.goto 29, 3) := by decide +kernel
theorem dX12_years_114 : decode cX12_years 114 = .ok (.iload_n 3, 1) := by decide +kernel
theorem dX12_years_115 : decode cX12_years 115 = .ok (.iconst 1, 1) := by decide +kernel
theorem dX12_years_116 : decode cX12_years 116 = .ok (.if_icmp .ne 14, 3) := by decide +kernel
theorem dX12_years_119 : decode cX12_years 119 = .ok (.aload_n 0, 1) := by decide +kernel
theorem dX12_years_120 : decode cX12_years 120 = .ok (.bipush 64, 2) := by decide +kernel
theorem dX12_years_122 : decode cX12_years 122 = .ok (.bipush 10, 2) := by decide +kernel
theorem dX12_years_124 : decode cX12_years 124 = .ok (.invokevirtual 339, 3) := by decide +kernel
theorem dX12_years_127 : decode cX12_years 127 = .ok (.goto 13, 3) := by decide +kernel
theorem dX12_years_130 : decode cX12_years 130 = .ok (.aload_n 0, 1) := by decide +kernel
theorem dX12_years_131 : decode cX12_years 131 = .ok (.getfield 269, 3) := by decide +kernel
theorem dX12_years_134 : decode cX12_years 134 = .ok (.iload 5, 2) := by decide +kernel
theorem dX12_years_136 : decode cX12_years 136 = .ok (.invokestatic 393, 3) := by decide +kernel
theorem dX12_years_139 : decode cX12_years 139 = .ok (.isub, 1) := by decide +kernel
theorem dX12_years_140 : decode cX12_years 140 = .ok (.ireturn, 1) := by decide +kernel
theorem dX12_image_0 : decode cX12_image 0 = .ok (.aload_n 0, 1) := by decide +kernel
theorem dX12_image_1 : decode cX12_image 1 = .ok (.iconst 0, 1) := by decide +kernel
theorem dX12_image_2 : decode cX12_image 2 = .ok (.putfield 114, 3) := by decide +kernel
theorem dX12_image_5 : decode cX12_image 5 = .ok (.aload_n 0, 1) := by decide +kernel
theorem dX12_image_6 : decode cX12_image 6 = .ok (.iconst 1, 1) := by decide +kernel
theorem dX12_image_7 : decode cX12_image 7 = .ok (.putfield 282, 3) := by decide +kernel
theorem dX12_image_10 : decode cX12_image 10 = .ok (.aload_n 0, 1) := by decide +kernel
theorem dX12_image_11 : decode cX12_image 11 = .ok (.aload_n 0, 1) := by decide +kernel
theorem dX12_image_12 : decode cX12_image 12 = .ok (.getfield 276, 3) := by decide +kernel
theorem dX12_image_15 : decode cX12_image 15 = .ok (.putfield 428, 3) := by decide +kernel
theorem dX12_image_18 : decode cX12_image 18 = .ok (.aload_n 0, 1) := by decide +kernel
theorem dX12_image_19 : decode cX12_image 19 = .ok (.aload_n 0, 1) := by decide +kernel
theorem dX12_image_20 : decode cX12_image 20 = .ok (.getfield 279, 3) := by decide +kernel
theorem dX12_image_23 : decode cX12_image 23 = .ok (.putfield 431, 3) := by decide +kernel
theorem dX12_image_26 : decode cX12_image 26 = .ok (.iconst 0, 1) := by decide +kernel
theorem dX12_image_27 : decode cX12_image 27 = .ok (.istore_n 1, 1) := by decide +kernel
theorem dX12_image_28 : decode cX12_image 28 = .ok (.iload_n 1, 1) := by decide +kernel
theorem dX12_image_29 : decode cX12_image 29 = .ok (.bipush 64, 2) := by decide +kernel
theorem dX12_image_31 : decode cX12_image 31 = .ok (.if_icmp .ge 21, 3) := by decide +kernel
theorem dX12_image_34 : decode cX12_image 34 = .ok (.aload_n 0, 1) := by decide +kernel
theorem dX12_image_35 : decode cX12_image 35 = .ok (.getfield 105, 3) := by decide +kernel
theorem dX12_image_38 : decode cX12_image 38 = .ok (.iload_n 1, 1) := by decide +kernel
theorem dX12_image_39 : decode cX12_image 39 = .ok (.aload_n 0, 1) := by decide +kernel
theorem dX12_image_40 : decode cX12_image 40 = .ok (.getfield 51, 3) := by decide +kernel
theorem dX12_image_43 : decode cX12_image 43 = .ok (.iload_n 1, 1) := by decide +kernel
theorem dX12_image_44 : decode cX12_image 44 = .ok (.iaload, 1) := by decide +kernel
theorem dX12_image_45 : decode cX12_image 45 = .ok (.iastore, 1) := by decide +kernel
theorem dX12_image_46 : decode cX12_image 46 = .ok (.iinc 1 1, 3) := by decide +kernel
theorem dX12_image_49 : decode cX12_image 49 = .ok (.goto (-21), 3) := by decide +kernel
theorem dX12_image_52 : decode cX12_image 52 = .ok (.aload_n 0, 1) := by decide +kernel
theorem dX12_image_53 : decode cX12_image 53 = .ok (.aload_n 0, 1) := by decide +kernel
theorem dX12_image_54 : decode cX12_image 54 = .ok (.getfield 54, 3) := by decide +kernel
theorem dX12_image_57 : decode cX12_image 57 = .ok (.aload_n 0, 1) := by decide +kernel
theorem dX12_image_58 : decode cX12_image 58 = .ok (.getfield 108, 3) := by decide +kernel
theorem dX12_image_61 : decode cX12_image 61 = .ok (.invokevirtual 272, 3) := by decide +kernel
theorem dX12_image_64 : decode cX12_image 64 = .ok (.aload_n 0, 1) := by decide +kernel
theorem dX12_image_65 : decode cX12_image 65 = .ok (.aload_n 0, 1) := by decide +kernel
theorem dX12_image_66 : decode cX12_image 66 = .ok (.getfield 96, 3) := by decide +kernel
theorem dX12_image_69 : decode cX12_image 69 = .ok (.aload_n 0, 1) := by decide +kernel
theorem dX12_image_70 : decode cX12_image 70 = .ok (.getfield 111, 3) := by decide +kernel
theorem dX12_image_73 : decode cX12_image 73 = .ok (.invokevirtual 272, 3) := by decide +kernel
theorem dX12_image_76 : decode cX12_image 76 = .ok (.return_, 1) := by decide +kernel
theorem dX12_restore_0 : decode cX12_restore 0 = .ok (.aload_n 0, 1) := by decide +kernel
theorem dX12_restore_1 : decode cX12_restore 1 = .ok (.iconst 0, 1) := by decide +kernel
theorem dX12_restore_2 : decode cX12_restore 2 = .ok (.putfield 114, 3) := by decide +kernel
theorem dX12_restore_5 : decode cX12_restore 5 = .ok (.aload_n 0, 1) := by decide +kernel
theorem dX12_restore_6 : decode cX12_restore 6 = .ok (.getfield 282, 3) := by decide +kernel
theorem dX12_restore_9 : decode cX12_restore 9 = .ok (.ifCond .ne 5, 3) := by decide +kernel
theorem dX12_restore_12 : decode cX12_restore 12 = .ok (.iconst 0, 1) := by decide +kernel
theorem dX12_restore_13 : decode cX12_restore 13 = .ok (.ireturn, 1) := by decide +kernel
theorem dX12_restore_14 : decode cX12_restore 14 = .ok (.aload_n 0, 1) := by decide +kernel
theorem dX12_restore_15 : decode cX12_restore 15 = .ok (.aload_n 0, 1) := by decide +kernel
theorem dX12_restore_16 : decode cX12_restore 16 = .ok (.getfield 428, 3) := by decide +kernel
theorem dX12_restore_19 : decode cX12_restore 19 = .ok (.putfield 276, 3) := by decide +kernel
theorem dX12_restore_22 : decode cX12_restore 22 = .ok (.aload_n 0, 1) := by decide +kernel
theorem dX12_restore_23 : decode cX12_restore 23 = .ok (.aload_n 0, 1) := by decide +kernel
theorem dX12_restore_24 : decode cX12_restore 24 = .ok (.getfield 431, 3) := by decide +kernel
theorem dX12_restore_27 : decode cX12_restore 27 = .ok (.putfield 279, 3) := by decide +kernel
theorem dX12_restore_30 : decode cX12_restore 30 = .ok (.iconst 0, 1) := by decide +kernel
theorem dX12_restore_31 : decode cX12_restore 31 = .ok (.istore_n 1, 1) := by decide +kernel
theorem dX12_restore_32 : decode cX12_restore 32 = .ok (.iload_n 1, 1) := by decide +kernel
theorem dX12_restore_33 : decode cX12_restore 33 = .ok (.bipush 64, 2) := by decide +kernel
theorem dX12_restore_35 : decode cX12_restore 35 = .ok (.if_icmp .ge 21, 3) := by decide +kernel
theorem dX12_restore_38 : decode cX12_restore 38 = .ok (.aload_n 0, 1) := by decide +kernel
theorem dX12_restore_39 : decode cX12_restore 39 = .ok (.getfield 51, 3) := by decide +kernel
theorem dX12_restore_42 : decode cX12_restore 42 = .ok (.iload_n 1, 1) := by decide +kernel
theorem dX12_restore_43 : decode cX12_restore 43 = .ok (.aload_n 0, 1) := by decide +kernel
theorem dX12_restore_44 : decode cX12_restore 44 = .ok (.getfield 105, 3) := by decide +kernel
theorem dX12_restore_47 : decode cX12_restore 47 = .ok (.iload_n 1, 1) := by decide +kernel
theorem dX12_restore_48 : decode cX12_restore 48 = .ok (.iaload, 1) := by decide +kernel
theorem dX12_restore_49 : decode cX12_restore 49 = .ok (.iastore, 1) := by decide +kernel
theorem dX12_restore_50 : decode cX12_restore 50 = .ok (.iinc 1 1, 3) := by decide +kernel
theorem dX12_restore_53 : decode cX12_restore 53 = .ok (.goto (-21), 3) := by decide +kernel
theorem dX12_restore_56 : decode cX12_restore 56 = .ok (.aload_n 0, 1) := by decide +kernel
theorem dX12_restore_57 : decode cX12_restore 57 = .ok (.aload_n 0, 1) := by decide +kernel
theorem dX12_restore_58 : decode cX12_restore 58 = .ok (.getfield 108, 3) := by decide +kernel
theorem dX12_restore_61 : decode cX12_restore 61 = .ok (.aload_n 0, 1) := by decide +kernel
theorem dX12_restore_62 : decode cX12_restore 62 = .ok (.getfield 54, 3) := by decide +kernel
theorem dX12_restore_65 : decode cX12_restore 65 = .ok (.invokevirtual 272, 3) := by decide +kernel
theorem dX12_restore_68 : decode cX12_restore 68 = .ok (.aload_n 0, 1) := by decide +kernel
theorem dX12_restore_69 : decode cX12_restore 69 = .ok (.aload_n 0, 1) := by decide +kernel
theorem dX12_restore_70 : decode cX12_restore 70 = .ok (.getfield 111, 3) := by decide +kernel
theorem dX12_restore_73 : decode cX12_restore 73 = .ok (.aload_n 0, 1) := by decide +kernel
theorem dX12_restore_74 : decode cX12_restore 74 = .ok (.getfield 96, 3) := by decide +kernel
theorem dX12_restore_77 : decode cX12_restore 77 = .ok (.invokevirtual 272, 3) := by decide +kernel
theorem dX12_restore_80 : decode cX12_restore 80 = .ok (.iconst 1, 1) := by decide +kernel
theorem dX12_restore_81 : decode cX12_restore 81 = .ok (.ireturn, 1) := by decide +kernel
