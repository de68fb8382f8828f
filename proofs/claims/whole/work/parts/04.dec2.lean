theorem dX10_init_139 : decode cX10_init 139 = .ok (.putfield 62, 3) := by decide +kernel
theorem dX10_init_142 : decode cX10_init 142 = .ok (.aload_n 0, 1) := by decide +kernel
theorem dX10_init_143 : decode cX10_init 143 = .ok (.iconst 5, 1) := by decide +kernel
theorem dX10_init_144 : decode cX10_init 144 = .ok (.newarray .int, 2) := by decide +kernel
theorem dX10_init_146 : decode cX10_init 146 = .ok (.putfield 65, 3) := by decide +kernel
theorem dX10_init_149 : decode cX10_init 149 = .ok (.aload_n 0, 1) := by decide +kernel
theorem dX10_init_150 : decode cX10_init 150 = .ok (.iconst 5, 1) := by decide +kernel
theorem dX10_init_151 : decode cX10_init 151 = .ok (.newarray .int, 2) := by decide +kernel
theorem dX10_init_153 : decode cX10_init 153 = .ok (.putfield 68, 3) := by decide +kernel
theorem dX10_init_156 : decode cX10_init 156 = .ok (.aload_n 0, 1) := by decide +kernel
theorem dX10_init_157 : decode cX10_init 157 = .ok (.iconst 5, 1) := by decide +kernel
theorem dX10_init_158 : decode cX10_init 158 = .ok (.newarray .int, 2) := by decide +kernel
theorem dX10_init_160 : decode cX10_init 160 = .ok (.putfield 71, 3) := by decide +kernel
theorem dX10_init_163 : decode cX10_init 163 = .ok (.aload_n 0, 1) := by decide +kernel
theorem dX10_init_164 : decode cX10_init 164 = .ok (.iconst 4, 1) := by decide +kernel
theorem dX10_init_165 : decode cX10_init 165 = .ok (.newarray .int, 2) := by decide +kernel
theorem dX10_init_167 : decode cX10_init 167 = .ok (.putfield 74, 3) := by decide +kernel
theorem dX10_init_170 : decode cX10_init 170 = .ok (.aload_n 0, 1) := by decide +kernel
theorem dX10_init_171 : decode cX10_init 171 = .ok (.iconst 4, 1) := by decide +kernel
theorem dX10_init_172 : decode cX10_init 172 = .ok (.newarray .int, 2) := by decide +kernel
theorem dX10_init_174 : decode cX10_init 174 = .ok (.putfield 77, 3) := by decide +kernel
theorem dX10_init_177 : decode cX10_init 177 = .ok (.aload_n 0, 1) := by decide +kernel
theorem dX10_init_178 : decode cX10_init 178 = .ok (.iconst 4, 1) := by decide +kernel
theorem dX10_init_179 : decode cX10_init 179 = .ok (.newarray .int, 2) := by decide +kernel
theorem dX10_init_181 : decode cX10_init 181 = .ok (.putfield 80, 3) := by decide +kernel
theorem dX10_init_184 : decode cX10_init 184 = .ok (.aload_n 0, 1) := by decide +kernel
theorem dX10_init_185 : decode cX10_init 185 = .ok (.iconst 4, 1) := by decide +kernel
theorem dX10_init_186 : decode cX10_init 186 = .ok (.newarray .int, 2) := by decide +kernel
theorem dX10_init_188 : decode cX10_init 188 = .ok (.putfield 83, 3) := by decide +kernel
theorem dX10_init_191 : decode cX10_init 191 = .ok (.aload_n 0, 1) := by decide +kernel
theorem dX10_init_192 : decode cX10_init 192 = .ok (.bipush 16, 2) := by decide +kernel
theorem dX10_init_194 : decode cX10_init 194 = .ok (.newarray .int, 2) := by decide +kernel
theorem dX10_init_196 : decode cX10_init 196 = .ok (.putfield 86, 3) := by decide +kernel
theorem dX10_init_199 : decode cX10_init 199 = .ok (.aload_n 0, 1) := by decide +kernel
theorem dX10_init_200 : decode cX10_init 200 = .ok (.sipush 128, 3) := by decide +kernel
theorem dX10_init_203 : decode cX10_init 203 = .ok (.newarray .int, 2) := by decide +kernel
theorem dX10_init_205 : decode cX10_init 205 = .ok (.putfield 89, 3) := by decide +kernel
theorem dX10_init_208 : decode cX10_init 208 = .ok (.iconst 0, 1) := by decide +kernel
theorem dX10_init_209 : decode cX10_init 209 = .ok (.istore_n 1, 1) := by decide +kernel
theorem dX10_init_210 : decode cX10_init 210 = .ok (.iload_n 1, 1) := by decide +kernel
theorem dX10_init_211 : decode cX10_init 211 = .ok (.bipush 6, 2) := by decide +kernel
theorem dX10_init_213 : decode cX10_init 213 = .ok (.if_icmp .ge 16, 3) := by decide +kernel
theorem dX10_init_216 : decode cX10_init 216 = .ok (.aload_n 0, 1) := by decide +kernel
theorem dX10_init_217 : decode cX10_init 217 = .ok (.getfield 38, 3) := by decide +kernel
theorem dX10_init_220 : decode cX10_init 220 = .ok (.iload_n 1, 1) := by decide +kernel
theorem dX10_init_221 : decode cX10_init 221 = .ok (.iconst (-1), 1) := by decide +kernel
theorem dX10_init_222 : decode cX10_init 222 = .ok (.iastore, 1) := by decide +kernel
theorem dX10_init_223 : decode cX10_init 223 = .ok (.iinc 1 1, 3) := by decide +kernel
theorem dX10_init_226 : decode cX10_init 226 = .ok (.goto (-16), 3) := by decide +kernel
theorem dX10_init_229 : decode cX10_init 229 = .ok (.iconst 0, 1) := by decide +kernel
theorem dX10_init_230 : decode cX10_init 230 = .ok (.istore_n 1, 1) := by decide +kernel
theorem dX10_init_231 : decode cX10_init 231 = .ok (.iload_n 1, 1) := by decide +kernel
theorem dX10_init_232 : decode cX10_init 232 = .ok (.iconst 4, 1) := by decide +kernel
theorem dX10_init_233 : decode cX10_init 233 = .ok (.if_icmp .ge 16, 3) := by decide +kernel
theorem dX10_init_236 : decode cX10_init 236 = .ok (.aload_n 0, 1) := by decide +kernel
theorem dX10_init_237 : decode cX10_init 237 = .ok (.getfield 44, 3) := by decide +kernel
theorem dX10_init_240 : decode cX10_init 240 = .ok (.iload_n 1, 1) := by decide +kernel
theorem dX10_init_241 : decode cX10_init 241 = .ok (.iconst (-1), 1) := by decide +kernel
theorem dX10_init_242 : decode cX10_init 242 = .ok (.iastore, 1) := by decide +kernel
theorem dX10_init_243 : decode cX10_init 243 = .ok (.iinc 1 1, 3) := by decide +kernel
theorem dX10_init_246 : decode cX10_init 246 = .ok (.goto (-15), 3) := by decide +kernel
theorem dX10_init_249 : decode cX10_init 249 = .ok (.iconst 0, 1) := by decide +kernel
theorem dX10_init_250 : decode cX10_init 250 = .ok (.istore_n 1, 1) := by decide +kernel
theorem dX10_init_251 : decode cX10_init 251 = .ok (.iload_n 1, 1) := by decide +kernel
theorem dX10_init_252 : decode cX10_init 252 = .ok (.iconst 3, 1) := by decide +kernel
theorem dX10_init_253 : decode cX10_init 253 = .ok (.if_icmp .ge 16, 3) := by decide +kernel
theorem dX10_init_256 : decode cX10_init 256 = .ok (.aload_n 0, 1) := by decide +kernel
theorem dX10_init_257 : decode cX10_init 257 = .ok (.getfield 50, 3) := by decide +kernel
theorem dX10_init_260 : decode cX10_init 260 = .ok (.iload_n 1, 1) := by decide +kernel
theorem dX10_init_261 : decode cX10_init 261 = .ok (.iconst (-1), 1) := by decide +kernel
theorem dX10_init_262 : decode cX10_init 262 = .ok (.iastore, 1) := by decide +kernel
theorem dX10_init_263 : decode cX10_init 263 = .ok (.iinc 1 1, 3) := by decide +kernel
theorem dX10_init_266 : decode cX10_init 266 = .ok (.goto (-15), 3) := by decide +kernel
theorem dX10_init_269 : decode cX10_init 269 = .ok (.return_, 1) := by decide +kernel
theorem dX10_in_0 : decode cX10_in 0 = .ok (.lload_n 0, 1) := by decide +kernel
theorem dX10_in_1 : decode cX10_in 1 = .ok (.lload_n 2, 1) := by decide +kernel
theorem dX10_in_2 : decode cX10_in 2 = .ok (.lcmp, 1) := by decide +kernel
theorem dX10_in_3 : decode cX10_in 3 = .ok (.ifCond .lt 14, 3) := by decide +kernel
theorem dX10_in_6 : decode cX10_in 6 = .ok (.lload_n 0, 1) := by decide +kernel
theorem dX10_in_7 : decode cX10_in 7 = .ok (.lload 4, 2) := by decide +kernel
theorem dX10_in_9 : decode cX10_in 9 = .ok (.lcmp, 1) := by decide +kernel
theorem dX10_in_10 : decode cX10_in 10 = .ok (.ifCond .gt 7, 3) := by decide +kernel
theorem dX10_in_13 : decode cX10_in 13 = .ok (.iconst 1, 1) := by decide +kernel
theorem dX10_in_14 : decode cX10_in 14 = .ok (.goto 4, 3) := by decide +kernel
theorem dX10_in_17 : decode cX10_in 17 = .ok (.iconst 0, 1) := by decide +kernel
theorem dX10_in_18 : decode cX10_in 18 = .ok (.ireturn, 1) := by decide +kernel
theorem dX10_has_0 : decode cX10_has 0 = .ok (.iload_n 0, 1) := by decide +kernel
theorem dX10_has_1 : decode cX10_has 1 = .ok (.iload_n 1, 1) := by decide +kernel
theorem dX10_has_2 : decode cX10_has 2 = .ok (.ishr, 1) := by decide +kernel
theorem dX10_has_3 : decode cX10_has 3 = .ok (.iconst 1, 1) := by decide +kernel
theorem dX10_has_4 : decode cX10_has 4 = .ok (.iand, 1) := by decide +kernel
theorem dX10_has_5 : decode cX10_has 5 = .ok (.iconst 1, 1) := by decide +kernel
theorem dX10_has_6 : decode cX10_has 6 = .ok (.if_icmp .ne 7, 3) := by decide +kernel
theorem dX10_has_9 : decode cX10_has 9 = .ok (.iconst 1, 1) := by decide +kernel
theorem dX10_has_10 : decode cX10_has 10 = .ok (.goto 4, 3) := by decide +kernel
theorem dX10_has_13 : decode cX10_has 13 = .ok (.iconst 0, 1) := by decide +kernel
theorem dX10_has_14 : decode cX10_has 14 = .ok (.ireturn, 1) := by decide +kernel
theorem dX10_bits_0 : decode cX10_bits 0 = .ok (.iconst 0, 1) := by decide +kernel
theorem dX10_bits_1 : decode cX10_bits 1 = .ok (.istore_n 1, 1) := by decide +kernel
theorem dX10_bits_2 : decode cX10_bits 2 = .ok (.iconst 0, 1) := by decide +kernel
theorem dX10_bits_3 : decode cX10_bits 3 = .ok (.istore_n 2, 1) := by decide +kernel
theorem dX10_bits_4 : decode cX10_bits 4 = .ok (.iload_n 2, 1) := by decide +kernel
theorem dX10_bits_5 : decode cX10_bits 5 = .ok (.bipush 8, 2) := by decide +kernel
theorem dX10_bits_7 : decode cX10_bits 7 = .ok (.if_icmp .ge 17, 3) := by decide +kernel
theorem dX10_bits_10 : decode cX10_bits 10 = .ok (.iload_n 1, 1) := by decide +kernel
theorem dX10_bits_11 : decode cX10_bits 11 = .ok (.iload_n 0, 1) := by decide +kernel
theorem dX10_bits_12 : decode cX10_bits 12 = .ok (.iload_n 2, 1) := by decide +kernel
theorem dX10_bits_13 : decode cX10_bits 13 = .ok (.ishr, 1) := by decide +kernel
theorem dX10_bits_14 : decode cX10_bits 14 = .ok (.iconst 1, 1) := by decide +kernel
theorem dX10_bits_15 : decode cX10_bits 15 = .ok (.iand, 1) := by decide +kernel
theorem dX10_bits_16 : decode cX10_bits 16 = .ok (.iadd, 1) := by decide +kernel
theorem dX10_bits_17 : decode cX10_bits 17 = .ok (.istore_n 1, 1) := by decide +kernel
theorem dX10_bits_18 : decode cX10_bits 18 = .ok (.iinc 2 1, 3) := by decide +kernel
theorem dX10_bits_21 : decode cX10_bits 21 = .ok (.goto (-17), 3) := by decide +kernel
theorem dX10_bits_24 : decode cX10_bits 24 = .ok (.iload_n 1, 1) := by decide +kernel
theorem dX10_bits_25 : decode cX10_bits 25 = .ok (.ireturn, 1) := by decide +kernel
theorem dX10_finds_0 : decode cX10_finds 0 = .ok (.aload_n 0, 1) := by decide +kernel
theorem dX10_finds_1 : decode cX10_finds 1 = .ok (.iload_n 1, 1) := by decide +kernel
theorem dX10_finds_2 : decode cX10_finds 2 = .ok (.putfield 92, 3) := by decide +kernel
theorem dX10_finds_5 : decode cX10_finds 5 = .ok (.aload_n 0, 1) := by decide +kernel
theorem dX10_finds_6 : decode cX10_finds 6 = .ok (.getfield 35, 3) := by decide +kernel
theorem dX10_finds_9 : decode cX10_finds 9 = .ok (.iload_n 1, 1) := by decide +kernel
theorem dX10_finds_10 : decode cX10_finds 10 = .ok (.dup2, 1) := by decide +kernel
theorem dX10_finds_11 : decode cX10_finds 11 = .ok (.iaload, 1) := by decide +kernel
theorem dX10_finds_12 : decode cX10_finds 12 = .ok (.iconst 1, 1) := by decide +kernel
theorem dX10_finds_13 : decode cX10_finds 13 = .ok (.iadd, 1) := by decide +kernel
theorem dX10_finds_14 : decode cX10_finds 14 = .ok (.iastore, 1) := by decide +kernel
theorem dX10_finds_15 : decode cX10_finds 15 = .ok (.bipush (-3), 2) := by decide +kernel
theorem dX10_finds_17 : decode cX10_finds 17 = .ok (.ireturn, 1) := by decide +kernel
theorem dX10_isRow_0 : decode cX10_isRow 0 = .ok (.iload_n 0, 1) := by decide +kernel
theorem dX10_isRow_1 : decode cX10_isRow 1 = .ok (.i2l, 1) := by decide +kernel
theorem dX10_isRow_2 : decode cX10_isRow 2 = .ok (.lconst 0, 1) := by decide +kernel
theorem dX10_isRow_3 : decode cX10_isRow 3 = .ok (.ldc2_w 96, 3) := by decide +kernel
theorem dX10_isRow_6 : decode cX10_isRow 6 = .ok (.invokestatic 98, 3) := by decide +kernel
theorem dX10_isRow_9 : decode cX10_isRow 9 = .ok (.ireturn, 1) := by decide +kernel
theorem dX10_isText_0 : decode cX10_isText 0 = .ok (.iload_n 0, 1) := by decide +kernel
theorem dX10_isText_1 : decode cX10_isText 1 = .ok (.i2l, 1) := by decide +kernel
theorem dX10_isText_2 : decode cX10_isText 2 = .ok (.lconst 0, 1) := by decide +kernel
theorem dX10_isText_3 : decode cX10_isText 3 = .ok (.ldc2_w 102, 3) := by decide +kernel
theorem dX10_isText_6 : decode cX10_isText 6 = .ok (.invokestatic 98, 3) := by decide +kernel
theorem dX10_isText_9 : decode cX10_isText 9 = .ok (.ireturn, 1) := by decide +kernel
theorem dX10_isCape_0 : decode cX10_isCape 0 = .ok (.iload_n 1, 1) := by decide +kernel
theorem dX10_isCape_1 : decode cX10_isCape 1 = .ok (.i2l, 1) := by decide +kernel
theorem dX10_isCape_2 : decode cX10_isCape 2 = .ok (.lconst 0, 1) := by decide +kernel
theorem dX10_isCape_3 : decode cX10_isCape 3 = .ok (.aload_n 0, 1) := by decide +kernel
theorem dX10_isCape_4 : decode cX10_isCape 4 = .ok (.getfield 104, 3) := by decide +kernel
theorem dX10_isCape_7 : decode cX10_isCape 7 = .ok (.iconst 1, 1) := by decide +kernel
theorem dX10_isCape_8 : decode cX10_isCape 8 = .ok (.isub, 1) := by decide +kernel
theorem dX10_isCape_9 : decode cX10_isCape 9 = .ok (.i2l, 1) := by decide +kernel
theorem dX10_isCape_10 : decode cX10_isCape 10 = .ok (.invokestatic 98, 3) := by decide +kernel
theorem dX10_isCape_13 : decode cX10_isCape 13 = .ok (.ireturn, 1) := by decide +kernel
theorem dX10_isValley_0 : decode cX10_isValley 0 = .ok (.iload_n 1, 1) := by decide +kernel
theorem dX10_isValley_1 : decode cX10_isValley 1 = .ok (.i2l, 1) := by decide +kernel
theorem dX10_isValley_2 : decode cX10_isValley 2 = .ok (.lconst 0, 1) := by decide +kernel
theorem dX10_isValley_3 : decode cX10_isValley 3 = .ok (.aload_n 0, 1) := by decide +kernel
theorem dX10_isValley_4 : decode cX10_isValley 4 = .ok (.getfield 107, 3) := by decide +kernel
theorem dX10_isValley_7 : decode cX10_isValley 7 = .ok (.iconst 1, 1) := by decide +kernel
theorem dX10_isValley_8 : decode cX10_isValley 8 = .ok (.isub, 1) := by decide +kernel
theorem dX10_isValley_9 : decode cX10_isValley 9 = .ok (.i2l, 1) := by decide +kernel
theorem dX10_isValley_10 : decode cX10_isValley 10 = .ok (.invokestatic 98, 3) := by decide +kernel
theorem dX10_isValley_13 : decode cX10_isValley 13 = .ok (.ireturn, 1) := by decide +kernel
theorem dX10_isSet_0 : decode cX10_isSet 0 = .ok (.iload_n 1, 1) := by decide +kernel
theorem dX10_isSet_1 : decode cX10_isSet 1 = .ok (.i2l, 1) := by decide +kernel
theorem dX10_isSet_2 : decode cX10_isSet 2 = .ok (.lconst 0, 1) := by decide +kernel
theorem dX10_isSet_3 : decode cX10_isSet 3 = .ok (.iconst 1, 1) := by decide +kernel
theorem dX10_isSet_4 : decode cX10_isSet 4 = .ok (.aload_n 0, 1) := by decide +kernel
theorem dX10_isSet_5 : decode cX10_isSet 5 = .ok (.getfield 104, 3) := by decide +kernel
theorem dX10_isSet_8 : decode cX10_isSet 8 = .ok (.ishl, 1) := by decide +kernel
theorem dX10_isSet_9 : decode cX10_isSet 9 = .ok (.iconst 1, 1) := by decide +kernel
theorem dX10_isSet_10 : decode cX10_isSet 10 = .ok (.isub, 1) := by decide +kernel
theorem dX10_isSet_11 : decode cX10_isSet 11 = .ok (.i2l, 1) := by decide +kernel
theorem dX10_isSet_12 : decode cX10_isSet 12 = .ok (.invokestatic 98, 3) := by decide +kernel
theorem dX10_isSet_15 : decode cX10_isSet 15 = .ok (.ireturn, 1) := by decide +kernel
theorem dX10_row_0 : decode cX10_row 0 = .ok (.iload_n 1, 1) := by decide +kernel
theorem dX10_row_1 : decode cX10_row 1 = .ok (.invokestatic 110, 3) := by decide +kernel
theorem dX10_row_4 : decode cX10_row 4 = .ok (.ifCond .eq 9, 3) := by decide +kernel
theorem dX10_row_7 : decode cX10_row 7 = .ok (.iload_n 2, 1) := by decide +kernel
theorem dX10_row_8 : decode cX10_row 8 = .ok (.bipush 40, 2) := by decide +kernel
theorem dX10_row_10 : decode cX10_row 10 = .ok (.if_icmp .le 5, 3) := by decide +kernel
theorem dX10_row_13 : decode cX10_row 13 = .ok (.iconst (-1), 1) := by decide +kernel
theorem dX10_row_14 : decode cX10_row 14 = .ok (.ireturn, 1) := by decide +kernel
theorem dX10_row_15 : decode cX10_row 15 = .ok (.iload_n 2, 1) := by decide +kernel
theorem dX10_row_16 : decode cX10_row 16 = .ok (.ifCond .ge 9, 3) := by decide +kernel
theorem dX10_row_19 : decode cX10_row 19 = .ok (.aload_n 0, 1) := by decide +kernel
theorem dX10_row_20 : decode cX10_row 20 = .ok (.iconst 5, 1) := by decide +kernel
theorem dX10_row_21 : decode cX10_row 21 = .ok (.invokevirtual 114, 3) := by decide +kernel
theorem dX10_row_24 : decode cX10_row 24 = .ok (.ireturn, 1) := by decide +kernel
theorem dX10_row_25 : decode cX10_row 25 = .ok (.aload_n 0, 1) := by decide +kernel
theorem dX10_row_26 : decode cX10_row 26 = .ok (.getfield 38, 3) := by decide +kernel
theorem dX10_row_29 : decode cX10_row 29 = .ok (.iload_n 1, 1) := by decide +kernel
theorem dX10_row_30 : decode cX10_row 30 = .ok (.iload_n 2, 1) := by decide +kernel
theorem dX10_row_31 : decode cX10_row 31 = .ok (.iastore, 1) := by decide +kernel
theorem dX10_row_32 : decode cX10_row 32 = .ok (.iconst 0, 1) := by decide +kernel
theorem dX10_row_33 : decode cX10_row 33 = .ok (.istore_n 3, 1) := by decide +kernel
theorem dX10_row_34 : decode cX10_row 34 = .ok (.iload_n 3, 1) := by decide +kernel
theorem dX10_row_35 : decode cX10_row 35 = .ok (.bipush 40, 2) := by decide +kernel
theorem dX10_row_37 : decode cX10_row 37 = .ok (.if_icmp .ge 21, 3) := by decide +kernel
theorem dX10_row_40 : decode cX10_row 40 = .ok (.aload_n 0, 1) := by decide +kernel
theorem dX10_row_41 : decode cX10_row 41 = .ok (.getfield 41, 3) := by decide +kernel
theorem dX10_row_44 : decode cX10_row 44 = .ok (.bipush 40, 2) := by decide +kernel
theorem dX10_row_46 : decode cX10_row 46 = .ok (.iload_n 1, 1) := by decide +kernel
theorem dX10_row_47 : decode cX10_row 47 = .ok (.imul, 1) := by decide +kernel
theorem dX10_row_48 : decode cX10_row 48 = .ok (.iload_n 3, 1) := by decide +kernel
theorem dX10_row_49 : decode cX10_row 49 = .ok (.iadd, 1) := by decide +kernel
theorem dX10_row_50 : decode cX10_row 50 = .ok (.iconst 0, 1) := by decide +kernel
theorem dX10_row_51 : decode cX10_row 51 = .ok (.iastore, 1) := by decide +kernel
theorem dX10_row_52 : decode cX10_row 52 = .ok (.iinc 3 1, 3) := by decide +kernel
theorem dX10_row_55 : decode cX10_row 55 = .ok (.goto (-21), 3) := by decide +kernel
theorem dX10_row_58 : decode cX10_row 58 = .ok (.iload_n 2, 1) := by decide +kernel
theorem dX10_row_59 : decode cX10_row 59 = .ok (.ireturn, 1) := by decide +kernel
theorem dX10_lay_0 : decode cX10_lay 0 = .ok (.iload_n 1, 1) := by decide +kernel
theorem dX10_lay_1 : decode cX10_lay 1 = .ok (.invokestatic 110, 3) := by decide +kernel
theorem dX10_lay_4 : decode cX10_lay 4 = .ok (.ifCond .ne 5, 3) := by decide +kernel
theorem dX10_lay_7 : decode cX10_lay 7 = .ok (.iconst (-1), 1) := by decide +kernel
theorem dX10_lay_8 : decode cX10_lay 8 = .ok (.ireturn, 1) := by decide +kernel
theorem dX10_lay_9 : decode cX10_lay 9 = .ok (.aload_n 0, 1) := by decide +kernel
theorem dX10_lay_10 : decode cX10_lay 10 = .ok (.getfield 38, 3) := by decide +kernel
theorem dX10_lay_13 : decode cX10_lay 13 = .ok (.iload_n 1, 1) := by decide +kernel
theorem dX10_lay_14 : decode cX10_lay 14 = .ok (.iaload, 1) := by decide +kernel
theorem dX10_lay_15 : decode cX10_lay 15 = .ok (.ifCond .ge 9, 3) := by decide +kernel
theorem dX10_lay_18 : decode cX10_lay 18 = .ok (.aload_n 0, 1) := by decide +kernel
theorem dX10_lay_19 : decode cX10_lay 19 = .ok (.iconst 1, 1) := by decide +kernel
theorem dX10_lay_20 : decode cX10_lay 20 = .ok (.invokevirtual 114, 3) := by decide +kernel
theorem dX10_lay_23 : decode cX10_lay 23 = .ok (.ireturn, 1) := by decide +kernel
theorem dX10_lay_24 : decode cX10_lay 24 = .ok (.iload_n 2, 1) := by decide +kernel
theorem dX10_lay_25 : decode cX10_lay 25 = .ok (.i2l, 1) := by decide +kernel
theorem dX10_lay_26 : decode cX10_lay 26 = .ok (.lconst 0, 1) := by decide +kernel
theorem dX10_lay_27 : decode cX10_lay 27 = .ok (.aload_n 0, 1) := by decide +kernel
theorem dX10_lay_28 : decode cX10_lay 28 = .ok (.getfield 38, 3) := by decide +kernel
theorem dX10_lay_31 : decode cX10_lay 31 = .ok (.iload_n 1, 1) := by decide +kernel
theorem dX10_lay_32 : decode cX10_lay 32 = .ok (.iaload, 1) := by decide +kernel
theorem dX10_lay_33 : decode cX10_lay 33 = .ok (.iconst 1, 1) := by decide +kernel
theorem dX10_lay_34 : decode cX10_lay 34 = .ok (.isub, 1) := by decide +kernel
theorem dX10_lay_35 : decode cX10_lay 35 = .ok (.i2l, 1) := by decide +kernel
theorem dX10_lay_36 : decode cX10_lay 36 = .ok (.invokestatic 98, 3) := by decide +kernel
theorem dX10_lay_39 : decode cX10_lay 39 = .ok (.ifCond .ne 9, 3) := by decide +kernel
theorem dX10_lay_42 : decode cX10_lay 42 = .ok (.aload_n 0, 1) := by decide +kernel
theorem dX10_lay_43 : decode cX10_lay 43 = .ok (.iconst 2, 1) := by decide +kernel
theorem dX10_lay_44 : decode cX10_lay 44 = .ok (.invokevirtual 114, 3) := by decide +kernel
theorem dX10_lay_47 : decode cX10_lay 47 = .ok (.ireturn, 1) := by decide +kernel
theorem dX10_lay_48 : decode cX10_lay 48 = .ok (.aload_n 0, 1) := by decide +kernel
theorem dX10_lay_49 : decode cX10_lay 49 = .ok (.aload_n 0, 1) := by decide +kernel
theorem dX10_lay_50 : decode cX10_lay 50 = .ok (.getfield 41, 3) := by decide +kernel
theorem dX10_lay_53 : decode cX10_lay 53 = .ok (.bipush 40, 2) := by decide +kernel
theorem dX10_lay_55 : decode cX10_lay 55 = .ok (.iload_n 1, 1) := by decide +kernel
theorem dX10_lay_56 : decode cX10_lay 56 = .ok (.imul, 1) := by decide +kernel
theorem dX10_lay_57 : decode cX10_lay 57 = .ok (.iload_n 2, 1) := by decide +kernel
theorem dX10_lay_58 : decode cX10_lay 58 = .ok (.iadd, 1) := by decide +kernel
theorem dX10_lay_59 : decode cX10_lay 59 = .ok (.iaload, 1) := by decide +kernel
theorem dX10_lay_60 : decode cX10_lay 60 = .ok (.putfield 118, 3) := by decide +kernel
theorem dX10_lay_63 : decode cX10_lay 63 = .ok (.aload_n 0, 1) := by decide +kernel
theorem dX10_lay_64 : decode cX10_lay 64 = .ok (.getfield 41, 3) := by decide +kernel
theorem dX10_lay_67 : decode cX10_lay 67 = .ok (.bipush 40, 2) := by decide +kernel
theorem dX10_lay_69 : decode cX10_lay 69 = .ok (.iload_n 1, 1) := by decide +kernel
theorem dX10_lay_70 : decode cX10_lay 70 = .ok (.imul, 1) := by decide +kernel
theorem dX10_lay_71 : decode cX10_lay 71 = .ok (.iload_n 2, 1) := by decide +kernel
theorem dX10_lay_72 : decode cX10_lay 72 = .ok (.iadd, 1) := by decide +kernel
theorem dX10_lay_73 : decode cX10_lay 73 = .ok (.iload_n 3, 1) := by decide +kernel
theorem dX10_lay_74 : decode cX10_lay 74 = .ok (.iastore, 1) := by decide +kernel
theorem dX10_lay_75 : decode cX10_lay 75 = .ok (.iconst 1, 1) := by decide +kernel
theorem dX10_lay_76 : decode cX10_lay 76 = .ok (.ireturn, 1) := by decide +kernel
theorem dX10_at_0 : decode cX10_at 0 = .ok (.iload_n 1, 1) := by decide +kernel
theorem dX10_at_1 : decode cX10_at 1 = .ok (.invokestatic 110, 3) := by decide +kernel
theorem dX10_at_4 : decode cX10_at 4 = .ok (.ifCond .ne 5, 3) := by decide +kernel
theorem dX10_at_7 : decode cX10_at 7 = .ok (.iconst (-1), 1) := by decide +kernel
theorem dX10_at_8 : decode cX10_at 8 = .ok (.ireturn, 1) := by decide +kernel
theorem dX10_at_9 : decode cX10_at 9 = .ok (.aload_n 0, 1) := by decide +kernel
theorem dX10_at_10 : decode cX10_at 10 = .ok (.getfield 38, 3) := by decide +kernel
theorem dX10_at_13 : decode cX10_at 13 = .ok (.iload_n 1, 1) := by decide +kernel
theorem dX10_at_14 : decode cX10_at 14 = .ok (.iaload, 1) := by decide +kernel
theorem dX10_at_15 : decode cX10_at 15 = .ok (.ifCond .ge 9, 3) := by decide +kernel
theorem dX10_at_18 : decode cX10_at 18 = .ok (.aload_n 0, 1) := by decide +kernel
theorem dX10_at_19 : decode cX10_at 19 = .ok (.iconst 1, 1) := by decide +kernel
theorem dX10_at_20 : decode cX10_at 20 = .ok (.invokevirtual 114, 3) := by decide +kernel
theorem dX10_at_23 : decode cX10_at 23 = .ok (.ireturn, 1) := by decide +kernel
theorem dX10_at_24 : decode cX10_at 24 = .ok (.iload_n 2, 1) := by decide +kernel
theorem dX10_at_25 : decode cX10_at 25 = .ok (.i2l, 1) := by decide +kernel
theorem dX10_at_26 : decode cX10_at 26 = .ok (.lconst 0, 1) := by decide +kernel
theorem dX10_at_27 : decode cX10_at 27 = .ok (.aload_n 0, 1) := by decide +kernel
theorem dX10_at_28 : decode cX10_at 28 = .ok (.getfield 38, 3) := by decide +kernel
theorem dX10_at_31 : decode cX10_at 31 = .ok (.iload_n 1, 1) := by decide +kernel
theorem dX10_at_32 : decode cX10_at 32 = .ok (.iaload, 1) := by decide +kernel
theorem dX10_at_33 : decode cX10_at 33 = .ok (.iconst 1, 1) := by decide +kernel
theorem dX10_at_34 : decode cX10_at 34 = .ok (.isub, 1) := by decide +kernel
theorem dX10_at_35 : decode cX10_at 35 = .ok (.i2l, 1) := by decide +kernel
theorem dX10_at_36 : decode cX10_at 36 = .ok (.invokestatic 98, 3) := by decide +kernel
theorem dX10_at_39 : decode cX10_at 39 = .ok (.ifCond .ne 9, 3) := by decide +kernel
theorem dX10_at_42 : decode cX10_at 42 = .ok (.aload_n 0, 1) := by decide +kernel
theorem dX10_at_43 : decode cX10_at 43 = .ok (.iconst 2, 1) := by decide +kernel
theorem dX10_at_44 : decode cX10_at 44 = .ok (.invokevirtual 114, 3) := by decide +kernel
theorem dX10_at_47 : decode cX10_at 47 = .ok (.ireturn, 1) := by decide +kernel
theorem dX10_at_48 : decode cX10_at 48 = .ok (.aload_n 0, 1) := by decide +kernel
theorem dX10_at_49 : decode cX10_at 49 = .ok (.aload_n 0, 1) := by decide +kernel
theorem dX10_at_50 : decode cX10_at 50 = .ok (.getfield 41, 3) := by decide +kernel
theorem dX10_at_53 : decode cX10_at 53 = .ok (.bipush 40, 2) := by decide +kernel
theorem dX10_at_55 : decode cX10_at 55 = .ok (.iload_n 1, 1) := by decide +kernel
theorem dX10_at_56 : decode cX10_at 56 = .ok (.imul, 1) := by decide +kernel
theorem dX10_at_57 : decode cX10_at 57 = .ok (.iload_n 2, 1) := by decide +kernel
theorem dX10_at_58 : decode cX10_at 58 = .ok (.iadd, 1) := by decide +kernel
theorem dX10_at_59 : decode cX10_at 59 = .ok (.iaload, 1) := by decide +kernel
theorem dX10_at_60 : decode cX10_at 60 = .ok (.putfield 118, 3) := by decide +kernel
theorem dX10_at_63 : decode cX10_at 63 = .ok (.iconst 1, 1) := by decide +kernel
theorem dX10_at_64 : decode cX10_at 64 = .ok (.ireturn, 1) := by decide +kernel
theorem dX10_tear_0 : decode cX10_tear 0 = .ok (.iload_n 1, 1) := by decide +kernel
theorem dX10_tear_1 : decode cX10_tear 1 = .ok (.invokestatic 110, 3) := by decide +kernel
theorem dX10_tear_4 : decode cX10_tear 4 = .ok (.ifCond .ne 5, 3) := by decide +kernel
theorem dX10_tear_7 : decode cX10_tear 7 = .ok (.iconst (-1), 1) := by decide +kernel
theorem dX10_tear_8 : decode cX10_tear 8 = .ok (.ireturn, 1) := by decide +kernel
theorem dX10_tear_9 : decode cX10_tear 9 = .ok (.aload_n 0, 1) := by decide +kernel
theorem dX10_tear_10 : decode cX10_tear 10 = .ok (.getfield 38, 3) := by decide +kernel
theorem dX10_tear_13 : decode cX10_tear 13 = .ok (.iload_n 1, 1) := by decide +kernel
theorem dX10_tear_14 : decode cX10_tear 14 = .ok (.iaload, 1) := by decide +kernel
theorem dX10_tear_15 : decode cX10_tear 15 = .ok (.ifCond .ge 9, 3) := by decide +kernel
theorem dX10_tear_18 : decode cX10_tear 18 = .ok (.aload_n 0, 1) := by decide +kernel
theorem dX10_tear_19 : decode cX10_tear 19 = .ok (.iconst 1, 1) := by decide +kernel
theorem dX10_tear_20 : decode cX10_tear 20 = .ok (.invokevirtual 114, 3) := by decide +kernel
theorem dX10_tear_23 : decode cX10_tear 23 = .ok (.ireturn, 1) := by decide +kernel
theorem dX10_tear_24 : decode cX10_tear 24 = .ok (.aload_n 0, 1) := by decide +kernel
theorem dX10_tear_25 : decode cX10_tear 25 = .ok (.getfield 38, 3) := by decide +kernel
theorem dX10_tear_28 : decode cX10_tear 28 = .ok (.iload_n 1, 1) := by decide +kernel
theorem dX10_tear_29 : decode cX10_tear 29 = .ok (.iconst (-1), 1) := by decide +kernel
theorem dX10_tear_30 : decode cX10_tear 30 = .ok (.iastore, 1) := by decide +kernel
theorem dX10_tear_31 : decode cX10_tear 31 = .ok (.iconst 1, 1) := by decide +kernel
theorem dX10_tear_32 : decode cX10_tear 32 = .ok (.ireturn, 1) := by decide +kernel
theorem dX10_copy_0 : decode cX10_copy 0 = .ok (.iload_n 1, 1) := by decide +kernel
theorem dX10_copy_1 : decode cX10_copy 1 = .ok (.invokestatic 110, 3) := by decide +kernel
theorem dX10_copy_4 : decode cX10_copy 4 = .ok (.ifCond .eq 10, 3) := by decide +kernel
theorem dX10_copy_7 : decode cX10_copy 7 = .ok (.iload_n 3, 1) := by decide +kernel
theorem dX10_copy_8 : decode cX10_copy 8 = .ok (.invokestatic 110, 3) := by decide +kernel
theorem dX10_copy_11 : decode cX10_copy 11 = .ok (.ifCond .ne 5, 3) := by decide +kernel
theorem dX10_copy_14 : decode cX10_copy 14 = .ok (.iconst (-1), 1) := by decide +kernel
theorem dX10_copy_15 : decode cX10_copy 15 = .ok (.ireturn, 1) := by decide +kernel
theorem dX10_copy_16 : decode cX10_copy 16 = .ok (.iload 5, 2) := by decide +kernel
theorem dX10_copy_18 : decode cX10_copy 18 = .ok (.ifCond .ge 9, 3) := by decide +kernel
theorem dX10_copy_21 : decode cX10_copy 21 = .ok (.aload_n 0, 1) := by decide +kernel
theorem dX10_copy_22 : decode cX10_copy 22 = .ok (.iconst 5, 1) := by decide +kernel
theorem dX10_copy_23 : decode cX10_copy 23 = .ok (.invokevirtual 114, 3) := by decide +kernel
theorem dX10_copy_26 : decode cX10_copy 26 = .ok (.ireturn, 1) := by decide +kernel
theorem dX10_copy_27 : decode cX10_copy 27 = .ok (.aload_n 0, 1) := by decide +kernel
theorem dX10_copy_28 : decode cX10_copy 28 = .ok (.getfield 38, 3) := by decide +kernel
theorem dX10_copy_31 : decode cX10_copy 31 = .ok (.iload_n 1, 1) := by decide +kernel
theorem dX10_copy_32 : decode cX10_copy 32 = .ok (.iaload, 1) := by decide +kernel
theorem dX10_copy_33 : decode cX10_copy 33 = .ok (.ifCond .lt 12, 3) := by decide +kernel
theorem dX10_copy_36 : decode cX10_copy 36 = .ok (.aload_n 0, 1) := by decide +kernel
theorem dX10_copy_37 : decode cX10_copy 37 = .ok (.getfield 38, 3) := by decide +kernel
theorem dX10_copy_40 : decode cX10_copy 40 = .ok (.iload_n 3, 1) := by decide +kernel
theorem dX10_copy_41 : decode cX10_copy 41 = .ok (.iaload, 1) := by decide +kernel
theorem dX10_copy_42 : decode cX10_copy 42 = .ok (.ifCond .ge 9, 3) := by decide +kernel
theorem dX10_copy_45 : decode cX10_copy 45 = .ok (.aload_n 0, 1) := by decide +kernel
theorem dX10_copy_46 : decode cX10_copy 46 = .ok (.iconst 1, 1) := by decide +kernel
theorem dX10_copy_47 : decode cX10_copy 47 = .ok (.invokevirtual 114, 3) := by decide +kernel
theorem dX10_copy_50 : decode cX10_copy 50 = .ok (.ireturn, 1) := by decide +kernel
theorem dX10_copy_51 : decode cX10_copy 51 = .ok (.iload_n 2, 1) := by decide +kernel
theorem dX10_copy_52 : decode cX10_copy 52 = .ok (.ifCond .lt 35, 3) := by decide +kernel
theorem dX10_copy_55 : decode cX10_copy 55 = .ok (.iload 4, 2) := by decide +kernel
theorem dX10_copy_57 : decode cX10_copy 57 = .ok (.ifCond .lt 30, 3) := by decide +kernel
theorem dX10_copy_60 : decode cX10_copy 60 = .ok (.iload_n 2, 1) := by decide +kernel
theorem dX10_copy_61 : decode cX10_copy 61 = .ok (.aload_n 0, 1) := by decide +kernel
theorem dX10_copy_62 : decode cX10_copy 62 = .ok (.getfield 38, 3) := by decide +kernel
theorem dX10_copy_65 : decode cX10_copy 65 = .ok (.iload_n 1, 1) := by decide +kernel
theorem dX10_copy_66 : decode cX10_copy 66 = .ok (.iaload, 1) := by decide +kernel
theorem dX10_copy_67 : decode cX10_copy 67 = .ok (.iload 5, 2) := by decide +kernel
theorem dX10_copy_69 : decode cX10_copy 69 = .ok (.isub, 1) := by decide +kernel
theorem dX10_copy_70 : decode cX10_copy 70 = .ok (.if_icmp .gt 17, 3) := by decide +kernel
theorem dX10_copy_73 : decode cX10_copy 73 = .ok (.iload 4, 2) := by decide +kernel
theorem dX10_copy_75 : decode cX10_copy 75 = .ok (.aload_n 0, 1) := by decide +kernel
theorem dX10_copy_76 : decode cX10_copy 76 = .ok (.getfield 38, 3) := by decide +kernel
theorem dX10_copy_79 : decode cX10_copy 79 = .ok (.iload_n 3, 1) := by decide +kernel
theorem dX10_copy_80 : decode cX10_copy 80 = .ok (.iaload, 1) := by decide +kernel
theorem dX10_copy_81 : decode cX10_copy 81 = .ok (.iload 5, 2) := by decide +kernel
theorem dX10_copy_83 : decode cX10_copy 83 = .ok (.isub, 1) := by decide +kernel
theorem dX10_copy_84 : decode cX10_copy 84 = .ok (.if_icmp .le 9, 3) := by decide +kernel
theorem dX10_copy_87 : decode cX10_copy 87 = .ok (.aload_n 0, 1) := by decide +kernel
theorem dX10_copy_88 : decode cX10_copy 88 = .ok (.iconst 2, 1) := by decide +kernel
theorem dX10_copy_89 : decode cX10_copy 89 = .ok (.invokevirtual 114, 3) := by decide +kernel
theorem dX10_copy_92 : decode cX10_copy 92 = .ok (.ireturn, 1) := by decide +kernel
theorem dX10_copy_93 : decode cX10_copy 93 = .ok (.iconst 0, 1) := by decide +kernel
theorem dX10_copy_94 : decode cX10_copy 94 = .ok (.istore 6, 2) := by decide +kernel
theorem dX10_copy_96 : decode cX10_copy 96 = .ok (.iload 6, 2) := by decide +kernel
theorem dX10_copy_98 : decode cX10_copy 98 = .ok (.iload 5, 2) := by decide +kernel
theorem dX10_copy_100 : decode cX10_copy 100 = .ok (.if_icmp .ge 30, 3) := by decide +kernel
theorem dX10_copy_103 : decode cX10_copy 103 = .ok (.aload_n 0, 1) := by decide +kernel
theorem dX10_copy_104 : decode cX10_copy 104 = .ok (.getfield 62, 3) := by decide +kernel
theorem dX10_copy_107 : decode cX10_copy 107 = .ok (.iload 6, 2) := by decide +kernel
theorem dX10_copy_109 : decode cX10_copy 109 = .ok (.aload_n 0, 1) := by decide +kernel
theorem dX10_copy_110 : decode cX10_copy 110 = .ok (.getfield 41, 3) := by decide +kernel
theorem dX10_copy_113 : decode cX10_copy 113 = .ok (.bipush 40, 2) := by decide +kernel
theorem dX10_copy_115 : decode cX10_copy 115 = .ok (.iload_n 1, 1) := by decide +kernel
theorem dX10_copy_116 : decode cX10_copy 116 = .ok (.imul, 1) := by decide +kernel
theorem dX10_copy_117 : decode cX10_copy 117 = .ok (.iload_n 2, 1) := by decide +kernel
theorem dX10_copy_118 : decode cX10_copy 118 = .ok (.iadd, 1) := by decide +kernel
theorem dX10_copy_119 : decode cX10_copy 119 = .ok (.iload 6, 2) := by decide +kernel
theorem dX10_copy_121 : decode cX10_copy 121 = .ok (.iadd, 1) := by decide +kernel
theorem dX10_copy_122 : decode cX10_copy 122 = .ok (.iaload, 1) := by decide +kernel
theorem dX10_copy_123 : decode cX10_copy 123 = .ok (.iastore, 1) := by decide +kernel
theorem dX10_copy_124 : decode cX10_copy 124 = .ok (.iinc 6 1, 3) := by decide +kernel
theorem dX10_copy_127 : decode cX10_copy 127 = .ok (.goto (-31), 3) := by decide +kernel
theorem dX10_copy_130 : decode cX10_copy 130 = .ok (.iconst 0, 1) := by decide +kernel
theorem dX10_copy_131 : decode cX10_copy 131 = .ok (.istore 6, 2) := by decide +kernel
theorem dX10_copy_133 : decode cX10_copy 133 = .ok (.iload 6, 2) := by decide +kernel
theorem dX10_copy_135 : decode cX10_copy 135 = .ok (.iload 5, 2) := by decide +kernel
theorem dX10_copy_137 : decode cX10_copy 137 = .ok (.if_icmp .ge 31, 3) := by decide +kernel
theorem dX10_copy_140 : decode cX10_copy 140 = .ok (.aload_n 0, 1) := by decide +kernel
theorem dX10_copy_141 : decode cX10_copy 141 = .ok (.getfield 41, 3) := by decide +kernel
theorem dX10_copy_144 : decode cX10_copy 144 = .ok (.bipush 40, 2) := by decide +kernel
theorem dX10_copy_146 : decode cX10_copy 146 = .ok (.iload_n 3, 1) := by decide +kernel
theorem dX10_copy_147 : decode cX10_copy 147 = .ok (.imul, 1) := by decide +kernel
theorem dX10_copy_148 : decode cX10_copy 148 = .ok (.iload 4, 2) := by decide +kernel
theorem dX10_copy_150 : decode cX10_copy 150 = .ok (.iadd, 1) := by decide +kernel
theorem dX10_copy_151 : decode cX10_copy 151 = .ok (.iload 6, 2) := by decide +kernel
theorem dX10_copy_153 : decode cX10_copy 153 = .ok (.iadd, 1) := by decide +kernel
theorem dX10_copy_154 : decode cX10_copy 154 = .ok (.aload_n 0, 1) := by decide +kernel
theorem dX10_copy_155 : decode cX10_copy 155 = .ok (.getfield 62, 3) := by decide +kernel
theorem dX10_copy_158 : decode cX10_copy 158 = .ok (.iload 6, 2) := by decide +kernel
theorem dX10_copy_160 : decode cX10_copy 160 = .ok (.iaload, 1) := by decide +kernel
theorem dX10_copy_161 : decode cX10_copy 161 = .ok (.iastore, 1) := by decide +kernel
theorem dX10_copy_162 : decode cX10_copy 162 = .ok (.iinc 6 1, 3) := by decide +kernel
theorem dX10_copy_165 : decode cX10_copy 165 = .ok (.goto (-32), 3) := by decide +kernel
theorem dX10_copy_168 : decode cX10_copy 168 = .ok (.iconst 1, 1) := by decide +kernel
theorem dX10_copy_169 : decode cX10_copy 169 = .ok (.ireturn, 1) := by decide +kernel
theorem dX10_mean_0 : decode cX10_mean 0 = .ok (.iload_n 1, 1) := by decide +kernel
theorem dX10_mean_1 : decode cX10_mean 1 = .ok (.invokestatic 110, 3) := by decide +kernel
theorem dX10_mean_4 : decode cX10_mean 4 = .ok (.ifCond .ne 5, 3) := by decide +kernel
theorem dX10_mean_7 : decode cX10_mean 7 = .ok (.iconst (-1), 1) := by decide +kernel
theorem dX10_mean_8 : decode cX10_mean 8 = .ok (.ireturn, 1) := by decide +kernel
theorem dX10_mean_9 : decode cX10_mean 9 = .ok (.aload_n 0, 1) := by decide +kernel
theorem dX10_mean_10 : decode cX10_mean 10 = .ok (.getfield 38, 3) := by decide +kernel
theorem dX10_mean_13 : decode cX10_mean 13 = .ok (.iload_n 1, 1) := by decide +kernel
theorem dX10_mean_14 : decode cX10_mean 14 = .ok (.iaload, 1) := by decide +kernel
theorem dX10_mean_15 : decode cX10_mean 15 = .ok (.ifCond .ge 9, 3) := by decide +kernel
theorem dX10_mean_18 : decode cX10_mean 18 = .ok (.aload_n 0, 1) := by decide +kernel
theorem dX10_mean_19 : decode cX10_mean 19 = .ok (.iconst 1, 1) := by decide +kernel
theorem dX10_mean_20 : decode cX10_mean 20 = .ok (.invokevirtual 114, 3) := by decide +kernel
theorem dX10_mean_23 : decode cX10_mean 23 = .ok (.ireturn, 1) := by decide +kernel
theorem dX10_mean_24 : decode cX10_mean 24 = .ok (.aload_n 0, 1) := by decide +kernel
theorem dX10_mean_25 : decode cX10_mean 25 = .ok (.getfield 38, 3) := by decide +kernel
theorem dX10_mean_28 : decode cX10_mean 28 = .ok (.iload_n 1, 1) := by decide +kernel
theorem dX10_mean_29 : decode cX10_mean 29 = .ok (.iaload, 1) := by decide +kernel
theorem dX10_mean_30 : decode cX10_mean 30 = .ok (.ifCond .ne 9, 3) := by decide +kernel
theorem dX10_mean_33 : decode cX10_mean 33 = .ok (.aload_n 0, 1) := by decide +kernel
theorem dX10_mean_34 : decode cX10_mean 34 = .ok (.iconst 4, 1) := by decide +kernel
theorem dX10_mean_35 : decode cX10_mean 35 = .ok (.invokevirtual 114, 3) := by decide +kernel
theorem dX10_mean_38 : decode cX10_mean 38 = .ok (.ireturn, 1) := by decide +kernel
theorem dX10_mean_39 : decode cX10_mean 39 = .ok (.lconst 0, 1) := by decide +kernel
theorem dX10_mean_40 : decode cX10_mean 40 = .ok (.lstore_n 2, 1) := by decide +kernel
theorem dX10_mean_41 : decode cX10_mean 41 = .ok (.iconst 0, 1) := by decide +kernel
theorem dX10_mean_42 : decode cX10_mean 42 = .ok (.istore 4, 2) := by decide +kernel
theorem dX10_mean_44 : decode cX10_mean 44 = .ok (.iload 4, 2) := by decide +kernel
theorem dX10_mean_46 : decode cX10_mean 46 = .ok (.aload_n 0, 1) := by decide +kernel
theorem dX10_mean_47 : decode cX10_mean 47 = .ok (.getfield 38, 3) := by decide +kernel
theorem dX10_mean_50 : decode cX10_mean 50 = .ok (.iload_n 1, 1) := by decide +kernel
theorem dX10_mean_51 : decode cX10_mean 51 = .ok (.iaload, 1) := by decide +kernel
theorem dX10_mean_52 : decode cX10_mean 52 = .ok (.if_icmp .ge 25, 3) := by decide +kernel
theorem dX10_mean_55 : decode cX10_mean 55 = .ok (.lload_n 2, 1) := by decide +kernel
theorem dX10_mean_56 : decode cX10_mean 56 = .ok (.aload_n 0, 1) := by decide +kernel
theorem dX10_mean_57 : decode cX10_mean 57 = .ok (.getfield 41, 3) := by decide +kernel
theorem dX10_mean_60 : decode cX10_mean 60 = .ok (.bipush 40, 2) := by decide +kernel
theorem dX10_mean_62 : decode cX10_mean 62 = .ok (.iload_n 1, 1) := by decide +kernel
theorem dX10_mean_63 : decode cX10_mean 63 = .ok (.imul, 1) := by decide +kernel
theorem dX10_mean_64 : decode cX10_mean 64 = .ok (.iload 4, 2) := by decide +kernel
theorem dX10_mean_66 : decode cX10_mean 66 = .ok (.iadd, 1) := by decide +kernel
theorem dX10_mean_67 : decode cX10_mean 67 = .ok (.iaload, 1) := by decide +kernel
theorem dX10_mean_68 : decode cX10_mean 68 = .ok (.i2l, 1) := by decide +kernel
theorem dX10_mean_69 : decode cX10_mean 69 = .ok (.ladd, 1) := by decide +kernel
theorem dX10_mean_70 : decode cX10_mean 70 = .ok (.lstore_n 2, 1) := by decide +kernel
theorem dX10_mean_71 : decode cX10_mean 71 = .ok (.iinc 4 1, 3) := by decide +kernel
theorem dX10_mean_74 : decode cX10_mean 74 = .ok (.goto (-30), 3) := by decide +kernel
theorem dX10_mean_77 : decode cX10_mean 77 = .ok (.aload_n 0, 1) := by decide +kernel
theorem dX10_mean_78 : decode cX10_mean 78 = .ok (.lload_n 2, 1) := by decide +kernel
theorem dX10_mean_79 : decode cX10_mean 79 = .ok (.aload_n 0, 1) := by decide +kernel
theorem dX10_mean_80 : decode cX10_mean 80 = .ok (.getfield 38, 3) := by decide +kernel
theorem dX10_mean_83 : decode cX10_mean 83 = .ok (.iload_n 1, 1) := by decide +kernel
theorem dX10_mean_84 : decode cX10_mean 84 = .ok (.iaload, 1) := by decide +kernel
theorem dX10_mean_85 : decode cX10_mean 85 = .ok (.i2l, 1) := by decide +kernel
theorem dX10_mean_86 : decode cX10_mean 86 = .ok (.ldiv, 1) := by decide +kernel
theorem dX10_mean_87 : decode cX10_mean 87 = .ok (.l2i, 1) := by decide +kernel
theorem dX10_mean_88 : decode cX10_mean 88 = .ok (.putfield 118, 3) := by decide +kernel
theorem dX10_mean_91 : decode cX10_mean 91 = .ok (.iconst 1, 1) := by decide +kernel
theorem dX10_mean_92 : decode cX10_mean 92 = .ok (.ireturn, 1) := by decide +kernel
theorem dX10_text_0 : decode cX10_text 0 = .ok (.iload_n 1, 1) := by decide +kernel
theorem dX10_text_1 : decode cX10_text 1 = .ok (.invokestatic 121, 3) := by decide +kernel
theorem dX10_text_4 : decode cX10_text 4 = .ok (.ifCond .eq 9, 3) := by decide +kernel
theorem dX10_text_7 : decode cX10_text 7 = .ok (.iload_n 2, 1) := by decide +kernel
theorem dX10_text_8 : decode cX10_text 8 = .ok (.bipush 60, 2) := by decide +kernel
theorem dX10_text_10 : decode cX10_text 10 = .ok (.if_icmp .le 5, 3) := by decide +kernel
theorem dX10_text_13 : decode cX10_text 13 = .ok (.iconst (-1), 1) := by decide +kernel
theorem dX10_text_14 : decode cX10_text 14 = .ok (.ireturn, 1) := by decide +kernel
theorem dX10_text_15 : decode cX10_text 15 = .ok (.iload_n 2, 1) := by decide +kernel
theorem dX10_text_16 : decode cX10_text 16 = .ok (.ifCond .ge 9, 3) := by decide +kernel
theorem dX10_text_19 : decode cX10_text 19 = .ok (.aload_n 0, 1) := by decide +kernel
theorem dX10_text_20 : decode cX10_text 20 = .ok (.iconst 5, 1) := by decide +kernel
theorem dX10_text_21 : decode cX10_text 21 = .ok (.invokevirtual 114, 3) := by decide +kernel
theorem dX10_text_24 : decode cX10_text 24 = .ok (.ireturn, 1) := by decide +kernel
theorem dX10_text_25 : decode cX10_text 25 = .ok (.aload_n 0, 1) := by decide +kernel
theorem dX10_text_26 : decode cX10_text 26 = .ok (.getfield 44, 3) := by decide +kernel
theorem dX10_text_29 : decode cX10_text 29 = .ok (.iload_n 1, 1) := by decide +kernel
theorem dX10_text_30 : decode cX10_text 30 = .ok (.iload_n 2, 1) := by decide +kernel
theorem dX10_text_31 : decode cX10_text 31 = .ok (.iastore, 1) := by decide +kernel
theorem dX10_text_32 : decode cX10_text 32 = .ok (.iconst 0, 1) := by decide +kernel
theorem dX10_text_33 : decode cX10_text 33 = .ok (.istore_n 3, 1) := by decide +kernel
theorem dX10_text_34 : decode cX10_text 34 = .ok (.iload_n 3, 1) := by decide +kernel
theorem dX10_text_35 : decode cX10_text 35 = .ok (.bipush 60, 2) := by decide +kernel
theorem dX10_text_37 : decode cX10_text 37 = .ok (.if_icmp .ge 22, 3) := by decide +kernel
theorem dX10_text_40 : decode cX10_text 40 = .ok (.aload_n 0, 1) := by decide +kernel
theorem dX10_text_41 : decode cX10_text 41 = .ok (.getfield 47, 3) := by decide +kernel
theorem dX10_text_44 : decode cX10_text 44 = .ok (.bipush 60, 2) := by decide +kernel
theorem dX10_text_46 : decode cX10_text 46 = .ok (.iload_n 1, 1) := by decide +kernel
theorem dX10_text_47 : decode cX10_text 47 = .ok (.imul, 1) := by decide +kernel
theorem dX10_text_48 : decode cX10_text 48 = .ok (.iload_n 3, 1) := by decide +kernel
theorem dX10_text_49 : decode cX10_text 49 = .ok (.iadd, 1) := by decide +kernel
theorem dX10_text_50 : decode cX10_text 50 = .ok (.bipush 32, 2) := by decide +kernel
theorem dX10_text_52 : decode cX10_text 52 = .ok (.iastore, 1) := by decide +kernel
theorem dX10_text_53 : decode cX10_text 53 = .ok (.iinc 3 1, 3) := by decide +kernel
theorem dX10_text_56 : decode cX10_text 56 = .ok (.goto (-22), 3) := by decide +kernel
theorem dX10_text_59 : decode cX10_text 59 = .ok (.iload_n 2, 1) := by decide +kernel
theorem dX10_text_60 : decode cX10_text 60 = .ok (.ireturn, 1) := by decide +kernel
theorem dX10_put_0 : decode cX10_put 0 = .ok (.iload_n 1, 1) := by decide +kernel
theorem dX10_put_1 : decode cX10_put 1 = .ok (.invokestatic 121, 3) := by decide +kernel
theorem dX10_put_4 : decode cX10_put 4 = .ok (.ifCond .ne 5, 3) := by decide +kernel
theorem dX10_put_7 : decode cX10_put 7 = .ok (.iconst (-1), 1) := by decide +kernel
theorem dX10_put_8 : decode cX10_put 8 = .ok (.ireturn, 1) := by decide +kernel
theorem dX10_put_9 : decode cX10_put 9 = .ok (.aload_n 0, 1) := by decide +kernel
theorem dX10_put_10 : decode cX10_put 10 = .ok (.getfield 44, 3) := by decide +kernel
theorem dX10_put_13 : decode cX10_put 13 = .ok (.iload_n 1, 1) := by decide +kernel
theorem dX10_put_14 : decode cX10_put 14 = .ok (.iaload, 1) := by decide +kernel
theorem dX10_put_15 : decode cX10_put 15 = .ok (.ifCond .ge 9, 3) := by decide +kernel
theorem dX10_put_18 : decode cX10_put 18 = .ok (.aload_n 0, 1) := by decide +kernel
theorem dX10_put_19 : decode cX10_put 19 = .ok (.iconst 1, 1) := by decide +kernel
theorem dX10_put_20 : decode cX10_put 20 = .ok (.invokevirtual 114, 3) := by decide +kernel
theorem dX10_put_23 : decode cX10_put 23 = .ok (.ireturn, 1) := by decide +kernel
theorem dX10_put_24 : decode cX10_put 24 = .ok (.iload_n 2, 1) := by decide +kernel
theorem dX10_put_25 : decode cX10_put 25 = .ok (.i2l, 1) := by decide +kernel
theorem dX10_put_26 : decode cX10_put 26 = .ok (.lconst 0, 1) := by decide +kernel
theorem dX10_put_27 : decode cX10_put 27 = .ok (.aload_n 0, 1) := by decide +kernel
theorem dX10_put_28 : decode cX10_put 28 = .ok (.getfield 44, 3) := by decide +kernel
theorem dX10_put_31 : decode cX10_put 31 = .ok (.iload_n 1, 1) := by decide +kernel
theorem dX10_put_32 : decode cX10_put 32 = .ok (.iaload, 1) := by decide +kernel
theorem dX10_put_33 : decode cX10_put 33 = .ok (.iconst 1, 1) := by decide +kernel
theorem dX10_put_34 : decode cX10_put 34 = .ok (.isub, 1) := by decide +kernel
theorem dX10_put_35 : decode cX10_put 35 = .ok (.i2l, 1) := by decide +kernel
theorem dX10_put_36 : decode cX10_put 36 = .ok (.invokestatic 98, 3) := by decide +kernel
theorem dX10_put_39 : decode cX10_put 39 = .ok (.ifCond .ne 9, 3) := by decide +kernel
theorem dX10_put_42 : decode cX10_put 42 = .ok (.aload_n 0, 1) := by decide +kernel
theorem dX10_put_43 : decode cX10_put 43 = .ok (.iconst 2, 1) := by decide +kernel
theorem dX10_put_44 : decode cX10_put 44 = .ok (.invokevirtual 114, 3) := by decide +kernel
theorem dX10_put_47 : decode cX10_put 47 = .ok (.ireturn, 1) := by decide +kernel
theorem dX10_put_48 : decode cX10_put 48 = .ok (.aload_n 0, 1) := by decide +kernel
theorem dX10_put_49 : decode cX10_put 49 = .ok (.getfield 47, 3) := by decide +kernel
theorem dX10_put_52 : decode cX10_put 52 = .ok (.bipush 60, 2) := by decide +kernel
theorem dX10_put_54 : decode cX10_put 54 = .ok (.iload_n 1, 1) := by decide +kernel
theorem dX10_put_55 : decode cX10_put 55 = .ok (.imul, 1) := by decide +kernel
theorem dX10_put_56 : decode cX10_put 56 = .ok (.iload_n 2, 1) := by decide +kernel
theorem dX10_put_57 : decode cX10_put 57 = .ok (.iadd, 1) := by decide +kernel
theorem dX10_put_58 : decode cX10_put 58 = .ok (.iaload, 1) := by decide +kernel
theorem dX10_put_59 : decode cX10_put 59 = .ok (.istore 4, 2) := by decide +kernel
theorem dX10_put_61 : decode cX10_put 61 = .ok (.aload_n 0, 1) := by decide +kernel
theorem dX10_put_62 : decode cX10_put 62 = .ok (.getfield 47, 3) := by decide +kernel
theorem dX10_put_65 : decode cX10_put 65 = .ok (.bipush 60, 2) := by decide +kernel
theorem dX10_put_67 : decode cX10_put 67 = .ok (.iload_n 1, 1) := by decide +kernel
theorem dX10_put_68 : decode cX10_put 68 = .ok (.imul, 1) := by decide +kernel
theorem dX10_put_69 : decode cX10_put 69 = .ok (.iload_n 2, 1) := by decide +kernel
theorem dX10_put_70 : decode cX10_put 70 = .ok (.iadd, 1) := by decide +kernel
theorem dX10_put_71 : decode cX10_put 71 = .ok (.iload_n 3, 1) := by decide +kernel
theorem dX10_put_72 : decode cX10_put 72 = .ok (.i2b, 1) := by decide +kernel
theorem dX10_put_73 : decode cX10_put 73 = .ok (.iastore, 1) := by decide +kernel
theorem dX10_put_74 : decode cX10_put 74 = .ok (.sipush 1000, 3) := by decide +kernel
theorem dX10_put_77 : decode cX10_put 77 = .ok (.iload 4, 2) := by decide +kernel
theorem dX10_put_79 : decode cX10_put 79 = .ok (.iadd, 1) := by decide +kernel
theorem dX10_put_80 : decode cX10_put 80 = .ok (.ireturn, 1) := by decide +kernel
theorem dX10_byteOf_0 : decode cX10_byteOf 0 = .ok (.aload_n 0, 1) := by decide +kernel
theorem dX10_byteOf_1 : decode cX10_byteOf 1 = .ok (.getfield 124, 3) := by decide +kernel
theorem dX10_byteOf_4 : decode cX10_byteOf 4 = .ok (.aload_n 0, 1) := by decide +kernel
theorem dX10_byteOf_5 : decode cX10_byteOf 5 = .ok (.getfield 44, 3) := by decide +kernel
theorem dX10_byteOf_8 : decode cX10_byteOf 8 = .ok (.iload_n 1, 1) := by decide +kernel
theorem dX10_byteOf_9 : decode cX10_byteOf 9 = .ok (.iaload, 1) := by decide +kernel
theorem dX10_byteOf_10 : decode cX10_byteOf 10 = .ok (.if_icmp .ge 20, 3) := by decide +kernel
theorem dX10_byteOf_13 : decode cX10_byteOf 13 = .ok (.aload_n 0, 1) := by decide +kernel
theorem dX10_byteOf_14 : decode cX10_byteOf 14 = .ok (.getfield 47, 3) := by decide +kernel
theorem dX10_byteOf_17 : decode cX10_byteOf 17 = .ok (.bipush 60, 2) := by decide +kernel
theorem dX10_byteOf_19 : decode cX10_byteOf 19 = .ok (.iload_n 1, 1) := by decide +kernel
theorem dX10_byteOf_20 : decode cX10_byteOf 20 = .ok (.imul, 1) := by decide +kernel
theorem dX10_byteOf_21 : decode cX10_byteOf 21 = .ok (.aload_n 0, 1) := by decide +kernel
theorem dX10_byteOf_22 : decode cX10_byteOf 22 = .ok (.getfield 124, 3) := by decide +kernel
theorem dX10_byteOf_25 : decode cX10_byteOf 25 = .ok (.iadd, 1) := by decide +kernel
theorem dX10_byteOf_26 : decode cX10_byteOf 26 = .ok (.iaload, 1) := by decide +kernel
theorem dX10_byteOf_27 : decode cX10_byteOf 27 = .ok (.goto 6, 3) := by decide +kernel
theorem dX10_byteOf_30 : decode cX10_byteOf 30 = .ok (.sipush (-1000), 3) := by decide +kernel
theorem dX10_byteOf_33 : decode cX10_byteOf 33 = .ok (.ireturn, 1) := by decide +kernel
theorem dX10_skip_0 : decode cX10_skip 0 = .ok (.aload_n 0, 1) := by decide +kernel
theorem dX10_skip_1 : decode cX10_skip 1 = .ok (.iload_n 1, 1) := by decide +kernel
theorem dX10_skip_2 : decode cX10_skip 2 = .ok (.invokevirtual 127, 3) := by decide +kernel
theorem dX10_skip_5 : decode cX10_skip 5 = .ok (.bipush 32, 2) := by decide +kernel
theorem dX10_skip_7 : decode cX10_skip 7 = .ok (.if_icmp .ne 16, 3) := by decide +kernel
theorem dX10_skip_10 : decode cX10_skip 10 = .ok (.aload_n 0, 1) := by decide +kernel
theorem dX10_skip_11 : decode cX10_skip 11 = .ok (.dup, 1) := by decide +kernel
theorem dX10_skip_12 : decode cX10_skip 12 = .ok (.getfield 124, 3) := by decide +kernel
theorem dX10_skip_15 : decode cX10_skip 15 = .ok (.iconst 1, 1) := by decide +kernel
theorem dX10_skip_16 : decode cX10_skip 16 = .ok (.iadd, 1) := by decide +kernel
theorem dX10_skip_17 : decode cX10_skip 17 = .ok (.putfield 124, 3) := by decide +kernel
theorem dX10_skip_20 : decode cX10_skip 20 = .ok (.goto (-20), 3) := by decide +kernel
theorem dX10_skip_23 : decode cX10_skip 23 = .ok (.return_, 1) := by decide +kernel
theorem dX10_figure_0 : decode cX10_figure 0 = .ok (.aload_n 0, 1) := by decide +kernel
theorem dX10_figure_1 : decode cX10_figure 1 = .ok (.iload_n 1, 1) := by decide +kernel
theorem dX10_figure_2 : decode cX10_figure 2 = .ok (.invokevirtual 127, 3) := by decide +kernel
theorem dX10_figure_5 : decode cX10_figure 5 = .ok (.istore 4, 2) := by decide +kernel
theorem dX10_figure_7 : decode cX10_figure 7 = .ok (.aload_n 0, 1) := by decide +kernel
theorem dX10_figure_8 : decode cX10_figure 8 = .ok (.getfield 130, 3) := by decide +kernel
theorem dX10_figure_11 : decode cX10_figure 11 = .ok (.ifCond .lt 5, 3) := by decide +kernel
theorem dX10_figure_14 : decode cX10_figure 14 = .ok (.iconst 0, 1) := by decide +kernel
theorem dX10_figure_15 : decode cX10_figure 15 = .ok (.ireturn, 1) := by decide +kernel
theorem dX10_figure_16 : decode cX10_figure 16 = .ok (.iload 4, 2) := by decide +kernel
theorem dX10_figure_18 : decode cX10_figure 18 = .ok (.i2l, 1) := by decide +kernel
theorem dX10_figure_19 : decode cX10_figure 19 = .ok (.bipush 48, 2) := by decide +kernel
theorem dX10_figure_21 : decode cX10_figure 21 = .ok (.iload_n 2, 1) := by decide +kernel
theorem dX10_figure_22 : decode cX10_figure 22 = .ok (.iadd, 1) := by decide +kernel
theorem dX10_figure_23 : decode cX10_figure 23 = .ok (.i2l, 1) := by decide +kernel
theorem dX10_figure_24 : decode cX10_figure 24 = .ok (.bipush 48, 2) := by decide +kernel
theorem dX10_figure_26 : decode cX10_figure 26 = .ok (.iload_n 3, 1) := by decide +kernel
theorem dX10_figure_27 : decode cX10_figure 27 = .ok (.iadd, 1) := by decide +kernel
theorem dX10_figure_28 : decode cX10_figure 28 = .ok (.i2l, 1) := by decide +kernel
theorem dX10_figure_29 : decode cX10_figure 29 = .ok (.invokestatic 98, 3) := by decide +kernel
theorem dX10_figure_32 : decode cX10_figure 32 = .ok (.ifCond .ne 13, 3) := by decide +kernel
theorem dX10_figure_35 : decode cX10_figure 35 = .ok (.aload_n 0, 1) := by decide +kernel
theorem dX10_figure_36 : decode cX10_figure 36 = .ok (.aload_n 0, 1) := by decide +kernel
theorem dX10_figure_37 : decode cX10_figure 37 = .ok (.getfield 124, 3) := by decide +kernel
theorem dX10_figure_40 : decode cX10_figure 40 = .ok (.putfield 130, 3) := by decide +kernel
theorem dX10_figure_43 : decode cX10_figure 43 = .ok (.iconst 0, 1) := by decide +kernel
theorem dX10_figure_44 : decode cX10_figure 44 = .ok (.ireturn, 1) := by decide +kernel
theorem dX10_figure_45 : decode cX10_figure 45 = .ok (.aload_n 0, 1) := by decide +kernel
theorem dX10_figure_46 : decode cX10_figure 46 = .ok (.dup, 1) := by decide +kernel
theorem dX10_figure_47 : decode cX10_figure 47 = .ok (.getfield 124, 3) := by decide +kernel
theorem dX10_figure_50 : decode cX10_figure 50 = .ok (.iconst 1, 1) := by decide +kernel
theorem dX10_figure_51 : decode cX10_figure 51 = .ok (.iadd, 1) := by decide +kernel
theorem dX10_figure_52 : decode cX10_figure 52 = .ok (.putfield 124, 3) := by decide +kernel
theorem dX10_figure_55 : decode cX10_figure 55 = .ok (.iload 4, 2) := by decide +kernel
theorem dX10_figure_57 : decode cX10_figure 57 = .ok (.bipush 48, 2) := by decide +kernel
theorem dX10_figure_59 : decode cX10_figure 59 = .ok (.isub, 1) := by decide +kernel
theorem dX10_figure_60 : decode cX10_figure 60 = .ok (.ireturn, 1) := by decide +kernel
theorem dX10_kindOf_0 : decode cX10_kindOf 0 = .ok (.iload_n 0, 1) := by decide +kernel
theorem dX10_kindOf_1 : decode cX10_kindOf 1 = .ok (.bipush 99, 2) := by decide +kernel
theorem dX10_kindOf_3 : decode cX10_kindOf 3 = .ok (.if_icmp .ne 7, 3) := by decide +kernel
theorem dX10_kindOf_6 : decode cX10_kindOf 6 = .ok (.iconst 0, 1) := by decide +kernel
theorem dX10_kindOf_7 : decode cX10_kindOf 7 = .ok (.goto 54, 3) := by decide +kernel
theorem dX10_kindOf_10 : decode cX10_kindOf 10 = .ok (.iload_n 0, 1) := by decide +kernel
theorem dX10_kindOf_11 : decode cX10_kindOf 11 = .ok (.bipush 104, 2) := by decide +kernel
theorem dX10_kindOf_13 : decode cX10_kindOf 13 = .ok (.if_icmp .ne 7, 3) := by decide +kernel
theorem dX10_kindOf_16 : decode cX10_kindOf 16 = .ok (.iconst 1, 1) := by decide +kernel
theorem dX10_kindOf_17 : decode cX10_kindOf 17 = .ok (.goto 44, 3) := by decide +kernel
theorem dX10_kindOf_20 : decode cX10_kindOf 20 = .ok (.iload_n 0, 1) := by decide +kernel
theorem dX10_kindOf_21 : decode cX10_kindOf 21 = .ok (.bipush 115, 2) := by decide +kernel
theorem dX10_kindOf_23 : decode cX10_kindOf 23 = .ok (.if_icmp .ne 7, 3) := by decide +kernel
theorem dX10_kindOf_26 : decode cX10_kindOf 26 = .ok (.iconst 2, 1) := by decide +kernel
theorem dX10_kindOf_27 : decode cX10_kindOf 27 = .ok (.goto 34, 3) := by decide +kernel
theorem dX10_kindOf_30 : decode cX10_kindOf 30 = .ok (.iload_n 0, 1) := by decide +kernel
theorem dX10_kindOf_31 : decode cX10_kindOf 31 = .ok (.bipush 110, 2) := by decide +kernel
theorem dX10_kindOf_33 : decode cX10_kindOf 33 = .ok (.if_icmp .ne 7, 3) := by decide +kernel
theorem dX10_kindOf_36 : decode cX10_kindOf 36 = .ok (.iconst 3, 1) := by decide +kernel
theorem dX10_kindOf_37 : decode cX10_kindOf 37 = .ok (.goto 24, 3) := by decide +kernel
theorem dX10_kindOf_40 : decode cX10_kindOf 40 = .ok (.iload_n 0, 1) := by decide +kernel
theorem dX10_kindOf_41 : decode cX10_kindOf 41 = .ok (.bipush 108, 2) := by decide +kernel
theorem dX10_kindOf_43 : decode cX10_kindOf 43 = .ok (.if_icmp .ne 7, 3) := by decide +kernel
theorem dX10_kindOf_46 : decode cX10_kindOf 46 = .ok (.iconst 4, 1) := by decide +kernel
theorem dX10_kindOf_47 : decode cX10_kindOf 47 = .ok (.goto 14, 3) := by decide +kernel
theorem dX10_kindOf_50 : decode cX10_kindOf 50 = .ok (.iload_n 0, 1) := by decide +kernel
theorem dX10_kindOf_51 : decode cX10_kindOf 51 = .ok (.bipush 103, 2) := by decide +kernel
theorem dX10_kindOf_53 : decode cX10_kindOf 53 = .ok (.if_icmp .ne 7, 3) := by decide +kernel
theorem dX10_kindOf_56 : decode cX10_kindOf 56 = .ok (.iconst 5, 1) := by decide +kernel
theorem dX10_kindOf_57 : decode cX10_kindOf 57 = .ok (.goto 4, 3) := by decide +kernel
theorem dX10_kindOf_60 : decode cX10_kindOf 60 = .ok (.iconst (-1), 1) := by decide +kernel
theorem dX10_kindOf_61 : decode cX10_kindOf 61 = .ok (.ireturn, 1) := by decide +kernel
theorem dX10_readOne_0 : decode cX10_readOne 0 = .ok (.aload_n 0, 1) := by decide +kernel
theorem dX10_readOne_1 : decode cX10_readOne 1 = .ok (.iload_n 1, 1) := by decide +kernel
theorem dX10_readOne_2 : decode cX10_readOne 2 = .ok (.invokevirtual 127, 3) := by decide +kernel
theorem dX10_readOne_5 : decode cX10_readOne 5 = .ok (.istore_n 2, 1) := by decide +kernel
theorem dX10_readOne_6 : decode cX10_readOne 6 = .ok (.iload_n 2, 1) := by decide +kernel
theorem dX10_readOne_7 : decode cX10_readOne 7 = .ok (.invokestatic 133, 3) := by decide +kernel
theorem dX10_readOne_10 : decode cX10_readOne 10 = .ok (.istore_n 3, 1) := by decide +kernel
theorem dX10_readOne_11 : decode cX10_readOne 11 = .ok (.iload_n 3, 1) := by decide +kernel
theorem dX10_readOne_12 : decode cX10_readOne 12 = .ok (.ifCond .lt 22, 3) := by decide +kernel
theorem dX10_readOne_15 : decode cX10_readOne 15 = .ok (.aload_n 0, 1) := by decide +kernel
theorem dX10_readOne_16 : decode cX10_readOne 16 = .ok (.getfield 136, 3) := by decide +kernel
theorem dX10_readOne_19 : decode cX10_readOne 19 = .ok (.ifCond .ne 15, 3) := by decide +kernel
theorem dX10_readOne_22 : decode cX10_readOne 22 = .ok (.aload_n 0, 1) := by decide +kernel
theorem dX10_readOne_23 : decode cX10_readOne 23 = .ok (.getfield 139, 3) := by decide +kernel
theorem dX10_readOne_26 : decode cX10_readOne 26 = .ok (.iconst 5, 1) := by decide +kernel
theorem dX10_readOne_27 : decode cX10_readOne 27 = .ok (.if_icmp .ge 7, 3) := by decide +kernel
theorem dX10_readOne_30 : decode cX10_readOne 30 = .ok (.iconst 1, 1) := by decide +kernel
theorem dX10_readOne_31 : decode cX10_readOne 31 = .ok (.goto 4, 3) := by decide +kernel
theorem dX10_readOne_34 : decode cX10_readOne 34 = .ok (.iconst 0, 1) := by decide +kernel
theorem dX10_readOne_35 : decode cX10_readOne 35 = .ok (.istore 4, 2) := by decide +kernel
theorem dX10_readOne_37 : decode cX10_readOne 37 = .ok (.iload_n 2, 1) := by decide +kernel
theorem dX10_readOne_38 : decode cX10_readOne 38 = .ok (.bipush 118, 2) := by decide +kernel
theorem dX10_readOne_40 : decode cX10_readOne 40 = .ok (.if_icmp .eq 9, 3) := by decide +kernel
theorem dX10_readOne_43 : decode cX10_readOne 43 = .ok (.iload_n 2, 1) := by decide +kernel
theorem dX10_readOne_44 : decode cX10_readOne 44 = .ok (.bipush 100, 2) := by decide +kernel
theorem dX10_readOne_46 : decode cX10_readOne 46 = .ok (.if_icmp .ne 22, 3) := by decide +kernel
theorem dX10_readOne_49 : decode cX10_readOne 49 = .ok (.aload_n 0, 1) := by decide +kernel
theorem dX10_readOne_50 : decode cX10_readOne 50 = .ok (.getfield 139, 3) := by decide +kernel
theorem dX10_readOne_53 : decode cX10_readOne 53 = .ok (.ifCond .le 15, 3) := by decide +kernel
theorem dX10_readOne_56 : decode cX10_readOne 56 = .ok (.aload_n 0, 1) := by decide +kernel
theorem dX10_readOne_57 : decode cX10_readOne 57 = .ok (.getfield 136, 3) := by decide +kernel
theorem dX10_readOne_60 : decode cX10_readOne 60 = .ok (.iconst 4, 1) := by decide +kernel
theorem dX10_readOne_61 : decode cX10_readOne 61 = .ok (.if_icmp .ge 7, 3) := by decide +kernel
theorem dX10_readOne_64 : decode cX10_readOne 64 = .ok (.iconst 1, 1) := by decide +kernel
theorem dX10_readOne_65 : decode cX10_readOne 65 = .ok (.goto 4, 3) := by decide +kernel
theorem dX10_readOne_68 : decode cX10_readOne 68 = .ok (.iconst 0, 1) := by decide +kernel
theorem dX10_readOne_69 : decode cX10_readOne 69 = .ok (.istore 5, 2) := by decide +kernel
theorem dX10_readOne_71 : decode cX10_readOne 71 = .ok (.iload 4, 2) := by decide +kernel
theorem dX10_readOne_73 : decode cX10_readOne 73 = .ok (.ifCond .ne 17, 3) := by decide +kernel
theorem dX10_readOne_76 : decode cX10_readOne 76 = .ok (.iload 5, 2) := by decide +kernel
theorem dX10_readOne_78 : decode cX10_readOne 78 = .ok (.ifCond .ne 12, 3) := by decide +kernel
theorem dX10_readOne_81 : decode cX10_readOne 81 = .ok (.aload_n 0, 1) := by decide +kernel
theorem dX10_readOne_82 : decode cX10_readOne 82 = .ok (.aload_n 0, 1) := by decide +kernel
theorem dX10_readOne_83 : decode cX10_readOne 83 = .ok (.getfield 124, 3) := by decide +kernel
theorem dX10_readOne_86 : decode cX10_readOne 86 = .ok (.putfield 130, 3) := by decide +kernel
theorem dX10_readOne_89 : decode cX10_readOne 89 = .ok (.return_, 1) := by decide +kernel
theorem dX10_readOne_90 : decode cX10_readOne 90 = .ok (.aload_n 0, 1) := by decide +kernel
theorem dX10_readOne_91 : decode cX10_readOne 91 = .ok (.dup, 1) := by decide +kernel
theorem dX10_readOne_92 : decode cX10_readOne 92 = .ok (.getfield 124, 3) := by decide +kernel
theorem dX10_readOne_95 : decode cX10_readOne 95 = .ok (.iconst 1, 1) := by decide +kernel
theorem dX10_readOne_96 : decode cX10_readOne 96 = .ok (.iadd, 1) := by decide +kernel
theorem dX10_readOne_97 : decode cX10_readOne 97 = .ok (.putfield 124, 3) := by decide +kernel
theorem dX10_readOne_100 : decode cX10_readOne 100 = .ok (.iload 4, 2) := by decide +kernel
theorem dX10_readOne_102 : decode cX10_readOne 102 = .ok (.ifCond .eq 60, 3) := by decide +kernel
theorem dX10_readOne_105 : decode cX10_readOne 105 = .ok (.aload_n 0, 1) := by decide +kernel
theorem dX10_readOne_106 : decode cX10_readOne 106 = .ok (.getfield 65, 3) := by decide +kernel
theorem dX10_readOne_109 : decode cX10_readOne 109 = .ok (.aload_n 0, 1) := by decide +kernel
theorem dX10_readOne_110 : decode cX10_readOne 110 = .ok (.getfield 139, 3) := by decide +kernel
theorem dX10_readOne_113 : decode cX10_readOne 113 = .ok (.iload_n 3, 1) := by decide +kernel
theorem dX10_readOne_114 : decode cX10_readOne 114 = .ok (.iastore, 1) := by decide +kernel
theorem dX10_readOne_115 : decode cX10_readOne 115 = .ok (.aload_n 0, 1) := by decide +kernel
theorem dX10_readOne_116 : decode cX10_readOne 116 = .ok (.getfield 68, 3) := by decide +kernel
theorem dX10_readOne_119 : decode cX10_readOne 119 = .ok (.aload_n 0, 1) := by decide +kernel
theorem dX10_readOne_120 : decode cX10_readOne 120 = .ok (.getfield 139, 3) := by decide +kernel
theorem dX10_readOne_123 : decode cX10_readOne 123 = .ok (.aload_n 0, 1) := by decide +kernel
theorem dX10_readOne_124 : decode cX10_readOne 124 = .ok (.iload_n 1, 1) := by decide +kernel
theorem dX10_readOne_125 : decode cX10_readOne 125 = .ok (.iconst 0, 1) := by decide +kernel
theorem dX10_readOne_126 : decode cX10_readOne 126 = .ok (.bipush 9, 2) := by decide +kernel
theorem dX10_readOne_128 : decode cX10_readOne 128 = .ok (.invokevirtual 142, 3) := by decide +kernel
theorem dX10_readOne_131 : decode cX10_readOne 131 = .ok (.iastore, 1) := by decide +kernel
theorem dX10_readOne_132 : decode cX10_readOne 132 = .ok (.aload_n 0, 1) := by decide +kernel
theorem dX10_readOne_133 : decode cX10_readOne 133 = .ok (.getfield 71, 3) := by decide +kernel
theorem dX10_readOne_136 : decode cX10_readOne 136 = .ok (.aload_n 0, 1) := by decide +kernel
theorem dX10_readOne_137 : decode cX10_readOne 137 = .ok (.getfield 139, 3) := by decide +kernel
theorem dX10_readOne_140 : decode cX10_readOne 140 = .ok (.aload_n 0, 1) := by decide +kernel
theorem dX10_readOne_141 : decode cX10_readOne 141 = .ok (.iload_n 1, 1) := by decide +kernel
theorem dX10_readOne_142 : decode cX10_readOne 142 = .ok (.iconst 0, 1) := by decide +kernel
theorem dX10_readOne_143 : decode cX10_readOne 143 = .ok (.bipush 9, 2) := by decide +kernel
theorem dX10_readOne_145 : decode cX10_readOne 145 = .ok (.invokevirtual 142, 3) := by decide +kernel
theorem dX10_readOne_148 : decode cX10_readOne 148 = .ok (.iastore, 1) := by decide +kernel
theorem dX10_readOne_149 : decode cX10_readOne 149 = .ok (.aload_n 0, 1) := by decide +kernel
theorem dX10_readOne_150 : decode cX10_readOne 150 = .ok (.dup, 1) := by decide +kernel
theorem dX10_readOne_151 : decode cX10_readOne 151 = .ok (.getfield 139, 3) := by decide +kernel
theorem dX10_readOne_154 : decode cX10_readOne 154 = .ok (.iconst 1, 1) := by decide +kernel
theorem dX10_readOne_155 : decode cX10_readOne 155 = .ok (.iadd, 1) := by decide +kernel
theorem dX10_readOne_156 : decode cX10_readOne 156 = .ok (.putfield 139, 3) := by decide +kernel
theorem dX10_readOne_159 : decode cX10_readOne 159 = .ok (.goto 88, 3) := by decide +kernel
theorem dX10_readOne_162 : decode cX10_readOne 162 = .ok (.aload_n 0, 1) := by decide +kernel
theorem dX10_readOne_163 : decode cX10_readOne 163 = .ok (.getfield 136, 3) := by decide +kernel
theorem dX10_readOne_166 : decode cX10_readOne 166 = .ok (.istore 6, 2) := by decide +kernel
theorem dX10_readOne_168 : decode cX10_readOne 168 = .ok (.aload_n 0, 1) := by decide +kernel
theorem dX10_readOne_169 : decode cX10_readOne 169 = .ok (.getfield 74, 3) := by decide +kernel
theorem dX10_readOne_172 : decode cX10_readOne 172 = .ok (.iload 6, 2) := by decide +kernel
theorem dX10_readOne_174 : decode cX10_readOne 174 = .ok (.iload_n 2, 1) := by decide +kernel
theorem dX10_readOne_175 : decode cX10_readOne 175 = .ok (.bipush 118, 2) := by decide +kernel
theorem dX10_readOne_177 : decode cX10_readOne 177 = .ok (.if_icmp .ne 7, 3) := by decide +kernel
theorem dX10_readOne_180 : decode cX10_readOne 180 = .ok (.iconst 1, 1) := by decide +kernel
theorem dX10_readOne_181 : decode cX10_readOne 181 = .ok (.goto 4, 3) := by decide +kernel
theorem dX10_readOne_184 : decode cX10_readOne 184 = .ok (.iconst 0, 1) := by decide +kernel
theorem dX10_readOne_185 : decode cX10_readOne 185 = .ok (.iastore, 1) := by decide +kernel
theorem dX10_readOne_186 : decode cX10_readOne 186 = .ok (.aload_n 0, 1) := by decide +kernel
theorem dX10_readOne_187 : decode cX10_readOne 187 = .ok (.getfield 77, 3) := by decide +kernel
theorem dX10_readOne_190 : decode cX10_readOne 190 = .ok (.iload 6, 2) := by decide +kernel
theorem dX10_readOne_192 : decode cX10_readOne 192 = .ok (.aload_n 0, 1) := by decide +kernel
theorem dX10_readOne_193 : decode cX10_readOne 193 = .ok (.iload_n 1, 1) := by decide +kernel
theorem dX10_readOne_194 : decode cX10_readOne 194 = .ok (.iconst 0, 1) := by decide +kernel
theorem dX10_readOne_195 : decode cX10_readOne 195 = .ok (.bipush 7, 2) := by decide +kernel
theorem dX10_readOne_197 : decode cX10_readOne 197 = .ok (.invokevirtual 142, 3) := by decide +kernel
theorem dX10_readOne_200 : decode cX10_readOne 200 = .ok (.iastore, 1) := by decide +kernel
theorem dX10_readOne_201 : decode cX10_readOne 201 = .ok (.aload_n 0, 1) := by decide +kernel
theorem dX10_readOne_202 : decode cX10_readOne 202 = .ok (.getfield 80, 3) := by decide +kernel
theorem dX10_readOne_205 : decode cX10_readOne 205 = .ok (.iload 6, 2) := by decide +kernel
theorem dX10_readOne_207 : decode cX10_readOne 207 = .ok (.aload_n 0, 1) := by decide +kernel
theorem dX10_readOne_208 : decode cX10_readOne 208 = .ok (.iload_n 1, 1) := by decide +kernel
theorem dX10_readOne_209 : decode cX10_readOne 209 = .ok (.aload_n 0, 1) := by decide +kernel
theorem dX10_readOne_210 : decode cX10_readOne 210 = .ok (.getfield 77, 3) := by decide +kernel
theorem dX10_readOne_213 : decode cX10_readOne 213 = .ok (.iload 6, 2) := by decide +kernel
theorem dX10_readOne_215 : decode cX10_readOne 215 = .ok (.iaload, 1) := by decide +kernel
theorem dX10_readOne_216 : decode cX10_readOne 216 = .ok (.bipush 7, 2) := by decide +kernel
theorem dX10_readOne_218 : decode cX10_readOne 218 = .ok (.invokevirtual 142, 3) := by decide +kernel
theorem dX10_readOne_221 : decode cX10_readOne 221 = .ok (.iastore, 1) := by decide +kernel
theorem dX10_readOne_222 : decode cX10_readOne 222 = .ok (.aload_n 0, 1) := by decide +kernel
theorem dX10_readOne_223 : decode cX10_readOne 223 = .ok (.getfield 83, 3) := by decide +kernel
theorem dX10_readOne_226 : decode cX10_readOne 226 = .ok (.iload 6, 2) := by decide +kernel
theorem dX10_readOne_228 : decode cX10_readOne 228 = .ok (.aload_n 0, 1) := by decide +kernel
theorem dX10_readOne_229 : decode cX10_readOne 229 = .ok (.iload_n 1, 1) := by decide +kernel
theorem dX10_readOne_230 : decode cX10_readOne 230 = .ok (.iconst 1, 1) := by decide +kernel
theorem dX10_readOne_231 : decode cX10_readOne 231 = .ok (.bipush 9, 2) := by decide +kernel
theorem dX10_readOne_233 : decode cX10_readOne 233 = .ok (.invokevirtual 142, 3) := by decide +kernel
theorem dX10_readOne_236 : decode cX10_readOne 236 = .ok (.iastore, 1) := by decide +kernel
theorem dX10_readOne_237 : decode cX10_readOne 237 = .ok (.aload_n 0, 1) := by decide +kernel
theorem dX10_readOne_238 : decode cX10_readOne 238 = .ok (.dup, 1) := by decide +kernel
theorem dX10_readOne_239 : decode cX10_readOne 239 = .ok (.getfield 136, 3) := by decide +kernel
theorem dX10_readOne_242 : decode cX10_readOne 242 = .ok (.iconst 1, 1) := by decide +kernel
theorem dX10_readOne_243 : decode cX10_readOne 243 = .ok (.iadd, 1) := by decide +kernel
theorem dX10_readOne_244 : decode cX10_readOne 244 = .ok (.putfield 136, 3) := by decide +kernel
theorem dX10_readOne_247 : decode cX10_readOne 247 = .ok (.return_, 1) := by decide +kernel
theorem dX10_readYear_0 : decode cX10_readYear 0 = .ok (.aload_n 0, 1) := by decide +kernel
theorem dX10_readYear_1 : decode cX10_readYear 1 = .ok (.iconst 0, 1) := by decide +kernel
theorem dX10_readYear_2 : decode cX10_readYear 2 = .ok (.putfield 124, 3) := by decide +kernel
theorem dX10_readYear_5 : decode cX10_readYear 5 = .ok (.aload_n 0, 1) := by decide +kernel
theorem dX10_readYear_6 : decode cX10_readYear 6 = .ok (.iconst (-1), 1) := by decide +kernel
theorem dX10_readYear_7 : decode cX10_readYear 7 = .ok (.putfield 130, 3) := by decide +kernel
theorem dX10_readYear_10 : decode cX10_readYear 10 = .ok (.aload_n 0, 1) := by decide +kernel
theorem dX10_readYear_11 : decode cX10_readYear 11 = .ok (.iconst 0, 1) := by decide +kernel
theorem dX10_readYear_12 : decode cX10_readYear 12 = .ok (.putfield 139, 3) := by decide +kernel
theorem dX10_readYear_15 : decode cX10_readYear 15 = .ok (.aload_n 0, 1) := by decide +kernel
theorem dX10_readYear_16 : decode cX10_readYear 16 = .ok (.iconst 0, 1) := by decide +kernel
theorem dX10_readYear_17 : decode cX10_readYear 17 = .ok (.putfield 136, 3) := by decide +kernel
theorem dX10_readYear_20 : decode cX10_readYear 20 = .ok (.aload_n 0, 1) := by decide +kernel
theorem dX10_readYear_21 : decode cX10_readYear 21 = .ok (.iload_n 1, 1) := by decide +kernel
theorem dX10_readYear_22 : decode cX10_readYear 22 = .ok (.invokevirtual 146, 3) := by decide +kernel
theorem dX10_readYear_25 : decode cX10_readYear 25 = .ok (.aload_n 0, 1) := by decide +kernel
theorem dX10_readYear_26 : decode cX10_readYear 26 = .ok (.getfield 130, 3) := by decide +kernel
theorem dX10_readYear_29 : decode cX10_readYear 29 = .ok (.ifCond .ge 29, 3) := by decide +kernel
theorem dX10_readYear_32 : decode cX10_readYear 32 = .ok (.aload_n 0, 1) := by decide +kernel
theorem dX10_readYear_33 : decode cX10_readYear 33 = .ok (.getfield 124, 3) := by decide +kernel
theorem dX10_readYear_36 : decode cX10_readYear 36 = .ok (.aload_n 0, 1) := by decide +kernel
theorem dX10_readYear_37 : decode cX10_readYear 37 = .ok (.getfield 44, 3) := by decide +kernel
theorem dX10_readYear_40 : decode cX10_readYear 40 = .ok (.iload_n 1, 1) := by decide +kernel
theorem dX10_readYear_41 : decode cX10_readYear 41 = .ok (.iaload, 1) := by decide +kernel
theorem dX10_readYear_42 : decode cX10_readYear 42 = .ok (.if_icmp .ge 16, 3) := by decide +kernel
theorem dX10_readYear_45 : decode cX10_readYear 45 = .ok (.aload_n 0, 1) := by decide +kernel
theorem dX10_readYear_46 : decode cX10_readYear 46 = .ok (.iload_n 1, 1) := by decide +kernel
theorem dX10_readYear_47 : decode cX10_readYear 47 = .ok (.invokevirtual 150, 3) := by decide +kernel
theorem dX10_readYear_50 : decode cX10_readYear 50 = .ok (.aload_n 0, 1) := by decide +kernel
theorem dX10_readYear_51 : decode cX10_readYear 51 = .ok (.iload_n 1, 1) := by decide +kernel
theorem dX10_readYear_52 : decode cX10_readYear 52 = .ok (.invokevirtual 146, 3) := by decide +kernel
theorem dX10_readYear_55 : decode cX10_readYear 55 = .ok (.goto (-30), 3) := by decide +kernel
theorem dX10_readYear_58 : decode cX10_readYear 58 = .ok (.aload_n 0, 1) := by decide +kernel
theorem dX10_readYear_59 : decode cX10_readYear 59 = .ok (.aload_n 0, 1) := by decide +kernel
theorem dX10_readYear_60 : decode cX10_readYear 60 = .ok (.getfield 130, 3) := by decide +kernel
theorem dX10_readYear_63 : decode cX10_readYear 63 = .ok (.ifCond .ge 19, 3) := by decide +kernel
theorem dX10_readYear_66 : decode cX10_readYear 66 = .ok (.aload_n 0, 1) := by decide +kernel
theorem dX10_readYear_67 : decode cX10_readYear 67 = .ok (.getfield 139, 3) := by decide +kernel
theorem dX10_readYear_70 : decode cX10_readYear 70 = .ok (.ifCond .ne 12, 3) := by decide +kernel
theorem dX10_readYear_73 : decode cX10_readYear 73 = .ok (.aload_n 0, 1) := by decide +kernel
theorem dX10_readYear_74 : decode cX10_readYear 74 = .ok (.getfield 44, 3) := by decide +kernel
theorem dX10_readYear_77 : decode cX10_readYear 77 = .ok (.iload_n 1, 1) := by decide +kernel
theorem dX10_readYear_78 : decode cX10_readYear 78 = .ok (.iaload, 1) := by decide +kernel
theorem dX10_readYear_79 : decode cX10_readYear 79 = .ok (.goto 7, 3) := by decide +kernel
theorem dX10_readYear_82 : decode cX10_readYear 82 = .ok (.aload_n 0, 1) := by decide +kernel
theorem dX10_readYear_83 : decode cX10_readYear 83 = .ok (.getfield 130, 3) := by decide +kernel
theorem dX10_readYear_86 : decode cX10_readYear 86 = .ok (.putfield 130, 3) := by decide +kernel
theorem dX10_readYear_89 : decode cX10_readYear 89 = .ok (.return_, 1) := by decide +kernel
theorem dX10_fault_0 : decode cX10_fault 0 = .ok (.iload_n 1, 1) := by decide +kernel
theorem dX10_fault_1 : decode cX10_fault 1 = .ok (.invokestatic 121, 3) := by decide +kernel
theorem dX10_fault_4 : decode cX10_fault 4 = .ok (.ifCond .ne 5, 3) := by decide +kernel
theorem dX10_fault_7 : decode cX10_fault 7 = .ok (.iconst (-1), 1) := by decide +kernel
theorem dX10_fault_8 : decode cX10_fault 8 = .ok (.ireturn, 1) := by decide +kernel
theorem dX10_fault_9 : decode cX10_fault 9 = .ok (.aload_n 0, 1) := by decide +kernel
theorem dX10_fault_10 : decode cX10_fault 10 = .ok (.getfield 44, 3) := by decide +kernel
theorem dX10_fault_13 : decode cX10_fault 13 = .ok (.iload_n 1, 1) := by decide +kernel
theorem dX10_fault_14 : decode cX10_fault 14 = .ok (.iaload, 1) := by decide +kernel
theorem dX10_fault_15 : decode cX10_fault 15 = .ok (.ifCond .ge 9, 3) := by decide +kernel
theorem dX10_fault_18 : decode cX10_fault 18 = .ok (.aload_n 0, 1) := by decide +kernel
theorem dX10_fault_19 : decode cX10_fault 19 = .ok (.iconst 1, 1) := by decide +kernel
theorem dX10_fault_20 : decode cX10_fault 20 = .ok (.invokevirtual 114, 3) := by decide +kernel
theorem dX10_fault_23 : decode cX10_fault 23 = .ok (.ireturn, 1) := by decide +kernel
theorem dX10_fault_24 : decode cX10_fault 24 = .ok (.aload_n 0, 1) := by decide +kernel
theorem dX10_fault_25 : decode cX10_fault 25 = .ok (.iload_n 1, 1) := by decide +kernel
theorem dX10_fault_26 : decode cX10_fault 26 = .ok (.invokevirtual 153, 3) := by decide +kernel
theorem dX10_fault_29 : decode cX10_fault 29 = .ok (.aload_n 0, 1) := by decide +kernel
theorem dX10_fault_30 : decode cX10_fault 30 = .ok (.getfield 130, 3) := by decide +kernel
theorem dX10_fault_33 : decode cX10_fault 33 = .ok (.ifCond .ge 8, 3) := by decide +kernel
theorem dX10_fault_36 : decode cX10_fault 36 = .ok (.bipush (-9), 2) := by decide +kernel
theorem dX10_fault_38 : decode cX10_fault 38 = .ok (.goto 7, 3) := by decide +kernel
theorem dX10_fault_41 : decode cX10_fault 41 = .ok (.aload_n 0, 1) := by decide +kernel
theorem dX10_fault_42 : decode cX10_fault 42 = .ok (.getfield 130, 3) := by decide +kernel
theorem dX10_fault_45 : decode cX10_fault 45 = .ok (.ireturn, 1) := by decide +kernel
theorem dX10_year_0 : decode cX10_year 0 = .ok (.iload_n 1, 1) := by decide +kernel
theorem dX10_year_1 : decode cX10_year 1 = .ok (.invokestatic 121, 3) := by decide +kernel
theorem dX10_year_4 : decode cX10_year 4 = .ok (.ifCond .ne 5, 3) := by decide +kernel
theorem dX10_year_7 : decode cX10_year 7 = .ok (.iconst (-1), 1) := by decide +kernel
theorem dX10_year_8 : decode cX10_year 8 = .ok (.ireturn, 1) := by decide +kernel
theorem dX10_year_9 : decode cX10_year 9 = .ok (.aload_n 0, 1) := by decide +kernel
theorem dX10_year_10 : decode cX10_year 10 = .ok (.getfield 44, 3) := by decide +kernel
theorem dX10_year_13 : decode cX10_year 13 = .ok (.iload_n 1, 1) := by decide +kernel
theorem dX10_year_14 : decode cX10_year 14 = .ok (.iaload, 1) := by decide +kernel
theorem dX10_year_15 : decode cX10_year 15 = .ok (.ifCond .ge 9, 3) := by decide +kernel
theorem dX10_year_18 : decode cX10_year 18 = .ok (.aload_n 0, 1) := by decide +kernel
theorem dX10_year_19 : decode cX10_year 19 = .ok (.iconst 1, 1) := by decide +kernel
theorem dX10_year_20 : decode cX10_year 20 = .ok (.invokevirtual 114, 3) := by decide +kernel
theorem dX10_year_23 : decode cX10_year 23 = .ok (.ireturn, 1) := by decide +kernel
theorem dX10_year_24 : decode cX10_year 24 = .ok (.aload_n 0, 1) := by decide +kernel
theorem dX10_year_25 : decode cX10_year 25 = .ok (.iload_n 1, 1) := by decide +kernel
theorem dX10_year_26 : decode cX10_year 26 = .ok (.invokevirtual 153, 3) := by decide +kernel
theorem dX10_year_29 : decode cX10_year 29 = .ok (.aload_n 0, 1) := by decide +kernel
theorem dX10_year_30 : decode cX10_year 30 = .ok (.getfield 130, 3) := by decide +kernel
theorem dX10_year_33 : decode cX10_year 33 = .ok (.ifCond .lt 6, 3) := by decide +kernel
theorem dX10_year_36 : decode cX10_year 36 = .ok (.bipush (-4), 2) := by decide +kernel
theorem dX10_year_38 : decode cX10_year 38 = .ok (.ireturn, 1) := by decide +kernel
theorem dX10_year_39 : decode cX10_year 39 = .ok (.aload_n 0, 1) := by decide +kernel
theorem dX10_year_40 : decode cX10_year 40 = .ok (.aload_n 0, 1) := by decide +kernel
theorem dX10_year_41 : decode cX10_year 41 = .ok (.getfield 139, 3) := by decide +kernel
theorem dX10_year_44 : decode cX10_year 44 = .ok (.putfield 104, 3) := by decide +kernel
theorem dX10_year_47 : decode cX10_year 47 = .ok (.aload_n 0, 1) := by decide +kernel
theorem dX10_year_48 : decode cX10_year 48 = .ok (.aload_n 0, 1) := by decide +kernel
theorem dX10_year_49 : decode cX10_year 49 = .ok (.getfield 136, 3) := by decide +kernel
theorem dX10_year_52 : decode cX10_year 52 = .ok (.putfield 107, 3) := by decide +kernel
theorem dX10_year_55 : decode cX10_year 55 = .ok (.aload_n 0, 1) := by decide +kernel
theorem dX10_year_56 : decode cX10_year 56 = .ok (.iconst 0, 1) := by decide +kernel
theorem dX10_year_57 : decode cX10_year 57 = .ok (.putfield 156, 3) := by decide +kernel
theorem dX10_year_60 : decode cX10_year 60 = .ok (.iconst 0, 1) := by decide +kernel
theorem dX10_year_61 : decode cX10_year 61 = .ok (.istore_n 2, 1) := by decide +kernel
theorem dX10_year_62 : decode cX10_year 62 = .ok (.iload_n 2, 1) := by decide +kernel
theorem dX10_year_63 : decode cX10_year 63 = .ok (.bipush 16, 2) := by decide +kernel
theorem dX10_year_65 : decode cX10_year 65 = .ok (.if_icmp .ge 16, 3) := by decide +kernel
theorem dX10_year_68 : decode cX10_year 68 = .ok (.aload_n 0, 1) := by decide +kernel
theorem dX10_year_69 : decode cX10_year 69 = .ok (.getfield 25, 3) := by decide +kernel
theorem dX10_year_72 : decode cX10_year 72 = .ok (.iload_n 2, 1) := by decide +kernel
theorem dX10_year_73 : decode cX10_year 73 = .ok (.iconst 0, 1) := by decide +kernel
theorem dX10_year_74 : decode cX10_year 74 = .ok (.iastore, 1) := by decide +kernel
theorem dX10_year_75 : decode cX10_year 75 = .ok (.iinc 2 1, 3) := by decide +kernel
theorem dX10_year_78 : decode cX10_year 78 = .ok (.goto (-16), 3) := by decide +kernel
theorem dX10_year_81 : decode cX10_year 81 = .ok (.iconst 0, 1) := by decide +kernel
theorem dX10_year_82 : decode cX10_year 82 = .ok (.istore_n 2, 1) := by decide +kernel
theorem dX10_year_83 : decode cX10_year 83 = .ok (.iload_n 2, 1) := by decide +kernel
theorem dX10_year_84 : decode cX10_year 84 = .ok (.aload_n 0, 1) := by decide +kernel
theorem dX10_year_85 : decode cX10_year 85 = .ok (.getfield 104, 3) := by decide +kernel
theorem dX10_year_88 : decode cX10_year 88 = .ok (.if_icmp .ge 50, 3) := by decide +kernel
theorem dX10_year_91 : decode cX10_year 91 = .ok (.aload_n 0, 1) := by decide +kernel
theorem dX10_year_92 : decode cX10_year 92 = .ok (.getfield 7, 3) := by decide +kernel
theorem dX10_year_95 : decode cX10_year 95 = .ok (.iload_n 2, 1) := by decide +kernel
theorem dX10_year_96 : decode cX10_year 96 = .ok (.aload_n 0, 1) := by decide +kernel
theorem dX10_year_97 : decode cX10_year 97 = .ok (.getfield 65, 3) := by decide +kernel
theorem dX10_year_100 : decode cX10_year 100 = .ok (.iload_n 2, 1) := by decide +kernel
theorem dX10_year_101 : decode cX10_year 101 = .ok (.iaload, 1) := by decide +kernel
theorem dX10_year_102 : decode cX10_year 102 = .ok (.iastore, 1) := by decide +kernel
theorem dX10_year_103 : decode cX10_year 103 = .ok (.aload_n 0, 1) := by decide +kernel
theorem dX10_year_104 : decode cX10_year 104 = .ok (.getfield 25, 3) := by decide +kernel
theorem dX10_year_107 : decode cX10_year 107 = .ok (.iconst 2, 1) := by decide +kernel
theorem dX10_year_108 : decode cX10_year 108 = .ok (.iload_n 2, 1) := by decide +kernel
theorem dX10_year_109 : decode cX10_year 109 = .ok (.iadd, 1) := by decide +kernel
theorem dX10_year_110 : decode cX10_year 110 = .ok (.aload_n 0, 1) := by decide +kernel
theorem dX10_year_111 : decode cX10_year 111 = .ok (.getfield 68, 3) := by decide +kernel
theorem dX10_year_114 : decode cX10_year 114 = .ok (.iload_n 2, 1) := by decide +kernel
theorem dX10_year_115 : decode cX10_year 115 = .ok (.iaload, 1) := by decide +kernel
theorem dX10_year_116 : decode cX10_year 116 = .ok (.iastore, 1) := by decide +kernel
theorem dX10_year_117 : decode cX10_year 117 = .ok (.aload_n 0, 1) := by decide +kernel
theorem dX10_year_118 : decode cX10_year 118 = .ok (.getfield 25, 3) := by decide +kernel
theorem dX10_year_121 : decode cX10_year 121 = .ok (.bipush 7, 2) := by decide +kernel
theorem dX10_year_123 : decode cX10_year 123 = .ok (.iload_n 2, 1) := by decide +kernel
theorem dX10_year_124 : decode cX10_year 124 = .ok (.iadd, 1) := by decide +kernel
theorem dX10_year_125 : decode cX10_year 125 = .ok (.aload_n 0, 1) := by decide +kernel
theorem dX10_year_126 : decode cX10_year 126 = .ok (.getfield 71, 3) := by decide +kernel
theorem dX10_year_129 : decode cX10_year 129 = .ok (.iload_n 2, 1) := by decide +kernel
theorem dX10_year_130 : decode cX10_year 130 = .ok (.iaload, 1) := by decide +kernel
theorem dX10_year_131 : decode cX10_year 131 = .ok (.iastore, 1) := by decide +kernel
theorem dX10_year_132 : decode cX10_year 132 = .ok (.iinc 2 1, 3) := by decide +kernel
theorem dX10_year_135 : decode cX10_year 135 = .ok (.goto (-52), 3) := by decide +kernel
theorem dX10_year_138 : decode cX10_year 138 = .ok (.iconst 0, 1) := by decide +kernel
theorem dX10_year_139 : decode cX10_year 139 = .ok (.istore_n 2, 1) := by decide +kernel
theorem dX10_year_140 : decode cX10_year 140 = .ok (.iload_n 2, 1) := by decide +kernel
theorem dX10_year_141 : decode cX10_year 141 = .ok (.aload_n 0, 1) := by decide +kernel
theorem dX10_year_142 : decode cX10_year 142 = .ok (.getfield 107, 3) := by decide +kernel
theorem dX10_year_145 : decode cX10_year 145 = .ok (.if_icmp .ge 57, 3) := by decide +kernel
theorem dX10_year_148 : decode cX10_year 148 = .ok (.aload_n 0, 1) := by decide +kernel
theorem dX10_year_149 : decode cX10_year 149 = .ok (.getfield 13, 3) := by decide +kernel
theorem dX10_year_152 : decode cX10_year 152 = .ok (.iload_n 2, 1) := by decide +kernel
theorem dX10_year_153 : decode cX10_year 153 = .ok (.aload_n 0, 1) := by decide +kernel
theorem dX10_year_154 : decode cX10_year 154 = .ok (.getfield 74, 3) := by decide +kernel
theorem dX10_year_157 : decode cX10_year 157 = .ok (.iload_n 2, 1) := by decide +kernel
theorem dX10_year_158 : decode cX10_year 158 = .ok (.iaload, 1) := by decide +kernel
theorem dX10_year_159 : decode cX10_year 159 = .ok (.iastore, 1) := by decide +kernel
theorem dX10_year_160 : decode cX10_year 160 = .ok (.aload_n 0, 1) := by decide +kernel
theorem dX10_year_161 : decode cX10_year 161 = .ok (.getfield 16, 3) := by decide +kernel
theorem dX10_year_164 : decode cX10_year 164 = .ok (.iload_n 2, 1) := by decide +kernel
theorem dX10_year_165 : decode cX10_year 165 = .ok (.aload_n 0, 1) := by decide +kernel
theorem dX10_year_166 : decode cX10_year 166 = .ok (.getfield 77, 3) := by decide +kernel
theorem dX10_year_169 : decode cX10_year 169 = .ok (.iload_n 2, 1) := by decide +kernel
theorem dX10_year_170 : decode cX10_year 170 = .ok (.iaload, 1) := by decide +kernel
theorem dX10_year_171 : decode cX10_year 171 = .ok (.iastore, 1) := by decide +kernel
theorem dX10_year_172 : decode cX10_year 172 = .ok (.aload_n 0, 1) := by decide +kernel
theorem dX10_year_173 : decode cX10_year 173 = .ok (.getfield 19, 3) := by decide +kernel
theorem dX10_year_176 : decode cX10_year 176 = .ok (.iload_n 2, 1) := by decide +kernel
theorem dX10_year_177 : decode cX10_year 177 = .ok (.aload_n 0, 1) := by decide +kernel
theorem dX10_year_178 : decode cX10_year 178 = .ok (.getfield 80, 3) := by decide +kernel
theorem dX10_year_181 : decode cX10_year 181 = .ok (.iload_n 2, 1) := by decide +kernel
theorem dX10_year_182 : decode cX10_year 182 = .ok (.iaload, 1) := by decide +kernel
theorem dX10_year_183 : decode cX10_year 183 = .ok (.iastore, 1) := by decide +kernel
theorem dX10_year_184 : decode cX10_year 184 = .ok (.aload_n 0, 1) := by decide +kernel
theorem dX10_year_185 : decode cX10_year 185 = .ok (.getfield 22, 3) := by decide +kernel
theorem dX10_year_188 : decode cX10_year 188 = .ok (.iload_n 2, 1) := by decide +kernel
theorem dX10_year_189 : decode cX10_year 189 = .ok (.aload_n 0, 1) := by decide +kernel
theorem dX10_year_190 : decode cX10_year 190 = .ok (.getfield 83, 3) := by decide +kernel
theorem dX10_year_193 : decode cX10_year 193 = .ok (.iload_n 2, 1) := by decide +kernel
theorem dX10_year_194 : decode cX10_year 194 = .ok (.iaload, 1) := by decide +kernel
theorem dX10_year_195 : decode cX10_year 195 = .ok (.iastore, 1) := by decide +kernel
theorem dX10_year_196 : decode cX10_year 196 = .ok (.iinc 2 1, 3) := by decide +kernel
theorem dX10_year_199 : decode cX10_year 199 = .ok (.goto (-59), 3) := by decide +kernel
theorem dX10_year_202 : decode cX10_year 202 = .ok (.iconst 0, 1) := by decide +kernel
theorem dX10_year_203 : decode cX10_year 203 = .ok (.istore_n 2, 1) := by decide +kernel
theorem dX10_year_204 : decode cX10_year 204 = .ok (.iload_n 2, 1) := by decide +kernel
theorem dX10_year_205 : decode cX10_year 205 = .ok (.iconst 3, 1) := by decide +kernel
theorem dX10_year_206 : decode cX10_year 206 = .ok (.if_icmp .ge 16, 3) := by decide +kernel
theorem dX10_year_209 : decode cX10_year 209 = .ok (.aload_n 0, 1) := by decide +kernel
theorem dX10_year_210 : decode cX10_year 210 = .ok (.getfield 50, 3) := by decide +kernel
theorem dX10_year_213 : decode cX10_year 213 = .ok (.iload_n 2, 1) := by decide +kernel
theorem dX10_year_214 : decode cX10_year 214 = .ok (.iconst (-1), 1) := by decide +kernel
theorem dX10_year_215 : decode cX10_year 215 = .ok (.iastore, 1) := by decide +kernel
theorem dX10_year_216 : decode cX10_year 216 = .ok (.iinc 2 1, 3) := by decide +kernel
theorem dX10_year_219 : decode cX10_year 219 = .ok (.goto (-15), 3) := by decide +kernel
theorem dX10_year_222 : decode cX10_year 222 = .ok (.aload_n 0, 1) := by decide +kernel
theorem dX10_year_223 : decode cX10_year 223 = .ok (.getfield 104, 3) := by decide +kernel
theorem dX10_year_226 : decode cX10_year 226 = .ok (.ireturn, 1) := by decide +kernel
theorem dX10_isOf_0 : decode cX10_isOf 0 = .ok (.aload_n 0, 1) := by decide +kernel
theorem dX10_isOf_1 : decode cX10_isOf 1 = .ok (.getfield 7, 3) := by decide +kernel
theorem dX10_isOf_4 : decode cX10_isOf 4 = .ok (.iload_n 1, 1) := by decide +kernel
theorem dX10_isOf_5 : decode cX10_isOf 5 = .ok (.iaload, 1) := by decide +kernel
theorem dX10_isOf_6 : decode cX10_isOf 6 = .ok (.iload_n 2, 1) := by decide +kernel
theorem dX10_isOf_7 : decode cX10_isOf 7 = .ok (.if_icmp .eq 33, 3) := by decide +kernel
theorem dX10_isOf_10 : decode cX10_isOf 10 = .ok (.iload_n 2, 1) := by decide +kernel
theorem dX10_isOf_11 : decode cX10_isOf 11 = .ok (.iconst 2, 1) := by decide +kernel
theorem dX10_isOf_12 : decode cX10_isOf 12 = .ok (.if_icmp .ne 13, 3) := by decide +kernel
theorem dX10_isOf_15 : decode cX10_isOf 15 = .ok (.aload_n 0, 1) := by decide +kernel
theorem dX10_isOf_16 : decode cX10_isOf 16 = .ok (.getfield 7, 3) := by decide +kernel
theorem dX10_isOf_19 : decode cX10_isOf 19 = .ok (.iload_n 1, 1) := by decide +kernel
theorem dX10_isOf_20 : decode cX10_isOf 20 = .ok (.iaload, 1) := by decide +kernel
theorem dX10_isOf_21 : decode cX10_isOf 21 = .ok (.iconst 5, 1) := by decide +kernel
theorem dX10_isOf_22 : decode cX10_isOf 22 = .ok (.if_icmp .eq 18, 3) := by decide +kernel
theorem dX10_isOf_25 : decode cX10_isOf 25 = .ok (.iload_n 2, 1) := by decide +kernel
theorem dX10_isOf_26 : decode cX10_isOf 26 = .ok (.iconst 3, 1) := by decide +kernel
theorem dX10_isOf_27 : decode cX10_isOf 27 = .ok (.if_icmp .ne 17, 3) := by decide +kernel
theorem dX10_isOf_30 : decode cX10_isOf 30 = .ok (.aload_n 0, 1) := by decide +kernel
theorem dX10_isOf_31 : decode cX10_isOf 31 = .ok (.getfield 7, 3) := by decide +kernel
theorem dX10_isOf_34 : decode cX10_isOf 34 = .ok (.iload_n 1, 1) := by decide +kernel
theorem dX10_isOf_35 : decode cX10_isOf 35 = .ok (.iaload, 1) := by decide +kernel
theorem dX10_isOf_36 : decode cX10_isOf 36 = .ok (.iconst 4, 1) := by decide +kernel
theorem dX10_isOf_37 : decode cX10_isOf 37 = .ok (.if_icmp .ne 7, 3) := by decide +kernel
theorem dX10_isOf_40 : decode cX10_isOf 40 = .ok (.iconst 1, 1) := by decide +kernel
theorem dX10_isOf_41 : decode cX10_isOf 41 = .ok (.goto 4, 3) := by decide +kernel
theorem dX10_isOf_44 : decode cX10_isOf 44 = .ok (.iconst 0, 1) := by decide +kernel
theorem dX10_isOf_45 : decode cX10_isOf 45 = .ok (.ireturn, 1) := by decide +kernel
theorem dX10_pullBy_0 : decode cX10_pullBy 0 = .ok (.aload_n 0, 1) := by decide +kernel
theorem dX10_pullBy_1 : decode cX10_pullBy 1 = .ok (.iload_n 1, 1) := by decide +kernel
theorem dX10_pullBy_2 : decode cX10_pullBy 2 = .ok (.iconst 2, 1) := by decide +kernel
theorem dX10_pullBy_3 : decode cX10_pullBy 3 = .ok (.invokevirtual 159, 3) := by decide +kernel
theorem dX10_pullBy_6 : decode cX10_pullBy 6 = .ok (.ifCond .eq 7, 3) := by decide +kernel
theorem dX10_pullBy_9 : decode cX10_pullBy 9 = .ok (.iconst 2, 1) := by decide +kernel
theorem dX10_pullBy_10 : decode cX10_pullBy 10 = .ok (.goto 4, 3) := by decide +kernel
theorem dX10_pullBy_13 : decode cX10_pullBy 13 = .ok (.iconst 1, 1) := by decide +kernel
theorem dX10_pullBy_14 : decode cX10_pullBy 14 = .ok (.ireturn, 1) := by decide +kernel
theorem dX10_isDown_0 : decode cX10_isDown 0 = .ok (.aload_n 0, 1) := by decide +kernel
theorem dX10_isDown_1 : decode cX10_isDown 1 = .ok (.getfield 25, 3) := by decide +kernel
theorem dX10_isDown_4 : decode cX10_isDown 4 = .ok (.iconst 0, 1) := by decide +kernel
theorem dX10_isDown_5 : decode cX10_isDown 5 = .ok (.iaload, 1) := by decide +kernel
theorem dX10_isDown_6 : decode cX10_isDown 6 = .ok (.bipush 48, 2) := by decide +kernel
theorem dX10_isDown_8 : decode cX10_isDown 8 = .ok (.if_icmp .lt 7, 3) := by decide +kernel
theorem dX10_isDown_11 : decode cX10_isDown 11 = .ok (.iconst 1, 1) := by decide +kernel
theorem dX10_isDown_12 : decode cX10_isDown 12 = .ok (.goto 4, 3) := by decide +kernel
theorem dX10_isDown_15 : decode cX10_isDown 15 = .ok (.iconst 0, 1) := by decide +kernel
theorem dX10_isDown_16 : decode cX10_isDown 16 = .ok (.ireturn, 1) := by decide +kernel
theorem dX10_canPull_0 : decode cX10_canPull 0 = .ok (.aload_n 0, 1) := by decide +kernel
theorem dX10_canPull_1 : decode cX10_canPull 1 = .ok (.invokevirtual 163, 3) := by decide +kernel
theorem dX10_canPull_4 : decode cX10_canPull 4 = .ok (.ifCond .ne 50, 3) := by decide +kernel
theorem dX10_canPull_7 : decode cX10_canPull 7 = .ok (.aload_n 0, 1) := by decide +kernel
theorem dX10_canPull_8 : decode cX10_canPull 8 = .ok (.getfield 25, 3) := by decide +kernel
theorem dX10_canPull_11 : decode cX10_canPull 11 = .ok (.iconst 2, 1) := by decide +kernel
theorem dX10_canPull_12 : decode cX10_canPull 12 = .ok (.iload_n 1, 1) := by decide +kernel
theorem dX10_canPull_13 : decode cX10_canPull 13 = .ok (.iadd, 1) := by decide +kernel
theorem dX10_canPull_14 : decode cX10_canPull 14 = .ok (.iaload, 1) := by decide +kernel
theorem dX10_canPull_15 : decode cX10_canPull 15 = .ok (.ifCond .le 39, 3) := by decide +kernel
theorem dX10_canPull_18 : decode cX10_canPull 18 = .ok (.aload_n 0, 1) := by decide +kernel
theorem dX10_canPull_19 : decode cX10_canPull 19 = .ok (.getfield 25, 3) := by decide +kernel
theorem dX10_canPull_22 : decode cX10_canPull 22 = .ok (.bipush 7, 2) := by decide +kernel
theorem dX10_canPull_24 : decode cX10_canPull 24 = .ok (.iload_n 1, 1) := by decide +kernel
theorem dX10_canPull_25 : decode cX10_canPull 25 = .ok (.iadd, 1) := by decide +kernel
theorem dX10_canPull_26 : decode cX10_canPull 26 = .ok (.iaload, 1) := by decide +kernel
theorem dX10_canPull_27 : decode cX10_canPull 27 = .ok (.ifCond .le 27, 3) := by decide +kernel
theorem dX10_canPull_30 : decode cX10_canPull 30 = .ok (.aload_n 0, 1) := by decide +kernel
theorem dX10_canPull_31 : decode cX10_canPull 31 = .ok (.iload_n 1, 1) := by decide +kernel
theorem dX10_canPull_32 : decode cX10_canPull 32 = .ok (.iconst 3, 1) := by decide +kernel
theorem dX10_canPull_33 : decode cX10_canPull 33 = .ok (.invokevirtual 159, 3) := by decide +kernel
theorem dX10_canPull_36 : decode cX10_canPull 36 = .ok (.ifCond .eq 14, 3) := by decide +kernel
theorem dX10_canPull_39 : decode cX10_canPull 39 = .ok (.aload_n 0, 1) := by decide +kernel
theorem dX10_canPull_40 : decode cX10_canPull 40 = .ok (.getfield 25, 3) := by decide +kernel
theorem dX10_canPull_43 : decode cX10_canPull 43 = .ok (.iconst 0, 1) := by decide +kernel
theorem dX10_canPull_44 : decode cX10_canPull 44 = .ok (.iaload, 1) := by decide +kernel
theorem dX10_canPull_45 : decode cX10_canPull 45 = .ok (.bipush 24, 2) := by decide +kernel
theorem dX10_canPull_47 : decode cX10_canPull 47 = .ok (.if_icmp .ge 7, 3) := by decide +kernel
theorem dX10_canPull_50 : decode cX10_canPull 50 = .ok (.iconst 1, 1) := by decide +kernel
theorem dX10_canPull_51 : decode cX10_canPull 51 = .ok (.goto 4, 3) := by decide +kernel
theorem dX10_canPull_54 : decode cX10_canPull 54 = .ok (.iconst 0, 1) := by decide +kernel
theorem dX10_canPull_55 : decode cX10_canPull 55 = .ok (.ireturn, 1) := by decide +kernel
theorem dX10_gainOf_0 : decode cX10_gainOf 0 = .ok (.aload_n 0, 1) := by decide +kernel
theorem dX10_gainOf_1 : decode cX10_gainOf 1 = .ok (.invokevirtual 163, 3) := by decide +kernel
theorem dX10_gainOf_4 : decode cX10_gainOf 4 = .ok (.ifCond .ne 37, 3) := by decide +kernel
theorem dX10_gainOf_7 : decode cX10_gainOf 7 = .ok (.aload_n 0, 1) := by decide +kernel
theorem dX10_gainOf_8 : decode cX10_gainOf 8 = .ok (.getfield 25, 3) := by decide +kernel
theorem dX10_gainOf_11 : decode cX10_gainOf 11 = .ok (.iconst 0, 1) := by decide +kernel
theorem dX10_gainOf_12 : decode cX10_gainOf 12 = .ok (.iaload, 1) := by decide +kernel
theorem dX10_gainOf_13 : decode cX10_gainOf 13 = .ok (.bipush 6, 2) := by decide +kernel
theorem dX10_gainOf_15 : decode cX10_gainOf 15 = .ok (.idiv, 1) := by decide +kernel
theorem dX10_gainOf_16 : decode cX10_gainOf 16 = .ok (.i2l, 1) := by decide +kernel
theorem dX10_gainOf_17 : decode cX10_gainOf 17 = .ok (.aload_n 0, 1) := by decide +kernel
theorem dX10_gainOf_18 : decode cX10_gainOf 18 = .ok (.getfield 16, 3) := by decide +kernel
theorem dX10_gainOf_21 : decode cX10_gainOf 21 = .ok (.iload_n 1, 1) := by decide +kernel
theorem dX10_gainOf_22 : decode cX10_gainOf 22 = .ok (.iaload, 1) := by decide +kernel
theorem dX10_gainOf_23 : decode cX10_gainOf 23 = .ok (.i2l, 1) := by decide +kernel
theorem dX10_gainOf_24 : decode cX10_gainOf 24 = .ok (.aload_n 0, 1) := by decide +kernel
theorem dX10_gainOf_25 : decode cX10_gainOf 25 = .ok (.getfield 19, 3) := by decide +kernel
theorem dX10_gainOf_28 : decode cX10_gainOf 28 = .ok (.iload_n 1, 1) := by decide +kernel
theorem dX10_gainOf_29 : decode cX10_gainOf 29 = .ok (.iaload, 1) := by decide +kernel
theorem dX10_gainOf_30 : decode cX10_gainOf 30 = .ok (.i2l, 1) := by decide +kernel
theorem dX10_gainOf_31 : decode cX10_gainOf 31 = .ok (.invokestatic 98, 3) := by decide +kernel
theorem dX10_gainOf_34 : decode cX10_gainOf 34 = .ok (.ifCond .eq 7, 3) := by decide +kernel
theorem dX10_gainOf_37 : decode cX10_gainOf 37 = .ok (.iconst 1, 1) := by decide +kernel
theorem dX10_gainOf_38 : decode cX10_gainOf 38 = .ok (.goto 4, 3) := by decide +kernel
theorem dX10_gainOf_41 : decode cX10_gainOf 41 = .ok (.iconst 0, 1) := by decide +kernel
theorem dX10_gainOf_42 : decode cX10_gainOf 42 = .ok (.istore_n 2, 1) := by decide +kernel
theorem dX10_gainOf_43 : decode cX10_gainOf 43 = .ok (.iload_n 2, 1) := by decide +kernel
theorem dX10_gainOf_44 : decode cX10_gainOf 44 = .ok (.aload_n 0, 1) := by decide +kernel
theorem dX10_gainOf_45 : decode cX10_gainOf 45 = .ok (.getfield 13, 3) := by decide +kernel
theorem dX10_gainOf_48 : decode cX10_gainOf 48 = .ok (.iload_n 1, 1) := by decide +kernel
theorem dX10_gainOf_49 : decode cX10_gainOf 49 = .ok (.iaload, 1) := by decide +kernel
theorem dX10_gainOf_50 : decode cX10_gainOf 50 = .ok (.iconst 1, 1) := by decide +kernel
theorem dX10_gainOf_51 : decode cX10_gainOf 51 = .ok (.if_icmp .ne 7, 3) := by decide +kernel
theorem dX10_gainOf_54 : decode cX10_gainOf 54 = .ok (.iconst 1, 1) := by decide +kernel
theorem dX10_gainOf_55 : decode cX10_gainOf 55 = .ok (.goto 4, 3) := by decide +kernel
theorem dX10_gainOf_58 : decode cX10_gainOf 58 = .ok (.iconst 0, 1) := by decide +kernel
theorem dX10_gainOf_59 : decode cX10_gainOf 59 = .ok (.if_icmp .ne 12, 3) := by decide +kernel
theorem dX10_gainOf_62 : decode cX10_gainOf 62 = .ok (.aload_n 0, 1) := by decide +kernel
theorem dX10_gainOf_63 : decode cX10_gainOf 63 = .ok (.getfield 22, 3) := by decide +kernel
theorem dX10_gainOf_66 : decode cX10_gainOf 66 = .ok (.iload_n 1, 1) := by decide +kernel
theorem dX10_gainOf_67 : decode cX10_gainOf 67 = .ok (.iaload, 1) := by decide +kernel
theorem dX10_gainOf_68 : decode cX10_gainOf 68 = .ok (.goto 4, 3) := by decide +kernel
theorem dX10_gainOf_71 : decode cX10_gainOf 71 = .ok (.iconst 0, 1) := by decide +kernel
theorem dX10_gainOf_72 : decode cX10_gainOf 72 = .ok (.ireturn, 1) := by decide +kernel
theorem dX10_gainAll_0 : decode cX10_gainAll 0 = .ok (.iconst 0, 1) := by decide +kernel
theorem dX10_gainAll_1 : decode cX10_gainAll 1 = .ok (.istore_n 1, 1) := by decide +kernel
theorem dX10_gainAll_2 : decode cX10_gainAll 2 = .ok (.iload_n 1, 1) := by decide +kernel
theorem dX10_gainAll_3 : decode cX10_gainAll 3 = .ok (.aload_n 0, 1) := by decide +kernel
theorem dX10_gainAll_4 : decode cX10_gainAll 4 = .ok (.getfield 107, 3) := by decide +kernel
theorem dX10_gainAll_7 : decode cX10_gainAll 7 = .ok (.if_icmp .ge 26, 3) := by decide +kernel
theorem dX10_gainAll_10 : decode cX10_gainAll 10 = .ok (.aload_n 0, 1) := by decide +kernel
theorem dX10_gainAll_11 : decode cX10_gainAll 11 = .ok (.getfield 25, 3) := by decide +kernel
theorem dX10_gainAll_14 : decode cX10_gainAll 14 = .ok (.bipush 12, 2) := by decide +kernel
theorem dX10_gainAll_16 : decode cX10_gainAll 16 = .ok (.iload_n 1, 1) := by decide +kernel
theorem dX10_gainAll_17 : decode cX10_gainAll 17 = .ok (.iadd, 1) := by decide +kernel
theorem dX10_gainAll_18 : decode cX10_gainAll 18 = .ok (.dup2, 1) := by decide +kernel
theorem dX10_gainAll_19 : decode cX10_gainAll 19 = .ok (.iaload, 1) := by decide +kernel
theorem dX10_gainAll_20 : decode cX10_gainAll 20 = .ok (.aload_n 0, 1) := by decide +kernel
theorem dX10_gainAll_21 : decode cX10_gainAll 21 = .ok (.iload_n 1, 1) := by decide +kernel
theorem dX10_gainAll_22 : decode cX10_gainAll 22 = .ok (.invokevirtual 167, 3) := by decide +kernel
theorem dX10_gainAll_25 : decode cX10_gainAll 25 = .ok (.iadd, 1) := by decide +kernel
theorem dX10_gainAll_26 : decode cX10_gainAll 26 = .ok (.iastore, 1) := by decide +kernel
theorem dX10_gainAll_27 : decode cX10_gainAll 27 = .ok (.iinc 1 1, 3) := by decide +kernel
theorem dX10_gainAll_30 : decode cX10_gainAll 30 = .ok (.goto (-28), 3) := by decide +kernel
theorem dX10_gainAll_33 : decode cX10_gainAll 33 = .ok (.return_, 1) := by decide +kernel
theorem dX10_rest_0 : decode cX10_rest 0 = .ok (.aload_n 0, 1) := by decide +kernel
theorem dX10_rest_1 : decode cX10_rest 1 = .ok (.getfield 25, 3) := by decide +kernel
theorem dX10_rest_4 : decode cX10_rest 4 = .ok (.bipush 7, 2) := by decide +kernel
theorem dX10_rest_6 : decode cX10_rest 6 = .ok (.iload_n 1, 1) := by decide +kernel
theorem dX10_rest_7 : decode cX10_rest 7 = .ok (.iadd, 1) := by decide +kernel
theorem dX10_rest_8 : decode cX10_rest 8 = .ok (.iaload, 1) := by decide +kernel
theorem dX10_rest_9 : decode cX10_rest 9 = .ok (.aload_n 0, 1) := by decide +kernel
theorem dX10_rest_10 : decode cX10_rest 10 = .ok (.getfield 7, 3) := by decide +kernel
theorem dX10_rest_13 : decode cX10_rest 13 = .ok (.iload_n 1, 1) := by decide +kernel
theorem dX10_rest_14 : decode cX10_rest 14 = .ok (.iaload, 1) := by decide +kernel
theorem dX10_rest_15 : decode cX10_rest 15 = .ok (.iconst 4, 1) := by decide +kernel
theorem dX10_rest_16 : decode cX10_rest 16 = .ok (.if_icmp .ne 7, 3) := by decide +kernel
theorem dX10_rest_19 : decode cX10_rest 19 = .ok (.iconst 2, 1) := by decide +kernel
theorem dX10_rest_20 : decode cX10_rest 20 = .ok (.goto 4, 3) := by decide +kernel
theorem dX10_rest_23 : decode cX10_rest 23 = .ok (.iconst 1, 1) := by decide +kernel
theorem dX10_rest_24 : decode cX10_rest 24 = .ok (.iadd, 1) := by decide +kernel
theorem dX10_rest_25 : decode cX10_rest 25 = .ok (.istore_n 2, 1) := by decide +kernel
theorem dX10_rest_26 : decode cX10_rest 26 = .ok (.aload_n 0, 1) := by decide +kernel
theorem dX10_rest_27 : decode cX10_rest 27 = .ok (.getfield 25, 3) := by decide +kernel
theorem dX10_rest_30 : decode cX10_rest 30 = .ok (.bipush 7, 2) := by decide +kernel
theorem dX10_rest_32 : decode cX10_rest 32 = .ok (.iload_n 1, 1) := by decide +kernel
theorem dX10_rest_33 : decode cX10_rest 33 = .ok (.iadd, 1) := by decide +kernel
theorem dX10_rest_34 : decode cX10_rest 34 = .ok (.iload_n 2, 1) := by decide +kernel
theorem dX10_rest_35 : decode cX10_rest 35 = .ok (.bipush 9, 2) := by decide +kernel
theorem dX10_rest_37 : decode cX10_rest 37 = .ok (.if_icmp .le 8, 3) := by decide +kernel
theorem dX10_rest_40 : decode cX10_rest 40 = .ok (.bipush 9, 2) := by decide +kernel
theorem dX10_rest_42 : decode cX10_rest 42 = .ok (.goto 4, 3) := by decide +kernel
theorem dX10_rest_45 : decode cX10_rest 45 = .ok (.iload_n 2, 1) := by decide +kernel
theorem dX10_rest_46 : decode cX10_rest 46 = .ok (.iastore, 1) := by decide +kernel
theorem dX10_rest_47 : decode cX10_rest 47 = .ok (.return_, 1) := by decide +kernel
theorem dX10_tire_0 : decode cX10_tire 0 = .ok (.aload_n 0, 1) := by decide +kernel
theorem dX10_tire_1 : decode cX10_tire 1 = .ok (.getfield 25, 3) := by decide +kernel
theorem dX10_tire_4 : decode cX10_tire 4 = .ok (.iconst 2, 1) := by decide +kernel
theorem dX10_tire_5 : decode cX10_tire 5 = .ok (.iload_n 1, 1) := by decide +kernel
theorem dX10_tire_6 : decode cX10_tire 6 = .ok (.iadd, 1) := by decide +kernel
theorem dX10_tire_7 : decode cX10_tire 7 = .ok (.dup2, 1) := by decide +kernel
theorem dX10_tire_8 : decode cX10_tire 8 = .ok (.iaload, 1) := by decide +kernel
theorem dX10_tire_9 : decode cX10_tire 9 = .ok (.aload_n 0, 1) := by decide +kernel
theorem dX10_tire_10 : decode cX10_tire 10 = .ok (.getfield 7, 3) := by decide +kernel
theorem dX10_tire_13 : decode cX10_tire 13 = .ok (.iload_n 1, 1) := by decide +kernel
theorem dX10_tire_14 : decode cX10_tire 14 = .ok (.iaload, 1) := by decide +kernel
theorem dX10_tire_15 : decode cX10_tire 15 = .ok (.iconst 1, 1) := by decide +kernel
theorem dX10_tire_16 : decode cX10_tire 16 = .ok (.if_icmp .ne 7, 3) := by decide +kernel
theorem dX10_tire_19 : decode cX10_tire 19 = .ok (.iload_n 2, 1) := by decide +kernel
theorem dX10_tire_20 : decode cX10_tire 20 = .ok (.ifCond .eq 7, 3) := by decide +kernel
theorem dX10_tire_23 : decode cX10_tire 23 = .ok (.iconst 1, 1) := by decide +kernel
theorem dX10_tire_24 : decode cX10_tire 24 = .ok (.goto 4, 3) := by decide +kernel
theorem dX10_tire_27 : decode cX10_tire 27 = .ok (.iconst 0, 1) := by decide +kernel
theorem dX10_tire_28 : decode cX10_tire 28 = .ok (.isub, 1) := by decide +kernel
theorem dX10_tire_29 : decode cX10_tire 29 = .ok (.iastore, 1) := by decide +kernel
theorem dX10_tire_30 : decode cX10_tire 30 = .ok (.aload_n 0, 1) := by decide +kernel
theorem dX10_tire_31 : decode cX10_tire 31 = .ok (.getfield 25, 3) := by decide +kernel
theorem dX10_tire_34 : decode cX10_tire 34 = .ok (.bipush 7, 2) := by decide +kernel
theorem dX10_tire_36 : decode cX10_tire 36 = .ok (.iload_n 1, 1) := by decide +kernel
theorem dX10_tire_37 : decode cX10_tire 37 = .ok (.iadd, 1) := by decide +kernel
theorem dX10_tire_38 : decode cX10_tire 38 = .ok (.dup2, 1) := by decide +kernel
theorem dX10_tire_39 : decode cX10_tire 39 = .ok (.iaload, 1) := by decide +kernel
theorem dX10_tire_40 : decode cX10_tire 40 = .ok (.aload_n 0, 1) := by decide +kernel
theorem dX10_tire_41 : decode cX10_tire 41 = .ok (.getfield 7, 3) := by decide +kernel
theorem dX10_tire_44 : decode cX10_tire 44 = .ok (.iload_n 1, 1) := by decide +kernel
theorem dX10_tire_45 : decode cX10_tire 45 = .ok (.iaload, 1) := by decide +kernel
theorem dX10_tire_46 : decode cX10_tire 46 = .ok (.iconst 5, 1) := by decide +kernel
theorem dX10_tire_47 : decode cX10_tire 47 = .ok (.if_icmp .ne 7, 3) := by decide +kernel
theorem dX10_tire_50 : decode cX10_tire 50 = .ok (.iconst 0, 1) := by decide +kernel
theorem dX10_tire_51 : decode cX10_tire 51 = .ok (.goto 4, 3) := by decide +kernel
theorem dX10_tire_54 : decode cX10_tire 54 = .ok (.iconst 1, 1) := by decide +kernel
theorem dX10_tire_55 : decode cX10_tire 55 = .ok (.isub, 1) := by decide +kernel
theorem dX10_tire_56 : decode cX10_tire 56 = .ok (.iastore, 1) := by decide +kernel
theorem dX10_tire_57 : decode cX10_tire 57 = .ok (.aload_n 0, 1) := by decide +kernel
theorem dX10_tire_58 : decode cX10_tire 58 = .ok (.dup, 1) := by decide +kernel
theorem dX10_tire_59 : decode cX10_tire 59 = .ok (.getfield 170, 3) := by decide +kernel
theorem dX10_tire_62 : decode cX10_tire 62 = .ok (.aload_n 0, 1) := by decide +kernel
theorem dX10_tire_63 : decode cX10_tire 63 = .ok (.getfield 25, 3) := by decide +kernel
theorem dX10_tire_66 : decode cX10_tire 66 = .ok (.iconst 2, 1) := by decide +kernel
theorem dX10_tire_67 : decode cX10_tire 67 = .ok (.iload_n 1, 1) := by decide +kernel
theorem dX10_tire_68 : decode cX10_tire 68 = .ok (.iadd, 1) := by decide +kernel
theorem dX10_tire_69 : decode cX10_tire 69 = .ok (.iaload, 1) := by decide +kernel
theorem dX10_tire_70 : decode cX10_tire 70 = .ok (.ifCond .ne 9, 3) := by decide +kernel
theorem dX10_tire_73 : decode cX10_tire 73 = .ok (.iconst 1, 1) := by decide +kernel
theorem dX10_tire_74 : decode cX10_tire 74 = .ok (.iload_n 1, 1) := by decide +kernel
theorem dX10_tire_75 : decode cX10_tire 75 = .ok (.ishl, 1) := by decide +kernel
theorem dX10_tire_76 : decode cX10_tire 76 = .ok (.goto 4, 3) := by decide +kernel
theorem dX10_tire_79 : decode cX10_tire 79 = .ok (.iconst 0, 1) := by decide +kernel
theorem dX10_tire_80 : decode cX10_tire 80 = .ok (.ior, 1) := by decide +kernel
theorem dX10_tire_81 : decode cX10_tire 81 = .ok (.putfield 170, 3) := by decide +kernel
theorem dX10_tire_84 : decode cX10_tire 84 = .ok (.return_, 1) := by decide +kernel
theorem dX10_goHour_0 : decode cX10_goHour 0 = .ok (.aload_n 0, 1) := by decide +kernel
theorem dX10_goHour_1 : decode cX10_goHour 1 = .ok (.iconst 0, 1) := by decide +kernel
theorem dX10_goHour_2 : decode cX10_goHour 2 = .ok (.putfield 173, 3) := by decide +kernel
theorem dX10_goHour_5 : decode cX10_goHour 5 = .ok (.aload_n 0, 1) := by decide +kernel
theorem dX10_goHour_6 : decode cX10_goHour 6 = .ok (.iconst 0, 1) := by decide +kernel
theorem dX10_goHour_7 : decode cX10_goHour 7 = .ok (.putfield 170, 3) := by decide +kernel
theorem dX10_goHour_10 : decode cX10_goHour 10 = .ok (.aload_n 0, 1) := by decide +kernel
theorem dX10_goHour_11 : decode cX10_goHour 11 = .ok (.invokevirtual 176, 3) := by decide +kernel
theorem dX10_goHour_14 : decode cX10_goHour 14 = .ok (.aload_n 0, 1) := by decide +kernel
theorem dX10_goHour_15 : decode cX10_goHour 15 = .ok (.invokevirtual 163, 3) := by decide +kernel
theorem dX10_goHour_18 : decode cX10_goHour 18 = .ok (.istore_n 2, 1) := by decide +kernel
theorem dX10_goHour_19 : decode cX10_goHour 19 = .ok (.aload_n 0, 1) := by decide +kernel
theorem dX10_goHour_20 : decode cX10_goHour 20 = .ok (.getfield 25, 3) := by decide +kernel
theorem dX10_goHour_23 : decode cX10_goHour 23 = .ok (.iconst 0, 1) := by decide +kernel
theorem dX10_goHour_24 : decode cX10_goHour 24 = .ok (.iaload, 1) := by decide +kernel
theorem dX10_goHour_25 : decode cX10_goHour 25 = .ok (.bipush 6, 2) := by decide +kernel
theorem dX10_goHour_27 : decode cX10_goHour 27 = .ok (.idiv, 1) := by decide +kernel
theorem dX10_goHour_28 : decode cX10_goHour 28 = .ok (.iconst 2, 1) := by decide +kernel
theorem dX10_goHour_29 : decode cX10_goHour 29 = .ok (.irem, 1) := by decide +kernel
theorem dX10_goHour_30 : decode cX10_goHour 30 = .ok (.ifCond .ne 7, 3) := by decide +kernel
theorem dX10_goHour_33 : decode cX10_goHour 33 = .ok (.iconst 1, 1) := by decide +kernel
theorem dX10_goHour_34 : decode cX10_goHour 34 = .ok (.goto 4, 3) := by decide +kernel
theorem dX10_goHour_37 : decode cX10_goHour 37 = .ok (.iconst 0, 1) := by decide +kernel
theorem dX10_goHour_38 : decode cX10_goHour 38 = .ok (.istore_n 3, 1) := by decide +kernel
theorem dX10_goHour_39 : decode cX10_goHour 39 = .ok (.iconst 0, 1) := by decide +kernel
theorem dX10_goHour_40 : decode cX10_goHour 40 = .ok (.istore 4, 2) := by decide +kernel
theorem dX10_goHour_42 : decode cX10_goHour 42 = .ok (.iconst 0, 1) := by decide +kernel
theorem dX10_goHour_43 : decode cX10_goHour 43 = .ok (.istore 5, 2) := by decide +kernel
theorem dX10_goHour_45 : decode cX10_goHour 45 = .ok (.iload 5, 2) := by decide +kernel
theorem dX10_goHour_47 : decode cX10_goHour 47 = .ok (.aload_n 0, 1) := by decide +kernel
theorem dX10_goHour_48 : decode cX10_goHour 48 = .ok (.getfield 104, 3) := by decide +kernel
theorem dX10_goHour_51 : decode cX10_goHour 51 = .ok (.if_icmp .ge 76, 3) := by decide +kernel
theorem dX10_goHour_54 : decode cX10_goHour 54 = .ok (.iload_n 1, 1) := by decide +kernel
theorem dX10_goHour_55 : decode cX10_goHour 55 = .ok (.iload 5, 2) := by decide +kernel
theorem dX10_goHour_57 : decode cX10_goHour 57 = .ok (.invokestatic 179, 3) := by decide +kernel
theorem dX10_goHour_60 : decode cX10_goHour 60 = .ok (.ifCond .eq 16, 3) := by decide +kernel
theorem dX10_goHour_63 : decode cX10_goHour 63 = .ok (.aload_n 0, 1) := by decide +kernel
theorem dX10_goHour_64 : decode cX10_goHour 64 = .ok (.iload 5, 2) := by decide +kernel
theorem dX10_goHour_66 : decode cX10_goHour 66 = .ok (.invokevirtual 182, 3) := by decide +kernel
theorem dX10_goHour_69 : decode cX10_goHour 69 = .ok (.ifCond .eq 7, 3) := by decide +kernel
theorem dX10_goHour_72 : decode cX10_goHour 72 = .ok (.iconst 1, 1) := by decide +kernel
theorem dX10_goHour_73 : decode cX10_goHour 73 = .ok (.goto 4, 3) := by decide +kernel
theorem dX10_goHour_76 : decode cX10_goHour 76 = .ok (.iconst 0, 1) := by decide +kernel
theorem dX10_goHour_77 : decode cX10_goHour 77 = .ok (.istore 6, 2) := by decide +kernel
theorem dX10_goHour_79 : decode cX10_goHour 79 = .ok (.aload_n 0, 1) := by decide +kernel
theorem dX10_goHour_80 : decode cX10_goHour 80 = .ok (.dup, 1) := by decide +kernel
theorem dX10_goHour_81 : decode cX10_goHour 81 = .ok (.getfield 173, 3) := by decide +kernel
theorem dX10_goHour_84 : decode cX10_goHour 84 = .ok (.iload 6, 2) := by decide +kernel
theorem dX10_goHour_86 : decode cX10_goHour 86 = .ok (.ifCond .eq 10, 3) := by decide +kernel
theorem dX10_goHour_89 : decode cX10_goHour 89 = .ok (.iconst 1, 1) := by decide +kernel
theorem dX10_goHour_90 : decode cX10_goHour 90 = .ok (.iload 5, 2) := by decide +kernel
theorem dX10_goHour_92 : decode cX10_goHour 92 = .ok (.ishl, 1) := by decide +kernel
theorem dX10_goHour_93 : decode cX10_goHour 93 = .ok (.goto 4, 3) := by decide +kernel
theorem dX10_goHour_96 : decode cX10_goHour 96 = .ok (.iconst 0, 1) := by decide +kernel
theorem dX10_goHour_97 : decode cX10_goHour 97 = .ok (.ior, 1) := by decide +kernel
theorem dX10_goHour_98 : decode cX10_goHour 98 = .ok (.putfield 173, 3) := by decide +kernel
theorem dX10_goHour_101 : decode cX10_goHour 101 = .ok (.iload 4, 2) := by decide +kernel
theorem dX10_goHour_103 : decode cX10_goHour 103 = .ok (.iload 6, 2) := by decide +kernel
theorem dX10_goHour_105 : decode cX10_goHour 105 = .ok (.ifCond .eq 12, 3) := by decide +kernel
theorem dX10_goHour_108 : decode cX10_goHour 108 = .ok (.aload_n 0, 1) := by decide +kernel
theorem dX10_goHour_109 : decode cX10_goHour 109 = .ok (.iload 5, 2) := by decide +kernel
theorem dX10_goHour_111 : decode cX10_goHour 111 = .ok (.invokevirtual 185, 3) := by decide +kernel
theorem dX10_goHour_114 : decode cX10_goHour 114 = .ok (.goto 4, 3) := by decide +kernel
theorem dX10_goHour_117 : decode cX10_goHour 117 = .ok (.iconst 0, 1) := by decide +kernel
theorem dX10_goHour_118 : decode cX10_goHour 118 = .ok (.iadd, 1) := by decide +kernel
theorem dX10_goHour_119 : decode cX10_goHour 119 = .ok (.istore 4, 2) := by decide +kernel
theorem dX10_goHour_121 : decode cX10_goHour 121 = .ok (.iinc 5 1, 3) := by decide +kernel
theorem dX10_goHour_124 : decode cX10_goHour 124 = .ok (.goto (-79), 3) := by decide +kernel
theorem dX10_goHour_127 : decode cX10_goHour 127 = .ok (.iconst 0, 1) := by decide +kernel
theorem dX10_goHour_128 : decode cX10_goHour 128 = .ok (.istore 5, 2) := by decide +kernel
theorem dX10_goHour_130 : decode cX10_goHour 130 = .ok (.iload 5, 2) := by decide +kernel
theorem dX10_goHour_132 : decode cX10_goHour 132 = .ok (.aload_n 0, 1) := by decide +kernel
theorem dX10_goHour_133 : decode cX10_goHour 133 = .ok (.getfield 104, 3) := by decide +kernel
theorem dX10_goHour_136 : decode cX10_goHour 136 = .ok (.if_icmp .ge 37, 3) := by decide +kernel
theorem dX10_goHour_139 : decode cX10_goHour 139 = .ok (.aload_n 0, 1) := by decide +kernel
theorem dX10_goHour_140 : decode cX10_goHour 140 = .ok (.getfield 173, 3) := by decide +kernel
theorem dX10_goHour_143 : decode cX10_goHour 143 = .ok (.iload 5, 2) := by decide +kernel
theorem dX10_goHour_145 : decode cX10_goHour 145 = .ok (.invokestatic 179, 3) := by decide +kernel
theorem dX10_goHour_148 : decode cX10_goHour 148 = .ok (.ifCond .eq 13, 3) := by decide +kernel
theorem dX10_goHour_151 : decode cX10_goHour 151 = .ok (.aload_n 0, 1) := by decide +kernel
theorem dX10_goHour_152 : decode cX10_goHour 152 = .ok (.iload 5, 2) := by decide +kernel
theorem dX10_goHour_154 : decode cX10_goHour 154 = .ok (.iload_n 3, 1) := by decide +kernel
theorem dX10_goHour_155 : decode cX10_goHour 155 = .ok (.invokevirtual 188, 3) := by decide +kernel
theorem dX10_goHour_158 : decode cX10_goHour 158 = .ok (.goto 9, 3) := by decide +kernel
theorem dX10_goHour_161 : decode cX10_goHour 161 = .ok (.aload_n 0, 1) := by decide +kernel
theorem dX10_goHour_162 : decode cX10_goHour 162 = .ok (.iload 5, 2) := by decide +kernel
theorem dX10_goHour_164 : decode cX10_goHour 164 = .ok (.invokevirtual 192, 3) := by decide +kernel
theorem dX10_goHour_167 : decode cX10_goHour 167 = .ok (.iinc 5 1, 3) := by decide +kernel
theorem dX10_goHour_170 : decode cX10_goHour 170 = .ok (.goto (-40), 3) := by decide +kernel
theorem dX10_goHour_173 : decode cX10_goHour 173 = .ok (.iload_n 2, 1) := by decide +kernel
theorem dX10_goHour_174 : decode cX10_goHour 174 = .ok (.ifCond .eq 5, 3) := by decide +kernel
theorem dX10_goHour_177 : decode cX10_goHour 177 = .ok (.iconst 0, 1) := by decide +kernel
theorem dX10_goHour_178 : decode cX10_goHour 178 = .ok (.ireturn, 1) := by decide +kernel
theorem dX10_goHour_179 : decode cX10_goHour 179 = .ok (.iload 4, 2) := by decide +kernel
theorem dX10_goHour_181 : decode cX10_goHour 181 = .ok (.iconst 5, 1) := by decide +kernel
theorem dX10_goHour_182 : decode cX10_goHour 182 = .ok (.if_icmp .le 7, 3) := by decide +kernel
theorem dX10_goHour_185 : decode cX10_goHour 185 = .ok (.iconst 1, 1) := by decide +kernel
theorem dX10_goHour_186 : decode cX10_goHour 186 = .ok (.goto 8, 3) := by decide +kernel
theorem dX10_goHour_189 : decode cX10_goHour 189 = .ok (.bipush 6, 2) := by decide +kernel
theorem dX10_goHour_191 : decode cX10_goHour 191 = .ok (.iload 4, 2) := by decide +kernel
theorem dX10_goHour_193 : decode cX10_goHour 193 = .ok (.isub, 1) := by decide +kernel
theorem dX10_goHour_194 : decode cX10_goHour 194 = .ok (.istore 5, 2) := by decide +kernel
theorem dX10_goHour_196 : decode cX10_goHour 196 = .ok (.aload_n 0, 1) := by decide +kernel
theorem dX10_goHour_197 : decode cX10_goHour 197 = .ok (.getfield 25, 3) := by decide +kernel
theorem dX10_goHour_200 : decode cX10_goHour 200 = .ok (.iconst 1, 1) := by decide +kernel
theorem dX10_goHour_201 : decode cX10_goHour 201 = .ok (.dup2, 1) := by decide +kernel
theorem dX10_goHour_202 : decode cX10_goHour 202 = .ok (.iaload, 1) := by decide +kernel
theorem dX10_goHour_203 : decode cX10_goHour 203 = .ok (.bipush 6, 2) := by decide +kernel
theorem dX10_goHour_205 : decode cX10_goHour 205 = .ok (.iload 5, 2) := by decide +kernel
theorem dX10_goHour_207 : decode cX10_goHour 207 = .ok (.isub, 1) := by decide +kernel
theorem dX10_goHour_208 : decode cX10_goHour 208 = .ok (.iadd, 1) := by decide +kernel
theorem dX10_goHour_209 : decode cX10_goHour 209 = .ok (.iastore, 1) := by decide +kernel
theorem dX10_goHour_210 : decode cX10_goHour 210 = .ok (.aload_n 0, 1) := by decide +kernel
theorem dX10_goHour_211 : decode cX10_goHour 211 = .ok (.getfield 25, 3) := by decide +kernel
theorem dX10_goHour_214 : decode cX10_goHour 214 = .ok (.iconst 0, 1) := by decide +kernel
theorem dX10_goHour_215 : decode cX10_goHour 215 = .ok (.dup2, 1) := by decide +kernel
theorem dX10_goHour_216 : decode cX10_goHour 216 = .ok (.iaload, 1) := by decide +kernel
theorem dX10_goHour_217 : decode cX10_goHour 217 = .ok (.iload 5, 2) := by decide +kernel
theorem dX10_goHour_219 : decode cX10_goHour 219 = .ok (.iconst 2, 1) := by decide +kernel
theorem dX10_goHour_220 : decode cX10_goHour 220 = .ok (.aload_n 0, 1) := by decide +kernel
theorem dX10_goHour_221 : decode cX10_goHour 221 = .ok (.getfield 170, 3) := by decide +kernel
theorem dX10_goHour_224 : decode cX10_goHour 224 = .ok (.invokestatic 195, 3) := by decide +kernel
theorem dX10_goHour_227 : decode cX10_goHour 227 = .ok (.imul, 1) := by decide +kernel
theorem dX10_goHour_228 : decode cX10_goHour 228 = .ok (.iadd, 1) := by decide +kernel
theorem dX10_goHour_229 : decode cX10_goHour 229 = .ok (.iadd, 1) := by decide +kernel
theorem dX10_goHour_230 : decode cX10_goHour 230 = .ok (.iastore, 1) := by decide +kernel
theorem dX10_goHour_231 : decode cX10_goHour 231 = .ok (.iload 5, 2) := by decide +kernel
theorem dX10_goHour_233 : decode cX10_goHour 233 = .ok (.iconst 2, 1) := by decide +kernel
theorem dX10_goHour_234 : decode cX10_goHour 234 = .ok (.aload_n 0, 1) := by decide +kernel
theorem dX10_goHour_235 : decode cX10_goHour 235 = .ok (.getfield 170, 3) := by decide +kernel
theorem dX10_goHour_238 : decode cX10_goHour 238 = .ok (.invokestatic 195, 3) := by decide +kernel
theorem dX10_goHour_241 : decode cX10_goHour 241 = .ok (.imul, 1) := by decide +kernel
theorem dX10_goHour_242 : decode cX10_goHour 242 = .ok (.iadd, 1) := by decide +kernel
theorem dX10_goHour_243 : decode cX10_goHour 243 = .ok (.ireturn, 1) := by decide +kernel
theorem dX10_remember_0 : decode cX10_remember 0 = .ok (.iconst 0, 1) := by decide +kernel
theorem dX10_remember_1 : decode cX10_remember 1 = .ok (.istore_n 1, 1) := by decide +kernel
theorem dX10_remember_2 : decode cX10_remember 2 = .ok (.iload_n 1, 1) := by decide +kernel
theorem dX10_remember_3 : decode cX10_remember 3 = .ok (.bipush 16, 2) := by decide +kernel
theorem dX10_remember_5 : decode cX10_remember 5 = .ok (.if_icmp .ge 29, 3) := by decide +kernel
theorem dX10_remember_8 : decode cX10_remember 8 = .ok (.aload_n 0, 1) := by decide +kernel
theorem dX10_remember_9 : decode cX10_remember 9 = .ok (.getfield 28, 3) := by decide +kernel
theorem dX10_remember_12 : decode cX10_remember 12 = .ok (.bipush 16, 2) := by decide +kernel
theorem dX10_remember_14 : decode cX10_remember 14 = .ok (.aload_n 0, 1) := by decide +kernel
theorem dX10_remember_15 : decode cX10_remember 15 = .ok (.getfield 156, 3) := by decide +kernel
theorem dX10_remember_18 : decode cX10_remember 18 = .ok (.imul, 1) := by decide +kernel
theorem dX10_remember_19 : decode cX10_remember 19 = .ok (.iload_n 1, 1) := by decide +kernel
theorem dX10_remember_20 : decode cX10_remember 20 = .ok (.iadd, 1) := by decide +kernel
theorem dX10_remember_21 : decode cX10_remember 21 = .ok (.aload_n 0, 1) := by decide +kernel
theorem dX10_remember_22 : decode cX10_remember 22 = .ok (.getfield 25, 3) := by decide +kernel
theorem dX10_remember_25 : decode cX10_remember 25 = .ok (.iload_n 1, 1) := by decide +kernel
theorem dX10_remember_26 : decode cX10_remember 26 = .ok (.iaload, 1) := by decide +kernel
theorem dX10_remember_27 : decode cX10_remember 27 = .ok (.iastore, 1) := by decide +kernel
theorem dX10_remember_28 : decode cX10_remember 28 = .ok (.iinc 1 1, 3) := by decide +kernel
theorem dX10_remember_31 : decode cX10_remember 31 = .ok (.goto (-29), 3) := by decide +kernel
theorem dX10_remember_34 : decode cX10_remember 34 = .ok (.aload_n 0, 1) := by decide +kernel
theorem dX10_remember_35 : decode cX10_remember 35 = .ok (.dup, 1) := by decide +kernel
theorem dX10_remember_36 : decode cX10_remember 36 = .ok (.getfield 156, 3) := by decide +kernel
theorem dX10_remember_39 : decode cX10_remember 39 = .ok (.iconst 1, 1) := by decide +kernel
theorem dX10_remember_40 : decode cX10_remember 40 = .ok (.iadd, 1) := by decide +kernel
theorem dX10_remember_41 : decode cX10_remember 41 = .ok (.putfield 156, 3) := by decide +kernel
theorem dX10_remember_44 : decode cX10_remember 44 = .ok (.return_, 1) := by decide +kernel
theorem dX10_capeOf_0 : decode cX10_capeOf 0 = .ok (.iload_n 2, 1) := by decide +kernel
theorem dX10_capeOf_1 : decode cX10_capeOf 1 = .ok (.tableswitch 53 0 2 #[27, 34, 43], 27) := by decide +kernel
theorem dX10_capeOf_28 : decode cX10_capeOf 28 = .ok (.aload_n 0, 1) := by decide +kernel
theorem dX10_capeOf_29 : decode cX10_capeOf 29 = .ok (.getfield 7, 3) := by decide +kernel
theorem dX10_capeOf_32 : decode cX10_capeOf 32 = .ok (.iload_n 1, 1) := by decide +kernel
theorem dX10_capeOf_33 : decode cX10_capeOf 33 = .ok (.iaload, 1) := by decide +kernel
theorem dX10_capeOf_34 : decode cX10_capeOf 34 = .ok (.ireturn, 1) := by decide +kernel
theorem dX10_capeOf_35 : decode cX10_capeOf 35 = .ok (.aload_n 0, 1) := by decide +kernel
theorem dX10_capeOf_36 : decode cX10_capeOf 36 = .ok (.getfield 25, 3) := by decide +kernel
theorem dX10_capeOf_39 : decode cX10_capeOf 39 = .ok (.iconst 2, 1) := by decide +kernel
theorem dX10_capeOf_40 : decode cX10_capeOf 40 = .ok (.iload_n 1, 1) := by decide +kernel
theorem dX10_capeOf_41 : decode cX10_capeOf 41 = .ok (.iadd, 1) := by decide +kernel
theorem dX10_capeOf_42 : decode cX10_capeOf 42 = .ok (.iaload, 1) := by decide +kernel
theorem dX10_capeOf_43 : decode cX10_capeOf 43 = .ok (.ireturn, 1) := by decide +kernel
theorem dX10_capeOf_44 : decode cX10_capeOf 44 = .ok (.aload_n 0, 1) := by decide +kernel
theorem dX10_capeOf_45 : decode cX10_capeOf 45 = .ok (.getfield 25, 3) := by decide +kernel
theorem dX10_capeOf_48 : decode cX10_capeOf 48 = .ok (.bipush 7, 2) := by decide +kernel
theorem dX10_capeOf_50 : decode cX10_capeOf 50 = .ok (.iload_n 1, 1) := by decide +kernel
theorem dX10_capeOf_51 : decode cX10_capeOf 51 = .ok (.iadd, 1) := by decide +kernel
theorem dX10_capeOf_52 : decode cX10_capeOf 52 = .ok (.iaload, 1) := by decide +kernel
theorem dX10_capeOf_53 : decode cX10_capeOf 53 = .ok (.ireturn, 1) := by decide +kernel
theorem dX10_capeOf_54 : decode cX10_capeOf 54 = .ok (.aload_n 0, 1) := by decide +kernel
theorem dX10_capeOf_55 : decode cX10_capeOf 55 = .ok (.iload_n 1, 1) := by decide +kernel
theorem dX10_capeOf_56 : decode cX10_capeOf 56 = .ok (.invokevirtual 182, 3) := by decide +kernel
theorem dX10_capeOf_59 : decode cX10_capeOf 59 = .ok (.ifCond .eq 11, 3) := by decide +kernel
theorem dX10_capeOf_62 : decode cX10_capeOf 62 = .ok (.aload_n 0, 1) := by decide +kernel
theorem dX10_capeOf_63 : decode cX10_capeOf 63 = .ok (.iload_n 1, 1) := by decide +kernel
theorem dX10_capeOf_64 : decode cX10_capeOf 64 = .ok (.invokevirtual 185, 3) := by decide +kernel
theorem dX10_capeOf_67 : decode cX10_capeOf 67 = .ok (.goto 4, 3) := by decide +kernel
theorem dX10_capeOf_70 : decode cX10_capeOf 70 = .ok (.iconst 0, 1) := by decide +kernel
theorem dX10_capeOf_71 : decode cX10_capeOf 71 = .ok (.ireturn, 1) := by decide +kernel
theorem dX10_cape_0 : decode cX10_cape 0 = .ok (.aload_n 0, 1) := by decide +kernel
theorem dX10_cape_1 : decode cX10_cape 1 = .ok (.iload_n 1, 1) := by decide +kernel
theorem dX10_cape_2 : decode cX10_cape 2 = .ok (.invokevirtual 198, 3) := by decide +kernel
theorem dX10_cape_5 : decode cX10_cape 5 = .ok (.ifCond .eq 15, 3) := by decide +kernel
theorem dX10_cape_8 : decode cX10_cape 8 = .ok (.iload_n 2, 1) := by decide +kernel
theorem dX10_cape_9 : decode cX10_cape 9 = .ok (.i2l, 1) := by decide +kernel
theorem dX10_cape_10 : decode cX10_cape 10 = .ok (.lconst 0, 1) := by decide +kernel
theorem dX10_cape_11 : decode cX10_cape 11 = .ok (.ldc2_w 102, 3) := by decide +kernel
theorem dX10_cape_14 : decode cX10_cape 14 = .ok (.invokestatic 98, 3) := by decide +kernel
theorem dX10_cape_17 : decode cX10_cape 17 = .ok (.ifCond .ne 5, 3) := by decide +kernel
theorem dX10_cape_20 : decode cX10_cape 20 = .ok (.iconst (-1), 1) := by decide +kernel
theorem dX10_cape_21 : decode cX10_cape 21 = .ok (.ireturn, 1) := by decide +kernel
theorem dX10_cape_22 : decode cX10_cape 22 = .ok (.aload_n 0, 1) := by decide +kernel
theorem dX10_cape_23 : decode cX10_cape 23 = .ok (.aload_n 0, 1) := by decide +kernel
theorem dX10_cape_24 : decode cX10_cape 24 = .ok (.iload_n 1, 1) := by decide +kernel
theorem dX10_cape_25 : decode cX10_cape 25 = .ok (.iload_n 2, 1) := by decide +kernel
theorem dX10_cape_26 : decode cX10_cape 26 = .ok (.invokevirtual 201, 3) := by decide +kernel
theorem dX10_cape_29 : decode cX10_cape 29 = .ok (.putfield 118, 3) := by decide +kernel
theorem dX10_cape_32 : decode cX10_cape 32 = .ok (.iconst 1, 1) := by decide +kernel
theorem dX10_cape_33 : decode cX10_cape 33 = .ok (.ireturn, 1) := by decide +kernel
theorem dX10_valleyOf_0 : decode cX10_valleyOf 0 = .ok (.iload_n 2, 1) := by decide +kernel
theorem dX10_valleyOf_1 : decode cX10_valleyOf 1 = .ok (.tableswitch 59 0 3 #[31, 38, 45, 52], 31) := by decide +kernel
theorem dX10_valleyOf_32 : decode cX10_valleyOf 32 = .ok (.aload_n 0, 1) := by decide +kernel
theorem dX10_valleyOf_33 : decode cX10_valleyOf 33 = .ok (.getfield 13, 3) := by decide +kernel
theorem dX10_valleyOf_36 : decode cX10_valleyOf 36 = .ok (.iload_n 1, 1) := by decide +kernel
theorem dX10_valleyOf_37 : decode cX10_valleyOf 37 = .ok (.iaload, 1) := by decide +kernel
theorem dX10_valleyOf_38 : decode cX10_valleyOf 38 = .ok (.ireturn, 1) := by decide +kernel
theorem dX10_valleyOf_39 : decode cX10_valleyOf 39 = .ok (.aload_n 0, 1) := by decide +kernel
theorem dX10_valleyOf_40 : decode cX10_valleyOf 40 = .ok (.getfield 16, 3) := by decide +kernel
theorem dX10_valleyOf_43 : decode cX10_valleyOf 43 = .ok (.iload_n 1, 1) := by decide +kernel
theorem dX10_valleyOf_44 : decode cX10_valleyOf 44 = .ok (.iaload, 1) := by decide +kernel
theorem dX10_valleyOf_45 : decode cX10_valleyOf 45 = .ok (.ireturn, 1) := by decide +kernel
theorem dX10_valleyOf_46 : decode cX10_valleyOf 46 = .ok (.aload_n 0, 1) := by decide +kernel
theorem dX10_valleyOf_47 : decode cX10_valleyOf 47 = .ok (.getfield 19, 3) := by decide +kernel
theorem dX10_valleyOf_50 : decode cX10_valleyOf 50 = .ok (.iload_n 1, 1) := by decide +kernel
theorem dX10_valleyOf_51 : decode cX10_valleyOf 51 = .ok (.iaload, 1) := by decide +kernel
theorem dX10_valleyOf_52 : decode cX10_valleyOf 52 = .ok (.ireturn, 1) := by decide +kernel
theorem dX10_valleyOf_53 : decode cX10_valleyOf 53 = .ok (.aload_n 0, 1) := by decide +kernel
theorem dX10_valleyOf_54 : decode cX10_valleyOf 54 = .ok (.getfield 22, 3) := by decide +kernel
theorem dX10_valleyOf_57 : decode cX10_valleyOf 57 = .ok (.iload_n 1, 1) := by decide +kernel
theorem dX10_valleyOf_58 : decode cX10_valleyOf 58 = .ok (.iaload, 1) := by decide +kernel
theorem dX10_valleyOf_59 : decode cX10_valleyOf 59 = .ok (.ireturn, 1) := by decide +kernel
theorem dX10_valleyOf_60 : decode cX10_valleyOf 60 = .ok (.aload_n 0, 1) := by decide +kernel
theorem dX10_valleyOf_61 : decode cX10_valleyOf 61 = .ok (.getfield 25, 3) := by decide +kernel
theorem dX10_valleyOf_64 : decode cX10_valleyOf 64 = .ok (.bipush 12, 2) := by decide +kernel
theorem dX10_valleyOf_66 : decode cX10_valleyOf 66 = .ok (.iload_n 1, 1) := by decide +kernel
theorem dX10_valleyOf_67 : decode cX10_valleyOf 67 = .ok (.iadd, 1) := by decide +kernel
theorem dX10_valleyOf_68 : decode cX10_valleyOf 68 = .ok (.iaload, 1) := by decide +kernel
theorem dX10_valleyOf_69 : decode cX10_valleyOf 69 = .ok (.ireturn, 1) := by decide +kernel
theorem dX10_valley_0 : decode cX10_valley 0 = .ok (.aload_n 0, 1) := by decide +kernel
theorem dX10_valley_1 : decode cX10_valley 1 = .ok (.iload_n 1, 1) := by decide +kernel
theorem dX10_valley_2 : decode cX10_valley 2 = .ok (.invokevirtual 205, 3) := by decide +kernel
theorem dX10_valley_5 : decode cX10_valley 5 = .ok (.ifCond .eq 15, 3) := by decide +kernel
theorem dX10_valley_8 : decode cX10_valley 8 = .ok (.iload_n 2, 1) := by decide +kernel
theorem dX10_valley_9 : decode cX10_valley 9 = .ok (.i2l, 1) := by decide +kernel
theorem dX10_valley_10 : decode cX10_valley 10 = .ok (.lconst 0, 1) := by decide +kernel
theorem dX10_valley_11 : decode cX10_valley 11 = .ok (.ldc2_w 208, 3) := by decide +kernel
theorem dX10_valley_14 : decode cX10_valley 14 = .ok (.invokestatic 98, 3) := by decide +kernel
theorem dX10_valley_17 : decode cX10_valley 17 = .ok (.ifCond .ne 5, 3) := by decide +kernel
theorem dX10_valley_20 : decode cX10_valley 20 = .ok (.iconst (-1), 1) := by decide +kernel
theorem dX10_valley_21 : decode cX10_valley 21 = .ok (.ireturn, 1) := by decide +kernel
theorem dX10_valley_22 : decode cX10_valley 22 = .ok (.aload_n 0, 1) := by decide +kernel
theorem dX10_valley_23 : decode cX10_valley 23 = .ok (.aload_n 0, 1) := by decide +kernel
theorem dX10_valley_24 : decode cX10_valley 24 = .ok (.iload_n 1, 1) := by decide +kernel
theorem dX10_valley_25 : decode cX10_valley 25 = .ok (.iload_n 2, 1) := by decide +kernel
theorem dX10_valley_26 : decode cX10_valley 26 = .ok (.invokevirtual 210, 3) := by decide +kernel
theorem dX10_valley_29 : decode cX10_valley 29 = .ok (.putfield 118, 3) := by decide +kernel
theorem dX10_valley_32 : decode cX10_valley 32 = .ok (.iconst 1, 1) := by decide +kernel
theorem dX10_valley_33 : decode cX10_valley 33 = .ok (.ireturn, 1) := by decide +kernel
theorem dX10_weaker_0 : decode cX10_weaker 0 = .ok (.iconst 0, 1) := by decide +kernel
theorem dX10_weaker_1 : decode cX10_weaker 1 = .ok (.istore_n 2, 1) := by decide +kernel
theorem dX10_weaker_2 : decode cX10_weaker 2 = .ok (.iconst 0, 1) := by decide +kernel
theorem dX10_weaker_3 : decode cX10_weaker 3 = .ok (.istore_n 3, 1) := by decide +kernel
theorem dX10_weaker_4 : decode cX10_weaker 4 = .ok (.iload_n 3, 1) := by decide +kernel
theorem dX10_weaker_5 : decode cX10_weaker 5 = .ok (.aload_n 0, 1) := by decide +kernel
theorem dX10_weaker_6 : decode cX10_weaker 6 = .ok (.getfield 104, 3) := by decide +kernel
theorem dX10_weaker_9 : decode cX10_weaker 9 = .ok (.if_icmp .ge 30, 3) := by decide +kernel
theorem dX10_weaker_12 : decode cX10_weaker 12 = .ok (.iload_n 2, 1) := by decide +kernel
theorem dX10_weaker_13 : decode cX10_weaker 13 = .ok (.aload_n 0, 1) := by decide +kernel
theorem dX10_weaker_14 : decode cX10_weaker 14 = .ok (.iload_n 3, 1) := by decide +kernel
theorem dX10_weaker_15 : decode cX10_weaker 15 = .ok (.invokevirtual 185, 3) := by decide +kernel
theorem dX10_weaker_18 : decode cX10_weaker 18 = .ok (.aload_n 0, 1) := by decide +kernel
theorem dX10_weaker_19 : decode cX10_weaker 19 = .ok (.iload_n 1, 1) := by decide +kernel
theorem dX10_weaker_20 : decode cX10_weaker 20 = .ok (.invokevirtual 185, 3) := by decide +kernel
theorem dX10_weaker_23 : decode cX10_weaker 23 = .ok (.if_icmp .ge 7, 3) := by decide +kernel
theorem dX10_weaker_26 : decode cX10_weaker 26 = .ok (.iconst 1, 1) := by decide +kernel
theorem dX10_weaker_27 : decode cX10_weaker 27 = .ok (.goto 4, 3) := by decide +kernel
theorem dX10_weaker_30 : decode cX10_weaker 30 = .ok (.iconst 0, 1) := by decide +kernel
theorem dX10_weaker_31 : decode cX10_weaker 31 = .ok (.iadd, 1) := by decide +kernel
theorem dX10_weaker_32 : decode cX10_weaker 32 = .ok (.istore_n 2, 1) := by decide +kernel
theorem dX10_weaker_33 : decode cX10_weaker 33 = .ok (.iinc 3 1, 3) := by decide +kernel
theorem dX10_weaker_36 : decode cX10_weaker 36 = .ok (.goto (-32), 3) := by decide +kernel
theorem dX10_weaker_39 : decode cX10_weaker 39 = .ok (.iload_n 2, 1) := by decide +kernel
theorem dX10_weaker_40 : decode cX10_weaker 40 = .ok (.ireturn, 1) := by decide +kernel
theorem dX10_mark_0 : decode cX10_mark 0 = .ok (.aload_n 0, 1) := by decide +kernel
theorem dX10_mark_1 : decode cX10_mark 1 = .ok (.iload_n 1, 1) := by decide +kernel
theorem dX10_mark_2 : decode cX10_mark 2 = .ok (.invokevirtual 198, 3) := by decide +kernel
theorem dX10_mark_5 : decode cX10_mark 5 = .ok (.ifCond .eq 15, 3) := by decide +kernel
theorem dX10_mark_8 : decode cX10_mark 8 = .ok (.iload_n 2, 1) := by decide +kernel
theorem dX10_mark_9 : decode cX10_mark 9 = .ok (.i2l, 1) := by decide +kernel
theorem dX10_mark_10 : decode cX10_mark 10 = .ok (.lconst 1, 1) := by decide +kernel
theorem dX10_mark_11 : decode cX10_mark 11 = .ok (.ldc2_w 96, 3) := by decide +kernel
theorem dX10_mark_14 : decode cX10_mark 14 = .ok (.invokestatic 98, 3) := by decide +kernel
theorem dX10_mark_17 : decode cX10_mark 17 = .ok (.ifCond .ne 5, 3) := by decide +kernel
theorem dX10_mark_20 : decode cX10_mark 20 = .ok (.iconst (-1), 1) := by decide +kernel
theorem dX10_mark_21 : decode cX10_mark 21 = .ok (.ireturn, 1) := by decide +kernel
theorem dX10_mark_22 : decode cX10_mark 22 = .ok (.aload_n 0, 1) := by decide +kernel
theorem dX10_mark_23 : decode cX10_mark 23 = .ok (.iload_n 1, 1) := by decide +kernel
theorem dX10_mark_24 : decode cX10_mark 24 = .ok (.iload_n 2, 1) := by decide +kernel
theorem dX10_mark_25 : decode cX10_mark 25 = .ok (.invokevirtual 159, 3) := by decide +kernel
theorem dX10_mark_28 : decode cX10_mark 28 = .ok (.ifCond .ne 9, 3) := by decide +kernel
theorem dX10_mark_31 : decode cX10_mark 31 = .ok (.aload_n 0, 1) := by decide +kernel
theorem dX10_mark_32 : decode cX10_mark 32 = .ok (.iconst 3, 1) := by decide +kernel
theorem dX10_mark_33 : decode cX10_mark 33 = .ok (.invokevirtual 114, 3) := by decide +kernel
theorem dX10_mark_36 : decode cX10_mark 36 = .ok (.ireturn, 1) := by decide +kernel
theorem dX10_mark_37 : decode cX10_mark 37 = .ok (.iload_n 2, 1) := by decide +kernel
theorem dX10_mark_38 : decode cX10_mark 38 = .ok (.tableswitch 103 1 4 #[30, 57, 63, 88], 30) := by decide +kernel
theorem dX10_mark_68 : decode cX10_mark 68 = .ok (.aload_n 0, 1) := by decide +kernel
theorem dX10_mark_69 : decode cX10_mark 69 = .ok (.invokevirtual 163, 3) := by decide +kernel
theorem dX10_mark_72 : decode cX10_mark 72 = .ok (.ifCond .ne 21, 3) := by decide +kernel
theorem dX10_mark_75 : decode cX10_mark 75 = .ok (.aload_n 0, 1) := by decide +kernel
theorem dX10_mark_76 : decode cX10_mark 76 = .ok (.getfield 25, 3) := by decide +kernel
theorem dX10_mark_79 : decode cX10_mark 79 = .ok (.iconst 0, 1) := by decide +kernel
theorem dX10_mark_80 : decode cX10_mark 80 = .ok (.iaload, 1) := by decide +kernel
theorem dX10_mark_81 : decode cX10_mark 81 = .ok (.bipush 6, 2) := by decide +kernel
theorem dX10_mark_83 : decode cX10_mark 83 = .ok (.idiv, 1) := by decide +kernel
theorem dX10_mark_84 : decode cX10_mark 84 = .ok (.iconst 2, 1) := by decide +kernel
theorem dX10_mark_85 : decode cX10_mark 85 = .ok (.irem, 1) := by decide +kernel
theorem dX10_mark_86 : decode cX10_mark 86 = .ok (.ifCond .ne 7, 3) := by decide +kernel
theorem dX10_mark_89 : decode cX10_mark 89 = .ok (.iconst 1, 1) := by decide +kernel
theorem dX10_mark_90 : decode cX10_mark 90 = .ok (.goto 4, 3) := by decide +kernel
theorem dX10_mark_93 : decode cX10_mark 93 = .ok (.iconst 0, 1) := by decide +kernel
theorem dX10_mark_94 : decode cX10_mark 94 = .ok (.ireturn, 1) := by decide +kernel
theorem dX10_mark_95 : decode cX10_mark 95 = .ok (.aload_n 0, 1) := by decide +kernel
theorem dX10_mark_96 : decode cX10_mark 96 = .ok (.iload_n 1, 1) := by decide +kernel
theorem dX10_mark_97 : decode cX10_mark 97 = .ok (.invokevirtual 213, 3) := by decide +kernel
theorem dX10_mark_100 : decode cX10_mark 100 = .ok (.ireturn, 1) := by decide +kernel
theorem dX10_mark_101 : decode cX10_mark 101 = .ok (.aload_n 0, 1) := by decide +kernel
theorem dX10_mark_102 : decode cX10_mark 102 = .ok (.getfield 25, 3) := by decide +kernel
theorem dX10_mark_105 : decode cX10_mark 105 = .ok (.iconst 0, 1) := by decide +kernel
theorem dX10_mark_106 : decode cX10_mark 106 = .ok (.iaload, 1) := by decide +kernel
theorem dX10_mark_107 : decode cX10_mark 107 = .ok (.bipush 24, 2) := by decide +kernel
theorem dX10_mark_109 : decode cX10_mark 109 = .ok (.if_icmp .ge 15, 3) := by decide +kernel
theorem dX10_mark_112 : decode cX10_mark 112 = .ok (.bipush 24, 2) := by decide +kernel
theorem dX10_mark_114 : decode cX10_mark 114 = .ok (.aload_n 0, 1) := by decide +kernel
theorem dX10_mark_115 : decode cX10_mark 115 = .ok (.getfield 25, 3) := by decide +kernel
theorem dX10_mark_118 : decode cX10_mark 118 = .ok (.iconst 0, 1) := by decide +kernel
theorem dX10_mark_119 : decode cX10_mark 119 = .ok (.iaload, 1) := by decide +kernel
theorem dX10_mark_120 : decode cX10_mark 120 = .ok (.isub, 1) := by decide +kernel
theorem dX10_mark_121 : decode cX10_mark 121 = .ok (.goto 4, 3) := by decide +kernel
theorem dX10_mark_124 : decode cX10_mark 124 = .ok (.iconst 0, 1) := by decide +kernel
theorem dX10_mark_125 : decode cX10_mark 125 = .ok (.ireturn, 1) := by decide +kernel
theorem dX10_mark_126 : decode cX10_mark 126 = .ok (.bipush 10, 2) := by decide +kernel
theorem dX10_mark_128 : decode cX10_mark 128 = .ok (.aload_n 0, 1) := by decide +kernel
theorem dX10_mark_129 : decode cX10_mark 129 = .ok (.getfield 25, 3) := by decide +kernel
theorem dX10_mark_132 : decode cX10_mark 132 = .ok (.bipush 7, 2) := by decide +kernel
theorem dX10_mark_134 : decode cX10_mark 134 = .ok (.iload_n 1, 1) := by decide +kernel
theorem dX10_mark_135 : decode cX10_mark 135 = .ok (.iadd, 1) := by decide +kernel
theorem dX10_mark_136 : decode cX10_mark 136 = .ok (.iaload, 1) := by decide +kernel
theorem dX10_mark_137 : decode cX10_mark 137 = .ok (.isub, 1) := by decide +kernel
theorem dX10_mark_138 : decode cX10_mark 138 = .ok (.iconst 2, 1) := by decide +kernel
theorem dX10_mark_139 : decode cX10_mark 139 = .ok (.idiv, 1) := by decide +kernel
theorem dX10_mark_140 : decode cX10_mark 140 = .ok (.ireturn, 1) := by decide +kernel
theorem dX10_mark_141 : decode cX10_mark 141 = .ok (.aload_n 0, 1) := by decide +kernel
theorem dX10_mark_142 : decode cX10_mark 142 = .ok (.getfield 25, 3) := by decide +kernel
theorem dX10_mark_145 : decode cX10_mark 145 = .ok (.bipush 7, 2) := by decide +kernel
theorem dX10_mark_147 : decode cX10_mark 147 = .ok (.iload_n 1, 1) := by decide +kernel
theorem dX10_mark_148 : decode cX10_mark 148 = .ok (.iadd, 1) := by decide +kernel
theorem dX10_mark_149 : decode cX10_mark 149 = .ok (.iaload, 1) := by decide +kernel
theorem dX10_mark_150 : decode cX10_mark 150 = .ok (.ifCond .le 14, 3) := by decide +kernel
theorem dX10_mark_153 : decode cX10_mark 153 = .ok (.aload_n 0, 1) := by decide +kernel
theorem dX10_mark_154 : decode cX10_mark 154 = .ok (.getfield 25, 3) := by decide +kernel
theorem dX10_mark_157 : decode cX10_mark 157 = .ok (.iconst 2, 1) := by decide +kernel
theorem dX10_mark_158 : decode cX10_mark 158 = .ok (.iload_n 1, 1) := by decide +kernel
theorem dX10_mark_159 : decode cX10_mark 159 = .ok (.iadd, 1) := by decide +kernel
theorem dX10_mark_160 : decode cX10_mark 160 = .ok (.iaload, 1) := by decide +kernel
theorem dX10_mark_161 : decode cX10_mark 161 = .ok (.goto 4, 3) := by decide +kernel
theorem dX10_mark_164 : decode cX10_mark 164 = .ok (.iconst 0, 1) := by decide +kernel
theorem dX10_mark_165 : decode cX10_mark 165 = .ok (.ireturn, 1) := by decide +kernel
theorem dX10_price_0 : decode cX10_price 0 = .ok (.aload_n 0, 1) := by decide +kernel
theorem dX10_price_1 : decode cX10_price 1 = .ok (.iload_n 1, 1) := by decide +kernel
theorem dX10_price_2 : decode cX10_price 2 = .ok (.invokevirtual 205, 3) := by decide +kernel
theorem dX10_price_5 : decode cX10_price 5 = .ok (.ifCond .eq 15, 3) := by decide +kernel
theorem dX10_price_8 : decode cX10_price 8 = .ok (.iload_n 2, 1) := by decide +kernel
theorem dX10_price_9 : decode cX10_price 9 = .ok (.i2l, 1) := by decide +kernel
theorem dX10_price_10 : decode cX10_price 10 = .ok (.lconst 0, 1) := by decide +kernel
theorem dX10_price_11 : decode cX10_price 11 = .ok (.ldc2_w 216, 3) := by decide +kernel
theorem dX10_price_14 : decode cX10_price 14 = .ok (.invokestatic 98, 3) := by decide +kernel
theorem dX10_price_17 : decode cX10_price 17 = .ok (.ifCond .ne 5, 3) := by decide +kernel
theorem dX10_price_20 : decode cX10_price 20 = .ok (.iconst (-1), 1) := by decide +kernel
theorem dX10_price_21 : decode cX10_price 21 = .ok (.ireturn, 1) := by decide +kernel
theorem dX10_price_22 : decode cX10_price 22 = .ok (.aload_n 0, 1) := by decide +kernel
theorem dX10_price_23 : decode cX10_price 23 = .ok (.getfield 22, 3) := by decide +kernel
theorem dX10_price_26 : decode cX10_price 26 = .ok (.iload_n 1, 1) := by decide +kernel
theorem dX10_price_27 : decode cX10_price 27 = .ok (.iaload, 1) := by decide +kernel
theorem dX10_price_28 : decode cX10_price 28 = .ok (.istore_n 3, 1) := by decide +kernel
theorem dX10_price_29 : decode cX10_price 29 = .ok (.aload_n 0, 1) := by decide +kernel
theorem dX10_price_30 : decode cX10_price 30 = .ok (.getfield 22, 3) := by decide +kernel
theorem dX10_price_33 : decode cX10_price 33 = .ok (.iload_n 1, 1) := by decide +kernel
theorem dX10_price_34 : decode cX10_price 34 = .ok (.iload_n 2, 1) := by decide +kernel
theorem dX10_price_35 : decode cX10_price 35 = .ok (.iastore, 1) := by decide +kernel
theorem dX10_price_36 : decode cX10_price 36 = .ok (.iload_n 3, 1) := by decide +kernel
theorem dX10_price_37 : decode cX10_price 37 = .ok (.ireturn, 1) := by decide +kernel
theorem dX10_hold_0 : decode cX10_hold 0 = .ok (.aload_n 0, 1) := by decide +kernel
theorem dX10_hold_1 : decode cX10_hold 1 = .ok (.iload_n 1, 1) := by decide +kernel
theorem dX10_hold_2 : decode cX10_hold 2 = .ok (.invokevirtual 218, 3) := by decide +kernel
theorem dX10_hold_5 : decode cX10_hold 5 = .ok (.ifCond .ne 5, 3) := by decide +kernel
theorem dX10_hold_8 : decode cX10_hold 8 = .ok (.iconst (-1), 1) := by decide +kernel
theorem dX10_hold_9 : decode cX10_hold 9 = .ok (.ireturn, 1) := by decide +kernel
theorem dX10_hold_10 : decode cX10_hold 10 = .ok (.aload_n 0, 1) := by decide +kernel
theorem dX10_hold_11 : decode cX10_hold 11 = .ok (.getfield 104, 3) := by decide +kernel
theorem dX10_hold_14 : decode cX10_hold 14 = .ok (.ifCond .ne 6, 3) := by decide +kernel
theorem dX10_hold_17 : decode cX10_hold 17 = .ok (.bipush (-4), 2) := by decide +kernel
theorem dX10_hold_19 : decode cX10_hold 19 = .ok (.ireturn, 1) := by decide +kernel
theorem dX10_hold_20 : decode cX10_hold 20 = .ok (.aload_n 0, 1) := by decide +kernel
theorem dX10_hold_21 : decode cX10_hold 21 = .ok (.getfield 156, 3) := by decide +kernel
theorem dX10_hold_24 : decode cX10_hold 24 = .ok (.bipush 60, 2) := by decide +kernel
theorem dX10_hold_26 : decode cX10_hold 26 = .ok (.if_icmp .ne 6, 3) := by decide +kernel
theorem dX10_hold_29 : decode cX10_hold 29 = .ok (.bipush (-2), 2) := by decide +kernel
theorem dX10_hold_31 : decode cX10_hold 31 = .ok (.ireturn, 1) := by decide +kernel
theorem dX10_hold_32 : decode cX10_hold 32 = .ok (.aload_n 0, 1) := by decide +kernel
theorem dX10_hold_33 : decode cX10_hold 33 = .ok (.invokevirtual 221, 3) := by decide +kernel
theorem dX10_hold_36 : decode cX10_hold 36 = .ok (.aload_n 0, 1) := by decide +kernel
theorem dX10_hold_37 : decode cX10_hold 37 = .ok (.iload_n 1, 1) := by decide +kernel
theorem dX10_hold_38 : decode cX10_hold 38 = .ok (.invokevirtual 224, 3) := by decide +kernel
theorem dX10_hold_41 : decode cX10_hold 41 = .ok (.istore_n 2, 1) := by decide +kernel
theorem dX10_hold_42 : decode cX10_hold 42 = .ok (.aload_n 0, 1) := by decide +kernel
theorem dX10_hold_43 : decode cX10_hold 43 = .ok (.aload_n 0, 1) := by decide +kernel
theorem dX10_hold_44 : decode cX10_hold 44 = .ok (.getfield 173, 3) := by decide +kernel
theorem dX10_hold_47 : decode cX10_hold 47 = .ok (.putfield 118, 3) := by decide +kernel
theorem dX10_hold_50 : decode cX10_hold 50 = .ok (.iload_n 2, 1) := by decide +kernel
theorem dX10_hold_51 : decode cX10_hold 51 = .ok (.ireturn, 1) := by decide +kernel
theorem dX10_rope_0 : decode cX10_rope 0 = .ok (.aload_n 0, 1) := by decide +kernel
theorem dX10_rope_1 : decode cX10_rope 1 = .ok (.iload_n 1, 1) := by decide +kernel
theorem dX10_rope_2 : decode cX10_rope 2 = .ok (.invokevirtual 198, 3) := by decide +kernel
theorem dX10_rope_5 : decode cX10_rope 5 = .ok (.ifCond .eq 15, 3) := by decide +kernel
theorem dX10_rope_8 : decode cX10_rope 8 = .ok (.iload_n 2, 1) := by decide +kernel
theorem dX10_rope_9 : decode cX10_rope 9 = .ok (.i2l, 1) := by decide +kernel
theorem dX10_rope_10 : decode cX10_rope 10 = .ok (.lconst 1, 1) := by decide +kernel
theorem dX10_rope_11 : decode cX10_rope 11 = .ok (.ldc2_w 216, 3) := by decide +kernel
theorem dX10_rope_14 : decode cX10_rope 14 = .ok (.invokestatic 98, 3) := by decide +kernel
theorem dX10_rope_17 : decode cX10_rope 17 = .ok (.ifCond .ne 5, 3) := by decide +kernel
theorem dX10_rope_20 : decode cX10_rope 20 = .ok (.iconst (-1), 1) := by decide +kernel
theorem dX10_rope_21 : decode cX10_rope 21 = .ok (.ireturn, 1) := by decide +kernel
theorem dX10_rope_22 : decode cX10_rope 22 = .ok (.aload_n 0, 1) := by decide +kernel
theorem dX10_rope_23 : decode cX10_rope 23 = .ok (.getfield 156, 3) := by decide +kernel
theorem dX10_rope_26 : decode cX10_rope 26 = .ok (.bipush 60, 2) := by decide +kernel
theorem dX10_rope_28 : decode cX10_rope 28 = .ok (.if_icmp .ne 6, 3) := by decide +kernel
theorem dX10_rope_31 : decode cX10_rope 31 = .ok (.bipush (-2), 2) := by decide +kernel
theorem dX10_rope_33 : decode cX10_rope 33 = .ok (.ireturn, 1) := by decide +kernel
theorem dX10_rope_34 : decode cX10_rope 34 = .ok (.aload_n 0, 1) := by decide +kernel
theorem dX10_rope_35 : decode cX10_rope 35 = .ok (.invokevirtual 221, 3) := by decide +kernel
theorem dX10_rope_38 : decode cX10_rope 38 = .ok (.aload_n 0, 1) := by decide +kernel
theorem dX10_rope_39 : decode cX10_rope 39 = .ok (.getfield 25, 3) := by decide +kernel
theorem dX10_rope_42 : decode cX10_rope 42 = .ok (.iconst 2, 1) := by decide +kernel
theorem dX10_rope_43 : decode cX10_rope 43 = .ok (.iload_n 1, 1) := by decide +kernel
theorem dX10_rope_44 : decode cX10_rope 44 = .ok (.iadd, 1) := by decide +kernel
theorem dX10_rope_45 : decode cX10_rope 45 = .ok (.iaload, 1) := by decide +kernel
theorem dX10_rope_46 : decode cX10_rope 46 = .ok (.istore_n 3, 1) := by decide +kernel
theorem dX10_rope_47 : decode cX10_rope 47 = .ok (.aload_n 0, 1) := by decide +kernel
theorem dX10_rope_48 : decode cX10_rope 48 = .ok (.getfield 25, 3) := by decide +kernel
theorem dX10_rope_51 : decode cX10_rope 51 = .ok (.iconst 2, 1) := by decide +kernel
theorem dX10_rope_52 : decode cX10_rope 52 = .ok (.iload_n 1, 1) := by decide +kernel
theorem dX10_rope_53 : decode cX10_rope 53 = .ok (.iadd, 1) := by decide +kernel
theorem dX10_rope_54 : decode cX10_rope 54 = .ok (.iload_n 2, 1) := by decide +kernel
theorem dX10_rope_55 : decode cX10_rope 55 = .ok (.iastore, 1) := by decide +kernel
theorem dX10_rope_56 : decode cX10_rope 56 = .ok (.iload_n 3, 1) := by decide +kernel
theorem dX10_rope_57 : decode cX10_rope 57 = .ok (.ireturn, 1) := by decide +kernel
theorem dX10_rise_0 : decode cX10_rise 0 = .ok (.aload_n 0, 1) := by decide +kernel
theorem dX10_rise_1 : decode cX10_rise 1 = .ok (.getfield 104, 3) := by decide +kernel
theorem dX10_rise_4 : decode cX10_rise 4 = .ok (.ifCond .eq 10, 3) := by decide +kernel
theorem dX10_rise_7 : decode cX10_rise 7 = .ok (.aload_n 0, 1) := by decide +kernel
theorem dX10_rise_8 : decode cX10_rise 8 = .ok (.invokevirtual 163, 3) := by decide +kernel
theorem dX10_rise_11 : decode cX10_rise 11 = .ok (.ifCond .ne 6, 3) := by decide +kernel
theorem dX10_rise_14 : decode cX10_rise 14 = .ok (.bipush (-4), 2) := by decide +kernel
theorem dX10_rise_16 : decode cX10_rise 16 = .ok (.ireturn, 1) := by decide +kernel
theorem dX10_rise_17 : decode cX10_rise 17 = .ok (.aload_n 0, 1) := by decide +kernel
theorem dX10_rise_18 : decode cX10_rise 18 = .ok (.getfield 156, 3) := by decide +kernel
theorem dX10_rise_21 : decode cX10_rise 21 = .ok (.bipush 60, 2) := by decide +kernel
theorem dX10_rise_23 : decode cX10_rise 23 = .ok (.if_icmp .ne 6, 3) := by decide +kernel
theorem dX10_rise_26 : decode cX10_rise 26 = .ok (.bipush (-2), 2) := by decide +kernel
theorem dX10_rise_28 : decode cX10_rise 28 = .ok (.ireturn, 1) := by decide +kernel
theorem dX10_rise_29 : decode cX10_rise 29 = .ok (.aload_n 0, 1) := by decide +kernel
theorem dX10_rise_30 : decode cX10_rise 30 = .ok (.invokevirtual 221, 3) := by decide +kernel
theorem dX10_rise_33 : decode cX10_rise 33 = .ok (.aload_n 0, 1) := by decide +kernel
theorem dX10_rise_34 : decode cX10_rise 34 = .ok (.getfield 25, 3) := by decide +kernel
theorem dX10_rise_37 : decode cX10_rise 37 = .ok (.iconst 1, 1) := by decide +kernel
theorem dX10_rise_38 : decode cX10_rise 38 = .ok (.iaload, 1) := by decide +kernel
theorem dX10_rise_39 : decode cX10_rise 39 = .ok (.bipush 6, 2) := by decide +kernel
theorem dX10_rise_41 : decode cX10_rise 41 = .ok (.idiv, 1) := by decide +kernel
theorem dX10_rise_42 : decode cX10_rise 42 = .ok (.bipush 7, 2) := by decide +kernel
theorem dX10_rise_44 : decode cX10_rise 44 = .ok (.if_icmp .le 8, 3) := by decide +kernel
theorem dX10_rise_47 : decode cX10_rise 47 = .ok (.bipush 7, 2) := by decide +kernel
theorem dX10_rise_49 : decode cX10_rise 49 = .ok (.goto 12, 3) := by decide +kernel
theorem dX10_rise_52 : decode cX10_rise 52 = .ok (.aload_n 0, 1) := by decide +kernel
theorem dX10_rise_53 : decode cX10_rise 53 = .ok (.getfield 25, 3) := by decide +kernel
theorem dX10_rise_56 : decode cX10_rise 56 = .ok (.iconst 1, 1) := by decide +kernel
theorem dX10_rise_57 : decode cX10_rise 57 = .ok (.iaload, 1) := by decide +kernel
theorem dX10_rise_58 : decode cX10_rise 58 = .ok (.bipush 6, 2) := by decide +kernel
theorem dX10_rise_60 : decode cX10_rise 60 = .ok (.idiv, 1) := by decide +kernel
theorem dX10_rise_61 : decode cX10_rise 61 = .ok (.istore_n 1, 1) := by decide +kernel
theorem dX10_rise_62 : decode cX10_rise 62 = .ok (.aload_n 0, 1) := by decide +kernel
theorem dX10_rise_63 : decode cX10_rise 63 = .ok (.getfield 25, 3) := by decide +kernel
theorem dX10_rise_66 : decode cX10_rise 66 = .ok (.iconst 1, 1) := by decide +kernel
theorem dX10_rise_67 : decode cX10_rise 67 = .ok (.dup2, 1) := by decide +kernel
theorem dX10_rise_68 : decode cX10_rise 68 = .ok (.iaload, 1) := by decide +kernel
theorem dX10_rise_69 : decode cX10_rise 69 = .ok (.bipush 6, 2) := by decide +kernel
theorem dX10_rise_71 : decode cX10_rise 71 = .ok (.iload_n 1, 1) := by decide +kernel
theorem dX10_rise_72 : decode cX10_rise 72 = .ok (.imul, 1) := by decide +kernel
theorem dX10_rise_73 : decode cX10_rise 73 = .ok (.isub, 1) := by decide +kernel
theorem dX10_rise_74 : decode cX10_rise 74 = .ok (.iastore, 1) := by decide +kernel
theorem dX10_rise_75 : decode cX10_rise 75 = .ok (.aload_n 0, 1) := by decide +kernel
theorem dX10_rise_76 : decode cX10_rise 76 = .ok (.getfield 25, 3) := by decide +kernel
theorem dX10_rise_79 : decode cX10_rise 79 = .ok (.iconst 0, 1) := by decide +kernel
theorem dX10_rise_80 : decode cX10_rise 80 = .ok (.bipush 6, 2) := by decide +kernel
theorem dX10_rise_82 : decode cX10_rise 82 = .ok (.iload_n 1, 1) := by decide +kernel
theorem dX10_rise_83 : decode cX10_rise 83 = .ok (.imul, 1) := by decide +kernel
theorem dX10_rise_84 : decode cX10_rise 84 = .ok (.iastore, 1) := by decide +kernel
theorem dX10_rise_85 : decode cX10_rise 85 = .ok (.aload_n 0, 1) := by decide +kernel
theorem dX10_rise_86 : decode cX10_rise 86 = .ok (.getfield 25, 3) := by decide +kernel
theorem dX10_rise_89 : decode cX10_rise 89 = .ok (.iconst 0, 1) := by decide +kernel
theorem dX10_rise_90 : decode cX10_rise 90 = .ok (.iaload, 1) := by decide +kernel
theorem dX10_rise_91 : decode cX10_rise 91 = .ok (.ireturn, 1) := by decide +kernel
theorem dX10_undo_0 : decode cX10_undo 0 = .ok (.iload_n 1, 1) := by decide +kernel
theorem dX10_undo_1 : decode cX10_undo 1 = .ok (.i2l, 1) := by decide +kernel
theorem dX10_undo_2 : decode cX10_undo 2 = .ok (.lconst 0, 1) := by decide +kernel
theorem dX10_undo_3 : decode cX10_undo 3 = .ok (.aload_n 0, 1) := by decide +kernel
theorem dX10_undo_4 : decode cX10_undo 4 = .ok (.getfield 156, 3) := by decide +kernel
theorem dX10_undo_7 : decode cX10_undo 7 = .ok (.i2l, 1) := by decide +kernel
theorem dX10_undo_8 : decode cX10_undo 8 = .ok (.invokestatic 98, 3) := by decide +kernel
theorem dX10_undo_11 : decode cX10_undo 11 = .ok (.ifCond .ne 5, 3) := by decide +kernel
theorem dX10_undo_14 : decode cX10_undo 14 = .ok (.iconst (-1), 1) := by decide +kernel
theorem dX10_undo_15 : decode cX10_undo 15 = .ok (.ireturn, 1) := by decide +kernel
theorem dX10_undo_16 : decode cX10_undo 16 = .ok (.aload_n 0, 1) := by decide +kernel
theorem dX10_undo_17 : decode cX10_undo 17 = .ok (.getfield 156, 3) := by decide +kernel
theorem dX10_undo_20 : decode cX10_undo 20 = .ok (.iload_n 1, 1) := by decide +kernel
theorem dX10_undo_21 : decode cX10_undo 21 = .ok (.isub, 1) := by decide +kernel
theorem dX10_undo_22 : decode cX10_undo 22 = .ok (.istore_n 2, 1) := by decide +kernel
theorem dX10_undo_23 : decode cX10_undo 23 = .ok (.iload_n 2, 1) := by decide +kernel
theorem dX10_undo_24 : decode cX10_undo 24 = .ok (.ifCond .le 39, 3) := by decide +kernel
theorem dX10_undo_27 : decode cX10_undo 27 = .ok (.aload_n 0, 1) := by decide +kernel
theorem dX10_undo_28 : decode cX10_undo 28 = .ok (.iload_n 1, 1) := by decide +kernel
theorem dX10_undo_29 : decode cX10_undo 29 = .ok (.putfield 156, 3) := by decide +kernel
theorem dX10_undo_32 : decode cX10_undo 32 = .ok (.iconst 0, 1) := by decide +kernel
theorem dX10_undo_33 : decode cX10_undo 33 = .ok (.istore_n 3, 1) := by decide +kernel
theorem dX10_undo_34 : decode cX10_undo 34 = .ok (.iload_n 3, 1) := by decide +kernel
theorem dX10_undo_35 : decode cX10_undo 35 = .ok (.bipush 16, 2) := by decide +kernel
theorem dX10_undo_37 : decode cX10_undo 37 = .ok (.if_icmp .ge 26, 3) := by decide +kernel
theorem dX10_undo_40 : decode cX10_undo 40 = .ok (.aload_n 0, 1) := by decide +kernel
theorem dX10_undo_41 : decode cX10_undo 41 = .ok (.getfield 25, 3) := by decide +kernel
theorem dX10_undo_44 : decode cX10_undo 44 = .ok (.iload_n 3, 1) := by decide +kernel
theorem dX10_undo_45 : decode cX10_undo 45 = .ok (.aload_n 0, 1) := by decide +kernel
theorem dX10_undo_46 : decode cX10_undo 46 = .ok (.getfield 28, 3) := by decide +kernel
theorem dX10_undo_49 : decode cX10_undo 49 = .ok (.bipush 16, 2) := by decide +kernel
theorem dX10_undo_51 : decode cX10_undo 51 = .ok (.iload_n 1, 1) := by decide +kernel
theorem dX10_undo_52 : decode cX10_undo 52 = .ok (.imul, 1) := by decide +kernel
theorem dX10_undo_53 : decode cX10_undo 53 = .ok (.iload_n 3, 1) := by decide +kernel
theorem dX10_undo_54 : decode cX10_undo 54 = .ok (.iadd, 1) := by decide +kernel
theorem dX10_undo_55 : decode cX10_undo 55 = .ok (.iaload, 1) := by decide +kernel
theorem dX10_undo_56 : decode cX10_undo 56 = .ok (.iastore, 1) := by decide +kernel
theorem dX10_undo_57 : decode cX10_undo 57 = .ok (.iinc 3 1, 3) := by decide +kernel
theorem dX10_undo_60 : decode cX10_undo 60 = .ok (.goto (-26), 3) := by decide +kernel
theorem dX10_undo_63 : decode cX10_undo 63 = .ok (.iload_n 2, 1) := by decide +kernel
theorem dX10_undo_64 : decode cX10_undo 64 = .ok (.ireturn, 1) := by decide +kernel
theorem dX10_sun_0 : decode cX10_sun 0 = .ok (.aload_n 0, 1) := by decide +kernel
theorem dX10_sun_1 : decode cX10_sun 1 = .ok (.getfield 104, 3) := by decide +kernel
theorem dX10_sun_4 : decode cX10_sun 4 = .ok (.ifCond .ne 6, 3) := by decide +kernel
theorem dX10_sun_7 : decode cX10_sun 7 = .ok (.bipush (-4), 2) := by decide +kernel
theorem dX10_sun_9 : decode cX10_sun 9 = .ok (.ireturn, 1) := by decide +kernel
theorem dX10_sun_10 : decode cX10_sun 10 = .ok (.aload_n 0, 1) := by decide +kernel
theorem dX10_sun_11 : decode cX10_sun 11 = .ok (.aload_n 0, 1) := by decide +kernel
theorem dX10_sun_12 : decode cX10_sun 12 = .ok (.getfield 25, 3) := by decide +kernel
theorem dX10_sun_15 : decode cX10_sun 15 = .ok (.iconst 1, 1) := by decide +kernel
theorem dX10_sun_16 : decode cX10_sun 16 = .ok (.iaload, 1) := by decide +kernel
theorem dX10_sun_17 : decode cX10_sun 17 = .ok (.putfield 118, 3) := by decide +kernel
theorem dX10_sun_20 : decode cX10_sun 20 = .ok (.aload_n 0, 1) := by decide +kernel
theorem dX10_sun_21 : decode cX10_sun 21 = .ok (.getfield 25, 3) := by decide +kernel
theorem dX10_sun_24 : decode cX10_sun 24 = .ok (.iconst 0, 1) := by decide +kernel
theorem dX10_sun_25 : decode cX10_sun 25 = .ok (.iaload, 1) := by decide +kernel
theorem dX10_sun_26 : decode cX10_sun 26 = .ok (.ireturn, 1) := by decide +kernel
theorem dX10_gained_0 : decode cX10_gained 0 = .ok (.bipush (-9), 2) := by decide +kernel
theorem dX10_gained_2 : decode cX10_gained 2 = .ok (.istore_n 1, 1) := by decide +kernel
theorem dX10_gained_3 : decode cX10_gained 3 = .ok (.iconst 0, 1) := by decide +kernel
theorem dX10_gained_4 : decode cX10_gained 4 = .ok (.istore_n 2, 1) := by decide +kernel
theorem dX10_gained_5 : decode cX10_gained 5 = .ok (.iconst 0, 1) := by decide +kernel
theorem dX10_gained_6 : decode cX10_gained 6 = .ok (.istore_n 3, 1) := by decide +kernel
theorem dX10_gained_7 : decode cX10_gained 7 = .ok (.iload_n 3, 1) := by decide +kernel
theorem dX10_gained_8 : decode cX10_gained 8 = .ok (.aload_n 0, 1) := by decide +kernel
theorem dX10_gained_9 : decode cX10_gained 9 = .ok (.getfield 107, 3) := by decide +kernel
theorem dX10_gained_12 : decode cX10_gained 12 = .ok (.if_icmp .ge 52, 3) := by decide +kernel
theorem dX10_gained_15 : decode cX10_gained 15 = .ok (.iload_n 1, 1) := by decide +kernel
theorem dX10_gained_16 : decode cX10_gained 16 = .ok (.ifCond .lt 24, 3) := by decide +kernel
theorem dX10_gained_19 : decode cX10_gained 19 = .ok (.aload_n 0, 1) := by decide +kernel
theorem dX10_gained_20 : decode cX10_gained 20 = .ok (.getfield 25, 3) := by decide +kernel
theorem dX10_gained_23 : decode cX10_gained 23 = .ok (.bipush 12, 2) := by decide +kernel
theorem dX10_gained_25 : decode cX10_gained 25 = .ok (.iload_n 3, 1) := by decide +kernel
theorem dX10_gained_26 : decode cX10_gained 26 = .ok (.iadd, 1) := by decide +kernel
theorem dX10_gained_27 : decode cX10_gained 27 = .ok (.iaload, 1) := by decide +kernel
theorem dX10_gained_28 : decode cX10_gained 28 = .ok (.aload_n 0, 1) := by decide +kernel
theorem dX10_gained_29 : decode cX10_gained 29 = .ok (.getfield 25, 3) := by decide +kernel
theorem dX10_gained_32 : decode cX10_gained 32 = .ok (.bipush 12, 2) := by decide +kernel
theorem dX10_gained_34 : decode cX10_gained 34 = .ok (.iload_n 1, 1) := by decide +kernel
theorem dX10_gained_35 : decode cX10_gained 35 = .ok (.iadd, 1) := by decide +kernel
theorem dX10_gained_36 : decode cX10_gained 36 = .ok (.iaload, 1) := by decide +kernel
theorem dX10_gained_37 : decode cX10_gained 37 = .ok (.if_icmp .le 7, 3) := by decide +kernel
theorem dX10_gained_40 : decode cX10_gained 40 = .ok (.iload_n 3, 1) := by decide +kernel
theorem dX10_gained_41 : decode cX10_gained 41 = .ok (.goto 4, 3) := by decide +kernel
theorem dX10_gained_44 : decode cX10_gained 44 = .ok (.iload_n 1, 1) := by decide +kernel
theorem dX10_gained_45 : decode cX10_gained 45 = .ok (.istore_n 1, 1) := by decide +kernel
theorem dX10_gained_46 : decode cX10_gained 46 = .ok (.iload_n 2, 1) := by decide +kernel
theorem dX10_gained_47 : decode cX10_gained 47 = .ok (.aload_n 0, 1) := by decide +kernel
theorem dX10_gained_48 : decode cX10_gained 48 = .ok (.getfield 25, 3) := by decide +kernel
theorem dX10_gained_51 : decode cX10_gained 51 = .ok (.bipush 12, 2) := by decide +kernel
theorem dX10_gained_53 : decode cX10_gained 53 = .ok (.iload_n 3, 1) := by decide +kernel
theorem dX10_gained_54 : decode cX10_gained 54 = .ok (.iadd, 1) := by decide +kernel
theorem dX10_gained_55 : decode cX10_gained 55 = .ok (.iaload, 1) := by decide +kernel
theorem dX10_gained_56 : decode cX10_gained 56 = .ok (.iadd, 1) := by decide +kernel
theorem dX10_gained_57 : decode cX10_gained 57 = .ok (.istore_n 2, 1) := by decide +kernel
theorem dX10_gained_58 : decode cX10_gained 58 = .ok (.iinc 3 1, 3) := by decide +kernel
theorem dX10_gained_61 : decode cX10_gained 61 = .ok (.goto (-54), 3) := by decide +kernel
theorem dX10_gained_64 : decode cX10_gained 64 = .ok (.aload_n 0, 1) := by decide +kernel
theorem dX10_gained_65 : decode cX10_gained 65 = .ok (.iload_n 1, 1) := by decide +kernel
theorem dX10_gained_66 : decode cX10_gained 66 = .ok (.putfield 118, 3) := by decide +kernel
theorem dX10_gained_69 : decode cX10_gained 69 = .ok (.iload_n 2, 1) := by decide +kernel
theorem dX10_gained_70 : decode cX10_gained 70 = .ok (.ireturn, 1) := by decide +kernel
theorem dX10_keep_0 : decode cX10_keep 0 = .ok (.iload_n 1, 1) := by decide +kernel
theorem dX10_keep_1 : decode cX10_keep 1 = .ok (.i2l, 1) := by decide +kernel
theorem dX10_keep_2 : decode cX10_keep 2 = .ok (.lconst 0, 1) := by decide +kernel
theorem dX10_keep_3 : decode cX10_keep 3 = .ok (.ldc2_w 227, 3) := by decide +kernel
theorem dX10_keep_6 : decode cX10_keep 6 = .ok (.invokestatic 98, 3) := by decide +kernel
theorem dX10_keep_9 : decode cX10_keep 9 = .ok (.ifCond .ne 5, 3) := by decide +kernel
theorem dX10_keep_12 : decode cX10_keep 12 = .ok (.iconst (-1), 1) := by decide +kernel
theorem dX10_keep_13 : decode cX10_keep 13 = .ok (.ireturn, 1) := by decide +kernel
theorem dX10_keep_14 : decode cX10_keep 14 = .ok (.aload_n 0, 1) := by decide +kernel
theorem dX10_keep_15 : decode cX10_keep 15 = .ok (.getfield 104, 3) := by decide +kernel
theorem dX10_keep_18 : decode cX10_keep 18 = .ok (.ifCond .ne 6, 3) := by decide +kernel
theorem dX10_keep_21 : decode cX10_keep 21 = .ok (.bipush (-4), 2) := by decide +kernel
theorem dX10_keep_23 : decode cX10_keep 23 = .ok (.ireturn, 1) := by decide +kernel
theorem dX10_keep_24 : decode cX10_keep 24 = .ok (.aload_n 0, 1) := by decide +kernel
theorem dX10_keep_25 : decode cX10_keep 25 = .ok (.getfield 50, 3) := by decide +kernel
theorem dX10_keep_28 : decode cX10_keep 28 = .ok (.iload_n 1, 1) := by decide +kernel
theorem dX10_keep_29 : decode cX10_keep 29 = .ok (.aload_n 0, 1) := by decide +kernel
theorem dX10_keep_30 : decode cX10_keep 30 = .ok (.getfield 156, 3) := by decide +kernel
theorem dX10_keep_33 : decode cX10_keep 33 = .ok (.iastore, 1) := by decide +kernel
theorem dX10_keep_34 : decode cX10_keep 34 = .ok (.iconst 0, 1) := by decide +kernel
theorem dX10_keep_35 : decode cX10_keep 35 = .ok (.istore_n 2, 1) := by decide +kernel
theorem dX10_keep_36 : decode cX10_keep 36 = .ok (.iload_n 2, 1) := by decide +kernel
theorem dX10_keep_37 : decode cX10_keep 37 = .ok (.bipush 16, 2) := by decide +kernel
theorem dX10_keep_39 : decode cX10_keep 39 = .ok (.if_icmp .ge 26, 3) := by decide +kernel
theorem dX10_keep_42 : decode cX10_keep 42 = .ok (.aload_n 0, 1) := by decide +kernel
theorem dX10_keep_43 : decode cX10_keep 43 = .ok (.getfield 53, 3) := by decide +kernel
theorem dX10_keep_46 : decode cX10_keep 46 = .ok (.bipush 16, 2) := by decide +kernel
theorem dX10_keep_48 : decode cX10_keep 48 = .ok (.iload_n 1, 1) := by decide +kernel
theorem dX10_keep_49 : decode cX10_keep 49 = .ok (.imul, 1) := by decide +kernel
theorem dX10_keep_50 : decode cX10_keep 50 = .ok (.iload_n 2, 1) := by decide +kernel
theorem dX10_keep_51 : decode cX10_keep 51 = .ok (.iadd, 1) := by decide +kernel
theorem dX10_keep_52 : decode cX10_keep 52 = .ok (.aload_n 0, 1) := by decide +kernel
theorem dX10_keep_53 : decode cX10_keep 53 = .ok (.getfield 25, 3) := by decide +kernel
theorem dX10_keep_56 : decode cX10_keep 56 = .ok (.iload_n 2, 1) := by decide +kernel
theorem dX10_keep_57 : decode cX10_keep 57 = .ok (.iaload, 1) := by decide +kernel
theorem dX10_keep_58 : decode cX10_keep 58 = .ok (.iastore, 1) := by decide +kernel
theorem dX10_keep_59 : decode cX10_keep 59 = .ok (.iinc 2 1, 3) := by decide +kernel
theorem dX10_keep_62 : decode cX10_keep 62 = .ok (.goto (-26), 3) := by decide +kernel
theorem dX10_keep_65 : decode cX10_keep 65 = .ok (.iconst 0, 1) := by decide +kernel
theorem dX10_keep_66 : decode cX10_keep 66 = .ok (.istore_n 2, 1) := by decide +kernel
theorem dX10_keep_67 : decode cX10_keep 67 = .ok (.iload_n 2, 1) := by decide +kernel
theorem dX10_keep_68 : decode cX10_keep 68 = .ok (.sipush 960, 3) := by decide +kernel
theorem dX10_keep_71 : decode cX10_keep 71 = .ok (.if_icmp .ge 27, 3) := by decide +kernel
theorem dX10_keep_74 : decode cX10_keep 74 = .ok (.aload_n 0, 1) := by decide +kernel
theorem dX10_keep_75 : decode cX10_keep 75 = .ok (.getfield 56, 3) := by decide +kernel
theorem dX10_keep_78 : decode cX10_keep 78 = .ok (.sipush 960, 3) := by decide +kernel
theorem dX10_keep_81 : decode cX10_keep 81 = .ok (.iload_n 1, 1) := by decide +kernel
theorem dX10_keep_82 : decode cX10_keep 82 = .ok (.imul, 1) := by decide +kernel
theorem dX10_keep_83 : decode cX10_keep 83 = .ok (.iload_n 2, 1) := by decide +kernel
theorem dX10_keep_84 : decode cX10_keep 84 = .ok (.iadd, 1) := by decide +kernel
theorem dX10_keep_85 : decode cX10_keep 85 = .ok (.aload_n 0, 1) := by decide +kernel
theorem dX10_keep_86 : decode cX10_keep 86 = .ok (.getfield 28, 3) := by decide +kernel
theorem dX10_keep_89 : decode cX10_keep 89 = .ok (.iload_n 2, 1) := by decide +kernel
theorem dX10_keep_90 : decode cX10_keep 90 = .ok (.iaload, 1) := by decide +kernel
theorem dX10_keep_91 : decode cX10_keep 91 = .ok (.iastore, 1) := by decide +kernel
theorem dX10_keep_92 : decode cX10_keep 92 = .ok (.iinc 2 1, 3) := by decide +kernel
theorem dX10_keep_95 : decode cX10_keep 95 = .ok (.goto (-28), 3) := by decide +kernel
theorem dX10_keep_98 : decode cX10_keep 98 = .ok (.iconst 0, 1) := by decide +kernel
theorem dX10_keep_99 : decode cX10_keep 99 = .ok (.istore_n 2, 1) := by decide +kernel
theorem dX10_keep_100 : decode cX10_keep 100 = .ok (.iload_n 2, 1) := by decide +kernel
theorem dX10_keep_101 : decode cX10_keep 101 = .ok (.iconst 4, 1) := by decide +kernel
theorem dX10_keep_102 : decode cX10_keep 102 = .ok (.if_icmp .ge 25, 3) := by decide +kernel
theorem dX10_keep_105 : decode cX10_keep 105 = .ok (.aload_n 0, 1) := by decide +kernel
theorem dX10_keep_106 : decode cX10_keep 106 = .ok (.getfield 59, 3) := by decide +kernel
theorem dX10_keep_109 : decode cX10_keep 109 = .ok (.iconst 4, 1) := by decide +kernel
theorem dX10_keep_110 : decode cX10_keep 110 = .ok (.iload_n 1, 1) := by decide +kernel
theorem dX10_keep_111 : decode cX10_keep 111 = .ok (.imul, 1) := by decide +kernel
theorem dX10_keep_112 : decode cX10_keep 112 = .ok (.iload_n 2, 1) := by decide +kernel
theorem dX10_keep_113 : decode cX10_keep 113 = .ok (.iadd, 1) := by decide +kernel
theorem dX10_keep_114 : decode cX10_keep 114 = .ok (.aload_n 0, 1) := by decide +kernel
theorem dX10_keep_115 : decode cX10_keep 115 = .ok (.getfield 22, 3) := by decide +kernel
theorem dX10_keep_118 : decode cX10_keep 118 = .ok (.iload_n 2, 1) := by decide +kernel
theorem dX10_keep_119 : decode cX10_keep 119 = .ok (.iaload, 1) := by decide +kernel
theorem dX10_keep_120 : decode cX10_keep 120 = .ok (.iastore, 1) := by decide +kernel
theorem dX10_keep_121 : decode cX10_keep 121 = .ok (.iinc 2 1, 3) := by decide +kernel
theorem dX10_keep_124 : decode cX10_keep 124 = .ok (.goto (-24), 3) := by decide +kernel
theorem dX10_keep_127 : decode cX10_keep 127 = .ok (.aload_n 0, 1) := by decide +kernel
theorem dX10_keep_128 : decode cX10_keep 128 = .ok (.getfield 156, 3) := by decide +kernel
theorem dX10_keep_131 : decode cX10_keep 131 = .ok (.ireturn, 1) := by decide +kernel
theorem dX10_on_0 : decode cX10_on 0 = .ok (.iload_n 1, 1) := by decide +kernel
theorem dX10_on_1 : decode cX10_on 1 = .ok (.i2l, 1) := by decide +kernel
theorem dX10_on_2 : decode cX10_on 2 = .ok (.lconst 0, 1) := by decide +kernel
theorem dX10_on_3 : decode cX10_on 3 = .ok (.ldc2_w 227, 3) := by decide +kernel
theorem dX10_on_6 : decode cX10_on 6 = .ok (.invokestatic 98, 3) := by decide +kernel
theorem dX10_on_9 : decode cX10_on 9 = .ok (.ifCond .ne 5, 3) := by decide +kernel
theorem dX10_on_12 : decode cX10_on 12 = .ok (.iconst (-1), 1) := by decide +kernel
theorem dX10_on_13 : decode cX10_on 13 = .ok (.ireturn, 1) := by decide +kernel
theorem dX10_on_14 : decode cX10_on 14 = .ok (.aload_n 0, 1) := by decide +kernel
theorem dX10_on_15 : decode cX10_on 15 = .ok (.getfield 50, 3) := by decide +kernel
theorem dX10_on_18 : decode cX10_on 18 = .ok (.iload_n 1, 1) := by decide +kernel
theorem dX10_on_19 : decode cX10_on 19 = .ok (.iaload, 1) := by decide +kernel
theorem dX10_on_20 : decode cX10_on 20 = .ok (.ifCond .ge 9, 3) := by decide +kernel
theorem dX10_on_23 : decode cX10_on 23 = .ok (.aload_n 0, 1) := by decide +kernel
theorem dX10_on_24 : decode cX10_on 24 = .ok (.iconst 1, 1) := by decide +kernel
theorem dX10_on_25 : decode cX10_on 25 = .ok (.invokevirtual 114, 3) := by decide +kernel
theorem dX10_on_28 : decode cX10_on 28 = .ok (.ireturn, 1) := by decide +kernel
theorem dX10_on_29 : decode cX10_on 29 = .ok (.aload_n 0, 1) := by decide +kernel
theorem dX10_on_30 : decode cX10_on 30 = .ok (.aload_n 0, 1) := by decide +kernel
theorem dX10_on_31 : decode cX10_on 31 = .ok (.getfield 50, 3) := by decide +kernel
theorem dX10_on_34 : decode cX10_on 34 = .ok (.iload_n 1, 1) := by decide +kernel
theorem dX10_on_35 : decode cX10_on 35 = .ok (.iaload, 1) := by decide +kernel
theorem dX10_on_36 : decode cX10_on 36 = .ok (.putfield 156, 3) := by decide +kernel
theorem dX10_on_39 : decode cX10_on 39 = .ok (.iconst 0, 1) := by decide +kernel
theorem dX10_on_40 : decode cX10_on 40 = .ok (.istore_n 2, 1) := by decide +kernel
theorem dX10_on_41 : decode cX10_on 41 = .ok (.iload_n 2, 1) := by decide +kernel
theorem dX10_on_42 : decode cX10_on 42 = .ok (.bipush 16, 2) := by decide +kernel
theorem dX10_on_44 : decode cX10_on 44 = .ok (.if_icmp .ge 26, 3) := by decide +kernel
theorem dX10_on_47 : decode cX10_on 47 = .ok (.aload_n 0, 1) := by decide +kernel
theorem dX10_on_48 : decode cX10_on 48 = .ok (.getfield 25, 3) := by decide +kernel
theorem dX10_on_51 : decode cX10_on 51 = .ok (.iload_n 2, 1) := by decide +kernel
theorem dX10_on_52 : decode cX10_on 52 = .ok (.aload_n 0, 1) := by decide +kernel
theorem dX10_on_53 : decode cX10_on 53 = .ok (.getfield 53, 3) := by decide +kernel
theorem dX10_on_56 : decode cX10_on 56 = .ok (.bipush 16, 2) := by decide +kernel
theorem dX10_on_58 : decode cX10_on 58 = .ok (.iload_n 1, 1) := by decide +kernel
theorem dX10_on_59 : decode cX10_on 59 = .ok (.imul, 1) := by decide +kernel
theorem dX10_on_60 : decode cX10_on 60 = .ok (.iload_n 2, 1) := by decide +kernel
theorem dX10_on_61 : decode cX10_on 61 = .ok (.iadd, 1) := by decide +kernel
theorem dX10_on_62 : decode cX10_on 62 = .ok (.iaload, 1) := by decide +kernel
theorem dX10_on_63 : decode cX10_on 63 = .ok (.iastore, 1) := by decide +kernel
theorem dX10_on_64 : decode cX10_on 64 = .ok (.iinc 2 1, 3) := by decide +kernel
theorem dX10_on_67 : decode cX10_on 67 = .ok (.goto (-26), 3) := by decide +kernel
theorem dX10_on_70 : decode cX10_on 70 = .ok (.iconst 0, 1) := by decide +kernel
theorem dX10_on_71 : decode cX10_on 71 = .ok (.istore_n 2, 1) := by decide +kernel
theorem dX10_on_72 : decode cX10_on 72 = .ok (.iload_n 2, 1) := by decide +kernel
theorem dX10_on_73 : decode cX10_on 73 = .ok (.sipush 960, 3) := by decide +kernel
theorem dX10_on_76 : decode cX10_on 76 = .ok (.if_icmp .ge 27, 3) := by decide +kernel
theorem dX10_on_79 : decode cX10_on 79 = .ok (.aload_n 0, 1) := by decide +kernel
theorem dX10_on_80 : decode cX10_on 80 = .ok (.getfield 28, 3) := by decide +kernel
theorem dX10_on_83 : decode cX10_on 83 = .ok (.iload_n 2, 1) := by decide +kernel
theorem dX10_on_84 : decode cX10_on 84 = .ok (.aload_n 0, 1) := by decide +kernel
theorem dX10_on_85 : decode cX10_on 85 = .ok (.getfield 56, 3) := by decide +kernel
theorem dX10_on_88 : decode cX10_on 88 = .ok (.sipush 960, 3) := by decide +kernel
theorem dX10_on_91 : decode cX10_on 91 = .ok (.iload_n 1, 1) := by decide +kernel
theorem dX10_on_92 : decode cX10_on 92 = .ok (.imul, 1) := by decide +kernel
theorem dX10_on_93 : decode cX10_on 93 = .ok (.iload_n 2, 1) := by decide +kernel
theorem dX10_on_94 : decode cX10_on 94 = .ok (.iadd, 1) := by decide +kernel
theorem dX10_on_95 : decode cX10_on 95 = .ok (.iaload, 1) := by decide +kernel
theorem dX10_on_96 : decode cX10_on 96 = .ok (.iastore, 1) := by decide +kernel
theorem dX10_on_97 : decode cX10_on 97 = .ok (.iinc 2 1, 3) := by decide +kernel
theorem dX10_on_100 : decode cX10_on 100 = .ok (.goto (-28), 3) := by decide +kernel
theorem dX10_on_103 : decode cX10_on 103 = .ok (.iconst 0, 1) := by decide +kernel
theorem dX10_on_104 : decode cX10_on 104 = .ok (.istore_n 2, 1) := by decide +kernel
theorem dX10_on_105 : decode cX10_on 105 = .ok (.iload_n 2, 1) := by decide +kernel
theorem dX10_on_106 : decode cX10_on 106 = .ok (.iconst 4, 1) := by decide +kernel
theorem dX10_on_107 : decode cX10_on 107 = .ok (.if_icmp .ge 25, 3) := by decide +kernel
theorem dX10_on_110 : decode cX10_on 110 = .ok (.aload_n 0, 1) := by decide +kernel
theorem dX10_on_111 : decode cX10_on 111 = .ok (.getfield 22, 3) := by decide +kernel
theorem dX10_on_114 : decode cX10_on 114 = .ok (.iload_n 2, 1) := by decide +kernel
theorem dX10_on_115 : decode cX10_on 115 = .ok (.aload_n 0, 1) := by decide +kernel
theorem dX10_on_116 : decode cX10_on 116 = .ok (.getfield 59, 3) := by decide +kernel
theorem dX10_on_119 : decode cX10_on 119 = .ok (.iconst 4, 1) := by decide +kernel
theorem dX10_on_120 : decode cX10_on 120 = .ok (.iload_n 1, 1) := by decide +kernel
theorem dX10_on_121 : decode cX10_on 121 = .ok (.imul, 1) := by decide +kernel
theorem dX10_on_122 : decode cX10_on 122 = .ok (.iload_n 2, 1) := by decide +kernel
theorem dX10_on_123 : decode cX10_on 123 = .ok (.iadd, 1) := by decide +kernel
theorem dX10_on_124 : decode cX10_on 124 = .ok (.iaload, 1) := by decide +kernel
theorem dX10_on_125 : decode cX10_on 125 = .ok (.iastore, 1) := by decide +kernel
theorem dX10_on_126 : decode cX10_on 126 = .ok (.iinc 2 1, 3) := by decide +kernel
theorem dX10_on_129 : decode cX10_on 129 = .ok (.goto (-24), 3) := by decide +kernel
theorem dX10_on_132 : decode cX10_on 132 = .ok (.aload_n 0, 1) := by decide +kernel
theorem dX10_on_133 : decode cX10_on 133 = .ok (.getfield 156, 3) := by decide +kernel
theorem dX10_on_136 : decode cX10_on 136 = .ok (.ireturn, 1) := by decide +kernel
theorem dX10_save_0 : decode cX10_save 0 = .ok (.iconst 0, 1) := by decide +kernel
theorem dX10_save_1 : decode cX10_save 1 = .ok (.istore_n 1, 1) := by decide +kernel
theorem dX10_save_2 : decode cX10_save 2 = .ok (.iload_n 1, 1) := by decide +kernel
theorem dX10_save_3 : decode cX10_save 3 = .ok (.bipush 16, 2) := by decide +kernel
theorem dX10_save_5 : decode cX10_save 5 = .ok (.if_icmp .ge 21, 3) := by decide +kernel
theorem dX10_save_8 : decode cX10_save 8 = .ok (.aload_n 0, 1) := by decide +kernel
theorem dX10_save_9 : decode cX10_save 9 = .ok (.getfield 86, 3) := by decide +kernel
theorem dX10_save_12 : decode cX10_save 12 = .ok (.iload_n 1, 1) := by decide +kernel
theorem dX10_save_13 : decode cX10_save 13 = .ok (.aload_n 0, 1) := by decide +kernel
theorem dX10_save_14 : decode cX10_save 14 = .ok (.getfield 25, 3) := by decide +kernel
theorem dX10_save_17 : decode cX10_save 17 = .ok (.iload_n 1, 1) := by decide +kernel
theorem dX10_save_18 : decode cX10_save 18 = .ok (.iaload, 1) := by decide +kernel
theorem dX10_save_19 : decode cX10_save 19 = .ok (.iastore, 1) := by decide +kernel
theorem dX10_save_20 : decode cX10_save 20 = .ok (.iinc 1 1, 3) := by decide +kernel
theorem dX10_save_23 : decode cX10_save 23 = .ok (.goto (-21), 3) := by decide +kernel
theorem dX10_save_26 : decode cX10_save 26 = .ok (.return_, 1) := by decide +kernel
theorem dX10_putBack_0 : decode cX10_putBack 0 = .ok (.iconst 0, 1) := by decide +kernel
theorem dX10_putBack_1 : decode cX10_putBack 1 = .ok (.istore_n 1, 1) := by decide +kernel
theorem dX10_putBack_2 : decode cX10_putBack 2 = .ok (.iload_n 1, 1) := by decide +kernel
theorem dX10_putBack_3 : decode cX10_putBack 3 = .ok (.bipush 16, 2) := by decide +kernel
theorem dX10_putBack_5 : decode cX10_putBack 5 = .ok (.if_icmp .ge 21, 3) := by decide +kernel
theorem dX10_putBack_8 : decode cX10_putBack 8 = .ok (.aload_n 0, 1) := by decide +kernel
theorem dX10_putBack_9 : decode cX10_putBack 9 = .ok (.getfield 25, 3) := by decide +kernel
theorem dX10_putBack_12 : decode cX10_putBack 12 = .ok (.iload_n 1, 1) := by decide +kernel
theorem dX10_putBack_13 : decode cX10_putBack 13 = .ok (.aload_n 0, 1) := by decide +kernel
theorem dX10_putBack_14 : decode cX10_putBack 14 = .ok (.getfield 86, 3) := by decide +kernel
theorem dX10_putBack_17 : decode cX10_putBack 17 = .ok (.iload_n 1, 1) := by decide +kernel
theorem dX10_putBack_18 : decode cX10_putBack 18 = .ok (.iaload, 1) := by decide +kernel
theorem dX10_putBack_19 : decode cX10_putBack 19 = .ok (.iastore, 1) := by decide +kernel
theorem dX10_putBack_20 : decode cX10_putBack 20 = .ok (.iinc 1 1, 3) := by decide +kernel
theorem dX10_putBack_23 : decode cX10_putBack 23 = .ok (.goto (-21), 3) := by decide +kernel
theorem dX10_putBack_26 : decode cX10_putBack 26 = .ok (.return_, 1) := by decide +kernel
theorem dX10_gainsNow_0 : decode cX10_gainsNow 0 = .ok (.iconst 0, 1) := by decide +kernel
theorem dX10_gainsNow_1 : decode cX10_gainsNow 1 = .ok (.istore_n 1, 1) := by decide +kernel
theorem dX10_gainsNow_2 : decode cX10_gainsNow 2 = .ok (.iconst 0, 1) := by decide +kernel
theorem dX10_gainsNow_3 : decode cX10_gainsNow 3 = .ok (.istore_n 2, 1) := by decide +kernel
theorem dX10_gainsNow_4 : decode cX10_gainsNow 4 = .ok (.iload_n 2, 1) := by decide +kernel
theorem dX10_gainsNow_5 : decode cX10_gainsNow 5 = .ok (.aload_n 0, 1) := by decide +kernel
theorem dX10_gainsNow_6 : decode cX10_gainsNow 6 = .ok (.getfield 107, 3) := by decide +kernel
theorem dX10_gainsNow_9 : decode cX10_gainsNow 9 = .ok (.if_icmp .ge 21, 3) := by decide +kernel
theorem dX10_gainsNow_12 : decode cX10_gainsNow 12 = .ok (.iload_n 1, 1) := by decide +kernel
theorem dX10_gainsNow_13 : decode cX10_gainsNow 13 = .ok (.aload_n 0, 1) := by decide +kernel
theorem dX10_gainsNow_14 : decode cX10_gainsNow 14 = .ok (.getfield 25, 3) := by decide +kernel
theorem dX10_gainsNow_17 : decode cX10_gainsNow 17 = .ok (.bipush 12, 2) := by decide +kernel
theorem dX10_gainsNow_19 : decode cX10_gainsNow 19 = .ok (.iload_n 2, 1) := by decide +kernel
theorem dX10_gainsNow_20 : decode cX10_gainsNow 20 = .ok (.iadd, 1) := by decide +kernel
theorem dX10_gainsNow_21 : decode cX10_gainsNow 21 = .ok (.iaload, 1) := by decide +kernel
theorem dX10_gainsNow_22 : decode cX10_gainsNow 22 = .ok (.iadd, 1) := by decide +kernel
theorem dX10_gainsNow_23 : decode cX10_gainsNow 23 = .ok (.istore_n 1, 1) := by decide +kernel
theorem dX10_gainsNow_24 : decode cX10_gainsNow 24 = .ok (.iinc 2 1, 3) := by decide +kernel
theorem dX10_gainsNow_27 : decode cX10_gainsNow 27 = .ok (.goto (-23), 3) := by decide +kernel
theorem dX10_gainsNow_30 : decode cX10_gainsNow 30 = .ok (.iload_n 1, 1) := by decide +kernel
theorem dX10_gainsNow_31 : decode cX10_gainsNow 31 = .ok (.ireturn, 1) := by decide +kernel
theorem dX10_planRefused_0 : decode cX10_planRefused 0 = .ok (.iload_n 1, 1) := by decide +kernel
theorem dX10_planRefused_1 : decode cX10_planRefused 1 = .ok (.invokestatic 110, 3) := by decide +kernel
theorem dX10_planRefused_4 : decode cX10_planRefused 4 = .ok (.ifCond .ne 5, 3) := by decide +kernel
theorem dX10_planRefused_7 : decode cX10_planRefused 7 = .ok (.iconst (-1), 1) := by decide +kernel
theorem dX10_planRefused_8 : decode cX10_planRefused 8 = .ok (.ireturn, 1) := by decide +kernel
theorem dX10_planRefused_9 : decode cX10_planRefused 9 = .ok (.aload_n 0, 1) := by decide +kernel
theorem dX10_planRefused_10 : decode cX10_planRefused 10 = .ok (.getfield 104, 3) := by decide +kernel
theorem dX10_planRefused_13 : decode cX10_planRefused 13 = .ok (.ifCond .ne 6, 3) := by decide +kernel
theorem dX10_planRefused_16 : decode cX10_planRefused 16 = .ok (.bipush (-4), 2) := by decide +kernel
theorem dX10_planRefused_18 : decode cX10_planRefused 18 = .ok (.ireturn, 1) := by decide +kernel
theorem dX10_planRefused_19 : decode cX10_planRefused 19 = .ok (.aload_n 0, 1) := by decide +kernel
theorem dX10_planRefused_20 : decode cX10_planRefused 20 = .ok (.getfield 38, 3) := by decide +kernel
theorem dX10_planRefused_23 : decode cX10_planRefused 23 = .ok (.iload_n 1, 1) := by decide +kernel
theorem dX10_planRefused_24 : decode cX10_planRefused 24 = .ok (.iaload, 1) := by decide +kernel
theorem dX10_planRefused_25 : decode cX10_planRefused 25 = .ok (.ifCond .ge 9, 3) := by decide +kernel
theorem dX10_planRefused_28 : decode cX10_planRefused 28 = .ok (.aload_n 0, 1) := by decide +kernel
theorem dX10_planRefused_29 : decode cX10_planRefused 29 = .ok (.iconst 1, 1) := by decide +kernel
theorem dX10_planRefused_30 : decode cX10_planRefused 30 = .ok (.invokevirtual 114, 3) := by decide +kernel
theorem dX10_planRefused_33 : decode cX10_planRefused 33 = .ok (.ireturn, 1) := by decide +kernel
theorem dX10_planRefused_34 : decode cX10_planRefused 34 = .ok (.aload_n 0, 1) := by decide +kernel
theorem dX10_planRefused_35 : decode cX10_planRefused 35 = .ok (.getfield 38, 3) := by decide +kernel
theorem dX10_planRefused_38 : decode cX10_planRefused 38 = .ok (.iload_n 1, 1) := by decide +kernel
