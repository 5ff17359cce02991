/-! Printed: decode rows. -/
theorem dc_80_0 : decode prog_9_method_2_code 0 = .ok (.iconst 0, 1) := by decide +kernel
theorem dc_80_1 : decode prog_9_method_2_code 1 = .ok (.istore_n 1, 1) := by decide +kernel
theorem dc_80_2 : decode prog_9_method_2_code 2 = .ok (.iload_n 1, 1) := by decide +kernel
theorem dc_80_3 : decode prog_9_method_2_code 3 = .ok (.bipush 16, 2) := by decide +kernel
theorem dc_80_5 : decode prog_9_method_2_code 5 = .ok (.if_icmp .ge 16, 3) := by decide +kernel
theorem dc_80_8 : decode prog_9_method_2_code 8 = .ok (.aload_n 0, 1) := by decide +kernel
theorem dc_80_9 : decode prog_9_method_2_code 9 = .ok (.getfield 19, 3) := by decide +kernel
theorem dc_80_12 : decode prog_9_method_2_code 12 = .ok (.iload_n 1, 1) := by decide +kernel
theorem dc_80_13 : decode prog_9_method_2_code 13 = .ok (.iload_n 1, 1) := by decide +kernel
theorem dc_80_14 : decode prog_9_method_2_code 14 = .ok (.iastore, 1) := by decide +kernel
theorem dc_80_15 : decode prog_9_method_2_code 15 = .ok (.iinc 1 1, 3) := by decide +kernel
theorem dc_80_18 : decode prog_9_method_2_code 18 = .ok (.goto (-16), 3) := by decide +kernel
theorem dc_80_21 : decode prog_9_method_2_code 21 = .ok (.iconst 0, 1) := by decide +kernel
theorem dc_80_22 : decode prog_9_method_2_code 22 = .ok (.istore_n 1, 1) := by decide +kernel
theorem dc_80_23 : decode prog_9_method_2_code 23 = .ok (.iload_n 1, 1) := by decide +kernel
theorem dc_80_24 : decode prog_9_method_2_code 24 = .ok (.bipush 16, 2) := by decide +kernel
theorem dc_80_26 : decode prog_9_method_2_code 26 = .ok (.if_icmp .ge 105, 3) := by decide +kernel
theorem dc_80_29 : decode prog_9_method_2_code 29 = .ok (.iconst 0, 1) := by decide +kernel
theorem dc_80_30 : decode prog_9_method_2_code 30 = .ok (.istore_n 2, 1) := by decide +kernel
theorem dc_80_31 : decode prog_9_method_2_code 31 = .ok (.iload_n 2, 1) := by decide +kernel
theorem dc_80_32 : decode prog_9_method_2_code 32 = .ok (.aload_n 0, 1) := by decide +kernel
theorem dc_80_33 : decode prog_9_method_2_code 33 = .ok (.getfield 7, 3) := by decide +kernel
theorem dc_80_36 : decode prog_9_method_2_code 36 = .ok (.iconst 1, 1) := by decide +kernel
theorem dc_80_37 : decode prog_9_method_2_code 37 = .ok (.iaload, 1) := by decide +kernel
theorem dc_80_38 : decode prog_9_method_2_code 38 = .ok (.if_icmp .ge 87, 3) := by decide +kernel
theorem dc_80_41 : decode prog_9_method_2_code 41 = .ok (.aload_n 0, 1) := by decide +kernel
theorem dc_80_42 : decode prog_9_method_2_code 42 = .ok (.getfield 7, 3) := by decide +kernel
theorem dc_80_45 : decode prog_9_method_2_code 45 = .ok (.bipush 64, 2) := by decide +kernel
theorem dc_80_47 : decode prog_9_method_2_code 47 = .ok (.iconst 2, 1) := by decide +kernel
theorem dc_80_48 : decode prog_9_method_2_code 48 = .ok (.iload_n 2, 1) := by decide +kernel
theorem dc_80_49 : decode prog_9_method_2_code 49 = .ok (.imul, 1) := by decide +kernel
theorem dc_80_50 : decode prog_9_method_2_code 50 = .ok (.iadd, 1) := by decide +kernel
theorem dc_80_51 : decode prog_9_method_2_code 51 = .ok (.iaload, 1) := by decide +kernel
theorem dc_80_52 : decode prog_9_method_2_code 52 = .ok (.istore_n 3, 1) := by decide +kernel
theorem dc_80_53 : decode prog_9_method_2_code 53 = .ok (.aload_n 0, 1) := by decide +kernel
theorem dc_80_54 : decode prog_9_method_2_code 54 = .ok (.getfield 7, 3) := by decide +kernel
theorem dc_80_57 : decode prog_9_method_2_code 57 = .ok (.bipush 64, 2) := by decide +kernel
theorem dc_80_59 : decode prog_9_method_2_code 59 = .ok (.iconst 2, 1) := by decide +kernel
theorem dc_80_60 : decode prog_9_method_2_code 60 = .ok (.iload_n 2, 1) := by decide +kernel
theorem dc_80_61 : decode prog_9_method_2_code 61 = .ok (.imul, 1) := by decide +kernel
theorem dc_80_62 : decode prog_9_method_2_code 62 = .ok (.iadd, 1) := by decide +kernel
theorem dc_80_63 : decode prog_9_method_2_code 63 = .ok (.iconst 1, 1) := by decide +kernel
theorem dc_80_64 : decode prog_9_method_2_code 64 = .ok (.iadd, 1) := by decide +kernel
theorem dc_80_65 : decode prog_9_method_2_code 65 = .ok (.iaload, 1) := by decide +kernel
theorem dc_80_66 : decode prog_9_method_2_code 66 = .ok (.istore 4, 2) := by decide +kernel
theorem dc_80_68 : decode prog_9_method_2_code 68 = .ok (.aload_n 0, 1) := by decide +kernel
theorem dc_80_69 : decode prog_9_method_2_code 69 = .ok (.getfield 19, 3) := by decide +kernel
theorem dc_80_72 : decode prog_9_method_2_code 72 = .ok (.iload_n 3, 1) := by decide +kernel
theorem dc_80_73 : decode prog_9_method_2_code 73 = .ok (.iaload, 1) := by decide +kernel
theorem dc_80_74 : decode prog_9_method_2_code 74 = .ok (.aload_n 0, 1) := by decide +kernel
theorem dc_80_75 : decode prog_9_method_2_code 75 = .ok (.getfield 19, 3) := by decide +kernel
theorem dc_80_78 : decode prog_9_method_2_code 78 = .ok (.iload 4, 2) := by decide +kernel
theorem dc_80_80 : decode prog_9_method_2_code 80 = .ok (.iaload, 1) := by decide +kernel
theorem dc_80_81 : decode prog_9_method_2_code 81 = .ok (.if_icmp .ge 12, 3) := by decide +kernel
theorem dc_80_84 : decode prog_9_method_2_code 84 = .ok (.aload_n 0, 1) := by decide +kernel
theorem dc_80_85 : decode prog_9_method_2_code 85 = .ok (.getfield 19, 3) := by decide +kernel
theorem dc_80_88 : decode prog_9_method_2_code 88 = .ok (.iload_n 3, 1) := by decide +kernel
theorem dc_80_89 : decode prog_9_method_2_code 89 = .ok (.iaload, 1) := by decide +kernel
theorem dc_80_90 : decode prog_9_method_2_code 90 = .ok (.goto 10, 3) := by decide +kernel
theorem dc_80_93 : decode prog_9_method_2_code 93 = .ok (.aload_n 0, 1) := by decide +kernel
theorem dc_80_94 : decode prog_9_method_2_code 94 = .ok (.getfield 19, 3) := by decide +kernel
theorem dc_80_97 : decode prog_9_method_2_code 97 = .ok (.iload 4, 2) := by decide +kernel
theorem dc_80_99 : decode prog_9_method_2_code 99 = .ok (.iaload, 1) := by decide +kernel
theorem dc_80_100 : decode prog_9_method_2_code 100 = .ok (.istore 5, 2) := by decide +kernel
theorem dc_80_102 : decode prog_9_method_2_code 102 = .ok (.aload_n 0, 1) := by decide +kernel
theorem dc_80_103 : decode prog_9_method_2_code 103 = .ok (.getfield 19, 3) := by decide +kernel
theorem dc_80_106 : decode prog_9_method_2_code 106 = .ok (.iload_n 3, 1) := by decide +kernel
theorem dc_80_107 : decode prog_9_method_2_code 107 = .ok (.iload 5, 2) := by decide +kernel
theorem dc_80_109 : decode prog_9_method_2_code 109 = .ok (.iastore, 1) := by decide +kernel
theorem dc_80_110 : decode prog_9_method_2_code 110 = .ok (.aload_n 0, 1) := by decide +kernel
theorem dc_80_111 : decode prog_9_method_2_code 111 = .ok (.getfield 19, 3) := by decide +kernel
theorem dc_80_114 : decode prog_9_method_2_code 114 = .ok (.iload 4, 2) := by decide +kernel
theorem dc_80_116 : decode prog_9_method_2_code 116 = .ok (.iload 5, 2) := by decide +kernel
theorem dc_80_118 : decode prog_9_method_2_code 118 = .ok (.iastore, 1) := by decide +kernel
theorem dc_80_119 : decode prog_9_method_2_code 119 = .ok (.iinc 2 1, 3) := by decide +kernel
theorem dc_80_122 : decode prog_9_method_2_code 122 = .ok (.goto (-91), 3) := by decide +kernel
theorem dc_80_125 : decode prog_9_method_2_code 125 = .ok (.iinc 1 1, 3) := by decide +kernel
theorem dc_80_128 : decode prog_9_method_2_code 128 = .ok (.goto (-105), 3) := by decide +kernel
theorem dc_80_131 : decode prog_9_method_2_code 131 = .ok (.iconst 0, 1) := by decide +kernel
theorem dc_80_132 : decode prog_9_method_2_code 132 = .ok (.istore_n 1, 1) := by decide +kernel
theorem dc_80_133 : decode prog_9_method_2_code 133 = .ok (.iload_n 1, 1) := by decide +kernel
theorem dc_80_134 : decode prog_9_method_2_code 134 = .ok (.sipush 240, 3) := by decide +kernel
theorem dc_80_137 : decode prog_9_method_2_code 137 = .ok (.if_icmp .ge 16, 3) := by decide +kernel
theorem dc_80_140 : decode prog_9_method_2_code 140 = .ok (.aload_n 0, 1) := by decide +kernel
theorem dc_80_141 : decode prog_9_method_2_code 141 = .ok (.getfield 22, 3) := by decide +kernel
theorem dc_80_144 : decode prog_9_method_2_code 144 = .ok (.iload_n 1, 1) := by decide +kernel
theorem dc_80_145 : decode prog_9_method_2_code 145 = .ok (.iconst (-1), 1) := by decide +kernel
theorem dc_80_146 : decode prog_9_method_2_code 146 = .ok (.iastore, 1) := by decide +kernel
theorem dc_80_147 : decode prog_9_method_2_code 147 = .ok (.iinc 1 1, 3) := by decide +kernel
theorem dc_80_150 : decode prog_9_method_2_code 150 = .ok (.goto (-17), 3) := by decide +kernel
theorem dc_80_153 : decode prog_9_method_2_code 153 = .ok (.iconst 0, 1) := by decide +kernel
theorem dc_80_154 : decode prog_9_method_2_code 154 = .ok (.istore_n 1, 1) := by decide +kernel
theorem dc_80_155 : decode prog_9_method_2_code 155 = .ok (.iload_n 1, 1) := by decide +kernel
theorem dc_80_156 : decode prog_9_method_2_code 156 = .ok (.aload_n 0, 1) := by decide +kernel
theorem dc_80_157 : decode prog_9_method_2_code 157 = .ok (.getfield 7, 3) := by decide +kernel
theorem dc_80_160 : decode prog_9_method_2_code 160 = .ok (.iconst 0, 1) := by decide +kernel
theorem dc_80_161 : decode prog_9_method_2_code 161 = .ok (.iaload, 1) := by decide +kernel
theorem dc_80_162 : decode prog_9_method_2_code 162 = .ok (.if_icmp .ge 59, 3) := by decide +kernel
theorem dc_80_165 : decode prog_9_method_2_code 165 = .ok (.aload_n 0, 1) := by decide +kernel
theorem dc_80_166 : decode prog_9_method_2_code 166 = .ok (.getfield 7, 3) := by decide +kernel
theorem dc_80_169 : decode prog_9_method_2_code 169 = .ok (.bipush 32, 2) := by decide +kernel
theorem dc_80_171 : decode prog_9_method_2_code 171 = .ok (.iload_n 1, 1) := by decide +kernel
theorem dc_80_172 : decode prog_9_method_2_code 172 = .ok (.iadd, 1) := by decide +kernel
theorem dc_80_173 : decode prog_9_method_2_code 173 = .ok (.iaload, 1) := by decide +kernel
theorem dc_80_174 : decode prog_9_method_2_code 174 = .ok (.istore_n 2, 1) := by decide +kernel
theorem dc_80_175 : decode prog_9_method_2_code 175 = .ok (.iconst 0, 1) := by decide +kernel
theorem dc_80_176 : decode prog_9_method_2_code 176 = .ok (.istore_n 3, 1) := by decide +kernel
theorem dc_80_177 : decode prog_9_method_2_code 177 = .ok (.iload_n 3, 1) := by decide +kernel
theorem dc_80_178 : decode prog_9_method_2_code 178 = .ok (.iconst 2, 1) := by decide +kernel
theorem dc_80_179 : decode prog_9_method_2_code 179 = .ok (.if_icmp .ge 36, 3) := by decide +kernel
theorem dc_80_182 : decode prog_9_method_2_code 182 = .ok (.iload_n 2, 1) := by decide +kernel
theorem dc_80_183 : decode prog_9_method_2_code 183 = .ok (.bipush 120, 2) := by decide +kernel
theorem dc_80_185 : decode prog_9_method_2_code 185 = .ok (.idiv, 1) := by decide +kernel
theorem dc_80_186 : decode prog_9_method_2_code 186 = .ok (.iload_n 3, 1) := by decide +kernel
theorem dc_80_187 : decode prog_9_method_2_code 187 = .ok (.ishr, 1) := by decide +kernel
theorem dc_80_188 : decode prog_9_method_2_code 188 = .ok (.iconst 1, 1) := by decide +kernel
theorem dc_80_189 : decode prog_9_method_2_code 189 = .ok (.iand, 1) := by decide +kernel
theorem dc_80_190 : decode prog_9_method_2_code 190 = .ok (.iconst 1, 1) := by decide +kernel
theorem dc_80_191 : decode prog_9_method_2_code 191 = .ok (.if_icmp .ne 18, 3) := by decide +kernel
theorem dc_80_194 : decode prog_9_method_2_code 194 = .ok (.aload_n 0, 1) := by decide +kernel
theorem dc_80_195 : decode prog_9_method_2_code 195 = .ok (.getfield 22, 3) := by decide +kernel
theorem dc_80_198 : decode prog_9_method_2_code 198 = .ok (.bipush 120, 2) := by decide +kernel
theorem dc_80_200 : decode prog_9_method_2_code 200 = .ok (.iload_n 3, 1) := by decide +kernel
theorem dc_80_201 : decode prog_9_method_2_code 201 = .ok (.imul, 1) := by decide +kernel
theorem dc_80_202 : decode prog_9_method_2_code 202 = .ok (.iload_n 2, 1) := by decide +kernel
theorem dc_80_203 : decode prog_9_method_2_code 203 = .ok (.bipush 120, 2) := by decide +kernel
theorem dc_80_205 : decode prog_9_method_2_code 205 = .ok (.irem, 1) := by decide +kernel
theorem dc_80_206 : decode prog_9_method_2_code 206 = .ok (.iadd, 1) := by decide +kernel
theorem dc_80_207 : decode prog_9_method_2_code 207 = .ok (.iload_n 1, 1) := by decide +kernel
theorem dc_80_208 : decode prog_9_method_2_code 208 = .ok (.iastore, 1) := by decide +kernel
theorem dc_80_209 : decode prog_9_method_2_code 209 = .ok (.iinc 3 1, 3) := by decide +kernel
theorem dc_80_212 : decode prog_9_method_2_code 212 = .ok (.goto (-35), 3) := by decide +kernel
theorem dc_80_215 : decode prog_9_method_2_code 215 = .ok (.iinc 1 1, 3) := by decide +kernel
theorem dc_80_218 : decode prog_9_method_2_code 218 = .ok (.goto (-63), 3) := by decide +kernel
theorem dc_80_221 : decode prog_9_method_2_code 221 = .ok (.iconst 0, 1) := by decide +kernel
theorem dc_80_222 : decode prog_9_method_2_code 222 = .ok (.istore_n 1, 1) := by decide +kernel
theorem dc_80_223 : decode prog_9_method_2_code 223 = .ok (.iload_n 1, 1) := by decide +kernel
theorem dc_80_224 : decode prog_9_method_2_code 224 = .ok (.sipush 240, 3) := by decide +kernel
theorem dc_80_227 : decode prog_9_method_2_code 227 = .ok (.if_icmp .ge 60, 3) := by decide +kernel
theorem dc_80_230 : decode prog_9_method_2_code 230 = .ok (.aload_n 0, 1) := by decide +kernel
theorem dc_80_231 : decode prog_9_method_2_code 231 = .ok (.getfield 22, 3) := by decide +kernel
theorem dc_80_234 : decode prog_9_method_2_code 234 = .ok (.iload_n 1, 1) := by decide +kernel
theorem dc_80_235 : decode prog_9_method_2_code 235 = .ok (.iaload, 1) := by decide +kernel
theorem dc_80_236 : decode prog_9_method_2_code 236 = .ok (.ifCond .lt 12, 3) := by decide +kernel
theorem dc_80_239 : decode prog_9_method_2_code 239 = .ok (.aload_n 0, 1) := by decide +kernel
theorem dc_80_240 : decode prog_9_method_2_code 240 = .ok (.getfield 22, 3) := by decide +kernel
theorem dc_80_243 : decode prog_9_method_2_code 243 = .ok (.iload_n 1, 1) := by decide +kernel
theorem dc_80_244 : decode prog_9_method_2_code 244 = .ok (.iaload, 1) := by decide +kernel
theorem dc_80_245 : decode prog_9_method_2_code 245 = .ok (.goto 15, 3) := by decide +kernel
theorem dc_80_248 : decode prog_9_method_2_code 248 = .ok (.aload_n 0, 1) := by decide +kernel
theorem dc_80_249 : decode prog_9_method_2_code 249 = .ok (.getfield 7, 3) := by decide +kernel
theorem dc_80_252 : decode prog_9_method_2_code 252 = .ok (.sipush 352, 3) := by decide +kernel
theorem dc_80_255 : decode prog_9_method_2_code 255 = .ok (.iload_n 1, 1) := by decide +kernel
theorem dc_80_256 : decode prog_9_method_2_code 256 = .ok (.iadd, 1) := by decide +kernel
theorem dc_80_257 : decode prog_9_method_2_code 257 = .ok (.iaload, 1) := by decide +kernel
theorem dc_80_258 : decode prog_9_method_2_code 258 = .ok (.iconst 1, 1) := by decide +kernel
theorem dc_80_259 : decode prog_9_method_2_code 259 = .ok (.isub, 1) := by decide +kernel
theorem dc_80_260 : decode prog_9_method_2_code 260 = .ok (.istore_n 2, 1) := by decide +kernel
theorem dc_80_261 : decode prog_9_method_2_code 261 = .ok (.aload_n 0, 1) := by decide +kernel
theorem dc_80_262 : decode prog_9_method_2_code 262 = .ok (.getfield 25, 3) := by decide +kernel
theorem dc_80_265 : decode prog_9_method_2_code 265 = .ok (.iload_n 1, 1) := by decide +kernel
theorem dc_80_266 : decode prog_9_method_2_code 266 = .ok (.iload_n 2, 1) := by decide +kernel
theorem dc_80_267 : decode prog_9_method_2_code 267 = .ok (.ifCond .ge 7, 3) := by decide +kernel
theorem dc_80_270 : decode prog_9_method_2_code 270 = .ok (.iconst (-1), 1) := by decide +kernel
theorem dc_80_271 : decode prog_9_method_2_code 271 = .ok (.goto 9, 3) := by decide +kernel
theorem dc_80_274 : decode prog_9_method_2_code 274 = .ok (.aload_n 0, 1) := by decide +kernel
theorem dc_80_275 : decode prog_9_method_2_code 275 = .ok (.getfield 19, 3) := by decide +kernel
theorem dc_80_278 : decode prog_9_method_2_code 278 = .ok (.iload_n 2, 1) := by decide +kernel
theorem dc_80_279 : decode prog_9_method_2_code 279 = .ok (.iaload, 1) := by decide +kernel
theorem dc_80_280 : decode prog_9_method_2_code 280 = .ok (.iastore, 1) := by decide +kernel
theorem dc_80_281 : decode prog_9_method_2_code 281 = .ok (.iinc 1 1, 3) := by decide +kernel
theorem dc_80_284 : decode prog_9_method_2_code 284 = .ok (.goto (-61), 3) := by decide +kernel
theorem dc_80_287 : decode prog_9_method_2_code 287 = .ok (.return_, 1) := by decide +kernel
theorem dc_81_0 : decode prog_9_method_3_code 0 = .ok (.iconst 0, 1) := by decide +kernel
theorem dc_81_1 : decode prog_9_method_3_code 1 = .ok (.istore_n 1, 1) := by decide +kernel
theorem dc_81_2 : decode prog_9_method_3_code 2 = .ok (.iload_n 1, 1) := by decide +kernel
theorem dc_81_3 : decode prog_9_method_3_code 3 = .ok (.sipush 592, 3) := by decide +kernel
theorem dc_81_6 : decode prog_9_method_3_code 6 = .ok (.if_icmp .ge 21, 3) := by decide +kernel
theorem dc_81_9 : decode prog_9_method_3_code 9 = .ok (.aload_n 0, 1) := by decide +kernel
theorem dc_81_10 : decode prog_9_method_3_code 10 = .ok (.getfield 13, 3) := by decide +kernel
theorem dc_81_13 : decode prog_9_method_3_code 13 = .ok (.iload_n 1, 1) := by decide +kernel
theorem dc_81_14 : decode prog_9_method_3_code 14 = .ok (.aload_n 0, 1) := by decide +kernel
theorem dc_81_15 : decode prog_9_method_3_code 15 = .ok (.getfield 7, 3) := by decide +kernel
theorem dc_81_18 : decode prog_9_method_3_code 18 = .ok (.iload_n 1, 1) := by decide +kernel
theorem dc_81_19 : decode prog_9_method_3_code 19 = .ok (.iaload, 1) := by decide +kernel
theorem dc_81_20 : decode prog_9_method_3_code 20 = .ok (.iastore, 1) := by decide +kernel
theorem dc_81_21 : decode prog_9_method_3_code 21 = .ok (.iinc 1 1, 3) := by decide +kernel
theorem dc_81_24 : decode prog_9_method_3_code 24 = .ok (.goto (-22), 3) := by decide +kernel
theorem dc_81_27 : decode prog_9_method_3_code 27 = .ok (.return_, 1) := by decide +kernel
theorem dc_82_0 : decode prog_9_method_4_code 0 = .ok (.iconst 1, 1) := by decide +kernel
theorem dc_82_1 : decode prog_9_method_4_code 1 = .ok (.istore_n 1, 1) := by decide +kernel
theorem dc_82_2 : decode prog_9_method_4_code 2 = .ok (.iconst 0, 1) := by decide +kernel
theorem dc_82_3 : decode prog_9_method_4_code 3 = .ok (.istore_n 2, 1) := by decide +kernel
theorem dc_82_4 : decode prog_9_method_4_code 4 = .ok (.iload_n 2, 1) := by decide +kernel
theorem dc_82_5 : decode prog_9_method_4_code 5 = .ok (.sipush 592, 3) := by decide +kernel
theorem dc_82_8 : decode prog_9_method_4_code 8 = .ok (.if_icmp .ge 34, 3) := by decide +kernel
theorem dc_82_11 : decode prog_9_method_4_code 11 = .ok (.iload_n 1, 1) := by decide +kernel
theorem dc_82_12 : decode prog_9_method_4_code 12 = .ok (.ifCond .eq 22, 3) := by decide +kernel
theorem dc_82_15 : decode prog_9_method_4_code 15 = .ok (.aload_n 0, 1) := by decide +kernel
theorem dc_82_16 : decode prog_9_method_4_code 16 = .ok (.getfield 13, 3) := by decide +kernel
theorem dc_82_19 : decode prog_9_method_4_code 19 = .ok (.iload_n 2, 1) := by decide +kernel
theorem dc_82_20 : decode prog_9_method_4_code 20 = .ok (.iaload, 1) := by decide +kernel
theorem dc_82_21 : decode prog_9_method_4_code 21 = .ok (.aload_n 0, 1) := by decide +kernel
theorem dc_82_22 : decode prog_9_method_4_code 22 = .ok (.getfield 7, 3) := by decide +kernel
theorem dc_82_25 : decode prog_9_method_4_code 25 = .ok (.iload_n 2, 1) := by decide +kernel
theorem dc_82_26 : decode prog_9_method_4_code 26 = .ok (.iaload, 1) := by decide +kernel
theorem dc_82_27 : decode prog_9_method_4_code 27 = .ok (.if_icmp .ne 7, 3) := by decide +kernel
theorem dc_82_30 : decode prog_9_method_4_code 30 = .ok (.iconst 1, 1) := by decide +kernel
theorem dc_82_31 : decode prog_9_method_4_code 31 = .ok (.goto 4, 3) := by decide +kernel
theorem dc_82_34 : decode prog_9_method_4_code 34 = .ok (.iconst 0, 1) := by decide +kernel
theorem dc_82_35 : decode prog_9_method_4_code 35 = .ok (.istore_n 1, 1) := by decide +kernel
theorem dc_82_36 : decode prog_9_method_4_code 36 = .ok (.iinc 2 1, 3) := by decide +kernel
theorem dc_82_39 : decode prog_9_method_4_code 39 = .ok (.goto (-35), 3) := by decide +kernel
theorem dc_82_42 : decode prog_9_method_4_code 42 = .ok (.iload_n 1, 1) := by decide +kernel
theorem dc_82_43 : decode prog_9_method_4_code 43 = .ok (.ifCond .eq 4, 3) := by decide +kernel
theorem dc_82_46 : decode prog_9_method_4_code 46 = .ok (.return_, 1) := by decide +kernel
theorem dc_82_47 : decode prog_9_method_4_code 47 = .ok (.aload_n 0, 1) := by decide +kernel
theorem dc_82_48 : decode prog_9_method_4_code 48 = .ok (.getfield 50, 3) := by decide +kernel
theorem dc_82_51 : decode prog_9_method_4_code 51 = .ok (.bipush 16, 2) := by decide +kernel
theorem dc_82_53 : decode prog_9_method_4_code 53 = .ok (.if_icmp .ne 44, 3) := by decide +kernel
theorem dc_82_56 : decode prog_9_method_4_code 56 = .ok (.iconst 0, 1) := by decide +kernel
theorem dc_82_57 : decode prog_9_method_4_code 57 = .ok (.istore_n 2, 1) := by decide +kernel
theorem dc_82_58 : decode prog_9_method_4_code 58 = .ok (.iload_n 2, 1) := by decide +kernel
theorem dc_82_59 : decode prog_9_method_4_code 59 = .ok (.sipush 8880, 3) := by decide +kernel
theorem dc_82_62 : decode prog_9_method_4_code 62 = .ok (.if_icmp .ge 25, 3) := by decide +kernel
theorem dc_82_65 : decode prog_9_method_4_code 65 = .ok (.aload_n 0, 1) := by decide +kernel
theorem dc_82_66 : decode prog_9_method_4_code 66 = .ok (.getfield 16, 3) := by decide +kernel
theorem dc_82_69 : decode prog_9_method_4_code 69 = .ok (.iload_n 2, 1) := by decide +kernel
theorem dc_82_70 : decode prog_9_method_4_code 70 = .ok (.aload_n 0, 1) := by decide +kernel
theorem dc_82_71 : decode prog_9_method_4_code 71 = .ok (.getfield 16, 3) := by decide +kernel
theorem dc_82_74 : decode prog_9_method_4_code 74 = .ok (.iload_n 2, 1) := by decide +kernel
theorem dc_82_75 : decode prog_9_method_4_code 75 = .ok (.sipush 592, 3) := by decide +kernel
theorem dc_82_78 : decode prog_9_method_4_code 78 = .ok (.iadd, 1) := by decide +kernel
theorem dc_82_79 : decode prog_9_method_4_code 79 = .ok (.iaload, 1) := by decide +kernel
theorem dc_82_80 : decode prog_9_method_4_code 80 = .ok (.iastore, 1) := by decide +kernel
theorem dc_82_81 : decode prog_9_method_4_code 81 = .ok (.iinc 2 1, 3) := by decide +kernel
theorem dc_82_84 : decode prog_9_method_4_code 84 = .ok (.goto (-26), 3) := by decide +kernel
theorem dc_82_87 : decode prog_9_method_4_code 87 = .ok (.aload_n 0, 1) := by decide +kernel
theorem dc_82_88 : decode prog_9_method_4_code 88 = .ok (.dup, 1) := by decide +kernel
theorem dc_82_89 : decode prog_9_method_4_code 89 = .ok (.getfield 50, 3) := by decide +kernel
theorem dc_82_92 : decode prog_9_method_4_code 92 = .ok (.iconst 1, 1) := by decide +kernel
theorem dc_82_93 : decode prog_9_method_4_code 93 = .ok (.isub, 1) := by decide +kernel
theorem dc_82_94 : decode prog_9_method_4_code 94 = .ok (.putfield 50, 3) := by decide +kernel
theorem dc_82_97 : decode prog_9_method_4_code 97 = .ok (.iconst 0, 1) := by decide +kernel
theorem dc_82_98 : decode prog_9_method_4_code 98 = .ok (.istore_n 2, 1) := by decide +kernel
theorem dc_82_99 : decode prog_9_method_4_code 99 = .ok (.iload_n 2, 1) := by decide +kernel
theorem dc_82_100 : decode prog_9_method_4_code 100 = .ok (.sipush 592, 3) := by decide +kernel
theorem dc_82_103 : decode prog_9_method_4_code 103 = .ok (.if_icmp .ge 30, 3) := by decide +kernel
theorem dc_82_106 : decode prog_9_method_4_code 106 = .ok (.aload_n 0, 1) := by decide +kernel
theorem dc_82_107 : decode prog_9_method_4_code 107 = .ok (.getfield 16, 3) := by decide +kernel
theorem dc_82_110 : decode prog_9_method_4_code 110 = .ok (.sipush 592, 3) := by decide +kernel
theorem dc_82_113 : decode prog_9_method_4_code 113 = .ok (.aload_n 0, 1) := by decide +kernel
theorem dc_82_114 : decode prog_9_method_4_code 114 = .ok (.getfield 50, 3) := by decide +kernel
theorem dc_82_117 : decode prog_9_method_4_code 117 = .ok (.imul, 1) := by decide +kernel
theorem dc_82_118 : decode prog_9_method_4_code 118 = .ok (.iload_n 2, 1) := by decide +kernel
theorem dc_82_119 : decode prog_9_method_4_code 119 = .ok (.iadd, 1) := by decide +kernel
theorem dc_82_120 : decode prog_9_method_4_code 120 = .ok (.aload_n 0, 1) := by decide +kernel
theorem dc_82_121 : decode prog_9_method_4_code 121 = .ok (.getfield 13, 3) := by decide +kernel
theorem dc_82_124 : decode prog_9_method_4_code 124 = .ok (.iload_n 2, 1) := by decide +kernel
theorem dc_82_125 : decode prog_9_method_4_code 125 = .ok (.iaload, 1) := by decide +kernel
theorem dc_82_126 : decode prog_9_method_4_code 126 = .ok (.iastore, 1) := by decide +kernel
theorem dc_82_127 : decode prog_9_method_4_code 127 = .ok (.iinc 2 1, 3) := by decide +kernel
theorem dc_82_130 : decode prog_9_method_4_code 130 = .ok (.goto (-31), 3) := by decide +kernel
theorem dc_82_133 : decode prog_9_method_4_code 133 = .ok (.aload_n 0, 1) := by decide +kernel
theorem dc_82_134 : decode prog_9_method_4_code 134 = .ok (.dup, 1) := by decide +kernel
theorem dc_82_135 : decode prog_9_method_4_code 135 = .ok (.getfield 50, 3) := by decide +kernel
theorem dc_82_138 : decode prog_9_method_4_code 138 = .ok (.iconst 1, 1) := by decide +kernel
theorem dc_82_139 : decode prog_9_method_4_code 139 = .ok (.iadd, 1) := by decide +kernel
theorem dc_82_140 : decode prog_9_method_4_code 140 = .ok (.putfield 50, 3) := by decide +kernel
theorem dc_82_143 : decode prog_9_method_4_code 143 = .ok (.aload_n 0, 1) := by decide +kernel
theorem dc_82_144 : decode prog_9_method_4_code 144 = .ok (.invokevirtual 47, 3) := by decide +kernel
theorem dc_82_147 : decode prog_9_method_4_code 147 = .ok (.return_, 1) := by decide +kernel
theorem dc_83_0 : decode prog_9_method_5_code 0 = .ok (.aload_n 0, 1) := by decide +kernel
theorem dc_83_1 : decode prog_9_method_5_code 1 = .ok (.getfield 50, 3) := by decide +kernel
theorem dc_83_4 : decode prog_9_method_5_code 4 = .ok (.ifCond .ne 5, 3) := by decide +kernel
theorem dc_83_7 : decode prog_9_method_5_code 7 = .ok (.iconst (-1), 1) := by decide +kernel
theorem dc_83_8 : decode prog_9_method_5_code 8 = .ok (.ireturn, 1) := by decide +kernel
theorem dc_83_9 : decode prog_9_method_5_code 9 = .ok (.aload_n 0, 1) := by decide +kernel
theorem dc_83_10 : decode prog_9_method_5_code 10 = .ok (.dup, 1) := by decide +kernel
theorem dc_83_11 : decode prog_9_method_5_code 11 = .ok (.getfield 50, 3) := by decide +kernel
theorem dc_83_14 : decode prog_9_method_5_code 14 = .ok (.iconst 1, 1) := by decide +kernel
theorem dc_83_15 : decode prog_9_method_5_code 15 = .ok (.isub, 1) := by decide +kernel
theorem dc_83_16 : decode prog_9_method_5_code 16 = .ok (.putfield 50, 3) := by decide +kernel
theorem dc_83_19 : decode prog_9_method_5_code 19 = .ok (.iconst 0, 1) := by decide +kernel
theorem dc_83_20 : decode prog_9_method_5_code 20 = .ok (.istore_n 1, 1) := by decide +kernel
theorem dc_83_21 : decode prog_9_method_5_code 21 = .ok (.iload_n 1, 1) := by decide +kernel
theorem dc_83_22 : decode prog_9_method_5_code 22 = .ok (.sipush 592, 3) := by decide +kernel
theorem dc_83_25 : decode prog_9_method_5_code 25 = .ok (.if_icmp .ge 30, 3) := by decide +kernel
theorem dc_83_28 : decode prog_9_method_5_code 28 = .ok (.aload_n 0, 1) := by decide +kernel
theorem dc_83_29 : decode prog_9_method_5_code 29 = .ok (.getfield 7, 3) := by decide +kernel
theorem dc_83_32 : decode prog_9_method_5_code 32 = .ok (.iload_n 1, 1) := by decide +kernel
theorem dc_83_33 : decode prog_9_method_5_code 33 = .ok (.aload_n 0, 1) := by decide +kernel
theorem dc_83_34 : decode prog_9_method_5_code 34 = .ok (.getfield 16, 3) := by decide +kernel
theorem dc_83_37 : decode prog_9_method_5_code 37 = .ok (.sipush 592, 3) := by decide +kernel
theorem dc_83_40 : decode prog_9_method_5_code 40 = .ok (.aload_n 0, 1) := by decide +kernel
theorem dc_83_41 : decode prog_9_method_5_code 41 = .ok (.getfield 50, 3) := by decide +kernel
theorem dc_83_44 : decode prog_9_method_5_code 44 = .ok (.imul, 1) := by decide +kernel
theorem dc_83_45 : decode prog_9_method_5_code 45 = .ok (.iload_n 1, 1) := by decide +kernel
theorem dc_83_46 : decode prog_9_method_5_code 46 = .ok (.iadd, 1) := by decide +kernel
theorem dc_83_47 : decode prog_9_method_5_code 47 = .ok (.iaload, 1) := by decide +kernel
theorem dc_83_48 : decode prog_9_method_5_code 48 = .ok (.iastore, 1) := by decide +kernel
theorem dc_83_49 : decode prog_9_method_5_code 49 = .ok (.iinc 1 1, 3) := by decide +kernel
theorem dc_83_52 : decode prog_9_method_5_code 52 = .ok (.goto (-31), 3) := by decide +kernel
theorem dc_83_55 : decode prog_9_method_5_code 55 = .ok (.aload_n 0, 1) := by decide +kernel
theorem dc_83_56 : decode prog_9_method_5_code 56 = .ok (.invokevirtual 47, 3) := by decide +kernel
theorem dc_83_59 : decode prog_9_method_5_code 59 = .ok (.aload_n 0, 1) := by decide +kernel
theorem dc_83_60 : decode prog_9_method_5_code 60 = .ok (.getfield 50, 3) := by decide +kernel
theorem dc_83_63 : decode prog_9_method_5_code 63 = .ok (.ireturn, 1) := by decide +kernel
theorem dc_84_0 : decode prog_9_method_6_code 0 = .ok (.iload_n 1, 1) := by decide +kernel
theorem dc_84_1 : decode prog_9_method_6_code 1 = .ok (.ifCond .lt 17, 3) := by decide +kernel
theorem dc_84_4 : decode prog_9_method_6_code 4 = .ok (.iload_n 1, 1) := by decide +kernel
theorem dc_84_5 : decode prog_9_method_6_code 5 = .ok (.aload_n 0, 1) := by decide +kernel
theorem dc_84_6 : decode prog_9_method_6_code 6 = .ok (.getfield 7, 3) := by decide +kernel
theorem dc_84_9 : decode prog_9_method_6_code 9 = .ok (.iconst 0, 1) := by decide +kernel
theorem dc_84_10 : decode prog_9_method_6_code 10 = .ok (.iaload, 1) := by decide +kernel
theorem dc_84_11 : decode prog_9_method_6_code 11 = .ok (.if_icmp .ge 7, 3) := by decide +kernel
theorem dc_84_14 : decode prog_9_method_6_code 14 = .ok (.iconst 1, 1) := by decide +kernel
theorem dc_84_15 : decode prog_9_method_6_code 15 = .ok (.goto 4, 3) := by decide +kernel
theorem dc_84_18 : decode prog_9_method_6_code 18 = .ok (.iconst 0, 1) := by decide +kernel
theorem dc_84_19 : decode prog_9_method_6_code 19 = .ok (.ireturn, 1) := by decide +kernel
theorem dc_85_0 : decode prog_9_method_7_code 0 = .ok (.iload_n 0, 1) := by decide +kernel
theorem dc_85_1 : decode prog_9_method_7_code 1 = .ok (.ifCond .lt 14, 3) := by decide +kernel
theorem dc_85_4 : decode prog_9_method_7_code 4 = .ok (.iload_n 0, 1) := by decide +kernel
theorem dc_85_5 : decode prog_9_method_7_code 5 = .ok (.sipush 240, 3) := by decide +kernel
theorem dc_85_8 : decode prog_9_method_7_code 8 = .ok (.if_icmp .ge 7, 3) := by decide +kernel
theorem dc_85_11 : decode prog_9_method_7_code 11 = .ok (.iconst 1, 1) := by decide +kernel
theorem dc_85_12 : decode prog_9_method_7_code 12 = .ok (.goto 4, 3) := by decide +kernel
theorem dc_85_15 : decode prog_9_method_7_code 15 = .ok (.iconst 0, 1) := by decide +kernel
theorem dc_85_16 : decode prog_9_method_7_code 16 = .ok (.ireturn, 1) := by decide +kernel
theorem dc_86_0 : decode prog_9_method_8_code 0 = .ok (.iload_n 1, 1) := by decide +kernel
theorem dc_86_1 : decode prog_9_method_8_code 1 = .ok (.ifCond .lt 8, 3) := by decide +kernel
theorem dc_86_4 : decode prog_9_method_8_code 4 = .ok (.iload_n 1, 1) := by decide +kernel
theorem dc_86_5 : decode prog_9_method_8_code 5 = .ok (.iconst 3, 1) := by decide +kernel
theorem dc_86_6 : decode prog_9_method_8_code 6 = .ok (.if_icmp .le 5, 3) := by decide +kernel
theorem dc_86_9 : decode prog_9_method_8_code 9 = .ok (.iconst (-1), 1) := by decide +kernel
theorem dc_86_10 : decode prog_9_method_8_code 10 = .ok (.ireturn, 1) := by decide +kernel
theorem dc_86_11 : decode prog_9_method_8_code 11 = .ok (.aload_n 0, 1) := by decide +kernel
theorem dc_86_12 : decode prog_9_method_8_code 12 = .ok (.getfield 7, 3) := by decide +kernel
theorem dc_86_15 : decode prog_9_method_8_code 15 = .ok (.iconst 0, 1) := by decide +kernel
theorem dc_86_16 : decode prog_9_method_8_code 16 = .ok (.iaload, 1) := by decide +kernel
theorem dc_86_17 : decode prog_9_method_8_code 17 = .ok (.bipush 16, 2) := by decide +kernel
theorem dc_86_19 : decode prog_9_method_8_code 19 = .ok (.if_icmp .ne 6, 3) := by decide +kernel
theorem dc_86_22 : decode prog_9_method_8_code 22 = .ok (.bipush (-2), 2) := by decide +kernel
theorem dc_86_24 : decode prog_9_method_8_code 24 = .ok (.ireturn, 1) := by decide +kernel
theorem dc_86_25 : decode prog_9_method_8_code 25 = .ok (.aload_n 0, 1) := by decide +kernel
theorem dc_86_26 : decode prog_9_method_8_code 26 = .ok (.invokevirtual 54, 3) := by decide +kernel
theorem dc_86_29 : decode prog_9_method_8_code 29 = .ok (.aload_n 0, 1) := by decide +kernel
theorem dc_86_30 : decode prog_9_method_8_code 30 = .ok (.getfield 7, 3) := by decide +kernel
theorem dc_86_33 : decode prog_9_method_8_code 33 = .ok (.bipush 16, 2) := by decide +kernel
theorem dc_86_35 : decode prog_9_method_8_code 35 = .ok (.aload_n 0, 1) := by decide +kernel
theorem dc_86_36 : decode prog_9_method_8_code 36 = .ok (.getfield 7, 3) := by decide +kernel
theorem dc_86_39 : decode prog_9_method_8_code 39 = .ok (.iconst 0, 1) := by decide +kernel
theorem dc_86_40 : decode prog_9_method_8_code 40 = .ok (.iaload, 1) := by decide +kernel
theorem dc_86_41 : decode prog_9_method_8_code 41 = .ok (.iadd, 1) := by decide +kernel
theorem dc_86_42 : decode prog_9_method_8_code 42 = .ok (.iload_n 1, 1) := by decide +kernel
theorem dc_86_43 : decode prog_9_method_8_code 43 = .ok (.iastore, 1) := by decide +kernel
theorem dc_86_44 : decode prog_9_method_8_code 44 = .ok (.aload_n 0, 1) := by decide +kernel
theorem dc_86_45 : decode prog_9_method_8_code 45 = .ok (.getfield 7, 3) := by decide +kernel
theorem dc_86_48 : decode prog_9_method_8_code 48 = .ok (.iconst 0, 1) := by decide +kernel
theorem dc_86_49 : decode prog_9_method_8_code 49 = .ok (.dup2, 1) := by decide +kernel
theorem dc_86_50 : decode prog_9_method_8_code 50 = .ok (.iaload, 1) := by decide +kernel
theorem dc_86_51 : decode prog_9_method_8_code 51 = .ok (.iconst 1, 1) := by decide +kernel
theorem dc_86_52 : decode prog_9_method_8_code 52 = .ok (.iadd, 1) := by decide +kernel
theorem dc_86_53 : decode prog_9_method_8_code 53 = .ok (.iastore, 1) := by decide +kernel
theorem dc_86_54 : decode prog_9_method_8_code 54 = .ok (.aload_n 0, 1) := by decide +kernel
theorem dc_86_55 : decode prog_9_method_8_code 55 = .ok (.invokevirtual 57, 3) := by decide +kernel
theorem dc_86_58 : decode prog_9_method_8_code 58 = .ok (.aload_n 0, 1) := by decide +kernel
theorem dc_86_59 : decode prog_9_method_8_code 59 = .ok (.getfield 7, 3) := by decide +kernel
theorem dc_86_62 : decode prog_9_method_8_code 62 = .ok (.iconst 0, 1) := by decide +kernel
theorem dc_86_63 : decode prog_9_method_8_code 63 = .ok (.iaload, 1) := by decide +kernel
theorem dc_86_64 : decode prog_9_method_8_code 64 = .ok (.iconst 1, 1) := by decide +kernel
theorem dc_86_65 : decode prog_9_method_8_code 65 = .ok (.isub, 1) := by decide +kernel
theorem dc_86_66 : decode prog_9_method_8_code 66 = .ok (.ireturn, 1) := by decide +kernel
theorem dc_87_0 : decode prog_9_method_9_code 0 = .ok (.aload_n 0, 1) := by decide +kernel
theorem dc_87_1 : decode prog_9_method_9_code 1 = .ok (.iload_n 1, 1) := by decide +kernel
theorem dc_87_2 : decode prog_9_method_9_code 2 = .ok (.invokevirtual 60, 3) := by decide +kernel
theorem dc_87_5 : decode prog_9_method_9_code 5 = .ok (.ifCond .eq 16, 3) := by decide +kernel
theorem dc_87_8 : decode prog_9_method_9_code 8 = .ok (.aload_n 0, 1) := by decide +kernel
theorem dc_87_9 : decode prog_9_method_9_code 9 = .ok (.iload_n 2, 1) := by decide +kernel
theorem dc_87_10 : decode prog_9_method_9_code 10 = .ok (.invokevirtual 60, 3) := by decide +kernel
theorem dc_87_13 : decode prog_9_method_9_code 13 = .ok (.ifCond .eq 8, 3) := by decide +kernel
theorem dc_87_16 : decode prog_9_method_9_code 16 = .ok (.iload_n 1, 1) := by decide +kernel
theorem dc_87_17 : decode prog_9_method_9_code 17 = .ok (.iload_n 2, 1) := by decide +kernel
theorem dc_87_18 : decode prog_9_method_9_code 18 = .ok (.if_icmp .ne 5, 3) := by decide +kernel
theorem dc_87_21 : decode prog_9_method_9_code 21 = .ok (.iconst (-1), 1) := by decide +kernel
theorem dc_87_22 : decode prog_9_method_9_code 22 = .ok (.ireturn, 1) := by decide +kernel
theorem dc_87_23 : decode prog_9_method_9_code 23 = .ok (.aload_n 0, 1) := by decide +kernel
theorem dc_87_24 : decode prog_9_method_9_code 24 = .ok (.getfield 7, 3) := by decide +kernel
theorem dc_87_27 : decode prog_9_method_9_code 27 = .ok (.iconst 1, 1) := by decide +kernel
theorem dc_87_28 : decode prog_9_method_9_code 28 = .ok (.iaload, 1) := by decide +kernel
theorem dc_87_29 : decode prog_9_method_9_code 29 = .ok (.bipush 24, 2) := by decide +kernel
theorem dc_87_31 : decode prog_9_method_9_code 31 = .ok (.if_icmp .ne 6, 3) := by decide +kernel
theorem dc_87_34 : decode prog_9_method_9_code 34 = .ok (.bipush (-2), 2) := by decide +kernel
theorem dc_87_36 : decode prog_9_method_9_code 36 = .ok (.ireturn, 1) := by decide +kernel
theorem dc_87_37 : decode prog_9_method_9_code 37 = .ok (.aload_n 0, 1) := by decide +kernel
theorem dc_87_38 : decode prog_9_method_9_code 38 = .ok (.invokevirtual 54, 3) := by decide +kernel
theorem dc_87_41 : decode prog_9_method_9_code 41 = .ok (.aload_n 0, 1) := by decide +kernel
theorem dc_87_42 : decode prog_9_method_9_code 42 = .ok (.getfield 7, 3) := by decide +kernel
theorem dc_87_45 : decode prog_9_method_9_code 45 = .ok (.bipush 64, 2) := by decide +kernel
theorem dc_87_47 : decode prog_9_method_9_code 47 = .ok (.iconst 2, 1) := by decide +kernel
theorem dc_87_48 : decode prog_9_method_9_code 48 = .ok (.aload_n 0, 1) := by decide +kernel
theorem dc_87_49 : decode prog_9_method_9_code 49 = .ok (.getfield 7, 3) := by decide +kernel
theorem dc_87_52 : decode prog_9_method_9_code 52 = .ok (.iconst 1, 1) := by decide +kernel
theorem dc_87_53 : decode prog_9_method_9_code 53 = .ok (.iaload, 1) := by decide +kernel
theorem dc_87_54 : decode prog_9_method_9_code 54 = .ok (.imul, 1) := by decide +kernel
theorem dc_87_55 : decode prog_9_method_9_code 55 = .ok (.iadd, 1) := by decide +kernel
theorem dc_87_56 : decode prog_9_method_9_code 56 = .ok (.iload_n 1, 1) := by decide +kernel
theorem dc_87_57 : decode prog_9_method_9_code 57 = .ok (.iastore, 1) := by decide +kernel
theorem dc_87_58 : decode prog_9_method_9_code 58 = .ok (.aload_n 0, 1) := by decide +kernel
theorem dc_87_59 : decode prog_9_method_9_code 59 = .ok (.getfield 7, 3) := by decide +kernel
theorem dc_87_62 : decode prog_9_method_9_code 62 = .ok (.bipush 64, 2) := by decide +kernel
theorem dc_87_64 : decode prog_9_method_9_code 64 = .ok (.iconst 2, 1) := by decide +kernel
theorem dc_87_65 : decode prog_9_method_9_code 65 = .ok (.aload_n 0, 1) := by decide +kernel
theorem dc_87_66 : decode prog_9_method_9_code 66 = .ok (.getfield 7, 3) := by decide +kernel
theorem dc_87_69 : decode prog_9_method_9_code 69 = .ok (.iconst 1, 1) := by decide +kernel
theorem dc_87_70 : decode prog_9_method_9_code 70 = .ok (.iaload, 1) := by decide +kernel
theorem dc_87_71 : decode prog_9_method_9_code 71 = .ok (.imul, 1) := by decide +kernel
theorem dc_87_72 : decode prog_9_method_9_code 72 = .ok (.iadd, 1) := by decide +kernel
theorem dc_87_73 : decode prog_9_method_9_code 73 = .ok (.iconst 1, 1) := by decide +kernel
theorem dc_87_74 : decode prog_9_method_9_code 74 = .ok (.iadd, 1) := by decide +kernel
theorem dc_87_75 : decode prog_9_method_9_code 75 = .ok (.iload_n 2, 1) := by decide +kernel
theorem dc_87_76 : decode prog_9_method_9_code 76 = .ok (.iastore, 1) := by decide +kernel
theorem dc_87_77 : decode prog_9_method_9_code 77 = .ok (.aload_n 0, 1) := by decide +kernel
theorem dc_87_78 : decode prog_9_method_9_code 78 = .ok (.getfield 7, 3) := by decide +kernel
theorem dc_87_81 : decode prog_9_method_9_code 81 = .ok (.iconst 1, 1) := by decide +kernel
theorem dc_87_82 : decode prog_9_method_9_code 82 = .ok (.dup2, 1) := by decide +kernel
theorem dc_87_83 : decode prog_9_method_9_code 83 = .ok (.iaload, 1) := by decide +kernel
theorem dc_87_84 : decode prog_9_method_9_code 84 = .ok (.iconst 1, 1) := by decide +kernel
theorem dc_87_85 : decode prog_9_method_9_code 85 = .ok (.iadd, 1) := by decide +kernel
theorem dc_87_86 : decode prog_9_method_9_code 86 = .ok (.iastore, 1) := by decide +kernel
theorem dc_87_87 : decode prog_9_method_9_code 87 = .ok (.aload_n 0, 1) := by decide +kernel
theorem dc_87_88 : decode prog_9_method_9_code 88 = .ok (.invokevirtual 57, 3) := by decide +kernel
theorem dc_87_91 : decode prog_9_method_9_code 91 = .ok (.aload_n 0, 1) := by decide +kernel
theorem dc_87_92 : decode prog_9_method_9_code 92 = .ok (.getfield 7, 3) := by decide +kernel
theorem dc_87_95 : decode prog_9_method_9_code 95 = .ok (.iconst 1, 1) := by decide +kernel
theorem dc_87_96 : decode prog_9_method_9_code 96 = .ok (.iaload, 1) := by decide +kernel
theorem dc_87_97 : decode prog_9_method_9_code 97 = .ok (.iconst 1, 1) := by decide +kernel
theorem dc_87_98 : decode prog_9_method_9_code 98 = .ok (.isub, 1) := by decide +kernel
theorem dc_87_99 : decode prog_9_method_9_code 99 = .ok (.ireturn, 1) := by decide +kernel
theorem dc_88_0 : decode prog_9_method_10_code 0 = .ok (.iload_n 1, 1) := by decide +kernel
theorem dc_88_1 : decode prog_9_method_10_code 1 = .ok (.ifCond .lt 13, 3) := by decide +kernel
theorem dc_88_4 : decode prog_9_method_10_code 4 = .ok (.iload_n 1, 1) := by decide +kernel
theorem dc_88_5 : decode prog_9_method_10_code 5 = .ok (.aload_n 0, 1) := by decide +kernel
theorem dc_88_6 : decode prog_9_method_10_code 6 = .ok (.getfield 7, 3) := by decide +kernel
theorem dc_88_9 : decode prog_9_method_10_code 9 = .ok (.iconst 1, 1) := by decide +kernel
theorem dc_88_10 : decode prog_9_method_10_code 10 = .ok (.iaload, 1) := by decide +kernel
theorem dc_88_11 : decode prog_9_method_10_code 11 = .ok (.if_icmp .lt 5, 3) := by decide +kernel
theorem dc_88_14 : decode prog_9_method_10_code 14 = .ok (.iconst (-1), 1) := by decide +kernel
theorem dc_88_15 : decode prog_9_method_10_code 15 = .ok (.ireturn, 1) := by decide +kernel
theorem dc_88_16 : decode prog_9_method_10_code 16 = .ok (.aload_n 0, 1) := by decide +kernel
theorem dc_88_17 : decode prog_9_method_10_code 17 = .ok (.invokevirtual 54, 3) := by decide +kernel
theorem dc_88_20 : decode prog_9_method_10_code 20 = .ok (.aload_n 0, 1) := by decide +kernel
theorem dc_88_21 : decode prog_9_method_10_code 21 = .ok (.getfield 7, 3) := by decide +kernel
theorem dc_88_24 : decode prog_9_method_10_code 24 = .ok (.iconst 1, 1) := by decide +kernel
theorem dc_88_25 : decode prog_9_method_10_code 25 = .ok (.dup2, 1) := by decide +kernel
theorem dc_88_26 : decode prog_9_method_10_code 26 = .ok (.iaload, 1) := by decide +kernel
theorem dc_88_27 : decode prog_9_method_10_code 27 = .ok (.iconst 1, 1) := by decide +kernel
theorem dc_88_28 : decode prog_9_method_10_code 28 = .ok (.isub, 1) := by decide +kernel
theorem dc_88_29 : decode prog_9_method_10_code 29 = .ok (.iastore, 1) := by decide +kernel
theorem dc_88_30 : decode prog_9_method_10_code 30 = .ok (.iconst 2, 1) := by decide +kernel
theorem dc_88_31 : decode prog_9_method_10_code 31 = .ok (.iload_n 1, 1) := by decide +kernel
theorem dc_88_32 : decode prog_9_method_10_code 32 = .ok (.imul, 1) := by decide +kernel
theorem dc_88_33 : decode prog_9_method_10_code 33 = .ok (.istore_n 2, 1) := by decide +kernel
theorem dc_88_34 : decode prog_9_method_10_code 34 = .ok (.iload_n 2, 1) := by decide +kernel
theorem dc_88_35 : decode prog_9_method_10_code 35 = .ok (.iconst 2, 1) := by decide +kernel
theorem dc_88_36 : decode prog_9_method_10_code 36 = .ok (.aload_n 0, 1) := by decide +kernel
theorem dc_88_37 : decode prog_9_method_10_code 37 = .ok (.getfield 7, 3) := by decide +kernel
theorem dc_88_40 : decode prog_9_method_10_code 40 = .ok (.iconst 1, 1) := by decide +kernel
theorem dc_88_41 : decode prog_9_method_10_code 41 = .ok (.iaload, 1) := by decide +kernel
theorem dc_88_42 : decode prog_9_method_10_code 42 = .ok (.imul, 1) := by decide +kernel
theorem dc_88_43 : decode prog_9_method_10_code 43 = .ok (.if_icmp .ge 29, 3) := by decide +kernel
theorem dc_88_46 : decode prog_9_method_10_code 46 = .ok (.aload_n 0, 1) := by decide +kernel
theorem dc_88_47 : decode prog_9_method_10_code 47 = .ok (.getfield 7, 3) := by decide +kernel
theorem dc_88_50 : decode prog_9_method_10_code 50 = .ok (.bipush 64, 2) := by decide +kernel
theorem dc_88_52 : decode prog_9_method_10_code 52 = .ok (.iload_n 2, 1) := by decide +kernel
theorem dc_88_53 : decode prog_9_method_10_code 53 = .ok (.iadd, 1) := by decide +kernel
theorem dc_88_54 : decode prog_9_method_10_code 54 = .ok (.aload_n 0, 1) := by decide +kernel
theorem dc_88_55 : decode prog_9_method_10_code 55 = .ok (.getfield 7, 3) := by decide +kernel
theorem dc_88_58 : decode prog_9_method_10_code 58 = .ok (.bipush 64, 2) := by decide +kernel
theorem dc_88_60 : decode prog_9_method_10_code 60 = .ok (.iload_n 2, 1) := by decide +kernel
theorem dc_88_61 : decode prog_9_method_10_code 61 = .ok (.iadd, 1) := by decide +kernel
theorem dc_88_62 : decode prog_9_method_10_code 62 = .ok (.iconst 2, 1) := by decide +kernel
theorem dc_88_63 : decode prog_9_method_10_code 63 = .ok (.iadd, 1) := by decide +kernel
theorem dc_88_64 : decode prog_9_method_10_code 64 = .ok (.iaload, 1) := by decide +kernel
theorem dc_88_65 : decode prog_9_method_10_code 65 = .ok (.iastore, 1) := by decide +kernel
theorem dc_88_66 : decode prog_9_method_10_code 66 = .ok (.iinc 2 1, 3) := by decide +kernel
theorem dc_88_69 : decode prog_9_method_10_code 69 = .ok (.goto (-35), 3) := by decide +kernel
theorem dc_88_72 : decode prog_9_method_10_code 72 = .ok (.aload_n 0, 1) := by decide +kernel
theorem dc_88_73 : decode prog_9_method_10_code 73 = .ok (.getfield 7, 3) := by decide +kernel
theorem dc_88_76 : decode prog_9_method_10_code 76 = .ok (.bipush 64, 2) := by decide +kernel
theorem dc_88_78 : decode prog_9_method_10_code 78 = .ok (.iconst 2, 1) := by decide +kernel
theorem dc_88_79 : decode prog_9_method_10_code 79 = .ok (.aload_n 0, 1) := by decide +kernel
theorem dc_88_80 : decode prog_9_method_10_code 80 = .ok (.getfield 7, 3) := by decide +kernel
theorem dc_88_83 : decode prog_9_method_10_code 83 = .ok (.iconst 1, 1) := by decide +kernel
theorem dc_88_84 : decode prog_9_method_10_code 84 = .ok (.iaload, 1) := by decide +kernel
theorem dc_88_85 : decode prog_9_method_10_code 85 = .ok (.imul, 1) := by decide +kernel
theorem dc_88_86 : decode prog_9_method_10_code 86 = .ok (.iadd, 1) := by decide +kernel
theorem dc_88_87 : decode prog_9_method_10_code 87 = .ok (.iconst 0, 1) := by decide +kernel
theorem dc_88_88 : decode prog_9_method_10_code 88 = .ok (.iastore, 1) := by decide +kernel
theorem dc_88_89 : decode prog_9_method_10_code 89 = .ok (.aload_n 0, 1) := by decide +kernel
theorem dc_88_90 : decode prog_9_method_10_code 90 = .ok (.getfield 7, 3) := by decide +kernel
theorem dc_88_93 : decode prog_9_method_10_code 93 = .ok (.bipush 64, 2) := by decide +kernel
theorem dc_88_95 : decode prog_9_method_10_code 95 = .ok (.iconst 2, 1) := by decide +kernel
theorem dc_88_96 : decode prog_9_method_10_code 96 = .ok (.aload_n 0, 1) := by decide +kernel
theorem dc_88_97 : decode prog_9_method_10_code 97 = .ok (.getfield 7, 3) := by decide +kernel
theorem dc_88_100 : decode prog_9_method_10_code 100 = .ok (.iconst 1, 1) := by decide +kernel
theorem dc_88_101 : decode prog_9_method_10_code 101 = .ok (.iaload, 1) := by decide +kernel
theorem dc_88_102 : decode prog_9_method_10_code 102 = .ok (.imul, 1) := by decide +kernel
theorem dc_88_103 : decode prog_9_method_10_code 103 = .ok (.iadd, 1) := by decide +kernel
theorem dc_88_104 : decode prog_9_method_10_code 104 = .ok (.iconst 1, 1) := by decide +kernel
theorem dc_88_105 : decode prog_9_method_10_code 105 = .ok (.iadd, 1) := by decide +kernel
theorem dc_88_106 : decode prog_9_method_10_code 106 = .ok (.iconst 0, 1) := by decide +kernel
theorem dc_88_107 : decode prog_9_method_10_code 107 = .ok (.iastore, 1) := by decide +kernel
theorem dc_88_108 : decode prog_9_method_10_code 108 = .ok (.aload_n 0, 1) := by decide +kernel
theorem dc_88_109 : decode prog_9_method_10_code 109 = .ok (.invokevirtual 57, 3) := by decide +kernel
theorem dc_88_112 : decode prog_9_method_10_code 112 = .ok (.aload_n 0, 1) := by decide +kernel
theorem dc_88_113 : decode prog_9_method_10_code 113 = .ok (.getfield 7, 3) := by decide +kernel
theorem dc_88_116 : decode prog_9_method_10_code 116 = .ok (.iconst 1, 1) := by decide +kernel
theorem dc_88_117 : decode prog_9_method_10_code 117 = .ok (.iaload, 1) := by decide +kernel
theorem dc_88_118 : decode prog_9_method_10_code 118 = .ok (.ireturn, 1) := by decide +kernel
theorem dc_89_0 : decode prog_9_method_11_code 0 = .ok (.aload_n 0, 1) := by decide +kernel
theorem dc_89_1 : decode prog_9_method_11_code 1 = .ok (.iload_n 1, 1) := by decide +kernel
theorem dc_89_2 : decode prog_9_method_11_code 2 = .ok (.invokevirtual 60, 3) := by decide +kernel
theorem dc_89_5 : decode prog_9_method_11_code 5 = .ok (.ifCond .eq 12, 3) := by decide +kernel
theorem dc_89_8 : decode prog_9_method_11_code 8 = .ok (.aload_n 0, 1) := by decide +kernel
theorem dc_89_9 : decode prog_9_method_11_code 9 = .ok (.getfield 19, 3) := by decide +kernel
theorem dc_89_12 : decode prog_9_method_11_code 12 = .ok (.iload_n 1, 1) := by decide +kernel
theorem dc_89_13 : decode prog_9_method_11_code 13 = .ok (.iaload, 1) := by decide +kernel
theorem dc_89_14 : decode prog_9_method_11_code 14 = .ok (.goto 4, 3) := by decide +kernel
theorem dc_89_17 : decode prog_9_method_11_code 17 = .ok (.iconst (-1), 1) := by decide +kernel
theorem dc_89_18 : decode prog_9_method_11_code 18 = .ok (.ireturn, 1) := by decide +kernel
theorem dc_90_0 : decode prog_9_method_12_code 0 = .ok (.iconst 0, 1) := by decide +kernel
theorem dc_90_1 : decode prog_9_method_12_code 1 = .ok (.istore_n 3, 1) := by decide +kernel
theorem dc_90_2 : decode prog_9_method_12_code 2 = .ok (.iconst 0, 1) := by decide +kernel
theorem dc_90_3 : decode prog_9_method_12_code 3 = .ok (.istore 4, 2) := by decide +kernel
theorem dc_90_5 : decode prog_9_method_12_code 5 = .ok (.iload 4, 2) := by decide +kernel
theorem dc_90_7 : decode prog_9_method_12_code 7 = .ok (.aload_n 0, 1) := by decide +kernel
theorem dc_90_8 : decode prog_9_method_12_code 8 = .ok (.getfield 7, 3) := by decide +kernel
theorem dc_90_11 : decode prog_9_method_12_code 11 = .ok (.iconst 0, 1) := by decide +kernel
theorem dc_90_12 : decode prog_9_method_12_code 12 = .ok (.iaload, 1) := by decide +kernel
theorem dc_90_13 : decode prog_9_method_12_code 13 = .ok (.if_icmp .ge 42, 3) := by decide +kernel
theorem dc_90_16 : decode prog_9_method_12_code 16 = .ok (.aload_n 0, 1) := by decide +kernel
theorem dc_90_17 : decode prog_9_method_12_code 17 = .ok (.getfield 19, 3) := by decide +kernel
theorem dc_90_20 : decode prog_9_method_12_code 20 = .ok (.iload 4, 2) := by decide +kernel
theorem dc_90_22 : decode prog_9_method_12_code 22 = .ok (.iaload, 1) := by decide +kernel
theorem dc_90_23 : decode prog_9_method_12_code 23 = .ok (.iload_n 1, 1) := by decide +kernel
theorem dc_90_24 : decode prog_9_method_12_code 24 = .ok (.if_icmp .ne 23, 3) := by decide +kernel
theorem dc_90_27 : decode prog_9_method_12_code 27 = .ok (.aload_n 0, 1) := by decide +kernel
theorem dc_90_28 : decode prog_9_method_12_code 28 = .ok (.getfield 7, 3) := by decide +kernel
theorem dc_90_31 : decode prog_9_method_12_code 31 = .ok (.bipush 16, 2) := by decide +kernel
theorem dc_90_33 : decode prog_9_method_12_code 33 = .ok (.iload 4, 2) := by decide +kernel
theorem dc_90_35 : decode prog_9_method_12_code 35 = .ok (.iadd, 1) := by decide +kernel
theorem dc_90_36 : decode prog_9_method_12_code 36 = .ok (.iaload, 1) := by decide +kernel
theorem dc_90_37 : decode prog_9_method_12_code 37 = .ok (.iload_n 2, 1) := by decide +kernel
theorem dc_90_38 : decode prog_9_method_12_code 38 = .ok (.if_icmp .ne 9, 3) := by decide +kernel
theorem dc_90_41 : decode prog_9_method_12_code 41 = .ok (.iload_n 3, 1) := by decide +kernel
theorem dc_90_42 : decode prog_9_method_12_code 42 = .ok (.iconst 1, 1) := by decide +kernel
theorem dc_90_43 : decode prog_9_method_12_code 43 = .ok (.iadd, 1) := by decide +kernel
theorem dc_90_44 : decode prog_9_method_12_code 44 = .ok (.goto 4, 3) := by decide +kernel
theorem dc_90_47 : decode prog_9_method_12_code 47 = .ok (.iload_n 3, 1) := by decide +kernel
theorem dc_90_48 : decode prog_9_method_12_code 48 = .ok (.istore_n 3, 1) := by decide +kernel
theorem dc_90_49 : decode prog_9_method_12_code 49 = .ok (.iinc 4 1, 3) := by decide +kernel
theorem dc_90_52 : decode prog_9_method_12_code 52 = .ok (.goto (-47), 3) := by decide +kernel
theorem dc_90_55 : decode prog_9_method_12_code 55 = .ok (.iload_n 3, 1) := by decide +kernel
theorem dc_90_56 : decode prog_9_method_12_code 56 = .ok (.ireturn, 1) := by decide +kernel
theorem dc_91_0 : decode prog_9_method_13_code 0 = .ok (.iload_n 2, 1) := by decide +kernel
theorem dc_91_1 : decode prog_9_method_13_code 1 = .ok (.ifCond .lt 8, 3) := by decide +kernel
theorem dc_91_4 : decode prog_9_method_13_code 4 = .ok (.iload_n 2, 1) := by decide +kernel
theorem dc_91_5 : decode prog_9_method_13_code 5 = .ok (.iconst 1, 1) := by decide +kernel
theorem dc_91_6 : decode prog_9_method_13_code 6 = .ok (.if_icmp .le 5, 3) := by decide +kernel
theorem dc_91_9 : decode prog_9_method_13_code 9 = .ok (.iconst (-1), 1) := by decide +kernel
theorem dc_91_10 : decode prog_9_method_13_code 10 = .ok (.ireturn, 1) := by decide +kernel
theorem dc_91_11 : decode prog_9_method_13_code 11 = .ok (.iconst 0, 1) := by decide +kernel
theorem dc_91_12 : decode prog_9_method_13_code 12 = .ok (.istore_n 3, 1) := by decide +kernel
theorem dc_91_13 : decode prog_9_method_13_code 13 = .ok (.iconst 0, 1) := by decide +kernel
theorem dc_91_14 : decode prog_9_method_13_code 14 = .ok (.istore 4, 2) := by decide +kernel
theorem dc_91_16 : decode prog_9_method_13_code 16 = .ok (.iload 4, 2) := by decide +kernel
theorem dc_91_18 : decode prog_9_method_13_code 18 = .ok (.aload_n 0, 1) := by decide +kernel
theorem dc_91_19 : decode prog_9_method_13_code 19 = .ok (.getfield 7, 3) := by decide +kernel
theorem dc_91_22 : decode prog_9_method_13_code 22 = .ok (.iconst 0, 1) := by decide +kernel
theorem dc_91_23 : decode prog_9_method_13_code 23 = .ok (.iaload, 1) := by decide +kernel
theorem dc_91_24 : decode prog_9_method_13_code 24 = .ok (.if_icmp .ge 127, 3) := by decide +kernel
theorem dc_91_27 : decode prog_9_method_13_code 27 = .ok (.iconst 1, 1) := by decide +kernel
theorem dc_91_28 : decode prog_9_method_13_code 28 = .ok (.istore 5, 2) := by decide +kernel
theorem dc_91_30 : decode prog_9_method_13_code 30 = .ok (.iload 5, 2) := by decide +kernel
theorem dc_91_32 : decode prog_9_method_13_code 32 = .ok (.iconst 2, 1) := by decide +kernel
theorem dc_91_33 : decode prog_9_method_13_code 33 = .ok (.if_icmp .gt 112, 3) := by decide +kernel
theorem dc_91_36 : decode prog_9_method_13_code 36 = .ok (.aload_n 0, 1) := by decide +kernel
theorem dc_91_37 : decode prog_9_method_13_code 37 = .ok (.iload 4, 2) := by decide +kernel
theorem dc_91_39 : decode prog_9_method_13_code 39 = .ok (.iconst 1, 1) := by decide +kernel
theorem dc_91_40 : decode prog_9_method_13_code 40 = .ok (.invokevirtual 64, 3) := by decide +kernel
theorem dc_91_43 : decode prog_9_method_13_code 43 = .ok (.iconst 1, 1) := by decide +kernel
theorem dc_91_44 : decode prog_9_method_13_code 44 = .ok (.if_icmp .le 7, 3) := by decide +kernel
theorem dc_91_47 : decode prog_9_method_13_code 47 = .ok (.iconst 1, 1) := by decide +kernel
theorem dc_91_48 : decode prog_9_method_13_code 48 = .ok (.goto 4, 3) := by decide +kernel
theorem dc_91_51 : decode prog_9_method_13_code 51 = .ok (.iconst 0, 1) := by decide +kernel
theorem dc_91_52 : decode prog_9_method_13_code 52 = .ok (.istore 6, 2) := by decide +kernel
theorem dc_91_54 : decode prog_9_method_13_code 54 = .ok (.aload_n 0, 1) := by decide +kernel
theorem dc_91_55 : decode prog_9_method_13_code 55 = .ok (.iload 4, 2) := by decide +kernel
theorem dc_91_57 : decode prog_9_method_13_code 57 = .ok (.iconst 0, 1) := by decide +kernel
theorem dc_91_58 : decode prog_9_method_13_code 58 = .ok (.invokevirtual 64, 3) := by decide +kernel
theorem dc_91_61 : decode prog_9_method_13_code 61 = .ok (.ifCond .le 25, 3) := by decide +kernel
theorem dc_91_64 : decode prog_9_method_13_code 64 = .ok (.aload_n 0, 1) := by decide +kernel
theorem dc_91_65 : decode prog_9_method_13_code 65 = .ok (.iload 4, 2) := by decide +kernel
theorem dc_91_67 : decode prog_9_method_13_code 67 = .ok (.iconst 1, 1) := by decide +kernel
theorem dc_91_68 : decode prog_9_method_13_code 68 = .ok (.invokevirtual 64, 3) := by decide +kernel
theorem dc_91_71 : decode prog_9_method_13_code 71 = .ok (.aload_n 0, 1) := by decide +kernel
theorem dc_91_72 : decode prog_9_method_13_code 72 = .ok (.iload 4, 2) := by decide +kernel
theorem dc_91_74 : decode prog_9_method_13_code 74 = .ok (.iconst 3, 1) := by decide +kernel
theorem dc_91_75 : decode prog_9_method_13_code 75 = .ok (.invokevirtual 64, 3) := by decide +kernel
theorem dc_91_78 : decode prog_9_method_13_code 78 = .ok (.iadd, 1) := by decide +kernel
theorem dc_91_79 : decode prog_9_method_13_code 79 = .ok (.ifCond .ne 7, 3) := by decide +kernel
theorem dc_91_82 : decode prog_9_method_13_code 82 = .ok (.iconst 1, 1) := by decide +kernel
theorem dc_91_83 : decode prog_9_method_13_code 83 = .ok (.goto 4, 3) := by decide +kernel
theorem dc_91_86 : decode prog_9_method_13_code 86 = .ok (.iconst 0, 1) := by decide +kernel
theorem dc_91_87 : decode prog_9_method_13_code 87 = .ok (.istore 7, 2) := by decide +kernel
theorem dc_91_89 : decode prog_9_method_13_code 89 = .ok (.iload 5, 2) := by decide +kernel
theorem dc_91_91 : decode prog_9_method_13_code 91 = .ok (.iconst 1, 1) := by decide +kernel
theorem dc_91_92 : decode prog_9_method_13_code 92 = .ok (.if_icmp .ne 8, 3) := by decide +kernel
theorem dc_91_95 : decode prog_9_method_13_code 95 = .ok (.iload 6, 2) := by decide +kernel
theorem dc_91_97 : decode prog_9_method_13_code 97 = .ok (.goto 5, 3) := by decide +kernel
theorem dc_91_100 : decode prog_9_method_13_code 100 = .ok (.iload 7, 2) := by decide +kernel
theorem dc_91_102 : decode prog_9_method_13_code 102 = .ok (.istore 8, 2) := by decide +kernel
theorem dc_91_104 : decode prog_9_method_13_code 104 = .ok (.iload 8, 2) := by decide +kernel
theorem dc_91_106 : decode prog_9_method_13_code 106 = .ok (.ifCond .eq 20, 3) := by decide +kernel
theorem dc_91_109 : decode prog_9_method_13_code 109 = .ok (.iload_n 3, 1) := by decide +kernel
theorem dc_91_110 : decode prog_9_method_13_code 110 = .ok (.iload_n 1, 1) := by decide +kernel
theorem dc_91_111 : decode prog_9_method_13_code 111 = .ok (.if_icmp .ne 15, 3) := by decide +kernel
theorem dc_91_114 : decode prog_9_method_13_code 114 = .ok (.iload_n 2, 1) := by decide +kernel
theorem dc_91_115 : decode prog_9_method_13_code 115 = .ok (.ifCond .ne 8, 3) := by decide +kernel
theorem dc_91_118 : decode prog_9_method_13_code 118 = .ok (.iload 5, 2) := by decide +kernel
theorem dc_91_120 : decode prog_9_method_13_code 120 = .ok (.goto 5, 3) := by decide +kernel
theorem dc_91_123 : decode prog_9_method_13_code 123 = .ok (.iload 4, 2) := by decide +kernel
theorem dc_91_125 : decode prog_9_method_13_code 125 = .ok (.ireturn, 1) := by decide +kernel
theorem dc_91_126 : decode prog_9_method_13_code 126 = .ok (.iload 8, 2) := by decide +kernel
theorem dc_91_128 : decode prog_9_method_13_code 128 = .ok (.ifCond .eq 9, 3) := by decide +kernel
theorem dc_91_131 : decode prog_9_method_13_code 131 = .ok (.iload_n 3, 1) := by decide +kernel
theorem dc_91_132 : decode prog_9_method_13_code 132 = .ok (.iconst 1, 1) := by decide +kernel
theorem dc_91_133 : decode prog_9_method_13_code 133 = .ok (.iadd, 1) := by decide +kernel
theorem dc_91_134 : decode prog_9_method_13_code 134 = .ok (.goto 4, 3) := by decide +kernel
theorem dc_91_137 : decode prog_9_method_13_code 137 = .ok (.iload_n 3, 1) := by decide +kernel
theorem dc_91_138 : decode prog_9_method_13_code 138 = .ok (.istore_n 3, 1) := by decide +kernel
theorem dc_91_139 : decode prog_9_method_13_code 139 = .ok (.iinc 5 1, 3) := by decide +kernel
theorem dc_91_142 : decode prog_9_method_13_code 142 = .ok (.goto (-112), 3) := by decide +kernel
theorem dc_91_145 : decode prog_9_method_13_code 145 = .ok (.iinc 4 1, 3) := by decide +kernel
theorem dc_91_148 : decode prog_9_method_13_code 148 = .ok (.goto (-132), 3) := by decide +kernel
theorem dc_91_151 : decode prog_9_method_13_code 151 = .ok (.iconst (-1), 1) := by decide +kernel
theorem dc_91_152 : decode prog_9_method_13_code 152 = .ok (.ireturn, 1) := by decide +kernel
theorem dc_92_0 : decode prog_9_method_14_code 0 = .ok (.iload_n 1, 1) := by decide +kernel
theorem dc_92_1 : decode prog_9_method_14_code 1 = .ok (.bipush 12, 2) := by decide +kernel
theorem dc_92_3 : decode prog_9_method_14_code 3 = .ok (.irem, 1) := by decide +kernel
theorem dc_92_4 : decode prog_9_method_14_code 4 = .ok (.istore 4, 2) := by decide +kernel
theorem dc_92_6 : decode prog_9_method_14_code 6 = .ok (.iload_n 1, 1) := by decide +kernel
theorem dc_92_7 : decode prog_9_method_14_code 7 = .ok (.bipush 120, 2) := by decide +kernel
theorem dc_92_9 : decode prog_9_method_14_code 9 = .ok (.irem, 1) := by decide +kernel
theorem dc_92_10 : decode prog_9_method_14_code 10 = .ok (.bipush 12, 2) := by decide +kernel
theorem dc_92_12 : decode prog_9_method_14_code 12 = .ok (.idiv, 1) := by decide +kernel
theorem dc_92_13 : decode prog_9_method_14_code 13 = .ok (.istore 5, 2) := by decide +kernel
theorem dc_92_15 : decode prog_9_method_14_code 15 = .ok (.iconst 0, 1) := by decide +kernel
theorem dc_92_16 : decode prog_9_method_14_code 16 = .ok (.istore 6, 2) := by decide +kernel
theorem dc_92_18 : decode prog_9_method_14_code 18 = .ok (.aload_n 0, 1) := by decide +kernel
theorem dc_92_19 : decode prog_9_method_14_code 19 = .ok (.getfield 7, 3) := by decide +kernel
theorem dc_92_22 : decode prog_9_method_14_code 22 = .ok (.iconst 2, 1) := by decide +kernel
theorem dc_92_23 : decode prog_9_method_14_code 23 = .ok (.iaload, 1) := by decide +kernel
theorem dc_92_24 : decode prog_9_method_14_code 24 = .ok (.ineg, 1) := by decide +kernel
theorem dc_92_25 : decode prog_9_method_14_code 25 = .ok (.istore 7, 2) := by decide +kernel
theorem dc_92_27 : decode prog_9_method_14_code 27 = .ok (.iload 7, 2) := by decide +kernel
theorem dc_92_29 : decode prog_9_method_14_code 29 = .ok (.aload_n 0, 1) := by decide +kernel
theorem dc_92_30 : decode prog_9_method_14_code 30 = .ok (.getfield 7, 3) := by decide +kernel
theorem dc_92_33 : decode prog_9_method_14_code 33 = .ok (.iconst 2, 1) := by decide +kernel
theorem dc_92_34 : decode prog_9_method_14_code 34 = .ok (.iaload, 1) := by decide +kernel
theorem dc_92_35 : decode prog_9_method_14_code 35 = .ok (.if_icmp .gt 136, 3) := by decide +kernel
theorem dc_92_38 : decode prog_9_method_14_code 38 = .ok (.aload_n 0, 1) := by decide +kernel
theorem dc_92_39 : decode prog_9_method_14_code 39 = .ok (.getfield 7, 3) := by decide +kernel
theorem dc_92_42 : decode prog_9_method_14_code 42 = .ok (.iconst 2, 1) := by decide +kernel
theorem dc_92_43 : decode prog_9_method_14_code 43 = .ok (.iaload, 1) := by decide +kernel
theorem dc_92_44 : decode prog_9_method_14_code 44 = .ok (.ineg, 1) := by decide +kernel
theorem dc_92_45 : decode prog_9_method_14_code 45 = .ok (.istore 8, 2) := by decide +kernel
theorem dc_92_47 : decode prog_9_method_14_code 47 = .ok (.iload 8, 2) := by decide +kernel
theorem dc_92_49 : decode prog_9_method_14_code 49 = .ok (.aload_n 0, 1) := by decide +kernel
theorem dc_92_50 : decode prog_9_method_14_code 50 = .ok (.getfield 7, 3) := by decide +kernel
theorem dc_92_53 : decode prog_9_method_14_code 53 = .ok (.iconst 2, 1) := by decide +kernel
theorem dc_92_54 : decode prog_9_method_14_code 54 = .ok (.iaload, 1) := by decide +kernel
theorem dc_92_55 : decode prog_9_method_14_code 55 = .ok (.if_icmp .gt 110, 3) := by decide +kernel
theorem dc_92_58 : decode prog_9_method_14_code 58 = .ok (.iload 4, 2) := by decide +kernel
theorem dc_92_60 : decode prog_9_method_14_code 60 = .ok (.iload 8, 2) := by decide +kernel
theorem dc_92_62 : decode prog_9_method_14_code 62 = .ok (.iadd, 1) := by decide +kernel
theorem dc_92_63 : decode prog_9_method_14_code 63 = .ok (.ifCond .lt 35, 3) := by decide +kernel
theorem dc_92_66 : decode prog_9_method_14_code 66 = .ok (.iload 4, 2) := by decide +kernel
theorem dc_92_68 : decode prog_9_method_14_code 68 = .ok (.iload 8, 2) := by decide +kernel
theorem dc_92_70 : decode prog_9_method_14_code 70 = .ok (.iadd, 1) := by decide +kernel
theorem dc_92_71 : decode prog_9_method_14_code 71 = .ok (.bipush 12, 2) := by decide +kernel
theorem dc_92_73 : decode prog_9_method_14_code 73 = .ok (.if_icmp .ge 25, 3) := by decide +kernel
theorem dc_92_76 : decode prog_9_method_14_code 76 = .ok (.iload 5, 2) := by decide +kernel
theorem dc_92_78 : decode prog_9_method_14_code 78 = .ok (.iload 7, 2) := by decide +kernel
theorem dc_92_80 : decode prog_9_method_14_code 80 = .ok (.iadd, 1) := by decide +kernel
theorem dc_92_81 : decode prog_9_method_14_code 81 = .ok (.ifCond .lt 17, 3) := by decide +kernel
theorem dc_92_84 : decode prog_9_method_14_code 84 = .ok (.iload 5, 2) := by decide +kernel
theorem dc_92_86 : decode prog_9_method_14_code 86 = .ok (.iload 7, 2) := by decide +kernel
theorem dc_92_88 : decode prog_9_method_14_code 88 = .ok (.iadd, 1) := by decide +kernel
theorem dc_92_89 : decode prog_9_method_14_code 89 = .ok (.bipush 10, 2) := by decide +kernel
theorem dc_92_91 : decode prog_9_method_14_code 91 = .ok (.if_icmp .ge 7, 3) := by decide +kernel
theorem dc_92_94 : decode prog_9_method_14_code 94 = .ok (.iconst 1, 1) := by decide +kernel
theorem dc_92_95 : decode prog_9_method_14_code 95 = .ok (.goto 4, 3) := by decide +kernel
theorem dc_92_98 : decode prog_9_method_14_code 98 = .ok (.iconst 0, 1) := by decide +kernel
theorem dc_92_99 : decode prog_9_method_14_code 99 = .ok (.istore 9, 2) := by decide +kernel
theorem dc_92_101 : decode prog_9_method_14_code 101 = .ok (.iload 9, 2) := by decide +kernel
theorem dc_92_103 : decode prog_9_method_14_code 103 = .ok (.ifCond .eq 21, 3) := by decide +kernel
theorem dc_92_106 : decode prog_9_method_14_code 106 = .ok (.aload_n 0, 1) := by decide +kernel
theorem dc_92_107 : decode prog_9_method_14_code 107 = .ok (.getfield 25, 3) := by decide +kernel
theorem dc_92_110 : decode prog_9_method_14_code 110 = .ok (.iload_n 1, 1) := by decide +kernel
theorem dc_92_111 : decode prog_9_method_14_code 111 = .ok (.bipush 12, 2) := by decide +kernel
theorem dc_92_113 : decode prog_9_method_14_code 113 = .ok (.iload 7, 2) := by decide +kernel
theorem dc_92_115 : decode prog_9_method_14_code 115 = .ok (.imul, 1) := by decide +kernel
theorem dc_92_116 : decode prog_9_method_14_code 116 = .ok (.iadd, 1) := by decide +kernel
theorem dc_92_117 : decode prog_9_method_14_code 117 = .ok (.iload 8, 2) := by decide +kernel
theorem dc_92_119 : decode prog_9_method_14_code 119 = .ok (.iadd, 1) := by decide +kernel
theorem dc_92_120 : decode prog_9_method_14_code 120 = .ok (.iaload, 1) := by decide +kernel
theorem dc_92_121 : decode prog_9_method_14_code 121 = .ok (.goto 4, 3) := by decide +kernel
theorem dc_92_124 : decode prog_9_method_14_code 124 = .ok (.iconst (-1), 1) := by decide +kernel
theorem dc_92_125 : decode prog_9_method_14_code 125 = .ok (.istore 10, 2) := by decide +kernel
theorem dc_92_127 : decode prog_9_method_14_code 127 = .ok (.iload 6, 2) := by decide +kernel
theorem dc_92_129 : decode prog_9_method_14_code 129 = .ok (.ifCond .ne 23, 3) := by decide +kernel
theorem dc_92_132 : decode prog_9_method_14_code 132 = .ok (.iload 10, 2) := by decide +kernel
theorem dc_92_134 : decode prog_9_method_14_code 134 = .ok (.ifCond .lt 22, 3) := by decide +kernel
theorem dc_92_137 : decode prog_9_method_14_code 137 = .ok (.iload 10, 2) := by decide +kernel
theorem dc_92_139 : decode prog_9_method_14_code 139 = .ok (.iload_n 2, 1) := by decide +kernel
theorem dc_92_140 : decode prog_9_method_14_code 140 = .ok (.if_icmp .ne 7, 3) := by decide +kernel
theorem dc_92_143 : decode prog_9_method_14_code 143 = .ok (.iconst 1, 1) := by decide +kernel
theorem dc_92_144 : decode prog_9_method_14_code 144 = .ok (.goto 4, 3) := by decide +kernel
theorem dc_92_147 : decode prog_9_method_14_code 147 = .ok (.iconst 0, 1) := by decide +kernel
theorem dc_92_148 : decode prog_9_method_14_code 148 = .ok (.iload_n 3, 1) := by decide +kernel
theorem dc_92_149 : decode prog_9_method_14_code 149 = .ok (.if_icmp .ne 7, 3) := by decide +kernel
theorem dc_92_152 : decode prog_9_method_14_code 152 = .ok (.iconst 1, 1) := by decide +kernel
theorem dc_92_153 : decode prog_9_method_14_code 153 = .ok (.goto 4, 3) := by decide +kernel
theorem dc_92_156 : decode prog_9_method_14_code 156 = .ok (.iconst 0, 1) := by decide +kernel
theorem dc_92_157 : decode prog_9_method_14_code 157 = .ok (.istore 6, 2) := by decide +kernel
theorem dc_92_159 : decode prog_9_method_14_code 159 = .ok (.iinc 8 1, 3) := by decide +kernel
theorem dc_92_162 : decode prog_9_method_14_code 162 = .ok (.goto (-115), 3) := by decide +kernel
theorem dc_92_165 : decode prog_9_method_14_code 165 = .ok (.iinc 7 1, 3) := by decide +kernel
theorem dc_92_168 : decode prog_9_method_14_code 168 = .ok (.goto (-141), 3) := by decide +kernel
theorem dc_92_171 : decode prog_9_method_14_code 171 = .ok (.iload 6, 2) := by decide +kernel
theorem dc_92_173 : decode prog_9_method_14_code 173 = .ok (.ireturn, 1) := by decide +kernel
theorem dc_93_0 : decode prog_9_method_15_code 0 = .ok (.aload_n 0, 1) := by decide +kernel
theorem dc_93_1 : decode prog_9_method_15_code 1 = .ok (.getfield 7, 3) := by decide +kernel
theorem dc_93_4 : decode prog_9_method_15_code 4 = .ok (.bipush 112, 2) := by decide +kernel
theorem dc_93_6 : decode prog_9_method_15_code 6 = .ok (.iload_n 1, 1) := by decide +kernel
theorem dc_93_7 : decode prog_9_method_15_code 7 = .ok (.iadd, 1) := by decide +kernel
theorem dc_93_8 : decode prog_9_method_15_code 8 = .ok (.iaload, 1) := by decide +kernel
theorem dc_93_9 : decode prog_9_method_15_code 9 = .ok (.ifCond .ne 17, 3) := by decide +kernel
theorem dc_93_12 : decode prog_9_method_15_code 12 = .ok (.aload_n 0, 1) := by decide +kernel
theorem dc_93_13 : decode prog_9_method_15_code 13 = .ok (.iload_n 1, 1) := by decide +kernel
theorem dc_93_14 : decode prog_9_method_15_code 14 = .ok (.iload_n 2, 1) := by decide +kernel
theorem dc_93_15 : decode prog_9_method_15_code 15 = .ok (.iconst 0, 1) := by decide +kernel
theorem dc_93_16 : decode prog_9_method_15_code 16 = .ok (.invokevirtual 68, 3) := by decide +kernel
theorem dc_93_19 : decode prog_9_method_15_code 19 = .ok (.ifCond .ne 7, 3) := by decide +kernel
theorem dc_93_22 : decode prog_9_method_15_code 22 = .ok (.iconst 1, 1) := by decide +kernel
theorem dc_93_23 : decode prog_9_method_15_code 23 = .ok (.goto 4, 3) := by decide +kernel
theorem dc_93_26 : decode prog_9_method_15_code 26 = .ok (.iconst 0, 1) := by decide +kernel
theorem dc_93_27 : decode prog_9_method_15_code 27 = .ok (.ireturn, 1) := by decide +kernel
theorem dc_94_0 : decode prog_9_method_16_code 0 = .ok (.aload_n 0, 1) := by decide +kernel
theorem dc_94_1 : decode prog_9_method_16_code 1 = .ok (.iload_n 1, 1) := by decide +kernel
theorem dc_94_2 : decode prog_9_method_16_code 2 = .ok (.invokevirtual 60, 3) := by decide +kernel
theorem dc_94_5 : decode prog_9_method_16_code 5 = .ok (.ifCond .eq 47, 3) := by decide +kernel
theorem dc_94_8 : decode prog_9_method_16_code 8 = .ok (.iload_n 2, 1) := by decide +kernel
theorem dc_94_9 : decode prog_9_method_16_code 9 = .ok (.ifCond .lt 43, 3) := by decide +kernel
theorem dc_94_12 : decode prog_9_method_16_code 12 = .ok (.iload_n 2, 1) := by decide +kernel
theorem dc_94_13 : decode prog_9_method_16_code 13 = .ok (.bipush 11, 2) := by decide +kernel
theorem dc_94_15 : decode prog_9_method_16_code 15 = .ok (.if_icmp .gt 37, 3) := by decide +kernel
theorem dc_94_18 : decode prog_9_method_16_code 18 = .ok (.iload_n 3, 1) := by decide +kernel
theorem dc_94_19 : decode prog_9_method_16_code 19 = .ok (.ifCond .lt 33, 3) := by decide +kernel
theorem dc_94_22 : decode prog_9_method_16_code 22 = .ok (.iload_n 3, 1) := by decide +kernel
theorem dc_94_23 : decode prog_9_method_16_code 23 = .ok (.bipush 9, 2) := by decide +kernel
theorem dc_94_25 : decode prog_9_method_16_code 25 = .ok (.if_icmp .gt 27, 3) := by decide +kernel
theorem dc_94_28 : decode prog_9_method_16_code 28 = .ok (.iload 4, 2) := by decide +kernel
theorem dc_94_30 : decode prog_9_method_16_code 30 = .ok (.iconst 1, 1) := by decide +kernel
theorem dc_94_31 : decode prog_9_method_16_code 31 = .ok (.if_icmp .lt 21, 3) := by decide +kernel
theorem dc_94_34 : decode prog_9_method_16_code 34 = .ok (.iload 4, 2) := by decide +kernel
theorem dc_94_36 : decode prog_9_method_16_code 36 = .ok (.iconst 3, 1) := by decide +kernel
theorem dc_94_37 : decode prog_9_method_16_code 37 = .ok (.if_icmp .gt 15, 3) := by decide +kernel
theorem dc_94_40 : decode prog_9_method_16_code 40 = .ok (.aload_n 0, 1) := by decide +kernel
theorem dc_94_41 : decode prog_9_method_16_code 41 = .ok (.getfield 7, 3) := by decide +kernel
theorem dc_94_44 : decode prog_9_method_16_code 44 = .ok (.bipush 32, 2) := by decide +kernel
theorem dc_94_46 : decode prog_9_method_16_code 46 = .ok (.iload_n 1, 1) := by decide +kernel
theorem dc_94_47 : decode prog_9_method_16_code 47 = .ok (.iadd, 1) := by decide +kernel
theorem dc_94_48 : decode prog_9_method_16_code 48 = .ok (.iaload, 1) := by decide +kernel
theorem dc_94_49 : decode prog_9_method_16_code 49 = .ok (.ifCond .le 5, 3) := by decide +kernel
theorem dc_94_52 : decode prog_9_method_16_code 52 = .ok (.iconst 0, 1) := by decide +kernel
theorem dc_94_53 : decode prog_9_method_16_code 53 = .ok (.ireturn, 1) := by decide +kernel
theorem dc_94_54 : decode prog_9_method_16_code 54 = .ok (.iconst 1, 1) := by decide +kernel
theorem dc_94_55 : decode prog_9_method_16_code 55 = .ok (.istore 5, 2) := by decide +kernel
theorem dc_94_57 : decode prog_9_method_16_code 57 = .ok (.iconst 0, 1) := by decide +kernel
theorem dc_94_58 : decode prog_9_method_16_code 58 = .ok (.istore 6, 2) := by decide +kernel
theorem dc_94_60 : decode prog_9_method_16_code 60 = .ok (.iload 6, 2) := by decide +kernel
theorem dc_94_62 : decode prog_9_method_16_code 62 = .ok (.iconst 2, 1) := by decide +kernel
theorem dc_94_63 : decode prog_9_method_16_code 63 = .ok (.if_icmp .ge 84, 3) := by decide +kernel
theorem dc_94_66 : decode prog_9_method_16_code 66 = .ok (.bipush 120, 2) := by decide +kernel
theorem dc_94_68 : decode prog_9_method_16_code 68 = .ok (.iload 6, 2) := by decide +kernel
theorem dc_94_70 : decode prog_9_method_16_code 70 = .ok (.imul, 1) := by decide +kernel
theorem dc_94_71 : decode prog_9_method_16_code 71 = .ok (.bipush 12, 2) := by decide +kernel
theorem dc_94_73 : decode prog_9_method_16_code 73 = .ok (.iload_n 3, 1) := by decide +kernel
theorem dc_94_74 : decode prog_9_method_16_code 74 = .ok (.imul, 1) := by decide +kernel
theorem dc_94_75 : decode prog_9_method_16_code 75 = .ok (.iadd, 1) := by decide +kernel
theorem dc_94_76 : decode prog_9_method_16_code 76 = .ok (.iload_n 2, 1) := by decide +kernel
theorem dc_94_77 : decode prog_9_method_16_code 77 = .ok (.iadd, 1) := by decide +kernel
theorem dc_94_78 : decode prog_9_method_16_code 78 = .ok (.istore 7, 2) := by decide +kernel
theorem dc_94_80 : decode prog_9_method_16_code 80 = .ok (.iload 5, 2) := by decide +kernel
theorem dc_94_82 : decode prog_9_method_16_code 82 = .ok (.ifCond .eq 56, 3) := by decide +kernel
theorem dc_94_85 : decode prog_9_method_16_code 85 = .ok (.iload 4, 2) := by decide +kernel
theorem dc_94_87 : decode prog_9_method_16_code 87 = .ok (.iload 6, 2) := by decide +kernel
theorem dc_94_89 : decode prog_9_method_16_code 89 = .ok (.ishr, 1) := by decide +kernel
theorem dc_94_90 : decode prog_9_method_16_code 90 = .ok (.iconst 1, 1) := by decide +kernel
theorem dc_94_91 : decode prog_9_method_16_code 91 = .ok (.iand, 1) := by decide +kernel
theorem dc_94_92 : decode prog_9_method_16_code 92 = .ok (.ifCond .eq 42, 3) := by decide +kernel
theorem dc_94_95 : decode prog_9_method_16_code 95 = .ok (.aload_n 0, 1) := by decide +kernel
theorem dc_94_96 : decode prog_9_method_16_code 96 = .ok (.getfield 22, 3) := by decide +kernel
theorem dc_94_99 : decode prog_9_method_16_code 99 = .ok (.iload 7, 2) := by decide +kernel
theorem dc_94_101 : decode prog_9_method_16_code 101 = .ok (.iaload, 1) := by decide +kernel
theorem dc_94_102 : decode prog_9_method_16_code 102 = .ok (.ifCond .ge 36, 3) := by decide +kernel
theorem dc_94_105 : decode prog_9_method_16_code 105 = .ok (.aload_n 0, 1) := by decide +kernel
theorem dc_94_106 : decode prog_9_method_16_code 106 = .ok (.getfield 7, 3) := by decide +kernel
theorem dc_94_109 : decode prog_9_method_16_code 109 = .ok (.sipush 352, 3) := by decide +kernel
theorem dc_94_112 : decode prog_9_method_16_code 112 = .ok (.iload 7, 2) := by decide +kernel
theorem dc_94_114 : decode prog_9_method_16_code 114 = .ok (.iadd, 1) := by decide +kernel
theorem dc_94_115 : decode prog_9_method_16_code 115 = .ok (.iaload, 1) := by decide +kernel
theorem dc_94_116 : decode prog_9_method_16_code 116 = .ok (.ifCond .ne 22, 3) := by decide +kernel
theorem dc_94_119 : decode prog_9_method_16_code 119 = .ok (.aload_n 0, 1) := by decide +kernel
theorem dc_94_120 : decode prog_9_method_16_code 120 = .ok (.iload 7, 2) := by decide +kernel
theorem dc_94_122 : decode prog_9_method_16_code 122 = .ok (.aload_n 0, 1) := by decide +kernel
theorem dc_94_123 : decode prog_9_method_16_code 123 = .ok (.getfield 19, 3) := by decide +kernel
theorem dc_94_126 : decode prog_9_method_16_code 126 = .ok (.iload_n 1, 1) := by decide +kernel
theorem dc_94_127 : decode prog_9_method_16_code 127 = .ok (.iaload, 1) := by decide +kernel
theorem dc_94_128 : decode prog_9_method_16_code 128 = .ok (.invokevirtual 72, 3) := by decide +kernel
theorem dc_94_131 : decode prog_9_method_16_code 131 = .ok (.ifCond .eq 7, 3) := by decide +kernel
theorem dc_94_134 : decode prog_9_method_16_code 134 = .ok (.iconst 1, 1) := by decide +kernel
theorem dc_94_135 : decode prog_9_method_16_code 135 = .ok (.goto 4, 3) := by decide +kernel
theorem dc_94_138 : decode prog_9_method_16_code 138 = .ok (.iconst 0, 1) := by decide +kernel
theorem dc_94_139 : decode prog_9_method_16_code 139 = .ok (.istore 5, 2) := by decide +kernel
theorem dc_94_141 : decode prog_9_method_16_code 141 = .ok (.iinc 6 1, 3) := by decide +kernel
theorem dc_94_144 : decode prog_9_method_16_code 144 = .ok (.goto (-84), 3) := by decide +kernel
theorem dc_94_147 : decode prog_9_method_16_code 147 = .ok (.iload 5, 2) := by decide +kernel
theorem dc_94_149 : decode prog_9_method_16_code 149 = .ok (.ifCond .ne 5, 3) := by decide +kernel
theorem dc_94_152 : decode prog_9_method_16_code 152 = .ok (.iconst 0, 1) := by decide +kernel
theorem dc_94_153 : decode prog_9_method_16_code 153 = .ok (.ireturn, 1) := by decide +kernel
theorem dc_94_154 : decode prog_9_method_16_code 154 = .ok (.aload_n 0, 1) := by decide +kernel
theorem dc_94_155 : decode prog_9_method_16_code 155 = .ok (.invokevirtual 54, 3) := by decide +kernel
theorem dc_94_158 : decode prog_9_method_16_code 158 = .ok (.aload_n 0, 1) := by decide +kernel
theorem dc_94_159 : decode prog_9_method_16_code 159 = .ok (.getfield 7, 3) := by decide +kernel
theorem dc_94_162 : decode prog_9_method_16_code 162 = .ok (.bipush 32, 2) := by decide +kernel
theorem dc_94_164 : decode prog_9_method_16_code 164 = .ok (.iload_n 1, 1) := by decide +kernel
theorem dc_94_165 : decode prog_9_method_16_code 165 = .ok (.iadd, 1) := by decide +kernel
theorem dc_94_166 : decode prog_9_method_16_code 166 = .ok (.bipush 120, 2) := by decide +kernel
theorem dc_94_168 : decode prog_9_method_16_code 168 = .ok (.iload 4, 2) := by decide +kernel
theorem dc_94_170 : decode prog_9_method_16_code 170 = .ok (.imul, 1) := by decide +kernel
theorem dc_94_171 : decode prog_9_method_16_code 171 = .ok (.bipush 12, 2) := by decide +kernel
theorem dc_94_173 : decode prog_9_method_16_code 173 = .ok (.iload_n 3, 1) := by decide +kernel
theorem dc_94_174 : decode prog_9_method_16_code 174 = .ok (.imul, 1) := by decide +kernel
theorem dc_94_175 : decode prog_9_method_16_code 175 = .ok (.iadd, 1) := by decide +kernel
theorem dc_94_176 : decode prog_9_method_16_code 176 = .ok (.iload_n 2, 1) := by decide +kernel
theorem dc_94_177 : decode prog_9_method_16_code 177 = .ok (.iadd, 1) := by decide +kernel
theorem dc_94_178 : decode prog_9_method_16_code 178 = .ok (.iastore, 1) := by decide +kernel
theorem dc_94_179 : decode prog_9_method_16_code 179 = .ok (.aload_n 0, 1) := by decide +kernel
theorem dc_94_180 : decode prog_9_method_16_code 180 = .ok (.invokevirtual 57, 3) := by decide +kernel
theorem dc_94_183 : decode prog_9_method_16_code 183 = .ok (.iconst 1, 1) := by decide +kernel
theorem dc_94_184 : decode prog_9_method_16_code 184 = .ok (.ireturn, 1) := by decide +kernel
theorem dc_95_0 : decode prog_9_method_17_code 0 = .ok (.aload_n 0, 1) := by decide +kernel
theorem dc_95_1 : decode prog_9_method_17_code 1 = .ok (.iload_n 1, 1) := by decide +kernel
theorem dc_95_2 : decode prog_9_method_17_code 2 = .ok (.invokevirtual 60, 3) := by decide +kernel
theorem dc_95_5 : decode prog_9_method_17_code 5 = .ok (.ifCond .eq 15, 3) := by decide +kernel
theorem dc_95_8 : decode prog_9_method_17_code 8 = .ok (.aload_n 0, 1) := by decide +kernel
theorem dc_95_9 : decode prog_9_method_17_code 9 = .ok (.getfield 7, 3) := by decide +kernel
theorem dc_95_12 : decode prog_9_method_17_code 12 = .ok (.bipush 32, 2) := by decide +kernel
theorem dc_95_14 : decode prog_9_method_17_code 14 = .ok (.iload_n 1, 1) := by decide +kernel
theorem dc_95_15 : decode prog_9_method_17_code 15 = .ok (.iadd, 1) := by decide +kernel
theorem dc_95_16 : decode prog_9_method_17_code 16 = .ok (.iaload, 1) := by decide +kernel
theorem dc_95_17 : decode prog_9_method_17_code 17 = .ok (.ifCond .ne 5, 3) := by decide +kernel
theorem dc_95_20 : decode prog_9_method_17_code 20 = .ok (.iconst 0, 1) := by decide +kernel
theorem dc_95_21 : decode prog_9_method_17_code 21 = .ok (.ireturn, 1) := by decide +kernel
theorem dc_95_22 : decode prog_9_method_17_code 22 = .ok (.aload_n 0, 1) := by decide +kernel
theorem dc_95_23 : decode prog_9_method_17_code 23 = .ok (.invokevirtual 54, 3) := by decide +kernel
theorem dc_95_26 : decode prog_9_method_17_code 26 = .ok (.aload_n 0, 1) := by decide +kernel
theorem dc_95_27 : decode prog_9_method_17_code 27 = .ok (.getfield 7, 3) := by decide +kernel
theorem dc_95_30 : decode prog_9_method_17_code 30 = .ok (.bipush 32, 2) := by decide +kernel
theorem dc_95_32 : decode prog_9_method_17_code 32 = .ok (.iload_n 1, 1) := by decide +kernel
theorem dc_95_33 : decode prog_9_method_17_code 33 = .ok (.iadd, 1) := by decide +kernel
theorem dc_95_34 : decode prog_9_method_17_code 34 = .ok (.iconst 0, 1) := by decide +kernel
theorem dc_95_35 : decode prog_9_method_17_code 35 = .ok (.iastore, 1) := by decide +kernel
theorem dc_95_36 : decode prog_9_method_17_code 36 = .ok (.aload_n 0, 1) := by decide +kernel
theorem dc_95_37 : decode prog_9_method_17_code 37 = .ok (.invokevirtual 57, 3) := by decide +kernel
theorem dc_95_40 : decode prog_9_method_17_code 40 = .ok (.iconst 1, 1) := by decide +kernel
theorem dc_95_41 : decode prog_9_method_17_code 41 = .ok (.ireturn, 1) := by decide +kernel
theorem dc_96_0 : decode prog_9_method_18_code 0 = .ok (.iload_n 1, 1) := by decide +kernel
theorem dc_96_1 : decode prog_9_method_18_code 1 = .ok (.iconst 1, 1) := by decide +kernel
theorem dc_96_2 : decode prog_9_method_18_code 2 = .ok (.if_icmp .lt 8, 3) := by decide +kernel
theorem dc_96_5 : decode prog_9_method_18_code 5 = .ok (.iload_n 1, 1) := by decide +kernel
theorem dc_96_6 : decode prog_9_method_18_code 6 = .ok (.iconst 2, 1) := by decide +kernel
theorem dc_96_7 : decode prog_9_method_18_code 7 = .ok (.if_icmp .le 5, 3) := by decide +kernel
theorem dc_96_10 : decode prog_9_method_18_code 10 = .ok (.iconst (-1), 1) := by decide +kernel
theorem dc_96_11 : decode prog_9_method_18_code 11 = .ok (.ireturn, 1) := by decide +kernel
theorem dc_96_12 : decode prog_9_method_18_code 12 = .ok (.aload_n 0, 1) := by decide +kernel
theorem dc_96_13 : decode prog_9_method_18_code 13 = .ok (.getfield 7, 3) := by decide +kernel
theorem dc_96_16 : decode prog_9_method_18_code 16 = .ok (.iconst 2, 1) := by decide +kernel
theorem dc_96_17 : decode prog_9_method_18_code 17 = .ok (.iaload, 1) := by decide +kernel
theorem dc_96_18 : decode prog_9_method_18_code 18 = .ok (.istore_n 2, 1) := by decide +kernel
theorem dc_96_19 : decode prog_9_method_18_code 19 = .ok (.aload_n 0, 1) := by decide +kernel
theorem dc_96_20 : decode prog_9_method_18_code 20 = .ok (.invokevirtual 54, 3) := by decide +kernel
theorem dc_96_23 : decode prog_9_method_18_code 23 = .ok (.aload_n 0, 1) := by decide +kernel
theorem dc_96_24 : decode prog_9_method_18_code 24 = .ok (.getfield 7, 3) := by decide +kernel
theorem dc_96_27 : decode prog_9_method_18_code 27 = .ok (.iconst 2, 1) := by decide +kernel
theorem dc_96_28 : decode prog_9_method_18_code 28 = .ok (.iload_n 1, 1) := by decide +kernel
theorem dc_96_29 : decode prog_9_method_18_code 29 = .ok (.iastore, 1) := by decide +kernel
theorem dc_96_30 : decode prog_9_method_18_code 30 = .ok (.aload_n 0, 1) := by decide +kernel
theorem dc_96_31 : decode prog_9_method_18_code 31 = .ok (.invokevirtual 57, 3) := by decide +kernel
theorem dc_96_34 : decode prog_9_method_18_code 34 = .ok (.iload_n 2, 1) := by decide +kernel
theorem dc_96_35 : decode prog_9_method_18_code 35 = .ok (.ireturn, 1) := by decide +kernel
theorem dc_97_0 : decode prog_9_method_19_code 0 = .ok (.iload_n 1, 1) := by decide +kernel
theorem dc_97_1 : decode prog_9_method_19_code 1 = .ok (.invokestatic 76, 3) := by decide +kernel
theorem dc_97_4 : decode prog_9_method_19_code 4 = .ok (.ifCond .eq 16, 3) := by decide +kernel
theorem dc_97_7 : decode prog_9_method_19_code 7 = .ok (.iload_n 2, 1) := by decide +kernel
theorem dc_97_8 : decode prog_9_method_19_code 8 = .ok (.ifCond .eq 14, 3) := by decide +kernel
theorem dc_97_11 : decode prog_9_method_19_code 11 = .ok (.aload_n 0, 1) := by decide +kernel
theorem dc_97_12 : decode prog_9_method_19_code 12 = .ok (.getfield 25, 3) := by decide +kernel
theorem dc_97_15 : decode prog_9_method_19_code 15 = .ok (.iload_n 1, 1) := by decide +kernel
theorem dc_97_16 : decode prog_9_method_19_code 16 = .ok (.iaload, 1) := by decide +kernel
theorem dc_97_17 : decode prog_9_method_19_code 17 = .ok (.ifCond .lt 5, 3) := by decide +kernel
theorem dc_97_20 : decode prog_9_method_19_code 20 = .ok (.iconst 0, 1) := by decide +kernel
theorem dc_97_21 : decode prog_9_method_19_code 21 = .ok (.ireturn, 1) := by decide +kernel
theorem dc_97_22 : decode prog_9_method_19_code 22 = .ok (.aload_n 0, 1) := by decide +kernel
theorem dc_97_23 : decode prog_9_method_19_code 23 = .ok (.invokevirtual 54, 3) := by decide +kernel
theorem dc_97_26 : decode prog_9_method_19_code 26 = .ok (.aload_n 0, 1) := by decide +kernel
theorem dc_97_27 : decode prog_9_method_19_code 27 = .ok (.getfield 7, 3) := by decide +kernel
theorem dc_97_30 : decode prog_9_method_19_code 30 = .ok (.bipush 112, 2) := by decide +kernel
theorem dc_97_32 : decode prog_9_method_19_code 32 = .ok (.iload_n 1, 1) := by decide +kernel
theorem dc_97_33 : decode prog_9_method_19_code 33 = .ok (.iadd, 1) := by decide +kernel
theorem dc_97_34 : decode prog_9_method_19_code 34 = .ok (.iload_n 2, 1) := by decide +kernel
theorem dc_97_35 : decode prog_9_method_19_code 35 = .ok (.ifCond .eq 7, 3) := by decide +kernel
theorem dc_97_38 : decode prog_9_method_19_code 38 = .ok (.iconst 1, 1) := by decide +kernel
theorem dc_97_39 : decode prog_9_method_19_code 39 = .ok (.goto 4, 3) := by decide +kernel
theorem dc_97_42 : decode prog_9_method_19_code 42 = .ok (.iconst 0, 1) := by decide +kernel
theorem dc_97_43 : decode prog_9_method_19_code 43 = .ok (.iastore, 1) := by decide +kernel
theorem dc_97_44 : decode prog_9_method_19_code 44 = .ok (.aload_n 0, 1) := by decide +kernel
theorem dc_97_45 : decode prog_9_method_19_code 45 = .ok (.invokevirtual 57, 3) := by decide +kernel
theorem dc_97_48 : decode prog_9_method_19_code 48 = .ok (.iload_n 2, 1) := by decide +kernel
theorem dc_97_49 : decode prog_9_method_19_code 49 = .ok (.ireturn, 1) := by decide +kernel
theorem dc_98_0 : decode prog_9_method_20_code 0 = .ok (.iload_n 0, 1) := by decide +kernel
theorem dc_98_1 : decode prog_9_method_20_code 1 = .ok (.ifCond .eq 14, 3) := by decide +kernel
theorem dc_98_4 : decode prog_9_method_20_code 4 = .ok (.iload_n 0, 1) := by decide +kernel
theorem dc_98_5 : decode prog_9_method_20_code 5 = .ok (.iconst 1, 1) := by decide +kernel
theorem dc_98_6 : decode prog_9_method_20_code 6 = .ok (.if_icmp .eq 9, 3) := by decide +kernel
theorem dc_98_9 : decode prog_9_method_20_code 9 = .ok (.iload_n 0, 1) := by decide +kernel
theorem dc_98_10 : decode prog_9_method_20_code 10 = .ok (.bipush 7, 2) := by decide +kernel
theorem dc_98_12 : decode prog_9_method_20_code 12 = .ok (.if_icmp .ne 7, 3) := by decide +kernel
theorem dc_98_15 : decode prog_9_method_20_code 15 = .ok (.iconst 1, 1) := by decide +kernel
theorem dc_98_16 : decode prog_9_method_20_code 16 = .ok (.goto 19, 3) := by decide +kernel
theorem dc_98_19 : decode prog_9_method_20_code 19 = .ok (.iload_n 0, 1) := by decide +kernel
theorem dc_98_20 : decode prog_9_method_20_code 20 = .ok (.iconst 2, 1) := by decide +kernel
theorem dc_98_21 : decode prog_9_method_20_code 21 = .ok (.if_icmp .le 13, 3) := by decide +kernel
theorem dc_98_24 : decode prog_9_method_20_code 24 = .ok (.iload_n 0, 1) := by decide +kernel
theorem dc_98_25 : decode prog_9_method_20_code 25 = .ok (.bipush 6, 2) := by decide +kernel
theorem dc_98_27 : decode prog_9_method_20_code 27 = .ok (.if_icmp .ge 7, 3) := by decide +kernel
theorem dc_98_30 : decode prog_9_method_20_code 30 = .ok (.iconst (-1), 1) := by decide +kernel
theorem dc_98_31 : decode prog_9_method_20_code 31 = .ok (.goto 4, 3) := by decide +kernel
theorem dc_98_34 : decode prog_9_method_20_code 34 = .ok (.iconst 0, 1) := by decide +kernel
theorem dc_98_35 : decode prog_9_method_20_code 35 = .ok (.ireturn, 1) := by decide +kernel
theorem dc_99_0 : decode prog_9_method_21_code 0 = .ok (.iload_n 0, 1) := by decide +kernel
theorem dc_99_1 : decode prog_9_method_21_code 1 = .ok (.ifCond .le 12, 3) := by decide +kernel
theorem dc_99_4 : decode prog_9_method_21_code 4 = .ok (.iload_n 0, 1) := by decide +kernel
theorem dc_99_5 : decode prog_9_method_21_code 5 = .ok (.iconst 4, 1) := by decide +kernel
theorem dc_99_6 : decode prog_9_method_21_code 6 = .ok (.if_icmp .ge 7, 3) := by decide +kernel
theorem dc_99_9 : decode prog_9_method_21_code 9 = .ok (.iconst 1, 1) := by decide +kernel
theorem dc_99_10 : decode prog_9_method_21_code 10 = .ok (.goto 19, 3) := by decide +kernel
theorem dc_99_13 : decode prog_9_method_21_code 13 = .ok (.iload_n 0, 1) := by decide +kernel
theorem dc_99_14 : decode prog_9_method_21_code 14 = .ok (.iconst 4, 1) := by decide +kernel
theorem dc_99_15 : decode prog_9_method_21_code 15 = .ok (.if_icmp .le 13, 3) := by decide +kernel
theorem dc_99_18 : decode prog_9_method_21_code 18 = .ok (.iload_n 0, 1) := by decide +kernel
theorem dc_99_19 : decode prog_9_method_21_code 19 = .ok (.bipush 8, 2) := by decide +kernel
theorem dc_99_21 : decode prog_9_method_21_code 21 = .ok (.if_icmp .ge 7, 3) := by decide +kernel
theorem dc_99_24 : decode prog_9_method_21_code 24 = .ok (.iconst (-1), 1) := by decide +kernel
theorem dc_99_25 : decode prog_9_method_21_code 25 = .ok (.goto 4, 3) := by decide +kernel
theorem dc_99_28 : decode prog_9_method_21_code 28 = .ok (.iconst 0, 1) := by decide +kernel
theorem dc_99_29 : decode prog_9_method_21_code 29 = .ok (.ireturn, 1) := by decide +kernel
theorem dc_100_0 : decode prog_9_method_22_code 0 = .ok (.iload_n 1, 1) := by decide +kernel
theorem dc_100_1 : decode prog_9_method_22_code 1 = .ok (.bipush 8, 2) := by decide +kernel
theorem dc_100_3 : decode prog_9_method_22_code 3 = .ok (.if_icmp .ne 21, 3) := by decide +kernel
theorem dc_100_6 : decode prog_9_method_22_code 6 = .ok (.iload_n 0, 1) := by decide +kernel
theorem dc_100_7 : decode prog_9_method_22_code 7 = .ok (.bipush 120, 2) := by decide +kernel
theorem dc_100_9 : decode prog_9_method_22_code 9 = .ok (.if_icmp .ge 10, 3) := by decide +kernel
theorem dc_100_12 : decode prog_9_method_22_code 12 = .ok (.iload_n 0, 1) := by decide +kernel
theorem dc_100_13 : decode prog_9_method_22_code 13 = .ok (.bipush 120, 2) := by decide +kernel
theorem dc_100_15 : decode prog_9_method_22_code 15 = .ok (.iadd, 1) := by decide +kernel
theorem dc_100_16 : decode prog_9_method_22_code 16 = .ok (.goto 7, 3) := by decide +kernel
theorem dc_100_19 : decode prog_9_method_22_code 19 = .ok (.iload_n 0, 1) := by decide +kernel
theorem dc_100_20 : decode prog_9_method_22_code 20 = .ok (.bipush 120, 2) := by decide +kernel
theorem dc_100_22 : decode prog_9_method_22_code 22 = .ok (.isub, 1) := by decide +kernel
theorem dc_100_23 : decode prog_9_method_22_code 23 = .ok (.ireturn, 1) := by decide +kernel
theorem dc_100_24 : decode prog_9_method_22_code 24 = .ok (.iload_n 0, 1) := by decide +kernel
theorem dc_100_25 : decode prog_9_method_22_code 25 = .ok (.bipush 12, 2) := by decide +kernel
theorem dc_100_27 : decode prog_9_method_22_code 27 = .ok (.irem, 1) := by decide +kernel
theorem dc_100_28 : decode prog_9_method_22_code 28 = .ok (.iload_n 1, 1) := by decide +kernel
theorem dc_100_29 : decode prog_9_method_22_code 29 = .ok (.invokestatic 79, 3) := by decide +kernel
theorem dc_100_32 : decode prog_9_method_22_code 32 = .ok (.iadd, 1) := by decide +kernel
theorem dc_100_33 : decode prog_9_method_22_code 33 = .ok (.istore_n 2, 1) := by decide +kernel
theorem dc_100_34 : decode prog_9_method_22_code 34 = .ok (.iload_n 0, 1) := by decide +kernel
theorem dc_100_35 : decode prog_9_method_22_code 35 = .ok (.bipush 120, 2) := by decide +kernel
theorem dc_100_37 : decode prog_9_method_22_code 37 = .ok (.irem, 1) := by decide +kernel
theorem dc_100_38 : decode prog_9_method_22_code 38 = .ok (.bipush 12, 2) := by decide +kernel
theorem dc_100_40 : decode prog_9_method_22_code 40 = .ok (.idiv, 1) := by decide +kernel
theorem dc_100_41 : decode prog_9_method_22_code 41 = .ok (.iload_n 1, 1) := by decide +kernel
theorem dc_100_42 : decode prog_9_method_22_code 42 = .ok (.invokestatic 83, 3) := by decide +kernel
theorem dc_100_45 : decode prog_9_method_22_code 45 = .ok (.iadd, 1) := by decide +kernel
theorem dc_100_46 : decode prog_9_method_22_code 46 = .ok (.istore_n 3, 1) := by decide +kernel
theorem dc_100_47 : decode prog_9_method_22_code 47 = .ok (.iload_n 2, 1) := by decide +kernel
theorem dc_100_48 : decode prog_9_method_22_code 48 = .ok (.ifCond .lt 19, 3) := by decide +kernel
theorem dc_100_51 : decode prog_9_method_22_code 51 = .ok (.iload_n 2, 1) := by decide +kernel
theorem dc_100_52 : decode prog_9_method_22_code 52 = .ok (.bipush 11, 2) := by decide +kernel
theorem dc_100_54 : decode prog_9_method_22_code 54 = .ok (.if_icmp .gt 13, 3) := by decide +kernel
theorem dc_100_57 : decode prog_9_method_22_code 57 = .ok (.iload_n 3, 1) := by decide +kernel
theorem dc_100_58 : decode prog_9_method_22_code 58 = .ok (.ifCond .lt 9, 3) := by decide +kernel
theorem dc_100_61 : decode prog_9_method_22_code 61 = .ok (.iload_n 3, 1) := by decide +kernel
theorem dc_100_62 : decode prog_9_method_22_code 62 = .ok (.bipush 9, 2) := by decide +kernel
theorem dc_100_64 : decode prog_9_method_22_code 64 = .ok (.if_icmp .le 7, 3) := by decide +kernel
theorem dc_100_67 : decode prog_9_method_22_code 67 = .ok (.iconst (-1), 1) := by decide +kernel
theorem dc_100_68 : decode prog_9_method_22_code 68 = .ok (.goto 17, 3) := by decide +kernel
theorem dc_100_71 : decode prog_9_method_22_code 71 = .ok (.iload_n 0, 1) := by decide +kernel
theorem dc_100_72 : decode prog_9_method_22_code 72 = .ok (.bipush 12, 2) := by decide +kernel
theorem dc_100_74 : decode prog_9_method_22_code 74 = .ok (.iload_n 1, 1) := by decide +kernel
theorem dc_100_75 : decode prog_9_method_22_code 75 = .ok (.invokestatic 83, 3) := by decide +kernel
theorem dc_100_78 : decode prog_9_method_22_code 78 = .ok (.imul, 1) := by decide +kernel
theorem dc_100_79 : decode prog_9_method_22_code 79 = .ok (.iadd, 1) := by decide +kernel
theorem dc_100_80 : decode prog_9_method_22_code 80 = .ok (.iload_n 1, 1) := by decide +kernel
theorem dc_100_81 : decode prog_9_method_22_code 81 = .ok (.invokestatic 79, 3) := by decide +kernel
theorem dc_100_84 : decode prog_9_method_22_code 84 = .ok (.iadd, 1) := by decide +kernel
theorem dc_100_85 : decode prog_9_method_22_code 85 = .ok (.ireturn, 1) := by decide +kernel
theorem dc_101_0 : decode prog_9_method_23_code 0 = .ok (.aload_n 0, 1) := by decide +kernel
theorem dc_101_1 : decode prog_9_method_23_code 1 = .ok (.iload_n 1, 1) := by decide +kernel
theorem dc_101_2 : decode prog_9_method_23_code 2 = .ok (.invokevirtual 60, 3) := by decide +kernel
theorem dc_101_5 : decode prog_9_method_23_code 5 = .ok (.ifCond .eq 42, 3) := by decide +kernel
theorem dc_101_8 : decode prog_9_method_23_code 8 = .ok (.iload_n 2, 1) := by decide +kernel
theorem dc_101_9 : decode prog_9_method_23_code 9 = .ok (.invokestatic 76, 3) := by decide +kernel
theorem dc_101_12 : decode prog_9_method_23_code 12 = .ok (.ifCond .eq 35, 3) := by decide +kernel
theorem dc_101_15 : decode prog_9_method_23_code 15 = .ok (.iload_n 3, 1) := by decide +kernel
theorem dc_101_16 : decode prog_9_method_23_code 16 = .ok (.ifCond .lt 31, 3) := by decide +kernel
theorem dc_101_19 : decode prog_9_method_23_code 19 = .ok (.iload_n 3, 1) := by decide +kernel
theorem dc_101_20 : decode prog_9_method_23_code 20 = .ok (.bipush 8, 2) := by decide +kernel
theorem dc_101_22 : decode prog_9_method_23_code 22 = .ok (.if_icmp .gt 25, 3) := by decide +kernel
theorem dc_101_25 : decode prog_9_method_23_code 25 = .ok (.iload 4, 2) := by decide +kernel
theorem dc_101_27 : decode prog_9_method_23_code 27 = .ok (.ifCond .lt 20, 3) := by decide +kernel
theorem dc_101_30 : decode prog_9_method_23_code 30 = .ok (.iload 4, 2) := by decide +kernel
theorem dc_101_32 : decode prog_9_method_23_code 32 = .ok (.iload_n 3, 1) := by decide +kernel
theorem dc_101_33 : decode prog_9_method_23_code 33 = .ok (.bipush 8, 2) := by decide +kernel
theorem dc_101_35 : decode prog_9_method_23_code 35 = .ok (.if_icmp .ne 7, 3) := by decide +kernel
theorem dc_101_38 : decode prog_9_method_23_code 38 = .ok (.iconst 1, 1) := by decide +kernel
theorem dc_101_39 : decode prog_9_method_23_code 39 = .ok (.goto 5, 3) := by decide +kernel
theorem dc_101_42 : decode prog_9_method_23_code 42 = .ok (.bipush 11, 2) := by decide +kernel
theorem dc_101_44 : decode prog_9_method_23_code 44 = .ok (.if_icmp .le 5, 3) := by decide +kernel
theorem dc_101_47 : decode prog_9_method_23_code 47 = .ok (.iconst (-1), 1) := by decide +kernel
theorem dc_101_48 : decode prog_9_method_23_code 48 = .ok (.ireturn, 1) := by decide +kernel
theorem dc_101_49 : decode prog_9_method_23_code 49 = .ok (.iload_n 2, 1) := by decide +kernel
theorem dc_101_50 : decode prog_9_method_23_code 50 = .ok (.istore 5, 2) := by decide +kernel
theorem dc_101_52 : decode prog_9_method_23_code 52 = .ok (.iconst 0, 1) := by decide +kernel
theorem dc_101_53 : decode prog_9_method_23_code 53 = .ok (.istore 6, 2) := by decide +kernel
theorem dc_101_55 : decode prog_9_method_23_code 55 = .ok (.iload 6, 2) := by decide +kernel
theorem dc_101_57 : decode prog_9_method_23_code 57 = .ok (.iload 4, 2) := by decide +kernel
theorem dc_101_59 : decode prog_9_method_23_code 59 = .ok (.if_icmp .gt 39, 3) := by decide +kernel
theorem dc_101_62 : decode prog_9_method_23_code 62 = .ok (.iload 5, 2) := by decide +kernel
theorem dc_101_64 : decode prog_9_method_23_code 64 = .ok (.ifCond .lt 18, 3) := by decide +kernel
theorem dc_101_67 : decode prog_9_method_23_code 67 = .ok (.aload_n 0, 1) := by decide +kernel
theorem dc_101_68 : decode prog_9_method_23_code 68 = .ok (.iload 5, 2) := by decide +kernel
theorem dc_101_70 : decode prog_9_method_23_code 70 = .ok (.aload_n 0, 1) := by decide +kernel
theorem dc_101_71 : decode prog_9_method_23_code 71 = .ok (.getfield 19, 3) := by decide +kernel
theorem dc_101_74 : decode prog_9_method_23_code 74 = .ok (.iload_n 1, 1) := by decide +kernel
theorem dc_101_75 : decode prog_9_method_23_code 75 = .ok (.iaload, 1) := by decide +kernel
theorem dc_101_76 : decode prog_9_method_23_code 76 = .ok (.invokevirtual 72, 3) := by decide +kernel
theorem dc_101_79 : decode prog_9_method_23_code 79 = .ok (.ifCond .ne 5, 3) := by decide +kernel
theorem dc_101_82 : decode prog_9_method_23_code 82 = .ok (.iconst (-1), 1) := by decide +kernel
theorem dc_101_83 : decode prog_9_method_23_code 83 = .ok (.ireturn, 1) := by decide +kernel
theorem dc_101_84 : decode prog_9_method_23_code 84 = .ok (.iload 5, 2) := by decide +kernel
theorem dc_101_86 : decode prog_9_method_23_code 86 = .ok (.iload_n 3, 1) := by decide +kernel
theorem dc_101_87 : decode prog_9_method_23_code 87 = .ok (.invokestatic 86, 3) := by decide +kernel
theorem dc_101_90 : decode prog_9_method_23_code 90 = .ok (.istore 5, 2) := by decide +kernel
theorem dc_101_92 : decode prog_9_method_23_code 92 = .ok (.iinc 6 1, 3) := by decide +kernel
theorem dc_101_95 : decode prog_9_method_23_code 95 = .ok (.goto (-40), 3) := by decide +kernel
theorem dc_101_98 : decode prog_9_method_23_code 98 = .ok (.aload_n 0, 1) := by decide +kernel
theorem dc_101_99 : decode prog_9_method_23_code 99 = .ok (.invokevirtual 54, 3) := by decide +kernel
theorem dc_101_102 : decode prog_9_method_23_code 102 = .ok (.iconst 0, 1) := by decide +kernel
theorem dc_101_103 : decode prog_9_method_23_code 103 = .ok (.istore 6, 2) := by decide +kernel
theorem dc_101_105 : decode prog_9_method_23_code 105 = .ok (.iload_n 2, 1) := by decide +kernel
theorem dc_101_106 : decode prog_9_method_23_code 106 = .ok (.istore 5, 2) := by decide +kernel
theorem dc_101_108 : decode prog_9_method_23_code 108 = .ok (.iconst 0, 1) := by decide +kernel
theorem dc_101_109 : decode prog_9_method_23_code 109 = .ok (.istore 7, 2) := by decide +kernel
theorem dc_101_111 : decode prog_9_method_23_code 111 = .ok (.iload 7, 2) := by decide +kernel
theorem dc_101_113 : decode prog_9_method_23_code 113 = .ok (.iload 4, 2) := by decide +kernel
theorem dc_101_115 : decode prog_9_method_23_code 115 = .ok (.if_icmp .gt 80, 3) := by decide +kernel
theorem dc_101_118 : decode prog_9_method_23_code 118 = .ok (.aload_n 0, 1) := by decide +kernel
theorem dc_101_119 : decode prog_9_method_23_code 119 = .ok (.getfield 22, 3) := by decide +kernel
theorem dc_101_122 : decode prog_9_method_23_code 122 = .ok (.iload 5, 2) := by decide +kernel
theorem dc_101_124 : decode prog_9_method_23_code 124 = .ok (.iaload, 1) := by decide +kernel
theorem dc_101_125 : decode prog_9_method_23_code 125 = .ok (.ifCond .ge 24, 3) := by decide +kernel
theorem dc_101_128 : decode prog_9_method_23_code 128 = .ok (.aload_n 0, 1) := by decide +kernel
theorem dc_101_129 : decode prog_9_method_23_code 129 = .ok (.getfield 7, 3) := by decide +kernel
theorem dc_101_132 : decode prog_9_method_23_code 132 = .ok (.sipush 352, 3) := by decide +kernel
theorem dc_101_135 : decode prog_9_method_23_code 135 = .ok (.iload 5, 2) := by decide +kernel
theorem dc_101_137 : decode prog_9_method_23_code 137 = .ok (.iadd, 1) := by decide +kernel
theorem dc_101_138 : decode prog_9_method_23_code 138 = .ok (.iaload, 1) := by decide +kernel
theorem dc_101_139 : decode prog_9_method_23_code 139 = .ok (.ifCond .ne 10, 3) := by decide +kernel
theorem dc_101_142 : decode prog_9_method_23_code 142 = .ok (.iload 6, 2) := by decide +kernel
theorem dc_101_144 : decode prog_9_method_23_code 144 = .ok (.iconst 1, 1) := by decide +kernel
theorem dc_101_145 : decode prog_9_method_23_code 145 = .ok (.iadd, 1) := by decide +kernel
theorem dc_101_146 : decode prog_9_method_23_code 146 = .ok (.goto 5, 3) := by decide +kernel
theorem dc_101_149 : decode prog_9_method_23_code 149 = .ok (.iload 6, 2) := by decide +kernel
theorem dc_101_151 : decode prog_9_method_23_code 151 = .ok (.istore 6, 2) := by decide +kernel
theorem dc_101_153 : decode prog_9_method_23_code 153 = .ok (.aload_n 0, 1) := by decide +kernel
theorem dc_101_154 : decode prog_9_method_23_code 154 = .ok (.getfield 7, 3) := by decide +kernel
theorem dc_101_157 : decode prog_9_method_23_code 157 = .ok (.sipush 352, 3) := by decide +kernel
theorem dc_101_160 : decode prog_9_method_23_code 160 = .ok (.iload 5, 2) := by decide +kernel
theorem dc_101_162 : decode prog_9_method_23_code 162 = .ok (.iadd, 1) := by decide +kernel
theorem dc_101_163 : decode prog_9_method_23_code 163 = .ok (.aload_n 0, 1) := by decide +kernel
theorem dc_101_164 : decode prog_9_method_23_code 164 = .ok (.getfield 22, 3) := by decide +kernel
theorem dc_101_167 : decode prog_9_method_23_code 167 = .ok (.iload 5, 2) := by decide +kernel
theorem dc_101_169 : decode prog_9_method_23_code 169 = .ok (.iaload, 1) := by decide +kernel
theorem dc_101_170 : decode prog_9_method_23_code 170 = .ok (.ifCond .ge 9, 3) := by decide +kernel
theorem dc_101_173 : decode prog_9_method_23_code 173 = .ok (.iload_n 1, 1) := by decide +kernel
theorem dc_101_174 : decode prog_9_method_23_code 174 = .ok (.iconst 1, 1) := by decide +kernel
theorem dc_101_175 : decode prog_9_method_23_code 175 = .ok (.iadd, 1) := by decide +kernel
theorem dc_101_176 : decode prog_9_method_23_code 176 = .ok (.goto 4, 3) := by decide +kernel
theorem dc_101_179 : decode prog_9_method_23_code 179 = .ok (.iconst 0, 1) := by decide +kernel
theorem dc_101_180 : decode prog_9_method_23_code 180 = .ok (.iastore, 1) := by decide +kernel
theorem dc_101_181 : decode prog_9_method_23_code 181 = .ok (.iload 5, 2) := by decide +kernel
theorem dc_101_183 : decode prog_9_method_23_code 183 = .ok (.iload_n 3, 1) := by decide +kernel
theorem dc_101_184 : decode prog_9_method_23_code 184 = .ok (.invokestatic 86, 3) := by decide +kernel
theorem dc_101_187 : decode prog_9_method_23_code 187 = .ok (.istore 5, 2) := by decide +kernel
theorem dc_101_189 : decode prog_9_method_23_code 189 = .ok (.iinc 7 1, 3) := by decide +kernel
theorem dc_101_192 : decode prog_9_method_23_code 192 = .ok (.goto (-81), 3) := by decide +kernel
theorem dc_101_195 : decode prog_9_method_23_code 195 = .ok (.aload_n 0, 1) := by decide +kernel
theorem dc_101_196 : decode prog_9_method_23_code 196 = .ok (.invokevirtual 57, 3) := by decide +kernel
theorem dc_101_199 : decode prog_9_method_23_code 199 = .ok (.iload 6, 2) := by decide +kernel
theorem dc_101_201 : decode prog_9_method_23_code 201 = .ok (.ireturn, 1) := by decide +kernel
theorem dc_102_0 : decode prog_9_method_24_code 0 = .ok (.iload_n 1, 1) := by decide +kernel
theorem dc_102_1 : decode prog_9_method_24_code 1 = .ok (.invokestatic 76, 3) := by decide +kernel
theorem dc_102_4 : decode prog_9_method_24_code 4 = .ok (.ifCond .eq 16, 3) := by decide +kernel
theorem dc_102_7 : decode prog_9_method_24_code 7 = .ok (.aload_n 0, 1) := by decide +kernel
theorem dc_102_8 : decode prog_9_method_24_code 8 = .ok (.getfield 7, 3) := by decide +kernel
theorem dc_102_11 : decode prog_9_method_24_code 11 = .ok (.sipush 352, 3) := by decide +kernel
theorem dc_102_14 : decode prog_9_method_24_code 14 = .ok (.iload_n 1, 1) := by decide +kernel
theorem dc_102_15 : decode prog_9_method_24_code 15 = .ok (.iadd, 1) := by decide +kernel
theorem dc_102_16 : decode prog_9_method_24_code 16 = .ok (.iaload, 1) := by decide +kernel
theorem dc_102_17 : decode prog_9_method_24_code 17 = .ok (.ifCond .ne 5, 3) := by decide +kernel
theorem dc_102_20 : decode prog_9_method_24_code 20 = .ok (.iconst 0, 1) := by decide +kernel
theorem dc_102_21 : decode prog_9_method_24_code 21 = .ok (.ireturn, 1) := by decide +kernel
theorem dc_102_22 : decode prog_9_method_24_code 22 = .ok (.aload_n 0, 1) := by decide +kernel
theorem dc_102_23 : decode prog_9_method_24_code 23 = .ok (.invokevirtual 54, 3) := by decide +kernel
theorem dc_102_26 : decode prog_9_method_24_code 26 = .ok (.aload_n 0, 1) := by decide +kernel
theorem dc_102_27 : decode prog_9_method_24_code 27 = .ok (.getfield 7, 3) := by decide +kernel
theorem dc_102_30 : decode prog_9_method_24_code 30 = .ok (.sipush 352, 3) := by decide +kernel
theorem dc_102_33 : decode prog_9_method_24_code 33 = .ok (.iload_n 1, 1) := by decide +kernel
theorem dc_102_34 : decode prog_9_method_24_code 34 = .ok (.iadd, 1) := by decide +kernel
theorem dc_102_35 : decode prog_9_method_24_code 35 = .ok (.iconst 0, 1) := by decide +kernel
theorem dc_102_36 : decode prog_9_method_24_code 36 = .ok (.iastore, 1) := by decide +kernel
theorem dc_102_37 : decode prog_9_method_24_code 37 = .ok (.aload_n 0, 1) := by decide +kernel
theorem dc_102_38 : decode prog_9_method_24_code 38 = .ok (.invokevirtual 57, 3) := by decide +kernel
theorem dc_102_41 : decode prog_9_method_24_code 41 = .ok (.iconst 1, 1) := by decide +kernel
theorem dc_102_42 : decode prog_9_method_24_code 42 = .ok (.ireturn, 1) := by decide +kernel
theorem dc_103_0 : decode prog_9_method_25_code 0 = .ok (.iload_n 1, 1) := by decide +kernel
theorem dc_103_1 : decode prog_9_method_25_code 1 = .ok (.invokestatic 76, 3) := by decide +kernel
theorem dc_103_4 : decode prog_9_method_25_code 4 = .ok (.ifCond .eq 12, 3) := by decide +kernel
theorem dc_103_7 : decode prog_9_method_25_code 7 = .ok (.aload_n 0, 1) := by decide +kernel
theorem dc_103_8 : decode prog_9_method_25_code 8 = .ok (.getfield 25, 3) := by decide +kernel
theorem dc_103_11 : decode prog_9_method_25_code 11 = .ok (.iload_n 1, 1) := by decide +kernel
theorem dc_103_12 : decode prog_9_method_25_code 12 = .ok (.iaload, 1) := by decide +kernel
theorem dc_103_13 : decode prog_9_method_25_code 13 = .ok (.goto 4, 3) := by decide +kernel
theorem dc_103_16 : decode prog_9_method_25_code 16 = .ok (.iconst (-1), 1) := by decide +kernel
theorem dc_103_17 : decode prog_9_method_25_code 17 = .ok (.ireturn, 1) := by decide +kernel
theorem dc_104_0 : decode prog_9_method_26_code 0 = .ok (.aload_n 0, 1) := by decide +kernel
theorem dc_104_1 : decode prog_9_method_26_code 1 = .ok (.iload_n 1, 1) := by decide +kernel
theorem dc_104_2 : decode prog_9_method_26_code 2 = .ok (.invokevirtual 60, 3) := by decide +kernel
theorem dc_104_5 : decode prog_9_method_26_code 5 = .ok (.ifCond .ne 5, 3) := by decide +kernel
theorem dc_104_8 : decode prog_9_method_26_code 8 = .ok (.iconst (-1), 1) := by decide +kernel
theorem dc_104_9 : decode prog_9_method_26_code 9 = .ok (.ireturn, 1) := by decide +kernel
theorem dc_104_10 : decode prog_9_method_26_code 10 = .ok (.aload_n 0, 1) := by decide +kernel
theorem dc_104_11 : decode prog_9_method_26_code 11 = .ok (.invokevirtual 54, 3) := by decide +kernel
theorem dc_104_14 : decode prog_9_method_26_code 14 = .ok (.iconst 0, 1) := by decide +kernel
theorem dc_104_15 : decode prog_9_method_26_code 15 = .ok (.istore_n 2, 1) := by decide +kernel
theorem dc_104_16 : decode prog_9_method_26_code 16 = .ok (.iconst 0, 1) := by decide +kernel
theorem dc_104_17 : decode prog_9_method_26_code 17 = .ok (.istore_n 3, 1) := by decide +kernel
theorem dc_104_18 : decode prog_9_method_26_code 18 = .ok (.iload_n 3, 1) := by decide +kernel
theorem dc_104_19 : decode prog_9_method_26_code 19 = .ok (.sipush 240, 3) := by decide +kernel
theorem dc_104_22 : decode prog_9_method_26_code 22 = .ok (.if_icmp .ge 86, 3) := by decide +kernel
theorem dc_104_25 : decode prog_9_method_26_code 25 = .ok (.aload_n 0, 1) := by decide +kernel
theorem dc_104_26 : decode prog_9_method_26_code 26 = .ok (.getfield 7, 3) := by decide +kernel
theorem dc_104_29 : decode prog_9_method_26_code 29 = .ok (.sipush 352, 3) := by decide +kernel
theorem dc_104_32 : decode prog_9_method_26_code 32 = .ok (.iload_n 3, 1) := by decide +kernel
theorem dc_104_33 : decode prog_9_method_26_code 33 = .ok (.iadd, 1) := by decide +kernel
theorem dc_104_34 : decode prog_9_method_26_code 34 = .ok (.iaload, 1) := by decide +kernel
theorem dc_104_35 : decode prog_9_method_26_code 35 = .ok (.ifCond .le 22, 3) := by decide +kernel
theorem dc_104_38 : decode prog_9_method_26_code 38 = .ok (.aload_n 0, 1) := by decide +kernel
theorem dc_104_39 : decode prog_9_method_26_code 39 = .ok (.getfield 25, 3) := by decide +kernel
theorem dc_104_42 : decode prog_9_method_26_code 42 = .ok (.iload_n 3, 1) := by decide +kernel
theorem dc_104_43 : decode prog_9_method_26_code 43 = .ok (.iaload, 1) := by decide +kernel
theorem dc_104_44 : decode prog_9_method_26_code 44 = .ok (.aload_n 0, 1) := by decide +kernel
theorem dc_104_45 : decode prog_9_method_26_code 45 = .ok (.getfield 19, 3) := by decide +kernel
theorem dc_104_48 : decode prog_9_method_26_code 48 = .ok (.iload_n 1, 1) := by decide +kernel
theorem dc_104_49 : decode prog_9_method_26_code 49 = .ok (.iaload, 1) := by decide +kernel
theorem dc_104_50 : decode prog_9_method_26_code 50 = .ok (.if_icmp .ne 7, 3) := by decide +kernel
theorem dc_104_53 : decode prog_9_method_26_code 53 = .ok (.iconst 1, 1) := by decide +kernel
theorem dc_104_54 : decode prog_9_method_26_code 54 = .ok (.goto 4, 3) := by decide +kernel
theorem dc_104_57 : decode prog_9_method_26_code 57 = .ok (.iconst 0, 1) := by decide +kernel
theorem dc_104_58 : decode prog_9_method_26_code 58 = .ok (.istore 4, 2) := by decide +kernel
theorem dc_104_60 : decode prog_9_method_26_code 60 = .ok (.aload_n 0, 1) := by decide +kernel
theorem dc_104_61 : decode prog_9_method_26_code 61 = .ok (.getfield 7, 3) := by decide +kernel
theorem dc_104_64 : decode prog_9_method_26_code 64 = .ok (.sipush 352, 3) := by decide +kernel
theorem dc_104_67 : decode prog_9_method_26_code 67 = .ok (.iload_n 3, 1) := by decide +kernel
theorem dc_104_68 : decode prog_9_method_26_code 68 = .ok (.iadd, 1) := by decide +kernel
theorem dc_104_69 : decode prog_9_method_26_code 69 = .ok (.iload 4, 2) := by decide +kernel
theorem dc_104_71 : decode prog_9_method_26_code 71 = .ok (.ifCond .eq 7, 3) := by decide +kernel
theorem dc_104_74 : decode prog_9_method_26_code 74 = .ok (.iconst 0, 1) := by decide +kernel
theorem dc_104_75 : decode prog_9_method_26_code 75 = .ok (.goto 13, 3) := by decide +kernel
theorem dc_104_78 : decode prog_9_method_26_code 78 = .ok (.aload_n 0, 1) := by decide +kernel
theorem dc_104_79 : decode prog_9_method_26_code 79 = .ok (.getfield 7, 3) := by decide +kernel
theorem dc_104_82 : decode prog_9_method_26_code 82 = .ok (.sipush 352, 3) := by decide +kernel
theorem dc_104_85 : decode prog_9_method_26_code 85 = .ok (.iload_n 3, 1) := by decide +kernel
theorem dc_104_86 : decode prog_9_method_26_code 86 = .ok (.iadd, 1) := by decide +kernel
theorem dc_104_87 : decode prog_9_method_26_code 87 = .ok (.iaload, 1) := by decide +kernel
theorem dc_104_88 : decode prog_9_method_26_code 88 = .ok (.iastore, 1) := by decide +kernel
theorem dc_104_89 : decode prog_9_method_26_code 89 = .ok (.iload 4, 2) := by decide +kernel
theorem dc_104_91 : decode prog_9_method_26_code 91 = .ok (.ifCond .eq 9, 3) := by decide +kernel
theorem dc_104_94 : decode prog_9_method_26_code 94 = .ok (.iload_n 2, 1) := by decide +kernel
theorem dc_104_95 : decode prog_9_method_26_code 95 = .ok (.iconst 1, 1) := by decide +kernel
theorem dc_104_96 : decode prog_9_method_26_code 96 = .ok (.iadd, 1) := by decide +kernel
theorem dc_104_97 : decode prog_9_method_26_code 97 = .ok (.goto 4, 3) := by decide +kernel
theorem dc_104_100 : decode prog_9_method_26_code 100 = .ok (.iload_n 2, 1) := by decide +kernel
theorem dc_104_101 : decode prog_9_method_26_code 101 = .ok (.istore_n 2, 1) := by decide +kernel
theorem dc_104_102 : decode prog_9_method_26_code 102 = .ok (.iinc 3 1, 3) := by decide +kernel
theorem dc_104_105 : decode prog_9_method_26_code 105 = .ok (.goto (-87), 3) := by decide +kernel
theorem dc_104_108 : decode prog_9_method_26_code 108 = .ok (.aload_n 0, 1) := by decide +kernel
theorem dc_104_109 : decode prog_9_method_26_code 109 = .ok (.invokevirtual 57, 3) := by decide +kernel
theorem dc_104_112 : decode prog_9_method_26_code 112 = .ok (.iload_n 2, 1) := by decide +kernel
theorem dc_104_113 : decode prog_9_method_26_code 113 = .ok (.ireturn, 1) := by decide +kernel
theorem dc_105_0 : decode prog_9_method_27_code 0 = .ok (.iconst 0, 1) := by decide +kernel
theorem dc_105_1 : decode prog_9_method_27_code 1 = .ok (.istore_n 2, 1) := by decide +kernel
theorem dc_105_2 : decode prog_9_method_27_code 2 = .ok (.iload_n 2, 1) := by decide +kernel
theorem dc_105_3 : decode prog_9_method_27_code 3 = .ok (.sipush 240, 3) := by decide +kernel
theorem dc_105_6 : decode prog_9_method_27_code 6 = .ok (.if_icmp .ge 30, 3) := by decide +kernel
theorem dc_105_9 : decode prog_9_method_27_code 9 = .ok (.aload_n 0, 1) := by decide +kernel
theorem dc_105_10 : decode prog_9_method_27_code 10 = .ok (.getfield 28, 3) := by decide +kernel
theorem dc_105_13 : decode prog_9_method_27_code 13 = .ok (.iload_n 2, 1) := by decide +kernel
theorem dc_105_14 : decode prog_9_method_27_code 14 = .ok (.aload_n 0, 1) := by decide +kernel
theorem dc_105_15 : decode prog_9_method_27_code 15 = .ok (.getfield 25, 3) := by decide +kernel
theorem dc_105_18 : decode prog_9_method_27_code 18 = .ok (.iload_n 2, 1) := by decide +kernel
theorem dc_105_19 : decode prog_9_method_27_code 19 = .ok (.iaload, 1) := by decide +kernel
theorem dc_105_20 : decode prog_9_method_27_code 20 = .ok (.iload_n 1, 1) := by decide +kernel
theorem dc_105_21 : decode prog_9_method_27_code 21 = .ok (.if_icmp .ne 7, 3) := by decide +kernel
theorem dc_105_24 : decode prog_9_method_27_code 24 = .ok (.iload_n 2, 1) := by decide +kernel
theorem dc_105_25 : decode prog_9_method_27_code 25 = .ok (.goto 4, 3) := by decide +kernel
theorem dc_105_28 : decode prog_9_method_27_code 28 = .ok (.iconst (-1), 1) := by decide +kernel
theorem dc_105_29 : decode prog_9_method_27_code 29 = .ok (.iastore, 1) := by decide +kernel
theorem dc_105_30 : decode prog_9_method_27_code 30 = .ok (.iinc 2 1, 3) := by decide +kernel
theorem dc_105_33 : decode prog_9_method_27_code 33 = .ok (.goto (-31), 3) := by decide +kernel
theorem dc_105_36 : decode prog_9_method_27_code 36 = .ok (.iconst 1, 1) := by decide +kernel
theorem dc_105_37 : decode prog_9_method_27_code 37 = .ok (.istore_n 2, 1) := by decide +kernel
theorem dc_105_38 : decode prog_9_method_27_code 38 = .ok (.iload_n 2, 1) := by decide +kernel
theorem dc_105_39 : decode prog_9_method_27_code 39 = .ok (.ifCond .eq 92, 3) := by decide +kernel
theorem dc_105_42 : decode prog_9_method_27_code 42 = .ok (.iconst 0, 1) := by decide +kernel
theorem dc_105_43 : decode prog_9_method_27_code 43 = .ok (.istore_n 2, 1) := by decide +kernel
theorem dc_105_44 : decode prog_9_method_27_code 44 = .ok (.iconst 0, 1) := by decide +kernel
theorem dc_105_45 : decode prog_9_method_27_code 45 = .ok (.istore_n 3, 1) := by decide +kernel
theorem dc_105_46 : decode prog_9_method_27_code 46 = .ok (.iload_n 3, 1) := by decide +kernel
theorem dc_105_47 : decode prog_9_method_27_code 47 = .ok (.sipush 240, 3) := by decide +kernel
theorem dc_105_50 : decode prog_9_method_27_code 50 = .ok (.if_icmp .ge 78, 3) := by decide +kernel
theorem dc_105_53 : decode prog_9_method_27_code 53 = .ok (.iconst 0, 1) := by decide +kernel
theorem dc_105_54 : decode prog_9_method_27_code 54 = .ok (.istore 4, 2) := by decide +kernel
theorem dc_105_56 : decode prog_9_method_27_code 56 = .ok (.iload 4, 2) := by decide +kernel
theorem dc_105_58 : decode prog_9_method_27_code 58 = .ok (.bipush 9, 2) := by decide +kernel
theorem dc_105_60 : decode prog_9_method_27_code 60 = .ok (.if_icmp .ge 62, 3) := by decide +kernel
theorem dc_105_63 : decode prog_9_method_27_code 63 = .ok (.aload_n 0, 1) := by decide +kernel
theorem dc_105_64 : decode prog_9_method_27_code 64 = .ok (.getfield 28, 3) := by decide +kernel
theorem dc_105_67 : decode prog_9_method_27_code 67 = .ok (.iload_n 3, 1) := by decide +kernel
theorem dc_105_68 : decode prog_9_method_27_code 68 = .ok (.iaload, 1) := by decide +kernel
theorem dc_105_69 : decode prog_9_method_27_code 69 = .ok (.ifCond .lt 53, 3) := by decide +kernel
theorem dc_105_72 : decode prog_9_method_27_code 72 = .ok (.iload_n 3, 1) := by decide +kernel
theorem dc_105_73 : decode prog_9_method_27_code 73 = .ok (.iload 4, 2) := by decide +kernel
theorem dc_105_75 : decode prog_9_method_27_code 75 = .ok (.invokestatic 86, 3) := by decide +kernel
theorem dc_105_78 : decode prog_9_method_27_code 78 = .ok (.istore 5, 2) := by decide +kernel
theorem dc_105_80 : decode prog_9_method_27_code 80 = .ok (.iload 5, 2) := by decide +kernel
theorem dc_105_82 : decode prog_9_method_27_code 82 = .ok (.ifCond .lt 34, 3) := by decide +kernel
theorem dc_105_85 : decode prog_9_method_27_code 85 = .ok (.aload_n 0, 1) := by decide +kernel
theorem dc_105_86 : decode prog_9_method_27_code 86 = .ok (.getfield 28, 3) := by decide +kernel
theorem dc_105_89 : decode prog_9_method_27_code 89 = .ok (.iload 5, 2) := by decide +kernel
theorem dc_105_91 : decode prog_9_method_27_code 91 = .ok (.iaload, 1) := by decide +kernel
theorem dc_105_92 : decode prog_9_method_27_code 92 = .ok (.aload_n 0, 1) := by decide +kernel
theorem dc_105_93 : decode prog_9_method_27_code 93 = .ok (.getfield 28, 3) := by decide +kernel
theorem dc_105_96 : decode prog_9_method_27_code 96 = .ok (.iload_n 3, 1) := by decide +kernel
theorem dc_105_97 : decode prog_9_method_27_code 97 = .ok (.iaload, 1) := by decide +kernel
theorem dc_105_98 : decode prog_9_method_27_code 98 = .ok (.if_icmp .le 18, 3) := by decide +kernel
theorem dc_105_101 : decode prog_9_method_27_code 101 = .ok (.aload_n 0, 1) := by decide +kernel
theorem dc_105_102 : decode prog_9_method_27_code 102 = .ok (.getfield 28, 3) := by decide +kernel
theorem dc_105_105 : decode prog_9_method_27_code 105 = .ok (.iload 5, 2) := by decide +kernel
theorem dc_105_107 : decode prog_9_method_27_code 107 = .ok (.aload_n 0, 1) := by decide +kernel
theorem dc_105_108 : decode prog_9_method_27_code 108 = .ok (.getfield 28, 3) := by decide +kernel
theorem dc_105_111 : decode prog_9_method_27_code 111 = .ok (.iload_n 3, 1) := by decide +kernel
theorem dc_105_112 : decode prog_9_method_27_code 112 = .ok (.iaload, 1) := by decide +kernel
theorem dc_105_113 : decode prog_9_method_27_code 113 = .ok (.iastore, 1) := by decide +kernel
theorem dc_105_114 : decode prog_9_method_27_code 114 = .ok (.iconst 1, 1) := by decide +kernel
theorem dc_105_115 : decode prog_9_method_27_code 115 = .ok (.istore_n 2, 1) := by decide +kernel
theorem dc_105_116 : decode prog_9_method_27_code 116 = .ok (.iinc 4 1, 3) := by decide +kernel
theorem dc_105_119 : decode prog_9_method_27_code 119 = .ok (.goto (-63), 3) := by decide +kernel
theorem dc_105_122 : decode prog_9_method_27_code 122 = .ok (.iinc 3 1, 3) := by decide +kernel
theorem dc_105_125 : decode prog_9_method_27_code 125 = .ok (.goto (-79), 3) := by decide +kernel
theorem dc_105_128 : decode prog_9_method_27_code 128 = .ok (.goto (-90), 3) := by decide +kernel
theorem dc_105_131 : decode prog_9_method_27_code 131 = .ok (.return_, 1) := by decide +kernel
theorem dc_106_0 : decode prog_9_method_28_code 0 = .ok (.aload_n 0, 1) := by decide +kernel
theorem dc_106_1 : decode prog_9_method_28_code 1 = .ok (.getfield 7, 3) := by decide +kernel
theorem dc_106_4 : decode prog_9_method_28_code 4 = .ok (.bipush 32, 2) := by decide +kernel
theorem dc_106_6 : decode prog_9_method_28_code 6 = .ok (.iload_n 1, 1) := by decide +kernel
theorem dc_106_7 : decode prog_9_method_28_code 7 = .ok (.iadd, 1) := by decide +kernel
theorem dc_106_8 : decode prog_9_method_28_code 8 = .ok (.iaload, 1) := by decide +kernel
theorem dc_106_9 : decode prog_9_method_28_code 9 = .ok (.istore_n 2, 1) := by decide +kernel
theorem dc_106_10 : decode prog_9_method_28_code 10 = .ok (.iload_n 2, 1) := by decide +kernel
theorem dc_106_11 : decode prog_9_method_28_code 11 = .ok (.bipush 120, 2) := by decide +kernel
theorem dc_106_13 : decode prog_9_method_28_code 13 = .ok (.idiv, 1) := by decide +kernel
theorem dc_106_14 : decode prog_9_method_28_code 14 = .ok (.iconst 2, 1) := by decide +kernel
theorem dc_106_15 : decode prog_9_method_28_code 15 = .ok (.if_icmp .ne 13, 3) := by decide +kernel
theorem dc_106_18 : decode prog_9_method_28_code 18 = .ok (.bipush 120, 2) := by decide +kernel
theorem dc_106_20 : decode prog_9_method_28_code 20 = .ok (.iload_n 2, 1) := by decide +kernel
theorem dc_106_21 : decode prog_9_method_28_code 21 = .ok (.bipush 120, 2) := by decide +kernel
theorem dc_106_23 : decode prog_9_method_28_code 23 = .ok (.irem, 1) := by decide +kernel
theorem dc_106_24 : decode prog_9_method_28_code 24 = .ok (.iadd, 1) := by decide +kernel
theorem dc_106_25 : decode prog_9_method_28_code 25 = .ok (.goto 7, 3) := by decide +kernel
theorem dc_106_28 : decode prog_9_method_28_code 28 = .ok (.iload_n 2, 1) := by decide +kernel
theorem dc_106_29 : decode prog_9_method_28_code 29 = .ok (.bipush 120, 2) := by decide +kernel
theorem dc_106_31 : decode prog_9_method_28_code 31 = .ok (.irem, 1) := by decide +kernel
theorem dc_106_32 : decode prog_9_method_28_code 32 = .ok (.ireturn, 1) := by decide +kernel
theorem dc_107_0 : decode prog_9_method_29_code 0 = .ok (.iconst (-1), 1) := by decide +kernel
theorem dc_107_1 : decode prog_9_method_29_code 1 = .ok (.istore_n 2, 1) := by decide +kernel
theorem dc_107_2 : decode prog_9_method_29_code 2 = .ok (.aload_n 0, 1) := by decide +kernel
theorem dc_107_3 : decode prog_9_method_29_code 3 = .ok (.getfield 7, 3) := by decide +kernel
theorem dc_107_6 : decode prog_9_method_29_code 6 = .ok (.iconst 0, 1) := by decide +kernel
theorem dc_107_7 : decode prog_9_method_29_code 7 = .ok (.iaload, 1) := by decide +kernel
theorem dc_107_8 : decode prog_9_method_29_code 8 = .ok (.iconst 1, 1) := by decide +kernel
theorem dc_107_9 : decode prog_9_method_29_code 9 = .ok (.isub, 1) := by decide +kernel
theorem dc_107_10 : decode prog_9_method_29_code 10 = .ok (.istore_n 3, 1) := by decide +kernel
theorem dc_107_11 : decode prog_9_method_29_code 11 = .ok (.iload_n 3, 1) := by decide +kernel
theorem dc_107_12 : decode prog_9_method_29_code 12 = .ok (.ifCond .lt 37, 3) := by decide +kernel
theorem dc_107_15 : decode prog_9_method_29_code 15 = .ok (.aload_n 0, 1) := by decide +kernel
theorem dc_107_16 : decode prog_9_method_29_code 16 = .ok (.getfield 19, 3) := by decide +kernel
theorem dc_107_19 : decode prog_9_method_29_code 19 = .ok (.iload_n 3, 1) := by decide +kernel
theorem dc_107_20 : decode prog_9_method_29_code 20 = .ok (.iaload, 1) := by decide +kernel
theorem dc_107_21 : decode prog_9_method_29_code 21 = .ok (.iload_n 1, 1) := by decide +kernel
theorem dc_107_22 : decode prog_9_method_29_code 22 = .ok (.if_icmp .ne 19, 3) := by decide +kernel
theorem dc_107_25 : decode prog_9_method_29_code 25 = .ok (.aload_n 0, 1) := by decide +kernel
theorem dc_107_26 : decode prog_9_method_29_code 26 = .ok (.getfield 7, 3) := by decide +kernel
theorem dc_107_29 : decode prog_9_method_29_code 29 = .ok (.bipush 32, 2) := by decide +kernel
theorem dc_107_31 : decode prog_9_method_29_code 31 = .ok (.iload_n 3, 1) := by decide +kernel
theorem dc_107_32 : decode prog_9_method_29_code 32 = .ok (.iadd, 1) := by decide +kernel
theorem dc_107_33 : decode prog_9_method_29_code 33 = .ok (.iaload, 1) := by decide +kernel
theorem dc_107_34 : decode prog_9_method_29_code 34 = .ok (.ifCond .le 7, 3) := by decide +kernel
theorem dc_107_37 : decode prog_9_method_29_code 37 = .ok (.iload_n 3, 1) := by decide +kernel
theorem dc_107_38 : decode prog_9_method_29_code 38 = .ok (.goto 4, 3) := by decide +kernel
theorem dc_107_41 : decode prog_9_method_29_code 41 = .ok (.iload_n 2, 1) := by decide +kernel
theorem dc_107_42 : decode prog_9_method_29_code 42 = .ok (.istore_n 2, 1) := by decide +kernel
theorem dc_107_43 : decode prog_9_method_29_code 43 = .ok (.iinc 3 (-1), 3) := by decide +kernel
theorem dc_107_46 : decode prog_9_method_29_code 46 = .ok (.goto (-35), 3) := by decide +kernel
theorem dc_107_49 : decode prog_9_method_29_code 49 = .ok (.iload_n 2, 1) := by decide +kernel
theorem dc_107_50 : decode prog_9_method_29_code 50 = .ok (.ireturn, 1) := by decide +kernel
theorem dc_108_0 : decode prog_9_method_30_code 0 = .ok (.aload_n 0, 1) := by decide +kernel
theorem dc_108_1 : decode prog_9_method_30_code 1 = .ok (.iload_n 1, 1) := by decide +kernel
theorem dc_108_2 : decode prog_9_method_30_code 2 = .ok (.invokevirtual 89, 3) := by decide +kernel
theorem dc_108_5 : decode prog_9_method_30_code 5 = .ok (.istore_n 2, 1) := by decide +kernel
theorem dc_108_6 : decode prog_9_method_30_code 6 = .ok (.iload_n 2, 1) := by decide +kernel
theorem dc_108_7 : decode prog_9_method_30_code 7 = .ok (.ifCond .ge 5, 3) := by decide +kernel
theorem dc_108_10 : decode prog_9_method_30_code 10 = .ok (.iconst (-1), 1) := by decide +kernel
theorem dc_108_11 : decode prog_9_method_30_code 11 = .ok (.ireturn, 1) := by decide +kernel
theorem dc_108_12 : decode prog_9_method_30_code 12 = .ok (.aload_n 0, 1) := by decide +kernel
theorem dc_108_13 : decode prog_9_method_30_code 13 = .ok (.iload_n 1, 1) := by decide +kernel
theorem dc_108_14 : decode prog_9_method_30_code 14 = .ok (.invokevirtual 92, 3) := by decide +kernel
theorem dc_108_17 : decode prog_9_method_30_code 17 = .ok (.iconst (-1), 1) := by decide +kernel
theorem dc_108_18 : decode prog_9_method_30_code 18 = .ok (.istore_n 3, 1) := by decide +kernel
theorem dc_108_19 : decode prog_9_method_30_code 19 = .ok (.aload_n 0, 1) := by decide +kernel
theorem dc_108_20 : decode prog_9_method_30_code 20 = .ok (.getfield 7, 3) := by decide +kernel
theorem dc_108_23 : decode prog_9_method_30_code 23 = .ok (.iconst 0, 1) := by decide +kernel
theorem dc_108_24 : decode prog_9_method_30_code 24 = .ok (.iaload, 1) := by decide +kernel
theorem dc_108_25 : decode prog_9_method_30_code 25 = .ok (.iconst 1, 1) := by decide +kernel
theorem dc_108_26 : decode prog_9_method_30_code 26 = .ok (.isub, 1) := by decide +kernel
theorem dc_108_27 : decode prog_9_method_30_code 27 = .ok (.istore 4, 2) := by decide +kernel
theorem dc_108_29 : decode prog_9_method_30_code 29 = .ok (.iload 4, 2) := by decide +kernel
theorem dc_108_31 : decode prog_9_method_30_code 31 = .ok (.iload_n 2, 1) := by decide +kernel
theorem dc_108_32 : decode prog_9_method_30_code 32 = .ok (.if_icmp .le 76, 3) := by decide +kernel
theorem dc_108_35 : decode prog_9_method_30_code 35 = .ok (.aload_n 0, 1) := by decide +kernel
theorem dc_108_36 : decode prog_9_method_30_code 36 = .ok (.getfield 19, 3) := by decide +kernel
theorem dc_108_39 : decode prog_9_method_30_code 39 = .ok (.iload 4, 2) := by decide +kernel
theorem dc_108_41 : decode prog_9_method_30_code 41 = .ok (.iaload, 1) := by decide +kernel
theorem dc_108_42 : decode prog_9_method_30_code 42 = .ok (.iload_n 1, 1) := by decide +kernel
theorem dc_108_43 : decode prog_9_method_30_code 43 = .ok (.if_icmp .ne 44, 3) := by decide +kernel
theorem dc_108_46 : decode prog_9_method_30_code 46 = .ok (.aload_n 0, 1) := by decide +kernel
theorem dc_108_47 : decode prog_9_method_30_code 47 = .ok (.getfield 7, 3) := by decide +kernel
theorem dc_108_50 : decode prog_9_method_30_code 50 = .ok (.bipush 32, 2) := by decide +kernel
theorem dc_108_52 : decode prog_9_method_30_code 52 = .ok (.iload 4, 2) := by decide +kernel
theorem dc_108_54 : decode prog_9_method_30_code 54 = .ok (.iadd, 1) := by decide +kernel
theorem dc_108_55 : decode prog_9_method_30_code 55 = .ok (.iaload, 1) := by decide +kernel
theorem dc_108_56 : decode prog_9_method_30_code 56 = .ok (.ifCond .le 31, 3) := by decide +kernel
theorem dc_108_59 : decode prog_9_method_30_code 59 = .ok (.aload_n 0, 1) := by decide +kernel
theorem dc_108_60 : decode prog_9_method_30_code 60 = .ok (.getfield 28, 3) := by decide +kernel
theorem dc_108_63 : decode prog_9_method_30_code 63 = .ok (.aload_n 0, 1) := by decide +kernel
theorem dc_108_64 : decode prog_9_method_30_code 64 = .ok (.iload 4, 2) := by decide +kernel
theorem dc_108_66 : decode prog_9_method_30_code 66 = .ok (.invokevirtual 96, 3) := by decide +kernel
theorem dc_108_69 : decode prog_9_method_30_code 69 = .ok (.iaload, 1) := by decide +kernel
theorem dc_108_70 : decode prog_9_method_30_code 70 = .ok (.aload_n 0, 1) := by decide +kernel
theorem dc_108_71 : decode prog_9_method_30_code 71 = .ok (.getfield 28, 3) := by decide +kernel
theorem dc_108_74 : decode prog_9_method_30_code 74 = .ok (.aload_n 0, 1) := by decide +kernel
theorem dc_108_75 : decode prog_9_method_30_code 75 = .ok (.iload_n 2, 1) := by decide +kernel
theorem dc_108_76 : decode prog_9_method_30_code 76 = .ok (.invokevirtual 96, 3) := by decide +kernel
theorem dc_108_79 : decode prog_9_method_30_code 79 = .ok (.iaload, 1) := by decide +kernel
theorem dc_108_80 : decode prog_9_method_30_code 80 = .ok (.if_icmp .eq 7, 3) := by decide +kernel
theorem dc_108_83 : decode prog_9_method_30_code 83 = .ok (.iconst 1, 1) := by decide +kernel
theorem dc_108_84 : decode prog_9_method_30_code 84 = .ok (.goto 4, 3) := by decide +kernel
theorem dc_108_87 : decode prog_9_method_30_code 87 = .ok (.iconst 0, 1) := by decide +kernel
theorem dc_108_88 : decode prog_9_method_30_code 88 = .ok (.istore 5, 2) := by decide +kernel
theorem dc_108_90 : decode prog_9_method_30_code 90 = .ok (.iload 5, 2) := by decide +kernel
theorem dc_108_92 : decode prog_9_method_30_code 92 = .ok (.ifCond .eq 8, 3) := by decide +kernel
theorem dc_108_95 : decode prog_9_method_30_code 95 = .ok (.iload 4, 2) := by decide +kernel
theorem dc_108_97 : decode prog_9_method_30_code 97 = .ok (.goto 4, 3) := by decide +kernel
theorem dc_108_100 : decode prog_9_method_30_code 100 = .ok (.iload_n 3, 1) := by decide +kernel
theorem dc_108_101 : decode prog_9_method_30_code 101 = .ok (.istore_n 3, 1) := by decide +kernel
theorem dc_108_102 : decode prog_9_method_30_code 102 = .ok (.iinc 4 (-1), 3) := by decide +kernel
theorem dc_108_105 : decode prog_9_method_30_code 105 = .ok (.goto (-76), 3) := by decide +kernel
theorem dc_108_108 : decode prog_9_method_30_code 108 = .ok (.iload_n 3, 1) := by decide +kernel
theorem dc_108_109 : decode prog_9_method_30_code 109 = .ok (.ireturn, 1) := by decide +kernel
theorem dc_109_0 : decode prog_9_method_31_code 0 = .ok (.iload_n 0, 1) := by decide +kernel
theorem dc_109_1 : decode prog_9_method_31_code 1 = .ok (.bipush 8, 2) := by decide +kernel
theorem dc_109_3 : decode prog_9_method_31_code 3 = .ok (.if_icmp .ne 8, 3) := by decide +kernel
theorem dc_109_6 : decode prog_9_method_31_code 6 = .ok (.bipush 30, 2) := by decide +kernel
theorem dc_109_8 : decode prog_9_method_31_code 8 = .ok (.goto 16, 3) := by decide +kernel
theorem dc_109_11 : decode prog_9_method_31_code 11 = .ok (.iload_n 0, 1) := by decide +kernel
theorem dc_109_12 : decode prog_9_method_31_code 12 = .ok (.iconst 2, 1) := by decide +kernel
theorem dc_109_13 : decode prog_9_method_31_code 13 = .ok (.irem, 1) := by decide +kernel
theorem dc_109_14 : decode prog_9_method_31_code 14 = .ok (.ifCond .ne 8, 3) := by decide +kernel
theorem dc_109_17 : decode prog_9_method_31_code 17 = .ok (.bipush 10, 2) := by decide +kernel
theorem dc_109_19 : decode prog_9_method_31_code 19 = .ok (.goto 5, 3) := by decide +kernel
theorem dc_109_22 : decode prog_9_method_31_code 22 = .ok (.bipush 14, 2) := by decide +kernel
theorem dc_109_24 : decode prog_9_method_31_code 24 = .ok (.ireturn, 1) := by decide +kernel
theorem dc_110_0 : decode prog_9_method_32_code 0 = .ok (.ldc 99, 2) := by decide +kernel
theorem dc_110_2 : decode prog_9_method_32_code 2 = .ok (.istore_n 2, 1) := by decide +kernel
theorem dc_110_3 : decode prog_9_method_32_code 3 = .ok (.iconst 0, 1) := by decide +kernel
theorem dc_110_4 : decode prog_9_method_32_code 4 = .ok (.istore_n 3, 1) := by decide +kernel
theorem dc_110_5 : decode prog_9_method_32_code 5 = .ok (.iload_n 3, 1) := by decide +kernel
theorem dc_110_6 : decode prog_9_method_32_code 6 = .ok (.bipush 9, 2) := by decide +kernel
theorem dc_110_8 : decode prog_9_method_32_code 8 = .ok (.if_icmp .ge 53, 3) := by decide +kernel
theorem dc_110_11 : decode prog_9_method_32_code 11 = .ok (.iload_n 1, 1) := by decide +kernel
theorem dc_110_12 : decode prog_9_method_32_code 12 = .ok (.iload_n 3, 1) := by decide +kernel
theorem dc_110_13 : decode prog_9_method_32_code 13 = .ok (.invokestatic 86, 3) := by decide +kernel
theorem dc_110_16 : decode prog_9_method_32_code 16 = .ok (.istore 4, 2) := by decide +kernel
theorem dc_110_18 : decode prog_9_method_32_code 18 = .ok (.iload 4, 2) := by decide +kernel
theorem dc_110_20 : decode prog_9_method_32_code 20 = .ok (.ifCond .ge 8, 3) := by decide +kernel
theorem dc_110_23 : decode prog_9_method_32_code 23 = .ok (.ldc 99, 2) := by decide +kernel
theorem dc_110_25 : decode prog_9_method_32_code 25 = .ok (.goto 15, 3) := by decide +kernel
theorem dc_110_28 : decode prog_9_method_32_code 28 = .ok (.aload_n 0, 1) := by decide +kernel
theorem dc_110_29 : decode prog_9_method_32_code 29 = .ok (.getfield 35, 3) := by decide +kernel
theorem dc_110_32 : decode prog_9_method_32_code 32 = .ok (.iload 4, 2) := by decide +kernel
theorem dc_110_34 : decode prog_9_method_32_code 34 = .ok (.iaload, 1) := by decide +kernel
theorem dc_110_35 : decode prog_9_method_32_code 35 = .ok (.iload_n 3, 1) := by decide +kernel
theorem dc_110_36 : decode prog_9_method_32_code 36 = .ok (.invokestatic 100, 3) := by decide +kernel
theorem dc_110_39 : decode prog_9_method_32_code 39 = .ok (.iadd, 1) := by decide +kernel
theorem dc_110_40 : decode prog_9_method_32_code 40 = .ok (.istore 5, 2) := by decide +kernel
theorem dc_110_42 : decode prog_9_method_32_code 42 = .ok (.iload 5, 2) := by decide +kernel
theorem dc_110_44 : decode prog_9_method_32_code 44 = .ok (.iload_n 2, 1) := by decide +kernel
theorem dc_110_45 : decode prog_9_method_32_code 45 = .ok (.if_icmp .ge 8, 3) := by decide +kernel
theorem dc_110_48 : decode prog_9_method_32_code 48 = .ok (.iload 5, 2) := by decide +kernel
theorem dc_110_50 : decode prog_9_method_32_code 50 = .ok (.goto 4, 3) := by decide +kernel
theorem dc_110_53 : decode prog_9_method_32_code 53 = .ok (.iload_n 2, 1) := by decide +kernel
theorem dc_110_54 : decode prog_9_method_32_code 54 = .ok (.istore_n 2, 1) := by decide +kernel
theorem dc_110_55 : decode prog_9_method_32_code 55 = .ok (.iinc 3 1, 3) := by decide +kernel
theorem dc_110_58 : decode prog_9_method_32_code 58 = .ok (.goto (-53), 3) := by decide +kernel
theorem dc_110_61 : decode prog_9_method_32_code 61 = .ok (.iload_n 2, 1) := by decide +kernel
theorem dc_110_62 : decode prog_9_method_32_code 62 = .ok (.ireturn, 1) := by decide +kernel
theorem dc_111_0 : decode prog_9_method_33_code 0 = .ok (.iconst 0, 1) := by decide +kernel
theorem dc_111_1 : decode prog_9_method_33_code 1 = .ok (.istore_n 3, 1) := by decide +kernel
theorem dc_111_2 : decode prog_9_method_33_code 2 = .ok (.iload_n 3, 1) := by decide +kernel
theorem dc_111_3 : decode prog_9_method_33_code 3 = .ok (.sipush 240, 3) := by decide +kernel
theorem dc_111_6 : decode prog_9_method_33_code 6 = .ok (.if_icmp .ge 43, 3) := by decide +kernel
theorem dc_111_9 : decode prog_9_method_33_code 9 = .ok (.aload_n 0, 1) := by decide +kernel
theorem dc_111_10 : decode prog_9_method_33_code 10 = .ok (.getfield 31, 3) := by decide +kernel
theorem dc_111_13 : decode prog_9_method_33_code 13 = .ok (.iload_n 3, 1) := by decide +kernel
theorem dc_111_14 : decode prog_9_method_33_code 14 = .ok (.aload_n 0, 1) := by decide +kernel
theorem dc_111_15 : decode prog_9_method_33_code 15 = .ok (.iload_n 3, 1) := by decide +kernel
theorem dc_111_16 : decode prog_9_method_33_code 16 = .ok (.iload_n 1, 1) := by decide +kernel
theorem dc_111_17 : decode prog_9_method_33_code 17 = .ok (.invokevirtual 72, 3) := by decide +kernel
theorem dc_111_20 : decode prog_9_method_33_code 20 = .ok (.bastore, 1) := by decide +kernel
theorem dc_111_21 : decode prog_9_method_33_code 21 = .ok (.aload_n 0, 1) := by decide +kernel
theorem dc_111_22 : decode prog_9_method_33_code 22 = .ok (.getfield 35, 3) := by decide +kernel
theorem dc_111_25 : decode prog_9_method_33_code 25 = .ok (.iload_n 3, 1) := by decide +kernel
theorem dc_111_26 : decode prog_9_method_33_code 26 = .ok (.aload_n 0, 1) := by decide +kernel
theorem dc_111_27 : decode prog_9_method_33_code 27 = .ok (.getfield 28, 3) := by decide +kernel
theorem dc_111_30 : decode prog_9_method_33_code 30 = .ok (.iload_n 3, 1) := by decide +kernel
theorem dc_111_31 : decode prog_9_method_33_code 31 = .ok (.iaload, 1) := by decide +kernel
theorem dc_111_32 : decode prog_9_method_33_code 32 = .ok (.iload_n 2, 1) := by decide +kernel
theorem dc_111_33 : decode prog_9_method_33_code 33 = .ok (.if_icmp .ne 7, 3) := by decide +kernel
theorem dc_111_36 : decode prog_9_method_33_code 36 = .ok (.iconst 0, 1) := by decide +kernel
theorem dc_111_37 : decode prog_9_method_33_code 37 = .ok (.goto 5, 3) := by decide +kernel
theorem dc_111_40 : decode prog_9_method_33_code 40 = .ok (.ldc 99, 2) := by decide +kernel
theorem dc_111_42 : decode prog_9_method_33_code 42 = .ok (.iastore, 1) := by decide +kernel
theorem dc_111_43 : decode prog_9_method_33_code 43 = .ok (.iinc 3 1, 3) := by decide +kernel
theorem dc_111_46 : decode prog_9_method_33_code 46 = .ok (.goto (-44), 3) := by decide +kernel
theorem dc_111_49 : decode prog_9_method_33_code 49 = .ok (.iconst 1, 1) := by decide +kernel
theorem dc_111_50 : decode prog_9_method_33_code 50 = .ok (.istore_n 3, 1) := by decide +kernel
theorem dc_111_51 : decode prog_9_method_33_code 51 = .ok (.iload_n 3, 1) := by decide +kernel
theorem dc_111_52 : decode prog_9_method_33_code 52 = .ok (.ifCond .eq 81, 3) := by decide +kernel
theorem dc_111_55 : decode prog_9_method_33_code 55 = .ok (.iconst 0, 1) := by decide +kernel
theorem dc_111_56 : decode prog_9_method_33_code 56 = .ok (.istore_n 3, 1) := by decide +kernel
theorem dc_111_57 : decode prog_9_method_33_code 57 = .ok (.iconst 0, 1) := by decide +kernel
theorem dc_111_58 : decode prog_9_method_33_code 58 = .ok (.istore 4, 2) := by decide +kernel
theorem dc_111_60 : decode prog_9_method_33_code 60 = .ok (.iload 4, 2) := by decide +kernel
theorem dc_111_62 : decode prog_9_method_33_code 62 = .ok (.sipush 240, 3) := by decide +kernel
theorem dc_111_65 : decode prog_9_method_33_code 65 = .ok (.if_icmp .ge 65, 3) := by decide +kernel
theorem dc_111_68 : decode prog_9_method_33_code 68 = .ok (.aload_n 0, 1) := by decide +kernel
theorem dc_111_69 : decode prog_9_method_33_code 69 = .ok (.getfield 31, 3) := by decide +kernel
theorem dc_111_72 : decode prog_9_method_33_code 72 = .ok (.iload 4, 2) := by decide +kernel
theorem dc_111_74 : decode prog_9_method_33_code 74 = .ok (.baload, 1) := by decide +kernel
theorem dc_111_75 : decode prog_9_method_33_code 75 = .ok (.ifCond .eq 22, 3) := by decide +kernel
theorem dc_111_78 : decode prog_9_method_33_code 78 = .ok (.aload_n 0, 1) := by decide +kernel
theorem dc_111_79 : decode prog_9_method_33_code 79 = .ok (.getfield 35, 3) := by decide +kernel
theorem dc_111_82 : decode prog_9_method_33_code 82 = .ok (.iload 4, 2) := by decide +kernel
theorem dc_111_84 : decode prog_9_method_33_code 84 = .ok (.iaload, 1) := by decide +kernel
theorem dc_111_85 : decode prog_9_method_33_code 85 = .ok (.ifCond .le 12, 3) := by decide +kernel
theorem dc_111_88 : decode prog_9_method_33_code 88 = .ok (.aload_n 0, 1) := by decide +kernel
theorem dc_111_89 : decode prog_9_method_33_code 89 = .ok (.iload 4, 2) := by decide +kernel
theorem dc_111_91 : decode prog_9_method_33_code 91 = .ok (.invokevirtual 103, 3) := by decide +kernel
theorem dc_111_94 : decode prog_9_method_33_code 94 = .ok (.goto 5, 3) := by decide +kernel
theorem dc_111_97 : decode prog_9_method_33_code 97 = .ok (.ldc 99, 2) := by decide +kernel
theorem dc_111_99 : decode prog_9_method_33_code 99 = .ok (.istore 5, 2) := by decide +kernel
theorem dc_111_101 : decode prog_9_method_33_code 101 = .ok (.iload 5, 2) := by decide +kernel
theorem dc_111_103 : decode prog_9_method_33_code 103 = .ok (.aload_n 0, 1) := by decide +kernel
theorem dc_111_104 : decode prog_9_method_33_code 104 = .ok (.getfield 35, 3) := by decide +kernel
theorem dc_111_107 : decode prog_9_method_33_code 107 = .ok (.iload 4, 2) := by decide +kernel
theorem dc_111_109 : decode prog_9_method_33_code 109 = .ok (.iaload, 1) := by decide +kernel
theorem dc_111_110 : decode prog_9_method_33_code 110 = .ok (.if_icmp .ge 14, 3) := by decide +kernel
theorem dc_111_113 : decode prog_9_method_33_code 113 = .ok (.aload_n 0, 1) := by decide +kernel
theorem dc_111_114 : decode prog_9_method_33_code 114 = .ok (.getfield 35, 3) := by decide +kernel
theorem dc_111_117 : decode prog_9_method_33_code 117 = .ok (.iload 4, 2) := by decide +kernel
theorem dc_111_119 : decode prog_9_method_33_code 119 = .ok (.iload 5, 2) := by decide +kernel
theorem dc_111_121 : decode prog_9_method_33_code 121 = .ok (.iastore, 1) := by decide +kernel
theorem dc_111_122 : decode prog_9_method_33_code 122 = .ok (.iconst 1, 1) := by decide +kernel
theorem dc_111_123 : decode prog_9_method_33_code 123 = .ok (.istore_n 3, 1) := by decide +kernel
theorem dc_111_124 : decode prog_9_method_33_code 124 = .ok (.iinc 4 1, 3) := by decide +kernel
theorem dc_111_127 : decode prog_9_method_33_code 127 = .ok (.goto (-67), 3) := by decide +kernel
theorem dc_111_130 : decode prog_9_method_33_code 130 = .ok (.goto (-79), 3) := by decide +kernel
theorem dc_111_133 : decode prog_9_method_33_code 133 = .ok (.return_, 1) := by decide +kernel
theorem dc_112_0 : decode prog_9_method_34_code 0 = .ok (.iload_n 1, 1) := by decide +kernel
theorem dc_112_1 : decode prog_9_method_34_code 1 = .ok (.istore 4, 2) := by decide +kernel
theorem dc_112_3 : decode prog_9_method_34_code 3 = .ok (.iload_n 2, 1) := by decide +kernel
theorem dc_112_4 : decode prog_9_method_34_code 4 = .ok (.istore 5, 2) := by decide +kernel
theorem dc_112_6 : decode prog_9_method_34_code 6 = .ok (.iload 5, 2) := by decide +kernel
theorem dc_112_8 : decode prog_9_method_34_code 8 = .ok (.ifCond .le 146, 3) := by decide +kernel
theorem dc_112_11 : decode prog_9_method_34_code 11 = .ok (.aload_n 0, 1) := by decide +kernel
theorem dc_112_12 : decode prog_9_method_34_code 12 = .ok (.getfield 7, 3) := by decide +kernel
theorem dc_112_15 : decode prog_9_method_34_code 15 = .ok (.sipush 352, 3) := by decide +kernel
theorem dc_112_18 : decode prog_9_method_34_code 18 = .ok (.iload 4, 2) := by decide +kernel
theorem dc_112_20 : decode prog_9_method_34_code 20 = .ok (.iadd, 1) := by decide +kernel
theorem dc_112_21 : decode prog_9_method_34_code 21 = .ok (.aload_n 0, 1) := by decide +kernel
theorem dc_112_22 : decode prog_9_method_34_code 22 = .ok (.getfield 22, 3) := by decide +kernel
theorem dc_112_25 : decode prog_9_method_34_code 25 = .ok (.iload 4, 2) := by decide +kernel
theorem dc_112_27 : decode prog_9_method_34_code 27 = .ok (.iaload, 1) := by decide +kernel
theorem dc_112_28 : decode prog_9_method_34_code 28 = .ok (.ifCond .ge 9, 3) := by decide +kernel
theorem dc_112_31 : decode prog_9_method_34_code 31 = .ok (.iload_n 3, 1) := by decide +kernel
theorem dc_112_32 : decode prog_9_method_34_code 32 = .ok (.iconst 1, 1) := by decide +kernel
theorem dc_112_33 : decode prog_9_method_34_code 33 = .ok (.iadd, 1) := by decide +kernel
theorem dc_112_34 : decode prog_9_method_34_code 34 = .ok (.goto 4, 3) := by decide +kernel
theorem dc_112_37 : decode prog_9_method_34_code 37 = .ok (.iconst 0, 1) := by decide +kernel
theorem dc_112_38 : decode prog_9_method_34_code 38 = .ok (.iastore, 1) := by decide +kernel
theorem dc_112_39 : decode prog_9_method_34_code 39 = .ok (.sipush 240, 3) := by decide +kernel
theorem dc_112_42 : decode prog_9_method_34_code 42 = .ok (.istore 6, 2) := by decide +kernel
theorem dc_112_44 : decode prog_9_method_34_code 44 = .ok (.iconst 0, 1) := by decide +kernel
theorem dc_112_45 : decode prog_9_method_34_code 45 = .ok (.istore 7, 2) := by decide +kernel
theorem dc_112_47 : decode prog_9_method_34_code 47 = .ok (.iconst 0, 1) := by decide +kernel
theorem dc_112_48 : decode prog_9_method_34_code 48 = .ok (.istore 8, 2) := by decide +kernel
theorem dc_112_50 : decode prog_9_method_34_code 50 = .ok (.iload 8, 2) := by decide +kernel
theorem dc_112_52 : decode prog_9_method_34_code 52 = .ok (.bipush 9, 2) := by decide +kernel
theorem dc_112_54 : decode prog_9_method_34_code 54 = .ok (.if_icmp .ge 86, 3) := by decide +kernel
theorem dc_112_57 : decode prog_9_method_34_code 57 = .ok (.iload 4, 2) := by decide +kernel
theorem dc_112_59 : decode prog_9_method_34_code 59 = .ok (.iload 8, 2) := by decide +kernel
theorem dc_112_61 : decode prog_9_method_34_code 61 = .ok (.invokestatic 86, 3) := by decide +kernel
theorem dc_112_64 : decode prog_9_method_34_code 64 = .ok (.istore 9, 2) := by decide +kernel
theorem dc_112_66 : decode prog_9_method_34_code 66 = .ok (.iload 9, 2) := by decide +kernel
theorem dc_112_68 : decode prog_9_method_34_code 68 = .ok (.ifCond .lt 32, 3) := by decide +kernel
theorem dc_112_71 : decode prog_9_method_34_code 71 = .ok (.aload_n 0, 1) := by decide +kernel
theorem dc_112_72 : decode prog_9_method_34_code 72 = .ok (.getfield 35, 3) := by decide +kernel
theorem dc_112_75 : decode prog_9_method_34_code 75 = .ok (.iload 9, 2) := by decide +kernel
theorem dc_112_77 : decode prog_9_method_34_code 77 = .ok (.iaload, 1) := by decide +kernel
theorem dc_112_78 : decode prog_9_method_34_code 78 = .ok (.iload 8, 2) := by decide +kernel
theorem dc_112_80 : decode prog_9_method_34_code 80 = .ok (.invokestatic 100, 3) := by decide +kernel
theorem dc_112_83 : decode prog_9_method_34_code 83 = .ok (.iadd, 1) := by decide +kernel
theorem dc_112_84 : decode prog_9_method_34_code 84 = .ok (.iload 5, 2) := by decide +kernel
theorem dc_112_86 : decode prog_9_method_34_code 86 = .ok (.if_icmp .ne 14, 3) := by decide +kernel
theorem dc_112_89 : decode prog_9_method_34_code 89 = .ok (.iload 9, 2) := by decide +kernel
theorem dc_112_91 : decode prog_9_method_34_code 91 = .ok (.iload 6, 2) := by decide +kernel
theorem dc_112_93 : decode prog_9_method_34_code 93 = .ok (.if_icmp .ge 7, 3) := by decide +kernel
theorem dc_112_96 : decode prog_9_method_34_code 96 = .ok (.iconst 1, 1) := by decide +kernel
theorem dc_112_97 : decode prog_9_method_34_code 97 = .ok (.goto 4, 3) := by decide +kernel
theorem dc_112_100 : decode prog_9_method_34_code 100 = .ok (.iconst 0, 1) := by decide +kernel
theorem dc_112_101 : decode prog_9_method_34_code 101 = .ok (.istore 10, 2) := by decide +kernel
theorem dc_112_103 : decode prog_9_method_34_code 103 = .ok (.iload 10, 2) := by decide +kernel
theorem dc_112_105 : decode prog_9_method_34_code 105 = .ok (.ifCond .eq 11, 3) := by decide +kernel
theorem dc_112_108 : decode prog_9_method_34_code 108 = .ok (.iload 8, 2) := by decide +kernel
theorem dc_112_110 : decode prog_9_method_34_code 110 = .ok (.invokestatic 100, 3) := by decide +kernel
theorem dc_112_113 : decode prog_9_method_34_code 113 = .ok (.goto 5, 3) := by decide +kernel
theorem dc_112_116 : decode prog_9_method_34_code 116 = .ok (.iload 7, 2) := by decide +kernel
theorem dc_112_118 : decode prog_9_method_34_code 118 = .ok (.istore 7, 2) := by decide +kernel
theorem dc_112_120 : decode prog_9_method_34_code 120 = .ok (.iload 10, 2) := by decide +kernel
theorem dc_112_122 : decode prog_9_method_34_code 122 = .ok (.ifCond .eq 8, 3) := by decide +kernel
theorem dc_112_125 : decode prog_9_method_34_code 125 = .ok (.iload 9, 2) := by decide +kernel
theorem dc_112_127 : decode prog_9_method_34_code 127 = .ok (.goto 5, 3) := by decide +kernel
theorem dc_112_130 : decode prog_9_method_34_code 130 = .ok (.iload 6, 2) := by decide +kernel
theorem dc_112_132 : decode prog_9_method_34_code 132 = .ok (.istore 6, 2) := by decide +kernel
theorem dc_112_134 : decode prog_9_method_34_code 134 = .ok (.iinc 8 1, 3) := by decide +kernel
theorem dc_112_137 : decode prog_9_method_34_code 137 = .ok (.goto (-87), 3) := by decide +kernel
theorem dc_112_140 : decode prog_9_method_34_code 140 = .ok (.iload 5, 2) := by decide +kernel
theorem dc_112_142 : decode prog_9_method_34_code 142 = .ok (.iload 7, 2) := by decide +kernel
theorem dc_112_144 : decode prog_9_method_34_code 144 = .ok (.isub, 1) := by decide +kernel
theorem dc_112_145 : decode prog_9_method_34_code 145 = .ok (.istore 5, 2) := by decide +kernel
theorem dc_112_147 : decode prog_9_method_34_code 147 = .ok (.iload 6, 2) := by decide +kernel
theorem dc_112_149 : decode prog_9_method_34_code 149 = .ok (.istore 4, 2) := by decide +kernel
theorem dc_112_151 : decode prog_9_method_34_code 151 = .ok (.goto (-145), 3) := by decide +kernel
theorem dc_112_154 : decode prog_9_method_34_code 154 = .ok (.aload_n 0, 1) := by decide +kernel
theorem dc_112_155 : decode prog_9_method_34_code 155 = .ok (.getfield 7, 3) := by decide +kernel
theorem dc_112_158 : decode prog_9_method_34_code 158 = .ok (.sipush 352, 3) := by decide +kernel
theorem dc_112_161 : decode prog_9_method_34_code 161 = .ok (.iload 4, 2) := by decide +kernel
theorem dc_112_163 : decode prog_9_method_34_code 163 = .ok (.iadd, 1) := by decide +kernel
theorem dc_112_164 : decode prog_9_method_34_code 164 = .ok (.aload_n 0, 1) := by decide +kernel
theorem dc_112_165 : decode prog_9_method_34_code 165 = .ok (.getfield 22, 3) := by decide +kernel
theorem dc_112_168 : decode prog_9_method_34_code 168 = .ok (.iload 4, 2) := by decide +kernel
theorem dc_112_170 : decode prog_9_method_34_code 170 = .ok (.iaload, 1) := by decide +kernel
theorem dc_112_171 : decode prog_9_method_34_code 171 = .ok (.ifCond .ge 9, 3) := by decide +kernel
theorem dc_112_174 : decode prog_9_method_34_code 174 = .ok (.iload_n 3, 1) := by decide +kernel
theorem dc_112_175 : decode prog_9_method_34_code 175 = .ok (.iconst 1, 1) := by decide +kernel
theorem dc_112_176 : decode prog_9_method_34_code 176 = .ok (.iadd, 1) := by decide +kernel
theorem dc_112_177 : decode prog_9_method_34_code 177 = .ok (.goto 4, 3) := by decide +kernel
theorem dc_112_180 : decode prog_9_method_34_code 180 = .ok (.iconst 0, 1) := by decide +kernel
theorem dc_112_181 : decode prog_9_method_34_code 181 = .ok (.iastore, 1) := by decide +kernel
theorem dc_112_182 : decode prog_9_method_34_code 182 = .ok (.return_, 1) := by decide +kernel
theorem dc_113_0 : decode prog_9_method_35_code 0 = .ok (.aload_n 0, 1) := by decide +kernel
theorem dc_113_1 : decode prog_9_method_35_code 1 = .ok (.iload_n 1, 1) := by decide +kernel
theorem dc_113_2 : decode prog_9_method_35_code 2 = .ok (.invokevirtual 106, 3) := by decide +kernel
theorem dc_113_5 : decode prog_9_method_35_code 5 = .ok (.istore_n 2, 1) := by decide +kernel
theorem dc_113_6 : decode prog_9_method_35_code 6 = .ok (.iload_n 2, 1) := by decide +kernel
theorem dc_113_7 : decode prog_9_method_35_code 7 = .ok (.ifCond .ge 5, 3) := by decide +kernel
theorem dc_113_10 : decode prog_9_method_35_code 10 = .ok (.iconst 0, 1) := by decide +kernel
theorem dc_113_11 : decode prog_9_method_35_code 11 = .ok (.ireturn, 1) := by decide +kernel
theorem dc_113_12 : decode prog_9_method_35_code 12 = .ok (.aload_n 0, 1) := by decide +kernel
theorem dc_113_13 : decode prog_9_method_35_code 13 = .ok (.iload_n 1, 1) := by decide +kernel
theorem dc_113_14 : decode prog_9_method_35_code 14 = .ok (.aload_n 0, 1) := by decide +kernel
theorem dc_113_15 : decode prog_9_method_35_code 15 = .ok (.getfield 28, 3) := by decide +kernel
theorem dc_113_18 : decode prog_9_method_35_code 18 = .ok (.aload_n 0, 1) := by decide +kernel
theorem dc_113_19 : decode prog_9_method_35_code 19 = .ok (.aload_n 0, 1) := by decide +kernel
theorem dc_113_20 : decode prog_9_method_35_code 20 = .ok (.iload_n 1, 1) := by decide +kernel
theorem dc_113_21 : decode prog_9_method_35_code 21 = .ok (.invokevirtual 89, 3) := by decide +kernel
theorem dc_113_24 : decode prog_9_method_35_code 24 = .ok (.invokevirtual 96, 3) := by decide +kernel
theorem dc_113_27 : decode prog_9_method_35_code 27 = .ok (.iaload, 1) := by decide +kernel
theorem dc_113_28 : decode prog_9_method_35_code 28 = .ok (.invokevirtual 109, 3) := by decide +kernel
theorem dc_113_31 : decode prog_9_method_35_code 31 = .ok (.iconst (-1), 1) := by decide +kernel
theorem dc_113_32 : decode prog_9_method_35_code 32 = .ok (.istore_n 3, 1) := by decide +kernel
theorem dc_113_33 : decode prog_9_method_35_code 33 = .ok (.ldc 99, 2) := by decide +kernel
theorem dc_113_35 : decode prog_9_method_35_code 35 = .ok (.istore 4, 2) := by decide +kernel
theorem dc_113_37 : decode prog_9_method_35_code 37 = .ok (.iconst 0, 1) := by decide +kernel
theorem dc_113_38 : decode prog_9_method_35_code 38 = .ok (.istore 5, 2) := by decide +kernel
theorem dc_113_40 : decode prog_9_method_35_code 40 = .ok (.iload 5, 2) := by decide +kernel
theorem dc_113_42 : decode prog_9_method_35_code 42 = .ok (.sipush 240, 3) := by decide +kernel
theorem dc_113_45 : decode prog_9_method_35_code 45 = .ok (.if_icmp .ge 63, 3) := by decide +kernel
theorem dc_113_48 : decode prog_9_method_35_code 48 = .ok (.aload_n 0, 1) := by decide +kernel
theorem dc_113_49 : decode prog_9_method_35_code 49 = .ok (.getfield 22, 3) := by decide +kernel
theorem dc_113_52 : decode prog_9_method_35_code 52 = .ok (.iload 5, 2) := by decide +kernel
theorem dc_113_54 : decode prog_9_method_35_code 54 = .ok (.iaload, 1) := by decide +kernel
theorem dc_113_55 : decode prog_9_method_35_code 55 = .ok (.iload_n 2, 1) := by decide +kernel
theorem dc_113_56 : decode prog_9_method_35_code 56 = .ok (.if_icmp .ne 12, 3) := by decide +kernel
theorem dc_113_59 : decode prog_9_method_35_code 59 = .ok (.aload_n 0, 1) := by decide +kernel
theorem dc_113_60 : decode prog_9_method_35_code 60 = .ok (.iload 5, 2) := by decide +kernel
theorem dc_113_62 : decode prog_9_method_35_code 62 = .ok (.invokevirtual 103, 3) := by decide +kernel
theorem dc_113_65 : decode prog_9_method_35_code 65 = .ok (.goto 5, 3) := by decide +kernel
theorem dc_113_68 : decode prog_9_method_35_code 68 = .ok (.ldc 99, 2) := by decide +kernel
theorem dc_113_70 : decode prog_9_method_35_code 70 = .ok (.istore 6, 2) := by decide +kernel
theorem dc_113_72 : decode prog_9_method_35_code 72 = .ok (.iload 6, 2) := by decide +kernel
theorem dc_113_74 : decode prog_9_method_35_code 74 = .ok (.iload 4, 2) := by decide +kernel
theorem dc_113_76 : decode prog_9_method_35_code 76 = .ok (.if_icmp .ge 8, 3) := by decide +kernel
theorem dc_113_79 : decode prog_9_method_35_code 79 = .ok (.iload 5, 2) := by decide +kernel
theorem dc_113_81 : decode prog_9_method_35_code 81 = .ok (.goto 4, 3) := by decide +kernel
theorem dc_113_84 : decode prog_9_method_35_code 84 = .ok (.iload_n 3, 1) := by decide +kernel
theorem dc_113_85 : decode prog_9_method_35_code 85 = .ok (.istore_n 3, 1) := by decide +kernel
theorem dc_113_86 : decode prog_9_method_35_code 86 = .ok (.iload 6, 2) := by decide +kernel
theorem dc_113_88 : decode prog_9_method_35_code 88 = .ok (.iload 4, 2) := by decide +kernel
theorem dc_113_90 : decode prog_9_method_35_code 90 = .ok (.if_icmp .ge 8, 3) := by decide +kernel
theorem dc_113_93 : decode prog_9_method_35_code 93 = .ok (.iload 6, 2) := by decide +kernel
theorem dc_113_95 : decode prog_9_method_35_code 95 = .ok (.goto 5, 3) := by decide +kernel
theorem dc_113_98 : decode prog_9_method_35_code 98 = .ok (.iload 4, 2) := by decide +kernel
theorem dc_113_100 : decode prog_9_method_35_code 100 = .ok (.istore 4, 2) := by decide +kernel
theorem dc_113_102 : decode prog_9_method_35_code 102 = .ok (.iinc 5 1, 3) := by decide +kernel
theorem dc_113_105 : decode prog_9_method_35_code 105 = .ok (.goto (-65), 3) := by decide +kernel
theorem dc_113_108 : decode prog_9_method_35_code 108 = .ok (.iload_n 3, 1) := by decide +kernel
theorem dc_113_109 : decode prog_9_method_35_code 109 = .ok (.ifCond .ge 6, 3) := by decide +kernel
theorem dc_113_112 : decode prog_9_method_35_code 112 = .ok (.bipush (-2), 2) := by decide +kernel
theorem dc_113_114 : decode prog_9_method_35_code 114 = .ok (.ireturn, 1) := by decide +kernel
theorem dc_113_115 : decode prog_9_method_35_code 115 = .ok (.aload_n 0, 1) := by decide +kernel
theorem dc_113_116 : decode prog_9_method_35_code 116 = .ok (.iload_n 3, 1) := by decide +kernel
theorem dc_113_117 : decode prog_9_method_35_code 117 = .ok (.iload 4, 2) := by decide +kernel
theorem dc_113_119 : decode prog_9_method_35_code 119 = .ok (.iload_n 2, 1) := by decide +kernel
theorem dc_113_120 : decode prog_9_method_35_code 120 = .ok (.invokevirtual 113, 3) := by decide +kernel
theorem dc_113_123 : decode prog_9_method_35_code 123 = .ok (.aload_n 0, 1) := by decide +kernel
theorem dc_113_124 : decode prog_9_method_35_code 124 = .ok (.invokevirtual 47, 3) := by decide +kernel
theorem dc_113_127 : decode prog_9_method_35_code 127 = .ok (.iload 4, 2) := by decide +kernel
theorem dc_113_129 : decode prog_9_method_35_code 129 = .ok (.ireturn, 1) := by decide +kernel
theorem dc_114_0 : decode prog_9_method_36_code 0 = .ok (.aload_n 0, 1) := by decide +kernel
theorem dc_114_1 : decode prog_9_method_36_code 1 = .ok (.iload_n 1, 1) := by decide +kernel
theorem dc_114_2 : decode prog_9_method_36_code 2 = .ok (.invokevirtual 60, 3) := by decide +kernel
theorem dc_114_5 : decode prog_9_method_36_code 5 = .ok (.ifCond .ne 5, 3) := by decide +kernel
theorem dc_114_8 : decode prog_9_method_36_code 8 = .ok (.iconst (-1), 1) := by decide +kernel
theorem dc_114_9 : decode prog_9_method_36_code 9 = .ok (.ireturn, 1) := by decide +kernel
theorem dc_114_10 : decode prog_9_method_36_code 10 = .ok (.aload_n 0, 1) := by decide +kernel
theorem dc_114_11 : decode prog_9_method_36_code 11 = .ok (.invokevirtual 54, 3) := by decide +kernel
theorem dc_114_14 : decode prog_9_method_36_code 14 = .ok (.aload_n 0, 1) := by decide +kernel
theorem dc_114_15 : decode prog_9_method_36_code 15 = .ok (.aload_n 0, 1) := by decide +kernel
theorem dc_114_16 : decode prog_9_method_36_code 16 = .ok (.getfield 19, 3) := by decide +kernel
theorem dc_114_19 : decode prog_9_method_36_code 19 = .ok (.iload_n 1, 1) := by decide +kernel
theorem dc_114_20 : decode prog_9_method_36_code 20 = .ok (.iaload, 1) := by decide +kernel
theorem dc_114_21 : decode prog_9_method_36_code 21 = .ok (.invokevirtual 117, 3) := by decide +kernel
theorem dc_114_24 : decode prog_9_method_36_code 24 = .ok (.istore_n 2, 1) := by decide +kernel
theorem dc_114_25 : decode prog_9_method_36_code 25 = .ok (.aload_n 0, 1) := by decide +kernel
theorem dc_114_26 : decode prog_9_method_36_code 26 = .ok (.invokevirtual 57, 3) := by decide +kernel
theorem dc_114_29 : decode prog_9_method_36_code 29 = .ok (.iload_n 2, 1) := by decide +kernel
theorem dc_114_30 : decode prog_9_method_36_code 30 = .ok (.ireturn, 1) := by decide +kernel
theorem dc_115_0 : decode prog_9_method_37_code 0 = .ok (.iconst 0, 1) := by decide +kernel
theorem dc_115_1 : decode prog_9_method_37_code 1 = .ok (.istore_n 2, 1) := by decide +kernel
theorem dc_115_2 : decode prog_9_method_37_code 2 = .ok (.bipush 20, 2) := by decide +kernel
theorem dc_115_4 : decode prog_9_method_37_code 4 = .ok (.istore_n 3, 1) := by decide +kernel
theorem dc_115_5 : decode prog_9_method_37_code 5 = .ok (.iconst (-1), 1) := by decide +kernel
theorem dc_115_6 : decode prog_9_method_37_code 6 = .ok (.istore 4, 2) := by decide +kernel
theorem dc_115_8 : decode prog_9_method_37_code 8 = .ok (.bipush 20, 2) := by decide +kernel
theorem dc_115_10 : decode prog_9_method_37_code 10 = .ok (.istore 5, 2) := by decide +kernel
theorem dc_115_12 : decode prog_9_method_37_code 12 = .ok (.iconst (-1), 1) := by decide +kernel
theorem dc_115_13 : decode prog_9_method_37_code 13 = .ok (.istore 6, 2) := by decide +kernel
theorem dc_115_15 : decode prog_9_method_37_code 15 = .ok (.iconst 0, 1) := by decide +kernel
theorem dc_115_16 : decode prog_9_method_37_code 16 = .ok (.istore 7, 2) := by decide +kernel
theorem dc_115_18 : decode prog_9_method_37_code 18 = .ok (.iload 7, 2) := by decide +kernel
theorem dc_115_20 : decode prog_9_method_37_code 20 = .ok (.aload_n 0, 1) := by decide +kernel
theorem dc_115_21 : decode prog_9_method_37_code 21 = .ok (.getfield 7, 3) := by decide +kernel
theorem dc_115_24 : decode prog_9_method_37_code 24 = .ok (.iconst 0, 1) := by decide +kernel
theorem dc_115_25 : decode prog_9_method_37_code 25 = .ok (.iaload, 1) := by decide +kernel
theorem dc_115_26 : decode prog_9_method_37_code 26 = .ok (.if_icmp .ge 118, 3) := by decide +kernel
theorem dc_115_29 : decode prog_9_method_37_code 29 = .ok (.aload_n 0, 1) := by decide +kernel
theorem dc_115_30 : decode prog_9_method_37_code 30 = .ok (.getfield 7, 3) := by decide +kernel
theorem dc_115_33 : decode prog_9_method_37_code 33 = .ok (.bipush 32, 2) := by decide +kernel
theorem dc_115_35 : decode prog_9_method_37_code 35 = .ok (.iload 7, 2) := by decide +kernel
theorem dc_115_37 : decode prog_9_method_37_code 37 = .ok (.iadd, 1) := by decide +kernel
theorem dc_115_38 : decode prog_9_method_37_code 38 = .ok (.iaload, 1) := by decide +kernel
theorem dc_115_39 : decode prog_9_method_37_code 39 = .ok (.istore 8, 2) := by decide +kernel
theorem dc_115_41 : decode prog_9_method_37_code 41 = .ok (.aload_n 0, 1) := by decide +kernel
theorem dc_115_42 : decode prog_9_method_37_code 42 = .ok (.getfield 19, 3) := by decide +kernel
theorem dc_115_45 : decode prog_9_method_37_code 45 = .ok (.iload 7, 2) := by decide +kernel
theorem dc_115_47 : decode prog_9_method_37_code 47 = .ok (.iaload, 1) := by decide +kernel
theorem dc_115_48 : decode prog_9_method_37_code 48 = .ok (.iload_n 1, 1) := by decide +kernel
theorem dc_115_49 : decode prog_9_method_37_code 49 = .ok (.if_icmp .ne 89, 3) := by decide +kernel
theorem dc_115_52 : decode prog_9_method_37_code 52 = .ok (.iload 8, 2) := by decide +kernel
theorem dc_115_54 : decode prog_9_method_37_code 54 = .ok (.ifCond .le 84, 3) := by decide +kernel
theorem dc_115_57 : decode prog_9_method_37_code 57 = .ok (.iload 8, 2) := by decide +kernel
theorem dc_115_59 : decode prog_9_method_37_code 59 = .ok (.bipush 12, 2) := by decide +kernel
theorem dc_115_61 : decode prog_9_method_37_code 61 = .ok (.irem, 1) := by decide +kernel
theorem dc_115_62 : decode prog_9_method_37_code 62 = .ok (.istore 9, 2) := by decide +kernel
theorem dc_115_64 : decode prog_9_method_37_code 64 = .ok (.iload 8, 2) := by decide +kernel
theorem dc_115_66 : decode prog_9_method_37_code 66 = .ok (.bipush 120, 2) := by decide +kernel
theorem dc_115_68 : decode prog_9_method_37_code 68 = .ok (.irem, 1) := by decide +kernel
theorem dc_115_69 : decode prog_9_method_37_code 69 = .ok (.bipush 12, 2) := by decide +kernel
theorem dc_115_71 : decode prog_9_method_37_code 71 = .ok (.idiv, 1) := by decide +kernel
theorem dc_115_72 : decode prog_9_method_37_code 72 = .ok (.istore 10, 2) := by decide +kernel
theorem dc_115_74 : decode prog_9_method_37_code 74 = .ok (.iinc 2 1, 3) := by decide +kernel
theorem dc_115_77 : decode prog_9_method_37_code 77 = .ok (.iload 9, 2) := by decide +kernel
theorem dc_115_79 : decode prog_9_method_37_code 79 = .ok (.iload_n 3, 1) := by decide +kernel
theorem dc_115_80 : decode prog_9_method_37_code 80 = .ok (.if_icmp .ge 8, 3) := by decide +kernel
theorem dc_115_83 : decode prog_9_method_37_code 83 = .ok (.iload 9, 2) := by decide +kernel
theorem dc_115_85 : decode prog_9_method_37_code 85 = .ok (.goto 4, 3) := by decide +kernel
theorem dc_115_88 : decode prog_9_method_37_code 88 = .ok (.iload_n 3, 1) := by decide +kernel
theorem dc_115_89 : decode prog_9_method_37_code 89 = .ok (.istore_n 3, 1) := by decide +kernel
theorem dc_115_90 : decode prog_9_method_37_code 90 = .ok (.iload 9, 2) := by decide +kernel
theorem dc_115_92 : decode prog_9_method_37_code 92 = .ok (.iload 4, 2) := by decide +kernel
theorem dc_115_94 : decode prog_9_method_37_code 94 = .ok (.if_icmp .le 8, 3) := by decide +kernel
theorem dc_115_97 : decode prog_9_method_37_code 97 = .ok (.iload 9, 2) := by decide +kernel
theorem dc_115_99 : decode prog_9_method_37_code 99 = .ok (.goto 5, 3) := by decide +kernel
theorem dc_115_102 : decode prog_9_method_37_code 102 = .ok (.iload 4, 2) := by decide +kernel
theorem dc_115_104 : decode prog_9_method_37_code 104 = .ok (.istore 4, 2) := by decide +kernel
theorem dc_115_106 : decode prog_9_method_37_code 106 = .ok (.iload 10, 2) := by decide +kernel
theorem dc_115_108 : decode prog_9_method_37_code 108 = .ok (.iload 5, 2) := by decide +kernel
theorem dc_115_110 : decode prog_9_method_37_code 110 = .ok (.if_icmp .ge 8, 3) := by decide +kernel
theorem dc_115_113 : decode prog_9_method_37_code 113 = .ok (.iload 10, 2) := by decide +kernel
theorem dc_115_115 : decode prog_9_method_37_code 115 = .ok (.goto 5, 3) := by decide +kernel
theorem dc_115_118 : decode prog_9_method_37_code 118 = .ok (.iload 5, 2) := by decide +kernel
theorem dc_115_120 : decode prog_9_method_37_code 120 = .ok (.istore 5, 2) := by decide +kernel
theorem dc_115_122 : decode prog_9_method_37_code 122 = .ok (.iload 10, 2) := by decide +kernel
theorem dc_115_124 : decode prog_9_method_37_code 124 = .ok (.iload 6, 2) := by decide +kernel
theorem dc_115_126 : decode prog_9_method_37_code 126 = .ok (.if_icmp .le 8, 3) := by decide +kernel
theorem dc_115_129 : decode prog_9_method_37_code 129 = .ok (.iload 10, 2) := by decide +kernel
theorem dc_115_131 : decode prog_9_method_37_code 131 = .ok (.goto 5, 3) := by decide +kernel
theorem dc_115_134 : decode prog_9_method_37_code 134 = .ok (.iload 6, 2) := by decide +kernel
theorem dc_115_136 : decode prog_9_method_37_code 136 = .ok (.istore 6, 2) := by decide +kernel
theorem dc_115_138 : decode prog_9_method_37_code 138 = .ok (.iinc 7 1, 3) := by decide +kernel
theorem dc_115_141 : decode prog_9_method_37_code 141 = .ok (.goto (-123), 3) := by decide +kernel
theorem dc_115_144 : decode prog_9_method_37_code 144 = .ok (.iload_n 2, 1) := by decide +kernel
theorem dc_115_145 : decode prog_9_method_37_code 145 = .ok (.iconst 2, 1) := by decide +kernel
theorem dc_115_146 : decode prog_9_method_37_code 146 = .ok (.if_icmp .ge 7, 3) := by decide +kernel
theorem dc_115_149 : decode prog_9_method_37_code 149 = .ok (.iconst (-1), 1) := by decide +kernel
theorem dc_115_150 : decode prog_9_method_37_code 150 = .ok (.goto 13, 3) := by decide +kernel
theorem dc_115_153 : decode prog_9_method_37_code 153 = .ok (.iload 4, 2) := by decide +kernel
theorem dc_115_155 : decode prog_9_method_37_code 155 = .ok (.iload_n 3, 1) := by decide +kernel
theorem dc_115_156 : decode prog_9_method_37_code 156 = .ok (.isub, 1) := by decide +kernel
theorem dc_115_157 : decode prog_9_method_37_code 157 = .ok (.iload 6, 2) := by decide +kernel
theorem dc_115_159 : decode prog_9_method_37_code 159 = .ok (.iadd, 1) := by decide +kernel
theorem dc_115_160 : decode prog_9_method_37_code 160 = .ok (.iload 5, 2) := by decide +kernel
theorem dc_115_162 : decode prog_9_method_37_code 162 = .ok (.isub, 1) := by decide +kernel
theorem dc_115_163 : decode prog_9_method_37_code 163 = .ok (.ireturn, 1) := by decide +kernel
theorem dc_116_0 : decode prog_9_method_38_code 0 = .ok (.aload_n 0, 1) := by decide +kernel
theorem dc_116_1 : decode prog_9_method_38_code 1 = .ok (.invokevirtual 54, 3) := by decide +kernel
theorem dc_116_4 : decode prog_9_method_38_code 4 = .ok (.iconst 0, 1) := by decide +kernel
theorem dc_116_5 : decode prog_9_method_38_code 5 = .ok (.istore_n 1, 1) := by decide +kernel
theorem dc_116_6 : decode prog_9_method_38_code 6 = .ok (.iconst 0, 1) := by decide +kernel
theorem dc_116_7 : decode prog_9_method_38_code 7 = .ok (.istore_n 2, 1) := by decide +kernel
theorem dc_116_8 : decode prog_9_method_38_code 8 = .ok (.iload_n 2, 1) := by decide +kernel
theorem dc_116_9 : decode prog_9_method_38_code 9 = .ok (.bipush 21, 2) := by decide +kernel
theorem dc_116_11 : decode prog_9_method_38_code 11 = .ok (.if_icmp .ge 56, 3) := by decide +kernel
theorem dc_116_14 : decode prog_9_method_38_code 14 = .ok (.iconst 0, 1) := by decide +kernel
theorem dc_116_15 : decode prog_9_method_38_code 15 = .ok (.istore_n 3, 1) := by decide +kernel
theorem dc_116_16 : decode prog_9_method_38_code 16 = .ok (.iload_n 3, 1) := by decide +kernel
theorem dc_116_17 : decode prog_9_method_38_code 17 = .ok (.aload_n 0, 1) := by decide +kernel
theorem dc_116_18 : decode prog_9_method_38_code 18 = .ok (.getfield 7, 3) := by decide +kernel
theorem dc_116_21 : decode prog_9_method_38_code 21 = .ok (.iconst 0, 1) := by decide +kernel
theorem dc_116_22 : decode prog_9_method_38_code 22 = .ok (.iaload, 1) := by decide +kernel
theorem dc_116_23 : decode prog_9_method_38_code 23 = .ok (.if_icmp .ge 38, 3) := by decide +kernel
theorem dc_116_26 : decode prog_9_method_38_code 26 = .ok (.aload_n 0, 1) := by decide +kernel
theorem dc_116_27 : decode prog_9_method_38_code 27 = .ok (.getfield 19, 3) := by decide +kernel
theorem dc_116_30 : decode prog_9_method_38_code 30 = .ok (.iload_n 3, 1) := by decide +kernel
theorem dc_116_31 : decode prog_9_method_38_code 31 = .ok (.iaload, 1) := by decide +kernel
theorem dc_116_32 : decode prog_9_method_38_code 32 = .ok (.iload_n 3, 1) := by decide +kernel
theorem dc_116_33 : decode prog_9_method_38_code 33 = .ok (.if_icmp .ne 22, 3) := by decide +kernel
theorem dc_116_36 : decode prog_9_method_38_code 36 = .ok (.aload_n 0, 1) := by decide +kernel
theorem dc_116_37 : decode prog_9_method_38_code 37 = .ok (.iload_n 3, 1) := by decide +kernel
theorem dc_116_38 : decode prog_9_method_38_code 38 = .ok (.invokevirtual 120, 3) := by decide +kernel
theorem dc_116_41 : decode prog_9_method_38_code 41 = .ok (.iload_n 2, 1) := by decide +kernel
theorem dc_116_42 : decode prog_9_method_38_code 42 = .ok (.if_icmp .ne 13, 3) := by decide +kernel
theorem dc_116_45 : decode prog_9_method_38_code 45 = .ok (.aload_n 0, 1) := by decide +kernel
theorem dc_116_46 : decode prog_9_method_38_code 46 = .ok (.getfield 44, 3) := by decide +kernel
theorem dc_116_49 : decode prog_9_method_38_code 49 = .ok (.iload_n 1, 1) := by decide +kernel
theorem dc_116_50 : decode prog_9_method_38_code 50 = .ok (.iload_n 3, 1) := by decide +kernel
theorem dc_116_51 : decode prog_9_method_38_code 51 = .ok (.iastore, 1) := by decide +kernel
theorem dc_116_52 : decode prog_9_method_38_code 52 = .ok (.iinc 1 1, 3) := by decide +kernel
theorem dc_116_55 : decode prog_9_method_38_code 55 = .ok (.iinc 3 1, 3) := by decide +kernel
theorem dc_116_58 : decode prog_9_method_38_code 58 = .ok (.goto (-42), 3) := by decide +kernel
theorem dc_116_61 : decode prog_9_method_38_code 61 = .ok (.iinc 2 1, 3) := by decide +kernel
theorem dc_116_64 : decode prog_9_method_38_code 64 = .ok (.goto (-56), 3) := by decide +kernel
theorem dc_116_67 : decode prog_9_method_38_code 67 = .ok (.iconst 0, 1) := by decide +kernel
theorem dc_116_68 : decode prog_9_method_38_code 68 = .ok (.istore_n 2, 1) := by decide +kernel
theorem dc_116_69 : decode prog_9_method_38_code 69 = .ok (.iload_n 2, 1) := by decide +kernel
theorem dc_116_70 : decode prog_9_method_38_code 70 = .ok (.iload_n 1, 1) := by decide +kernel
theorem dc_116_71 : decode prog_9_method_38_code 71 = .ok (.if_icmp .ge 37, 3) := by decide +kernel
theorem dc_116_74 : decode prog_9_method_38_code 74 = .ok (.iconst 1, 1) := by decide +kernel
theorem dc_116_75 : decode prog_9_method_38_code 75 = .ok (.istore_n 3, 1) := by decide +kernel
theorem dc_116_76 : decode prog_9_method_38_code 76 = .ok (.iload_n 3, 1) := by decide +kernel
theorem dc_116_77 : decode prog_9_method_38_code 77 = .ok (.ifCond .eq 25, 3) := by decide +kernel
theorem dc_116_80 : decode prog_9_method_38_code 80 = .ok (.aload_n 0, 1) := by decide +kernel
theorem dc_116_81 : decode prog_9_method_38_code 81 = .ok (.aload_n 0, 1) := by decide +kernel
theorem dc_116_82 : decode prog_9_method_38_code 82 = .ok (.getfield 44, 3) := by decide +kernel
theorem dc_116_85 : decode prog_9_method_38_code 85 = .ok (.iload_n 2, 1) := by decide +kernel
theorem dc_116_86 : decode prog_9_method_38_code 86 = .ok (.iaload, 1) := by decide +kernel
theorem dc_116_87 : decode prog_9_method_38_code 87 = .ok (.invokevirtual 117, 3) := by decide +kernel
theorem dc_116_90 : decode prog_9_method_38_code 90 = .ok (.ifCond .le 7, 3) := by decide +kernel
theorem dc_116_93 : decode prog_9_method_38_code 93 = .ok (.iconst 1, 1) := by decide +kernel
theorem dc_116_94 : decode prog_9_method_38_code 94 = .ok (.goto 4, 3) := by decide +kernel
theorem dc_116_97 : decode prog_9_method_38_code 97 = .ok (.iconst 0, 1) := by decide +kernel
theorem dc_116_98 : decode prog_9_method_38_code 98 = .ok (.istore_n 3, 1) := by decide +kernel
theorem dc_116_99 : decode prog_9_method_38_code 99 = .ok (.goto (-23), 3) := by decide +kernel
theorem dc_116_102 : decode prog_9_method_38_code 102 = .ok (.iinc 2 1, 3) := by decide +kernel
theorem dc_116_105 : decode prog_9_method_38_code 105 = .ok (.goto (-36), 3) := by decide +kernel
theorem dc_116_108 : decode prog_9_method_38_code 108 = .ok (.iconst 0, 1) := by decide +kernel
theorem dc_116_109 : decode prog_9_method_38_code 109 = .ok (.istore_n 2, 1) := by decide +kernel
theorem dc_116_110 : decode prog_9_method_38_code 110 = .ok (.iconst 0, 1) := by decide +kernel
theorem dc_116_111 : decode prog_9_method_38_code 111 = .ok (.istore_n 3, 1) := by decide +kernel
theorem dc_116_112 : decode prog_9_method_38_code 112 = .ok (.iload_n 3, 1) := by decide +kernel
theorem dc_116_113 : decode prog_9_method_38_code 113 = .ok (.iload_n 1, 1) := by decide +kernel
theorem dc_116_114 : decode prog_9_method_38_code 114 = .ok (.if_icmp .ge 30, 3) := by decide +kernel
theorem dc_116_117 : decode prog_9_method_38_code 117 = .ok (.aload_n 0, 1) := by decide +kernel
theorem dc_116_118 : decode prog_9_method_38_code 118 = .ok (.aload_n 0, 1) := by decide +kernel
theorem dc_116_119 : decode prog_9_method_38_code 119 = .ok (.getfield 44, 3) := by decide +kernel
theorem dc_116_122 : decode prog_9_method_38_code 122 = .ok (.iload_n 3, 1) := by decide +kernel
theorem dc_116_123 : decode prog_9_method_38_code 123 = .ok (.iaload, 1) := by decide +kernel
theorem dc_116_124 : decode prog_9_method_38_code 124 = .ok (.invokevirtual 106, 3) := by decide +kernel
theorem dc_116_127 : decode prog_9_method_38_code 127 = .ok (.ifCond .ge 9, 3) := by decide +kernel
theorem dc_116_130 : decode prog_9_method_38_code 130 = .ok (.iload_n 2, 1) := by decide +kernel
theorem dc_116_131 : decode prog_9_method_38_code 131 = .ok (.iconst 1, 1) := by decide +kernel
theorem dc_116_132 : decode prog_9_method_38_code 132 = .ok (.iadd, 1) := by decide +kernel
theorem dc_116_133 : decode prog_9_method_38_code 133 = .ok (.goto 4, 3) := by decide +kernel
theorem dc_116_136 : decode prog_9_method_38_code 136 = .ok (.iload_n 2, 1) := by decide +kernel
theorem dc_116_137 : decode prog_9_method_38_code 137 = .ok (.istore_n 2, 1) := by decide +kernel
theorem dc_116_138 : decode prog_9_method_38_code 138 = .ok (.iinc 3 1, 3) := by decide +kernel
theorem dc_116_141 : decode prog_9_method_38_code 141 = .ok (.goto (-29), 3) := by decide +kernel
theorem dc_116_144 : decode prog_9_method_38_code 144 = .ok (.aload_n 0, 1) := by decide +kernel
theorem dc_116_145 : decode prog_9_method_38_code 145 = .ok (.invokevirtual 57, 3) := by decide +kernel
theorem dc_116_148 : decode prog_9_method_38_code 148 = .ok (.iload_n 2, 1) := by decide +kernel
theorem dc_116_149 : decode prog_9_method_38_code 149 = .ok (.ireturn, 1) := by decide +kernel
theorem dc_117_0 : decode prog_9_method_39_code 0 = .ok (.iconst 0, 1) := by decide +kernel
theorem dc_117_1 : decode prog_9_method_39_code 1 = .ok (.istore_n 3, 1) := by decide +kernel
theorem dc_117_2 : decode prog_9_method_39_code 2 = .ok (.iload_n 3, 1) := by decide +kernel
theorem dc_117_3 : decode prog_9_method_39_code 3 = .ok (.sipush 240, 3) := by decide +kernel
theorem dc_117_6 : decode prog_9_method_39_code 6 = .ok (.if_icmp .ge 31, 3) := by decide +kernel
theorem dc_117_9 : decode prog_9_method_39_code 9 = .ok (.aload_n 0, 1) := by decide +kernel
theorem dc_117_10 : decode prog_9_method_39_code 10 = .ok (.getfield 25, 3) := by decide +kernel
theorem dc_117_13 : decode prog_9_method_39_code 13 = .ok (.iload_n 3, 1) := by decide +kernel
theorem dc_117_14 : decode prog_9_method_39_code 14 = .ok (.iaload, 1) := by decide +kernel
theorem dc_117_15 : decode prog_9_method_39_code 15 = .ok (.iload_n 1, 1) := by decide +kernel
theorem dc_117_16 : decode prog_9_method_39_code 16 = .ok (.if_icmp .ne 15, 3) := by decide +kernel
theorem dc_117_19 : decode prog_9_method_39_code 19 = .ok (.aload_n 0, 1) := by decide +kernel
theorem dc_117_20 : decode prog_9_method_39_code 20 = .ok (.iload_n 3, 1) := by decide +kernel
theorem dc_117_21 : decode prog_9_method_39_code 21 = .ok (.iload_n 2, 1) := by decide +kernel
theorem dc_117_22 : decode prog_9_method_39_code 22 = .ok (.iconst 1, 1) := by decide +kernel
theorem dc_117_23 : decode prog_9_method_39_code 23 = .ok (.invokevirtual 68, 3) := by decide +kernel
theorem dc_117_26 : decode prog_9_method_39_code 26 = .ok (.ifCond .eq 5, 3) := by decide +kernel
theorem dc_117_29 : decode prog_9_method_39_code 29 = .ok (.iload_n 3, 1) := by decide +kernel
theorem dc_117_30 : decode prog_9_method_39_code 30 = .ok (.ireturn, 1) := by decide +kernel
theorem dc_117_31 : decode prog_9_method_39_code 31 = .ok (.iinc 3 1, 3) := by decide +kernel
theorem dc_117_34 : decode prog_9_method_39_code 34 = .ok (.goto (-32), 3) := by decide +kernel
theorem dc_117_37 : decode prog_9_method_39_code 37 = .ok (.iconst (-1), 1) := by decide +kernel
theorem dc_117_38 : decode prog_9_method_39_code 38 = .ok (.ireturn, 1) := by decide +kernel
theorem dc_118_0 : decode prog_9_method_40_code 0 = .ok (.iload_n 2, 1) := by decide +kernel
theorem dc_118_1 : decode prog_9_method_40_code 1 = .ok (.ifCond .lt 12, 3) := by decide +kernel
theorem dc_118_4 : decode prog_9_method_40_code 4 = .ok (.iload_n 2, 1) := by decide +kernel
theorem dc_118_5 : decode prog_9_method_40_code 5 = .ok (.iconst 3, 1) := by decide +kernel
theorem dc_118_6 : decode prog_9_method_40_code 6 = .ok (.if_icmp .gt 7, 3) := by decide +kernel
theorem dc_118_9 : decode prog_9_method_40_code 9 = .ok (.iload_n 1, 1) := by decide +kernel
theorem dc_118_10 : decode prog_9_method_40_code 10 = .ok (.ifCond .ge 5, 3) := by decide +kernel
theorem dc_118_13 : decode prog_9_method_40_code 13 = .ok (.iconst (-1), 1) := by decide +kernel
theorem dc_118_14 : decode prog_9_method_40_code 14 = .ok (.ireturn, 1) := by decide +kernel
theorem dc_118_15 : decode prog_9_method_40_code 15 = .ok (.iconst 0, 1) := by decide +kernel
theorem dc_118_16 : decode prog_9_method_40_code 16 = .ok (.istore_n 3, 1) := by decide +kernel
theorem dc_118_17 : decode prog_9_method_40_code 17 = .ok (.iconst 0, 1) := by decide +kernel
theorem dc_118_18 : decode prog_9_method_40_code 18 = .ok (.istore 4, 2) := by decide +kernel
theorem dc_118_20 : decode prog_9_method_40_code 20 = .ok (.iload 4, 2) := by decide +kernel
theorem dc_118_22 : decode prog_9_method_40_code 22 = .ok (.aload_n 0, 1) := by decide +kernel
theorem dc_118_23 : decode prog_9_method_40_code 23 = .ok (.getfield 7, 3) := by decide +kernel
theorem dc_118_26 : decode prog_9_method_40_code 26 = .ok (.iconst 0, 1) := by decide +kernel
theorem dc_118_27 : decode prog_9_method_40_code 27 = .ok (.iaload, 1) := by decide +kernel
theorem dc_118_28 : decode prog_9_method_40_code 28 = .ok (.if_icmp .ge 86, 3) := by decide +kernel
theorem dc_118_31 : decode prog_9_method_40_code 31 = .ok (.aload_n 0, 1) := by decide +kernel
theorem dc_118_32 : decode prog_9_method_40_code 32 = .ok (.getfield 19, 3) := by decide +kernel
theorem dc_118_35 : decode prog_9_method_40_code 35 = .ok (.iload 4, 2) := by decide +kernel
theorem dc_118_37 : decode prog_9_method_40_code 37 = .ok (.iaload, 1) := by decide +kernel
theorem dc_118_38 : decode prog_9_method_40_code 38 = .ok (.iload 4, 2) := by decide +kernel
theorem dc_118_40 : decode prog_9_method_40_code 40 = .ok (.if_icmp .ne 12, 3) := by decide +kernel
theorem dc_118_43 : decode prog_9_method_40_code 43 = .ok (.aload_n 0, 1) := by decide +kernel
theorem dc_118_44 : decode prog_9_method_40_code 44 = .ok (.iload 4, 2) := by decide +kernel
theorem dc_118_46 : decode prog_9_method_40_code 46 = .ok (.invokevirtual 106, 3) := by decide +kernel
theorem dc_118_49 : decode prog_9_method_40_code 49 = .ok (.goto 4, 3) := by decide +kernel
theorem dc_118_52 : decode prog_9_method_40_code 52 = .ok (.iconst (-1), 1) := by decide +kernel
theorem dc_118_53 : decode prog_9_method_40_code 53 = .ok (.istore 5, 2) := by decide +kernel
theorem dc_118_55 : decode prog_9_method_40_code 55 = .ok (.iload 5, 2) := by decide +kernel
theorem dc_118_57 : decode prog_9_method_40_code 57 = .ok (.ifCond .lt 38, 3) := by decide +kernel
theorem dc_118_60 : decode prog_9_method_40_code 60 = .ok (.iload_n 3, 1) := by decide +kernel
theorem dc_118_61 : decode prog_9_method_40_code 61 = .ok (.iload_n 1, 1) := by decide +kernel
theorem dc_118_62 : decode prog_9_method_40_code 62 = .ok (.if_icmp .ne 33, 3) := by decide +kernel
theorem dc_118_65 : decode prog_9_method_40_code 65 = .ok (.iload_n 2, 1) := by decide +kernel
theorem dc_118_66 : decode prog_9_method_40_code 66 = .ok (.ifCond .ne 7, 3) := by decide +kernel
theorem dc_118_69 : decode prog_9_method_40_code 69 = .ok (.iconst 1, 1) := by decide +kernel
theorem dc_118_70 : decode prog_9_method_40_code 70 = .ok (.goto 24, 3) := by decide +kernel
theorem dc_118_73 : decode prog_9_method_40_code 73 = .ok (.iload_n 2, 1) := by decide +kernel
theorem dc_118_74 : decode prog_9_method_40_code 74 = .ok (.iconst 1, 1) := by decide +kernel
theorem dc_118_75 : decode prog_9_method_40_code 75 = .ok (.if_icmp .ne 8, 3) := by decide +kernel
theorem dc_118_78 : decode prog_9_method_40_code 78 = .ok (.iload 4, 2) := by decide +kernel
theorem dc_118_80 : decode prog_9_method_40_code 80 = .ok (.goto 14, 3) := by decide +kernel
theorem dc_118_83 : decode prog_9_method_40_code 83 = .ok (.iload_n 2, 1) := by decide +kernel
theorem dc_118_84 : decode prog_9_method_40_code 84 = .ok (.iconst 2, 1) := by decide +kernel
theorem dc_118_85 : decode prog_9_method_40_code 85 = .ok (.if_icmp .ne 8, 3) := by decide +kernel
theorem dc_118_88 : decode prog_9_method_40_code 88 = .ok (.iload 5, 2) := by decide +kernel
theorem dc_118_90 : decode prog_9_method_40_code 90 = .ok (.goto 4, 3) := by decide +kernel
theorem dc_118_93 : decode prog_9_method_40_code 93 = .ok (.iconst (-1), 1) := by decide +kernel
theorem dc_118_94 : decode prog_9_method_40_code 94 = .ok (.ireturn, 1) := by decide +kernel
theorem dc_118_95 : decode prog_9_method_40_code 95 = .ok (.iload 5, 2) := by decide +kernel
theorem dc_118_97 : decode prog_9_method_40_code 97 = .ok (.ifCond .lt 9, 3) := by decide +kernel
theorem dc_118_100 : decode prog_9_method_40_code 100 = .ok (.iload_n 3, 1) := by decide +kernel
theorem dc_118_101 : decode prog_9_method_40_code 101 = .ok (.iconst 1, 1) := by decide +kernel
theorem dc_118_102 : decode prog_9_method_40_code 102 = .ok (.iadd, 1) := by decide +kernel
theorem dc_118_103 : decode prog_9_method_40_code 103 = .ok (.goto 4, 3) := by decide +kernel
theorem dc_118_106 : decode prog_9_method_40_code 106 = .ok (.iload_n 3, 1) := by decide +kernel
theorem dc_118_107 : decode prog_9_method_40_code 107 = .ok (.istore_n 3, 1) := by decide +kernel
theorem dc_118_108 : decode prog_9_method_40_code 108 = .ok (.iinc 4 1, 3) := by decide +kernel
theorem dc_118_111 : decode prog_9_method_40_code 111 = .ok (.goto (-91), 3) := by decide +kernel
theorem dc_118_114 : decode prog_9_method_40_code 114 = .ok (.iconst 0, 1) := by decide +kernel
theorem dc_118_115 : decode prog_9_method_40_code 115 = .ok (.istore 4, 2) := by decide +kernel
theorem dc_118_117 : decode prog_9_method_40_code 117 = .ok (.iload 4, 2) := by decide +kernel
theorem dc_118_119 : decode prog_9_method_40_code 119 = .ok (.aload_n 0, 1) := by decide +kernel
theorem dc_118_120 : decode prog_9_method_40_code 120 = .ok (.getfield 7, 3) := by decide +kernel
theorem dc_118_123 : decode prog_9_method_40_code 123 = .ok (.iconst 0, 1) := by decide +kernel
theorem dc_118_124 : decode prog_9_method_40_code 124 = .ok (.iaload, 1) := by decide +kernel
theorem dc_118_125 : decode prog_9_method_40_code 125 = .ok (.if_icmp .ge 96, 3) := by decide +kernel
theorem dc_118_128 : decode prog_9_method_40_code 128 = .ok (.iload 4, 2) := by decide +kernel
theorem dc_118_130 : decode prog_9_method_40_code 130 = .ok (.iconst 1, 1) := by decide +kernel
theorem dc_118_131 : decode prog_9_method_40_code 131 = .ok (.iadd, 1) := by decide +kernel
theorem dc_118_132 : decode prog_9_method_40_code 132 = .ok (.istore 5, 2) := by decide +kernel
theorem dc_118_134 : decode prog_9_method_40_code 134 = .ok (.iload 5, 2) := by decide +kernel
theorem dc_118_136 : decode prog_9_method_40_code 136 = .ok (.aload_n 0, 1) := by decide +kernel
theorem dc_118_137 : decode prog_9_method_40_code 137 = .ok (.getfield 7, 3) := by decide +kernel
theorem dc_118_140 : decode prog_9_method_40_code 140 = .ok (.iconst 0, 1) := by decide +kernel
theorem dc_118_141 : decode prog_9_method_40_code 141 = .ok (.iaload, 1) := by decide +kernel
theorem dc_118_142 : decode prog_9_method_40_code 142 = .ok (.if_icmp .ge 73, 3) := by decide +kernel
theorem dc_118_145 : decode prog_9_method_40_code 145 = .ok (.aload_n 0, 1) := by decide +kernel
theorem dc_118_146 : decode prog_9_method_40_code 146 = .ok (.iload 4, 2) := by decide +kernel
theorem dc_118_148 : decode prog_9_method_40_code 148 = .ok (.iload 5, 2) := by decide +kernel
theorem dc_118_150 : decode prog_9_method_40_code 150 = .ok (.invokevirtual 123, 3) := by decide +kernel
theorem dc_118_153 : decode prog_9_method_40_code 153 = .ok (.istore 6, 2) := by decide +kernel
theorem dc_118_155 : decode prog_9_method_40_code 155 = .ok (.iload 6, 2) := by decide +kernel
theorem dc_118_157 : decode prog_9_method_40_code 157 = .ok (.ifCond .lt 39, 3) := by decide +kernel
theorem dc_118_160 : decode prog_9_method_40_code 160 = .ok (.iload_n 3, 1) := by decide +kernel
theorem dc_118_161 : decode prog_9_method_40_code 161 = .ok (.iload_n 1, 1) := by decide +kernel
theorem dc_118_162 : decode prog_9_method_40_code 162 = .ok (.if_icmp .ne 34, 3) := by decide +kernel
theorem dc_118_165 : decode prog_9_method_40_code 165 = .ok (.iload_n 2, 1) := by decide +kernel
theorem dc_118_166 : decode prog_9_method_40_code 166 = .ok (.ifCond .ne 7, 3) := by decide +kernel
theorem dc_118_169 : decode prog_9_method_40_code 169 = .ok (.iconst 2, 1) := by decide +kernel
theorem dc_118_170 : decode prog_9_method_40_code 170 = .ok (.goto 25, 3) := by decide +kernel
theorem dc_118_173 : decode prog_9_method_40_code 173 = .ok (.iload_n 2, 1) := by decide +kernel
theorem dc_118_174 : decode prog_9_method_40_code 174 = .ok (.iconst 1, 1) := by decide +kernel
theorem dc_118_175 : decode prog_9_method_40_code 175 = .ok (.if_icmp .ne 8, 3) := by decide +kernel
theorem dc_118_178 : decode prog_9_method_40_code 178 = .ok (.iload 4, 2) := by decide +kernel
theorem dc_118_180 : decode prog_9_method_40_code 180 = .ok (.goto 15, 3) := by decide +kernel
theorem dc_118_183 : decode prog_9_method_40_code 183 = .ok (.iload_n 2, 1) := by decide +kernel
theorem dc_118_184 : decode prog_9_method_40_code 184 = .ok (.iconst 2, 1) := by decide +kernel
theorem dc_118_185 : decode prog_9_method_40_code 185 = .ok (.if_icmp .ne 8, 3) := by decide +kernel
theorem dc_118_188 : decode prog_9_method_40_code 188 = .ok (.iload 5, 2) := by decide +kernel
theorem dc_118_190 : decode prog_9_method_40_code 190 = .ok (.goto 5, 3) := by decide +kernel
theorem dc_118_193 : decode prog_9_method_40_code 193 = .ok (.iload 6, 2) := by decide +kernel
theorem dc_118_195 : decode prog_9_method_40_code 195 = .ok (.ireturn, 1) := by decide +kernel
theorem dc_118_196 : decode prog_9_method_40_code 196 = .ok (.iload 6, 2) := by decide +kernel
theorem dc_118_198 : decode prog_9_method_40_code 198 = .ok (.ifCond .lt 9, 3) := by decide +kernel
theorem dc_118_201 : decode prog_9_method_40_code 201 = .ok (.iload_n 3, 1) := by decide +kernel
theorem dc_118_202 : decode prog_9_method_40_code 202 = .ok (.iconst 1, 1) := by decide +kernel
theorem dc_118_203 : decode prog_9_method_40_code 203 = .ok (.iadd, 1) := by decide +kernel
theorem dc_118_204 : decode prog_9_method_40_code 204 = .ok (.goto 4, 3) := by decide +kernel
theorem dc_118_207 : decode prog_9_method_40_code 207 = .ok (.iload_n 3, 1) := by decide +kernel
theorem dc_118_208 : decode prog_9_method_40_code 208 = .ok (.istore_n 3, 1) := by decide +kernel
theorem dc_118_209 : decode prog_9_method_40_code 209 = .ok (.iinc 5 1, 3) := by decide +kernel
theorem dc_118_212 : decode prog_9_method_40_code 212 = .ok (.goto (-78), 3) := by decide +kernel
theorem dc_118_215 : decode prog_9_method_40_code 215 = .ok (.iinc 4 1, 3) := by decide +kernel
theorem dc_118_218 : decode prog_9_method_40_code 218 = .ok (.goto (-101), 3) := by decide +kernel
theorem dc_118_221 : decode prog_9_method_40_code 221 = .ok (.iconst (-1), 1) := by decide +kernel
theorem dc_118_222 : decode prog_9_method_40_code 222 = .ok (.ireturn, 1) := by decide +kernel
theorem dc_119_0 : decode prog_9_method_41_code 0 = .ok (.iload_n 1, 1) := by decide +kernel
theorem dc_119_1 : decode prog_9_method_41_code 1 = .ok (.ifCond .lt 12, 3) := by decide +kernel
theorem dc_119_4 : decode prog_9_method_41_code 4 = .ok (.iload_n 1, 1) := by decide +kernel
theorem dc_119_5 : decode prog_9_method_41_code 5 = .ok (.iconst 1, 1) := by decide +kernel
theorem dc_119_6 : decode prog_9_method_41_code 6 = .ok (.if_icmp .gt 7, 3) := by decide +kernel
theorem dc_119_9 : decode prog_9_method_41_code 9 = .ok (.iload_n 2, 1) := by decide +kernel
theorem dc_119_10 : decode prog_9_method_41_code 10 = .ok (.ifCond .ge 5, 3) := by decide +kernel
theorem dc_119_13 : decode prog_9_method_41_code 13 = .ok (.iconst (-1), 1) := by decide +kernel
theorem dc_119_14 : decode prog_9_method_41_code 14 = .ok (.ireturn, 1) := by decide +kernel
theorem dc_119_15 : decode prog_9_method_41_code 15 = .ok (.iconst 0, 1) := by decide +kernel
theorem dc_119_16 : decode prog_9_method_41_code 16 = .ok (.istore_n 3, 1) := by decide +kernel
theorem dc_119_17 : decode prog_9_method_41_code 17 = .ok (.bipush 120, 2) := by decide +kernel
theorem dc_119_19 : decode prog_9_method_41_code 19 = .ok (.iload_n 1, 1) := by decide +kernel
theorem dc_119_20 : decode prog_9_method_41_code 20 = .ok (.imul, 1) := by decide +kernel
theorem dc_119_21 : decode prog_9_method_41_code 21 = .ok (.istore 4, 2) := by decide +kernel
theorem dc_119_23 : decode prog_9_method_41_code 23 = .ok (.iload 4, 2) := by decide +kernel
theorem dc_119_25 : decode prog_9_method_41_code 25 = .ok (.bipush 120, 2) := by decide +kernel
theorem dc_119_27 : decode prog_9_method_41_code 27 = .ok (.iload_n 1, 1) := by decide +kernel
theorem dc_119_28 : decode prog_9_method_41_code 28 = .ok (.imul, 1) := by decide +kernel
theorem dc_119_29 : decode prog_9_method_41_code 29 = .ok (.bipush 120, 2) := by decide +kernel
theorem dc_119_31 : decode prog_9_method_41_code 31 = .ok (.iadd, 1) := by decide +kernel
theorem dc_119_32 : decode prog_9_method_41_code 32 = .ok (.if_icmp .ge 178, 3) := by decide +kernel
theorem dc_119_35 : decode prog_9_method_41_code 35 = .ok (.aload_n 0, 1) := by decide +kernel
theorem dc_119_36 : decode prog_9_method_41_code 36 = .ok (.getfield 25, 3) := by decide +kernel
theorem dc_119_39 : decode prog_9_method_41_code 39 = .ok (.iload 4, 2) := by decide +kernel
theorem dc_119_41 : decode prog_9_method_41_code 41 = .ok (.iaload, 1) := by decide +kernel
theorem dc_119_42 : decode prog_9_method_41_code 42 = .ok (.ifCond .lt 34, 3) := by decide +kernel
theorem dc_119_45 : decode prog_9_method_41_code 45 = .ok (.iload 4, 2) := by decide +kernel
theorem dc_119_47 : decode prog_9_method_41_code 47 = .ok (.bipush 12, 2) := by decide +kernel
theorem dc_119_49 : decode prog_9_method_41_code 49 = .ok (.irem, 1) := by decide +kernel
theorem dc_119_50 : decode prog_9_method_41_code 50 = .ok (.ifCond .eq 22, 3) := by decide +kernel
theorem dc_119_53 : decode prog_9_method_41_code 53 = .ok (.aload_n 0, 1) := by decide +kernel
theorem dc_119_54 : decode prog_9_method_41_code 54 = .ok (.getfield 25, 3) := by decide +kernel
theorem dc_119_57 : decode prog_9_method_41_code 57 = .ok (.iload 4, 2) := by decide +kernel
theorem dc_119_59 : decode prog_9_method_41_code 59 = .ok (.iconst 1, 1) := by decide +kernel
theorem dc_119_60 : decode prog_9_method_41_code 60 = .ok (.isub, 1) := by decide +kernel
theorem dc_119_61 : decode prog_9_method_41_code 61 = .ok (.iaload, 1) := by decide +kernel
theorem dc_119_62 : decode prog_9_method_41_code 62 = .ok (.aload_n 0, 1) := by decide +kernel
theorem dc_119_63 : decode prog_9_method_41_code 63 = .ok (.getfield 25, 3) := by decide +kernel
theorem dc_119_66 : decode prog_9_method_41_code 66 = .ok (.iload 4, 2) := by decide +kernel
theorem dc_119_68 : decode prog_9_method_41_code 68 = .ok (.iaload, 1) := by decide +kernel
theorem dc_119_69 : decode prog_9_method_41_code 69 = .ok (.if_icmp .eq 7, 3) := by decide +kernel
theorem dc_119_72 : decode prog_9_method_41_code 72 = .ok (.iconst 1, 1) := by decide +kernel
theorem dc_119_73 : decode prog_9_method_41_code 73 = .ok (.goto 4, 3) := by decide +kernel
theorem dc_119_76 : decode prog_9_method_41_code 76 = .ok (.iconst 0, 1) := by decide +kernel
theorem dc_119_77 : decode prog_9_method_41_code 77 = .ok (.istore 5, 2) := by decide +kernel
theorem dc_119_79 : decode prog_9_method_41_code 79 = .ok (.iload 5, 2) := by decide +kernel
theorem dc_119_81 : decode prog_9_method_41_code 81 = .ok (.ifCond .eq 110, 3) := by decide +kernel
theorem dc_119_84 : decode prog_9_method_41_code 84 = .ok (.iload_n 2, 1) := by decide +kernel
theorem dc_119_85 : decode prog_9_method_41_code 85 = .ok (.iload_n 3, 1) := by decide +kernel
theorem dc_119_86 : decode prog_9_method_41_code 86 = .ok (.iconst 4, 1) := by decide +kernel
theorem dc_119_87 : decode prog_9_method_41_code 87 = .ok (.iadd, 1) := by decide +kernel
theorem dc_119_88 : decode prog_9_method_41_code 88 = .ok (.if_icmp .ge 103, 3) := by decide +kernel
theorem dc_119_91 : decode prog_9_method_41_code 91 = .ok (.iload 4, 2) := by decide +kernel
theorem dc_119_93 : decode prog_9_method_41_code 93 = .ok (.istore 6, 2) := by decide +kernel
theorem dc_119_95 : decode prog_9_method_41_code 95 = .ok (.iload 6, 2) := by decide +kernel
theorem dc_119_97 : decode prog_9_method_41_code 97 = .ok (.bipush 12, 2) := by decide +kernel
theorem dc_119_99 : decode prog_9_method_41_code 99 = .ok (.irem, 1) := by decide +kernel
theorem dc_119_100 : decode prog_9_method_41_code 100 = .ok (.bipush 11, 2) := by decide +kernel
theorem dc_119_102 : decode prog_9_method_41_code 102 = .ok (.if_icmp .ge 28, 3) := by decide +kernel
theorem dc_119_105 : decode prog_9_method_41_code 105 = .ok (.aload_n 0, 1) := by decide +kernel
theorem dc_119_106 : decode prog_9_method_41_code 106 = .ok (.getfield 25, 3) := by decide +kernel
theorem dc_119_109 : decode prog_9_method_41_code 109 = .ok (.iload 6, 2) := by decide +kernel
theorem dc_119_111 : decode prog_9_method_41_code 111 = .ok (.iconst 1, 1) := by decide +kernel
theorem dc_119_112 : decode prog_9_method_41_code 112 = .ok (.iadd, 1) := by decide +kernel
theorem dc_119_113 : decode prog_9_method_41_code 113 = .ok (.iaload, 1) := by decide +kernel
theorem dc_119_114 : decode prog_9_method_41_code 114 = .ok (.aload_n 0, 1) := by decide +kernel
theorem dc_119_115 : decode prog_9_method_41_code 115 = .ok (.getfield 25, 3) := by decide +kernel
theorem dc_119_118 : decode prog_9_method_41_code 118 = .ok (.iload 4, 2) := by decide +kernel
theorem dc_119_120 : decode prog_9_method_41_code 120 = .ok (.iaload, 1) := by decide +kernel
theorem dc_119_121 : decode prog_9_method_41_code 121 = .ok (.if_icmp .ne 9, 3) := by decide +kernel
theorem dc_119_124 : decode prog_9_method_41_code 124 = .ok (.iinc 6 1, 3) := by decide +kernel
theorem dc_119_127 : decode prog_9_method_41_code 127 = .ok (.goto (-32), 3) := by decide +kernel
theorem dc_119_130 : decode prog_9_method_41_code 130 = .ok (.iload_n 2, 1) := by decide +kernel
theorem dc_119_131 : decode prog_9_method_41_code 131 = .ok (.iload_n 3, 1) := by decide +kernel
theorem dc_119_132 : decode prog_9_method_41_code 132 = .ok (.isub, 1) := by decide +kernel
theorem dc_119_133 : decode prog_9_method_41_code 133 = .ok (.istore 7, 2) := by decide +kernel
theorem dc_119_135 : decode prog_9_method_41_code 135 = .ok (.iload 7, 2) := by decide +kernel
theorem dc_119_137 : decode prog_9_method_41_code 137 = .ok (.ifCond .ne 14, 3) := by decide +kernel
theorem dc_119_140 : decode prog_9_method_41_code 140 = .ok (.iload 4, 2) := by decide +kernel
theorem dc_119_142 : decode prog_9_method_41_code 142 = .ok (.bipush 120, 2) := by decide +kernel
theorem dc_119_144 : decode prog_9_method_41_code 144 = .ok (.irem, 1) := by decide +kernel
theorem dc_119_145 : decode prog_9_method_41_code 145 = .ok (.bipush 12, 2) := by decide +kernel
theorem dc_119_147 : decode prog_9_method_41_code 147 = .ok (.idiv, 1) := by decide +kernel
theorem dc_119_148 : decode prog_9_method_41_code 148 = .ok (.goto 42, 3) := by decide +kernel
theorem dc_119_151 : decode prog_9_method_41_code 151 = .ok (.iload 7, 2) := by decide +kernel
theorem dc_119_153 : decode prog_9_method_41_code 153 = .ok (.iconst 1, 1) := by decide +kernel
theorem dc_119_154 : decode prog_9_method_41_code 154 = .ok (.if_icmp .ne 11, 3) := by decide +kernel
theorem dc_119_157 : decode prog_9_method_41_code 157 = .ok (.iload 4, 2) := by decide +kernel
theorem dc_119_159 : decode prog_9_method_41_code 159 = .ok (.bipush 12, 2) := by decide +kernel
theorem dc_119_161 : decode prog_9_method_41_code 161 = .ok (.irem, 1) := by decide +kernel
theorem dc_119_162 : decode prog_9_method_41_code 162 = .ok (.goto 28, 3) := by decide +kernel
theorem dc_119_165 : decode prog_9_method_41_code 165 = .ok (.iload 7, 2) := by decide +kernel
theorem dc_119_167 : decode prog_9_method_41_code 167 = .ok (.iconst 2, 1) := by decide +kernel
theorem dc_119_168 : decode prog_9_method_41_code 168 = .ok (.if_icmp .ne 13, 3) := by decide +kernel
theorem dc_119_171 : decode prog_9_method_41_code 171 = .ok (.iload 6, 2) := by decide +kernel
theorem dc_119_173 : decode prog_9_method_41_code 173 = .ok (.iload 4, 2) := by decide +kernel
theorem dc_119_175 : decode prog_9_method_41_code 175 = .ok (.isub, 1) := by decide +kernel
theorem dc_119_176 : decode prog_9_method_41_code 176 = .ok (.iconst 1, 1) := by decide +kernel
theorem dc_119_177 : decode prog_9_method_41_code 177 = .ok (.iadd, 1) := by decide +kernel
theorem dc_119_178 : decode prog_9_method_41_code 178 = .ok (.goto 12, 3) := by decide +kernel
theorem dc_119_181 : decode prog_9_method_41_code 181 = .ok (.aload_n 0, 1) := by decide +kernel
theorem dc_119_182 : decode prog_9_method_41_code 182 = .ok (.getfield 25, 3) := by decide +kernel
theorem dc_119_185 : decode prog_9_method_41_code 185 = .ok (.iload 4, 2) := by decide +kernel
theorem dc_119_187 : decode prog_9_method_41_code 187 = .ok (.iaload, 1) := by decide +kernel
theorem dc_119_188 : decode prog_9_method_41_code 188 = .ok (.iconst 1, 1) := by decide +kernel
theorem dc_119_189 : decode prog_9_method_41_code 189 = .ok (.iadd, 1) := by decide +kernel
theorem dc_119_190 : decode prog_9_method_41_code 190 = .ok (.ireturn, 1) := by decide +kernel
theorem dc_119_191 : decode prog_9_method_41_code 191 = .ok (.iload 5, 2) := by decide +kernel
theorem dc_119_193 : decode prog_9_method_41_code 193 = .ok (.ifCond .eq 9, 3) := by decide +kernel
theorem dc_119_196 : decode prog_9_method_41_code 196 = .ok (.iload_n 3, 1) := by decide +kernel
theorem dc_119_197 : decode prog_9_method_41_code 197 = .ok (.iconst 4, 1) := by decide +kernel
theorem dc_119_198 : decode prog_9_method_41_code 198 = .ok (.iadd, 1) := by decide +kernel
theorem dc_119_199 : decode prog_9_method_41_code 199 = .ok (.goto 4, 3) := by decide +kernel
theorem dc_119_202 : decode prog_9_method_41_code 202 = .ok (.iload_n 3, 1) := by decide +kernel
theorem dc_119_203 : decode prog_9_method_41_code 203 = .ok (.istore_n 3, 1) := by decide +kernel
theorem dc_119_204 : decode prog_9_method_41_code 204 = .ok (.iinc 4 1, 3) := by decide +kernel
theorem dc_119_207 : decode prog_9_method_41_code 207 = .ok (.goto (-184), 3) := by decide +kernel
theorem dc_119_210 : decode prog_9_method_41_code 210 = .ok (.iload_n 2, 1) := by decide +kernel
theorem dc_119_211 : decode prog_9_method_41_code 211 = .ok (.iload_n 3, 1) := by decide +kernel
theorem dc_119_212 : decode prog_9_method_41_code 212 = .ok (.if_icmp .ne 9, 3) := by decide +kernel
theorem dc_119_215 : decode prog_9_method_41_code 215 = .ok (.sipush 255, 3) := by decide +kernel
theorem dc_119_218 : decode prog_9_method_41_code 218 = .ok (.goto 4, 3) := by decide +kernel
theorem dc_119_221 : decode prog_9_method_41_code 221 = .ok (.iconst (-1), 1) := by decide +kernel
theorem dc_119_222 : decode prog_9_method_41_code 222 = .ok (.ireturn, 1) := by decide +kernel
theorem dc_120_0 : decode prog_9_method_42_code 0 = .ok (.iload_n 1, 1) := by decide +kernel
theorem dc_120_1 : decode prog_9_method_42_code 1 = .ok (.ifCond .lt 10, 3) := by decide +kernel
theorem dc_120_4 : decode prog_9_method_42_code 4 = .ok (.iload_n 1, 1) := by decide +kernel
theorem dc_120_5 : decode prog_9_method_42_code 5 = .ok (.sipush 255, 3) := by decide +kernel
theorem dc_120_8 : decode prog_9_method_42_code 8 = .ok (.if_icmp .le 5, 3) := by decide +kernel
theorem dc_120_11 : decode prog_9_method_42_code 11 = .ok (.iconst (-1), 1) := by decide +kernel
theorem dc_120_12 : decode prog_9_method_42_code 12 = .ok (.ireturn, 1) := by decide +kernel
theorem dc_120_13 : decode prog_9_method_42_code 13 = .ok (.aload_n 0, 1) := by decide +kernel
theorem dc_120_14 : decode prog_9_method_42_code 14 = .ok (.getfield 126, 3) := by decide +kernel
theorem dc_120_17 : decode prog_9_method_42_code 17 = .ok (.sipush 400, 3) := by decide +kernel
theorem dc_120_20 : decode prog_9_method_42_code 20 = .ok (.if_icmp .ne 6, 3) := by decide +kernel
theorem dc_120_23 : decode prog_9_method_42_code 23 = .ok (.bipush (-2), 2) := by decide +kernel
theorem dc_120_25 : decode prog_9_method_42_code 25 = .ok (.ireturn, 1) := by decide +kernel
theorem dc_120_26 : decode prog_9_method_42_code 26 = .ok (.aload_n 0, 1) := by decide +kernel
theorem dc_120_27 : decode prog_9_method_42_code 27 = .ok (.getfield 38, 3) := by decide +kernel
theorem dc_120_30 : decode prog_9_method_42_code 30 = .ok (.aload_n 0, 1) := by decide +kernel
theorem dc_120_31 : decode prog_9_method_42_code 31 = .ok (.getfield 126, 3) := by decide +kernel
theorem dc_120_34 : decode prog_9_method_42_code 34 = .ok (.iload_n 1, 1) := by decide +kernel
theorem dc_120_35 : decode prog_9_method_42_code 35 = .ok (.iastore, 1) := by decide +kernel
theorem dc_120_36 : decode prog_9_method_42_code 36 = .ok (.aload_n 0, 1) := by decide +kernel
theorem dc_120_37 : decode prog_9_method_42_code 37 = .ok (.dup, 1) := by decide +kernel
theorem dc_120_38 : decode prog_9_method_42_code 38 = .ok (.getfield 126, 3) := by decide +kernel
theorem dc_120_41 : decode prog_9_method_42_code 41 = .ok (.iconst 1, 1) := by decide +kernel
theorem dc_120_42 : decode prog_9_method_42_code 42 = .ok (.iadd, 1) := by decide +kernel
theorem dc_120_43 : decode prog_9_method_42_code 43 = .ok (.putfield 126, 3) := by decide +kernel
theorem dc_120_46 : decode prog_9_method_42_code 46 = .ok (.aload_n 0, 1) := by decide +kernel
theorem dc_120_47 : decode prog_9_method_42_code 47 = .ok (.getfield 126, 3) := by decide +kernel
theorem dc_120_50 : decode prog_9_method_42_code 50 = .ok (.ireturn, 1) := by decide +kernel
theorem dc_121_0 : decode prog_9_method_43_code 0 = .ok (.iload_n 1, 1) := by decide +kernel
theorem dc_121_1 : decode prog_9_method_43_code 1 = .ok (.ifCond .lt 8, 3) := by decide +kernel
theorem dc_121_4 : decode prog_9_method_43_code 4 = .ok (.iload_n 1, 1) := by decide +kernel
theorem dc_121_5 : decode prog_9_method_43_code 5 = .ok (.iconst 1, 1) := by decide +kernel
theorem dc_121_6 : decode prog_9_method_43_code 6 = .ok (.if_icmp .le 5, 3) := by decide +kernel
theorem dc_121_9 : decode prog_9_method_43_code 9 = .ok (.iconst (-1), 1) := by decide +kernel
theorem dc_121_10 : decode prog_9_method_43_code 10 = .ok (.ireturn, 1) := by decide +kernel
theorem dc_121_11 : decode prog_9_method_43_code 11 = .ok (.iconst 0, 1) := by decide +kernel
theorem dc_121_12 : decode prog_9_method_43_code 12 = .ok (.istore_n 2, 1) := by decide +kernel
theorem dc_121_13 : decode prog_9_method_43_code 13 = .ok (.iload_n 2, 1) := by decide +kernel
theorem dc_121_14 : decode prog_9_method_43_code 14 = .ok (.bipush 120, 2) := by decide +kernel
theorem dc_121_16 : decode prog_9_method_43_code 16 = .ok (.if_icmp .ge 16, 3) := by decide +kernel
theorem dc_121_19 : decode prog_9_method_43_code 19 = .ok (.aload_n 0, 1) := by decide +kernel
theorem dc_121_20 : decode prog_9_method_43_code 20 = .ok (.getfield 41, 3) := by decide +kernel
theorem dc_121_23 : decode prog_9_method_43_code 23 = .ok (.iload_n 2, 1) := by decide +kernel
theorem dc_121_24 : decode prog_9_method_43_code 24 = .ok (.iconst (-1), 1) := by decide +kernel
theorem dc_121_25 : decode prog_9_method_43_code 25 = .ok (.iastore, 1) := by decide +kernel
theorem dc_121_26 : decode prog_9_method_43_code 26 = .ok (.iinc 2 1, 3) := by decide +kernel
theorem dc_121_29 : decode prog_9_method_43_code 29 = .ok (.goto (-16), 3) := by decide +kernel
theorem dc_121_32 : decode prog_9_method_43_code 32 = .ok (.iconst 0, 1) := by decide +kernel
theorem dc_121_33 : decode prog_9_method_43_code 33 = .ok (.istore_n 2, 1) := by decide +kernel
theorem dc_121_34 : decode prog_9_method_43_code 34 = .ok (.iload_n 2, 1) := by decide +kernel
theorem dc_121_35 : decode prog_9_method_43_code 35 = .ok (.iconst 3, 1) := by decide +kernel
theorem dc_121_36 : decode prog_9_method_43_code 36 = .ok (.iadd, 1) := by decide +kernel
theorem dc_121_37 : decode prog_9_method_43_code 37 = .ok (.aload_n 0, 1) := by decide +kernel
theorem dc_121_38 : decode prog_9_method_43_code 38 = .ok (.getfield 126, 3) := by decide +kernel
theorem dc_121_41 : decode prog_9_method_43_code 41 = .ok (.if_icmp .ge 100, 3) := by decide +kernel
theorem dc_121_44 : decode prog_9_method_43_code 44 = .ok (.aload_n 0, 1) := by decide +kernel
theorem dc_121_45 : decode prog_9_method_43_code 45 = .ok (.getfield 38, 3) := by decide +kernel
theorem dc_121_48 : decode prog_9_method_43_code 48 = .ok (.iload_n 2, 1) := by decide +kernel
theorem dc_121_49 : decode prog_9_method_43_code 49 = .ok (.iaload, 1) := by decide +kernel
theorem dc_121_50 : decode prog_9_method_43_code 50 = .ok (.sipush 255, 3) := by decide +kernel
theorem dc_121_53 : decode prog_9_method_43_code 53 = .ok (.if_icmp .eq 88, 3) := by decide +kernel
theorem dc_121_56 : decode prog_9_method_43_code 56 = .ok (.aload_n 0, 1) := by decide +kernel
theorem dc_121_57 : decode prog_9_method_43_code 57 = .ok (.getfield 38, 3) := by decide +kernel
theorem dc_121_60 : decode prog_9_method_43_code 60 = .ok (.iload_n 2, 1) := by decide +kernel
theorem dc_121_61 : decode prog_9_method_43_code 61 = .ok (.iconst 1, 1) := by decide +kernel
theorem dc_121_62 : decode prog_9_method_43_code 62 = .ok (.iadd, 1) := by decide +kernel
theorem dc_121_63 : decode prog_9_method_43_code 63 = .ok (.iaload, 1) := by decide +kernel
theorem dc_121_64 : decode prog_9_method_43_code 64 = .ok (.istore_n 3, 1) := by decide +kernel
theorem dc_121_65 : decode prog_9_method_43_code 65 = .ok (.iload_n 3, 1) := by decide +kernel
theorem dc_121_66 : decode prog_9_method_43_code 66 = .ok (.aload_n 0, 1) := by decide +kernel
theorem dc_121_67 : decode prog_9_method_43_code 67 = .ok (.getfield 38, 3) := by decide +kernel
theorem dc_121_70 : decode prog_9_method_43_code 70 = .ok (.iload_n 2, 1) := by decide +kernel
theorem dc_121_71 : decode prog_9_method_43_code 71 = .ok (.iconst 1, 1) := by decide +kernel
theorem dc_121_72 : decode prog_9_method_43_code 72 = .ok (.iadd, 1) := by decide +kernel
theorem dc_121_73 : decode prog_9_method_43_code 73 = .ok (.iaload, 1) := by decide +kernel
theorem dc_121_74 : decode prog_9_method_43_code 74 = .ok (.aload_n 0, 1) := by decide +kernel
theorem dc_121_75 : decode prog_9_method_43_code 75 = .ok (.getfield 38, 3) := by decide +kernel
theorem dc_121_78 : decode prog_9_method_43_code 78 = .ok (.iload_n 2, 1) := by decide +kernel
theorem dc_121_79 : decode prog_9_method_43_code 79 = .ok (.iconst 2, 1) := by decide +kernel
theorem dc_121_80 : decode prog_9_method_43_code 80 = .ok (.iadd, 1) := by decide +kernel
theorem dc_121_81 : decode prog_9_method_43_code 81 = .ok (.iaload, 1) := by decide +kernel
theorem dc_121_82 : decode prog_9_method_43_code 82 = .ok (.iadd, 1) := by decide +kernel
theorem dc_121_83 : decode prog_9_method_43_code 83 = .ok (.if_icmp .ge 52, 3) := by decide +kernel
theorem dc_121_86 : decode prog_9_method_43_code 86 = .ok (.iload_n 3, 1) := by decide +kernel
theorem dc_121_87 : decode prog_9_method_43_code 87 = .ok (.bipush 12, 2) := by decide +kernel
theorem dc_121_89 : decode prog_9_method_43_code 89 = .ok (.if_icmp .ge 46, 3) := by decide +kernel
theorem dc_121_92 : decode prog_9_method_43_code 92 = .ok (.aload_n 0, 1) := by decide +kernel
theorem dc_121_93 : decode prog_9_method_43_code 93 = .ok (.getfield 38, 3) := by decide +kernel
theorem dc_121_96 : decode prog_9_method_43_code 96 = .ok (.iload_n 2, 1) := by decide +kernel
theorem dc_121_97 : decode prog_9_method_43_code 97 = .ok (.iaload, 1) := by decide +kernel
theorem dc_121_98 : decode prog_9_method_43_code 98 = .ok (.bipush 10, 2) := by decide +kernel
theorem dc_121_100 : decode prog_9_method_43_code 100 = .ok (.if_icmp .ge 29, 3) := by decide +kernel
theorem dc_121_103 : decode prog_9_method_43_code 103 = .ok (.aload_n 0, 1) := by decide +kernel
theorem dc_121_104 : decode prog_9_method_43_code 104 = .ok (.getfield 41, 3) := by decide +kernel
theorem dc_121_107 : decode prog_9_method_43_code 107 = .ok (.bipush 12, 2) := by decide +kernel
theorem dc_121_109 : decode prog_9_method_43_code 109 = .ok (.aload_n 0, 1) := by decide +kernel
theorem dc_121_110 : decode prog_9_method_43_code 110 = .ok (.getfield 38, 3) := by decide +kernel
theorem dc_121_113 : decode prog_9_method_43_code 113 = .ok (.iload_n 2, 1) := by decide +kernel
theorem dc_121_114 : decode prog_9_method_43_code 114 = .ok (.iaload, 1) := by decide +kernel
theorem dc_121_115 : decode prog_9_method_43_code 115 = .ok (.imul, 1) := by decide +kernel
theorem dc_121_116 : decode prog_9_method_43_code 116 = .ok (.iload_n 3, 1) := by decide +kernel
theorem dc_121_117 : decode prog_9_method_43_code 117 = .ok (.iadd, 1) := by decide +kernel
theorem dc_121_118 : decode prog_9_method_43_code 118 = .ok (.aload_n 0, 1) := by decide +kernel
theorem dc_121_119 : decode prog_9_method_43_code 119 = .ok (.getfield 38, 3) := by decide +kernel
theorem dc_121_122 : decode prog_9_method_43_code 122 = .ok (.iload_n 2, 1) := by decide +kernel
theorem dc_121_123 : decode prog_9_method_43_code 123 = .ok (.iconst 3, 1) := by decide +kernel
theorem dc_121_124 : decode prog_9_method_43_code 124 = .ok (.iadd, 1) := by decide +kernel
theorem dc_121_125 : decode prog_9_method_43_code 125 = .ok (.iaload, 1) := by decide +kernel
theorem dc_121_126 : decode prog_9_method_43_code 126 = .ok (.iconst 1, 1) := by decide +kernel
theorem dc_121_127 : decode prog_9_method_43_code 127 = .ok (.isub, 1) := by decide +kernel
theorem dc_121_128 : decode prog_9_method_43_code 128 = .ok (.iastore, 1) := by decide +kernel
theorem dc_121_129 : decode prog_9_method_43_code 129 = .ok (.iinc 3 1, 3) := by decide +kernel
theorem dc_121_132 : decode prog_9_method_43_code 132 = .ok (.goto (-67), 3) := by decide +kernel
theorem dc_121_135 : decode prog_9_method_43_code 135 = .ok (.iinc 2 4, 3) := by decide +kernel
theorem dc_121_138 : decode prog_9_method_43_code 138 = .ok (.goto (-104), 3) := by decide +kernel
theorem dc_121_141 : decode prog_9_method_43_code 141 = .ok (.aload_n 0, 1) := by decide +kernel
theorem dc_121_142 : decode prog_9_method_43_code 142 = .ok (.iconst 0, 1) := by decide +kernel
theorem dc_121_143 : decode prog_9_method_43_code 143 = .ok (.putfield 126, 3) := by decide +kernel
theorem dc_121_146 : decode prog_9_method_43_code 146 = .ok (.iconst 0, 1) := by decide +kernel
theorem dc_121_147 : decode prog_9_method_43_code 147 = .ok (.istore_n 2, 1) := by decide +kernel
theorem dc_121_148 : decode prog_9_method_43_code 148 = .ok (.iconst 0, 1) := by decide +kernel
theorem dc_121_149 : decode prog_9_method_43_code 149 = .ok (.istore_n 3, 1) := by decide +kernel
theorem dc_121_150 : decode prog_9_method_43_code 150 = .ok (.iload_n 3, 1) := by decide +kernel
theorem dc_121_151 : decode prog_9_method_43_code 151 = .ok (.bipush 120, 2) := by decide +kernel
theorem dc_121_153 : decode prog_9_method_43_code 153 = .ok (.if_icmp .ge 37, 3) := by decide +kernel
theorem dc_121_156 : decode prog_9_method_43_code 156 = .ok (.aload_n 0, 1) := by decide +kernel
theorem dc_121_157 : decode prog_9_method_43_code 157 = .ok (.getfield 41, 3) := by decide +kernel
theorem dc_121_160 : decode prog_9_method_43_code 160 = .ok (.iload_n 3, 1) := by decide +kernel
theorem dc_121_161 : decode prog_9_method_43_code 161 = .ok (.iaload, 1) := by decide +kernel
theorem dc_121_162 : decode prog_9_method_43_code 162 = .ok (.aload_n 0, 1) := by decide +kernel
theorem dc_121_163 : decode prog_9_method_43_code 163 = .ok (.getfield 25, 3) := by decide +kernel
theorem dc_121_166 : decode prog_9_method_43_code 166 = .ok (.bipush 120, 2) := by decide +kernel
theorem dc_121_168 : decode prog_9_method_43_code 168 = .ok (.iload_n 1, 1) := by decide +kernel
theorem dc_121_169 : decode prog_9_method_43_code 169 = .ok (.imul, 1) := by decide +kernel
theorem dc_121_170 : decode prog_9_method_43_code 170 = .ok (.iload_n 3, 1) := by decide +kernel
theorem dc_121_171 : decode prog_9_method_43_code 171 = .ok (.iadd, 1) := by decide +kernel
theorem dc_121_172 : decode prog_9_method_43_code 172 = .ok (.iaload, 1) := by decide +kernel
theorem dc_121_173 : decode prog_9_method_43_code 173 = .ok (.if_icmp .ne 7, 3) := by decide +kernel
theorem dc_121_176 : decode prog_9_method_43_code 176 = .ok (.iload_n 2, 1) := by decide +kernel
theorem dc_121_177 : decode prog_9_method_43_code 177 = .ok (.goto 6, 3) := by decide +kernel
theorem dc_121_180 : decode prog_9_method_43_code 180 = .ok (.iload_n 2, 1) := by decide +kernel
theorem dc_121_181 : decode prog_9_method_43_code 181 = .ok (.iconst 1, 1) := by decide +kernel
theorem dc_121_182 : decode prog_9_method_43_code 182 = .ok (.iadd, 1) := by decide +kernel
theorem dc_121_183 : decode prog_9_method_43_code 183 = .ok (.istore_n 2, 1) := by decide +kernel
theorem dc_121_184 : decode prog_9_method_43_code 184 = .ok (.iinc 3 1, 3) := by decide +kernel
theorem dc_121_187 : decode prog_9_method_43_code 187 = .ok (.goto (-37), 3) := by decide +kernel
theorem dc_121_190 : decode prog_9_method_43_code 190 = .ok (.iload_n 2, 1) := by decide +kernel
theorem dc_121_191 : decode prog_9_method_43_code 191 = .ok (.ireturn, 1) := by decide +kernel
theorem dc_122_0 : decode prog_12_method_103_code 0 = .ok (.iconst 0, 1) := by decide +kernel
theorem dc_122_1 : decode prog_12_method_103_code 1 = .ok (.istore_n 2, 1) := by decide +kernel
theorem dc_122_2 : decode prog_12_method_103_code 2 = .ok (.aload_n 0, 1) := by decide +kernel
theorem dc_122_3 : decode prog_12_method_103_code 3 = .ok (.arraylength, 1) := by decide +kernel
theorem dc_122_4 : decode prog_12_method_103_code 4 = .ok (.istore_n 3, 1) := by decide +kernel
theorem dc_122_5 : decode prog_12_method_103_code 5 = .ok (.iload_n 2, 1) := by decide +kernel
theorem dc_122_6 : decode prog_12_method_103_code 6 = .ok (.iload_n 3, 1) := by decide +kernel
theorem dc_122_7 : decode prog_12_method_103_code 7 = .ok (.if_icmp .ge 13, 3) := by decide +kernel
theorem dc_122_10 : decode prog_12_method_103_code 10 = .ok (.aload_n 0, 1) := by decide +kernel
theorem dc_122_11 : decode prog_12_method_103_code 11 = .ok (.iload_n 2, 1) := by decide +kernel
theorem dc_122_12 : decode prog_12_method_103_code 12 = .ok (.iload_n 1, 1) := by decide +kernel
theorem dc_122_13 : decode prog_12_method_103_code 13 = .ok (.iastore, 1) := by decide +kernel
theorem dc_122_14 : decode prog_12_method_103_code 14 = .ok (.iinc 2 1, 3) := by decide +kernel
theorem dc_122_17 : decode prog_12_method_103_code 17 = .ok (.goto (-12), 3) := by decide +kernel
theorem dc_122_20 : decode prog_12_method_103_code 20 = .ok (.return_, 1) := by decide +kernel
