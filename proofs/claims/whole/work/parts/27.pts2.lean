/-! Printed: a row a place. -/
theorem pt_80_0 (w : qS) : gP w 80 0 = some (.inl (qo_k 0 1)) := rfl
theorem pt_80_1 (w : qS) : gP w 80 1 = some (.inl (qo_is 1 1)) := rfl
theorem pt_80_2 (w : qS) : gP w 80 2 = some (.inl (qo_il 1 1)) := rfl
theorem pt_80_3 (w : qS) : gP w 80 3 = some (.inl (qo_k (iN 16) 2)) := rfl
theorem pt_80_5 (w : qS) : gP w 80 5 = some (.inl (qo_c (fun x y => y ≤ x) 21)) := rfl
theorem pt_80_8 (w : qS) : gP w 80 8 = some (.inl (qo_al 0 1)) := rfl
theorem pt_80_9 (w : qS) : gP w 80 9 = some (.inl (qo_get (gL w) 7 4)) := rfl
theorem pt_80_12 (w : qS) : gP w 80 12 = some (.inl (qo_il 1 1)) := rfl
theorem pt_80_13 (w : qS) : gP w 80 13 = some (.inl (qo_il 1 1)) := rfl
theorem pt_80_14 (w : qS) : gP w 80 14 = some (.inl (qo_ias (gL w))) := rfl
theorem pt_80_15 (w : qS) : gP w 80 15 = some (.inl (qo_inc 1 1)) := rfl
theorem pt_80_18 (w : qS) : gP w 80 18 = some (.inl (qo_g 2)) := rfl
theorem pt_80_21 (w : qS) : gP w 80 21 = some (.inl (qo_k 0 1)) := rfl
theorem pt_80_22 (w : qS) : gP w 80 22 = some (.inl (qo_is 1 1)) := rfl
theorem pt_80_23 (w : qS) : gP w 80 23 = some (.inl (qo_il 1 1)) := rfl
theorem pt_80_24 (w : qS) : gP w 80 24 = some (.inl (qo_k (iN 16) 2)) := rfl
theorem pt_80_26 (w : qS) : gP w 80 26 = some (.inl (qo_c (fun x y => y ≤ x) 131)) := rfl
theorem pt_80_29 (w : qS) : gP w 80 29 = some (.inl (qo_k 0 1)) := rfl
theorem pt_80_30 (w : qS) : gP w 80 30 = some (.inl (qo_is 2 1)) := rfl
theorem pt_80_31 (w : qS) : gP w 80 31 = some (.inl (qo_il 2 1)) := rfl
theorem pt_80_32 (w : qS) : gP w 80 32 = some (.inl (qo_al 0 1)) := rfl
theorem pt_80_33 (w : qS) : gP w 80 33 = some (.inl (qo_get (gL w) 7 0)) := rfl
theorem pt_80_36 (w : qS) : gP w 80 36 = some (.inl (qo_k 1 1)) := rfl
theorem pt_80_37 (w : qS) : gP w 80 37 = some (.inl (qo_ia (gL w))) := rfl
theorem pt_80_38 (w : qS) : gP w 80 38 = some (.inl (qo_c (fun x y => y ≤ x) 125)) := rfl
theorem pt_80_41 (w : qS) : gP w 80 41 = some (.inl (qo_al 0 1)) := rfl
theorem pt_80_42 (w : qS) : gP w 80 42 = some (.inl (qo_get (gL w) 7 0)) := rfl
theorem pt_80_45 (w : qS) : gP w 80 45 = some (.inl (qo_k (iN 64) 2)) := rfl
theorem pt_80_47 (w : qS) : gP w 80 47 = some (.inl (qo_k (iN 2) 1)) := rfl
theorem pt_80_48 (w : qS) : gP w 80 48 = some (.inl (qo_il 2 1)) := rfl
theorem pt_80_49 (w : qS) : gP w 80 49 = some (.inl (qo_b (fun x y => x * y))) := rfl
theorem pt_80_50 (w : qS) : gP w 80 50 = some (.inl (qo_b (fun x y => x + y))) := rfl
theorem pt_80_51 (w : qS) : gP w 80 51 = some (.inl (qo_ia (gL w))) := rfl
theorem pt_80_52 (w : qS) : gP w 80 52 = some (.inl (qo_is 3 1)) := rfl
theorem pt_80_53 (w : qS) : gP w 80 53 = some (.inl (qo_al 0 1)) := rfl
theorem pt_80_54 (w : qS) : gP w 80 54 = some (.inl (qo_get (gL w) 7 0)) := rfl
theorem pt_80_57 (w : qS) : gP w 80 57 = some (.inl (qo_k (iN 64) 2)) := rfl
theorem pt_80_59 (w : qS) : gP w 80 59 = some (.inl (qo_k (iN 2) 1)) := rfl
theorem pt_80_60 (w : qS) : gP w 80 60 = some (.inl (qo_il 2 1)) := rfl
theorem pt_80_61 (w : qS) : gP w 80 61 = some (.inl (qo_b (fun x y => x * y))) := rfl
theorem pt_80_62 (w : qS) : gP w 80 62 = some (.inl (qo_b (fun x y => x + y))) := rfl
theorem pt_80_63 (w : qS) : gP w 80 63 = some (.inl (qo_k 1 1)) := rfl
theorem pt_80_64 (w : qS) : gP w 80 64 = some (.inl (qo_b (fun x y => x + y))) := rfl
theorem pt_80_65 (w : qS) : gP w 80 65 = some (.inl (qo_ia (gL w))) := rfl
theorem pt_80_66 (w : qS) : gP w 80 66 = some (.inl (qo_is 4 2)) := rfl
theorem pt_80_68 (w : qS) : gP w 80 68 = some (.inl (qo_al 0 1)) := rfl
theorem pt_80_69 (w : qS) : gP w 80 69 = some (.inl (qo_get (gL w) 7 4)) := rfl
theorem pt_80_72 (w : qS) : gP w 80 72 = some (.inl (qo_il 3 1)) := rfl
theorem pt_80_73 (w : qS) : gP w 80 73 = some (.inl (qo_ia (gL w))) := rfl
theorem pt_80_74 (w : qS) : gP w 80 74 = some (.inl (qo_al 0 1)) := rfl
theorem pt_80_75 (w : qS) : gP w 80 75 = some (.inl (qo_get (gL w) 7 4)) := rfl
theorem pt_80_78 (w : qS) : gP w 80 78 = some (.inl (qo_il 4 2)) := rfl
theorem pt_80_80 (w : qS) : gP w 80 80 = some (.inl (qo_ia (gL w))) := rfl
theorem pt_80_81 (w : qS) : gP w 80 81 = some (.inl (qo_c (fun x y => y ≤ x) 93)) := rfl
theorem pt_80_84 (w : qS) : gP w 80 84 = some (.inl (qo_al 0 1)) := rfl
theorem pt_80_85 (w : qS) : gP w 80 85 = some (.inl (qo_get (gL w) 7 4)) := rfl
theorem pt_80_88 (w : qS) : gP w 80 88 = some (.inl (qo_il 3 1)) := rfl
theorem pt_80_89 (w : qS) : gP w 80 89 = some (.inl (qo_ia (gL w))) := rfl
theorem pt_80_90 (w : qS) : gP w 80 90 = some (.inl (qo_g 100)) := rfl
theorem pt_80_93 (w : qS) : gP w 80 93 = some (.inl (qo_al 0 1)) := rfl
theorem pt_80_94 (w : qS) : gP w 80 94 = some (.inl (qo_get (gL w) 7 4)) := rfl
theorem pt_80_97 (w : qS) : gP w 80 97 = some (.inl (qo_il 4 2)) := rfl
theorem pt_80_99 (w : qS) : gP w 80 99 = some (.inl (qo_ia (gL w))) := rfl
theorem pt_80_100 (w : qS) : gP w 80 100 = some (.inl (qo_is 5 2)) := rfl
theorem pt_80_102 (w : qS) : gP w 80 102 = some (.inl (qo_al 0 1)) := rfl
theorem pt_80_103 (w : qS) : gP w 80 103 = some (.inl (qo_get (gL w) 7 4)) := rfl
theorem pt_80_106 (w : qS) : gP w 80 106 = some (.inl (qo_il 3 1)) := rfl
theorem pt_80_107 (w : qS) : gP w 80 107 = some (.inl (qo_il 5 2)) := rfl
theorem pt_80_109 (w : qS) : gP w 80 109 = some (.inl (qo_ias (gL w))) := rfl
theorem pt_80_110 (w : qS) : gP w 80 110 = some (.inl (qo_al 0 1)) := rfl
theorem pt_80_111 (w : qS) : gP w 80 111 = some (.inl (qo_get (gL w) 7 4)) := rfl
theorem pt_80_114 (w : qS) : gP w 80 114 = some (.inl (qo_il 4 2)) := rfl
theorem pt_80_116 (w : qS) : gP w 80 116 = some (.inl (qo_il 5 2)) := rfl
theorem pt_80_118 (w : qS) : gP w 80 118 = some (.inl (qo_ias (gL w))) := rfl
theorem pt_80_119 (w : qS) : gP w 80 119 = some (.inl (qo_inc 2 1)) := rfl
theorem pt_80_122 (w : qS) : gP w 80 122 = some (.inl (qo_g 31)) := rfl
theorem pt_80_125 (w : qS) : gP w 80 125 = some (.inl (qo_inc 1 1)) := rfl
theorem pt_80_128 (w : qS) : gP w 80 128 = some (.inl (qo_g 23)) := rfl
theorem pt_80_131 (w : qS) : gP w 80 131 = some (.inl (qo_k 0 1)) := rfl
theorem pt_80_132 (w : qS) : gP w 80 132 = some (.inl (qo_is 1 1)) := rfl
theorem pt_80_133 (w : qS) : gP w 80 133 = some (.inl (qo_il 1 1)) := rfl
theorem pt_80_134 (w : qS) : gP w 80 134 = some (.inl (qo_k (iN 240) 3)) := rfl
theorem pt_80_137 (w : qS) : gP w 80 137 = some (.inl (qo_c (fun x y => y ≤ x) 153)) := rfl
theorem pt_80_140 (w : qS) : gP w 80 140 = some (.inl (qo_al 0 1)) := rfl
theorem pt_80_141 (w : qS) : gP w 80 141 = some (.inl (qo_get (gL w) 7 5)) := rfl
theorem pt_80_144 (w : qS) : gP w 80 144 = some (.inl (qo_il 1 1)) := rfl
theorem pt_80_145 (w : qS) : gP w 80 145 = some (.inl (qo_k (-1) 1)) := rfl
theorem pt_80_146 (w : qS) : gP w 80 146 = some (.inl (qo_ias (gL w))) := rfl
theorem pt_80_147 (w : qS) : gP w 80 147 = some (.inl (qo_inc 1 1)) := rfl
theorem pt_80_150 (w : qS) : gP w 80 150 = some (.inl (qo_g 133)) := rfl
theorem pt_80_153 (w : qS) : gP w 80 153 = some (.inl (qo_k 0 1)) := rfl
theorem pt_80_154 (w : qS) : gP w 80 154 = some (.inl (qo_is 1 1)) := rfl
theorem pt_80_155 (w : qS) : gP w 80 155 = some (.inl (qo_il 1 1)) := rfl
theorem pt_80_156 (w : qS) : gP w 80 156 = some (.inl (qo_al 0 1)) := rfl
theorem pt_80_157 (w : qS) : gP w 80 157 = some (.inl (qo_get (gL w) 7 0)) := rfl
theorem pt_80_160 (w : qS) : gP w 80 160 = some (.inl (qo_k 0 1)) := rfl
theorem pt_80_161 (w : qS) : gP w 80 161 = some (.inl (qo_ia (gL w))) := rfl
theorem pt_80_162 (w : qS) : gP w 80 162 = some (.inl (qo_c (fun x y => y ≤ x) 221)) := rfl
theorem pt_80_165 (w : qS) : gP w 80 165 = some (.inl (qo_al 0 1)) := rfl
theorem pt_80_166 (w : qS) : gP w 80 166 = some (.inl (qo_get (gL w) 7 0)) := rfl
theorem pt_80_169 (w : qS) : gP w 80 169 = some (.inl (qo_k (iN 32) 2)) := rfl
theorem pt_80_171 (w : qS) : gP w 80 171 = some (.inl (qo_il 1 1)) := rfl
theorem pt_80_172 (w : qS) : gP w 80 172 = some (.inl (qo_b (fun x y => x + y))) := rfl
theorem pt_80_173 (w : qS) : gP w 80 173 = some (.inl (qo_ia (gL w))) := rfl
theorem pt_80_174 (w : qS) : gP w 80 174 = some (.inl (qo_is 2 1)) := rfl
theorem pt_80_175 (w : qS) : gP w 80 175 = some (.inl (qo_k 0 1)) := rfl
theorem pt_80_176 (w : qS) : gP w 80 176 = some (.inl (qo_is 3 1)) := rfl
theorem pt_80_177 (w : qS) : gP w 80 177 = some (.inl (qo_il 3 1)) := rfl
theorem pt_80_178 (w : qS) : gP w 80 178 = some (.inl (qo_k (iN 2) 1)) := rfl
theorem pt_80_179 (w : qS) : gP w 80 179 = some (.inl (qo_c (fun x y => y ≤ x) 215)) := rfl
theorem pt_80_182 (w : qS) : gP w 80 182 = some (.inl (qo_il 2 1)) := rfl
theorem pt_80_183 (w : qS) : gP w 80 183 = some (.inl (qo_k (iN 120) 2)) := rfl
theorem pt_80_185 (w : qS) : gP w 80 185 = some (.inl (qo_d (fun x y => x / y))) := rfl
theorem pt_80_186 (w : qS) : gP w 80 186 = some (.inl (qo_il 3 1)) := rfl
theorem pt_80_187 (w : qS) : gP w 80 187 = some (.inl (qo_b (fun x y => x >>> (y &&& 31)))) := rfl
theorem pt_80_188 (w : qS) : gP w 80 188 = some (.inl (qo_k 1 1)) := rfl
theorem pt_80_189 (w : qS) : gP w 80 189 = some (.inl (qo_b (fun x y => x &&& y))) := rfl
theorem pt_80_190 (w : qS) : gP w 80 190 = some (.inl (qo_k 1 1)) := rfl
theorem pt_80_191 (w : qS) : gP w 80 191 = some (.inl (qo_c (fun x y => ¬ x = y) 209)) := rfl
theorem pt_80_194 (w : qS) : gP w 80 194 = some (.inl (qo_al 0 1)) := rfl
theorem pt_80_195 (w : qS) : gP w 80 195 = some (.inl (qo_get (gL w) 7 5)) := rfl
theorem pt_80_198 (w : qS) : gP w 80 198 = some (.inl (qo_k (iN 120) 2)) := rfl
theorem pt_80_200 (w : qS) : gP w 80 200 = some (.inl (qo_il 3 1)) := rfl
theorem pt_80_201 (w : qS) : gP w 80 201 = some (.inl (qo_b (fun x y => x * y))) := rfl
theorem pt_80_202 (w : qS) : gP w 80 202 = some (.inl (qo_il 2 1)) := rfl
theorem pt_80_203 (w : qS) : gP w 80 203 = some (.inl (qo_k (iN 120) 2)) := rfl
theorem pt_80_205 (w : qS) : gP w 80 205 = some (.inl (qo_d (fun x y => x - x / y * y))) := rfl
theorem pt_80_206 (w : qS) : gP w 80 206 = some (.inl (qo_b (fun x y => x + y))) := rfl
theorem pt_80_207 (w : qS) : gP w 80 207 = some (.inl (qo_il 1 1)) := rfl
theorem pt_80_208 (w : qS) : gP w 80 208 = some (.inl (qo_ias (gL w))) := rfl
theorem pt_80_209 (w : qS) : gP w 80 209 = some (.inl (qo_inc 3 1)) := rfl
theorem pt_80_212 (w : qS) : gP w 80 212 = some (.inl (qo_g 177)) := rfl
theorem pt_80_215 (w : qS) : gP w 80 215 = some (.inl (qo_inc 1 1)) := rfl
theorem pt_80_218 (w : qS) : gP w 80 218 = some (.inl (qo_g 155)) := rfl
theorem pt_80_221 (w : qS) : gP w 80 221 = some (.inl (qo_k 0 1)) := rfl
theorem pt_80_222 (w : qS) : gP w 80 222 = some (.inl (qo_is 1 1)) := rfl
theorem pt_80_223 (w : qS) : gP w 80 223 = some (.inl (qo_il 1 1)) := rfl
theorem pt_80_224 (w : qS) : gP w 80 224 = some (.inl (qo_k (iN 240) 3)) := rfl
theorem pt_80_227 (w : qS) : gP w 80 227 = some (.inl (qo_c (fun x y => y ≤ x) 287)) := rfl
theorem pt_80_230 (w : qS) : gP w 80 230 = some (.inl (qo_al 0 1)) := rfl
theorem pt_80_231 (w : qS) : gP w 80 231 = some (.inl (qo_get (gL w) 7 5)) := rfl
theorem pt_80_234 (w : qS) : gP w 80 234 = some (.inl (qo_il 1 1)) := rfl
theorem pt_80_235 (w : qS) : gP w 80 235 = some (.inl (qo_ia (gL w))) := rfl
theorem pt_80_236 (w : qS) : gP w 80 236 = some (.inl (qo_z (fun x => x < 0) 248)) := rfl
theorem pt_80_239 (w : qS) : gP w 80 239 = some (.inl (qo_al 0 1)) := rfl
theorem pt_80_240 (w : qS) : gP w 80 240 = some (.inl (qo_get (gL w) 7 5)) := rfl
theorem pt_80_243 (w : qS) : gP w 80 243 = some (.inl (qo_il 1 1)) := rfl
theorem pt_80_244 (w : qS) : gP w 80 244 = some (.inl (qo_ia (gL w))) := rfl
theorem pt_80_245 (w : qS) : gP w 80 245 = some (.inl (qo_g 260)) := rfl
theorem pt_80_248 (w : qS) : gP w 80 248 = some (.inl (qo_al 0 1)) := rfl
theorem pt_80_249 (w : qS) : gP w 80 249 = some (.inl (qo_get (gL w) 7 0)) := rfl
theorem pt_80_252 (w : qS) : gP w 80 252 = some (.inl (qo_k (iN 352) 3)) := rfl
theorem pt_80_255 (w : qS) : gP w 80 255 = some (.inl (qo_il 1 1)) := rfl
theorem pt_80_256 (w : qS) : gP w 80 256 = some (.inl (qo_b (fun x y => x + y))) := rfl
theorem pt_80_257 (w : qS) : gP w 80 257 = some (.inl (qo_ia (gL w))) := rfl
theorem pt_80_258 (w : qS) : gP w 80 258 = some (.inl (qo_k 1 1)) := rfl
theorem pt_80_259 (w : qS) : gP w 80 259 = some (.inl (qo_b (fun x y => x - y))) := rfl
theorem pt_80_260 (w : qS) : gP w 80 260 = some (.inl (qo_is 2 1)) := rfl
theorem pt_80_261 (w : qS) : gP w 80 261 = some (.inl (qo_al 0 1)) := rfl
theorem pt_80_262 (w : qS) : gP w 80 262 = some (.inl (qo_get (gL w) 7 6)) := rfl
theorem pt_80_265 (w : qS) : gP w 80 265 = some (.inl (qo_il 1 1)) := rfl
theorem pt_80_266 (w : qS) : gP w 80 266 = some (.inl (qo_il 2 1)) := rfl
theorem pt_80_267 (w : qS) : gP w 80 267 = some (.inl (qo_z (fun x => 0 ≤ x) 274)) := rfl
theorem pt_80_270 (w : qS) : gP w 80 270 = some (.inl (qo_k (-1) 1)) := rfl
theorem pt_80_271 (w : qS) : gP w 80 271 = some (.inl (qo_g 280)) := rfl
theorem pt_80_274 (w : qS) : gP w 80 274 = some (.inl (qo_al 0 1)) := rfl
theorem pt_80_275 (w : qS) : gP w 80 275 = some (.inl (qo_get (gL w) 7 4)) := rfl
theorem pt_80_278 (w : qS) : gP w 80 278 = some (.inl (qo_il 2 1)) := rfl
theorem pt_80_279 (w : qS) : gP w 80 279 = some (.inl (qo_ia (gL w))) := rfl
theorem pt_80_280 (w : qS) : gP w 80 280 = some (.inl (qo_ias (gL w))) := rfl
theorem pt_80_281 (w : qS) : gP w 80 281 = some (.inl (qo_inc 1 1)) := rfl
theorem pt_80_284 (w : qS) : gP w 80 284 = some (.inl (qo_g 223)) := rfl
theorem pt_80_287 (w : qS) : gP w 80 287 = some (.inr (.inr 0)) := rfl
theorem pt_81_0 (w : qS) : gP w 81 0 = some (.inl (qo_k 0 1)) := rfl
theorem pt_81_1 (w : qS) : gP w 81 1 = some (.inl (qo_is 1 1)) := rfl
theorem pt_81_2 (w : qS) : gP w 81 2 = some (.inl (qo_il 1 1)) := rfl
theorem pt_81_3 (w : qS) : gP w 81 3 = some (.inl (qo_k (iN 592) 3)) := rfl
theorem pt_81_6 (w : qS) : gP w 81 6 = some (.inl (qo_c (fun x y => y ≤ x) 27)) := rfl
theorem pt_81_9 (w : qS) : gP w 81 9 = some (.inl (qo_al 0 1)) := rfl
theorem pt_81_10 (w : qS) : gP w 81 10 = some (.inl (qo_get (gL w) 7 1)) := rfl
theorem pt_81_13 (w : qS) : gP w 81 13 = some (.inl (qo_il 1 1)) := rfl
theorem pt_81_14 (w : qS) : gP w 81 14 = some (.inl (qo_al 0 1)) := rfl
theorem pt_81_15 (w : qS) : gP w 81 15 = some (.inl (qo_get (gL w) 7 0)) := rfl
theorem pt_81_18 (w : qS) : gP w 81 18 = some (.inl (qo_il 1 1)) := rfl
theorem pt_81_19 (w : qS) : gP w 81 19 = some (.inl (qo_ia (gL w))) := rfl
theorem pt_81_20 (w : qS) : gP w 81 20 = some (.inl (qo_ias (gL w))) := rfl
theorem pt_81_21 (w : qS) : gP w 81 21 = some (.inl (qo_inc 1 1)) := rfl
theorem pt_81_24 (w : qS) : gP w 81 24 = some (.inl (qo_g 2)) := rfl
theorem pt_81_27 (w : qS) : gP w 81 27 = some (.inr (.inr 0)) := rfl
theorem pt_82_0 (w : qS) : gP w 82 0 = some (.inl (qo_k 1 1)) := rfl
theorem pt_82_1 (w : qS) : gP w 82 1 = some (.inl (qo_is 1 1)) := rfl
theorem pt_82_2 (w : qS) : gP w 82 2 = some (.inl (qo_k 0 1)) := rfl
theorem pt_82_3 (w : qS) : gP w 82 3 = some (.inl (qo_is 2 1)) := rfl
theorem pt_82_4 (w : qS) : gP w 82 4 = some (.inl (qo_il 2 1)) := rfl
theorem pt_82_5 (w : qS) : gP w 82 5 = some (.inl (qo_k (iN 592) 3)) := rfl
theorem pt_82_8 (w : qS) : gP w 82 8 = some (.inl (qo_c (fun x y => y ≤ x) 42)) := rfl
theorem pt_82_11 (w : qS) : gP w 82 11 = some (.inl (qo_il 1 1)) := rfl
theorem pt_82_12 (w : qS) : gP w 82 12 = some (.inl (qo_z (fun x => x = 0) 34)) := rfl
theorem pt_82_15 (w : qS) : gP w 82 15 = some (.inl (qo_al 0 1)) := rfl
theorem pt_82_16 (w : qS) : gP w 82 16 = some (.inl (qo_get (gL w) 7 1)) := rfl
theorem pt_82_19 (w : qS) : gP w 82 19 = some (.inl (qo_il 2 1)) := rfl
theorem pt_82_20 (w : qS) : gP w 82 20 = some (.inl (qo_ia (gL w))) := rfl
theorem pt_82_21 (w : qS) : gP w 82 21 = some (.inl (qo_al 0 1)) := rfl
theorem pt_82_22 (w : qS) : gP w 82 22 = some (.inl (qo_get (gL w) 7 0)) := rfl
theorem pt_82_25 (w : qS) : gP w 82 25 = some (.inl (qo_il 2 1)) := rfl
theorem pt_82_26 (w : qS) : gP w 82 26 = some (.inl (qo_ia (gL w))) := rfl
theorem pt_82_27 (w : qS) : gP w 82 27 = some (.inl (qo_c (fun x y => ¬ x = y) 34)) := rfl
theorem pt_82_30 (w : qS) : gP w 82 30 = some (.inl (qo_k 1 1)) := rfl
theorem pt_82_31 (w : qS) : gP w 82 31 = some (.inl (qo_g 35)) := rfl
theorem pt_82_34 (w : qS) : gP w 82 34 = some (.inl (qo_k 0 1)) := rfl
theorem pt_82_35 (w : qS) : gP w 82 35 = some (.inl (qo_is 1 1)) := rfl
theorem pt_82_36 (w : qS) : gP w 82 36 = some (.inl (qo_inc 2 1)) := rfl
theorem pt_82_39 (w : qS) : gP w 82 39 = some (.inl (qo_g 4)) := rfl
theorem pt_82_42 (w : qS) : gP w 82 42 = some (.inl (qo_il 1 1)) := rfl
theorem pt_82_43 (w : qS) : gP w 82 43 = some (.inl (qo_z (fun x => x = 0) 47)) := rfl
theorem pt_82_46 (w : qS) : gP w 82 46 = some (.inr (.inr 0)) := rfl
theorem pt_82_47 (w : qS) : gP w 82 47 = some (.inl (qo_al 0 1)) := rfl
theorem pt_82_48 (w : qS) : gP w 82 48 = some (.inl (qo_get (gL w) 7 3)) := rfl
theorem pt_82_51 (w : qS) : gP w 82 51 = some (.inl (qo_k (iN 16) 2)) := rfl
theorem pt_82_53 (w : qS) : gP w 82 53 = some (.inl (qo_c (fun x y => ¬ x = y) 97)) := rfl
theorem pt_82_56 (w : qS) : gP w 82 56 = some (.inl (qo_k 0 1)) := rfl
theorem pt_82_57 (w : qS) : gP w 82 57 = some (.inl (qo_is 2 1)) := rfl
theorem pt_82_58 (w : qS) : gP w 82 58 = some (.inl (qo_il 2 1)) := rfl
theorem pt_82_59 (w : qS) : gP w 82 59 = some (.inl (qo_k (iN 8880) 3)) := rfl
theorem pt_82_62 (w : qS) : gP w 82 62 = some (.inl (qo_c (fun x y => y ≤ x) 87)) := rfl
theorem pt_82_65 (w : qS) : gP w 82 65 = some (.inl (qo_al 0 1)) := rfl
theorem pt_82_66 (w : qS) : gP w 82 66 = some (.inl (qo_get (gL w) 7 2)) := rfl
theorem pt_82_69 (w : qS) : gP w 82 69 = some (.inl (qo_il 2 1)) := rfl
theorem pt_82_70 (w : qS) : gP w 82 70 = some (.inl (qo_al 0 1)) := rfl
theorem pt_82_71 (w : qS) : gP w 82 71 = some (.inl (qo_get (gL w) 7 2)) := rfl
theorem pt_82_74 (w : qS) : gP w 82 74 = some (.inl (qo_il 2 1)) := rfl
theorem pt_82_75 (w : qS) : gP w 82 75 = some (.inl (qo_k (iN 592) 3)) := rfl
theorem pt_82_78 (w : qS) : gP w 82 78 = some (.inl (qo_b (fun x y => x + y))) := rfl
theorem pt_82_79 (w : qS) : gP w 82 79 = some (.inl (qo_ia (gL w))) := rfl
theorem pt_82_80 (w : qS) : gP w 82 80 = some (.inl (qo_ias (gL w))) := rfl
theorem pt_82_81 (w : qS) : gP w 82 81 = some (.inl (qo_inc 2 1)) := rfl
theorem pt_82_84 (w : qS) : gP w 82 84 = some (.inl (qo_g 58)) := rfl
theorem pt_82_87 (w : qS) : gP w 82 87 = some (.inl (qo_al 0 1)) := rfl
theorem pt_82_88 (w : qS) : gP w 82 88 = some (.inl qo_dup) := rfl
theorem pt_82_89 (w : qS) : gP w 82 89 = some (.inl (qo_get (gL w) 7 3)) := rfl
theorem pt_82_92 (w : qS) : gP w 82 92 = some (.inl (qo_k 1 1)) := rfl
theorem pt_82_93 (w : qS) : gP w 82 93 = some (.inl (qo_b (fun x y => x - y))) := rfl
theorem pt_82_94 (w : qS) : gP w 82 94 = some (.inl (qo_put (gL w) 7 3)) := rfl
theorem pt_82_97 (w : qS) : gP w 82 97 = some (.inl (qo_k 0 1)) := rfl
theorem pt_82_98 (w : qS) : gP w 82 98 = some (.inl (qo_is 2 1)) := rfl
theorem pt_82_99 (w : qS) : gP w 82 99 = some (.inl (qo_il 2 1)) := rfl
theorem pt_82_100 (w : qS) : gP w 82 100 = some (.inl (qo_k (iN 592) 3)) := rfl
theorem pt_82_103 (w : qS) : gP w 82 103 = some (.inl (qo_c (fun x y => y ≤ x) 133)) := rfl
theorem pt_82_106 (w : qS) : gP w 82 106 = some (.inl (qo_al 0 1)) := rfl
theorem pt_82_107 (w : qS) : gP w 82 107 = some (.inl (qo_get (gL w) 7 2)) := rfl
theorem pt_82_110 (w : qS) : gP w 82 110 = some (.inl (qo_k (iN 592) 3)) := rfl
theorem pt_82_113 (w : qS) : gP w 82 113 = some (.inl (qo_al 0 1)) := rfl
theorem pt_82_114 (w : qS) : gP w 82 114 = some (.inl (qo_get (gL w) 7 3)) := rfl
theorem pt_82_117 (w : qS) : gP w 82 117 = some (.inl (qo_b (fun x y => x * y))) := rfl
theorem pt_82_118 (w : qS) : gP w 82 118 = some (.inl (qo_il 2 1)) := rfl
theorem pt_82_119 (w : qS) : gP w 82 119 = some (.inl (qo_b (fun x y => x + y))) := rfl
theorem pt_82_120 (w : qS) : gP w 82 120 = some (.inl (qo_al 0 1)) := rfl
theorem pt_82_121 (w : qS) : gP w 82 121 = some (.inl (qo_get (gL w) 7 1)) := rfl
theorem pt_82_124 (w : qS) : gP w 82 124 = some (.inl (qo_il 2 1)) := rfl
theorem pt_82_125 (w : qS) : gP w 82 125 = some (.inl (qo_ia (gL w))) := rfl
theorem pt_82_126 (w : qS) : gP w 82 126 = some (.inl (qo_ias (gL w))) := rfl
theorem pt_82_127 (w : qS) : gP w 82 127 = some (.inl (qo_inc 2 1)) := rfl
theorem pt_82_130 (w : qS) : gP w 82 130 = some (.inl (qo_g 99)) := rfl
theorem pt_82_133 (w : qS) : gP w 82 133 = some (.inl (qo_al 0 1)) := rfl
theorem pt_82_134 (w : qS) : gP w 82 134 = some (.inl qo_dup) := rfl
theorem pt_82_135 (w : qS) : gP w 82 135 = some (.inl (qo_get (gL w) 7 3)) := rfl
theorem pt_82_138 (w : qS) : gP w 82 138 = some (.inl (qo_k 1 1)) := rfl
theorem pt_82_139 (w : qS) : gP w 82 139 = some (.inl (qo_b (fun x y => x + y))) := rfl
theorem pt_82_140 (w : qS) : gP w 82 140 = some (.inl (qo_put (gL w) 7 3)) := rfl
theorem pt_82_143 (w : qS) : gP w 82 143 = some (.inl (qo_al 0 1)) := rfl
theorem pt_82_144 (w : qS) : gP w 82 144 = some (.inr (.inl (80, 1, some 7))) := rfl
theorem pt_82_147 (w : qS) : gP w 82 147 = some (.inr (.inr 0)) := rfl
theorem pt_83_0 (w : qS) : gP w 83 0 = some (.inl (qo_al 0 1)) := rfl
theorem pt_83_1 (w : qS) : gP w 83 1 = some (.inl (qo_get (gL w) 7 3)) := rfl
theorem pt_83_4 (w : qS) : gP w 83 4 = some (.inl (qo_z (fun x => ¬ x = 0) 9)) := rfl
theorem pt_83_7 (w : qS) : gP w 83 7 = some (.inl (qo_k (-1) 1)) := rfl
theorem pt_83_8 (w : qS) : gP w 83 8 = some (.inr (.inr 1)) := rfl
theorem pt_83_9 (w : qS) : gP w 83 9 = some (.inl (qo_al 0 1)) := rfl
theorem pt_83_10 (w : qS) : gP w 83 10 = some (.inl qo_dup) := rfl
theorem pt_83_11 (w : qS) : gP w 83 11 = some (.inl (qo_get (gL w) 7 3)) := rfl
theorem pt_83_14 (w : qS) : gP w 83 14 = some (.inl (qo_k 1 1)) := rfl
theorem pt_83_15 (w : qS) : gP w 83 15 = some (.inl (qo_b (fun x y => x - y))) := rfl
theorem pt_83_16 (w : qS) : gP w 83 16 = some (.inl (qo_put (gL w) 7 3)) := rfl
theorem pt_83_19 (w : qS) : gP w 83 19 = some (.inl (qo_k 0 1)) := rfl
theorem pt_83_20 (w : qS) : gP w 83 20 = some (.inl (qo_is 1 1)) := rfl
theorem pt_83_21 (w : qS) : gP w 83 21 = some (.inl (qo_il 1 1)) := rfl
theorem pt_83_22 (w : qS) : gP w 83 22 = some (.inl (qo_k (iN 592) 3)) := rfl
theorem pt_83_25 (w : qS) : gP w 83 25 = some (.inl (qo_c (fun x y => y ≤ x) 55)) := rfl
theorem pt_83_28 (w : qS) : gP w 83 28 = some (.inl (qo_al 0 1)) := rfl
theorem pt_83_29 (w : qS) : gP w 83 29 = some (.inl (qo_get (gL w) 7 0)) := rfl
theorem pt_83_32 (w : qS) : gP w 83 32 = some (.inl (qo_il 1 1)) := rfl
theorem pt_83_33 (w : qS) : gP w 83 33 = some (.inl (qo_al 0 1)) := rfl
theorem pt_83_34 (w : qS) : gP w 83 34 = some (.inl (qo_get (gL w) 7 2)) := rfl
theorem pt_83_37 (w : qS) : gP w 83 37 = some (.inl (qo_k (iN 592) 3)) := rfl
theorem pt_83_40 (w : qS) : gP w 83 40 = some (.inl (qo_al 0 1)) := rfl
theorem pt_83_41 (w : qS) : gP w 83 41 = some (.inl (qo_get (gL w) 7 3)) := rfl
theorem pt_83_44 (w : qS) : gP w 83 44 = some (.inl (qo_b (fun x y => x * y))) := rfl
theorem pt_83_45 (w : qS) : gP w 83 45 = some (.inl (qo_il 1 1)) := rfl
theorem pt_83_46 (w : qS) : gP w 83 46 = some (.inl (qo_b (fun x y => x + y))) := rfl
theorem pt_83_47 (w : qS) : gP w 83 47 = some (.inl (qo_ia (gL w))) := rfl
theorem pt_83_48 (w : qS) : gP w 83 48 = some (.inl (qo_ias (gL w))) := rfl
theorem pt_83_49 (w : qS) : gP w 83 49 = some (.inl (qo_inc 1 1)) := rfl
theorem pt_83_52 (w : qS) : gP w 83 52 = some (.inl (qo_g 21)) := rfl
theorem pt_83_55 (w : qS) : gP w 83 55 = some (.inl (qo_al 0 1)) := rfl
theorem pt_83_56 (w : qS) : gP w 83 56 = some (.inr (.inl (80, 1, some 7))) := rfl
theorem pt_83_59 (w : qS) : gP w 83 59 = some (.inl (qo_al 0 1)) := rfl
theorem pt_83_60 (w : qS) : gP w 83 60 = some (.inl (qo_get (gL w) 7 3)) := rfl
theorem pt_83_63 (w : qS) : gP w 83 63 = some (.inr (.inr 1)) := rfl
theorem pt_84_0 (w : qS) : gP w 84 0 = some (.inl (qo_il 1 1)) := rfl
theorem pt_84_1 (w : qS) : gP w 84 1 = some (.inl (qo_z (fun x => x < 0) 18)) := rfl
theorem pt_84_4 (w : qS) : gP w 84 4 = some (.inl (qo_il 1 1)) := rfl
theorem pt_84_5 (w : qS) : gP w 84 5 = some (.inl (qo_al 0 1)) := rfl
theorem pt_84_6 (w : qS) : gP w 84 6 = some (.inl (qo_get (gL w) 7 0)) := rfl
theorem pt_84_9 (w : qS) : gP w 84 9 = some (.inl (qo_k 0 1)) := rfl
theorem pt_84_10 (w : qS) : gP w 84 10 = some (.inl (qo_ia (gL w))) := rfl
theorem pt_84_11 (w : qS) : gP w 84 11 = some (.inl (qo_c (fun x y => y ≤ x) 18)) := rfl
theorem pt_84_14 (w : qS) : gP w 84 14 = some (.inl (qo_k 1 1)) := rfl
theorem pt_84_15 (w : qS) : gP w 84 15 = some (.inl (qo_g 19)) := rfl
theorem pt_84_18 (w : qS) : gP w 84 18 = some (.inl (qo_k 0 1)) := rfl
theorem pt_84_19 (w : qS) : gP w 84 19 = some (.inr (.inr 2)) := rfl
theorem pt_85_0 (w : qS) : gP w 85 0 = some (.inl (qo_il 0 1)) := rfl
theorem pt_85_1 (w : qS) : gP w 85 1 = some (.inl (qo_z (fun x => x < 0) 15)) := rfl
theorem pt_85_4 (w : qS) : gP w 85 4 = some (.inl (qo_il 0 1)) := rfl
theorem pt_85_5 (w : qS) : gP w 85 5 = some (.inl (qo_k (iN 240) 3)) := rfl
theorem pt_85_8 (w : qS) : gP w 85 8 = some (.inl (qo_c (fun x y => y ≤ x) 15)) := rfl
theorem pt_85_11 (w : qS) : gP w 85 11 = some (.inl (qo_k 1 1)) := rfl
theorem pt_85_12 (w : qS) : gP w 85 12 = some (.inl (qo_g 16)) := rfl
theorem pt_85_15 (w : qS) : gP w 85 15 = some (.inl (qo_k 0 1)) := rfl
theorem pt_85_16 (w : qS) : gP w 85 16 = some (.inr (.inr 2)) := rfl
theorem pt_86_0 (w : qS) : gP w 86 0 = some (.inl (qo_il 1 1)) := rfl
theorem pt_86_1 (w : qS) : gP w 86 1 = some (.inl (qo_z (fun x => x < 0) 9)) := rfl
theorem pt_86_4 (w : qS) : gP w 86 4 = some (.inl (qo_il 1 1)) := rfl
theorem pt_86_5 (w : qS) : gP w 86 5 = some (.inl (qo_k (iN 3) 1)) := rfl
theorem pt_86_6 (w : qS) : gP w 86 6 = some (.inl (qo_c (fun x y => x ≤ y) 11)) := rfl
theorem pt_86_9 (w : qS) : gP w 86 9 = some (.inl (qo_k (-1) 1)) := rfl
theorem pt_86_10 (w : qS) : gP w 86 10 = some (.inr (.inr 1)) := rfl
theorem pt_86_11 (w : qS) : gP w 86 11 = some (.inl (qo_al 0 1)) := rfl
theorem pt_86_12 (w : qS) : gP w 86 12 = some (.inl (qo_get (gL w) 7 0)) := rfl
theorem pt_86_15 (w : qS) : gP w 86 15 = some (.inl (qo_k 0 1)) := rfl
theorem pt_86_16 (w : qS) : gP w 86 16 = some (.inl (qo_ia (gL w))) := rfl
theorem pt_86_17 (w : qS) : gP w 86 17 = some (.inl (qo_k (iN 16) 2)) := rfl
theorem pt_86_19 (w : qS) : gP w 86 19 = some (.inl (qo_c (fun x y => ¬ x = y) 25)) := rfl
theorem pt_86_22 (w : qS) : gP w 86 22 = some (.inl (qo_k (-2) 2)) := rfl
theorem pt_86_24 (w : qS) : gP w 86 24 = some (.inr (.inr 1)) := rfl
theorem pt_86_25 (w : qS) : gP w 86 25 = some (.inl (qo_al 0 1)) := rfl
theorem pt_86_26 (w : qS) : gP w 86 26 = some (.inr (.inl (81, 1, some 7))) := rfl
theorem pt_86_29 (w : qS) : gP w 86 29 = some (.inl (qo_al 0 1)) := rfl
theorem pt_86_30 (w : qS) : gP w 86 30 = some (.inl (qo_get (gL w) 7 0)) := rfl
theorem pt_86_33 (w : qS) : gP w 86 33 = some (.inl (qo_k (iN 16) 2)) := rfl
theorem pt_86_35 (w : qS) : gP w 86 35 = some (.inl (qo_al 0 1)) := rfl
theorem pt_86_36 (w : qS) : gP w 86 36 = some (.inl (qo_get (gL w) 7 0)) := rfl
theorem pt_86_39 (w : qS) : gP w 86 39 = some (.inl (qo_k 0 1)) := rfl
theorem pt_86_40 (w : qS) : gP w 86 40 = some (.inl (qo_ia (gL w))) := rfl
theorem pt_86_41 (w : qS) : gP w 86 41 = some (.inl (qo_b (fun x y => x + y))) := rfl
theorem pt_86_42 (w : qS) : gP w 86 42 = some (.inl (qo_il 1 1)) := rfl
theorem pt_86_43 (w : qS) : gP w 86 43 = some (.inl (qo_ias (gL w))) := rfl
theorem pt_86_44 (w : qS) : gP w 86 44 = some (.inl (qo_al 0 1)) := rfl
theorem pt_86_45 (w : qS) : gP w 86 45 = some (.inl (qo_get (gL w) 7 0)) := rfl
theorem pt_86_48 (w : qS) : gP w 86 48 = some (.inl (qo_k 0 1)) := rfl
theorem pt_86_49 (w : qS) : gP w 86 49 = some (.inl qo_dup2) := rfl
theorem pt_86_50 (w : qS) : gP w 86 50 = some (.inl (qo_ia (gL w))) := rfl
theorem pt_86_51 (w : qS) : gP w 86 51 = some (.inl (qo_k 1 1)) := rfl
theorem pt_86_52 (w : qS) : gP w 86 52 = some (.inl (qo_b (fun x y => x + y))) := rfl
theorem pt_86_53 (w : qS) : gP w 86 53 = some (.inl (qo_ias (gL w))) := rfl
theorem pt_86_54 (w : qS) : gP w 86 54 = some (.inl (qo_al 0 1)) := rfl
theorem pt_86_55 (w : qS) : gP w 86 55 = some (.inr (.inl (82, 1, some 7))) := rfl
theorem pt_86_58 (w : qS) : gP w 86 58 = some (.inl (qo_al 0 1)) := rfl
theorem pt_86_59 (w : qS) : gP w 86 59 = some (.inl (qo_get (gL w) 7 0)) := rfl
theorem pt_86_62 (w : qS) : gP w 86 62 = some (.inl (qo_k 0 1)) := rfl
theorem pt_86_63 (w : qS) : gP w 86 63 = some (.inl (qo_ia (gL w))) := rfl
theorem pt_86_64 (w : qS) : gP w 86 64 = some (.inl (qo_k 1 1)) := rfl
theorem pt_86_65 (w : qS) : gP w 86 65 = some (.inl (qo_b (fun x y => x - y))) := rfl
theorem pt_86_66 (w : qS) : gP w 86 66 = some (.inr (.inr 1)) := rfl
theorem pt_87_0 (w : qS) : gP w 87 0 = some (.inl (qo_al 0 1)) := rfl
theorem pt_87_1 (w : qS) : gP w 87 1 = some (.inl (qo_il 1 1)) := rfl
theorem pt_87_2 (w : qS) : gP w 87 2 = some (.inr (.inl (84, 2, some 7))) := rfl
theorem pt_87_5 (w : qS) : gP w 87 5 = some (.inl (qo_z (fun x => x = 0) 21)) := rfl
theorem pt_87_8 (w : qS) : gP w 87 8 = some (.inl (qo_al 0 1)) := rfl
theorem pt_87_9 (w : qS) : gP w 87 9 = some (.inl (qo_il 2 1)) := rfl
theorem pt_87_10 (w : qS) : gP w 87 10 = some (.inr (.inl (84, 2, some 7))) := rfl
theorem pt_87_13 (w : qS) : gP w 87 13 = some (.inl (qo_z (fun x => x = 0) 21)) := rfl
theorem pt_87_16 (w : qS) : gP w 87 16 = some (.inl (qo_il 1 1)) := rfl
theorem pt_87_17 (w : qS) : gP w 87 17 = some (.inl (qo_il 2 1)) := rfl
theorem pt_87_18 (w : qS) : gP w 87 18 = some (.inl (qo_c (fun x y => ¬ x = y) 23)) := rfl
theorem pt_87_21 (w : qS) : gP w 87 21 = some (.inl (qo_k (-1) 1)) := rfl
theorem pt_87_22 (w : qS) : gP w 87 22 = some (.inr (.inr 1)) := rfl
theorem pt_87_23 (w : qS) : gP w 87 23 = some (.inl (qo_al 0 1)) := rfl
theorem pt_87_24 (w : qS) : gP w 87 24 = some (.inl (qo_get (gL w) 7 0)) := rfl
theorem pt_87_27 (w : qS) : gP w 87 27 = some (.inl (qo_k 1 1)) := rfl
theorem pt_87_28 (w : qS) : gP w 87 28 = some (.inl (qo_ia (gL w))) := rfl
theorem pt_87_29 (w : qS) : gP w 87 29 = some (.inl (qo_k (iN 24) 2)) := rfl
theorem pt_87_31 (w : qS) : gP w 87 31 = some (.inl (qo_c (fun x y => ¬ x = y) 37)) := rfl
theorem pt_87_34 (w : qS) : gP w 87 34 = some (.inl (qo_k (-2) 2)) := rfl
theorem pt_87_36 (w : qS) : gP w 87 36 = some (.inr (.inr 1)) := rfl
theorem pt_87_37 (w : qS) : gP w 87 37 = some (.inl (qo_al 0 1)) := rfl
theorem pt_87_38 (w : qS) : gP w 87 38 = some (.inr (.inl (81, 1, some 7))) := rfl
theorem pt_87_41 (w : qS) : gP w 87 41 = some (.inl (qo_al 0 1)) := rfl
theorem pt_87_42 (w : qS) : gP w 87 42 = some (.inl (qo_get (gL w) 7 0)) := rfl
theorem pt_87_45 (w : qS) : gP w 87 45 = some (.inl (qo_k (iN 64) 2)) := rfl
theorem pt_87_47 (w : qS) : gP w 87 47 = some (.inl (qo_k (iN 2) 1)) := rfl
theorem pt_87_48 (w : qS) : gP w 87 48 = some (.inl (qo_al 0 1)) := rfl
theorem pt_87_49 (w : qS) : gP w 87 49 = some (.inl (qo_get (gL w) 7 0)) := rfl
theorem pt_87_52 (w : qS) : gP w 87 52 = some (.inl (qo_k 1 1)) := rfl
theorem pt_87_53 (w : qS) : gP w 87 53 = some (.inl (qo_ia (gL w))) := rfl
theorem pt_87_54 (w : qS) : gP w 87 54 = some (.inl (qo_b (fun x y => x * y))) := rfl
theorem pt_87_55 (w : qS) : gP w 87 55 = some (.inl (qo_b (fun x y => x + y))) := rfl
theorem pt_87_56 (w : qS) : gP w 87 56 = some (.inl (qo_il 1 1)) := rfl
theorem pt_87_57 (w : qS) : gP w 87 57 = some (.inl (qo_ias (gL w))) := rfl
theorem pt_87_58 (w : qS) : gP w 87 58 = some (.inl (qo_al 0 1)) := rfl
theorem pt_87_59 (w : qS) : gP w 87 59 = some (.inl (qo_get (gL w) 7 0)) := rfl
theorem pt_87_62 (w : qS) : gP w 87 62 = some (.inl (qo_k (iN 64) 2)) := rfl
theorem pt_87_64 (w : qS) : gP w 87 64 = some (.inl (qo_k (iN 2) 1)) := rfl
theorem pt_87_65 (w : qS) : gP w 87 65 = some (.inl (qo_al 0 1)) := rfl
theorem pt_87_66 (w : qS) : gP w 87 66 = some (.inl (qo_get (gL w) 7 0)) := rfl
theorem pt_87_69 (w : qS) : gP w 87 69 = some (.inl (qo_k 1 1)) := rfl
theorem pt_87_70 (w : qS) : gP w 87 70 = some (.inl (qo_ia (gL w))) := rfl
theorem pt_87_71 (w : qS) : gP w 87 71 = some (.inl (qo_b (fun x y => x * y))) := rfl
theorem pt_87_72 (w : qS) : gP w 87 72 = some (.inl (qo_b (fun x y => x + y))) := rfl
theorem pt_87_73 (w : qS) : gP w 87 73 = some (.inl (qo_k 1 1)) := rfl
theorem pt_87_74 (w : qS) : gP w 87 74 = some (.inl (qo_b (fun x y => x + y))) := rfl
theorem pt_87_75 (w : qS) : gP w 87 75 = some (.inl (qo_il 2 1)) := rfl
theorem pt_87_76 (w : qS) : gP w 87 76 = some (.inl (qo_ias (gL w))) := rfl
theorem pt_87_77 (w : qS) : gP w 87 77 = some (.inl (qo_al 0 1)) := rfl
theorem pt_87_78 (w : qS) : gP w 87 78 = some (.inl (qo_get (gL w) 7 0)) := rfl
theorem pt_87_81 (w : qS) : gP w 87 81 = some (.inl (qo_k 1 1)) := rfl
theorem pt_87_82 (w : qS) : gP w 87 82 = some (.inl qo_dup2) := rfl
theorem pt_87_83 (w : qS) : gP w 87 83 = some (.inl (qo_ia (gL w))) := rfl
theorem pt_87_84 (w : qS) : gP w 87 84 = some (.inl (qo_k 1 1)) := rfl
theorem pt_87_85 (w : qS) : gP w 87 85 = some (.inl (qo_b (fun x y => x + y))) := rfl
theorem pt_87_86 (w : qS) : gP w 87 86 = some (.inl (qo_ias (gL w))) := rfl
theorem pt_87_87 (w : qS) : gP w 87 87 = some (.inl (qo_al 0 1)) := rfl
theorem pt_87_88 (w : qS) : gP w 87 88 = some (.inr (.inl (82, 1, some 7))) := rfl
theorem pt_87_91 (w : qS) : gP w 87 91 = some (.inl (qo_al 0 1)) := rfl
theorem pt_87_92 (w : qS) : gP w 87 92 = some (.inl (qo_get (gL w) 7 0)) := rfl
theorem pt_87_95 (w : qS) : gP w 87 95 = some (.inl (qo_k 1 1)) := rfl
theorem pt_87_96 (w : qS) : gP w 87 96 = some (.inl (qo_ia (gL w))) := rfl
theorem pt_87_97 (w : qS) : gP w 87 97 = some (.inl (qo_k 1 1)) := rfl
theorem pt_87_98 (w : qS) : gP w 87 98 = some (.inl (qo_b (fun x y => x - y))) := rfl
theorem pt_87_99 (w : qS) : gP w 87 99 = some (.inr (.inr 1)) := rfl
theorem pt_88_0 (w : qS) : gP w 88 0 = some (.inl (qo_il 1 1)) := rfl
theorem pt_88_1 (w : qS) : gP w 88 1 = some (.inl (qo_z (fun x => x < 0) 14)) := rfl
theorem pt_88_4 (w : qS) : gP w 88 4 = some (.inl (qo_il 1 1)) := rfl
theorem pt_88_5 (w : qS) : gP w 88 5 = some (.inl (qo_al 0 1)) := rfl
theorem pt_88_6 (w : qS) : gP w 88 6 = some (.inl (qo_get (gL w) 7 0)) := rfl
theorem pt_88_9 (w : qS) : gP w 88 9 = some (.inl (qo_k 1 1)) := rfl
theorem pt_88_10 (w : qS) : gP w 88 10 = some (.inl (qo_ia (gL w))) := rfl
theorem pt_88_11 (w : qS) : gP w 88 11 = some (.inl (qo_c (fun x y => x < y) 16)) := rfl
theorem pt_88_14 (w : qS) : gP w 88 14 = some (.inl (qo_k (-1) 1)) := rfl
theorem pt_88_15 (w : qS) : gP w 88 15 = some (.inr (.inr 1)) := rfl
theorem pt_88_16 (w : qS) : gP w 88 16 = some (.inl (qo_al 0 1)) := rfl
theorem pt_88_17 (w : qS) : gP w 88 17 = some (.inr (.inl (81, 1, some 7))) := rfl
theorem pt_88_20 (w : qS) : gP w 88 20 = some (.inl (qo_al 0 1)) := rfl
theorem pt_88_21 (w : qS) : gP w 88 21 = some (.inl (qo_get (gL w) 7 0)) := rfl
theorem pt_88_24 (w : qS) : gP w 88 24 = some (.inl (qo_k 1 1)) := rfl
theorem pt_88_25 (w : qS) : gP w 88 25 = some (.inl qo_dup2) := rfl
theorem pt_88_26 (w : qS) : gP w 88 26 = some (.inl (qo_ia (gL w))) := rfl
theorem pt_88_27 (w : qS) : gP w 88 27 = some (.inl (qo_k 1 1)) := rfl
theorem pt_88_28 (w : qS) : gP w 88 28 = some (.inl (qo_b (fun x y => x - y))) := rfl
theorem pt_88_29 (w : qS) : gP w 88 29 = some (.inl (qo_ias (gL w))) := rfl
theorem pt_88_30 (w : qS) : gP w 88 30 = some (.inl (qo_k (iN 2) 1)) := rfl
theorem pt_88_31 (w : qS) : gP w 88 31 = some (.inl (qo_il 1 1)) := rfl
theorem pt_88_32 (w : qS) : gP w 88 32 = some (.inl (qo_b (fun x y => x * y))) := rfl
theorem pt_88_33 (w : qS) : gP w 88 33 = some (.inl (qo_is 2 1)) := rfl
theorem pt_88_34 (w : qS) : gP w 88 34 = some (.inl (qo_il 2 1)) := rfl
theorem pt_88_35 (w : qS) : gP w 88 35 = some (.inl (qo_k (iN 2) 1)) := rfl
theorem pt_88_36 (w : qS) : gP w 88 36 = some (.inl (qo_al 0 1)) := rfl
theorem pt_88_37 (w : qS) : gP w 88 37 = some (.inl (qo_get (gL w) 7 0)) := rfl
theorem pt_88_40 (w : qS) : gP w 88 40 = some (.inl (qo_k 1 1)) := rfl
theorem pt_88_41 (w : qS) : gP w 88 41 = some (.inl (qo_ia (gL w))) := rfl
theorem pt_88_42 (w : qS) : gP w 88 42 = some (.inl (qo_b (fun x y => x * y))) := rfl
theorem pt_88_43 (w : qS) : gP w 88 43 = some (.inl (qo_c (fun x y => y ≤ x) 72)) := rfl
theorem pt_88_46 (w : qS) : gP w 88 46 = some (.inl (qo_al 0 1)) := rfl
theorem pt_88_47 (w : qS) : gP w 88 47 = some (.inl (qo_get (gL w) 7 0)) := rfl
theorem pt_88_50 (w : qS) : gP w 88 50 = some (.inl (qo_k (iN 64) 2)) := rfl
theorem pt_88_52 (w : qS) : gP w 88 52 = some (.inl (qo_il 2 1)) := rfl
theorem pt_88_53 (w : qS) : gP w 88 53 = some (.inl (qo_b (fun x y => x + y))) := rfl
theorem pt_88_54 (w : qS) : gP w 88 54 = some (.inl (qo_al 0 1)) := rfl
theorem pt_88_55 (w : qS) : gP w 88 55 = some (.inl (qo_get (gL w) 7 0)) := rfl
theorem pt_88_58 (w : qS) : gP w 88 58 = some (.inl (qo_k (iN 64) 2)) := rfl
theorem pt_88_60 (w : qS) : gP w 88 60 = some (.inl (qo_il 2 1)) := rfl
theorem pt_88_61 (w : qS) : gP w 88 61 = some (.inl (qo_b (fun x y => x + y))) := rfl
theorem pt_88_62 (w : qS) : gP w 88 62 = some (.inl (qo_k (iN 2) 1)) := rfl
theorem pt_88_63 (w : qS) : gP w 88 63 = some (.inl (qo_b (fun x y => x + y))) := rfl
theorem pt_88_64 (w : qS) : gP w 88 64 = some (.inl (qo_ia (gL w))) := rfl
theorem pt_88_65 (w : qS) : gP w 88 65 = some (.inl (qo_ias (gL w))) := rfl
theorem pt_88_66 (w : qS) : gP w 88 66 = some (.inl (qo_inc 2 1)) := rfl
theorem pt_88_69 (w : qS) : gP w 88 69 = some (.inl (qo_g 34)) := rfl
theorem pt_88_72 (w : qS) : gP w 88 72 = some (.inl (qo_al 0 1)) := rfl
theorem pt_88_73 (w : qS) : gP w 88 73 = some (.inl (qo_get (gL w) 7 0)) := rfl
theorem pt_88_76 (w : qS) : gP w 88 76 = some (.inl (qo_k (iN 64) 2)) := rfl
theorem pt_88_78 (w : qS) : gP w 88 78 = some (.inl (qo_k (iN 2) 1)) := rfl
theorem pt_88_79 (w : qS) : gP w 88 79 = some (.inl (qo_al 0 1)) := rfl
theorem pt_88_80 (w : qS) : gP w 88 80 = some (.inl (qo_get (gL w) 7 0)) := rfl
theorem pt_88_83 (w : qS) : gP w 88 83 = some (.inl (qo_k 1 1)) := rfl
theorem pt_88_84 (w : qS) : gP w 88 84 = some (.inl (qo_ia (gL w))) := rfl
theorem pt_88_85 (w : qS) : gP w 88 85 = some (.inl (qo_b (fun x y => x * y))) := rfl
theorem pt_88_86 (w : qS) : gP w 88 86 = some (.inl (qo_b (fun x y => x + y))) := rfl
theorem pt_88_87 (w : qS) : gP w 88 87 = some (.inl (qo_k 0 1)) := rfl
theorem pt_88_88 (w : qS) : gP w 88 88 = some (.inl (qo_ias (gL w))) := rfl
theorem pt_88_89 (w : qS) : gP w 88 89 = some (.inl (qo_al 0 1)) := rfl
theorem pt_88_90 (w : qS) : gP w 88 90 = some (.inl (qo_get (gL w) 7 0)) := rfl
theorem pt_88_93 (w : qS) : gP w 88 93 = some (.inl (qo_k (iN 64) 2)) := rfl
theorem pt_88_95 (w : qS) : gP w 88 95 = some (.inl (qo_k (iN 2) 1)) := rfl
theorem pt_88_96 (w : qS) : gP w 88 96 = some (.inl (qo_al 0 1)) := rfl
theorem pt_88_97 (w : qS) : gP w 88 97 = some (.inl (qo_get (gL w) 7 0)) := rfl
theorem pt_88_100 (w : qS) : gP w 88 100 = some (.inl (qo_k 1 1)) := rfl
theorem pt_88_101 (w : qS) : gP w 88 101 = some (.inl (qo_ia (gL w))) := rfl
theorem pt_88_102 (w : qS) : gP w 88 102 = some (.inl (qo_b (fun x y => x * y))) := rfl
theorem pt_88_103 (w : qS) : gP w 88 103 = some (.inl (qo_b (fun x y => x + y))) := rfl
theorem pt_88_104 (w : qS) : gP w 88 104 = some (.inl (qo_k 1 1)) := rfl
theorem pt_88_105 (w : qS) : gP w 88 105 = some (.inl (qo_b (fun x y => x + y))) := rfl
theorem pt_88_106 (w : qS) : gP w 88 106 = some (.inl (qo_k 0 1)) := rfl
theorem pt_88_107 (w : qS) : gP w 88 107 = some (.inl (qo_ias (gL w))) := rfl
theorem pt_88_108 (w : qS) : gP w 88 108 = some (.inl (qo_al 0 1)) := rfl
theorem pt_88_109 (w : qS) : gP w 88 109 = some (.inr (.inl (82, 1, some 7))) := rfl
theorem pt_88_112 (w : qS) : gP w 88 112 = some (.inl (qo_al 0 1)) := rfl
theorem pt_88_113 (w : qS) : gP w 88 113 = some (.inl (qo_get (gL w) 7 0)) := rfl
theorem pt_88_116 (w : qS) : gP w 88 116 = some (.inl (qo_k 1 1)) := rfl
theorem pt_88_117 (w : qS) : gP w 88 117 = some (.inl (qo_ia (gL w))) := rfl
theorem pt_88_118 (w : qS) : gP w 88 118 = some (.inr (.inr 1)) := rfl
theorem pt_89_0 (w : qS) : gP w 89 0 = some (.inl (qo_al 0 1)) := rfl
theorem pt_89_1 (w : qS) : gP w 89 1 = some (.inl (qo_il 1 1)) := rfl
theorem pt_89_2 (w : qS) : gP w 89 2 = some (.inr (.inl (84, 2, some 7))) := rfl
theorem pt_89_5 (w : qS) : gP w 89 5 = some (.inl (qo_z (fun x => x = 0) 17)) := rfl
theorem pt_89_8 (w : qS) : gP w 89 8 = some (.inl (qo_al 0 1)) := rfl
theorem pt_89_9 (w : qS) : gP w 89 9 = some (.inl (qo_get (gL w) 7 4)) := rfl
theorem pt_89_12 (w : qS) : gP w 89 12 = some (.inl (qo_il 1 1)) := rfl
theorem pt_89_13 (w : qS) : gP w 89 13 = some (.inl (qo_ia (gL w))) := rfl
theorem pt_89_14 (w : qS) : gP w 89 14 = some (.inl (qo_g 18)) := rfl
theorem pt_89_17 (w : qS) : gP w 89 17 = some (.inl (qo_k (-1) 1)) := rfl
theorem pt_89_18 (w : qS) : gP w 89 18 = some (.inr (.inr 1)) := rfl
theorem pt_90_0 (w : qS) : gP w 90 0 = some (.inl (qo_k 0 1)) := rfl
theorem pt_90_1 (w : qS) : gP w 90 1 = some (.inl (qo_is 3 1)) := rfl
theorem pt_90_2 (w : qS) : gP w 90 2 = some (.inl (qo_k 0 1)) := rfl
theorem pt_90_3 (w : qS) : gP w 90 3 = some (.inl (qo_is 4 2)) := rfl
theorem pt_90_5 (w : qS) : gP w 90 5 = some (.inl (qo_il 4 2)) := rfl
theorem pt_90_7 (w : qS) : gP w 90 7 = some (.inl (qo_al 0 1)) := rfl
theorem pt_90_8 (w : qS) : gP w 90 8 = some (.inl (qo_get (gL w) 7 0)) := rfl
theorem pt_90_11 (w : qS) : gP w 90 11 = some (.inl (qo_k 0 1)) := rfl
theorem pt_90_12 (w : qS) : gP w 90 12 = some (.inl (qo_ia (gL w))) := rfl
theorem pt_90_13 (w : qS) : gP w 90 13 = some (.inl (qo_c (fun x y => y ≤ x) 55)) := rfl
theorem pt_90_16 (w : qS) : gP w 90 16 = some (.inl (qo_al 0 1)) := rfl
theorem pt_90_17 (w : qS) : gP w 90 17 = some (.inl (qo_get (gL w) 7 4)) := rfl
theorem pt_90_20 (w : qS) : gP w 90 20 = some (.inl (qo_il 4 2)) := rfl
theorem pt_90_22 (w : qS) : gP w 90 22 = some (.inl (qo_ia (gL w))) := rfl
theorem pt_90_23 (w : qS) : gP w 90 23 = some (.inl (qo_il 1 1)) := rfl
theorem pt_90_24 (w : qS) : gP w 90 24 = some (.inl (qo_c (fun x y => ¬ x = y) 47)) := rfl
theorem pt_90_27 (w : qS) : gP w 90 27 = some (.inl (qo_al 0 1)) := rfl
theorem pt_90_28 (w : qS) : gP w 90 28 = some (.inl (qo_get (gL w) 7 0)) := rfl
theorem pt_90_31 (w : qS) : gP w 90 31 = some (.inl (qo_k (iN 16) 2)) := rfl
theorem pt_90_33 (w : qS) : gP w 90 33 = some (.inl (qo_il 4 2)) := rfl
theorem pt_90_35 (w : qS) : gP w 90 35 = some (.inl (qo_b (fun x y => x + y))) := rfl
theorem pt_90_36 (w : qS) : gP w 90 36 = some (.inl (qo_ia (gL w))) := rfl
theorem pt_90_37 (w : qS) : gP w 90 37 = some (.inl (qo_il 2 1)) := rfl
theorem pt_90_38 (w : qS) : gP w 90 38 = some (.inl (qo_c (fun x y => ¬ x = y) 47)) := rfl
theorem pt_90_41 (w : qS) : gP w 90 41 = some (.inl (qo_il 3 1)) := rfl
theorem pt_90_42 (w : qS) : gP w 90 42 = some (.inl (qo_k 1 1)) := rfl
theorem pt_90_43 (w : qS) : gP w 90 43 = some (.inl (qo_b (fun x y => x + y))) := rfl
theorem pt_90_44 (w : qS) : gP w 90 44 = some (.inl (qo_g 48)) := rfl
theorem pt_90_47 (w : qS) : gP w 90 47 = some (.inl (qo_il 3 1)) := rfl
theorem pt_90_48 (w : qS) : gP w 90 48 = some (.inl (qo_is 3 1)) := rfl
theorem pt_90_49 (w : qS) : gP w 90 49 = some (.inl (qo_inc 4 1)) := rfl
theorem pt_90_52 (w : qS) : gP w 90 52 = some (.inl (qo_g 5)) := rfl
theorem pt_90_55 (w : qS) : gP w 90 55 = some (.inl (qo_il 3 1)) := rfl
theorem pt_90_56 (w : qS) : gP w 90 56 = some (.inr (.inr 1)) := rfl
theorem pt_91_0 (w : qS) : gP w 91 0 = some (.inl (qo_il 2 1)) := rfl
theorem pt_91_1 (w : qS) : gP w 91 1 = some (.inl (qo_z (fun x => x < 0) 9)) := rfl
theorem pt_91_4 (w : qS) : gP w 91 4 = some (.inl (qo_il 2 1)) := rfl
theorem pt_91_5 (w : qS) : gP w 91 5 = some (.inl (qo_k 1 1)) := rfl
theorem pt_91_6 (w : qS) : gP w 91 6 = some (.inl (qo_c (fun x y => x ≤ y) 11)) := rfl
theorem pt_91_9 (w : qS) : gP w 91 9 = some (.inl (qo_k (-1) 1)) := rfl
theorem pt_91_10 (w : qS) : gP w 91 10 = some (.inr (.inr 1)) := rfl
theorem pt_91_11 (w : qS) : gP w 91 11 = some (.inl (qo_k 0 1)) := rfl
theorem pt_91_12 (w : qS) : gP w 91 12 = some (.inl (qo_is 3 1)) := rfl
theorem pt_91_13 (w : qS) : gP w 91 13 = some (.inl (qo_k 0 1)) := rfl
theorem pt_91_14 (w : qS) : gP w 91 14 = some (.inl (qo_is 4 2)) := rfl
theorem pt_91_16 (w : qS) : gP w 91 16 = some (.inl (qo_il 4 2)) := rfl
theorem pt_91_18 (w : qS) : gP w 91 18 = some (.inl (qo_al 0 1)) := rfl
theorem pt_91_19 (w : qS) : gP w 91 19 = some (.inl (qo_get (gL w) 7 0)) := rfl
theorem pt_91_22 (w : qS) : gP w 91 22 = some (.inl (qo_k 0 1)) := rfl
theorem pt_91_23 (w : qS) : gP w 91 23 = some (.inl (qo_ia (gL w))) := rfl
theorem pt_91_24 (w : qS) : gP w 91 24 = some (.inl (qo_c (fun x y => y ≤ x) 151)) := rfl
theorem pt_91_27 (w : qS) : gP w 91 27 = some (.inl (qo_k 1 1)) := rfl
theorem pt_91_28 (w : qS) : gP w 91 28 = some (.inl (qo_is 5 2)) := rfl
theorem pt_91_30 (w : qS) : gP w 91 30 = some (.inl (qo_il 5 2)) := rfl
theorem pt_91_32 (w : qS) : gP w 91 32 = some (.inl (qo_k (iN 2) 1)) := rfl
theorem pt_91_33 (w : qS) : gP w 91 33 = some (.inl (qo_c (fun x y => y < x) 145)) := rfl
theorem pt_91_36 (w : qS) : gP w 91 36 = some (.inl (qo_al 0 1)) := rfl
theorem pt_91_37 (w : qS) : gP w 91 37 = some (.inl (qo_il 4 2)) := rfl
theorem pt_91_39 (w : qS) : gP w 91 39 = some (.inl (qo_k 1 1)) := rfl
theorem pt_91_40 (w : qS) : gP w 91 40 = some (.inr (.inl (90, 3, some 7))) := rfl
theorem pt_91_43 (w : qS) : gP w 91 43 = some (.inl (qo_k 1 1)) := rfl
theorem pt_91_44 (w : qS) : gP w 91 44 = some (.inl (qo_c (fun x y => x ≤ y) 51)) := rfl
theorem pt_91_47 (w : qS) : gP w 91 47 = some (.inl (qo_k 1 1)) := rfl
theorem pt_91_48 (w : qS) : gP w 91 48 = some (.inl (qo_g 52)) := rfl
theorem pt_91_51 (w : qS) : gP w 91 51 = some (.inl (qo_k 0 1)) := rfl
theorem pt_91_52 (w : qS) : gP w 91 52 = some (.inl (qo_is 6 2)) := rfl
theorem pt_91_54 (w : qS) : gP w 91 54 = some (.inl (qo_al 0 1)) := rfl
theorem pt_91_55 (w : qS) : gP w 91 55 = some (.inl (qo_il 4 2)) := rfl
theorem pt_91_57 (w : qS) : gP w 91 57 = some (.inl (qo_k 0 1)) := rfl
theorem pt_91_58 (w : qS) : gP w 91 58 = some (.inr (.inl (90, 3, some 7))) := rfl
theorem pt_91_61 (w : qS) : gP w 91 61 = some (.inl (qo_z (fun x => x ≤ 0) 86)) := rfl
theorem pt_91_64 (w : qS) : gP w 91 64 = some (.inl (qo_al 0 1)) := rfl
theorem pt_91_65 (w : qS) : gP w 91 65 = some (.inl (qo_il 4 2)) := rfl
theorem pt_91_67 (w : qS) : gP w 91 67 = some (.inl (qo_k 1 1)) := rfl
theorem pt_91_68 (w : qS) : gP w 91 68 = some (.inr (.inl (90, 3, some 7))) := rfl
theorem pt_91_71 (w : qS) : gP w 91 71 = some (.inl (qo_al 0 1)) := rfl
theorem pt_91_72 (w : qS) : gP w 91 72 = some (.inl (qo_il 4 2)) := rfl
theorem pt_91_74 (w : qS) : gP w 91 74 = some (.inl (qo_k (iN 3) 1)) := rfl
theorem pt_91_75 (w : qS) : gP w 91 75 = some (.inr (.inl (90, 3, some 7))) := rfl
theorem pt_91_78 (w : qS) : gP w 91 78 = some (.inl (qo_b (fun x y => x + y))) := rfl
theorem pt_91_79 (w : qS) : gP w 91 79 = some (.inl (qo_z (fun x => ¬ x = 0) 86)) := rfl
theorem pt_91_82 (w : qS) : gP w 91 82 = some (.inl (qo_k 1 1)) := rfl
theorem pt_91_83 (w : qS) : gP w 91 83 = some (.inl (qo_g 87)) := rfl
theorem pt_91_86 (w : qS) : gP w 91 86 = some (.inl (qo_k 0 1)) := rfl
theorem pt_91_87 (w : qS) : gP w 91 87 = some (.inl (qo_is 7 2)) := rfl
theorem pt_91_89 (w : qS) : gP w 91 89 = some (.inl (qo_il 5 2)) := rfl
theorem pt_91_91 (w : qS) : gP w 91 91 = some (.inl (qo_k 1 1)) := rfl
theorem pt_91_92 (w : qS) : gP w 91 92 = some (.inl (qo_c (fun x y => ¬ x = y) 100)) := rfl
theorem pt_91_95 (w : qS) : gP w 91 95 = some (.inl (qo_il 6 2)) := rfl
theorem pt_91_97 (w : qS) : gP w 91 97 = some (.inl (qo_g 102)) := rfl
theorem pt_91_100 (w : qS) : gP w 91 100 = some (.inl (qo_il 7 2)) := rfl
theorem pt_91_102 (w : qS) : gP w 91 102 = some (.inl (qo_is 8 2)) := rfl
theorem pt_91_104 (w : qS) : gP w 91 104 = some (.inl (qo_il 8 2)) := rfl
theorem pt_91_106 (w : qS) : gP w 91 106 = some (.inl (qo_z (fun x => x = 0) 126)) := rfl
theorem pt_91_109 (w : qS) : gP w 91 109 = some (.inl (qo_il 3 1)) := rfl
theorem pt_91_110 (w : qS) : gP w 91 110 = some (.inl (qo_il 1 1)) := rfl
theorem pt_91_111 (w : qS) : gP w 91 111 = some (.inl (qo_c (fun x y => ¬ x = y) 126)) := rfl
theorem pt_91_114 (w : qS) : gP w 91 114 = some (.inl (qo_il 2 1)) := rfl
theorem pt_91_115 (w : qS) : gP w 91 115 = some (.inl (qo_z (fun x => ¬ x = 0) 123)) := rfl
theorem pt_91_118 (w : qS) : gP w 91 118 = some (.inl (qo_il 5 2)) := rfl
theorem pt_91_120 (w : qS) : gP w 91 120 = some (.inl (qo_g 125)) := rfl
theorem pt_91_123 (w : qS) : gP w 91 123 = some (.inl (qo_il 4 2)) := rfl
theorem pt_91_125 (w : qS) : gP w 91 125 = some (.inr (.inr 1)) := rfl
theorem pt_91_126 (w : qS) : gP w 91 126 = some (.inl (qo_il 8 2)) := rfl
theorem pt_91_128 (w : qS) : gP w 91 128 = some (.inl (qo_z (fun x => x = 0) 137)) := rfl
theorem pt_91_131 (w : qS) : gP w 91 131 = some (.inl (qo_il 3 1)) := rfl
theorem pt_91_132 (w : qS) : gP w 91 132 = some (.inl (qo_k 1 1)) := rfl
theorem pt_91_133 (w : qS) : gP w 91 133 = some (.inl (qo_b (fun x y => x + y))) := rfl
theorem pt_91_134 (w : qS) : gP w 91 134 = some (.inl (qo_g 138)) := rfl
theorem pt_91_137 (w : qS) : gP w 91 137 = some (.inl (qo_il 3 1)) := rfl
theorem pt_91_138 (w : qS) : gP w 91 138 = some (.inl (qo_is 3 1)) := rfl
theorem pt_91_139 (w : qS) : gP w 91 139 = some (.inl (qo_inc 5 1)) := rfl
theorem pt_91_142 (w : qS) : gP w 91 142 = some (.inl (qo_g 30)) := rfl
theorem pt_91_145 (w : qS) : gP w 91 145 = some (.inl (qo_inc 4 1)) := rfl
theorem pt_91_148 (w : qS) : gP w 91 148 = some (.inl (qo_g 16)) := rfl
theorem pt_91_151 (w : qS) : gP w 91 151 = some (.inl (qo_k (-1) 1)) := rfl
theorem pt_91_152 (w : qS) : gP w 91 152 = some (.inr (.inr 1)) := rfl
theorem pt_92_0 (w : qS) : gP w 92 0 = some (.inl (qo_il 1 1)) := rfl
theorem pt_92_1 (w : qS) : gP w 92 1 = some (.inl (qo_k (iN 12) 2)) := rfl
theorem pt_92_3 (w : qS) : gP w 92 3 = some (.inl (qo_d (fun x y => x - x / y * y))) := rfl
theorem pt_92_4 (w : qS) : gP w 92 4 = some (.inl (qo_is 4 2)) := rfl
theorem pt_92_6 (w : qS) : gP w 92 6 = some (.inl (qo_il 1 1)) := rfl
theorem pt_92_7 (w : qS) : gP w 92 7 = some (.inl (qo_k (iN 120) 2)) := rfl
theorem pt_92_9 (w : qS) : gP w 92 9 = some (.inl (qo_d (fun x y => x - x / y * y))) := rfl
theorem pt_92_10 (w : qS) : gP w 92 10 = some (.inl (qo_k (iN 12) 2)) := rfl
theorem pt_92_12 (w : qS) : gP w 92 12 = some (.inl (qo_d (fun x y => x / y))) := rfl
theorem pt_92_13 (w : qS) : gP w 92 13 = some (.inl (qo_is 5 2)) := rfl
theorem pt_92_15 (w : qS) : gP w 92 15 = some (.inl (qo_k 0 1)) := rfl
theorem pt_92_16 (w : qS) : gP w 92 16 = some (.inl (qo_is 6 2)) := rfl
theorem pt_92_18 (w : qS) : gP w 92 18 = some (.inl (qo_al 0 1)) := rfl
theorem pt_92_19 (w : qS) : gP w 92 19 = some (.inl (qo_get (gL w) 7 0)) := rfl
theorem pt_92_22 (w : qS) : gP w 92 22 = some (.inl (qo_k (iN 2) 1)) := rfl
theorem pt_92_23 (w : qS) : gP w 92 23 = some (.inl (qo_ia (gL w))) := rfl
theorem pt_92_24 (w : qS) : gP w 92 24 = some (.inl (qo_u (fun x => -x))) := rfl
theorem pt_92_25 (w : qS) : gP w 92 25 = some (.inl (qo_is 7 2)) := rfl
theorem pt_92_27 (w : qS) : gP w 92 27 = some (.inl (qo_il 7 2)) := rfl
theorem pt_92_29 (w : qS) : gP w 92 29 = some (.inl (qo_al 0 1)) := rfl
theorem pt_92_30 (w : qS) : gP w 92 30 = some (.inl (qo_get (gL w) 7 0)) := rfl
theorem pt_92_33 (w : qS) : gP w 92 33 = some (.inl (qo_k (iN 2) 1)) := rfl
theorem pt_92_34 (w : qS) : gP w 92 34 = some (.inl (qo_ia (gL w))) := rfl
theorem pt_92_35 (w : qS) : gP w 92 35 = some (.inl (qo_c (fun x y => y < x) 171)) := rfl
theorem pt_92_38 (w : qS) : gP w 92 38 = some (.inl (qo_al 0 1)) := rfl
theorem pt_92_39 (w : qS) : gP w 92 39 = some (.inl (qo_get (gL w) 7 0)) := rfl
theorem pt_92_42 (w : qS) : gP w 92 42 = some (.inl (qo_k (iN 2) 1)) := rfl
theorem pt_92_43 (w : qS) : gP w 92 43 = some (.inl (qo_ia (gL w))) := rfl
theorem pt_92_44 (w : qS) : gP w 92 44 = some (.inl (qo_u (fun x => -x))) := rfl
theorem pt_92_45 (w : qS) : gP w 92 45 = some (.inl (qo_is 8 2)) := rfl
theorem pt_92_47 (w : qS) : gP w 92 47 = some (.inl (qo_il 8 2)) := rfl
theorem pt_92_49 (w : qS) : gP w 92 49 = some (.inl (qo_al 0 1)) := rfl
theorem pt_92_50 (w : qS) : gP w 92 50 = some (.inl (qo_get (gL w) 7 0)) := rfl
theorem pt_92_53 (w : qS) : gP w 92 53 = some (.inl (qo_k (iN 2) 1)) := rfl
theorem pt_92_54 (w : qS) : gP w 92 54 = some (.inl (qo_ia (gL w))) := rfl
theorem pt_92_55 (w : qS) : gP w 92 55 = some (.inl (qo_c (fun x y => y < x) 165)) := rfl
theorem pt_92_58 (w : qS) : gP w 92 58 = some (.inl (qo_il 4 2)) := rfl
theorem pt_92_60 (w : qS) : gP w 92 60 = some (.inl (qo_il 8 2)) := rfl
theorem pt_92_62 (w : qS) : gP w 92 62 = some (.inl (qo_b (fun x y => x + y))) := rfl
theorem pt_92_63 (w : qS) : gP w 92 63 = some (.inl (qo_z (fun x => x < 0) 98)) := rfl
theorem pt_92_66 (w : qS) : gP w 92 66 = some (.inl (qo_il 4 2)) := rfl
theorem pt_92_68 (w : qS) : gP w 92 68 = some (.inl (qo_il 8 2)) := rfl
theorem pt_92_70 (w : qS) : gP w 92 70 = some (.inl (qo_b (fun x y => x + y))) := rfl
theorem pt_92_71 (w : qS) : gP w 92 71 = some (.inl (qo_k (iN 12) 2)) := rfl
theorem pt_92_73 (w : qS) : gP w 92 73 = some (.inl (qo_c (fun x y => y ≤ x) 98)) := rfl
theorem pt_92_76 (w : qS) : gP w 92 76 = some (.inl (qo_il 5 2)) := rfl
theorem pt_92_78 (w : qS) : gP w 92 78 = some (.inl (qo_il 7 2)) := rfl
theorem pt_92_80 (w : qS) : gP w 92 80 = some (.inl (qo_b (fun x y => x + y))) := rfl
theorem pt_92_81 (w : qS) : gP w 92 81 = some (.inl (qo_z (fun x => x < 0) 98)) := rfl
theorem pt_92_84 (w : qS) : gP w 92 84 = some (.inl (qo_il 5 2)) := rfl
theorem pt_92_86 (w : qS) : gP w 92 86 = some (.inl (qo_il 7 2)) := rfl
theorem pt_92_88 (w : qS) : gP w 92 88 = some (.inl (qo_b (fun x y => x + y))) := rfl
theorem pt_92_89 (w : qS) : gP w 92 89 = some (.inl (qo_k (iN 10) 2)) := rfl
theorem pt_92_91 (w : qS) : gP w 92 91 = some (.inl (qo_c (fun x y => y ≤ x) 98)) := rfl
theorem pt_92_94 (w : qS) : gP w 92 94 = some (.inl (qo_k 1 1)) := rfl
theorem pt_92_95 (w : qS) : gP w 92 95 = some (.inl (qo_g 99)) := rfl
theorem pt_92_98 (w : qS) : gP w 92 98 = some (.inl (qo_k 0 1)) := rfl
theorem pt_92_99 (w : qS) : gP w 92 99 = some (.inl (qo_is 9 2)) := rfl
theorem pt_92_101 (w : qS) : gP w 92 101 = some (.inl (qo_il 9 2)) := rfl
theorem pt_92_103 (w : qS) : gP w 92 103 = some (.inl (qo_z (fun x => x = 0) 124)) := rfl
theorem pt_92_106 (w : qS) : gP w 92 106 = some (.inl (qo_al 0 1)) := rfl
theorem pt_92_107 (w : qS) : gP w 92 107 = some (.inl (qo_get (gL w) 7 6)) := rfl
theorem pt_92_110 (w : qS) : gP w 92 110 = some (.inl (qo_il 1 1)) := rfl
theorem pt_92_111 (w : qS) : gP w 92 111 = some (.inl (qo_k (iN 12) 2)) := rfl
theorem pt_92_113 (w : qS) : gP w 92 113 = some (.inl (qo_il 7 2)) := rfl
theorem pt_92_115 (w : qS) : gP w 92 115 = some (.inl (qo_b (fun x y => x * y))) := rfl
theorem pt_92_116 (w : qS) : gP w 92 116 = some (.inl (qo_b (fun x y => x + y))) := rfl
theorem pt_92_117 (w : qS) : gP w 92 117 = some (.inl (qo_il 8 2)) := rfl
theorem pt_92_119 (w : qS) : gP w 92 119 = some (.inl (qo_b (fun x y => x + y))) := rfl
theorem pt_92_120 (w : qS) : gP w 92 120 = some (.inl (qo_ia (gL w))) := rfl
theorem pt_92_121 (w : qS) : gP w 92 121 = some (.inl (qo_g 125)) := rfl
theorem pt_92_124 (w : qS) : gP w 92 124 = some (.inl (qo_k (-1) 1)) := rfl
theorem pt_92_125 (w : qS) : gP w 92 125 = some (.inl (qo_is 10 2)) := rfl
theorem pt_92_127 (w : qS) : gP w 92 127 = some (.inl (qo_il 6 2)) := rfl
theorem pt_92_129 (w : qS) : gP w 92 129 = some (.inl (qo_z (fun x => ¬ x = 0) 152)) := rfl
theorem pt_92_132 (w : qS) : gP w 92 132 = some (.inl (qo_il 10 2)) := rfl
theorem pt_92_134 (w : qS) : gP w 92 134 = some (.inl (qo_z (fun x => x < 0) 156)) := rfl
theorem pt_92_137 (w : qS) : gP w 92 137 = some (.inl (qo_il 10 2)) := rfl
theorem pt_92_139 (w : qS) : gP w 92 139 = some (.inl (qo_il 2 1)) := rfl
theorem pt_92_140 (w : qS) : gP w 92 140 = some (.inl (qo_c (fun x y => ¬ x = y) 147)) := rfl
theorem pt_92_143 (w : qS) : gP w 92 143 = some (.inl (qo_k 1 1)) := rfl
theorem pt_92_144 (w : qS) : gP w 92 144 = some (.inl (qo_g 148)) := rfl
theorem pt_92_147 (w : qS) : gP w 92 147 = some (.inl (qo_k 0 1)) := rfl
theorem pt_92_148 (w : qS) : gP w 92 148 = some (.inl (qo_il 3 1)) := rfl
theorem pt_92_149 (w : qS) : gP w 92 149 = some (.inl (qo_c (fun x y => ¬ x = y) 156)) := rfl
theorem pt_92_152 (w : qS) : gP w 92 152 = some (.inl (qo_k 1 1)) := rfl
theorem pt_92_153 (w : qS) : gP w 92 153 = some (.inl (qo_g 157)) := rfl
theorem pt_92_156 (w : qS) : gP w 92 156 = some (.inl (qo_k 0 1)) := rfl
theorem pt_92_157 (w : qS) : gP w 92 157 = some (.inl (qo_is 6 2)) := rfl
theorem pt_92_159 (w : qS) : gP w 92 159 = some (.inl (qo_inc 8 1)) := rfl
theorem pt_92_162 (w : qS) : gP w 92 162 = some (.inl (qo_g 47)) := rfl
theorem pt_92_165 (w : qS) : gP w 92 165 = some (.inl (qo_inc 7 1)) := rfl
theorem pt_92_168 (w : qS) : gP w 92 168 = some (.inl (qo_g 27)) := rfl
theorem pt_92_171 (w : qS) : gP w 92 171 = some (.inl (qo_il 6 2)) := rfl
theorem pt_92_173 (w : qS) : gP w 92 173 = some (.inr (.inr 2)) := rfl
theorem pt_93_0 (w : qS) : gP w 93 0 = some (.inl (qo_al 0 1)) := rfl
theorem pt_93_1 (w : qS) : gP w 93 1 = some (.inl (qo_get (gL w) 7 0)) := rfl
theorem pt_93_4 (w : qS) : gP w 93 4 = some (.inl (qo_k (iN 112) 2)) := rfl
theorem pt_93_6 (w : qS) : gP w 93 6 = some (.inl (qo_il 1 1)) := rfl
theorem pt_93_7 (w : qS) : gP w 93 7 = some (.inl (qo_b (fun x y => x + y))) := rfl
theorem pt_93_8 (w : qS) : gP w 93 8 = some (.inl (qo_ia (gL w))) := rfl
theorem pt_93_9 (w : qS) : gP w 93 9 = some (.inl (qo_z (fun x => ¬ x = 0) 26)) := rfl
theorem pt_93_12 (w : qS) : gP w 93 12 = some (.inl (qo_al 0 1)) := rfl
theorem pt_93_13 (w : qS) : gP w 93 13 = some (.inl (qo_il 1 1)) := rfl
theorem pt_93_14 (w : qS) : gP w 93 14 = some (.inl (qo_il 2 1)) := rfl
theorem pt_93_15 (w : qS) : gP w 93 15 = some (.inl (qo_k 0 1)) := rfl
theorem pt_93_16 (w : qS) : gP w 93 16 = some (.inr (.inl (92, 4, some 7))) := rfl
theorem pt_93_19 (w : qS) : gP w 93 19 = some (.inl (qo_z (fun x => ¬ x = 0) 26)) := rfl
theorem pt_93_22 (w : qS) : gP w 93 22 = some (.inl (qo_k 1 1)) := rfl
theorem pt_93_23 (w : qS) : gP w 93 23 = some (.inl (qo_g 27)) := rfl
theorem pt_93_26 (w : qS) : gP w 93 26 = some (.inl (qo_k 0 1)) := rfl
theorem pt_93_27 (w : qS) : gP w 93 27 = some (.inr (.inr 2)) := rfl
theorem pt_94_0 (w : qS) : gP w 94 0 = some (.inl (qo_al 0 1)) := rfl
theorem pt_94_1 (w : qS) : gP w 94 1 = some (.inl (qo_il 1 1)) := rfl
theorem pt_94_2 (w : qS) : gP w 94 2 = some (.inr (.inl (84, 2, some 7))) := rfl
theorem pt_94_5 (w : qS) : gP w 94 5 = some (.inl (qo_z (fun x => x = 0) 52)) := rfl
theorem pt_94_8 (w : qS) : gP w 94 8 = some (.inl (qo_il 2 1)) := rfl
theorem pt_94_9 (w : qS) : gP w 94 9 = some (.inl (qo_z (fun x => x < 0) 52)) := rfl
theorem pt_94_12 (w : qS) : gP w 94 12 = some (.inl (qo_il 2 1)) := rfl
theorem pt_94_13 (w : qS) : gP w 94 13 = some (.inl (qo_k (iN 11) 2)) := rfl
theorem pt_94_15 (w : qS) : gP w 94 15 = some (.inl (qo_c (fun x y => y < x) 52)) := rfl
theorem pt_94_18 (w : qS) : gP w 94 18 = some (.inl (qo_il 3 1)) := rfl
theorem pt_94_19 (w : qS) : gP w 94 19 = some (.inl (qo_z (fun x => x < 0) 52)) := rfl
theorem pt_94_22 (w : qS) : gP w 94 22 = some (.inl (qo_il 3 1)) := rfl
theorem pt_94_23 (w : qS) : gP w 94 23 = some (.inl (qo_k (iN 9) 2)) := rfl
theorem pt_94_25 (w : qS) : gP w 94 25 = some (.inl (qo_c (fun x y => y < x) 52)) := rfl
theorem pt_94_28 (w : qS) : gP w 94 28 = some (.inl (qo_il 4 2)) := rfl
theorem pt_94_30 (w : qS) : gP w 94 30 = some (.inl (qo_k 1 1)) := rfl
theorem pt_94_31 (w : qS) : gP w 94 31 = some (.inl (qo_c (fun x y => x < y) 52)) := rfl
theorem pt_94_34 (w : qS) : gP w 94 34 = some (.inl (qo_il 4 2)) := rfl
theorem pt_94_36 (w : qS) : gP w 94 36 = some (.inl (qo_k (iN 3) 1)) := rfl
theorem pt_94_37 (w : qS) : gP w 94 37 = some (.inl (qo_c (fun x y => y < x) 52)) := rfl
theorem pt_94_40 (w : qS) : gP w 94 40 = some (.inl (qo_al 0 1)) := rfl
theorem pt_94_41 (w : qS) : gP w 94 41 = some (.inl (qo_get (gL w) 7 0)) := rfl
theorem pt_94_44 (w : qS) : gP w 94 44 = some (.inl (qo_k (iN 32) 2)) := rfl
theorem pt_94_46 (w : qS) : gP w 94 46 = some (.inl (qo_il 1 1)) := rfl
theorem pt_94_47 (w : qS) : gP w 94 47 = some (.inl (qo_b (fun x y => x + y))) := rfl
theorem pt_94_48 (w : qS) : gP w 94 48 = some (.inl (qo_ia (gL w))) := rfl
theorem pt_94_49 (w : qS) : gP w 94 49 = some (.inl (qo_z (fun x => x ≤ 0) 54)) := rfl
theorem pt_94_52 (w : qS) : gP w 94 52 = some (.inl (qo_k 0 1)) := rfl
theorem pt_94_53 (w : qS) : gP w 94 53 = some (.inr (.inr 2)) := rfl
theorem pt_94_54 (w : qS) : gP w 94 54 = some (.inl (qo_k 1 1)) := rfl
theorem pt_94_55 (w : qS) : gP w 94 55 = some (.inl (qo_is 5 2)) := rfl
theorem pt_94_57 (w : qS) : gP w 94 57 = some (.inl (qo_k 0 1)) := rfl
theorem pt_94_58 (w : qS) : gP w 94 58 = some (.inl (qo_is 6 2)) := rfl
theorem pt_94_60 (w : qS) : gP w 94 60 = some (.inl (qo_il 6 2)) := rfl
theorem pt_94_62 (w : qS) : gP w 94 62 = some (.inl (qo_k (iN 2) 1)) := rfl
theorem pt_94_63 (w : qS) : gP w 94 63 = some (.inl (qo_c (fun x y => y ≤ x) 147)) := rfl
theorem pt_94_66 (w : qS) : gP w 94 66 = some (.inl (qo_k (iN 120) 2)) := rfl
theorem pt_94_68 (w : qS) : gP w 94 68 = some (.inl (qo_il 6 2)) := rfl
theorem pt_94_70 (w : qS) : gP w 94 70 = some (.inl (qo_b (fun x y => x * y))) := rfl
theorem pt_94_71 (w : qS) : gP w 94 71 = some (.inl (qo_k (iN 12) 2)) := rfl
theorem pt_94_73 (w : qS) : gP w 94 73 = some (.inl (qo_il 3 1)) := rfl
theorem pt_94_74 (w : qS) : gP w 94 74 = some (.inl (qo_b (fun x y => x * y))) := rfl
theorem pt_94_75 (w : qS) : gP w 94 75 = some (.inl (qo_b (fun x y => x + y))) := rfl
theorem pt_94_76 (w : qS) : gP w 94 76 = some (.inl (qo_il 2 1)) := rfl
theorem pt_94_77 (w : qS) : gP w 94 77 = some (.inl (qo_b (fun x y => x + y))) := rfl
theorem pt_94_78 (w : qS) : gP w 94 78 = some (.inl (qo_is 7 2)) := rfl
theorem pt_94_80 (w : qS) : gP w 94 80 = some (.inl (qo_il 5 2)) := rfl
theorem pt_94_82 (w : qS) : gP w 94 82 = some (.inl (qo_z (fun x => x = 0) 138)) := rfl
theorem pt_94_85 (w : qS) : gP w 94 85 = some (.inl (qo_il 4 2)) := rfl
theorem pt_94_87 (w : qS) : gP w 94 87 = some (.inl (qo_il 6 2)) := rfl
theorem pt_94_89 (w : qS) : gP w 94 89 = some (.inl (qo_b (fun x y => x >>> (y &&& 31)))) := rfl
theorem pt_94_90 (w : qS) : gP w 94 90 = some (.inl (qo_k 1 1)) := rfl
theorem pt_94_91 (w : qS) : gP w 94 91 = some (.inl (qo_b (fun x y => x &&& y))) := rfl
theorem pt_94_92 (w : qS) : gP w 94 92 = some (.inl (qo_z (fun x => x = 0) 134)) := rfl
theorem pt_94_95 (w : qS) : gP w 94 95 = some (.inl (qo_al 0 1)) := rfl
theorem pt_94_96 (w : qS) : gP w 94 96 = some (.inl (qo_get (gL w) 7 5)) := rfl
theorem pt_94_99 (w : qS) : gP w 94 99 = some (.inl (qo_il 7 2)) := rfl
theorem pt_94_101 (w : qS) : gP w 94 101 = some (.inl (qo_ia (gL w))) := rfl
theorem pt_94_102 (w : qS) : gP w 94 102 = some (.inl (qo_z (fun x => 0 ≤ x) 138)) := rfl
theorem pt_94_105 (w : qS) : gP w 94 105 = some (.inl (qo_al 0 1)) := rfl
theorem pt_94_106 (w : qS) : gP w 94 106 = some (.inl (qo_get (gL w) 7 0)) := rfl
theorem pt_94_109 (w : qS) : gP w 94 109 = some (.inl (qo_k (iN 352) 3)) := rfl
theorem pt_94_112 (w : qS) : gP w 94 112 = some (.inl (qo_il 7 2)) := rfl
theorem pt_94_114 (w : qS) : gP w 94 114 = some (.inl (qo_b (fun x y => x + y))) := rfl
theorem pt_94_115 (w : qS) : gP w 94 115 = some (.inl (qo_ia (gL w))) := rfl
theorem pt_94_116 (w : qS) : gP w 94 116 = some (.inl (qo_z (fun x => ¬ x = 0) 138)) := rfl
theorem pt_94_119 (w : qS) : gP w 94 119 = some (.inl (qo_al 0 1)) := rfl
theorem pt_94_120 (w : qS) : gP w 94 120 = some (.inl (qo_il 7 2)) := rfl
theorem pt_94_122 (w : qS) : gP w 94 122 = some (.inl (qo_al 0 1)) := rfl
theorem pt_94_123 (w : qS) : gP w 94 123 = some (.inl (qo_get (gL w) 7 4)) := rfl
theorem pt_94_126 (w : qS) : gP w 94 126 = some (.inl (qo_il 1 1)) := rfl
theorem pt_94_127 (w : qS) : gP w 94 127 = some (.inl (qo_ia (gL w))) := rfl
theorem pt_94_128 (w : qS) : gP w 94 128 = some (.inr (.inl (93, 3, some 7))) := rfl
theorem pt_94_131 (w : qS) : gP w 94 131 = some (.inl (qo_z (fun x => x = 0) 138)) := rfl
theorem pt_94_134 (w : qS) : gP w 94 134 = some (.inl (qo_k 1 1)) := rfl
theorem pt_94_135 (w : qS) : gP w 94 135 = some (.inl (qo_g 139)) := rfl
theorem pt_94_138 (w : qS) : gP w 94 138 = some (.inl (qo_k 0 1)) := rfl
theorem pt_94_139 (w : qS) : gP w 94 139 = some (.inl (qo_is 5 2)) := rfl
theorem pt_94_141 (w : qS) : gP w 94 141 = some (.inl (qo_inc 6 1)) := rfl
theorem pt_94_144 (w : qS) : gP w 94 144 = some (.inl (qo_g 60)) := rfl
theorem pt_94_147 (w : qS) : gP w 94 147 = some (.inl (qo_il 5 2)) := rfl
theorem pt_94_149 (w : qS) : gP w 94 149 = some (.inl (qo_z (fun x => ¬ x = 0) 154)) := rfl
theorem pt_94_152 (w : qS) : gP w 94 152 = some (.inl (qo_k 0 1)) := rfl
theorem pt_94_153 (w : qS) : gP w 94 153 = some (.inr (.inr 2)) := rfl
theorem pt_94_154 (w : qS) : gP w 94 154 = some (.inl (qo_al 0 1)) := rfl
theorem pt_94_155 (w : qS) : gP w 94 155 = some (.inr (.inl (81, 1, some 7))) := rfl
theorem pt_94_158 (w : qS) : gP w 94 158 = some (.inl (qo_al 0 1)) := rfl
theorem pt_94_159 (w : qS) : gP w 94 159 = some (.inl (qo_get (gL w) 7 0)) := rfl
theorem pt_94_162 (w : qS) : gP w 94 162 = some (.inl (qo_k (iN 32) 2)) := rfl
theorem pt_94_164 (w : qS) : gP w 94 164 = some (.inl (qo_il 1 1)) := rfl
theorem pt_94_165 (w : qS) : gP w 94 165 = some (.inl (qo_b (fun x y => x + y))) := rfl
theorem pt_94_166 (w : qS) : gP w 94 166 = some (.inl (qo_k (iN 120) 2)) := rfl
theorem pt_94_168 (w : qS) : gP w 94 168 = some (.inl (qo_il 4 2)) := rfl
theorem pt_94_170 (w : qS) : gP w 94 170 = some (.inl (qo_b (fun x y => x * y))) := rfl
theorem pt_94_171 (w : qS) : gP w 94 171 = some (.inl (qo_k (iN 12) 2)) := rfl
theorem pt_94_173 (w : qS) : gP w 94 173 = some (.inl (qo_il 3 1)) := rfl
theorem pt_94_174 (w : qS) : gP w 94 174 = some (.inl (qo_b (fun x y => x * y))) := rfl
theorem pt_94_175 (w : qS) : gP w 94 175 = some (.inl (qo_b (fun x y => x + y))) := rfl
theorem pt_94_176 (w : qS) : gP w 94 176 = some (.inl (qo_il 2 1)) := rfl
theorem pt_94_177 (w : qS) : gP w 94 177 = some (.inl (qo_b (fun x y => x + y))) := rfl
theorem pt_94_178 (w : qS) : gP w 94 178 = some (.inl (qo_ias (gL w))) := rfl
theorem pt_94_179 (w : qS) : gP w 94 179 = some (.inl (qo_al 0 1)) := rfl
theorem pt_94_180 (w : qS) : gP w 94 180 = some (.inr (.inl (82, 1, some 7))) := rfl
theorem pt_94_183 (w : qS) : gP w 94 183 = some (.inl (qo_k 1 1)) := rfl
theorem pt_94_184 (w : qS) : gP w 94 184 = some (.inr (.inr 2)) := rfl
theorem pt_95_0 (w : qS) : gP w 95 0 = some (.inl (qo_al 0 1)) := rfl
theorem pt_95_1 (w : qS) : gP w 95 1 = some (.inl (qo_il 1 1)) := rfl
theorem pt_95_2 (w : qS) : gP w 95 2 = some (.inr (.inl (84, 2, some 7))) := rfl
theorem pt_95_5 (w : qS) : gP w 95 5 = some (.inl (qo_z (fun x => x = 0) 20)) := rfl
theorem pt_95_8 (w : qS) : gP w 95 8 = some (.inl (qo_al 0 1)) := rfl
theorem pt_95_9 (w : qS) : gP w 95 9 = some (.inl (qo_get (gL w) 7 0)) := rfl
theorem pt_95_12 (w : qS) : gP w 95 12 = some (.inl (qo_k (iN 32) 2)) := rfl
theorem pt_95_14 (w : qS) : gP w 95 14 = some (.inl (qo_il 1 1)) := rfl
theorem pt_95_15 (w : qS) : gP w 95 15 = some (.inl (qo_b (fun x y => x + y))) := rfl
theorem pt_95_16 (w : qS) : gP w 95 16 = some (.inl (qo_ia (gL w))) := rfl
theorem pt_95_17 (w : qS) : gP w 95 17 = some (.inl (qo_z (fun x => ¬ x = 0) 22)) := rfl
theorem pt_95_20 (w : qS) : gP w 95 20 = some (.inl (qo_k 0 1)) := rfl
theorem pt_95_21 (w : qS) : gP w 95 21 = some (.inr (.inr 2)) := rfl
theorem pt_95_22 (w : qS) : gP w 95 22 = some (.inl (qo_al 0 1)) := rfl
theorem pt_95_23 (w : qS) : gP w 95 23 = some (.inr (.inl (81, 1, some 7))) := rfl
theorem pt_95_26 (w : qS) : gP w 95 26 = some (.inl (qo_al 0 1)) := rfl
theorem pt_95_27 (w : qS) : gP w 95 27 = some (.inl (qo_get (gL w) 7 0)) := rfl
theorem pt_95_30 (w : qS) : gP w 95 30 = some (.inl (qo_k (iN 32) 2)) := rfl
theorem pt_95_32 (w : qS) : gP w 95 32 = some (.inl (qo_il 1 1)) := rfl
theorem pt_95_33 (w : qS) : gP w 95 33 = some (.inl (qo_b (fun x y => x + y))) := rfl
theorem pt_95_34 (w : qS) : gP w 95 34 = some (.inl (qo_k 0 1)) := rfl
theorem pt_95_35 (w : qS) : gP w 95 35 = some (.inl (qo_ias (gL w))) := rfl
theorem pt_95_36 (w : qS) : gP w 95 36 = some (.inl (qo_al 0 1)) := rfl
theorem pt_95_37 (w : qS) : gP w 95 37 = some (.inr (.inl (82, 1, some 7))) := rfl
theorem pt_95_40 (w : qS) : gP w 95 40 = some (.inl (qo_k 1 1)) := rfl
theorem pt_95_41 (w : qS) : gP w 95 41 = some (.inr (.inr 2)) := rfl
theorem pt_96_0 (w : qS) : gP w 96 0 = some (.inl (qo_il 1 1)) := rfl
theorem pt_96_1 (w : qS) : gP w 96 1 = some (.inl (qo_k 1 1)) := rfl
theorem pt_96_2 (w : qS) : gP w 96 2 = some (.inl (qo_c (fun x y => x < y) 10)) := rfl
theorem pt_96_5 (w : qS) : gP w 96 5 = some (.inl (qo_il 1 1)) := rfl
theorem pt_96_6 (w : qS) : gP w 96 6 = some (.inl (qo_k (iN 2) 1)) := rfl
theorem pt_96_7 (w : qS) : gP w 96 7 = some (.inl (qo_c (fun x y => x ≤ y) 12)) := rfl
theorem pt_96_10 (w : qS) : gP w 96 10 = some (.inl (qo_k (-1) 1)) := rfl
theorem pt_96_11 (w : qS) : gP w 96 11 = some (.inr (.inr 1)) := rfl
theorem pt_96_12 (w : qS) : gP w 96 12 = some (.inl (qo_al 0 1)) := rfl
theorem pt_96_13 (w : qS) : gP w 96 13 = some (.inl (qo_get (gL w) 7 0)) := rfl
theorem pt_96_16 (w : qS) : gP w 96 16 = some (.inl (qo_k (iN 2) 1)) := rfl
theorem pt_96_17 (w : qS) : gP w 96 17 = some (.inl (qo_ia (gL w))) := rfl
theorem pt_96_18 (w : qS) : gP w 96 18 = some (.inl (qo_is 2 1)) := rfl
theorem pt_96_19 (w : qS) : gP w 96 19 = some (.inl (qo_al 0 1)) := rfl
theorem pt_96_20 (w : qS) : gP w 96 20 = some (.inr (.inl (81, 1, some 7))) := rfl
theorem pt_96_23 (w : qS) : gP w 96 23 = some (.inl (qo_al 0 1)) := rfl
theorem pt_96_24 (w : qS) : gP w 96 24 = some (.inl (qo_get (gL w) 7 0)) := rfl
theorem pt_96_27 (w : qS) : gP w 96 27 = some (.inl (qo_k (iN 2) 1)) := rfl
theorem pt_96_28 (w : qS) : gP w 96 28 = some (.inl (qo_il 1 1)) := rfl
theorem pt_96_29 (w : qS) : gP w 96 29 = some (.inl (qo_ias (gL w))) := rfl
theorem pt_96_30 (w : qS) : gP w 96 30 = some (.inl (qo_al 0 1)) := rfl
theorem pt_96_31 (w : qS) : gP w 96 31 = some (.inr (.inl (82, 1, some 7))) := rfl
theorem pt_96_34 (w : qS) : gP w 96 34 = some (.inl (qo_il 2 1)) := rfl
theorem pt_96_35 (w : qS) : gP w 96 35 = some (.inr (.inr 1)) := rfl
theorem pt_97_0 (w : qS) : gP w 97 0 = some (.inl (qo_il 1 1)) := rfl
theorem pt_97_1 (w : qS) : gP w 97 1 = some (.inr (.inl (85, 1, none))) := rfl
theorem pt_97_4 (w : qS) : gP w 97 4 = some (.inl (qo_z (fun x => x = 0) 20)) := rfl
theorem pt_97_7 (w : qS) : gP w 97 7 = some (.inl (qo_il 2 1)) := rfl
theorem pt_97_8 (w : qS) : gP w 97 8 = some (.inl (qo_z (fun x => x = 0) 22)) := rfl
theorem pt_97_11 (w : qS) : gP w 97 11 = some (.inl (qo_al 0 1)) := rfl
theorem pt_97_12 (w : qS) : gP w 97 12 = some (.inl (qo_get (gL w) 7 6)) := rfl
theorem pt_97_15 (w : qS) : gP w 97 15 = some (.inl (qo_il 1 1)) := rfl
theorem pt_97_16 (w : qS) : gP w 97 16 = some (.inl (qo_ia (gL w))) := rfl
theorem pt_97_17 (w : qS) : gP w 97 17 = some (.inl (qo_z (fun x => x < 0) 22)) := rfl
theorem pt_97_20 (w : qS) : gP w 97 20 = some (.inl (qo_k 0 1)) := rfl
theorem pt_97_21 (w : qS) : gP w 97 21 = some (.inr (.inr 2)) := rfl
theorem pt_97_22 (w : qS) : gP w 97 22 = some (.inl (qo_al 0 1)) := rfl
theorem pt_97_23 (w : qS) : gP w 97 23 = some (.inr (.inl (81, 1, some 7))) := rfl
theorem pt_97_26 (w : qS) : gP w 97 26 = some (.inl (qo_al 0 1)) := rfl
theorem pt_97_27 (w : qS) : gP w 97 27 = some (.inl (qo_get (gL w) 7 0)) := rfl
theorem pt_97_30 (w : qS) : gP w 97 30 = some (.inl (qo_k (iN 112) 2)) := rfl
theorem pt_97_32 (w : qS) : gP w 97 32 = some (.inl (qo_il 1 1)) := rfl
theorem pt_97_33 (w : qS) : gP w 97 33 = some (.inl (qo_b (fun x y => x + y))) := rfl
theorem pt_97_34 (w : qS) : gP w 97 34 = some (.inl (qo_il 2 1)) := rfl
theorem pt_97_35 (w : qS) : gP w 97 35 = some (.inl (qo_z (fun x => x = 0) 42)) := rfl
theorem pt_97_38 (w : qS) : gP w 97 38 = some (.inl (qo_k 1 1)) := rfl
theorem pt_97_39 (w : qS) : gP w 97 39 = some (.inl (qo_g 43)) := rfl
theorem pt_97_42 (w : qS) : gP w 97 42 = some (.inl (qo_k 0 1)) := rfl
theorem pt_97_43 (w : qS) : gP w 97 43 = some (.inl (qo_ias (gL w))) := rfl
theorem pt_97_44 (w : qS) : gP w 97 44 = some (.inl (qo_al 0 1)) := rfl
theorem pt_97_45 (w : qS) : gP w 97 45 = some (.inr (.inl (82, 1, some 7))) := rfl
theorem pt_97_48 (w : qS) : gP w 97 48 = some (.inl (qo_il 2 1)) := rfl
theorem pt_97_49 (w : qS) : gP w 97 49 = some (.inr (.inr 2)) := rfl
theorem pt_98_0 (w : qS) : gP w 98 0 = some (.inl (qo_il 0 1)) := rfl
theorem pt_98_1 (w : qS) : gP w 98 1 = some (.inl (qo_z (fun x => x = 0) 15)) := rfl
theorem pt_98_4 (w : qS) : gP w 98 4 = some (.inl (qo_il 0 1)) := rfl
theorem pt_98_5 (w : qS) : gP w 98 5 = some (.inl (qo_k 1 1)) := rfl
theorem pt_98_6 (w : qS) : gP w 98 6 = some (.inl (qo_c (fun x y => x = y) 15)) := rfl
theorem pt_98_9 (w : qS) : gP w 98 9 = some (.inl (qo_il 0 1)) := rfl
theorem pt_98_10 (w : qS) : gP w 98 10 = some (.inl (qo_k (iN 7) 2)) := rfl
theorem pt_98_12 (w : qS) : gP w 98 12 = some (.inl (qo_c (fun x y => ¬ x = y) 19)) := rfl
theorem pt_98_15 (w : qS) : gP w 98 15 = some (.inl (qo_k 1 1)) := rfl
theorem pt_98_16 (w : qS) : gP w 98 16 = some (.inl (qo_g 35)) := rfl
theorem pt_98_19 (w : qS) : gP w 98 19 = some (.inl (qo_il 0 1)) := rfl
theorem pt_98_20 (w : qS) : gP w 98 20 = some (.inl (qo_k (iN 2) 1)) := rfl
theorem pt_98_21 (w : qS) : gP w 98 21 = some (.inl (qo_c (fun x y => x ≤ y) 34)) := rfl
theorem pt_98_24 (w : qS) : gP w 98 24 = some (.inl (qo_il 0 1)) := rfl
theorem pt_98_25 (w : qS) : gP w 98 25 = some (.inl (qo_k (iN 6) 2)) := rfl
theorem pt_98_27 (w : qS) : gP w 98 27 = some (.inl (qo_c (fun x y => y ≤ x) 34)) := rfl
theorem pt_98_30 (w : qS) : gP w 98 30 = some (.inl (qo_k (-1) 1)) := rfl
theorem pt_98_31 (w : qS) : gP w 98 31 = some (.inl (qo_g 35)) := rfl
theorem pt_98_34 (w : qS) : gP w 98 34 = some (.inl (qo_k 0 1)) := rfl
theorem pt_98_35 (w : qS) : gP w 98 35 = some (.inr (.inr 1)) := rfl
theorem pt_99_0 (w : qS) : gP w 99 0 = some (.inl (qo_il 0 1)) := rfl
theorem pt_99_1 (w : qS) : gP w 99 1 = some (.inl (qo_z (fun x => x ≤ 0) 13)) := rfl
theorem pt_99_4 (w : qS) : gP w 99 4 = some (.inl (qo_il 0 1)) := rfl
theorem pt_99_5 (w : qS) : gP w 99 5 = some (.inl (qo_k (iN 4) 1)) := rfl
theorem pt_99_6 (w : qS) : gP w 99 6 = some (.inl (qo_c (fun x y => y ≤ x) 13)) := rfl
theorem pt_99_9 (w : qS) : gP w 99 9 = some (.inl (qo_k 1 1)) := rfl
theorem pt_99_10 (w : qS) : gP w 99 10 = some (.inl (qo_g 29)) := rfl
theorem pt_99_13 (w : qS) : gP w 99 13 = some (.inl (qo_il 0 1)) := rfl
theorem pt_99_14 (w : qS) : gP w 99 14 = some (.inl (qo_k (iN 4) 1)) := rfl
theorem pt_99_15 (w : qS) : gP w 99 15 = some (.inl (qo_c (fun x y => x ≤ y) 28)) := rfl
theorem pt_99_18 (w : qS) : gP w 99 18 = some (.inl (qo_il 0 1)) := rfl
theorem pt_99_19 (w : qS) : gP w 99 19 = some (.inl (qo_k (iN 8) 2)) := rfl
theorem pt_99_21 (w : qS) : gP w 99 21 = some (.inl (qo_c (fun x y => y ≤ x) 28)) := rfl
theorem pt_99_24 (w : qS) : gP w 99 24 = some (.inl (qo_k (-1) 1)) := rfl
theorem pt_99_25 (w : qS) : gP w 99 25 = some (.inl (qo_g 29)) := rfl
theorem pt_99_28 (w : qS) : gP w 99 28 = some (.inl (qo_k 0 1)) := rfl
theorem pt_99_29 (w : qS) : gP w 99 29 = some (.inr (.inr 1)) := rfl
theorem pt_100_0 (w : qS) : gP w 100 0 = some (.inl (qo_il 1 1)) := rfl
theorem pt_100_1 (w : qS) : gP w 100 1 = some (.inl (qo_k (iN 8) 2)) := rfl
theorem pt_100_3 (w : qS) : gP w 100 3 = some (.inl (qo_c (fun x y => ¬ x = y) 24)) := rfl
theorem pt_100_6 (w : qS) : gP w 100 6 = some (.inl (qo_il 0 1)) := rfl
theorem pt_100_7 (w : qS) : gP w 100 7 = some (.inl (qo_k (iN 120) 2)) := rfl
theorem pt_100_9 (w : qS) : gP w 100 9 = some (.inl (qo_c (fun x y => y ≤ x) 19)) := rfl
theorem pt_100_12 (w : qS) : gP w 100 12 = some (.inl (qo_il 0 1)) := rfl
theorem pt_100_13 (w : qS) : gP w 100 13 = some (.inl (qo_k (iN 120) 2)) := rfl
theorem pt_100_15 (w : qS) : gP w 100 15 = some (.inl (qo_b (fun x y => x + y))) := rfl
theorem pt_100_16 (w : qS) : gP w 100 16 = some (.inl (qo_g 23)) := rfl
theorem pt_100_19 (w : qS) : gP w 100 19 = some (.inl (qo_il 0 1)) := rfl
theorem pt_100_20 (w : qS) : gP w 100 20 = some (.inl (qo_k (iN 120) 2)) := rfl
theorem pt_100_22 (w : qS) : gP w 100 22 = some (.inl (qo_b (fun x y => x - y))) := rfl
theorem pt_100_23 (w : qS) : gP w 100 23 = some (.inr (.inr 1)) := rfl
theorem pt_100_24 (w : qS) : gP w 100 24 = some (.inl (qo_il 0 1)) := rfl
theorem pt_100_25 (w : qS) : gP w 100 25 = some (.inl (qo_k (iN 12) 2)) := rfl
theorem pt_100_27 (w : qS) : gP w 100 27 = some (.inl (qo_d (fun x y => x - x / y * y))) := rfl
theorem pt_100_28 (w : qS) : gP w 100 28 = some (.inl (qo_il 1 1)) := rfl
theorem pt_100_29 (w : qS) : gP w 100 29 = some (.inr (.inl (98, 1, none))) := rfl
theorem pt_100_32 (w : qS) : gP w 100 32 = some (.inl (qo_b (fun x y => x + y))) := rfl
theorem pt_100_33 (w : qS) : gP w 100 33 = some (.inl (qo_is 2 1)) := rfl
theorem pt_100_34 (w : qS) : gP w 100 34 = some (.inl (qo_il 0 1)) := rfl
theorem pt_100_35 (w : qS) : gP w 100 35 = some (.inl (qo_k (iN 120) 2)) := rfl
theorem pt_100_37 (w : qS) : gP w 100 37 = some (.inl (qo_d (fun x y => x - x / y * y))) := rfl
theorem pt_100_38 (w : qS) : gP w 100 38 = some (.inl (qo_k (iN 12) 2)) := rfl
theorem pt_100_40 (w : qS) : gP w 100 40 = some (.inl (qo_d (fun x y => x / y))) := rfl
theorem pt_100_41 (w : qS) : gP w 100 41 = some (.inl (qo_il 1 1)) := rfl
theorem pt_100_42 (w : qS) : gP w 100 42 = some (.inr (.inl (99, 1, none))) := rfl
theorem pt_100_45 (w : qS) : gP w 100 45 = some (.inl (qo_b (fun x y => x + y))) := rfl
theorem pt_100_46 (w : qS) : gP w 100 46 = some (.inl (qo_is 3 1)) := rfl
theorem pt_100_47 (w : qS) : gP w 100 47 = some (.inl (qo_il 2 1)) := rfl
theorem pt_100_48 (w : qS) : gP w 100 48 = some (.inl (qo_z (fun x => x < 0) 67)) := rfl
theorem pt_100_51 (w : qS) : gP w 100 51 = some (.inl (qo_il 2 1)) := rfl
theorem pt_100_52 (w : qS) : gP w 100 52 = some (.inl (qo_k (iN 11) 2)) := rfl
theorem pt_100_54 (w : qS) : gP w 100 54 = some (.inl (qo_c (fun x y => y < x) 67)) := rfl
theorem pt_100_57 (w : qS) : gP w 100 57 = some (.inl (qo_il 3 1)) := rfl
theorem pt_100_58 (w : qS) : gP w 100 58 = some (.inl (qo_z (fun x => x < 0) 67)) := rfl
theorem pt_100_61 (w : qS) : gP w 100 61 = some (.inl (qo_il 3 1)) := rfl
theorem pt_100_62 (w : qS) : gP w 100 62 = some (.inl (qo_k (iN 9) 2)) := rfl
theorem pt_100_64 (w : qS) : gP w 100 64 = some (.inl (qo_c (fun x y => x ≤ y) 71)) := rfl
theorem pt_100_67 (w : qS) : gP w 100 67 = some (.inl (qo_k (-1) 1)) := rfl
theorem pt_100_68 (w : qS) : gP w 100 68 = some (.inl (qo_g 85)) := rfl
theorem pt_100_71 (w : qS) : gP w 100 71 = some (.inl (qo_il 0 1)) := rfl
theorem pt_100_72 (w : qS) : gP w 100 72 = some (.inl (qo_k (iN 12) 2)) := rfl
theorem pt_100_74 (w : qS) : gP w 100 74 = some (.inl (qo_il 1 1)) := rfl
theorem pt_100_75 (w : qS) : gP w 100 75 = some (.inr (.inl (99, 1, none))) := rfl
theorem pt_100_78 (w : qS) : gP w 100 78 = some (.inl (qo_b (fun x y => x * y))) := rfl
theorem pt_100_79 (w : qS) : gP w 100 79 = some (.inl (qo_b (fun x y => x + y))) := rfl
theorem pt_100_80 (w : qS) : gP w 100 80 = some (.inl (qo_il 1 1)) := rfl
theorem pt_100_81 (w : qS) : gP w 100 81 = some (.inr (.inl (98, 1, none))) := rfl
theorem pt_100_84 (w : qS) : gP w 100 84 = some (.inl (qo_b (fun x y => x + y))) := rfl
theorem pt_100_85 (w : qS) : gP w 100 85 = some (.inr (.inr 1)) := rfl
theorem pt_101_0 (w : qS) : gP w 101 0 = some (.inl (qo_al 0 1)) := rfl
theorem pt_101_1 (w : qS) : gP w 101 1 = some (.inl (qo_il 1 1)) := rfl
theorem pt_101_2 (w : qS) : gP w 101 2 = some (.inr (.inl (84, 2, some 7))) := rfl
theorem pt_101_5 (w : qS) : gP w 101 5 = some (.inl (qo_z (fun x => x = 0) 47)) := rfl
theorem pt_101_8 (w : qS) : gP w 101 8 = some (.inl (qo_il 2 1)) := rfl
theorem pt_101_9 (w : qS) : gP w 101 9 = some (.inr (.inl (85, 1, none))) := rfl
theorem pt_101_12 (w : qS) : gP w 101 12 = some (.inl (qo_z (fun x => x = 0) 47)) := rfl
theorem pt_101_15 (w : qS) : gP w 101 15 = some (.inl (qo_il 3 1)) := rfl
theorem pt_101_16 (w : qS) : gP w 101 16 = some (.inl (qo_z (fun x => x < 0) 47)) := rfl
theorem pt_101_19 (w : qS) : gP w 101 19 = some (.inl (qo_il 3 1)) := rfl
theorem pt_101_20 (w : qS) : gP w 101 20 = some (.inl (qo_k (iN 8) 2)) := rfl
theorem pt_101_22 (w : qS) : gP w 101 22 = some (.inl (qo_c (fun x y => y < x) 47)) := rfl
theorem pt_101_25 (w : qS) : gP w 101 25 = some (.inl (qo_il 4 2)) := rfl
theorem pt_101_27 (w : qS) : gP w 101 27 = some (.inl (qo_z (fun x => x < 0) 47)) := rfl
theorem pt_101_30 (w : qS) : gP w 101 30 = some (.inl (qo_il 4 2)) := rfl
theorem pt_101_32 (w : qS) : gP w 101 32 = some (.inl (qo_il 3 1)) := rfl
theorem pt_101_33 (w : qS) : gP w 101 33 = some (.inl (qo_k (iN 8) 2)) := rfl
theorem pt_101_35 (w : qS) : gP w 101 35 = some (.inl (qo_c (fun x y => ¬ x = y) 42)) := rfl
theorem pt_101_38 (w : qS) : gP w 101 38 = some (.inl (qo_k 1 1)) := rfl
theorem pt_101_39 (w : qS) : gP w 101 39 = some (.inl (qo_g 44)) := rfl
theorem pt_101_42 (w : qS) : gP w 101 42 = some (.inl (qo_k (iN 11) 2)) := rfl
theorem pt_101_44 (w : qS) : gP w 101 44 = some (.inl (qo_c (fun x y => x ≤ y) 49)) := rfl
theorem pt_101_47 (w : qS) : gP w 101 47 = some (.inl (qo_k (-1) 1)) := rfl
theorem pt_101_48 (w : qS) : gP w 101 48 = some (.inr (.inr 1)) := rfl
theorem pt_101_49 (w : qS) : gP w 101 49 = some (.inl (qo_il 2 1)) := rfl
theorem pt_101_50 (w : qS) : gP w 101 50 = some (.inl (qo_is 5 2)) := rfl
theorem pt_101_52 (w : qS) : gP w 101 52 = some (.inl (qo_k 0 1)) := rfl
theorem pt_101_53 (w : qS) : gP w 101 53 = some (.inl (qo_is 6 2)) := rfl
theorem pt_101_55 (w : qS) : gP w 101 55 = some (.inl (qo_il 6 2)) := rfl
theorem pt_101_57 (w : qS) : gP w 101 57 = some (.inl (qo_il 4 2)) := rfl
theorem pt_101_59 (w : qS) : gP w 101 59 = some (.inl (qo_c (fun x y => y < x) 98)) := rfl
theorem pt_101_62 (w : qS) : gP w 101 62 = some (.inl (qo_il 5 2)) := rfl
theorem pt_101_64 (w : qS) : gP w 101 64 = some (.inl (qo_z (fun x => x < 0) 82)) := rfl
theorem pt_101_67 (w : qS) : gP w 101 67 = some (.inl (qo_al 0 1)) := rfl
theorem pt_101_68 (w : qS) : gP w 101 68 = some (.inl (qo_il 5 2)) := rfl
theorem pt_101_70 (w : qS) : gP w 101 70 = some (.inl (qo_al 0 1)) := rfl
theorem pt_101_71 (w : qS) : gP w 101 71 = some (.inl (qo_get (gL w) 7 4)) := rfl
theorem pt_101_74 (w : qS) : gP w 101 74 = some (.inl (qo_il 1 1)) := rfl
theorem pt_101_75 (w : qS) : gP w 101 75 = some (.inl (qo_ia (gL w))) := rfl
theorem pt_101_76 (w : qS) : gP w 101 76 = some (.inr (.inl (93, 3, some 7))) := rfl
theorem pt_101_79 (w : qS) : gP w 101 79 = some (.inl (qo_z (fun x => ¬ x = 0) 84)) := rfl
theorem pt_101_82 (w : qS) : gP w 101 82 = some (.inl (qo_k (-1) 1)) := rfl
theorem pt_101_83 (w : qS) : gP w 101 83 = some (.inr (.inr 1)) := rfl
theorem pt_101_84 (w : qS) : gP w 101 84 = some (.inl (qo_il 5 2)) := rfl
theorem pt_101_86 (w : qS) : gP w 101 86 = some (.inl (qo_il 3 1)) := rfl
theorem pt_101_87 (w : qS) : gP w 101 87 = some (.inr (.inl (100, 2, none))) := rfl
theorem pt_101_90 (w : qS) : gP w 101 90 = some (.inl (qo_is 5 2)) := rfl
theorem pt_101_92 (w : qS) : gP w 101 92 = some (.inl (qo_inc 6 1)) := rfl
theorem pt_101_95 (w : qS) : gP w 101 95 = some (.inl (qo_g 55)) := rfl
theorem pt_101_98 (w : qS) : gP w 101 98 = some (.inl (qo_al 0 1)) := rfl
theorem pt_101_99 (w : qS) : gP w 101 99 = some (.inr (.inl (81, 1, some 7))) := rfl
theorem pt_101_102 (w : qS) : gP w 101 102 = some (.inl (qo_k 0 1)) := rfl
theorem pt_101_103 (w : qS) : gP w 101 103 = some (.inl (qo_is 6 2)) := rfl
theorem pt_101_105 (w : qS) : gP w 101 105 = some (.inl (qo_il 2 1)) := rfl
theorem pt_101_106 (w : qS) : gP w 101 106 = some (.inl (qo_is 5 2)) := rfl
theorem pt_101_108 (w : qS) : gP w 101 108 = some (.inl (qo_k 0 1)) := rfl
theorem pt_101_109 (w : qS) : gP w 101 109 = some (.inl (qo_is 7 2)) := rfl
theorem pt_101_111 (w : qS) : gP w 101 111 = some (.inl (qo_il 7 2)) := rfl
theorem pt_101_113 (w : qS) : gP w 101 113 = some (.inl (qo_il 4 2)) := rfl
theorem pt_101_115 (w : qS) : gP w 101 115 = some (.inl (qo_c (fun x y => y < x) 195)) := rfl
theorem pt_101_118 (w : qS) : gP w 101 118 = some (.inl (qo_al 0 1)) := rfl
theorem pt_101_119 (w : qS) : gP w 101 119 = some (.inl (qo_get (gL w) 7 5)) := rfl
theorem pt_101_122 (w : qS) : gP w 101 122 = some (.inl (qo_il 5 2)) := rfl
theorem pt_101_124 (w : qS) : gP w 101 124 = some (.inl (qo_ia (gL w))) := rfl
theorem pt_101_125 (w : qS) : gP w 101 125 = some (.inl (qo_z (fun x => 0 ≤ x) 149)) := rfl
theorem pt_101_128 (w : qS) : gP w 101 128 = some (.inl (qo_al 0 1)) := rfl
theorem pt_101_129 (w : qS) : gP w 101 129 = some (.inl (qo_get (gL w) 7 0)) := rfl
theorem pt_101_132 (w : qS) : gP w 101 132 = some (.inl (qo_k (iN 352) 3)) := rfl
theorem pt_101_135 (w : qS) : gP w 101 135 = some (.inl (qo_il 5 2)) := rfl
theorem pt_101_137 (w : qS) : gP w 101 137 = some (.inl (qo_b (fun x y => x + y))) := rfl
theorem pt_101_138 (w : qS) : gP w 101 138 = some (.inl (qo_ia (gL w))) := rfl
theorem pt_101_139 (w : qS) : gP w 101 139 = some (.inl (qo_z (fun x => ¬ x = 0) 149)) := rfl
theorem pt_101_142 (w : qS) : gP w 101 142 = some (.inl (qo_il 6 2)) := rfl
theorem pt_101_144 (w : qS) : gP w 101 144 = some (.inl (qo_k 1 1)) := rfl
theorem pt_101_145 (w : qS) : gP w 101 145 = some (.inl (qo_b (fun x y => x + y))) := rfl
theorem pt_101_146 (w : qS) : gP w 101 146 = some (.inl (qo_g 151)) := rfl
theorem pt_101_149 (w : qS) : gP w 101 149 = some (.inl (qo_il 6 2)) := rfl
theorem pt_101_151 (w : qS) : gP w 101 151 = some (.inl (qo_is 6 2)) := rfl
theorem pt_101_153 (w : qS) : gP w 101 153 = some (.inl (qo_al 0 1)) := rfl
theorem pt_101_154 (w : qS) : gP w 101 154 = some (.inl (qo_get (gL w) 7 0)) := rfl
theorem pt_101_157 (w : qS) : gP w 101 157 = some (.inl (qo_k (iN 352) 3)) := rfl
theorem pt_101_160 (w : qS) : gP w 101 160 = some (.inl (qo_il 5 2)) := rfl
theorem pt_101_162 (w : qS) : gP w 101 162 = some (.inl (qo_b (fun x y => x + y))) := rfl
theorem pt_101_163 (w : qS) : gP w 101 163 = some (.inl (qo_al 0 1)) := rfl
theorem pt_101_164 (w : qS) : gP w 101 164 = some (.inl (qo_get (gL w) 7 5)) := rfl
theorem pt_101_167 (w : qS) : gP w 101 167 = some (.inl (qo_il 5 2)) := rfl
theorem pt_101_169 (w : qS) : gP w 101 169 = some (.inl (qo_ia (gL w))) := rfl
theorem pt_101_170 (w : qS) : gP w 101 170 = some (.inl (qo_z (fun x => 0 ≤ x) 179)) := rfl
theorem pt_101_173 (w : qS) : gP w 101 173 = some (.inl (qo_il 1 1)) := rfl
theorem pt_101_174 (w : qS) : gP w 101 174 = some (.inl (qo_k 1 1)) := rfl
theorem pt_101_175 (w : qS) : gP w 101 175 = some (.inl (qo_b (fun x y => x + y))) := rfl
theorem pt_101_176 (w : qS) : gP w 101 176 = some (.inl (qo_g 180)) := rfl
theorem pt_101_179 (w : qS) : gP w 101 179 = some (.inl (qo_k 0 1)) := rfl
theorem pt_101_180 (w : qS) : gP w 101 180 = some (.inl (qo_ias (gL w))) := rfl
theorem pt_101_181 (w : qS) : gP w 101 181 = some (.inl (qo_il 5 2)) := rfl
theorem pt_101_183 (w : qS) : gP w 101 183 = some (.inl (qo_il 3 1)) := rfl
theorem pt_101_184 (w : qS) : gP w 101 184 = some (.inr (.inl (100, 2, none))) := rfl
theorem pt_101_187 (w : qS) : gP w 101 187 = some (.inl (qo_is 5 2)) := rfl
theorem pt_101_189 (w : qS) : gP w 101 189 = some (.inl (qo_inc 7 1)) := rfl
theorem pt_101_192 (w : qS) : gP w 101 192 = some (.inl (qo_g 111)) := rfl
theorem pt_101_195 (w : qS) : gP w 101 195 = some (.inl (qo_al 0 1)) := rfl
theorem pt_101_196 (w : qS) : gP w 101 196 = some (.inr (.inl (82, 1, some 7))) := rfl
theorem pt_101_199 (w : qS) : gP w 101 199 = some (.inl (qo_il 6 2)) := rfl
theorem pt_101_201 (w : qS) : gP w 101 201 = some (.inr (.inr 1)) := rfl
theorem pt_102_0 (w : qS) : gP w 102 0 = some (.inl (qo_il 1 1)) := rfl
theorem pt_102_1 (w : qS) : gP w 102 1 = some (.inr (.inl (85, 1, none))) := rfl
theorem pt_102_4 (w : qS) : gP w 102 4 = some (.inl (qo_z (fun x => x = 0) 20)) := rfl
theorem pt_102_7 (w : qS) : gP w 102 7 = some (.inl (qo_al 0 1)) := rfl
theorem pt_102_8 (w : qS) : gP w 102 8 = some (.inl (qo_get (gL w) 7 0)) := rfl
theorem pt_102_11 (w : qS) : gP w 102 11 = some (.inl (qo_k (iN 352) 3)) := rfl
theorem pt_102_14 (w : qS) : gP w 102 14 = some (.inl (qo_il 1 1)) := rfl
theorem pt_102_15 (w : qS) : gP w 102 15 = some (.inl (qo_b (fun x y => x + y))) := rfl
theorem pt_102_16 (w : qS) : gP w 102 16 = some (.inl (qo_ia (gL w))) := rfl
theorem pt_102_17 (w : qS) : gP w 102 17 = some (.inl (qo_z (fun x => ¬ x = 0) 22)) := rfl
theorem pt_102_20 (w : qS) : gP w 102 20 = some (.inl (qo_k 0 1)) := rfl
theorem pt_102_21 (w : qS) : gP w 102 21 = some (.inr (.inr 2)) := rfl
theorem pt_102_22 (w : qS) : gP w 102 22 = some (.inl (qo_al 0 1)) := rfl
theorem pt_102_23 (w : qS) : gP w 102 23 = some (.inr (.inl (81, 1, some 7))) := rfl
theorem pt_102_26 (w : qS) : gP w 102 26 = some (.inl (qo_al 0 1)) := rfl
theorem pt_102_27 (w : qS) : gP w 102 27 = some (.inl (qo_get (gL w) 7 0)) := rfl
theorem pt_102_30 (w : qS) : gP w 102 30 = some (.inl (qo_k (iN 352) 3)) := rfl
theorem pt_102_33 (w : qS) : gP w 102 33 = some (.inl (qo_il 1 1)) := rfl
theorem pt_102_34 (w : qS) : gP w 102 34 = some (.inl (qo_b (fun x y => x + y))) := rfl
theorem pt_102_35 (w : qS) : gP w 102 35 = some (.inl (qo_k 0 1)) := rfl
theorem pt_102_36 (w : qS) : gP w 102 36 = some (.inl (qo_ias (gL w))) := rfl
theorem pt_102_37 (w : qS) : gP w 102 37 = some (.inl (qo_al 0 1)) := rfl
theorem pt_102_38 (w : qS) : gP w 102 38 = some (.inr (.inl (82, 1, some 7))) := rfl
theorem pt_102_41 (w : qS) : gP w 102 41 = some (.inl (qo_k 1 1)) := rfl
theorem pt_102_42 (w : qS) : gP w 102 42 = some (.inr (.inr 2)) := rfl
theorem pt_103_0 (w : qS) : gP w 103 0 = some (.inl (qo_il 1 1)) := rfl
theorem pt_103_1 (w : qS) : gP w 103 1 = some (.inr (.inl (85, 1, none))) := rfl
theorem pt_103_4 (w : qS) : gP w 103 4 = some (.inl (qo_z (fun x => x = 0) 16)) := rfl
theorem pt_103_7 (w : qS) : gP w 103 7 = some (.inl (qo_al 0 1)) := rfl
theorem pt_103_8 (w : qS) : gP w 103 8 = some (.inl (qo_get (gL w) 7 6)) := rfl
theorem pt_103_11 (w : qS) : gP w 103 11 = some (.inl (qo_il 1 1)) := rfl
theorem pt_103_12 (w : qS) : gP w 103 12 = some (.inl (qo_ia (gL w))) := rfl
theorem pt_103_13 (w : qS) : gP w 103 13 = some (.inl (qo_g 17)) := rfl
theorem pt_103_16 (w : qS) : gP w 103 16 = some (.inl (qo_k (-1) 1)) := rfl
theorem pt_103_17 (w : qS) : gP w 103 17 = some (.inr (.inr 1)) := rfl
theorem pt_104_0 (w : qS) : gP w 104 0 = some (.inl (qo_al 0 1)) := rfl
theorem pt_104_1 (w : qS) : gP w 104 1 = some (.inl (qo_il 1 1)) := rfl
theorem pt_104_2 (w : qS) : gP w 104 2 = some (.inr (.inl (84, 2, some 7))) := rfl
theorem pt_104_5 (w : qS) : gP w 104 5 = some (.inl (qo_z (fun x => ¬ x = 0) 10)) := rfl
theorem pt_104_8 (w : qS) : gP w 104 8 = some (.inl (qo_k (-1) 1)) := rfl
theorem pt_104_9 (w : qS) : gP w 104 9 = some (.inr (.inr 1)) := rfl
theorem pt_104_10 (w : qS) : gP w 104 10 = some (.inl (qo_al 0 1)) := rfl
theorem pt_104_11 (w : qS) : gP w 104 11 = some (.inr (.inl (81, 1, some 7))) := rfl
theorem pt_104_14 (w : qS) : gP w 104 14 = some (.inl (qo_k 0 1)) := rfl
theorem pt_104_15 (w : qS) : gP w 104 15 = some (.inl (qo_is 2 1)) := rfl
theorem pt_104_16 (w : qS) : gP w 104 16 = some (.inl (qo_k 0 1)) := rfl
theorem pt_104_17 (w : qS) : gP w 104 17 = some (.inl (qo_is 3 1)) := rfl
theorem pt_104_18 (w : qS) : gP w 104 18 = some (.inl (qo_il 3 1)) := rfl
theorem pt_104_19 (w : qS) : gP w 104 19 = some (.inl (qo_k (iN 240) 3)) := rfl
theorem pt_104_22 (w : qS) : gP w 104 22 = some (.inl (qo_c (fun x y => y ≤ x) 108)) := rfl
theorem pt_104_25 (w : qS) : gP w 104 25 = some (.inl (qo_al 0 1)) := rfl
theorem pt_104_26 (w : qS) : gP w 104 26 = some (.inl (qo_get (gL w) 7 0)) := rfl
theorem pt_104_29 (w : qS) : gP w 104 29 = some (.inl (qo_k (iN 352) 3)) := rfl
theorem pt_104_32 (w : qS) : gP w 104 32 = some (.inl (qo_il 3 1)) := rfl
theorem pt_104_33 (w : qS) : gP w 104 33 = some (.inl (qo_b (fun x y => x + y))) := rfl
theorem pt_104_34 (w : qS) : gP w 104 34 = some (.inl (qo_ia (gL w))) := rfl
theorem pt_104_35 (w : qS) : gP w 104 35 = some (.inl (qo_z (fun x => x ≤ 0) 57)) := rfl
theorem pt_104_38 (w : qS) : gP w 104 38 = some (.inl (qo_al 0 1)) := rfl
theorem pt_104_39 (w : qS) : gP w 104 39 = some (.inl (qo_get (gL w) 7 6)) := rfl
theorem pt_104_42 (w : qS) : gP w 104 42 = some (.inl (qo_il 3 1)) := rfl
theorem pt_104_43 (w : qS) : gP w 104 43 = some (.inl (qo_ia (gL w))) := rfl
theorem pt_104_44 (w : qS) : gP w 104 44 = some (.inl (qo_al 0 1)) := rfl
theorem pt_104_45 (w : qS) : gP w 104 45 = some (.inl (qo_get (gL w) 7 4)) := rfl
theorem pt_104_48 (w : qS) : gP w 104 48 = some (.inl (qo_il 1 1)) := rfl
theorem pt_104_49 (w : qS) : gP w 104 49 = some (.inl (qo_ia (gL w))) := rfl
theorem pt_104_50 (w : qS) : gP w 104 50 = some (.inl (qo_c (fun x y => ¬ x = y) 57)) := rfl
theorem pt_104_53 (w : qS) : gP w 104 53 = some (.inl (qo_k 1 1)) := rfl
theorem pt_104_54 (w : qS) : gP w 104 54 = some (.inl (qo_g 58)) := rfl
theorem pt_104_57 (w : qS) : gP w 104 57 = some (.inl (qo_k 0 1)) := rfl
theorem pt_104_58 (w : qS) : gP w 104 58 = some (.inl (qo_is 4 2)) := rfl
theorem pt_104_60 (w : qS) : gP w 104 60 = some (.inl (qo_al 0 1)) := rfl
theorem pt_104_61 (w : qS) : gP w 104 61 = some (.inl (qo_get (gL w) 7 0)) := rfl
theorem pt_104_64 (w : qS) : gP w 104 64 = some (.inl (qo_k (iN 352) 3)) := rfl
theorem pt_104_67 (w : qS) : gP w 104 67 = some (.inl (qo_il 3 1)) := rfl
theorem pt_104_68 (w : qS) : gP w 104 68 = some (.inl (qo_b (fun x y => x + y))) := rfl
theorem pt_104_69 (w : qS) : gP w 104 69 = some (.inl (qo_il 4 2)) := rfl
theorem pt_104_71 (w : qS) : gP w 104 71 = some (.inl (qo_z (fun x => x = 0) 78)) := rfl
theorem pt_104_74 (w : qS) : gP w 104 74 = some (.inl (qo_k 0 1)) := rfl
theorem pt_104_75 (w : qS) : gP w 104 75 = some (.inl (qo_g 88)) := rfl
theorem pt_104_78 (w : qS) : gP w 104 78 = some (.inl (qo_al 0 1)) := rfl
theorem pt_104_79 (w : qS) : gP w 104 79 = some (.inl (qo_get (gL w) 7 0)) := rfl
theorem pt_104_82 (w : qS) : gP w 104 82 = some (.inl (qo_k (iN 352) 3)) := rfl
theorem pt_104_85 (w : qS) : gP w 104 85 = some (.inl (qo_il 3 1)) := rfl
theorem pt_104_86 (w : qS) : gP w 104 86 = some (.inl (qo_b (fun x y => x + y))) := rfl
theorem pt_104_87 (w : qS) : gP w 104 87 = some (.inl (qo_ia (gL w))) := rfl
theorem pt_104_88 (w : qS) : gP w 104 88 = some (.inl (qo_ias (gL w))) := rfl
theorem pt_104_89 (w : qS) : gP w 104 89 = some (.inl (qo_il 4 2)) := rfl
theorem pt_104_91 (w : qS) : gP w 104 91 = some (.inl (qo_z (fun x => x = 0) 100)) := rfl
theorem pt_104_94 (w : qS) : gP w 104 94 = some (.inl (qo_il 2 1)) := rfl
theorem pt_104_95 (w : qS) : gP w 104 95 = some (.inl (qo_k 1 1)) := rfl
theorem pt_104_96 (w : qS) : gP w 104 96 = some (.inl (qo_b (fun x y => x + y))) := rfl
theorem pt_104_97 (w : qS) : gP w 104 97 = some (.inl (qo_g 101)) := rfl
theorem pt_104_100 (w : qS) : gP w 104 100 = some (.inl (qo_il 2 1)) := rfl
theorem pt_104_101 (w : qS) : gP w 104 101 = some (.inl (qo_is 2 1)) := rfl
theorem pt_104_102 (w : qS) : gP w 104 102 = some (.inl (qo_inc 3 1)) := rfl
theorem pt_104_105 (w : qS) : gP w 104 105 = some (.inl (qo_g 18)) := rfl
theorem pt_104_108 (w : qS) : gP w 104 108 = some (.inl (qo_al 0 1)) := rfl
theorem pt_104_109 (w : qS) : gP w 104 109 = some (.inr (.inl (82, 1, some 7))) := rfl
theorem pt_104_112 (w : qS) : gP w 104 112 = some (.inl (qo_il 2 1)) := rfl
theorem pt_104_113 (w : qS) : gP w 104 113 = some (.inr (.inr 1)) := rfl
theorem pt_105_0 (w : qS) : gP w 105 0 = some (.inl (qo_k 0 1)) := rfl
theorem pt_105_1 (w : qS) : gP w 105 1 = some (.inl (qo_is 2 1)) := rfl
theorem pt_105_2 (w : qS) : gP w 105 2 = some (.inl (qo_il 2 1)) := rfl
theorem pt_105_3 (w : qS) : gP w 105 3 = some (.inl (qo_k (iN 240) 3)) := rfl
theorem pt_105_6 (w : qS) : gP w 105 6 = some (.inl (qo_c (fun x y => y ≤ x) 36)) := rfl
theorem pt_105_9 (w : qS) : gP w 105 9 = some (.inl (qo_al 0 1)) := rfl
theorem pt_105_10 (w : qS) : gP w 105 10 = some (.inl (qo_get (gL w) 7 7)) := rfl
theorem pt_105_13 (w : qS) : gP w 105 13 = some (.inl (qo_il 2 1)) := rfl
theorem pt_105_14 (w : qS) : gP w 105 14 = some (.inl (qo_al 0 1)) := rfl
theorem pt_105_15 (w : qS) : gP w 105 15 = some (.inl (qo_get (gL w) 7 6)) := rfl
theorem pt_105_18 (w : qS) : gP w 105 18 = some (.inl (qo_il 2 1)) := rfl
theorem pt_105_19 (w : qS) : gP w 105 19 = some (.inl (qo_ia (gL w))) := rfl
theorem pt_105_20 (w : qS) : gP w 105 20 = some (.inl (qo_il 1 1)) := rfl
theorem pt_105_21 (w : qS) : gP w 105 21 = some (.inl (qo_c (fun x y => ¬ x = y) 28)) := rfl
theorem pt_105_24 (w : qS) : gP w 105 24 = some (.inl (qo_il 2 1)) := rfl
theorem pt_105_25 (w : qS) : gP w 105 25 = some (.inl (qo_g 29)) := rfl
theorem pt_105_28 (w : qS) : gP w 105 28 = some (.inl (qo_k (-1) 1)) := rfl
theorem pt_105_29 (w : qS) : gP w 105 29 = some (.inl (qo_ias (gL w))) := rfl
theorem pt_105_30 (w : qS) : gP w 105 30 = some (.inl (qo_inc 2 1)) := rfl
theorem pt_105_33 (w : qS) : gP w 105 33 = some (.inl (qo_g 2)) := rfl
theorem pt_105_36 (w : qS) : gP w 105 36 = some (.inl (qo_k 1 1)) := rfl
theorem pt_105_37 (w : qS) : gP w 105 37 = some (.inl (qo_is 2 1)) := rfl
theorem pt_105_38 (w : qS) : gP w 105 38 = some (.inl (qo_il 2 1)) := rfl
theorem pt_105_39 (w : qS) : gP w 105 39 = some (.inl (qo_z (fun x => x = 0) 131)) := rfl
theorem pt_105_42 (w : qS) : gP w 105 42 = some (.inl (qo_k 0 1)) := rfl
theorem pt_105_43 (w : qS) : gP w 105 43 = some (.inl (qo_is 2 1)) := rfl
theorem pt_105_44 (w : qS) : gP w 105 44 = some (.inl (qo_k 0 1)) := rfl
theorem pt_105_45 (w : qS) : gP w 105 45 = some (.inl (qo_is 3 1)) := rfl
theorem pt_105_46 (w : qS) : gP w 105 46 = some (.inl (qo_il 3 1)) := rfl
theorem pt_105_47 (w : qS) : gP w 105 47 = some (.inl (qo_k (iN 240) 3)) := rfl
theorem pt_105_50 (w : qS) : gP w 105 50 = some (.inl (qo_c (fun x y => y ≤ x) 128)) := rfl
theorem pt_105_53 (w : qS) : gP w 105 53 = some (.inl (qo_k 0 1)) := rfl
theorem pt_105_54 (w : qS) : gP w 105 54 = some (.inl (qo_is 4 2)) := rfl
theorem pt_105_56 (w : qS) : gP w 105 56 = some (.inl (qo_il 4 2)) := rfl
theorem pt_105_58 (w : qS) : gP w 105 58 = some (.inl (qo_k (iN 9) 2)) := rfl
theorem pt_105_60 (w : qS) : gP w 105 60 = some (.inl (qo_c (fun x y => y ≤ x) 122)) := rfl
theorem pt_105_63 (w : qS) : gP w 105 63 = some (.inl (qo_al 0 1)) := rfl
theorem pt_105_64 (w : qS) : gP w 105 64 = some (.inl (qo_get (gL w) 7 7)) := rfl
theorem pt_105_67 (w : qS) : gP w 105 67 = some (.inl (qo_il 3 1)) := rfl
theorem pt_105_68 (w : qS) : gP w 105 68 = some (.inl (qo_ia (gL w))) := rfl
theorem pt_105_69 (w : qS) : gP w 105 69 = some (.inl (qo_z (fun x => x < 0) 122)) := rfl
theorem pt_105_72 (w : qS) : gP w 105 72 = some (.inl (qo_il 3 1)) := rfl
theorem pt_105_73 (w : qS) : gP w 105 73 = some (.inl (qo_il 4 2)) := rfl
theorem pt_105_75 (w : qS) : gP w 105 75 = some (.inr (.inl (100, 2, none))) := rfl
theorem pt_105_78 (w : qS) : gP w 105 78 = some (.inl (qo_is 5 2)) := rfl
theorem pt_105_80 (w : qS) : gP w 105 80 = some (.inl (qo_il 5 2)) := rfl
theorem pt_105_82 (w : qS) : gP w 105 82 = some (.inl (qo_z (fun x => x < 0) 116)) := rfl
theorem pt_105_85 (w : qS) : gP w 105 85 = some (.inl (qo_al 0 1)) := rfl
theorem pt_105_86 (w : qS) : gP w 105 86 = some (.inl (qo_get (gL w) 7 7)) := rfl
theorem pt_105_89 (w : qS) : gP w 105 89 = some (.inl (qo_il 5 2)) := rfl
theorem pt_105_91 (w : qS) : gP w 105 91 = some (.inl (qo_ia (gL w))) := rfl
theorem pt_105_92 (w : qS) : gP w 105 92 = some (.inl (qo_al 0 1)) := rfl
theorem pt_105_93 (w : qS) : gP w 105 93 = some (.inl (qo_get (gL w) 7 7)) := rfl
theorem pt_105_96 (w : qS) : gP w 105 96 = some (.inl (qo_il 3 1)) := rfl
theorem pt_105_97 (w : qS) : gP w 105 97 = some (.inl (qo_ia (gL w))) := rfl
theorem pt_105_98 (w : qS) : gP w 105 98 = some (.inl (qo_c (fun x y => x ≤ y) 116)) := rfl
theorem pt_105_101 (w : qS) : gP w 105 101 = some (.inl (qo_al 0 1)) := rfl
theorem pt_105_102 (w : qS) : gP w 105 102 = some (.inl (qo_get (gL w) 7 7)) := rfl
theorem pt_105_105 (w : qS) : gP w 105 105 = some (.inl (qo_il 5 2)) := rfl
theorem pt_105_107 (w : qS) : gP w 105 107 = some (.inl (qo_al 0 1)) := rfl
theorem pt_105_108 (w : qS) : gP w 105 108 = some (.inl (qo_get (gL w) 7 7)) := rfl
theorem pt_105_111 (w : qS) : gP w 105 111 = some (.inl (qo_il 3 1)) := rfl
theorem pt_105_112 (w : qS) : gP w 105 112 = some (.inl (qo_ia (gL w))) := rfl
theorem pt_105_113 (w : qS) : gP w 105 113 = some (.inl (qo_ias (gL w))) := rfl
theorem pt_105_114 (w : qS) : gP w 105 114 = some (.inl (qo_k 1 1)) := rfl
theorem pt_105_115 (w : qS) : gP w 105 115 = some (.inl (qo_is 2 1)) := rfl
theorem pt_105_116 (w : qS) : gP w 105 116 = some (.inl (qo_inc 4 1)) := rfl
theorem pt_105_119 (w : qS) : gP w 105 119 = some (.inl (qo_g 56)) := rfl
theorem pt_105_122 (w : qS) : gP w 105 122 = some (.inl (qo_inc 3 1)) := rfl
theorem pt_105_125 (w : qS) : gP w 105 125 = some (.inl (qo_g 46)) := rfl
theorem pt_105_128 (w : qS) : gP w 105 128 = some (.inl (qo_g 38)) := rfl
theorem pt_105_131 (w : qS) : gP w 105 131 = some (.inr (.inr 0)) := rfl
theorem pt_106_0 (w : qS) : gP w 106 0 = some (.inl (qo_al 0 1)) := rfl
theorem pt_106_1 (w : qS) : gP w 106 1 = some (.inl (qo_get (gL w) 7 0)) := rfl
theorem pt_106_4 (w : qS) : gP w 106 4 = some (.inl (qo_k (iN 32) 2)) := rfl
theorem pt_106_6 (w : qS) : gP w 106 6 = some (.inl (qo_il 1 1)) := rfl
theorem pt_106_7 (w : qS) : gP w 106 7 = some (.inl (qo_b (fun x y => x + y))) := rfl
theorem pt_106_8 (w : qS) : gP w 106 8 = some (.inl (qo_ia (gL w))) := rfl
theorem pt_106_9 (w : qS) : gP w 106 9 = some (.inl (qo_is 2 1)) := rfl
theorem pt_106_10 (w : qS) : gP w 106 10 = some (.inl (qo_il 2 1)) := rfl
theorem pt_106_11 (w : qS) : gP w 106 11 = some (.inl (qo_k (iN 120) 2)) := rfl
theorem pt_106_13 (w : qS) : gP w 106 13 = some (.inl (qo_d (fun x y => x / y))) := rfl
theorem pt_106_14 (w : qS) : gP w 106 14 = some (.inl (qo_k (iN 2) 1)) := rfl
theorem pt_106_15 (w : qS) : gP w 106 15 = some (.inl (qo_c (fun x y => ¬ x = y) 28)) := rfl
theorem pt_106_18 (w : qS) : gP w 106 18 = some (.inl (qo_k (iN 120) 2)) := rfl
theorem pt_106_20 (w : qS) : gP w 106 20 = some (.inl (qo_il 2 1)) := rfl
theorem pt_106_21 (w : qS) : gP w 106 21 = some (.inl (qo_k (iN 120) 2)) := rfl
theorem pt_106_23 (w : qS) : gP w 106 23 = some (.inl (qo_d (fun x y => x - x / y * y))) := rfl
theorem pt_106_24 (w : qS) : gP w 106 24 = some (.inl (qo_b (fun x y => x + y))) := rfl
theorem pt_106_25 (w : qS) : gP w 106 25 = some (.inl (qo_g 32)) := rfl
theorem pt_106_28 (w : qS) : gP w 106 28 = some (.inl (qo_il 2 1)) := rfl
theorem pt_106_29 (w : qS) : gP w 106 29 = some (.inl (qo_k (iN 120) 2)) := rfl
theorem pt_106_31 (w : qS) : gP w 106 31 = some (.inl (qo_d (fun x y => x - x / y * y))) := rfl
theorem pt_106_32 (w : qS) : gP w 106 32 = some (.inr (.inr 1)) := rfl
theorem pt_107_0 (w : qS) : gP w 107 0 = some (.inl (qo_k (-1) 1)) := rfl
theorem pt_107_1 (w : qS) : gP w 107 1 = some (.inl (qo_is 2 1)) := rfl
theorem pt_107_2 (w : qS) : gP w 107 2 = some (.inl (qo_al 0 1)) := rfl
theorem pt_107_3 (w : qS) : gP w 107 3 = some (.inl (qo_get (gL w) 7 0)) := rfl
theorem pt_107_6 (w : qS) : gP w 107 6 = some (.inl (qo_k 0 1)) := rfl
theorem pt_107_7 (w : qS) : gP w 107 7 = some (.inl (qo_ia (gL w))) := rfl
theorem pt_107_8 (w : qS) : gP w 107 8 = some (.inl (qo_k 1 1)) := rfl
theorem pt_107_9 (w : qS) : gP w 107 9 = some (.inl (qo_b (fun x y => x - y))) := rfl
theorem pt_107_10 (w : qS) : gP w 107 10 = some (.inl (qo_is 3 1)) := rfl
theorem pt_107_11 (w : qS) : gP w 107 11 = some (.inl (qo_il 3 1)) := rfl
theorem pt_107_12 (w : qS) : gP w 107 12 = some (.inl (qo_z (fun x => x < 0) 49)) := rfl
theorem pt_107_15 (w : qS) : gP w 107 15 = some (.inl (qo_al 0 1)) := rfl
theorem pt_107_16 (w : qS) : gP w 107 16 = some (.inl (qo_get (gL w) 7 4)) := rfl
theorem pt_107_19 (w : qS) : gP w 107 19 = some (.inl (qo_il 3 1)) := rfl
theorem pt_107_20 (w : qS) : gP w 107 20 = some (.inl (qo_ia (gL w))) := rfl
theorem pt_107_21 (w : qS) : gP w 107 21 = some (.inl (qo_il 1 1)) := rfl
theorem pt_107_22 (w : qS) : gP w 107 22 = some (.inl (qo_c (fun x y => ¬ x = y) 41)) := rfl
theorem pt_107_25 (w : qS) : gP w 107 25 = some (.inl (qo_al 0 1)) := rfl
theorem pt_107_26 (w : qS) : gP w 107 26 = some (.inl (qo_get (gL w) 7 0)) := rfl
theorem pt_107_29 (w : qS) : gP w 107 29 = some (.inl (qo_k (iN 32) 2)) := rfl
theorem pt_107_31 (w : qS) : gP w 107 31 = some (.inl (qo_il 3 1)) := rfl
theorem pt_107_32 (w : qS) : gP w 107 32 = some (.inl (qo_b (fun x y => x + y))) := rfl
theorem pt_107_33 (w : qS) : gP w 107 33 = some (.inl (qo_ia (gL w))) := rfl
theorem pt_107_34 (w : qS) : gP w 107 34 = some (.inl (qo_z (fun x => x ≤ 0) 41)) := rfl
theorem pt_107_37 (w : qS) : gP w 107 37 = some (.inl (qo_il 3 1)) := rfl
theorem pt_107_38 (w : qS) : gP w 107 38 = some (.inl (qo_g 42)) := rfl
theorem pt_107_41 (w : qS) : gP w 107 41 = some (.inl (qo_il 2 1)) := rfl
theorem pt_107_42 (w : qS) : gP w 107 42 = some (.inl (qo_is 2 1)) := rfl
theorem pt_107_43 (w : qS) : gP w 107 43 = some (.inl (qo_inc 3 (-1))) := rfl
theorem pt_107_46 (w : qS) : gP w 107 46 = some (.inl (qo_g 11)) := rfl
theorem pt_107_49 (w : qS) : gP w 107 49 = some (.inl (qo_il 2 1)) := rfl
theorem pt_107_50 (w : qS) : gP w 107 50 = some (.inr (.inr 1)) := rfl
theorem pt_108_0 (w : qS) : gP w 108 0 = some (.inl (qo_al 0 1)) := rfl
theorem pt_108_1 (w : qS) : gP w 108 1 = some (.inl (qo_il 1 1)) := rfl
theorem pt_108_2 (w : qS) : gP w 108 2 = some (.inr (.inl (107, 2, some 7))) := rfl
theorem pt_108_5 (w : qS) : gP w 108 5 = some (.inl (qo_is 2 1)) := rfl
theorem pt_108_6 (w : qS) : gP w 108 6 = some (.inl (qo_il 2 1)) := rfl
theorem pt_108_7 (w : qS) : gP w 108 7 = some (.inl (qo_z (fun x => 0 ≤ x) 12)) := rfl
theorem pt_108_10 (w : qS) : gP w 108 10 = some (.inl (qo_k (-1) 1)) := rfl
theorem pt_108_11 (w : qS) : gP w 108 11 = some (.inr (.inr 1)) := rfl
theorem pt_108_12 (w : qS) : gP w 108 12 = some (.inl (qo_al 0 1)) := rfl
theorem pt_108_13 (w : qS) : gP w 108 13 = some (.inl (qo_il 1 1)) := rfl
theorem pt_108_14 (w : qS) : gP w 108 14 = some (.inr (.inl (105, 2, some 7))) := rfl
theorem pt_108_17 (w : qS) : gP w 108 17 = some (.inl (qo_k (-1) 1)) := rfl
theorem pt_108_18 (w : qS) : gP w 108 18 = some (.inl (qo_is 3 1)) := rfl
theorem pt_108_19 (w : qS) : gP w 108 19 = some (.inl (qo_al 0 1)) := rfl
theorem pt_108_20 (w : qS) : gP w 108 20 = some (.inl (qo_get (gL w) 7 0)) := rfl
theorem pt_108_23 (w : qS) : gP w 108 23 = some (.inl (qo_k 0 1)) := rfl
theorem pt_108_24 (w : qS) : gP w 108 24 = some (.inl (qo_ia (gL w))) := rfl
theorem pt_108_25 (w : qS) : gP w 108 25 = some (.inl (qo_k 1 1)) := rfl
theorem pt_108_26 (w : qS) : gP w 108 26 = some (.inl (qo_b (fun x y => x - y))) := rfl
theorem pt_108_27 (w : qS) : gP w 108 27 = some (.inl (qo_is 4 2)) := rfl
theorem pt_108_29 (w : qS) : gP w 108 29 = some (.inl (qo_il 4 2)) := rfl
theorem pt_108_31 (w : qS) : gP w 108 31 = some (.inl (qo_il 2 1)) := rfl
theorem pt_108_32 (w : qS) : gP w 108 32 = some (.inl (qo_c (fun x y => x ≤ y) 108)) := rfl
theorem pt_108_35 (w : qS) : gP w 108 35 = some (.inl (qo_al 0 1)) := rfl
theorem pt_108_36 (w : qS) : gP w 108 36 = some (.inl (qo_get (gL w) 7 4)) := rfl
theorem pt_108_39 (w : qS) : gP w 108 39 = some (.inl (qo_il 4 2)) := rfl
theorem pt_108_41 (w : qS) : gP w 108 41 = some (.inl (qo_ia (gL w))) := rfl
theorem pt_108_42 (w : qS) : gP w 108 42 = some (.inl (qo_il 1 1)) := rfl
theorem pt_108_43 (w : qS) : gP w 108 43 = some (.inl (qo_c (fun x y => ¬ x = y) 87)) := rfl
theorem pt_108_46 (w : qS) : gP w 108 46 = some (.inl (qo_al 0 1)) := rfl
theorem pt_108_47 (w : qS) : gP w 108 47 = some (.inl (qo_get (gL w) 7 0)) := rfl
theorem pt_108_50 (w : qS) : gP w 108 50 = some (.inl (qo_k (iN 32) 2)) := rfl
theorem pt_108_52 (w : qS) : gP w 108 52 = some (.inl (qo_il 4 2)) := rfl
theorem pt_108_54 (w : qS) : gP w 108 54 = some (.inl (qo_b (fun x y => x + y))) := rfl
theorem pt_108_55 (w : qS) : gP w 108 55 = some (.inl (qo_ia (gL w))) := rfl
theorem pt_108_56 (w : qS) : gP w 108 56 = some (.inl (qo_z (fun x => x ≤ 0) 87)) := rfl
theorem pt_108_59 (w : qS) : gP w 108 59 = some (.inl (qo_al 0 1)) := rfl
theorem pt_108_60 (w : qS) : gP w 108 60 = some (.inl (qo_get (gL w) 7 7)) := rfl
theorem pt_108_63 (w : qS) : gP w 108 63 = some (.inl (qo_al 0 1)) := rfl
theorem pt_108_64 (w : qS) : gP w 108 64 = some (.inl (qo_il 4 2)) := rfl
theorem pt_108_66 (w : qS) : gP w 108 66 = some (.inr (.inl (106, 2, some 7))) := rfl
theorem pt_108_69 (w : qS) : gP w 108 69 = some (.inl (qo_ia (gL w))) := rfl
theorem pt_108_70 (w : qS) : gP w 108 70 = some (.inl (qo_al 0 1)) := rfl
theorem pt_108_71 (w : qS) : gP w 108 71 = some (.inl (qo_get (gL w) 7 7)) := rfl
theorem pt_108_74 (w : qS) : gP w 108 74 = some (.inl (qo_al 0 1)) := rfl
theorem pt_108_75 (w : qS) : gP w 108 75 = some (.inl (qo_il 2 1)) := rfl
theorem pt_108_76 (w : qS) : gP w 108 76 = some (.inr (.inl (106, 2, some 7))) := rfl
theorem pt_108_79 (w : qS) : gP w 108 79 = some (.inl (qo_ia (gL w))) := rfl
theorem pt_108_80 (w : qS) : gP w 108 80 = some (.inl (qo_c (fun x y => x = y) 87)) := rfl
theorem pt_108_83 (w : qS) : gP w 108 83 = some (.inl (qo_k 1 1)) := rfl
theorem pt_108_84 (w : qS) : gP w 108 84 = some (.inl (qo_g 88)) := rfl
theorem pt_108_87 (w : qS) : gP w 108 87 = some (.inl (qo_k 0 1)) := rfl
theorem pt_108_88 (w : qS) : gP w 108 88 = some (.inl (qo_is 5 2)) := rfl
theorem pt_108_90 (w : qS) : gP w 108 90 = some (.inl (qo_il 5 2)) := rfl
theorem pt_108_92 (w : qS) : gP w 108 92 = some (.inl (qo_z (fun x => x = 0) 100)) := rfl
theorem pt_108_95 (w : qS) : gP w 108 95 = some (.inl (qo_il 4 2)) := rfl
theorem pt_108_97 (w : qS) : gP w 108 97 = some (.inl (qo_g 101)) := rfl
theorem pt_108_100 (w : qS) : gP w 108 100 = some (.inl (qo_il 3 1)) := rfl
theorem pt_108_101 (w : qS) : gP w 108 101 = some (.inl (qo_is 3 1)) := rfl
theorem pt_108_102 (w : qS) : gP w 108 102 = some (.inl (qo_inc 4 (-1))) := rfl
theorem pt_108_105 (w : qS) : gP w 108 105 = some (.inl (qo_g 29)) := rfl
theorem pt_108_108 (w : qS) : gP w 108 108 = some (.inl (qo_il 3 1)) := rfl
theorem pt_108_109 (w : qS) : gP w 108 109 = some (.inr (.inr 1)) := rfl
theorem pt_109_0 (w : qS) : gP w 109 0 = some (.inl (qo_il 0 1)) := rfl
theorem pt_109_1 (w : qS) : gP w 109 1 = some (.inl (qo_k (iN 8) 2)) := rfl
theorem pt_109_3 (w : qS) : gP w 109 3 = some (.inl (qo_c (fun x y => ¬ x = y) 11)) := rfl
theorem pt_109_6 (w : qS) : gP w 109 6 = some (.inl (qo_k (iN 30) 2)) := rfl
theorem pt_109_8 (w : qS) : gP w 109 8 = some (.inl (qo_g 24)) := rfl
theorem pt_109_11 (w : qS) : gP w 109 11 = some (.inl (qo_il 0 1)) := rfl
theorem pt_109_12 (w : qS) : gP w 109 12 = some (.inl (qo_k (iN 2) 1)) := rfl
theorem pt_109_13 (w : qS) : gP w 109 13 = some (.inl (qo_d (fun x y => x - x / y * y))) := rfl
theorem pt_109_14 (w : qS) : gP w 109 14 = some (.inl (qo_z (fun x => ¬ x = 0) 22)) := rfl
theorem pt_109_17 (w : qS) : gP w 109 17 = some (.inl (qo_k (iN 10) 2)) := rfl
theorem pt_109_19 (w : qS) : gP w 109 19 = some (.inl (qo_g 24)) := rfl
theorem pt_109_22 (w : qS) : gP w 109 22 = some (.inl (qo_k (iN 14) 2)) := rfl
theorem pt_109_24 (w : qS) : gP w 109 24 = some (.inr (.inr 1)) := rfl
theorem pt_110_0 (w : qS) : gP w 110 0 = some (.inl (qo_k (iN 1000000) 2)) := rfl
theorem pt_110_2 (w : qS) : gP w 110 2 = some (.inl (qo_is 2 1)) := rfl
theorem pt_110_3 (w : qS) : gP w 110 3 = some (.inl (qo_k 0 1)) := rfl
theorem pt_110_4 (w : qS) : gP w 110 4 = some (.inl (qo_is 3 1)) := rfl
theorem pt_110_5 (w : qS) : gP w 110 5 = some (.inl (qo_il 3 1)) := rfl
theorem pt_110_6 (w : qS) : gP w 110 6 = some (.inl (qo_k (iN 9) 2)) := rfl
theorem pt_110_8 (w : qS) : gP w 110 8 = some (.inl (qo_c (fun x y => y ≤ x) 61)) := rfl
theorem pt_110_11 (w : qS) : gP w 110 11 = some (.inl (qo_il 1 1)) := rfl
theorem pt_110_12 (w : qS) : gP w 110 12 = some (.inl (qo_il 3 1)) := rfl
theorem pt_110_13 (w : qS) : gP w 110 13 = some (.inr (.inl (100, 2, none))) := rfl
theorem pt_110_16 (w : qS) : gP w 110 16 = some (.inl (qo_is 4 2)) := rfl
theorem pt_110_18 (w : qS) : gP w 110 18 = some (.inl (qo_il 4 2)) := rfl
theorem pt_110_20 (w : qS) : gP w 110 20 = some (.inl (qo_z (fun x => 0 ≤ x) 28)) := rfl
theorem pt_110_23 (w : qS) : gP w 110 23 = some (.inl (qo_k (iN 1000000) 2)) := rfl
theorem pt_110_25 (w : qS) : gP w 110 25 = some (.inl (qo_g 40)) := rfl
theorem pt_110_28 (w : qS) : gP w 110 28 = some (.inl (qo_al 0 1)) := rfl
theorem pt_110_29 (w : qS) : gP w 110 29 = some (.inl (qo_get (gL w) 7 9)) := rfl
theorem pt_110_32 (w : qS) : gP w 110 32 = some (.inl (qo_il 4 2)) := rfl
theorem pt_110_34 (w : qS) : gP w 110 34 = some (.inl (qo_ia (gL w))) := rfl
theorem pt_110_35 (w : qS) : gP w 110 35 = some (.inl (qo_il 3 1)) := rfl
theorem pt_110_36 (w : qS) : gP w 110 36 = some (.inr (.inl (109, 1, none))) := rfl
theorem pt_110_39 (w : qS) : gP w 110 39 = some (.inl (qo_b (fun x y => x + y))) := rfl
theorem pt_110_40 (w : qS) : gP w 110 40 = some (.inl (qo_is 5 2)) := rfl
theorem pt_110_42 (w : qS) : gP w 110 42 = some (.inl (qo_il 5 2)) := rfl
theorem pt_110_44 (w : qS) : gP w 110 44 = some (.inl (qo_il 2 1)) := rfl
theorem pt_110_45 (w : qS) : gP w 110 45 = some (.inl (qo_c (fun x y => y ≤ x) 53)) := rfl
theorem pt_110_48 (w : qS) : gP w 110 48 = some (.inl (qo_il 5 2)) := rfl
theorem pt_110_50 (w : qS) : gP w 110 50 = some (.inl (qo_g 54)) := rfl
theorem pt_110_53 (w : qS) : gP w 110 53 = some (.inl (qo_il 2 1)) := rfl
theorem pt_110_54 (w : qS) : gP w 110 54 = some (.inl (qo_is 2 1)) := rfl
theorem pt_110_55 (w : qS) : gP w 110 55 = some (.inl (qo_inc 3 1)) := rfl
theorem pt_110_58 (w : qS) : gP w 110 58 = some (.inl (qo_g 5)) := rfl
theorem pt_110_61 (w : qS) : gP w 110 61 = some (.inl (qo_il 2 1)) := rfl
theorem pt_110_62 (w : qS) : gP w 110 62 = some (.inr (.inr 1)) := rfl
theorem pt_111_0 (w : qS) : gP w 111 0 = some (.inl (qo_k 0 1)) := rfl
theorem pt_111_1 (w : qS) : gP w 111 1 = some (.inl (qo_is 3 1)) := rfl
theorem pt_111_2 (w : qS) : gP w 111 2 = some (.inl (qo_il 3 1)) := rfl
theorem pt_111_3 (w : qS) : gP w 111 3 = some (.inl (qo_k (iN 240) 3)) := rfl
theorem pt_111_6 (w : qS) : gP w 111 6 = some (.inl (qo_c (fun x y => y ≤ x) 49)) := rfl
theorem pt_111_9 (w : qS) : gP w 111 9 = some (.inl (qo_al 0 1)) := rfl
theorem pt_111_10 (w : qS) : gP w 111 10 = some (.inl (qo_get (gL w) 7 8)) := rfl
theorem pt_111_13 (w : qS) : gP w 111 13 = some (.inl (qo_il 3 1)) := rfl
theorem pt_111_14 (w : qS) : gP w 111 14 = some (.inl (qo_al 0 1)) := rfl
theorem pt_111_15 (w : qS) : gP w 111 15 = some (.inl (qo_il 3 1)) := rfl
theorem pt_111_16 (w : qS) : gP w 111 16 = some (.inl (qo_il 1 1)) := rfl
theorem pt_111_17 (w : qS) : gP w 111 17 = some (.inr (.inl (93, 3, some 7))) := rfl
theorem pt_111_20 (w : qS) : gP w 111 20 = some (.inl (qo_zas (gL w))) := rfl
theorem pt_111_21 (w : qS) : gP w 111 21 = some (.inl (qo_al 0 1)) := rfl
theorem pt_111_22 (w : qS) : gP w 111 22 = some (.inl (qo_get (gL w) 7 9)) := rfl
theorem pt_111_25 (w : qS) : gP w 111 25 = some (.inl (qo_il 3 1)) := rfl
theorem pt_111_26 (w : qS) : gP w 111 26 = some (.inl (qo_al 0 1)) := rfl
theorem pt_111_27 (w : qS) : gP w 111 27 = some (.inl (qo_get (gL w) 7 7)) := rfl
theorem pt_111_30 (w : qS) : gP w 111 30 = some (.inl (qo_il 3 1)) := rfl
theorem pt_111_31 (w : qS) : gP w 111 31 = some (.inl (qo_ia (gL w))) := rfl
theorem pt_111_32 (w : qS) : gP w 111 32 = some (.inl (qo_il 2 1)) := rfl
theorem pt_111_33 (w : qS) : gP w 111 33 = some (.inl (qo_c (fun x y => ¬ x = y) 40)) := rfl
theorem pt_111_36 (w : qS) : gP w 111 36 = some (.inl (qo_k 0 1)) := rfl
theorem pt_111_37 (w : qS) : gP w 111 37 = some (.inl (qo_g 42)) := rfl
theorem pt_111_40 (w : qS) : gP w 111 40 = some (.inl (qo_k (iN 1000000) 2)) := rfl
theorem pt_111_42 (w : qS) : gP w 111 42 = some (.inl (qo_ias (gL w))) := rfl
theorem pt_111_43 (w : qS) : gP w 111 43 = some (.inl (qo_inc 3 1)) := rfl
theorem pt_111_46 (w : qS) : gP w 111 46 = some (.inl (qo_g 2)) := rfl
theorem pt_111_49 (w : qS) : gP w 111 49 = some (.inl (qo_k 1 1)) := rfl
theorem pt_111_50 (w : qS) : gP w 111 50 = some (.inl (qo_is 3 1)) := rfl
theorem pt_111_51 (w : qS) : gP w 111 51 = some (.inl (qo_il 3 1)) := rfl
theorem pt_111_52 (w : qS) : gP w 111 52 = some (.inl (qo_z (fun x => x = 0) 133)) := rfl
theorem pt_111_55 (w : qS) : gP w 111 55 = some (.inl (qo_k 0 1)) := rfl
theorem pt_111_56 (w : qS) : gP w 111 56 = some (.inl (qo_is 3 1)) := rfl
theorem pt_111_57 (w : qS) : gP w 111 57 = some (.inl (qo_k 0 1)) := rfl
theorem pt_111_58 (w : qS) : gP w 111 58 = some (.inl (qo_is 4 2)) := rfl
theorem pt_111_60 (w : qS) : gP w 111 60 = some (.inl (qo_il 4 2)) := rfl
theorem pt_111_62 (w : qS) : gP w 111 62 = some (.inl (qo_k (iN 240) 3)) := rfl
theorem pt_111_65 (w : qS) : gP w 111 65 = some (.inl (qo_c (fun x y => y ≤ x) 130)) := rfl
theorem pt_111_68 (w : qS) : gP w 111 68 = some (.inl (qo_al 0 1)) := rfl
theorem pt_111_69 (w : qS) : gP w 111 69 = some (.inl (qo_get (gL w) 7 8)) := rfl
theorem pt_111_72 (w : qS) : gP w 111 72 = some (.inl (qo_il 4 2)) := rfl
theorem pt_111_74 (w : qS) : gP w 111 74 = some (.inl (qo_za (gL w))) := rfl
theorem pt_111_75 (w : qS) : gP w 111 75 = some (.inl (qo_z (fun x => x = 0) 97)) := rfl
theorem pt_111_78 (w : qS) : gP w 111 78 = some (.inl (qo_al 0 1)) := rfl
theorem pt_111_79 (w : qS) : gP w 111 79 = some (.inl (qo_get (gL w) 7 9)) := rfl
theorem pt_111_82 (w : qS) : gP w 111 82 = some (.inl (qo_il 4 2)) := rfl
theorem pt_111_84 (w : qS) : gP w 111 84 = some (.inl (qo_ia (gL w))) := rfl
theorem pt_111_85 (w : qS) : gP w 111 85 = some (.inl (qo_z (fun x => x ≤ 0) 97)) := rfl
theorem pt_111_88 (w : qS) : gP w 111 88 = some (.inl (qo_al 0 1)) := rfl
theorem pt_111_89 (w : qS) : gP w 111 89 = some (.inl (qo_il 4 2)) := rfl
theorem pt_111_91 (w : qS) : gP w 111 91 = some (.inr (.inl (110, 2, some 7))) := rfl
theorem pt_111_94 (w : qS) : gP w 111 94 = some (.inl (qo_g 99)) := rfl
theorem pt_111_97 (w : qS) : gP w 111 97 = some (.inl (qo_k (iN 1000000) 2)) := rfl
theorem pt_111_99 (w : qS) : gP w 111 99 = some (.inl (qo_is 5 2)) := rfl
theorem pt_111_101 (w : qS) : gP w 111 101 = some (.inl (qo_il 5 2)) := rfl
theorem pt_111_103 (w : qS) : gP w 111 103 = some (.inl (qo_al 0 1)) := rfl
theorem pt_111_104 (w : qS) : gP w 111 104 = some (.inl (qo_get (gL w) 7 9)) := rfl
theorem pt_111_107 (w : qS) : gP w 111 107 = some (.inl (qo_il 4 2)) := rfl
theorem pt_111_109 (w : qS) : gP w 111 109 = some (.inl (qo_ia (gL w))) := rfl
theorem pt_111_110 (w : qS) : gP w 111 110 = some (.inl (qo_c (fun x y => y ≤ x) 124)) := rfl
theorem pt_111_113 (w : qS) : gP w 111 113 = some (.inl (qo_al 0 1)) := rfl
theorem pt_111_114 (w : qS) : gP w 111 114 = some (.inl (qo_get (gL w) 7 9)) := rfl
theorem pt_111_117 (w : qS) : gP w 111 117 = some (.inl (qo_il 4 2)) := rfl
theorem pt_111_119 (w : qS) : gP w 111 119 = some (.inl (qo_il 5 2)) := rfl
theorem pt_111_121 (w : qS) : gP w 111 121 = some (.inl (qo_ias (gL w))) := rfl
theorem pt_111_122 (w : qS) : gP w 111 122 = some (.inl (qo_k 1 1)) := rfl
theorem pt_111_123 (w : qS) : gP w 111 123 = some (.inl (qo_is 3 1)) := rfl
theorem pt_111_124 (w : qS) : gP w 111 124 = some (.inl (qo_inc 4 1)) := rfl
theorem pt_111_127 (w : qS) : gP w 111 127 = some (.inl (qo_g 60)) := rfl
theorem pt_111_130 (w : qS) : gP w 111 130 = some (.inl (qo_g 51)) := rfl
theorem pt_111_133 (w : qS) : gP w 111 133 = some (.inr (.inr 0)) := rfl
theorem pt_112_0 (w : qS) : gP w 112 0 = some (.inl (qo_il 1 1)) := rfl
theorem pt_112_1 (w : qS) : gP w 112 1 = some (.inl (qo_is 4 2)) := rfl
theorem pt_112_3 (w : qS) : gP w 112 3 = some (.inl (qo_il 2 1)) := rfl
theorem pt_112_4 (w : qS) : gP w 112 4 = some (.inl (qo_is 5 2)) := rfl
theorem pt_112_6 (w : qS) : gP w 112 6 = some (.inl (qo_il 5 2)) := rfl
theorem pt_112_8 (w : qS) : gP w 112 8 = some (.inl (qo_z (fun x => x ≤ 0) 154)) := rfl
theorem pt_112_11 (w : qS) : gP w 112 11 = some (.inl (qo_al 0 1)) := rfl
theorem pt_112_12 (w : qS) : gP w 112 12 = some (.inl (qo_get (gL w) 7 0)) := rfl
theorem pt_112_15 (w : qS) : gP w 112 15 = some (.inl (qo_k (iN 352) 3)) := rfl
theorem pt_112_18 (w : qS) : gP w 112 18 = some (.inl (qo_il 4 2)) := rfl
theorem pt_112_20 (w : qS) : gP w 112 20 = some (.inl (qo_b (fun x y => x + y))) := rfl
theorem pt_112_21 (w : qS) : gP w 112 21 = some (.inl (qo_al 0 1)) := rfl
theorem pt_112_22 (w : qS) : gP w 112 22 = some (.inl (qo_get (gL w) 7 5)) := rfl
theorem pt_112_25 (w : qS) : gP w 112 25 = some (.inl (qo_il 4 2)) := rfl
theorem pt_112_27 (w : qS) : gP w 112 27 = some (.inl (qo_ia (gL w))) := rfl
theorem pt_112_28 (w : qS) : gP w 112 28 = some (.inl (qo_z (fun x => 0 ≤ x) 37)) := rfl
theorem pt_112_31 (w : qS) : gP w 112 31 = some (.inl (qo_il 3 1)) := rfl
theorem pt_112_32 (w : qS) : gP w 112 32 = some (.inl (qo_k 1 1)) := rfl
theorem pt_112_33 (w : qS) : gP w 112 33 = some (.inl (qo_b (fun x y => x + y))) := rfl
theorem pt_112_34 (w : qS) : gP w 112 34 = some (.inl (qo_g 38)) := rfl
theorem pt_112_37 (w : qS) : gP w 112 37 = some (.inl (qo_k 0 1)) := rfl
theorem pt_112_38 (w : qS) : gP w 112 38 = some (.inl (qo_ias (gL w))) := rfl
theorem pt_112_39 (w : qS) : gP w 112 39 = some (.inl (qo_k (iN 240) 3)) := rfl
theorem pt_112_42 (w : qS) : gP w 112 42 = some (.inl (qo_is 6 2)) := rfl
theorem pt_112_44 (w : qS) : gP w 112 44 = some (.inl (qo_k 0 1)) := rfl
theorem pt_112_45 (w : qS) : gP w 112 45 = some (.inl (qo_is 7 2)) := rfl
theorem pt_112_47 (w : qS) : gP w 112 47 = some (.inl (qo_k 0 1)) := rfl
theorem pt_112_48 (w : qS) : gP w 112 48 = some (.inl (qo_is 8 2)) := rfl
theorem pt_112_50 (w : qS) : gP w 112 50 = some (.inl (qo_il 8 2)) := rfl
theorem pt_112_52 (w : qS) : gP w 112 52 = some (.inl (qo_k (iN 9) 2)) := rfl
theorem pt_112_54 (w : qS) : gP w 112 54 = some (.inl (qo_c (fun x y => y ≤ x) 140)) := rfl
theorem pt_112_57 (w : qS) : gP w 112 57 = some (.inl (qo_il 4 2)) := rfl
theorem pt_112_59 (w : qS) : gP w 112 59 = some (.inl (qo_il 8 2)) := rfl
theorem pt_112_61 (w : qS) : gP w 112 61 = some (.inr (.inl (100, 2, none))) := rfl
theorem pt_112_64 (w : qS) : gP w 112 64 = some (.inl (qo_is 9 2)) := rfl
theorem pt_112_66 (w : qS) : gP w 112 66 = some (.inl (qo_il 9 2)) := rfl
theorem pt_112_68 (w : qS) : gP w 112 68 = some (.inl (qo_z (fun x => x < 0) 100)) := rfl
theorem pt_112_71 (w : qS) : gP w 112 71 = some (.inl (qo_al 0 1)) := rfl
theorem pt_112_72 (w : qS) : gP w 112 72 = some (.inl (qo_get (gL w) 7 9)) := rfl
theorem pt_112_75 (w : qS) : gP w 112 75 = some (.inl (qo_il 9 2)) := rfl
theorem pt_112_77 (w : qS) : gP w 112 77 = some (.inl (qo_ia (gL w))) := rfl
theorem pt_112_78 (w : qS) : gP w 112 78 = some (.inl (qo_il 8 2)) := rfl
theorem pt_112_80 (w : qS) : gP w 112 80 = some (.inr (.inl (109, 1, none))) := rfl
theorem pt_112_83 (w : qS) : gP w 112 83 = some (.inl (qo_b (fun x y => x + y))) := rfl
theorem pt_112_84 (w : qS) : gP w 112 84 = some (.inl (qo_il 5 2)) := rfl
theorem pt_112_86 (w : qS) : gP w 112 86 = some (.inl (qo_c (fun x y => ¬ x = y) 100)) := rfl
theorem pt_112_89 (w : qS) : gP w 112 89 = some (.inl (qo_il 9 2)) := rfl
theorem pt_112_91 (w : qS) : gP w 112 91 = some (.inl (qo_il 6 2)) := rfl
theorem pt_112_93 (w : qS) : gP w 112 93 = some (.inl (qo_c (fun x y => y ≤ x) 100)) := rfl
theorem pt_112_96 (w : qS) : gP w 112 96 = some (.inl (qo_k 1 1)) := rfl
theorem pt_112_97 (w : qS) : gP w 112 97 = some (.inl (qo_g 101)) := rfl
theorem pt_112_100 (w : qS) : gP w 112 100 = some (.inl (qo_k 0 1)) := rfl
theorem pt_112_101 (w : qS) : gP w 112 101 = some (.inl (qo_is 10 2)) := rfl
theorem pt_112_103 (w : qS) : gP w 112 103 = some (.inl (qo_il 10 2)) := rfl
theorem pt_112_105 (w : qS) : gP w 112 105 = some (.inl (qo_z (fun x => x = 0) 116)) := rfl
theorem pt_112_108 (w : qS) : gP w 112 108 = some (.inl (qo_il 8 2)) := rfl
theorem pt_112_110 (w : qS) : gP w 112 110 = some (.inr (.inl (109, 1, none))) := rfl
theorem pt_112_113 (w : qS) : gP w 112 113 = some (.inl (qo_g 118)) := rfl
theorem pt_112_116 (w : qS) : gP w 112 116 = some (.inl (qo_il 7 2)) := rfl
theorem pt_112_118 (w : qS) : gP w 112 118 = some (.inl (qo_is 7 2)) := rfl
theorem pt_112_120 (w : qS) : gP w 112 120 = some (.inl (qo_il 10 2)) := rfl
theorem pt_112_122 (w : qS) : gP w 112 122 = some (.inl (qo_z (fun x => x = 0) 130)) := rfl
theorem pt_112_125 (w : qS) : gP w 112 125 = some (.inl (qo_il 9 2)) := rfl
theorem pt_112_127 (w : qS) : gP w 112 127 = some (.inl (qo_g 132)) := rfl
theorem pt_112_130 (w : qS) : gP w 112 130 = some (.inl (qo_il 6 2)) := rfl
theorem pt_112_132 (w : qS) : gP w 112 132 = some (.inl (qo_is 6 2)) := rfl
theorem pt_112_134 (w : qS) : gP w 112 134 = some (.inl (qo_inc 8 1)) := rfl
theorem pt_112_137 (w : qS) : gP w 112 137 = some (.inl (qo_g 50)) := rfl
theorem pt_112_140 (w : qS) : gP w 112 140 = some (.inl (qo_il 5 2)) := rfl
theorem pt_112_142 (w : qS) : gP w 112 142 = some (.inl (qo_il 7 2)) := rfl
theorem pt_112_144 (w : qS) : gP w 112 144 = some (.inl (qo_b (fun x y => x - y))) := rfl
theorem pt_112_145 (w : qS) : gP w 112 145 = some (.inl (qo_is 5 2)) := rfl
theorem pt_112_147 (w : qS) : gP w 112 147 = some (.inl (qo_il 6 2)) := rfl
theorem pt_112_149 (w : qS) : gP w 112 149 = some (.inl (qo_is 4 2)) := rfl
theorem pt_112_151 (w : qS) : gP w 112 151 = some (.inl (qo_g 6)) := rfl
theorem pt_112_154 (w : qS) : gP w 112 154 = some (.inl (qo_al 0 1)) := rfl
theorem pt_112_155 (w : qS) : gP w 112 155 = some (.inl (qo_get (gL w) 7 0)) := rfl
theorem pt_112_158 (w : qS) : gP w 112 158 = some (.inl (qo_k (iN 352) 3)) := rfl
theorem pt_112_161 (w : qS) : gP w 112 161 = some (.inl (qo_il 4 2)) := rfl
theorem pt_112_163 (w : qS) : gP w 112 163 = some (.inl (qo_b (fun x y => x + y))) := rfl
theorem pt_112_164 (w : qS) : gP w 112 164 = some (.inl (qo_al 0 1)) := rfl
theorem pt_112_165 (w : qS) : gP w 112 165 = some (.inl (qo_get (gL w) 7 5)) := rfl
theorem pt_112_168 (w : qS) : gP w 112 168 = some (.inl (qo_il 4 2)) := rfl
theorem pt_112_170 (w : qS) : gP w 112 170 = some (.inl (qo_ia (gL w))) := rfl
theorem pt_112_171 (w : qS) : gP w 112 171 = some (.inl (qo_z (fun x => 0 ≤ x) 180)) := rfl
theorem pt_112_174 (w : qS) : gP w 112 174 = some (.inl (qo_il 3 1)) := rfl
theorem pt_112_175 (w : qS) : gP w 112 175 = some (.inl (qo_k 1 1)) := rfl
theorem pt_112_176 (w : qS) : gP w 112 176 = some (.inl (qo_b (fun x y => x + y))) := rfl
theorem pt_112_177 (w : qS) : gP w 112 177 = some (.inl (qo_g 181)) := rfl
theorem pt_112_180 (w : qS) : gP w 112 180 = some (.inl (qo_k 0 1)) := rfl
theorem pt_112_181 (w : qS) : gP w 112 181 = some (.inl (qo_ias (gL w))) := rfl
theorem pt_112_182 (w : qS) : gP w 112 182 = some (.inr (.inr 0)) := rfl
theorem pt_113_0 (w : qS) : gP w 113 0 = some (.inl (qo_al 0 1)) := rfl
theorem pt_113_1 (w : qS) : gP w 113 1 = some (.inl (qo_il 1 1)) := rfl
theorem pt_113_2 (w : qS) : gP w 113 2 = some (.inr (.inl (108, 2, some 7))) := rfl
theorem pt_113_5 (w : qS) : gP w 113 5 = some (.inl (qo_is 2 1)) := rfl
theorem pt_113_6 (w : qS) : gP w 113 6 = some (.inl (qo_il 2 1)) := rfl
theorem pt_113_7 (w : qS) : gP w 113 7 = some (.inl (qo_z (fun x => 0 ≤ x) 12)) := rfl
theorem pt_113_10 (w : qS) : gP w 113 10 = some (.inl (qo_k 0 1)) := rfl
theorem pt_113_11 (w : qS) : gP w 113 11 = some (.inr (.inr 1)) := rfl
theorem pt_113_12 (w : qS) : gP w 113 12 = some (.inl (qo_al 0 1)) := rfl
theorem pt_113_13 (w : qS) : gP w 113 13 = some (.inl (qo_il 1 1)) := rfl
theorem pt_113_14 (w : qS) : gP w 113 14 = some (.inl (qo_al 0 1)) := rfl
theorem pt_113_15 (w : qS) : gP w 113 15 = some (.inl (qo_get (gL w) 7 7)) := rfl
theorem pt_113_18 (w : qS) : gP w 113 18 = some (.inl (qo_al 0 1)) := rfl
theorem pt_113_19 (w : qS) : gP w 113 19 = some (.inl (qo_al 0 1)) := rfl
theorem pt_113_20 (w : qS) : gP w 113 20 = some (.inl (qo_il 1 1)) := rfl
theorem pt_113_21 (w : qS) : gP w 113 21 = some (.inr (.inl (107, 2, some 7))) := rfl
theorem pt_113_24 (w : qS) : gP w 113 24 = some (.inr (.inl (106, 2, some 7))) := rfl
theorem pt_113_27 (w : qS) : gP w 113 27 = some (.inl (qo_ia (gL w))) := rfl
theorem pt_113_28 (w : qS) : gP w 113 28 = some (.inr (.inl (111, 3, some 7))) := rfl
theorem pt_113_31 (w : qS) : gP w 113 31 = some (.inl (qo_k (-1) 1)) := rfl
theorem pt_113_32 (w : qS) : gP w 113 32 = some (.inl (qo_is 3 1)) := rfl
theorem pt_113_33 (w : qS) : gP w 113 33 = some (.inl (qo_k (iN 1000000) 2)) := rfl
theorem pt_113_35 (w : qS) : gP w 113 35 = some (.inl (qo_is 4 2)) := rfl
theorem pt_113_37 (w : qS) : gP w 113 37 = some (.inl (qo_k 0 1)) := rfl
theorem pt_113_38 (w : qS) : gP w 113 38 = some (.inl (qo_is 5 2)) := rfl
theorem pt_113_40 (w : qS) : gP w 113 40 = some (.inl (qo_il 5 2)) := rfl
theorem pt_113_42 (w : qS) : gP w 113 42 = some (.inl (qo_k (iN 240) 3)) := rfl
theorem pt_113_45 (w : qS) : gP w 113 45 = some (.inl (qo_c (fun x y => y ≤ x) 108)) := rfl
theorem pt_113_48 (w : qS) : gP w 113 48 = some (.inl (qo_al 0 1)) := rfl
theorem pt_113_49 (w : qS) : gP w 113 49 = some (.inl (qo_get (gL w) 7 5)) := rfl
theorem pt_113_52 (w : qS) : gP w 113 52 = some (.inl (qo_il 5 2)) := rfl
theorem pt_113_54 (w : qS) : gP w 113 54 = some (.inl (qo_ia (gL w))) := rfl
theorem pt_113_55 (w : qS) : gP w 113 55 = some (.inl (qo_il 2 1)) := rfl
theorem pt_113_56 (w : qS) : gP w 113 56 = some (.inl (qo_c (fun x y => ¬ x = y) 68)) := rfl
theorem pt_113_59 (w : qS) : gP w 113 59 = some (.inl (qo_al 0 1)) := rfl
theorem pt_113_60 (w : qS) : gP w 113 60 = some (.inl (qo_il 5 2)) := rfl
theorem pt_113_62 (w : qS) : gP w 113 62 = some (.inr (.inl (110, 2, some 7))) := rfl
theorem pt_113_65 (w : qS) : gP w 113 65 = some (.inl (qo_g 70)) := rfl
theorem pt_113_68 (w : qS) : gP w 113 68 = some (.inl (qo_k (iN 1000000) 2)) := rfl
theorem pt_113_70 (w : qS) : gP w 113 70 = some (.inl (qo_is 6 2)) := rfl
theorem pt_113_72 (w : qS) : gP w 113 72 = some (.inl (qo_il 6 2)) := rfl
theorem pt_113_74 (w : qS) : gP w 113 74 = some (.inl (qo_il 4 2)) := rfl
theorem pt_113_76 (w : qS) : gP w 113 76 = some (.inl (qo_c (fun x y => y ≤ x) 84)) := rfl
theorem pt_113_79 (w : qS) : gP w 113 79 = some (.inl (qo_il 5 2)) := rfl
theorem pt_113_81 (w : qS) : gP w 113 81 = some (.inl (qo_g 85)) := rfl
theorem pt_113_84 (w : qS) : gP w 113 84 = some (.inl (qo_il 3 1)) := rfl
theorem pt_113_85 (w : qS) : gP w 113 85 = some (.inl (qo_is 3 1)) := rfl
theorem pt_113_86 (w : qS) : gP w 113 86 = some (.inl (qo_il 6 2)) := rfl
theorem pt_113_88 (w : qS) : gP w 113 88 = some (.inl (qo_il 4 2)) := rfl
theorem pt_113_90 (w : qS) : gP w 113 90 = some (.inl (qo_c (fun x y => y ≤ x) 98)) := rfl
theorem pt_113_93 (w : qS) : gP w 113 93 = some (.inl (qo_il 6 2)) := rfl
theorem pt_113_95 (w : qS) : gP w 113 95 = some (.inl (qo_g 100)) := rfl
theorem pt_113_98 (w : qS) : gP w 113 98 = some (.inl (qo_il 4 2)) := rfl
theorem pt_113_100 (w : qS) : gP w 113 100 = some (.inl (qo_is 4 2)) := rfl
theorem pt_113_102 (w : qS) : gP w 113 102 = some (.inl (qo_inc 5 1)) := rfl
theorem pt_113_105 (w : qS) : gP w 113 105 = some (.inl (qo_g 40)) := rfl
theorem pt_113_108 (w : qS) : gP w 113 108 = some (.inl (qo_il 3 1)) := rfl
theorem pt_113_109 (w : qS) : gP w 113 109 = some (.inl (qo_z (fun x => 0 ≤ x) 115)) := rfl
theorem pt_113_112 (w : qS) : gP w 113 112 = some (.inl (qo_k (-2) 2)) := rfl
theorem pt_113_114 (w : qS) : gP w 113 114 = some (.inr (.inr 1)) := rfl
theorem pt_113_115 (w : qS) : gP w 113 115 = some (.inl (qo_al 0 1)) := rfl
theorem pt_113_116 (w : qS) : gP w 113 116 = some (.inl (qo_il 3 1)) := rfl
theorem pt_113_117 (w : qS) : gP w 113 117 = some (.inl (qo_il 4 2)) := rfl
theorem pt_113_119 (w : qS) : gP w 113 119 = some (.inl (qo_il 2 1)) := rfl
theorem pt_113_120 (w : qS) : gP w 113 120 = some (.inr (.inl (112, 4, some 7))) := rfl
theorem pt_113_123 (w : qS) : gP w 113 123 = some (.inl (qo_al 0 1)) := rfl
theorem pt_113_124 (w : qS) : gP w 113 124 = some (.inr (.inl (80, 1, some 7))) := rfl
theorem pt_113_127 (w : qS) : gP w 113 127 = some (.inl (qo_il 4 2)) := rfl
theorem pt_113_129 (w : qS) : gP w 113 129 = some (.inr (.inr 1)) := rfl
theorem pt_114_0 (w : qS) : gP w 114 0 = some (.inl (qo_al 0 1)) := rfl
theorem pt_114_1 (w : qS) : gP w 114 1 = some (.inl (qo_il 1 1)) := rfl
theorem pt_114_2 (w : qS) : gP w 114 2 = some (.inr (.inl (84, 2, some 7))) := rfl
theorem pt_114_5 (w : qS) : gP w 114 5 = some (.inl (qo_z (fun x => ¬ x = 0) 10)) := rfl
theorem pt_114_8 (w : qS) : gP w 114 8 = some (.inl (qo_k (-1) 1)) := rfl
theorem pt_114_9 (w : qS) : gP w 114 9 = some (.inr (.inr 1)) := rfl
theorem pt_114_10 (w : qS) : gP w 114 10 = some (.inl (qo_al 0 1)) := rfl
theorem pt_114_11 (w : qS) : gP w 114 11 = some (.inr (.inl (81, 1, some 7))) := rfl
theorem pt_114_14 (w : qS) : gP w 114 14 = some (.inl (qo_al 0 1)) := rfl
theorem pt_114_15 (w : qS) : gP w 114 15 = some (.inl (qo_al 0 1)) := rfl
theorem pt_114_16 (w : qS) : gP w 114 16 = some (.inl (qo_get (gL w) 7 4)) := rfl
theorem pt_114_19 (w : qS) : gP w 114 19 = some (.inl (qo_il 1 1)) := rfl
theorem pt_114_20 (w : qS) : gP w 114 20 = some (.inl (qo_ia (gL w))) := rfl
theorem pt_114_21 (w : qS) : gP w 114 21 = some (.inr (.inl (113, 2, some 7))) := rfl
theorem pt_114_24 (w : qS) : gP w 114 24 = some (.inl (qo_is 2 1)) := rfl
theorem pt_114_25 (w : qS) : gP w 114 25 = some (.inl (qo_al 0 1)) := rfl
theorem pt_114_26 (w : qS) : gP w 114 26 = some (.inr (.inl (82, 1, some 7))) := rfl
theorem pt_114_29 (w : qS) : gP w 114 29 = some (.inl (qo_il 2 1)) := rfl
theorem pt_114_30 (w : qS) : gP w 114 30 = some (.inr (.inr 1)) := rfl
theorem pt_115_0 (w : qS) : gP w 115 0 = some (.inl (qo_k 0 1)) := rfl
theorem pt_115_1 (w : qS) : gP w 115 1 = some (.inl (qo_is 2 1)) := rfl
theorem pt_115_2 (w : qS) : gP w 115 2 = some (.inl (qo_k (iN 20) 2)) := rfl
theorem pt_115_4 (w : qS) : gP w 115 4 = some (.inl (qo_is 3 1)) := rfl
theorem pt_115_5 (w : qS) : gP w 115 5 = some (.inl (qo_k (-1) 1)) := rfl
theorem pt_115_6 (w : qS) : gP w 115 6 = some (.inl (qo_is 4 2)) := rfl
theorem pt_115_8 (w : qS) : gP w 115 8 = some (.inl (qo_k (iN 20) 2)) := rfl
theorem pt_115_10 (w : qS) : gP w 115 10 = some (.inl (qo_is 5 2)) := rfl
theorem pt_115_12 (w : qS) : gP w 115 12 = some (.inl (qo_k (-1) 1)) := rfl
theorem pt_115_13 (w : qS) : gP w 115 13 = some (.inl (qo_is 6 2)) := rfl
theorem pt_115_15 (w : qS) : gP w 115 15 = some (.inl (qo_k 0 1)) := rfl
theorem pt_115_16 (w : qS) : gP w 115 16 = some (.inl (qo_is 7 2)) := rfl
theorem pt_115_18 (w : qS) : gP w 115 18 = some (.inl (qo_il 7 2)) := rfl
theorem pt_115_20 (w : qS) : gP w 115 20 = some (.inl (qo_al 0 1)) := rfl
theorem pt_115_21 (w : qS) : gP w 115 21 = some (.inl (qo_get (gL w) 7 0)) := rfl
theorem pt_115_24 (w : qS) : gP w 115 24 = some (.inl (qo_k 0 1)) := rfl
theorem pt_115_25 (w : qS) : gP w 115 25 = some (.inl (qo_ia (gL w))) := rfl
theorem pt_115_26 (w : qS) : gP w 115 26 = some (.inl (qo_c (fun x y => y ≤ x) 144)) := rfl
theorem pt_115_29 (w : qS) : gP w 115 29 = some (.inl (qo_al 0 1)) := rfl
theorem pt_115_30 (w : qS) : gP w 115 30 = some (.inl (qo_get (gL w) 7 0)) := rfl
theorem pt_115_33 (w : qS) : gP w 115 33 = some (.inl (qo_k (iN 32) 2)) := rfl
theorem pt_115_35 (w : qS) : gP w 115 35 = some (.inl (qo_il 7 2)) := rfl
theorem pt_115_37 (w : qS) : gP w 115 37 = some (.inl (qo_b (fun x y => x + y))) := rfl
theorem pt_115_38 (w : qS) : gP w 115 38 = some (.inl (qo_ia (gL w))) := rfl
theorem pt_115_39 (w : qS) : gP w 115 39 = some (.inl (qo_is 8 2)) := rfl
theorem pt_115_41 (w : qS) : gP w 115 41 = some (.inl (qo_al 0 1)) := rfl
theorem pt_115_42 (w : qS) : gP w 115 42 = some (.inl (qo_get (gL w) 7 4)) := rfl
theorem pt_115_45 (w : qS) : gP w 115 45 = some (.inl (qo_il 7 2)) := rfl
theorem pt_115_47 (w : qS) : gP w 115 47 = some (.inl (qo_ia (gL w))) := rfl
theorem pt_115_48 (w : qS) : gP w 115 48 = some (.inl (qo_il 1 1)) := rfl
theorem pt_115_49 (w : qS) : gP w 115 49 = some (.inl (qo_c (fun x y => ¬ x = y) 138)) := rfl
theorem pt_115_52 (w : qS) : gP w 115 52 = some (.inl (qo_il 8 2)) := rfl
theorem pt_115_54 (w : qS) : gP w 115 54 = some (.inl (qo_z (fun x => x ≤ 0) 138)) := rfl
theorem pt_115_57 (w : qS) : gP w 115 57 = some (.inl (qo_il 8 2)) := rfl
theorem pt_115_59 (w : qS) : gP w 115 59 = some (.inl (qo_k (iN 12) 2)) := rfl
theorem pt_115_61 (w : qS) : gP w 115 61 = some (.inl (qo_d (fun x y => x - x / y * y))) := rfl
theorem pt_115_62 (w : qS) : gP w 115 62 = some (.inl (qo_is 9 2)) := rfl
theorem pt_115_64 (w : qS) : gP w 115 64 = some (.inl (qo_il 8 2)) := rfl
theorem pt_115_66 (w : qS) : gP w 115 66 = some (.inl (qo_k (iN 120) 2)) := rfl
theorem pt_115_68 (w : qS) : gP w 115 68 = some (.inl (qo_d (fun x y => x - x / y * y))) := rfl
theorem pt_115_69 (w : qS) : gP w 115 69 = some (.inl (qo_k (iN 12) 2)) := rfl
theorem pt_115_71 (w : qS) : gP w 115 71 = some (.inl (qo_d (fun x y => x / y))) := rfl
theorem pt_115_72 (w : qS) : gP w 115 72 = some (.inl (qo_is 10 2)) := rfl
theorem pt_115_74 (w : qS) : gP w 115 74 = some (.inl (qo_inc 2 1)) := rfl
theorem pt_115_77 (w : qS) : gP w 115 77 = some (.inl (qo_il 9 2)) := rfl
theorem pt_115_79 (w : qS) : gP w 115 79 = some (.inl (qo_il 3 1)) := rfl
theorem pt_115_80 (w : qS) : gP w 115 80 = some (.inl (qo_c (fun x y => y ≤ x) 88)) := rfl
theorem pt_115_83 (w : qS) : gP w 115 83 = some (.inl (qo_il 9 2)) := rfl
theorem pt_115_85 (w : qS) : gP w 115 85 = some (.inl (qo_g 89)) := rfl
theorem pt_115_88 (w : qS) : gP w 115 88 = some (.inl (qo_il 3 1)) := rfl
theorem pt_115_89 (w : qS) : gP w 115 89 = some (.inl (qo_is 3 1)) := rfl
theorem pt_115_90 (w : qS) : gP w 115 90 = some (.inl (qo_il 9 2)) := rfl
theorem pt_115_92 (w : qS) : gP w 115 92 = some (.inl (qo_il 4 2)) := rfl
theorem pt_115_94 (w : qS) : gP w 115 94 = some (.inl (qo_c (fun x y => x ≤ y) 102)) := rfl
theorem pt_115_97 (w : qS) : gP w 115 97 = some (.inl (qo_il 9 2)) := rfl
theorem pt_115_99 (w : qS) : gP w 115 99 = some (.inl (qo_g 104)) := rfl
theorem pt_115_102 (w : qS) : gP w 115 102 = some (.inl (qo_il 4 2)) := rfl
theorem pt_115_104 (w : qS) : gP w 115 104 = some (.inl (qo_is 4 2)) := rfl
theorem pt_115_106 (w : qS) : gP w 115 106 = some (.inl (qo_il 10 2)) := rfl
theorem pt_115_108 (w : qS) : gP w 115 108 = some (.inl (qo_il 5 2)) := rfl
theorem pt_115_110 (w : qS) : gP w 115 110 = some (.inl (qo_c (fun x y => y ≤ x) 118)) := rfl
theorem pt_115_113 (w : qS) : gP w 115 113 = some (.inl (qo_il 10 2)) := rfl
theorem pt_115_115 (w : qS) : gP w 115 115 = some (.inl (qo_g 120)) := rfl
theorem pt_115_118 (w : qS) : gP w 115 118 = some (.inl (qo_il 5 2)) := rfl
theorem pt_115_120 (w : qS) : gP w 115 120 = some (.inl (qo_is 5 2)) := rfl
theorem pt_115_122 (w : qS) : gP w 115 122 = some (.inl (qo_il 10 2)) := rfl
theorem pt_115_124 (w : qS) : gP w 115 124 = some (.inl (qo_il 6 2)) := rfl
theorem pt_115_126 (w : qS) : gP w 115 126 = some (.inl (qo_c (fun x y => x ≤ y) 134)) := rfl
theorem pt_115_129 (w : qS) : gP w 115 129 = some (.inl (qo_il 10 2)) := rfl
theorem pt_115_131 (w : qS) : gP w 115 131 = some (.inl (qo_g 136)) := rfl
theorem pt_115_134 (w : qS) : gP w 115 134 = some (.inl (qo_il 6 2)) := rfl
theorem pt_115_136 (w : qS) : gP w 115 136 = some (.inl (qo_is 6 2)) := rfl
theorem pt_115_138 (w : qS) : gP w 115 138 = some (.inl (qo_inc 7 1)) := rfl
theorem pt_115_141 (w : qS) : gP w 115 141 = some (.inl (qo_g 18)) := rfl
theorem pt_115_144 (w : qS) : gP w 115 144 = some (.inl (qo_il 2 1)) := rfl
theorem pt_115_145 (w : qS) : gP w 115 145 = some (.inl (qo_k (iN 2) 1)) := rfl
theorem pt_115_146 (w : qS) : gP w 115 146 = some (.inl (qo_c (fun x y => y ≤ x) 153)) := rfl
theorem pt_115_149 (w : qS) : gP w 115 149 = some (.inl (qo_k (-1) 1)) := rfl
theorem pt_115_150 (w : qS) : gP w 115 150 = some (.inl (qo_g 163)) := rfl
theorem pt_115_153 (w : qS) : gP w 115 153 = some (.inl (qo_il 4 2)) := rfl
theorem pt_115_155 (w : qS) : gP w 115 155 = some (.inl (qo_il 3 1)) := rfl
theorem pt_115_156 (w : qS) : gP w 115 156 = some (.inl (qo_b (fun x y => x - y))) := rfl
theorem pt_115_157 (w : qS) : gP w 115 157 = some (.inl (qo_il 6 2)) := rfl
theorem pt_115_159 (w : qS) : gP w 115 159 = some (.inl (qo_b (fun x y => x + y))) := rfl
theorem pt_115_160 (w : qS) : gP w 115 160 = some (.inl (qo_il 5 2)) := rfl
theorem pt_115_162 (w : qS) : gP w 115 162 = some (.inl (qo_b (fun x y => x - y))) := rfl
theorem pt_115_163 (w : qS) : gP w 115 163 = some (.inr (.inr 1)) := rfl
theorem pt_116_0 (w : qS) : gP w 116 0 = some (.inl (qo_al 0 1)) := rfl
theorem pt_116_1 (w : qS) : gP w 116 1 = some (.inr (.inl (81, 1, some 7))) := rfl
theorem pt_116_4 (w : qS) : gP w 116 4 = some (.inl (qo_k 0 1)) := rfl
theorem pt_116_5 (w : qS) : gP w 116 5 = some (.inl (qo_is 1 1)) := rfl
theorem pt_116_6 (w : qS) : gP w 116 6 = some (.inl (qo_k 0 1)) := rfl
theorem pt_116_7 (w : qS) : gP w 116 7 = some (.inl (qo_is 2 1)) := rfl
theorem pt_116_8 (w : qS) : gP w 116 8 = some (.inl (qo_il 2 1)) := rfl
theorem pt_116_9 (w : qS) : gP w 116 9 = some (.inl (qo_k (iN 21) 2)) := rfl
theorem pt_116_11 (w : qS) : gP w 116 11 = some (.inl (qo_c (fun x y => y ≤ x) 67)) := rfl
theorem pt_116_14 (w : qS) : gP w 116 14 = some (.inl (qo_k 0 1)) := rfl
theorem pt_116_15 (w : qS) : gP w 116 15 = some (.inl (qo_is 3 1)) := rfl
theorem pt_116_16 (w : qS) : gP w 116 16 = some (.inl (qo_il 3 1)) := rfl
theorem pt_116_17 (w : qS) : gP w 116 17 = some (.inl (qo_al 0 1)) := rfl
theorem pt_116_18 (w : qS) : gP w 116 18 = some (.inl (qo_get (gL w) 7 0)) := rfl
theorem pt_116_21 (w : qS) : gP w 116 21 = some (.inl (qo_k 0 1)) := rfl
theorem pt_116_22 (w : qS) : gP w 116 22 = some (.inl (qo_ia (gL w))) := rfl
theorem pt_116_23 (w : qS) : gP w 116 23 = some (.inl (qo_c (fun x y => y ≤ x) 61)) := rfl
theorem pt_116_26 (w : qS) : gP w 116 26 = some (.inl (qo_al 0 1)) := rfl
theorem pt_116_27 (w : qS) : gP w 116 27 = some (.inl (qo_get (gL w) 7 4)) := rfl
theorem pt_116_30 (w : qS) : gP w 116 30 = some (.inl (qo_il 3 1)) := rfl
theorem pt_116_31 (w : qS) : gP w 116 31 = some (.inl (qo_ia (gL w))) := rfl
theorem pt_116_32 (w : qS) : gP w 116 32 = some (.inl (qo_il 3 1)) := rfl
theorem pt_116_33 (w : qS) : gP w 116 33 = some (.inl (qo_c (fun x y => ¬ x = y) 55)) := rfl
theorem pt_116_36 (w : qS) : gP w 116 36 = some (.inl (qo_al 0 1)) := rfl
theorem pt_116_37 (w : qS) : gP w 116 37 = some (.inl (qo_il 3 1)) := rfl
theorem pt_116_38 (w : qS) : gP w 116 38 = some (.inr (.inl (115, 2, some 7))) := rfl
theorem pt_116_41 (w : qS) : gP w 116 41 = some (.inl (qo_il 2 1)) := rfl
theorem pt_116_42 (w : qS) : gP w 116 42 = some (.inl (qo_c (fun x y => ¬ x = y) 55)) := rfl
theorem pt_116_45 (w : qS) : gP w 116 45 = some (.inl (qo_al 0 1)) := rfl
theorem pt_116_46 (w : qS) : gP w 116 46 = some (.inl (qo_get (gL w) 7 13)) := rfl
theorem pt_116_49 (w : qS) : gP w 116 49 = some (.inl (qo_il 1 1)) := rfl
theorem pt_116_50 (w : qS) : gP w 116 50 = some (.inl (qo_il 3 1)) := rfl
theorem pt_116_51 (w : qS) : gP w 116 51 = some (.inl (qo_ias (gL w))) := rfl
theorem pt_116_52 (w : qS) : gP w 116 52 = some (.inl (qo_inc 1 1)) := rfl
theorem pt_116_55 (w : qS) : gP w 116 55 = some (.inl (qo_inc 3 1)) := rfl
theorem pt_116_58 (w : qS) : gP w 116 58 = some (.inl (qo_g 16)) := rfl
theorem pt_116_61 (w : qS) : gP w 116 61 = some (.inl (qo_inc 2 1)) := rfl
theorem pt_116_64 (w : qS) : gP w 116 64 = some (.inl (qo_g 8)) := rfl
theorem pt_116_67 (w : qS) : gP w 116 67 = some (.inl (qo_k 0 1)) := rfl
theorem pt_116_68 (w : qS) : gP w 116 68 = some (.inl (qo_is 2 1)) := rfl
theorem pt_116_69 (w : qS) : gP w 116 69 = some (.inl (qo_il 2 1)) := rfl
theorem pt_116_70 (w : qS) : gP w 116 70 = some (.inl (qo_il 1 1)) := rfl
theorem pt_116_71 (w : qS) : gP w 116 71 = some (.inl (qo_c (fun x y => y ≤ x) 108)) := rfl
theorem pt_116_74 (w : qS) : gP w 116 74 = some (.inl (qo_k 1 1)) := rfl
theorem pt_116_75 (w : qS) : gP w 116 75 = some (.inl (qo_is 3 1)) := rfl
theorem pt_116_76 (w : qS) : gP w 116 76 = some (.inl (qo_il 3 1)) := rfl
theorem pt_116_77 (w : qS) : gP w 116 77 = some (.inl (qo_z (fun x => x = 0) 102)) := rfl
theorem pt_116_80 (w : qS) : gP w 116 80 = some (.inl (qo_al 0 1)) := rfl
theorem pt_116_81 (w : qS) : gP w 116 81 = some (.inl (qo_al 0 1)) := rfl
theorem pt_116_82 (w : qS) : gP w 116 82 = some (.inl (qo_get (gL w) 7 13)) := rfl
theorem pt_116_85 (w : qS) : gP w 116 85 = some (.inl (qo_il 2 1)) := rfl
theorem pt_116_86 (w : qS) : gP w 116 86 = some (.inl (qo_ia (gL w))) := rfl
theorem pt_116_87 (w : qS) : gP w 116 87 = some (.inr (.inl (113, 2, some 7))) := rfl
theorem pt_116_90 (w : qS) : gP w 116 90 = some (.inl (qo_z (fun x => x ≤ 0) 97)) := rfl
theorem pt_116_93 (w : qS) : gP w 116 93 = some (.inl (qo_k 1 1)) := rfl
theorem pt_116_94 (w : qS) : gP w 116 94 = some (.inl (qo_g 98)) := rfl
theorem pt_116_97 (w : qS) : gP w 116 97 = some (.inl (qo_k 0 1)) := rfl
theorem pt_116_98 (w : qS) : gP w 116 98 = some (.inl (qo_is 3 1)) := rfl
theorem pt_116_99 (w : qS) : gP w 116 99 = some (.inl (qo_g 76)) := rfl
theorem pt_116_102 (w : qS) : gP w 116 102 = some (.inl (qo_inc 2 1)) := rfl
theorem pt_116_105 (w : qS) : gP w 116 105 = some (.inl (qo_g 69)) := rfl
theorem pt_116_108 (w : qS) : gP w 116 108 = some (.inl (qo_k 0 1)) := rfl
theorem pt_116_109 (w : qS) : gP w 116 109 = some (.inl (qo_is 2 1)) := rfl
theorem pt_116_110 (w : qS) : gP w 116 110 = some (.inl (qo_k 0 1)) := rfl
theorem pt_116_111 (w : qS) : gP w 116 111 = some (.inl (qo_is 3 1)) := rfl
theorem pt_116_112 (w : qS) : gP w 116 112 = some (.inl (qo_il 3 1)) := rfl
theorem pt_116_113 (w : qS) : gP w 116 113 = some (.inl (qo_il 1 1)) := rfl
theorem pt_116_114 (w : qS) : gP w 116 114 = some (.inl (qo_c (fun x y => y ≤ x) 144)) := rfl
theorem pt_116_117 (w : qS) : gP w 116 117 = some (.inl (qo_al 0 1)) := rfl
theorem pt_116_118 (w : qS) : gP w 116 118 = some (.inl (qo_al 0 1)) := rfl
theorem pt_116_119 (w : qS) : gP w 116 119 = some (.inl (qo_get (gL w) 7 13)) := rfl
theorem pt_116_122 (w : qS) : gP w 116 122 = some (.inl (qo_il 3 1)) := rfl
theorem pt_116_123 (w : qS) : gP w 116 123 = some (.inl (qo_ia (gL w))) := rfl
theorem pt_116_124 (w : qS) : gP w 116 124 = some (.inr (.inl (108, 2, some 7))) := rfl
theorem pt_116_127 (w : qS) : gP w 116 127 = some (.inl (qo_z (fun x => 0 ≤ x) 136)) := rfl
theorem pt_116_130 (w : qS) : gP w 116 130 = some (.inl (qo_il 2 1)) := rfl
theorem pt_116_131 (w : qS) : gP w 116 131 = some (.inl (qo_k 1 1)) := rfl
theorem pt_116_132 (w : qS) : gP w 116 132 = some (.inl (qo_b (fun x y => x + y))) := rfl
theorem pt_116_133 (w : qS) : gP w 116 133 = some (.inl (qo_g 137)) := rfl
theorem pt_116_136 (w : qS) : gP w 116 136 = some (.inl (qo_il 2 1)) := rfl
theorem pt_116_137 (w : qS) : gP w 116 137 = some (.inl (qo_is 2 1)) := rfl
theorem pt_116_138 (w : qS) : gP w 116 138 = some (.inl (qo_inc 3 1)) := rfl
theorem pt_116_141 (w : qS) : gP w 116 141 = some (.inl (qo_g 112)) := rfl
theorem pt_116_144 (w : qS) : gP w 116 144 = some (.inl (qo_al 0 1)) := rfl
theorem pt_116_145 (w : qS) : gP w 116 145 = some (.inr (.inl (82, 1, some 7))) := rfl
theorem pt_116_148 (w : qS) : gP w 116 148 = some (.inl (qo_il 2 1)) := rfl
theorem pt_116_149 (w : qS) : gP w 116 149 = some (.inr (.inr 1)) := rfl
theorem pt_117_0 (w : qS) : gP w 117 0 = some (.inl (qo_k 0 1)) := rfl
theorem pt_117_1 (w : qS) : gP w 117 1 = some (.inl (qo_is 3 1)) := rfl
theorem pt_117_2 (w : qS) : gP w 117 2 = some (.inl (qo_il 3 1)) := rfl
theorem pt_117_3 (w : qS) : gP w 117 3 = some (.inl (qo_k (iN 240) 3)) := rfl
theorem pt_117_6 (w : qS) : gP w 117 6 = some (.inl (qo_c (fun x y => y ≤ x) 37)) := rfl
theorem pt_117_9 (w : qS) : gP w 117 9 = some (.inl (qo_al 0 1)) := rfl
theorem pt_117_10 (w : qS) : gP w 117 10 = some (.inl (qo_get (gL w) 7 6)) := rfl
theorem pt_117_13 (w : qS) : gP w 117 13 = some (.inl (qo_il 3 1)) := rfl
theorem pt_117_14 (w : qS) : gP w 117 14 = some (.inl (qo_ia (gL w))) := rfl
theorem pt_117_15 (w : qS) : gP w 117 15 = some (.inl (qo_il 1 1)) := rfl
theorem pt_117_16 (w : qS) : gP w 117 16 = some (.inl (qo_c (fun x y => ¬ x = y) 31)) := rfl
theorem pt_117_19 (w : qS) : gP w 117 19 = some (.inl (qo_al 0 1)) := rfl
theorem pt_117_20 (w : qS) : gP w 117 20 = some (.inl (qo_il 3 1)) := rfl
theorem pt_117_21 (w : qS) : gP w 117 21 = some (.inl (qo_il 2 1)) := rfl
theorem pt_117_22 (w : qS) : gP w 117 22 = some (.inl (qo_k 1 1)) := rfl
theorem pt_117_23 (w : qS) : gP w 117 23 = some (.inr (.inl (92, 4, some 7))) := rfl
theorem pt_117_26 (w : qS) : gP w 117 26 = some (.inl (qo_z (fun x => x = 0) 31)) := rfl
theorem pt_117_29 (w : qS) : gP w 117 29 = some (.inl (qo_il 3 1)) := rfl
theorem pt_117_30 (w : qS) : gP w 117 30 = some (.inr (.inr 1)) := rfl
theorem pt_117_31 (w : qS) : gP w 117 31 = some (.inl (qo_inc 3 1)) := rfl
theorem pt_117_34 (w : qS) : gP w 117 34 = some (.inl (qo_g 2)) := rfl
theorem pt_117_37 (w : qS) : gP w 117 37 = some (.inl (qo_k (-1) 1)) := rfl
theorem pt_117_38 (w : qS) : gP w 117 38 = some (.inr (.inr 1)) := rfl
theorem pt_118_0 (w : qS) : gP w 118 0 = some (.inl (qo_il 2 1)) := rfl
theorem pt_118_1 (w : qS) : gP w 118 1 = some (.inl (qo_z (fun x => x < 0) 13)) := rfl
theorem pt_118_4 (w : qS) : gP w 118 4 = some (.inl (qo_il 2 1)) := rfl
theorem pt_118_5 (w : qS) : gP w 118 5 = some (.inl (qo_k (iN 3) 1)) := rfl
theorem pt_118_6 (w : qS) : gP w 118 6 = some (.inl (qo_c (fun x y => y < x) 13)) := rfl
theorem pt_118_9 (w : qS) : gP w 118 9 = some (.inl (qo_il 1 1)) := rfl
theorem pt_118_10 (w : qS) : gP w 118 10 = some (.inl (qo_z (fun x => 0 ≤ x) 15)) := rfl
theorem pt_118_13 (w : qS) : gP w 118 13 = some (.inl (qo_k (-1) 1)) := rfl
theorem pt_118_14 (w : qS) : gP w 118 14 = some (.inr (.inr 1)) := rfl
theorem pt_118_15 (w : qS) : gP w 118 15 = some (.inl (qo_k 0 1)) := rfl
theorem pt_118_16 (w : qS) : gP w 118 16 = some (.inl (qo_is 3 1)) := rfl
theorem pt_118_17 (w : qS) : gP w 118 17 = some (.inl (qo_k 0 1)) := rfl
theorem pt_118_18 (w : qS) : gP w 118 18 = some (.inl (qo_is 4 2)) := rfl
theorem pt_118_20 (w : qS) : gP w 118 20 = some (.inl (qo_il 4 2)) := rfl
theorem pt_118_22 (w : qS) : gP w 118 22 = some (.inl (qo_al 0 1)) := rfl
theorem pt_118_23 (w : qS) : gP w 118 23 = some (.inl (qo_get (gL w) 7 0)) := rfl
theorem pt_118_26 (w : qS) : gP w 118 26 = some (.inl (qo_k 0 1)) := rfl
theorem pt_118_27 (w : qS) : gP w 118 27 = some (.inl (qo_ia (gL w))) := rfl
theorem pt_118_28 (w : qS) : gP w 118 28 = some (.inl (qo_c (fun x y => y ≤ x) 114)) := rfl
theorem pt_118_31 (w : qS) : gP w 118 31 = some (.inl (qo_al 0 1)) := rfl
theorem pt_118_32 (w : qS) : gP w 118 32 = some (.inl (qo_get (gL w) 7 4)) := rfl
theorem pt_118_35 (w : qS) : gP w 118 35 = some (.inl (qo_il 4 2)) := rfl
theorem pt_118_37 (w : qS) : gP w 118 37 = some (.inl (qo_ia (gL w))) := rfl
theorem pt_118_38 (w : qS) : gP w 118 38 = some (.inl (qo_il 4 2)) := rfl
theorem pt_118_40 (w : qS) : gP w 118 40 = some (.inl (qo_c (fun x y => ¬ x = y) 52)) := rfl
theorem pt_118_43 (w : qS) : gP w 118 43 = some (.inl (qo_al 0 1)) := rfl
theorem pt_118_44 (w : qS) : gP w 118 44 = some (.inl (qo_il 4 2)) := rfl
theorem pt_118_46 (w : qS) : gP w 118 46 = some (.inr (.inl (108, 2, some 7))) := rfl
theorem pt_118_49 (w : qS) : gP w 118 49 = some (.inl (qo_g 53)) := rfl
theorem pt_118_52 (w : qS) : gP w 118 52 = some (.inl (qo_k (-1) 1)) := rfl
theorem pt_118_53 (w : qS) : gP w 118 53 = some (.inl (qo_is 5 2)) := rfl
theorem pt_118_55 (w : qS) : gP w 118 55 = some (.inl (qo_il 5 2)) := rfl
theorem pt_118_57 (w : qS) : gP w 118 57 = some (.inl (qo_z (fun x => x < 0) 95)) := rfl
theorem pt_118_60 (w : qS) : gP w 118 60 = some (.inl (qo_il 3 1)) := rfl
theorem pt_118_61 (w : qS) : gP w 118 61 = some (.inl (qo_il 1 1)) := rfl
theorem pt_118_62 (w : qS) : gP w 118 62 = some (.inl (qo_c (fun x y => ¬ x = y) 95)) := rfl
theorem pt_118_65 (w : qS) : gP w 118 65 = some (.inl (qo_il 2 1)) := rfl
theorem pt_118_66 (w : qS) : gP w 118 66 = some (.inl (qo_z (fun x => ¬ x = 0) 73)) := rfl
theorem pt_118_69 (w : qS) : gP w 118 69 = some (.inl (qo_k 1 1)) := rfl
theorem pt_118_70 (w : qS) : gP w 118 70 = some (.inl (qo_g 94)) := rfl
theorem pt_118_73 (w : qS) : gP w 118 73 = some (.inl (qo_il 2 1)) := rfl
theorem pt_118_74 (w : qS) : gP w 118 74 = some (.inl (qo_k 1 1)) := rfl
theorem pt_118_75 (w : qS) : gP w 118 75 = some (.inl (qo_c (fun x y => ¬ x = y) 83)) := rfl
theorem pt_118_78 (w : qS) : gP w 118 78 = some (.inl (qo_il 4 2)) := rfl
theorem pt_118_80 (w : qS) : gP w 118 80 = some (.inl (qo_g 94)) := rfl
theorem pt_118_83 (w : qS) : gP w 118 83 = some (.inl (qo_il 2 1)) := rfl
theorem pt_118_84 (w : qS) : gP w 118 84 = some (.inl (qo_k (iN 2) 1)) := rfl
theorem pt_118_85 (w : qS) : gP w 118 85 = some (.inl (qo_c (fun x y => ¬ x = y) 93)) := rfl
theorem pt_118_88 (w : qS) : gP w 118 88 = some (.inl (qo_il 5 2)) := rfl
theorem pt_118_90 (w : qS) : gP w 118 90 = some (.inl (qo_g 94)) := rfl
theorem pt_118_93 (w : qS) : gP w 118 93 = some (.inl (qo_k (-1) 1)) := rfl
theorem pt_118_94 (w : qS) : gP w 118 94 = some (.inr (.inr 1)) := rfl
theorem pt_118_95 (w : qS) : gP w 118 95 = some (.inl (qo_il 5 2)) := rfl
theorem pt_118_97 (w : qS) : gP w 118 97 = some (.inl (qo_z (fun x => x < 0) 106)) := rfl
theorem pt_118_100 (w : qS) : gP w 118 100 = some (.inl (qo_il 3 1)) := rfl
theorem pt_118_101 (w : qS) : gP w 118 101 = some (.inl (qo_k 1 1)) := rfl
theorem pt_118_102 (w : qS) : gP w 118 102 = some (.inl (qo_b (fun x y => x + y))) := rfl
theorem pt_118_103 (w : qS) : gP w 118 103 = some (.inl (qo_g 107)) := rfl
theorem pt_118_106 (w : qS) : gP w 118 106 = some (.inl (qo_il 3 1)) := rfl
theorem pt_118_107 (w : qS) : gP w 118 107 = some (.inl (qo_is 3 1)) := rfl
theorem pt_118_108 (w : qS) : gP w 118 108 = some (.inl (qo_inc 4 1)) := rfl
theorem pt_118_111 (w : qS) : gP w 118 111 = some (.inl (qo_g 20)) := rfl
theorem pt_118_114 (w : qS) : gP w 118 114 = some (.inl (qo_k 0 1)) := rfl
theorem pt_118_115 (w : qS) : gP w 118 115 = some (.inl (qo_is 4 2)) := rfl
theorem pt_118_117 (w : qS) : gP w 118 117 = some (.inl (qo_il 4 2)) := rfl
theorem pt_118_119 (w : qS) : gP w 118 119 = some (.inl (qo_al 0 1)) := rfl
theorem pt_118_120 (w : qS) : gP w 118 120 = some (.inl (qo_get (gL w) 7 0)) := rfl
theorem pt_118_123 (w : qS) : gP w 118 123 = some (.inl (qo_k 0 1)) := rfl
theorem pt_118_124 (w : qS) : gP w 118 124 = some (.inl (qo_ia (gL w))) := rfl
theorem pt_118_125 (w : qS) : gP w 118 125 = some (.inl (qo_c (fun x y => y ≤ x) 221)) := rfl
theorem pt_118_128 (w : qS) : gP w 118 128 = some (.inl (qo_il 4 2)) := rfl
theorem pt_118_130 (w : qS) : gP w 118 130 = some (.inl (qo_k 1 1)) := rfl
theorem pt_118_131 (w : qS) : gP w 118 131 = some (.inl (qo_b (fun x y => x + y))) := rfl
theorem pt_118_132 (w : qS) : gP w 118 132 = some (.inl (qo_is 5 2)) := rfl
theorem pt_118_134 (w : qS) : gP w 118 134 = some (.inl (qo_il 5 2)) := rfl
theorem pt_118_136 (w : qS) : gP w 118 136 = some (.inl (qo_al 0 1)) := rfl
theorem pt_118_137 (w : qS) : gP w 118 137 = some (.inl (qo_get (gL w) 7 0)) := rfl
theorem pt_118_140 (w : qS) : gP w 118 140 = some (.inl (qo_k 0 1)) := rfl
theorem pt_118_141 (w : qS) : gP w 118 141 = some (.inl (qo_ia (gL w))) := rfl
theorem pt_118_142 (w : qS) : gP w 118 142 = some (.inl (qo_c (fun x y => y ≤ x) 215)) := rfl
theorem pt_118_145 (w : qS) : gP w 118 145 = some (.inl (qo_al 0 1)) := rfl
theorem pt_118_146 (w : qS) : gP w 118 146 = some (.inl (qo_il 4 2)) := rfl
theorem pt_118_148 (w : qS) : gP w 118 148 = some (.inl (qo_il 5 2)) := rfl
theorem pt_118_150 (w : qS) : gP w 118 150 = some (.inr (.inl (117, 3, some 7))) := rfl
theorem pt_118_153 (w : qS) : gP w 118 153 = some (.inl (qo_is 6 2)) := rfl
theorem pt_118_155 (w : qS) : gP w 118 155 = some (.inl (qo_il 6 2)) := rfl
theorem pt_118_157 (w : qS) : gP w 118 157 = some (.inl (qo_z (fun x => x < 0) 196)) := rfl
theorem pt_118_160 (w : qS) : gP w 118 160 = some (.inl (qo_il 3 1)) := rfl
theorem pt_118_161 (w : qS) : gP w 118 161 = some (.inl (qo_il 1 1)) := rfl
theorem pt_118_162 (w : qS) : gP w 118 162 = some (.inl (qo_c (fun x y => ¬ x = y) 196)) := rfl
theorem pt_118_165 (w : qS) : gP w 118 165 = some (.inl (qo_il 2 1)) := rfl
theorem pt_118_166 (w : qS) : gP w 118 166 = some (.inl (qo_z (fun x => ¬ x = 0) 173)) := rfl
theorem pt_118_169 (w : qS) : gP w 118 169 = some (.inl (qo_k (iN 2) 1)) := rfl
theorem pt_118_170 (w : qS) : gP w 118 170 = some (.inl (qo_g 195)) := rfl
theorem pt_118_173 (w : qS) : gP w 118 173 = some (.inl (qo_il 2 1)) := rfl
theorem pt_118_174 (w : qS) : gP w 118 174 = some (.inl (qo_k 1 1)) := rfl
theorem pt_118_175 (w : qS) : gP w 118 175 = some (.inl (qo_c (fun x y => ¬ x = y) 183)) := rfl
theorem pt_118_178 (w : qS) : gP w 118 178 = some (.inl (qo_il 4 2)) := rfl
theorem pt_118_180 (w : qS) : gP w 118 180 = some (.inl (qo_g 195)) := rfl
theorem pt_118_183 (w : qS) : gP w 118 183 = some (.inl (qo_il 2 1)) := rfl
theorem pt_118_184 (w : qS) : gP w 118 184 = some (.inl (qo_k (iN 2) 1)) := rfl
theorem pt_118_185 (w : qS) : gP w 118 185 = some (.inl (qo_c (fun x y => ¬ x = y) 193)) := rfl
theorem pt_118_188 (w : qS) : gP w 118 188 = some (.inl (qo_il 5 2)) := rfl
theorem pt_118_190 (w : qS) : gP w 118 190 = some (.inl (qo_g 195)) := rfl
theorem pt_118_193 (w : qS) : gP w 118 193 = some (.inl (qo_il 6 2)) := rfl
theorem pt_118_195 (w : qS) : gP w 118 195 = some (.inr (.inr 1)) := rfl
theorem pt_118_196 (w : qS) : gP w 118 196 = some (.inl (qo_il 6 2)) := rfl
theorem pt_118_198 (w : qS) : gP w 118 198 = some (.inl (qo_z (fun x => x < 0) 207)) := rfl
theorem pt_118_201 (w : qS) : gP w 118 201 = some (.inl (qo_il 3 1)) := rfl
theorem pt_118_202 (w : qS) : gP w 118 202 = some (.inl (qo_k 1 1)) := rfl
theorem pt_118_203 (w : qS) : gP w 118 203 = some (.inl (qo_b (fun x y => x + y))) := rfl
theorem pt_118_204 (w : qS) : gP w 118 204 = some (.inl (qo_g 208)) := rfl
theorem pt_118_207 (w : qS) : gP w 118 207 = some (.inl (qo_il 3 1)) := rfl
theorem pt_118_208 (w : qS) : gP w 118 208 = some (.inl (qo_is 3 1)) := rfl
theorem pt_118_209 (w : qS) : gP w 118 209 = some (.inl (qo_inc 5 1)) := rfl
theorem pt_118_212 (w : qS) : gP w 118 212 = some (.inl (qo_g 134)) := rfl
theorem pt_118_215 (w : qS) : gP w 118 215 = some (.inl (qo_inc 4 1)) := rfl
theorem pt_118_218 (w : qS) : gP w 118 218 = some (.inl (qo_g 117)) := rfl
theorem pt_118_221 (w : qS) : gP w 118 221 = some (.inl (qo_k (-1) 1)) := rfl
theorem pt_118_222 (w : qS) : gP w 118 222 = some (.inr (.inr 1)) := rfl
theorem pt_119_0 (w : qS) : gP w 119 0 = some (.inl (qo_il 1 1)) := rfl
theorem pt_119_1 (w : qS) : gP w 119 1 = some (.inl (qo_z (fun x => x < 0) 13)) := rfl
theorem pt_119_4 (w : qS) : gP w 119 4 = some (.inl (qo_il 1 1)) := rfl
theorem pt_119_5 (w : qS) : gP w 119 5 = some (.inl (qo_k 1 1)) := rfl
theorem pt_119_6 (w : qS) : gP w 119 6 = some (.inl (qo_c (fun x y => y < x) 13)) := rfl
theorem pt_119_9 (w : qS) : gP w 119 9 = some (.inl (qo_il 2 1)) := rfl
theorem pt_119_10 (w : qS) : gP w 119 10 = some (.inl (qo_z (fun x => 0 ≤ x) 15)) := rfl
theorem pt_119_13 (w : qS) : gP w 119 13 = some (.inl (qo_k (-1) 1)) := rfl
theorem pt_119_14 (w : qS) : gP w 119 14 = some (.inr (.inr 1)) := rfl
theorem pt_119_15 (w : qS) : gP w 119 15 = some (.inl (qo_k 0 1)) := rfl
theorem pt_119_16 (w : qS) : gP w 119 16 = some (.inl (qo_is 3 1)) := rfl
theorem pt_119_17 (w : qS) : gP w 119 17 = some (.inl (qo_k (iN 120) 2)) := rfl
theorem pt_119_19 (w : qS) : gP w 119 19 = some (.inl (qo_il 1 1)) := rfl
theorem pt_119_20 (w : qS) : gP w 119 20 = some (.inl (qo_b (fun x y => x * y))) := rfl
theorem pt_119_21 (w : qS) : gP w 119 21 = some (.inl (qo_is 4 2)) := rfl
theorem pt_119_23 (w : qS) : gP w 119 23 = some (.inl (qo_il 4 2)) := rfl
theorem pt_119_25 (w : qS) : gP w 119 25 = some (.inl (qo_k (iN 120) 2)) := rfl
theorem pt_119_27 (w : qS) : gP w 119 27 = some (.inl (qo_il 1 1)) := rfl
theorem pt_119_28 (w : qS) : gP w 119 28 = some (.inl (qo_b (fun x y => x * y))) := rfl
theorem pt_119_29 (w : qS) : gP w 119 29 = some (.inl (qo_k (iN 120) 2)) := rfl
theorem pt_119_31 (w : qS) : gP w 119 31 = some (.inl (qo_b (fun x y => x + y))) := rfl
theorem pt_119_32 (w : qS) : gP w 119 32 = some (.inl (qo_c (fun x y => y ≤ x) 210)) := rfl
theorem pt_119_35 (w : qS) : gP w 119 35 = some (.inl (qo_al 0 1)) := rfl
theorem pt_119_36 (w : qS) : gP w 119 36 = some (.inl (qo_get (gL w) 7 6)) := rfl
theorem pt_119_39 (w : qS) : gP w 119 39 = some (.inl (qo_il 4 2)) := rfl
theorem pt_119_41 (w : qS) : gP w 119 41 = some (.inl (qo_ia (gL w))) := rfl
theorem pt_119_42 (w : qS) : gP w 119 42 = some (.inl (qo_z (fun x => x < 0) 76)) := rfl
theorem pt_119_45 (w : qS) : gP w 119 45 = some (.inl (qo_il 4 2)) := rfl
theorem pt_119_47 (w : qS) : gP w 119 47 = some (.inl (qo_k (iN 12) 2)) := rfl
theorem pt_119_49 (w : qS) : gP w 119 49 = some (.inl (qo_d (fun x y => x - x / y * y))) := rfl
theorem pt_119_50 (w : qS) : gP w 119 50 = some (.inl (qo_z (fun x => x = 0) 72)) := rfl
theorem pt_119_53 (w : qS) : gP w 119 53 = some (.inl (qo_al 0 1)) := rfl
theorem pt_119_54 (w : qS) : gP w 119 54 = some (.inl (qo_get (gL w) 7 6)) := rfl
theorem pt_119_57 (w : qS) : gP w 119 57 = some (.inl (qo_il 4 2)) := rfl
theorem pt_119_59 (w : qS) : gP w 119 59 = some (.inl (qo_k 1 1)) := rfl
theorem pt_119_60 (w : qS) : gP w 119 60 = some (.inl (qo_b (fun x y => x - y))) := rfl
theorem pt_119_61 (w : qS) : gP w 119 61 = some (.inl (qo_ia (gL w))) := rfl
theorem pt_119_62 (w : qS) : gP w 119 62 = some (.inl (qo_al 0 1)) := rfl
theorem pt_119_63 (w : qS) : gP w 119 63 = some (.inl (qo_get (gL w) 7 6)) := rfl
theorem pt_119_66 (w : qS) : gP w 119 66 = some (.inl (qo_il 4 2)) := rfl
theorem pt_119_68 (w : qS) : gP w 119 68 = some (.inl (qo_ia (gL w))) := rfl
theorem pt_119_69 (w : qS) : gP w 119 69 = some (.inl (qo_c (fun x y => x = y) 76)) := rfl
theorem pt_119_72 (w : qS) : gP w 119 72 = some (.inl (qo_k 1 1)) := rfl
theorem pt_119_73 (w : qS) : gP w 119 73 = some (.inl (qo_g 77)) := rfl
theorem pt_119_76 (w : qS) : gP w 119 76 = some (.inl (qo_k 0 1)) := rfl
theorem pt_119_77 (w : qS) : gP w 119 77 = some (.inl (qo_is 5 2)) := rfl
theorem pt_119_79 (w : qS) : gP w 119 79 = some (.inl (qo_il 5 2)) := rfl
theorem pt_119_81 (w : qS) : gP w 119 81 = some (.inl (qo_z (fun x => x = 0) 191)) := rfl
theorem pt_119_84 (w : qS) : gP w 119 84 = some (.inl (qo_il 2 1)) := rfl
theorem pt_119_85 (w : qS) : gP w 119 85 = some (.inl (qo_il 3 1)) := rfl
theorem pt_119_86 (w : qS) : gP w 119 86 = some (.inl (qo_k (iN 4) 1)) := rfl
theorem pt_119_87 (w : qS) : gP w 119 87 = some (.inl (qo_b (fun x y => x + y))) := rfl
theorem pt_119_88 (w : qS) : gP w 119 88 = some (.inl (qo_c (fun x y => y ≤ x) 191)) := rfl
theorem pt_119_91 (w : qS) : gP w 119 91 = some (.inl (qo_il 4 2)) := rfl
theorem pt_119_93 (w : qS) : gP w 119 93 = some (.inl (qo_is 6 2)) := rfl
theorem pt_119_95 (w : qS) : gP w 119 95 = some (.inl (qo_il 6 2)) := rfl
theorem pt_119_97 (w : qS) : gP w 119 97 = some (.inl (qo_k (iN 12) 2)) := rfl
theorem pt_119_99 (w : qS) : gP w 119 99 = some (.inl (qo_d (fun x y => x - x / y * y))) := rfl
theorem pt_119_100 (w : qS) : gP w 119 100 = some (.inl (qo_k (iN 11) 2)) := rfl
theorem pt_119_102 (w : qS) : gP w 119 102 = some (.inl (qo_c (fun x y => y ≤ x) 130)) := rfl
theorem pt_119_105 (w : qS) : gP w 119 105 = some (.inl (qo_al 0 1)) := rfl
theorem pt_119_106 (w : qS) : gP w 119 106 = some (.inl (qo_get (gL w) 7 6)) := rfl
theorem pt_119_109 (w : qS) : gP w 119 109 = some (.inl (qo_il 6 2)) := rfl
theorem pt_119_111 (w : qS) : gP w 119 111 = some (.inl (qo_k 1 1)) := rfl
theorem pt_119_112 (w : qS) : gP w 119 112 = some (.inl (qo_b (fun x y => x + y))) := rfl
theorem pt_119_113 (w : qS) : gP w 119 113 = some (.inl (qo_ia (gL w))) := rfl
theorem pt_119_114 (w : qS) : gP w 119 114 = some (.inl (qo_al 0 1)) := rfl
theorem pt_119_115 (w : qS) : gP w 119 115 = some (.inl (qo_get (gL w) 7 6)) := rfl
theorem pt_119_118 (w : qS) : gP w 119 118 = some (.inl (qo_il 4 2)) := rfl
theorem pt_119_120 (w : qS) : gP w 119 120 = some (.inl (qo_ia (gL w))) := rfl
theorem pt_119_121 (w : qS) : gP w 119 121 = some (.inl (qo_c (fun x y => ¬ x = y) 130)) := rfl
theorem pt_119_124 (w : qS) : gP w 119 124 = some (.inl (qo_inc 6 1)) := rfl
theorem pt_119_127 (w : qS) : gP w 119 127 = some (.inl (qo_g 95)) := rfl
theorem pt_119_130 (w : qS) : gP w 119 130 = some (.inl (qo_il 2 1)) := rfl
theorem pt_119_131 (w : qS) : gP w 119 131 = some (.inl (qo_il 3 1)) := rfl
theorem pt_119_132 (w : qS) : gP w 119 132 = some (.inl (qo_b (fun x y => x - y))) := rfl
theorem pt_119_133 (w : qS) : gP w 119 133 = some (.inl (qo_is 7 2)) := rfl
theorem pt_119_135 (w : qS) : gP w 119 135 = some (.inl (qo_il 7 2)) := rfl
theorem pt_119_137 (w : qS) : gP w 119 137 = some (.inl (qo_z (fun x => ¬ x = 0) 151)) := rfl
theorem pt_119_140 (w : qS) : gP w 119 140 = some (.inl (qo_il 4 2)) := rfl
theorem pt_119_142 (w : qS) : gP w 119 142 = some (.inl (qo_k (iN 120) 2)) := rfl
theorem pt_119_144 (w : qS) : gP w 119 144 = some (.inl (qo_d (fun x y => x - x / y * y))) := rfl
theorem pt_119_145 (w : qS) : gP w 119 145 = some (.inl (qo_k (iN 12) 2)) := rfl
theorem pt_119_147 (w : qS) : gP w 119 147 = some (.inl (qo_d (fun x y => x / y))) := rfl
theorem pt_119_148 (w : qS) : gP w 119 148 = some (.inl (qo_g 190)) := rfl
theorem pt_119_151 (w : qS) : gP w 119 151 = some (.inl (qo_il 7 2)) := rfl
theorem pt_119_153 (w : qS) : gP w 119 153 = some (.inl (qo_k 1 1)) := rfl
theorem pt_119_154 (w : qS) : gP w 119 154 = some (.inl (qo_c (fun x y => ¬ x = y) 165)) := rfl
theorem pt_119_157 (w : qS) : gP w 119 157 = some (.inl (qo_il 4 2)) := rfl
theorem pt_119_159 (w : qS) : gP w 119 159 = some (.inl (qo_k (iN 12) 2)) := rfl
theorem pt_119_161 (w : qS) : gP w 119 161 = some (.inl (qo_d (fun x y => x - x / y * y))) := rfl
theorem pt_119_162 (w : qS) : gP w 119 162 = some (.inl (qo_g 190)) := rfl
theorem pt_119_165 (w : qS) : gP w 119 165 = some (.inl (qo_il 7 2)) := rfl
theorem pt_119_167 (w : qS) : gP w 119 167 = some (.inl (qo_k (iN 2) 1)) := rfl
theorem pt_119_168 (w : qS) : gP w 119 168 = some (.inl (qo_c (fun x y => ¬ x = y) 181)) := rfl
theorem pt_119_171 (w : qS) : gP w 119 171 = some (.inl (qo_il 6 2)) := rfl
theorem pt_119_173 (w : qS) : gP w 119 173 = some (.inl (qo_il 4 2)) := rfl
theorem pt_119_175 (w : qS) : gP w 119 175 = some (.inl (qo_b (fun x y => x - y))) := rfl
theorem pt_119_176 (w : qS) : gP w 119 176 = some (.inl (qo_k 1 1)) := rfl
theorem pt_119_177 (w : qS) : gP w 119 177 = some (.inl (qo_b (fun x y => x + y))) := rfl
theorem pt_119_178 (w : qS) : gP w 119 178 = some (.inl (qo_g 190)) := rfl
theorem pt_119_181 (w : qS) : gP w 119 181 = some (.inl (qo_al 0 1)) := rfl
theorem pt_119_182 (w : qS) : gP w 119 182 = some (.inl (qo_get (gL w) 7 6)) := rfl
theorem pt_119_185 (w : qS) : gP w 119 185 = some (.inl (qo_il 4 2)) := rfl
theorem pt_119_187 (w : qS) : gP w 119 187 = some (.inl (qo_ia (gL w))) := rfl
theorem pt_119_188 (w : qS) : gP w 119 188 = some (.inl (qo_k 1 1)) := rfl
theorem pt_119_189 (w : qS) : gP w 119 189 = some (.inl (qo_b (fun x y => x + y))) := rfl
theorem pt_119_190 (w : qS) : gP w 119 190 = some (.inr (.inr 1)) := rfl
theorem pt_119_191 (w : qS) : gP w 119 191 = some (.inl (qo_il 5 2)) := rfl
theorem pt_119_193 (w : qS) : gP w 119 193 = some (.inl (qo_z (fun x => x = 0) 202)) := rfl
theorem pt_119_196 (w : qS) : gP w 119 196 = some (.inl (qo_il 3 1)) := rfl
theorem pt_119_197 (w : qS) : gP w 119 197 = some (.inl (qo_k (iN 4) 1)) := rfl
theorem pt_119_198 (w : qS) : gP w 119 198 = some (.inl (qo_b (fun x y => x + y))) := rfl
theorem pt_119_199 (w : qS) : gP w 119 199 = some (.inl (qo_g 203)) := rfl
theorem pt_119_202 (w : qS) : gP w 119 202 = some (.inl (qo_il 3 1)) := rfl
theorem pt_119_203 (w : qS) : gP w 119 203 = some (.inl (qo_is 3 1)) := rfl
theorem pt_119_204 (w : qS) : gP w 119 204 = some (.inl (qo_inc 4 1)) := rfl
theorem pt_119_207 (w : qS) : gP w 119 207 = some (.inl (qo_g 23)) := rfl
theorem pt_119_210 (w : qS) : gP w 119 210 = some (.inl (qo_il 2 1)) := rfl
theorem pt_119_211 (w : qS) : gP w 119 211 = some (.inl (qo_il 3 1)) := rfl
theorem pt_119_212 (w : qS) : gP w 119 212 = some (.inl (qo_c (fun x y => ¬ x = y) 221)) := rfl
theorem pt_119_215 (w : qS) : gP w 119 215 = some (.inl (qo_k (iN 255) 3)) := rfl
theorem pt_119_218 (w : qS) : gP w 119 218 = some (.inl (qo_g 222)) := rfl
theorem pt_119_221 (w : qS) : gP w 119 221 = some (.inl (qo_k (-1) 1)) := rfl
theorem pt_119_222 (w : qS) : gP w 119 222 = some (.inr (.inr 1)) := rfl
theorem pt_120_0 (w : qS) : gP w 120 0 = some (.inl (qo_il 1 1)) := rfl
theorem pt_120_1 (w : qS) : gP w 120 1 = some (.inl (qo_z (fun x => x < 0) 11)) := rfl
theorem pt_120_4 (w : qS) : gP w 120 4 = some (.inl (qo_il 1 1)) := rfl
theorem pt_120_5 (w : qS) : gP w 120 5 = some (.inl (qo_k (iN 255) 3)) := rfl
theorem pt_120_8 (w : qS) : gP w 120 8 = some (.inl (qo_c (fun x y => x ≤ y) 13)) := rfl
theorem pt_120_11 (w : qS) : gP w 120 11 = some (.inl (qo_k (-1) 1)) := rfl
theorem pt_120_12 (w : qS) : gP w 120 12 = some (.inr (.inr 1)) := rfl
theorem pt_120_13 (w : qS) : gP w 120 13 = some (.inl (qo_al 0 1)) := rfl
theorem pt_120_14 (w : qS) : gP w 120 14 = some (.inl (qo_get (gL w) 7 11)) := rfl
theorem pt_120_17 (w : qS) : gP w 120 17 = some (.inl (qo_k (iN 400) 3)) := rfl
theorem pt_120_20 (w : qS) : gP w 120 20 = some (.inl (qo_c (fun x y => ¬ x = y) 26)) := rfl
theorem pt_120_23 (w : qS) : gP w 120 23 = some (.inl (qo_k (-2) 2)) := rfl
theorem pt_120_25 (w : qS) : gP w 120 25 = some (.inr (.inr 1)) := rfl
theorem pt_120_26 (w : qS) : gP w 120 26 = some (.inl (qo_al 0 1)) := rfl
theorem pt_120_27 (w : qS) : gP w 120 27 = some (.inl (qo_get (gL w) 7 10)) := rfl
theorem pt_120_30 (w : qS) : gP w 120 30 = some (.inl (qo_al 0 1)) := rfl
theorem pt_120_31 (w : qS) : gP w 120 31 = some (.inl (qo_get (gL w) 7 11)) := rfl
theorem pt_120_34 (w : qS) : gP w 120 34 = some (.inl (qo_il 1 1)) := rfl
theorem pt_120_35 (w : qS) : gP w 120 35 = some (.inl (qo_ias (gL w))) := rfl
theorem pt_120_36 (w : qS) : gP w 120 36 = some (.inl (qo_al 0 1)) := rfl
theorem pt_120_37 (w : qS) : gP w 120 37 = some (.inl qo_dup) := rfl
theorem pt_120_38 (w : qS) : gP w 120 38 = some (.inl (qo_get (gL w) 7 11)) := rfl
theorem pt_120_41 (w : qS) : gP w 120 41 = some (.inl (qo_k 1 1)) := rfl
theorem pt_120_42 (w : qS) : gP w 120 42 = some (.inl (qo_b (fun x y => x + y))) := rfl
theorem pt_120_43 (w : qS) : gP w 120 43 = some (.inl (qo_put (gL w) 7 11)) := rfl
theorem pt_120_46 (w : qS) : gP w 120 46 = some (.inl (qo_al 0 1)) := rfl
theorem pt_120_47 (w : qS) : gP w 120 47 = some (.inl (qo_get (gL w) 7 11)) := rfl
theorem pt_120_50 (w : qS) : gP w 120 50 = some (.inr (.inr 1)) := rfl
theorem pt_121_0 (w : qS) : gP w 121 0 = some (.inl (qo_il 1 1)) := rfl
theorem pt_121_1 (w : qS) : gP w 121 1 = some (.inl (qo_z (fun x => x < 0) 9)) := rfl
theorem pt_121_4 (w : qS) : gP w 121 4 = some (.inl (qo_il 1 1)) := rfl
theorem pt_121_5 (w : qS) : gP w 121 5 = some (.inl (qo_k 1 1)) := rfl
theorem pt_121_6 (w : qS) : gP w 121 6 = some (.inl (qo_c (fun x y => x ≤ y) 11)) := rfl
theorem pt_121_9 (w : qS) : gP w 121 9 = some (.inl (qo_k (-1) 1)) := rfl
theorem pt_121_10 (w : qS) : gP w 121 10 = some (.inr (.inr 1)) := rfl
theorem pt_121_11 (w : qS) : gP w 121 11 = some (.inl (qo_k 0 1)) := rfl
theorem pt_121_12 (w : qS) : gP w 121 12 = some (.inl (qo_is 2 1)) := rfl
theorem pt_121_13 (w : qS) : gP w 121 13 = some (.inl (qo_il 2 1)) := rfl
theorem pt_121_14 (w : qS) : gP w 121 14 = some (.inl (qo_k (iN 120) 2)) := rfl
theorem pt_121_16 (w : qS) : gP w 121 16 = some (.inl (qo_c (fun x y => y ≤ x) 32)) := rfl
theorem pt_121_19 (w : qS) : gP w 121 19 = some (.inl (qo_al 0 1)) := rfl
theorem pt_121_20 (w : qS) : gP w 121 20 = some (.inl (qo_get (gL w) 7 12)) := rfl
theorem pt_121_23 (w : qS) : gP w 121 23 = some (.inl (qo_il 2 1)) := rfl
theorem pt_121_24 (w : qS) : gP w 121 24 = some (.inl (qo_k (-1) 1)) := rfl
theorem pt_121_25 (w : qS) : gP w 121 25 = some (.inl (qo_ias (gL w))) := rfl
theorem pt_121_26 (w : qS) : gP w 121 26 = some (.inl (qo_inc 2 1)) := rfl
theorem pt_121_29 (w : qS) : gP w 121 29 = some (.inl (qo_g 13)) := rfl
theorem pt_121_32 (w : qS) : gP w 121 32 = some (.inl (qo_k 0 1)) := rfl
theorem pt_121_33 (w : qS) : gP w 121 33 = some (.inl (qo_is 2 1)) := rfl
theorem pt_121_34 (w : qS) : gP w 121 34 = some (.inl (qo_il 2 1)) := rfl
theorem pt_121_35 (w : qS) : gP w 121 35 = some (.inl (qo_k (iN 3) 1)) := rfl
theorem pt_121_36 (w : qS) : gP w 121 36 = some (.inl (qo_b (fun x y => x + y))) := rfl
theorem pt_121_37 (w : qS) : gP w 121 37 = some (.inl (qo_al 0 1)) := rfl
theorem pt_121_38 (w : qS) : gP w 121 38 = some (.inl (qo_get (gL w) 7 11)) := rfl
theorem pt_121_41 (w : qS) : gP w 121 41 = some (.inl (qo_c (fun x y => y ≤ x) 141)) := rfl
theorem pt_121_44 (w : qS) : gP w 121 44 = some (.inl (qo_al 0 1)) := rfl
theorem pt_121_45 (w : qS) : gP w 121 45 = some (.inl (qo_get (gL w) 7 10)) := rfl
theorem pt_121_48 (w : qS) : gP w 121 48 = some (.inl (qo_il 2 1)) := rfl
theorem pt_121_49 (w : qS) : gP w 121 49 = some (.inl (qo_ia (gL w))) := rfl
theorem pt_121_50 (w : qS) : gP w 121 50 = some (.inl (qo_k (iN 255) 3)) := rfl
theorem pt_121_53 (w : qS) : gP w 121 53 = some (.inl (qo_c (fun x y => x = y) 141)) := rfl
theorem pt_121_56 (w : qS) : gP w 121 56 = some (.inl (qo_al 0 1)) := rfl
theorem pt_121_57 (w : qS) : gP w 121 57 = some (.inl (qo_get (gL w) 7 10)) := rfl
theorem pt_121_60 (w : qS) : gP w 121 60 = some (.inl (qo_il 2 1)) := rfl
theorem pt_121_61 (w : qS) : gP w 121 61 = some (.inl (qo_k 1 1)) := rfl
theorem pt_121_62 (w : qS) : gP w 121 62 = some (.inl (qo_b (fun x y => x + y))) := rfl
theorem pt_121_63 (w : qS) : gP w 121 63 = some (.inl (qo_ia (gL w))) := rfl
theorem pt_121_64 (w : qS) : gP w 121 64 = some (.inl (qo_is 3 1)) := rfl
theorem pt_121_65 (w : qS) : gP w 121 65 = some (.inl (qo_il 3 1)) := rfl
theorem pt_121_66 (w : qS) : gP w 121 66 = some (.inl (qo_al 0 1)) := rfl
theorem pt_121_67 (w : qS) : gP w 121 67 = some (.inl (qo_get (gL w) 7 10)) := rfl
theorem pt_121_70 (w : qS) : gP w 121 70 = some (.inl (qo_il 2 1)) := rfl
theorem pt_121_71 (w : qS) : gP w 121 71 = some (.inl (qo_k 1 1)) := rfl
theorem pt_121_72 (w : qS) : gP w 121 72 = some (.inl (qo_b (fun x y => x + y))) := rfl
theorem pt_121_73 (w : qS) : gP w 121 73 = some (.inl (qo_ia (gL w))) := rfl
theorem pt_121_74 (w : qS) : gP w 121 74 = some (.inl (qo_al 0 1)) := rfl
theorem pt_121_75 (w : qS) : gP w 121 75 = some (.inl (qo_get (gL w) 7 10)) := rfl
theorem pt_121_78 (w : qS) : gP w 121 78 = some (.inl (qo_il 2 1)) := rfl
theorem pt_121_79 (w : qS) : gP w 121 79 = some (.inl (qo_k (iN 2) 1)) := rfl
theorem pt_121_80 (w : qS) : gP w 121 80 = some (.inl (qo_b (fun x y => x + y))) := rfl
theorem pt_121_81 (w : qS) : gP w 121 81 = some (.inl (qo_ia (gL w))) := rfl
theorem pt_121_82 (w : qS) : gP w 121 82 = some (.inl (qo_b (fun x y => x + y))) := rfl
theorem pt_121_83 (w : qS) : gP w 121 83 = some (.inl (qo_c (fun x y => y ≤ x) 135)) := rfl
theorem pt_121_86 (w : qS) : gP w 121 86 = some (.inl (qo_il 3 1)) := rfl
theorem pt_121_87 (w : qS) : gP w 121 87 = some (.inl (qo_k (iN 12) 2)) := rfl
theorem pt_121_89 (w : qS) : gP w 121 89 = some (.inl (qo_c (fun x y => y ≤ x) 135)) := rfl
theorem pt_121_92 (w : qS) : gP w 121 92 = some (.inl (qo_al 0 1)) := rfl
theorem pt_121_93 (w : qS) : gP w 121 93 = some (.inl (qo_get (gL w) 7 10)) := rfl
theorem pt_121_96 (w : qS) : gP w 121 96 = some (.inl (qo_il 2 1)) := rfl
theorem pt_121_97 (w : qS) : gP w 121 97 = some (.inl (qo_ia (gL w))) := rfl
theorem pt_121_98 (w : qS) : gP w 121 98 = some (.inl (qo_k (iN 10) 2)) := rfl
theorem pt_121_100 (w : qS) : gP w 121 100 = some (.inl (qo_c (fun x y => y ≤ x) 129)) := rfl
theorem pt_121_103 (w : qS) : gP w 121 103 = some (.inl (qo_al 0 1)) := rfl
theorem pt_121_104 (w : qS) : gP w 121 104 = some (.inl (qo_get (gL w) 7 12)) := rfl
theorem pt_121_107 (w : qS) : gP w 121 107 = some (.inl (qo_k (iN 12) 2)) := rfl
theorem pt_121_109 (w : qS) : gP w 121 109 = some (.inl (qo_al 0 1)) := rfl
theorem pt_121_110 (w : qS) : gP w 121 110 = some (.inl (qo_get (gL w) 7 10)) := rfl
theorem pt_121_113 (w : qS) : gP w 121 113 = some (.inl (qo_il 2 1)) := rfl
theorem pt_121_114 (w : qS) : gP w 121 114 = some (.inl (qo_ia (gL w))) := rfl
theorem pt_121_115 (w : qS) : gP w 121 115 = some (.inl (qo_b (fun x y => x * y))) := rfl
theorem pt_121_116 (w : qS) : gP w 121 116 = some (.inl (qo_il 3 1)) := rfl
theorem pt_121_117 (w : qS) : gP w 121 117 = some (.inl (qo_b (fun x y => x + y))) := rfl
theorem pt_121_118 (w : qS) : gP w 121 118 = some (.inl (qo_al 0 1)) := rfl
theorem pt_121_119 (w : qS) : gP w 121 119 = some (.inl (qo_get (gL w) 7 10)) := rfl
theorem pt_121_122 (w : qS) : gP w 121 122 = some (.inl (qo_il 2 1)) := rfl
theorem pt_121_123 (w : qS) : gP w 121 123 = some (.inl (qo_k (iN 3) 1)) := rfl
theorem pt_121_124 (w : qS) : gP w 121 124 = some (.inl (qo_b (fun x y => x + y))) := rfl
theorem pt_121_125 (w : qS) : gP w 121 125 = some (.inl (qo_ia (gL w))) := rfl
theorem pt_121_126 (w : qS) : gP w 121 126 = some (.inl (qo_k 1 1)) := rfl
theorem pt_121_127 (w : qS) : gP w 121 127 = some (.inl (qo_b (fun x y => x - y))) := rfl
theorem pt_121_128 (w : qS) : gP w 121 128 = some (.inl (qo_ias (gL w))) := rfl
theorem pt_121_129 (w : qS) : gP w 121 129 = some (.inl (qo_inc 3 1)) := rfl
theorem pt_121_132 (w : qS) : gP w 121 132 = some (.inl (qo_g 65)) := rfl
theorem pt_121_135 (w : qS) : gP w 121 135 = some (.inl (qo_inc 2 (iN 4))) := rfl
theorem pt_121_138 (w : qS) : gP w 121 138 = some (.inl (qo_g 34)) := rfl
theorem pt_121_141 (w : qS) : gP w 121 141 = some (.inl (qo_al 0 1)) := rfl
theorem pt_121_142 (w : qS) : gP w 121 142 = some (.inl (qo_k 0 1)) := rfl
theorem pt_121_143 (w : qS) : gP w 121 143 = some (.inl (qo_put (gL w) 7 11)) := rfl
theorem pt_121_146 (w : qS) : gP w 121 146 = some (.inl (qo_k 0 1)) := rfl
theorem pt_121_147 (w : qS) : gP w 121 147 = some (.inl (qo_is 2 1)) := rfl
theorem pt_121_148 (w : qS) : gP w 121 148 = some (.inl (qo_k 0 1)) := rfl
theorem pt_121_149 (w : qS) : gP w 121 149 = some (.inl (qo_is 3 1)) := rfl
theorem pt_121_150 (w : qS) : gP w 121 150 = some (.inl (qo_il 3 1)) := rfl
theorem pt_121_151 (w : qS) : gP w 121 151 = some (.inl (qo_k (iN 120) 2)) := rfl
theorem pt_121_153 (w : qS) : gP w 121 153 = some (.inl (qo_c (fun x y => y ≤ x) 190)) := rfl
theorem pt_121_156 (w : qS) : gP w 121 156 = some (.inl (qo_al 0 1)) := rfl
theorem pt_121_157 (w : qS) : gP w 121 157 = some (.inl (qo_get (gL w) 7 12)) := rfl
theorem pt_121_160 (w : qS) : gP w 121 160 = some (.inl (qo_il 3 1)) := rfl
theorem pt_121_161 (w : qS) : gP w 121 161 = some (.inl (qo_ia (gL w))) := rfl
theorem pt_121_162 (w : qS) : gP w 121 162 = some (.inl (qo_al 0 1)) := rfl
theorem pt_121_163 (w : qS) : gP w 121 163 = some (.inl (qo_get (gL w) 7 6)) := rfl
theorem pt_121_166 (w : qS) : gP w 121 166 = some (.inl (qo_k (iN 120) 2)) := rfl
theorem pt_121_168 (w : qS) : gP w 121 168 = some (.inl (qo_il 1 1)) := rfl
theorem pt_121_169 (w : qS) : gP w 121 169 = some (.inl (qo_b (fun x y => x * y))) := rfl
theorem pt_121_170 (w : qS) : gP w 121 170 = some (.inl (qo_il 3 1)) := rfl
theorem pt_121_171 (w : qS) : gP w 121 171 = some (.inl (qo_b (fun x y => x + y))) := rfl
theorem pt_121_172 (w : qS) : gP w 121 172 = some (.inl (qo_ia (gL w))) := rfl
theorem pt_121_173 (w : qS) : gP w 121 173 = some (.inl (qo_c (fun x y => ¬ x = y) 180)) := rfl
theorem pt_121_176 (w : qS) : gP w 121 176 = some (.inl (qo_il 2 1)) := rfl
theorem pt_121_177 (w : qS) : gP w 121 177 = some (.inl (qo_g 183)) := rfl
theorem pt_121_180 (w : qS) : gP w 121 180 = some (.inl (qo_il 2 1)) := rfl
theorem pt_121_181 (w : qS) : gP w 121 181 = some (.inl (qo_k 1 1)) := rfl
theorem pt_121_182 (w : qS) : gP w 121 182 = some (.inl (qo_b (fun x y => x + y))) := rfl
theorem pt_121_183 (w : qS) : gP w 121 183 = some (.inl (qo_is 2 1)) := rfl
theorem pt_121_184 (w : qS) : gP w 121 184 = some (.inl (qo_inc 3 1)) := rfl
theorem pt_121_187 (w : qS) : gP w 121 187 = some (.inl (qo_g 150)) := rfl
theorem pt_121_190 (w : qS) : gP w 121 190 = some (.inl (qo_il 2 1)) := rfl
theorem pt_121_191 (w : qS) : gP w 121 191 = some (.inr (.inr 1)) := rfl
theorem pt_122_0 (w : qS) : gP w 122 0 = some (.inl (qo_k 0 1)) := rfl
theorem pt_122_1 (w : qS) : gP w 122 1 = some (.inl (qo_is 2 1)) := rfl
theorem pt_122_2 (w : qS) : gP w 122 2 = some (.inl (qo_al 0 1)) := rfl
theorem pt_122_3 (w : qS) : gP w 122 3 = some (.inl (qo_len (gL w))) := rfl
theorem pt_122_4 (w : qS) : gP w 122 4 = some (.inl (qo_is 3 1)) := rfl
theorem pt_122_5 (w : qS) : gP w 122 5 = some (.inl (qo_il 2 1)) := rfl
theorem pt_122_6 (w : qS) : gP w 122 6 = some (.inl (qo_il 3 1)) := rfl
theorem pt_122_7 (w : qS) : gP w 122 7 = some (.inl (qo_c (fun x y => y ≤ x) 20)) := rfl
theorem pt_122_10 (w : qS) : gP w 122 10 = some (.inl (qo_al 0 1)) := rfl
theorem pt_122_11 (w : qS) : gP w 122 11 = some (.inl (qo_il 2 1)) := rfl
theorem pt_122_12 (w : qS) : gP w 122 12 = some (.inl (qo_il 1 1)) := rfl
theorem pt_122_13 (w : qS) : gP w 122 13 = some (.inl (qo_ias (gL w))) := rfl
theorem pt_122_14 (w : qS) : gP w 122 14 = some (.inl (qo_inc 2 1)) := rfl
theorem pt_122_17 (w : qS) : gP w 122 17 = some (.inl (qo_g 5)) := rfl
theorem pt_122_20 (w : qS) : gP w 122 20 = some (.inr (.inr 0)) := rfl
