/-! Printed: a row a place. -/
theorem pt_123_16 (w : qS) : gP w 123 16 = some (.inl (qo_k 0 1)) := rfl
theorem pt_123_17 (w : qS) : gP w 123 17 = some (.inl (qo_is 3 1)) := rfl
theorem pt_123_18 (w : qS) : gP w 123 18 = some (.inl (qo_il 3 1)) := rfl
theorem pt_123_19 (w : qS) : gP w 123 19 = some (.inl (qo_al 0 1)) := rfl
theorem pt_123_20 (w : qS) : gP w 123 20 = some (.inl (qo_len (gL w))) := rfl
theorem pt_123_21 (w : qS) : gP w 123 21 = some (.inl (qo_k (iN 5) 1)) := rfl
theorem pt_123_22 (w : qS) : gP w 123 22 = some (.inl (qo_b (fun x y => x - y))) := rfl
theorem pt_123_23 (w : qS) : gP w 123 23 = some (.inl (qo_c (fun x y => y < x) 700)) := rfl
theorem pt_123_26 (w : qS) : gP w 123 26 = some (.inl (qo_al 0 1)) := rfl
theorem pt_123_27 (w : qS) : gP w 123 27 = some (.inl (qo_il 3 1)) := rfl
theorem pt_123_28 (w : qS) : gP w 123 28 = some (.inl (qo_ia (gL w))) := rfl
theorem pt_123_29 (w : qS) : gP w 123 29 = some (.inl (qo_k (iN 31) 2)) := rfl
theorem pt_123_31 (w : qS) : gP w 123 31 = some (.inl (qo_b (fun x y => x &&& y))) := rfl
theorem pt_123_32 (w : qS) : gP w 123 32 = some (.inl (qo_sw 0 [128, 151, 184, 207, 230, 263, 316, 339, 362, 411, 464, 487, 510, 533, 546, 569, 602, 635, 658, 681] 694)) := rfl
theorem pt_123_128 (w : qS) : gP w 123 128 = some (.inl (qo_al 1 1)) := rfl
theorem pt_123_129 (w : qS) : gP w 123 129 = some (.inl (qo_al 0 1)) := rfl
theorem pt_123_130 (w : qS) : gP w 123 130 = some (.inl (qo_il 3 1)) := rfl
theorem pt_123_131 (w : qS) : gP w 123 131 = some (.inl (qo_k 1 1)) := rfl
theorem pt_123_132 (w : qS) : gP w 123 132 = some (.inl (qo_b (fun x y => x + y))) := rfl
theorem pt_123_133 (w : qS) : gP w 123 133 = some (.inl (qo_ia (gL w))) := rfl
theorem pt_123_134 (w : qS) : gP w 123 134 = some (.inr (.inl (0, 2, some 0))) := rfl
theorem pt_123_137 (w : qS) : gP w 123 137 = some (.inl (qo_al 2 1)) := rfl
theorem pt_123_138 (w : qS) : gP w 123 138 = some (.inl (qo_al 0 1)) := rfl
theorem pt_123_139 (w : qS) : gP w 123 139 = some (.inl (qo_il 3 1)) := rfl
theorem pt_123_140 (w : qS) : gP w 123 140 = some (.inl (qo_k 1 1)) := rfl
theorem pt_123_141 (w : qS) : gP w 123 141 = some (.inl (qo_b (fun x y => x + y))) := rfl
theorem pt_123_142 (w : qS) : gP w 123 142 = some (.inl (qo_ia (gL w))) := rfl
theorem pt_123_143 (w : qS) : gP w 123 143 = some (.inr (.inl (86, 2, some 7))) := rfl
theorem pt_123_146 (w : qS) : gP w 123 146 = some (.inl (qo_c (fun x y => x = y) 694)) := rfl
theorem pt_123_149 (w : qS) : gP w 123 149 = some (.inl (qo_k 0 1)) := rfl
theorem pt_123_150 (w : qS) : gP w 123 150 = some (.inr (.inr 2)) := rfl
theorem pt_123_151 (w : qS) : gP w 123 151 = some (.inl (qo_al 1 1)) := rfl
theorem pt_123_152 (w : qS) : gP w 123 152 = some (.inl (qo_al 0 1)) := rfl
theorem pt_123_153 (w : qS) : gP w 123 153 = some (.inl (qo_il 3 1)) := rfl
theorem pt_123_154 (w : qS) : gP w 123 154 = some (.inl (qo_k 1 1)) := rfl
theorem pt_123_155 (w : qS) : gP w 123 155 = some (.inl (qo_b (fun x y => x + y))) := rfl
theorem pt_123_156 (w : qS) : gP w 123 156 = some (.inl (qo_ia (gL w))) := rfl
theorem pt_123_157 (w : qS) : gP w 123 157 = some (.inl (qo_al 0 1)) := rfl
theorem pt_123_158 (w : qS) : gP w 123 158 = some (.inl (qo_il 3 1)) := rfl
theorem pt_123_159 (w : qS) : gP w 123 159 = some (.inl (qo_k (iN 2) 1)) := rfl
theorem pt_123_160 (w : qS) : gP w 123 160 = some (.inl (qo_b (fun x y => x + y))) := rfl
theorem pt_123_161 (w : qS) : gP w 123 161 = some (.inl (qo_ia (gL w))) := rfl
theorem pt_123_162 (w : qS) : gP w 123 162 = some (.inr (.inl (1, 3, some 0))) := rfl
theorem pt_123_165 (w : qS) : gP w 123 165 = some (.inl (qo_al 2 1)) := rfl
theorem pt_123_166 (w : qS) : gP w 123 166 = some (.inl (qo_al 0 1)) := rfl
theorem pt_123_167 (w : qS) : gP w 123 167 = some (.inl (qo_il 3 1)) := rfl
theorem pt_123_168 (w : qS) : gP w 123 168 = some (.inl (qo_k 1 1)) := rfl
theorem pt_123_169 (w : qS) : gP w 123 169 = some (.inl (qo_b (fun x y => x + y))) := rfl
theorem pt_123_170 (w : qS) : gP w 123 170 = some (.inl (qo_ia (gL w))) := rfl
theorem pt_123_171 (w : qS) : gP w 123 171 = some (.inl (qo_al 0 1)) := rfl
theorem pt_123_172 (w : qS) : gP w 123 172 = some (.inl (qo_il 3 1)) := rfl
theorem pt_123_173 (w : qS) : gP w 123 173 = some (.inl (qo_k (iN 2) 1)) := rfl
theorem pt_123_174 (w : qS) : gP w 123 174 = some (.inl (qo_b (fun x y => x + y))) := rfl
theorem pt_123_175 (w : qS) : gP w 123 175 = some (.inl (qo_ia (gL w))) := rfl
theorem pt_123_176 (w : qS) : gP w 123 176 = some (.inr (.inl (87, 3, some 7))) := rfl
theorem pt_123_179 (w : qS) : gP w 123 179 = some (.inl (qo_c (fun x y => x = y) 694)) := rfl
theorem pt_123_182 (w : qS) : gP w 123 182 = some (.inl (qo_k 0 1)) := rfl
theorem pt_123_183 (w : qS) : gP w 123 183 = some (.inr (.inr 2)) := rfl
theorem pt_123_184 (w : qS) : gP w 123 184 = some (.inl (qo_al 1 1)) := rfl
theorem pt_123_185 (w : qS) : gP w 123 185 = some (.inl (qo_al 0 1)) := rfl
theorem pt_123_186 (w : qS) : gP w 123 186 = some (.inl (qo_il 3 1)) := rfl
theorem pt_123_187 (w : qS) : gP w 123 187 = some (.inl (qo_k 1 1)) := rfl
theorem pt_123_188 (w : qS) : gP w 123 188 = some (.inl (qo_b (fun x y => x + y))) := rfl
theorem pt_123_189 (w : qS) : gP w 123 189 = some (.inl (qo_ia (gL w))) := rfl
theorem pt_123_190 (w : qS) : gP w 123 190 = some (.inr (.inl (2, 2, some 0))) := rfl
theorem pt_123_193 (w : qS) : gP w 123 193 = some (.inl (qo_al 2 1)) := rfl
theorem pt_123_194 (w : qS) : gP w 123 194 = some (.inl (qo_al 0 1)) := rfl
theorem pt_123_195 (w : qS) : gP w 123 195 = some (.inl (qo_il 3 1)) := rfl
theorem pt_123_196 (w : qS) : gP w 123 196 = some (.inl (qo_k 1 1)) := rfl
theorem pt_123_197 (w : qS) : gP w 123 197 = some (.inl (qo_b (fun x y => x + y))) := rfl
theorem pt_123_198 (w : qS) : gP w 123 198 = some (.inl (qo_ia (gL w))) := rfl
theorem pt_123_199 (w : qS) : gP w 123 199 = some (.inr (.inl (88, 2, some 7))) := rfl
theorem pt_123_202 (w : qS) : gP w 123 202 = some (.inl (qo_c (fun x y => x = y) 694)) := rfl
theorem pt_123_205 (w : qS) : gP w 123 205 = some (.inl (qo_k 0 1)) := rfl
theorem pt_123_206 (w : qS) : gP w 123 206 = some (.inr (.inr 2)) := rfl
theorem pt_123_207 (w : qS) : gP w 123 207 = some (.inl (qo_al 1 1)) := rfl
theorem pt_123_208 (w : qS) : gP w 123 208 = some (.inl (qo_al 0 1)) := rfl
theorem pt_123_209 (w : qS) : gP w 123 209 = some (.inl (qo_il 3 1)) := rfl
theorem pt_123_210 (w : qS) : gP w 123 210 = some (.inl (qo_k 1 1)) := rfl
theorem pt_123_211 (w : qS) : gP w 123 211 = some (.inl (qo_b (fun x y => x + y))) := rfl
theorem pt_123_212 (w : qS) : gP w 123 212 = some (.inl (qo_ia (gL w))) := rfl
theorem pt_123_213 (w : qS) : gP w 123 213 = some (.inr (.inl (3, 2, some 0))) := rfl
theorem pt_123_216 (w : qS) : gP w 123 216 = some (.inl (qo_al 2 1)) := rfl
theorem pt_123_217 (w : qS) : gP w 123 217 = some (.inl (qo_al 0 1)) := rfl
theorem pt_123_218 (w : qS) : gP w 123 218 = some (.inl (qo_il 3 1)) := rfl
theorem pt_123_219 (w : qS) : gP w 123 219 = some (.inl (qo_k 1 1)) := rfl
theorem pt_123_220 (w : qS) : gP w 123 220 = some (.inl (qo_b (fun x y => x + y))) := rfl
theorem pt_123_221 (w : qS) : gP w 123 221 = some (.inl (qo_ia (gL w))) := rfl
theorem pt_123_222 (w : qS) : gP w 123 222 = some (.inr (.inl (89, 2, some 7))) := rfl
theorem pt_123_225 (w : qS) : gP w 123 225 = some (.inl (qo_c (fun x y => x = y) 694)) := rfl
theorem pt_123_228 (w : qS) : gP w 123 228 = some (.inl (qo_k 0 1)) := rfl
theorem pt_123_229 (w : qS) : gP w 123 229 = some (.inr (.inr 2)) := rfl
theorem pt_123_230 (w : qS) : gP w 123 230 = some (.inl (qo_al 1 1)) := rfl
theorem pt_123_231 (w : qS) : gP w 123 231 = some (.inl (qo_al 0 1)) := rfl
theorem pt_123_232 (w : qS) : gP w 123 232 = some (.inl (qo_il 3 1)) := rfl
theorem pt_123_233 (w : qS) : gP w 123 233 = some (.inl (qo_k 1 1)) := rfl
theorem pt_123_234 (w : qS) : gP w 123 234 = some (.inl (qo_b (fun x y => x + y))) := rfl
theorem pt_123_235 (w : qS) : gP w 123 235 = some (.inl (qo_ia (gL w))) := rfl
theorem pt_123_236 (w : qS) : gP w 123 236 = some (.inl (qo_al 0 1)) := rfl
theorem pt_123_237 (w : qS) : gP w 123 237 = some (.inl (qo_il 3 1)) := rfl
theorem pt_123_238 (w : qS) : gP w 123 238 = some (.inl (qo_k (iN 2) 1)) := rfl
theorem pt_123_239 (w : qS) : gP w 123 239 = some (.inl (qo_b (fun x y => x + y))) := rfl
theorem pt_123_240 (w : qS) : gP w 123 240 = some (.inl (qo_ia (gL w))) := rfl
theorem pt_123_241 (w : qS) : gP w 123 241 = some (.inr (.inl (4, 3, some 0))) := rfl
theorem pt_123_244 (w : qS) : gP w 123 244 = some (.inl (qo_al 2 1)) := rfl
theorem pt_123_245 (w : qS) : gP w 123 245 = some (.inl (qo_al 0 1)) := rfl
theorem pt_123_246 (w : qS) : gP w 123 246 = some (.inl (qo_il 3 1)) := rfl
theorem pt_123_247 (w : qS) : gP w 123 247 = some (.inl (qo_k 1 1)) := rfl
theorem pt_123_248 (w : qS) : gP w 123 248 = some (.inl (qo_b (fun x y => x + y))) := rfl
theorem pt_123_249 (w : qS) : gP w 123 249 = some (.inl (qo_ia (gL w))) := rfl
theorem pt_123_250 (w : qS) : gP w 123 250 = some (.inl (qo_al 0 1)) := rfl
theorem pt_123_251 (w : qS) : gP w 123 251 = some (.inl (qo_il 3 1)) := rfl
theorem pt_123_252 (w : qS) : gP w 123 252 = some (.inl (qo_k (iN 2) 1)) := rfl
theorem pt_123_253 (w : qS) : gP w 123 253 = some (.inl (qo_b (fun x y => x + y))) := rfl
theorem pt_123_254 (w : qS) : gP w 123 254 = some (.inl (qo_ia (gL w))) := rfl
theorem pt_123_255 (w : qS) : gP w 123 255 = some (.inr (.inl (91, 3, some 7))) := rfl
theorem pt_123_258 (w : qS) : gP w 123 258 = some (.inl (qo_c (fun x y => x = y) 694)) := rfl
theorem pt_123_261 (w : qS) : gP w 123 261 = some (.inl (qo_k 0 1)) := rfl
theorem pt_123_262 (w : qS) : gP w 123 262 = some (.inr (.inr 2)) := rfl
theorem pt_123_263 (w : qS) : gP w 123 263 = some (.inl (qo_al 1 1)) := rfl
theorem pt_123_264 (w : qS) : gP w 123 264 = some (.inl (qo_al 0 1)) := rfl
theorem pt_123_265 (w : qS) : gP w 123 265 = some (.inl (qo_il 3 1)) := rfl
theorem pt_123_266 (w : qS) : gP w 123 266 = some (.inl (qo_k 1 1)) := rfl
theorem pt_123_267 (w : qS) : gP w 123 267 = some (.inl (qo_b (fun x y => x + y))) := rfl
theorem pt_123_268 (w : qS) : gP w 123 268 = some (.inl (qo_ia (gL w))) := rfl
theorem pt_123_269 (w : qS) : gP w 123 269 = some (.inl (qo_al 0 1)) := rfl
theorem pt_123_270 (w : qS) : gP w 123 270 = some (.inl (qo_il 3 1)) := rfl
theorem pt_123_271 (w : qS) : gP w 123 271 = some (.inl (qo_k (iN 2) 1)) := rfl
theorem pt_123_272 (w : qS) : gP w 123 272 = some (.inl (qo_b (fun x y => x + y))) := rfl
theorem pt_123_273 (w : qS) : gP w 123 273 = some (.inl (qo_ia (gL w))) := rfl
theorem pt_123_274 (w : qS) : gP w 123 274 = some (.inl (qo_al 0 1)) := rfl
theorem pt_123_275 (w : qS) : gP w 123 275 = some (.inl (qo_il 3 1)) := rfl
theorem pt_123_276 (w : qS) : gP w 123 276 = some (.inl (qo_k (iN 3) 1)) := rfl
theorem pt_123_277 (w : qS) : gP w 123 277 = some (.inl (qo_b (fun x y => x + y))) := rfl
theorem pt_123_278 (w : qS) : gP w 123 278 = some (.inl (qo_ia (gL w))) := rfl
theorem pt_123_279 (w : qS) : gP w 123 279 = some (.inl (qo_al 0 1)) := rfl
theorem pt_123_280 (w : qS) : gP w 123 280 = some (.inl (qo_il 3 1)) := rfl
theorem pt_123_281 (w : qS) : gP w 123 281 = some (.inl (qo_k (iN 4) 1)) := rfl
theorem pt_123_282 (w : qS) : gP w 123 282 = some (.inl (qo_b (fun x y => x + y))) := rfl
theorem pt_123_283 (w : qS) : gP w 123 283 = some (.inl (qo_ia (gL w))) := rfl
theorem pt_123_284 (w : qS) : gP w 123 284 = some (.inr (.inl (5, 5, some 0))) := rfl
theorem pt_123_287 (w : qS) : gP w 123 287 = some (.inl (qo_al 2 1)) := rfl
theorem pt_123_288 (w : qS) : gP w 123 288 = some (.inl (qo_al 0 1)) := rfl
theorem pt_123_289 (w : qS) : gP w 123 289 = some (.inl (qo_il 3 1)) := rfl
theorem pt_123_290 (w : qS) : gP w 123 290 = some (.inl (qo_k 1 1)) := rfl
theorem pt_123_291 (w : qS) : gP w 123 291 = some (.inl (qo_b (fun x y => x + y))) := rfl
theorem pt_123_292 (w : qS) : gP w 123 292 = some (.inl (qo_ia (gL w))) := rfl
theorem pt_123_293 (w : qS) : gP w 123 293 = some (.inl (qo_al 0 1)) := rfl
theorem pt_123_294 (w : qS) : gP w 123 294 = some (.inl (qo_il 3 1)) := rfl
theorem pt_123_295 (w : qS) : gP w 123 295 = some (.inl (qo_k (iN 2) 1)) := rfl
theorem pt_123_296 (w : qS) : gP w 123 296 = some (.inl (qo_b (fun x y => x + y))) := rfl
theorem pt_123_297 (w : qS) : gP w 123 297 = some (.inl (qo_ia (gL w))) := rfl
theorem pt_123_298 (w : qS) : gP w 123 298 = some (.inl (qo_al 0 1)) := rfl
theorem pt_123_299 (w : qS) : gP w 123 299 = some (.inl (qo_il 3 1)) := rfl
theorem pt_123_300 (w : qS) : gP w 123 300 = some (.inl (qo_k (iN 3) 1)) := rfl
theorem pt_123_301 (w : qS) : gP w 123 301 = some (.inl (qo_b (fun x y => x + y))) := rfl
theorem pt_123_302 (w : qS) : gP w 123 302 = some (.inl (qo_ia (gL w))) := rfl
theorem pt_123_303 (w : qS) : gP w 123 303 = some (.inl (qo_al 0 1)) := rfl
theorem pt_123_304 (w : qS) : gP w 123 304 = some (.inl (qo_il 3 1)) := rfl
theorem pt_123_305 (w : qS) : gP w 123 305 = some (.inl (qo_k (iN 4) 1)) := rfl
theorem pt_123_306 (w : qS) : gP w 123 306 = some (.inl (qo_b (fun x y => x + y))) := rfl
theorem pt_123_307 (w : qS) : gP w 123 307 = some (.inl (qo_ia (gL w))) := rfl
theorem pt_123_308 (w : qS) : gP w 123 308 = some (.inr (.inl (94, 5, some 7))) := rfl
theorem pt_123_311 (w : qS) : gP w 123 311 = some (.inl (qo_c (fun x y => x = y) 694)) := rfl
theorem pt_123_314 (w : qS) : gP w 123 314 = some (.inl (qo_k 0 1)) := rfl
theorem pt_123_315 (w : qS) : gP w 123 315 = some (.inr (.inr 2)) := rfl
theorem pt_123_316 (w : qS) : gP w 123 316 = some (.inl (qo_al 1 1)) := rfl
theorem pt_123_317 (w : qS) : gP w 123 317 = some (.inl (qo_al 0 1)) := rfl
theorem pt_123_318 (w : qS) : gP w 123 318 = some (.inl (qo_il 3 1)) := rfl
theorem pt_123_319 (w : qS) : gP w 123 319 = some (.inl (qo_k 1 1)) := rfl
theorem pt_123_320 (w : qS) : gP w 123 320 = some (.inl (qo_b (fun x y => x + y))) := rfl
theorem pt_123_321 (w : qS) : gP w 123 321 = some (.inl (qo_ia (gL w))) := rfl
theorem pt_123_322 (w : qS) : gP w 123 322 = some (.inr (.inl (6, 2, some 0))) := rfl
theorem pt_123_325 (w : qS) : gP w 123 325 = some (.inl (qo_al 2 1)) := rfl
theorem pt_123_326 (w : qS) : gP w 123 326 = some (.inl (qo_al 0 1)) := rfl
theorem pt_123_327 (w : qS) : gP w 123 327 = some (.inl (qo_il 3 1)) := rfl
theorem pt_123_328 (w : qS) : gP w 123 328 = some (.inl (qo_k 1 1)) := rfl
theorem pt_123_329 (w : qS) : gP w 123 329 = some (.inl (qo_b (fun x y => x + y))) := rfl
theorem pt_123_330 (w : qS) : gP w 123 330 = some (.inl (qo_ia (gL w))) := rfl
theorem pt_123_331 (w : qS) : gP w 123 331 = some (.inr (.inl (95, 2, some 7))) := rfl
theorem pt_123_334 (w : qS) : gP w 123 334 = some (.inl (qo_c (fun x y => x = y) 694)) := rfl
theorem pt_123_337 (w : qS) : gP w 123 337 = some (.inl (qo_k 0 1)) := rfl
theorem pt_123_338 (w : qS) : gP w 123 338 = some (.inr (.inr 2)) := rfl
theorem pt_123_339 (w : qS) : gP w 123 339 = some (.inl (qo_al 1 1)) := rfl
theorem pt_123_340 (w : qS) : gP w 123 340 = some (.inl (qo_al 0 1)) := rfl
theorem pt_123_341 (w : qS) : gP w 123 341 = some (.inl (qo_il 3 1)) := rfl
theorem pt_123_342 (w : qS) : gP w 123 342 = some (.inl (qo_k 1 1)) := rfl
theorem pt_123_343 (w : qS) : gP w 123 343 = some (.inl (qo_b (fun x y => x + y))) := rfl
theorem pt_123_344 (w : qS) : gP w 123 344 = some (.inl (qo_ia (gL w))) := rfl
theorem pt_123_345 (w : qS) : gP w 123 345 = some (.inr (.inl (7, 2, some 0))) := rfl
theorem pt_123_348 (w : qS) : gP w 123 348 = some (.inl (qo_al 2 1)) := rfl
theorem pt_123_349 (w : qS) : gP w 123 349 = some (.inl (qo_al 0 1)) := rfl
theorem pt_123_350 (w : qS) : gP w 123 350 = some (.inl (qo_il 3 1)) := rfl
theorem pt_123_351 (w : qS) : gP w 123 351 = some (.inl (qo_k 1 1)) := rfl
theorem pt_123_352 (w : qS) : gP w 123 352 = some (.inl (qo_b (fun x y => x + y))) := rfl
theorem pt_123_353 (w : qS) : gP w 123 353 = some (.inl (qo_ia (gL w))) := rfl
theorem pt_123_354 (w : qS) : gP w 123 354 = some (.inr (.inl (96, 2, some 7))) := rfl
theorem pt_123_357 (w : qS) : gP w 123 357 = some (.inl (qo_c (fun x y => x = y) 694)) := rfl
theorem pt_123_360 (w : qS) : gP w 123 360 = some (.inl (qo_k 0 1)) := rfl
theorem pt_123_361 (w : qS) : gP w 123 361 = some (.inr (.inr 2)) := rfl
theorem pt_123_362 (w : qS) : gP w 123 362 = some (.inl (qo_al 1 1)) := rfl
theorem pt_123_363 (w : qS) : gP w 123 363 = some (.inl (qo_al 0 1)) := rfl
theorem pt_123_364 (w : qS) : gP w 123 364 = some (.inl (qo_il 3 1)) := rfl
theorem pt_123_365 (w : qS) : gP w 123 365 = some (.inl (qo_k 1 1)) := rfl
theorem pt_123_366 (w : qS) : gP w 123 366 = some (.inl (qo_b (fun x y => x + y))) := rfl
theorem pt_123_367 (w : qS) : gP w 123 367 = some (.inl (qo_ia (gL w))) := rfl
theorem pt_123_368 (w : qS) : gP w 123 368 = some (.inl (qo_al 0 1)) := rfl
theorem pt_123_369 (w : qS) : gP w 123 369 = some (.inl (qo_il 3 1)) := rfl
theorem pt_123_370 (w : qS) : gP w 123 370 = some (.inl (qo_k (iN 2) 1)) := rfl
theorem pt_123_371 (w : qS) : gP w 123 371 = some (.inl (qo_b (fun x y => x + y))) := rfl
theorem pt_123_372 (w : qS) : gP w 123 372 = some (.inl (qo_ia (gL w))) := rfl
theorem pt_123_373 (w : qS) : gP w 123 373 = some (.inl (qo_z (fun x => x = 0) 380)) := rfl
theorem pt_123_376 (w : qS) : gP w 123 376 = some (.inl (qo_k 1 1)) := rfl
theorem pt_123_377 (w : qS) : gP w 123 377 = some (.inl (qo_g 381)) := rfl
theorem pt_123_380 (w : qS) : gP w 123 380 = some (.inl (qo_k 0 1)) := rfl
theorem pt_123_381 (w : qS) : gP w 123 381 = some (.inr (.inl (8, 3, some 0))) := rfl
theorem pt_123_384 (w : qS) : gP w 123 384 = some (.inl (qo_al 2 1)) := rfl
theorem pt_123_385 (w : qS) : gP w 123 385 = some (.inl (qo_al 0 1)) := rfl
theorem pt_123_386 (w : qS) : gP w 123 386 = some (.inl (qo_il 3 1)) := rfl
theorem pt_123_387 (w : qS) : gP w 123 387 = some (.inl (qo_k 1 1)) := rfl
theorem pt_123_388 (w : qS) : gP w 123 388 = some (.inl (qo_b (fun x y => x + y))) := rfl
theorem pt_123_389 (w : qS) : gP w 123 389 = some (.inl (qo_ia (gL w))) := rfl
theorem pt_123_390 (w : qS) : gP w 123 390 = some (.inl (qo_al 0 1)) := rfl
theorem pt_123_391 (w : qS) : gP w 123 391 = some (.inl (qo_il 3 1)) := rfl
theorem pt_123_392 (w : qS) : gP w 123 392 = some (.inl (qo_k (iN 2) 1)) := rfl
theorem pt_123_393 (w : qS) : gP w 123 393 = some (.inl (qo_b (fun x y => x + y))) := rfl
theorem pt_123_394 (w : qS) : gP w 123 394 = some (.inl (qo_ia (gL w))) := rfl
theorem pt_123_395 (w : qS) : gP w 123 395 = some (.inl (qo_z (fun x => x = 0) 402)) := rfl
theorem pt_123_398 (w : qS) : gP w 123 398 = some (.inl (qo_k 1 1)) := rfl
theorem pt_123_399 (w : qS) : gP w 123 399 = some (.inl (qo_g 403)) := rfl
theorem pt_123_402 (w : qS) : gP w 123 402 = some (.inl (qo_k 0 1)) := rfl
theorem pt_123_403 (w : qS) : gP w 123 403 = some (.inr (.inl (97, 3, some 7))) := rfl
theorem pt_123_406 (w : qS) : gP w 123 406 = some (.inl (qo_c (fun x y => x = y) 694)) := rfl
theorem pt_123_409 (w : qS) : gP w 123 409 = some (.inl (qo_k 0 1)) := rfl
theorem pt_123_410 (w : qS) : gP w 123 410 = some (.inr (.inr 2)) := rfl
theorem pt_123_411 (w : qS) : gP w 123 411 = some (.inl (qo_al 1 1)) := rfl
theorem pt_123_412 (w : qS) : gP w 123 412 = some (.inl (qo_al 0 1)) := rfl
theorem pt_123_413 (w : qS) : gP w 123 413 = some (.inl (qo_il 3 1)) := rfl
theorem pt_123_414 (w : qS) : gP w 123 414 = some (.inl (qo_k 1 1)) := rfl
theorem pt_123_415 (w : qS) : gP w 123 415 = some (.inl (qo_b (fun x y => x + y))) := rfl
theorem pt_123_416 (w : qS) : gP w 123 416 = some (.inl (qo_ia (gL w))) := rfl
theorem pt_123_417 (w : qS) : gP w 123 417 = some (.inl (qo_al 0 1)) := rfl
theorem pt_123_418 (w : qS) : gP w 123 418 = some (.inl (qo_il 3 1)) := rfl
theorem pt_123_419 (w : qS) : gP w 123 419 = some (.inl (qo_k (iN 2) 1)) := rfl
theorem pt_123_420 (w : qS) : gP w 123 420 = some (.inl (qo_b (fun x y => x + y))) := rfl
theorem pt_123_421 (w : qS) : gP w 123 421 = some (.inl (qo_ia (gL w))) := rfl
theorem pt_123_422 (w : qS) : gP w 123 422 = some (.inl (qo_al 0 1)) := rfl
theorem pt_123_423 (w : qS) : gP w 123 423 = some (.inl (qo_il 3 1)) := rfl
theorem pt_123_424 (w : qS) : gP w 123 424 = some (.inl (qo_k (iN 3) 1)) := rfl
theorem pt_123_425 (w : qS) : gP w 123 425 = some (.inl (qo_b (fun x y => x + y))) := rfl
theorem pt_123_426 (w : qS) : gP w 123 426 = some (.inl (qo_ia (gL w))) := rfl
theorem pt_123_427 (w : qS) : gP w 123 427 = some (.inl (qo_al 0 1)) := rfl
theorem pt_123_428 (w : qS) : gP w 123 428 = some (.inl (qo_il 3 1)) := rfl
theorem pt_123_429 (w : qS) : gP w 123 429 = some (.inl (qo_k (iN 4) 1)) := rfl
theorem pt_123_430 (w : qS) : gP w 123 430 = some (.inl (qo_b (fun x y => x + y))) := rfl
theorem pt_123_431 (w : qS) : gP w 123 431 = some (.inl (qo_ia (gL w))) := rfl
theorem pt_123_432 (w : qS) : gP w 123 432 = some (.inr (.inl (9, 5, some 0))) := rfl
theorem pt_123_435 (w : qS) : gP w 123 435 = some (.inl (qo_al 2 1)) := rfl
theorem pt_123_436 (w : qS) : gP w 123 436 = some (.inl (qo_al 0 1)) := rfl
theorem pt_123_437 (w : qS) : gP w 123 437 = some (.inl (qo_il 3 1)) := rfl
theorem pt_123_438 (w : qS) : gP w 123 438 = some (.inl (qo_k 1 1)) := rfl
theorem pt_123_439 (w : qS) : gP w 123 439 = some (.inl (qo_b (fun x y => x + y))) := rfl
theorem pt_123_440 (w : qS) : gP w 123 440 = some (.inl (qo_ia (gL w))) := rfl
theorem pt_123_441 (w : qS) : gP w 123 441 = some (.inl (qo_al 0 1)) := rfl
theorem pt_123_442 (w : qS) : gP w 123 442 = some (.inl (qo_il 3 1)) := rfl
theorem pt_123_443 (w : qS) : gP w 123 443 = some (.inl (qo_k (iN 2) 1)) := rfl
theorem pt_123_444 (w : qS) : gP w 123 444 = some (.inl (qo_b (fun x y => x + y))) := rfl
theorem pt_123_445 (w : qS) : gP w 123 445 = some (.inl (qo_ia (gL w))) := rfl
theorem pt_123_446 (w : qS) : gP w 123 446 = some (.inl (qo_al 0 1)) := rfl
theorem pt_123_447 (w : qS) : gP w 123 447 = some (.inl (qo_il 3 1)) := rfl
theorem pt_123_448 (w : qS) : gP w 123 448 = some (.inl (qo_k (iN 3) 1)) := rfl
theorem pt_123_449 (w : qS) : gP w 123 449 = some (.inl (qo_b (fun x y => x + y))) := rfl
theorem pt_123_450 (w : qS) : gP w 123 450 = some (.inl (qo_ia (gL w))) := rfl
theorem pt_123_451 (w : qS) : gP w 123 451 = some (.inl (qo_al 0 1)) := rfl
theorem pt_123_452 (w : qS) : gP w 123 452 = some (.inl (qo_il 3 1)) := rfl
theorem pt_123_453 (w : qS) : gP w 123 453 = some (.inl (qo_k (iN 4) 1)) := rfl
theorem pt_123_454 (w : qS) : gP w 123 454 = some (.inl (qo_b (fun x y => x + y))) := rfl
theorem pt_123_455 (w : qS) : gP w 123 455 = some (.inl (qo_ia (gL w))) := rfl
theorem pt_123_456 (w : qS) : gP w 123 456 = some (.inr (.inl (101, 5, some 7))) := rfl
theorem pt_123_459 (w : qS) : gP w 123 459 = some (.inl (qo_c (fun x y => x = y) 694)) := rfl
theorem pt_123_462 (w : qS) : gP w 123 462 = some (.inl (qo_k 0 1)) := rfl
theorem pt_123_463 (w : qS) : gP w 123 463 = some (.inr (.inr 2)) := rfl
theorem pt_123_464 (w : qS) : gP w 123 464 = some (.inl (qo_al 1 1)) := rfl
theorem pt_123_465 (w : qS) : gP w 123 465 = some (.inl (qo_al 0 1)) := rfl
theorem pt_123_466 (w : qS) : gP w 123 466 = some (.inl (qo_il 3 1)) := rfl
theorem pt_123_467 (w : qS) : gP w 123 467 = some (.inl (qo_k 1 1)) := rfl
theorem pt_123_468 (w : qS) : gP w 123 468 = some (.inl (qo_b (fun x y => x + y))) := rfl
theorem pt_123_469 (w : qS) : gP w 123 469 = some (.inl (qo_ia (gL w))) := rfl
theorem pt_123_470 (w : qS) : gP w 123 470 = some (.inr (.inl (10, 2, some 0))) := rfl
theorem pt_123_473 (w : qS) : gP w 123 473 = some (.inl (qo_al 2 1)) := rfl
theorem pt_123_474 (w : qS) : gP w 123 474 = some (.inl (qo_al 0 1)) := rfl
theorem pt_123_475 (w : qS) : gP w 123 475 = some (.inl (qo_il 3 1)) := rfl
theorem pt_123_476 (w : qS) : gP w 123 476 = some (.inl (qo_k 1 1)) := rfl
theorem pt_123_477 (w : qS) : gP w 123 477 = some (.inl (qo_b (fun x y => x + y))) := rfl
theorem pt_123_478 (w : qS) : gP w 123 478 = some (.inl (qo_ia (gL w))) := rfl
theorem pt_123_479 (w : qS) : gP w 123 479 = some (.inr (.inl (102, 2, some 7))) := rfl
theorem pt_123_482 (w : qS) : gP w 123 482 = some (.inl (qo_c (fun x y => x = y) 694)) := rfl
theorem pt_123_485 (w : qS) : gP w 123 485 = some (.inl (qo_k 0 1)) := rfl
theorem pt_123_486 (w : qS) : gP w 123 486 = some (.inr (.inr 2)) := rfl
theorem pt_123_487 (w : qS) : gP w 123 487 = some (.inl (qo_al 1 1)) := rfl
theorem pt_123_488 (w : qS) : gP w 123 488 = some (.inl (qo_al 0 1)) := rfl
theorem pt_123_489 (w : qS) : gP w 123 489 = some (.inl (qo_il 3 1)) := rfl
theorem pt_123_490 (w : qS) : gP w 123 490 = some (.inl (qo_k 1 1)) := rfl
theorem pt_123_491 (w : qS) : gP w 123 491 = some (.inl (qo_b (fun x y => x + y))) := rfl
theorem pt_123_492 (w : qS) : gP w 123 492 = some (.inl (qo_ia (gL w))) := rfl
theorem pt_123_493 (w : qS) : gP w 123 493 = some (.inr (.inl (11, 2, some 0))) := rfl
theorem pt_123_496 (w : qS) : gP w 123 496 = some (.inl (qo_al 2 1)) := rfl
theorem pt_123_497 (w : qS) : gP w 123 497 = some (.inl (qo_al 0 1)) := rfl
theorem pt_123_498 (w : qS) : gP w 123 498 = some (.inl (qo_il 3 1)) := rfl
theorem pt_123_499 (w : qS) : gP w 123 499 = some (.inl (qo_k 1 1)) := rfl
theorem pt_123_500 (w : qS) : gP w 123 500 = some (.inl (qo_b (fun x y => x + y))) := rfl
theorem pt_123_501 (w : qS) : gP w 123 501 = some (.inl (qo_ia (gL w))) := rfl
theorem pt_123_502 (w : qS) : gP w 123 502 = some (.inr (.inl (114, 2, some 7))) := rfl
theorem pt_123_505 (w : qS) : gP w 123 505 = some (.inl (qo_c (fun x y => x = y) 694)) := rfl
theorem pt_123_508 (w : qS) : gP w 123 508 = some (.inl (qo_k 0 1)) := rfl
theorem pt_123_509 (w : qS) : gP w 123 509 = some (.inr (.inr 2)) := rfl
theorem pt_123_510 (w : qS) : gP w 123 510 = some (.inl (qo_al 1 1)) := rfl
theorem pt_123_511 (w : qS) : gP w 123 511 = some (.inl (qo_al 0 1)) := rfl
theorem pt_123_512 (w : qS) : gP w 123 512 = some (.inl (qo_il 3 1)) := rfl
theorem pt_123_513 (w : qS) : gP w 123 513 = some (.inl (qo_k 1 1)) := rfl
theorem pt_123_514 (w : qS) : gP w 123 514 = some (.inl (qo_b (fun x y => x + y))) := rfl
theorem pt_123_515 (w : qS) : gP w 123 515 = some (.inl (qo_ia (gL w))) := rfl
theorem pt_123_516 (w : qS) : gP w 123 516 = some (.inr (.inl (12, 2, some 0))) := rfl
theorem pt_123_519 (w : qS) : gP w 123 519 = some (.inl (qo_al 2 1)) := rfl
theorem pt_123_520 (w : qS) : gP w 123 520 = some (.inl (qo_al 0 1)) := rfl
theorem pt_123_521 (w : qS) : gP w 123 521 = some (.inl (qo_il 3 1)) := rfl
theorem pt_123_522 (w : qS) : gP w 123 522 = some (.inl (qo_k 1 1)) := rfl
theorem pt_123_523 (w : qS) : gP w 123 523 = some (.inl (qo_b (fun x y => x + y))) := rfl
theorem pt_123_524 (w : qS) : gP w 123 524 = some (.inl (qo_ia (gL w))) := rfl
theorem pt_123_525 (w : qS) : gP w 123 525 = some (.inr (.inl (104, 2, some 7))) := rfl
theorem pt_123_528 (w : qS) : gP w 123 528 = some (.inl (qo_c (fun x y => x = y) 694)) := rfl
theorem pt_123_531 (w : qS) : gP w 123 531 = some (.inl (qo_k 0 1)) := rfl
theorem pt_123_532 (w : qS) : gP w 123 532 = some (.inr (.inr 2)) := rfl
theorem pt_123_533 (w : qS) : gP w 123 533 = some (.inl (qo_al 1 1)) := rfl
theorem pt_123_534 (w : qS) : gP w 123 534 = some (.inr (.inl (13, 1, some 0))) := rfl
theorem pt_123_537 (w : qS) : gP w 123 537 = some (.inl (qo_al 2 1)) := rfl
theorem pt_123_538 (w : qS) : gP w 123 538 = some (.inr (.inl (116, 1, some 7))) := rfl
theorem pt_123_541 (w : qS) : gP w 123 541 = some (.inl (qo_c (fun x y => x = y) 694)) := rfl
theorem pt_123_544 (w : qS) : gP w 123 544 = some (.inl (qo_k 0 1)) := rfl
theorem pt_123_545 (w : qS) : gP w 123 545 = some (.inr (.inr 2)) := rfl
theorem pt_123_546 (w : qS) : gP w 123 546 = some (.inl (qo_al 1 1)) := rfl
theorem pt_123_547 (w : qS) : gP w 123 547 = some (.inl (qo_al 0 1)) := rfl
theorem pt_123_548 (w : qS) : gP w 123 548 = some (.inl (qo_il 3 1)) := rfl
theorem pt_123_549 (w : qS) : gP w 123 549 = some (.inl (qo_k 1 1)) := rfl
theorem pt_123_550 (w : qS) : gP w 123 550 = some (.inl (qo_b (fun x y => x + y))) := rfl
theorem pt_123_551 (w : qS) : gP w 123 551 = some (.inl (qo_ia (gL w))) := rfl
theorem pt_123_552 (w : qS) : gP w 123 552 = some (.inr (.inl (14, 2, some 0))) := rfl
theorem pt_123_555 (w : qS) : gP w 123 555 = some (.inl (qo_al 2 1)) := rfl
theorem pt_123_556 (w : qS) : gP w 123 556 = some (.inl (qo_al 0 1)) := rfl
theorem pt_123_557 (w : qS) : gP w 123 557 = some (.inl (qo_il 3 1)) := rfl
theorem pt_123_558 (w : qS) : gP w 123 558 = some (.inl (qo_k 1 1)) := rfl
theorem pt_123_559 (w : qS) : gP w 123 559 = some (.inl (qo_b (fun x y => x + y))) := rfl
theorem pt_123_560 (w : qS) : gP w 123 560 = some (.inl (qo_ia (gL w))) := rfl
theorem pt_123_561 (w : qS) : gP w 123 561 = some (.inr (.inl (103, 2, some 7))) := rfl
theorem pt_123_564 (w : qS) : gP w 123 564 = some (.inl (qo_c (fun x y => x = y) 694)) := rfl
theorem pt_123_567 (w : qS) : gP w 123 567 = some (.inl (qo_k 0 1)) := rfl
theorem pt_123_568 (w : qS) : gP w 123 568 = some (.inr (.inr 2)) := rfl
theorem pt_123_569 (w : qS) : gP w 123 569 = some (.inl (qo_al 1 1)) := rfl
theorem pt_123_570 (w : qS) : gP w 123 570 = some (.inl (qo_al 0 1)) := rfl
theorem pt_123_571 (w : qS) : gP w 123 571 = some (.inl (qo_il 3 1)) := rfl
theorem pt_123_572 (w : qS) : gP w 123 572 = some (.inl (qo_k 1 1)) := rfl
theorem pt_123_573 (w : qS) : gP w 123 573 = some (.inl (qo_b (fun x y => x + y))) := rfl
theorem pt_123_574 (w : qS) : gP w 123 574 = some (.inl (qo_ia (gL w))) := rfl
theorem pt_123_575 (w : qS) : gP w 123 575 = some (.inl (qo_al 0 1)) := rfl
theorem pt_123_576 (w : qS) : gP w 123 576 = some (.inl (qo_il 3 1)) := rfl
theorem pt_123_577 (w : qS) : gP w 123 577 = some (.inl (qo_k (iN 2) 1)) := rfl
theorem pt_123_578 (w : qS) : gP w 123 578 = some (.inl (qo_b (fun x y => x + y))) := rfl
theorem pt_123_579 (w : qS) : gP w 123 579 = some (.inl (qo_ia (gL w))) := rfl
theorem pt_123_580 (w : qS) : gP w 123 580 = some (.inr (.inl (15, 3, some 0))) := rfl
theorem pt_123_583 (w : qS) : gP w 123 583 = some (.inl (qo_al 2 1)) := rfl
theorem pt_123_584 (w : qS) : gP w 123 584 = some (.inl (qo_al 0 1)) := rfl
theorem pt_123_585 (w : qS) : gP w 123 585 = some (.inl (qo_il 3 1)) := rfl
theorem pt_123_586 (w : qS) : gP w 123 586 = some (.inl (qo_k 1 1)) := rfl
theorem pt_123_587 (w : qS) : gP w 123 587 = some (.inl (qo_b (fun x y => x + y))) := rfl
theorem pt_123_588 (w : qS) : gP w 123 588 = some (.inl (qo_ia (gL w))) := rfl
theorem pt_123_589 (w : qS) : gP w 123 589 = some (.inl (qo_al 0 1)) := rfl
theorem pt_123_590 (w : qS) : gP w 123 590 = some (.inl (qo_il 3 1)) := rfl
theorem pt_123_591 (w : qS) : gP w 123 591 = some (.inl (qo_k (iN 2) 1)) := rfl
theorem pt_123_592 (w : qS) : gP w 123 592 = some (.inl (qo_b (fun x y => x + y))) := rfl
theorem pt_123_593 (w : qS) : gP w 123 593 = some (.inl (qo_ia (gL w))) := rfl
theorem pt_123_594 (w : qS) : gP w 123 594 = some (.inr (.inl (118, 3, some 7))) := rfl
theorem pt_123_597 (w : qS) : gP w 123 597 = some (.inl (qo_c (fun x y => x = y) 694)) := rfl
theorem pt_123_600 (w : qS) : gP w 123 600 = some (.inl (qo_k 0 1)) := rfl
theorem pt_123_601 (w : qS) : gP w 123 601 = some (.inr (.inr 2)) := rfl
theorem pt_123_602 (w : qS) : gP w 123 602 = some (.inl (qo_al 1 1)) := rfl
theorem pt_123_603 (w : qS) : gP w 123 603 = some (.inl (qo_al 0 1)) := rfl
theorem pt_123_604 (w : qS) : gP w 123 604 = some (.inl (qo_il 3 1)) := rfl
theorem pt_123_605 (w : qS) : gP w 123 605 = some (.inl (qo_k 1 1)) := rfl
theorem pt_123_606 (w : qS) : gP w 123 606 = some (.inl (qo_b (fun x y => x + y))) := rfl
theorem pt_123_607 (w : qS) : gP w 123 607 = some (.inl (qo_ia (gL w))) := rfl
theorem pt_123_608 (w : qS) : gP w 123 608 = some (.inl (qo_al 0 1)) := rfl
theorem pt_123_609 (w : qS) : gP w 123 609 = some (.inl (qo_il 3 1)) := rfl
theorem pt_123_610 (w : qS) : gP w 123 610 = some (.inl (qo_k (iN 2) 1)) := rfl
theorem pt_123_611 (w : qS) : gP w 123 611 = some (.inl (qo_b (fun x y => x + y))) := rfl
theorem pt_123_612 (w : qS) : gP w 123 612 = some (.inl (qo_ia (gL w))) := rfl
theorem pt_123_613 (w : qS) : gP w 123 613 = some (.inr (.inl (16, 3, some 0))) := rfl
theorem pt_123_616 (w : qS) : gP w 123 616 = some (.inl (qo_al 2 1)) := rfl
theorem pt_123_617 (w : qS) : gP w 123 617 = some (.inl (qo_al 0 1)) := rfl
theorem pt_123_618 (w : qS) : gP w 123 618 = some (.inl (qo_il 3 1)) := rfl
theorem pt_123_619 (w : qS) : gP w 123 619 = some (.inl (qo_k 1 1)) := rfl
theorem pt_123_620 (w : qS) : gP w 123 620 = some (.inl (qo_b (fun x y => x + y))) := rfl
theorem pt_123_621 (w : qS) : gP w 123 621 = some (.inl (qo_ia (gL w))) := rfl
theorem pt_123_622 (w : qS) : gP w 123 622 = some (.inl (qo_al 0 1)) := rfl
theorem pt_123_623 (w : qS) : gP w 123 623 = some (.inl (qo_il 3 1)) := rfl
theorem pt_123_624 (w : qS) : gP w 123 624 = some (.inl (qo_k (iN 2) 1)) := rfl
theorem pt_123_625 (w : qS) : gP w 123 625 = some (.inl (qo_b (fun x y => x + y))) := rfl
theorem pt_123_626 (w : qS) : gP w 123 626 = some (.inl (qo_ia (gL w))) := rfl
theorem pt_123_627 (w : qS) : gP w 123 627 = some (.inr (.inl (119, 3, some 7))) := rfl
theorem pt_123_630 (w : qS) : gP w 123 630 = some (.inl (qo_c (fun x y => x = y) 694)) := rfl
theorem pt_123_633 (w : qS) : gP w 123 633 = some (.inl (qo_k 0 1)) := rfl
theorem pt_123_634 (w : qS) : gP w 123 634 = some (.inr (.inr 2)) := rfl
theorem pt_123_635 (w : qS) : gP w 123 635 = some (.inl (qo_al 1 1)) := rfl
theorem pt_123_636 (w : qS) : gP w 123 636 = some (.inl (qo_al 0 1)) := rfl
theorem pt_123_637 (w : qS) : gP w 123 637 = some (.inl (qo_il 3 1)) := rfl
theorem pt_123_638 (w : qS) : gP w 123 638 = some (.inl (qo_k 1 1)) := rfl
theorem pt_123_639 (w : qS) : gP w 123 639 = some (.inl (qo_b (fun x y => x + y))) := rfl
theorem pt_123_640 (w : qS) : gP w 123 640 = some (.inl (qo_ia (gL w))) := rfl
theorem pt_123_641 (w : qS) : gP w 123 641 = some (.inr (.inl (17, 2, some 0))) := rfl
theorem pt_123_644 (w : qS) : gP w 123 644 = some (.inl (qo_al 2 1)) := rfl
theorem pt_123_645 (w : qS) : gP w 123 645 = some (.inl (qo_al 0 1)) := rfl
theorem pt_123_646 (w : qS) : gP w 123 646 = some (.inl (qo_il 3 1)) := rfl
theorem pt_123_647 (w : qS) : gP w 123 647 = some (.inl (qo_k 1 1)) := rfl
theorem pt_123_648 (w : qS) : gP w 123 648 = some (.inl (qo_b (fun x y => x + y))) := rfl
theorem pt_123_649 (w : qS) : gP w 123 649 = some (.inl (qo_ia (gL w))) := rfl
theorem pt_123_650 (w : qS) : gP w 123 650 = some (.inr (.inl (120, 2, some 7))) := rfl
theorem pt_123_653 (w : qS) : gP w 123 653 = some (.inl (qo_c (fun x y => x = y) 694)) := rfl
theorem pt_123_656 (w : qS) : gP w 123 656 = some (.inl (qo_k 0 1)) := rfl
theorem pt_123_657 (w : qS) : gP w 123 657 = some (.inr (.inr 2)) := rfl
theorem pt_123_658 (w : qS) : gP w 123 658 = some (.inl (qo_al 1 1)) := rfl
theorem pt_123_659 (w : qS) : gP w 123 659 = some (.inl (qo_al 0 1)) := rfl
theorem pt_123_660 (w : qS) : gP w 123 660 = some (.inl (qo_il 3 1)) := rfl
theorem pt_123_661 (w : qS) : gP w 123 661 = some (.inl (qo_k 1 1)) := rfl
theorem pt_123_662 (w : qS) : gP w 123 662 = some (.inl (qo_b (fun x y => x + y))) := rfl
theorem pt_123_663 (w : qS) : gP w 123 663 = some (.inl (qo_ia (gL w))) := rfl
theorem pt_123_664 (w : qS) : gP w 123 664 = some (.inr (.inl (18, 2, some 0))) := rfl
theorem pt_123_667 (w : qS) : gP w 123 667 = some (.inl (qo_al 2 1)) := rfl
theorem pt_123_668 (w : qS) : gP w 123 668 = some (.inl (qo_al 0 1)) := rfl
theorem pt_123_669 (w : qS) : gP w 123 669 = some (.inl (qo_il 3 1)) := rfl
theorem pt_123_670 (w : qS) : gP w 123 670 = some (.inl (qo_k 1 1)) := rfl
theorem pt_123_671 (w : qS) : gP w 123 671 = some (.inl (qo_b (fun x y => x + y))) := rfl
theorem pt_123_672 (w : qS) : gP w 123 672 = some (.inl (qo_ia (gL w))) := rfl
theorem pt_123_673 (w : qS) : gP w 123 673 = some (.inr (.inl (121, 2, some 7))) := rfl
theorem pt_123_676 (w : qS) : gP w 123 676 = some (.inl (qo_c (fun x y => x = y) 694)) := rfl
theorem pt_123_679 (w : qS) : gP w 123 679 = some (.inl (qo_k 0 1)) := rfl
theorem pt_123_680 (w : qS) : gP w 123 680 = some (.inr (.inr 2)) := rfl
theorem pt_123_681 (w : qS) : gP w 123 681 = some (.inl (qo_al 1 1)) := rfl
theorem pt_123_682 (w : qS) : gP w 123 682 = some (.inr (.inl (19, 1, some 0))) := rfl
theorem pt_123_685 (w : qS) : gP w 123 685 = some (.inl (qo_al 2 1)) := rfl
theorem pt_123_686 (w : qS) : gP w 123 686 = some (.inr (.inl (83, 1, some 7))) := rfl
theorem pt_123_689 (w : qS) : gP w 123 689 = some (.inl (qo_c (fun x y => x = y) 694)) := rfl
theorem pt_123_692 (w : qS) : gP w 123 692 = some (.inl (qo_k 0 1)) := rfl
theorem pt_123_693 (w : qS) : gP w 123 693 = some (.inr (.inr 2)) := rfl
theorem pt_123_694 (w : qS) : gP w 123 694 = some (.inl (qo_inc 3 (iN 5))) := rfl
theorem pt_123_697 (w : qS) : gP w 123 697 = some (.inl (qo_g 18)) := rfl
theorem pt_123_700 (w : qS) : gP w 123 700 = some (.inl (qo_k 1 1)) := rfl
theorem pt_123_701 (w : qS) : gP w 123 701 = some (.inr (.inr 2)) := rfl
