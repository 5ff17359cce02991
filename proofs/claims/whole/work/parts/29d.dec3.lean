/-! Printed: decode rows. -/
theorem dc_123_16 : decode code 16 = .ok (.iconst 0, 1) := by decide +kernel
theorem dc_123_17 : decode code 17 = .ok (.istore_n 3, 1) := by decide +kernel
theorem dc_123_18 : decode code 18 = .ok (.iload_n 3, 1) := by decide +kernel
theorem dc_123_19 : decode code 19 = .ok (.aload_n 0, 1) := by decide +kernel
theorem dc_123_20 : decode code 20 = .ok (.arraylength, 1) := by decide +kernel
theorem dc_123_21 : decode code 21 = .ok (.iconst 5, 1) := by decide +kernel
theorem dc_123_22 : decode code 22 = .ok (.isub, 1) := by decide +kernel
theorem dc_123_23 : decode code 23 = .ok (.if_icmp .gt 677, 3) := by decide +kernel
theorem dc_123_26 : decode code 26 = .ok (.aload_n 0, 1) := by decide +kernel
theorem dc_123_27 : decode code 27 = .ok (.iload_n 3, 1) := by decide +kernel
theorem dc_123_28 : decode code 28 = .ok (.iaload, 1) := by decide +kernel
theorem dc_123_29 : decode code 29 = .ok (.bipush 31, 2) := by decide +kernel
theorem dc_123_31 : decode code 31 = .ok (.iand, 1) := by decide +kernel
theorem dc_123_32 : decode code 32 = .ok (.tableswitch 662 0 19 #[96, 119, 152, 175, 198, 231, 284, 307, 330, 379, 432, 455, 478, 501, 514, 537, 570, 603, 626, 649], 96) := by decide +kernel
theorem dc_123_128 : decode code 128 = .ok (.aload_n 1, 1) := by decide +kernel
theorem dc_123_129 : decode code 129 = .ok (.aload_n 0, 1) := by decide +kernel
theorem dc_123_130 : decode code 130 = .ok (.iload_n 3, 1) := by decide +kernel
theorem dc_123_131 : decode code 131 = .ok (.iconst 1, 1) := by decide +kernel
theorem dc_123_132 : decode code 132 = .ok (.iadd, 1) := by decide +kernel
theorem dc_123_133 : decode code 133 = .ok (.iaload, 1) := by decide +kernel
theorem dc_123_134 : decode code 134 = .ok (.invokevirtual 13, 3) := by decide +kernel
theorem dc_123_137 : decode code 137 = .ok (.aload_n 2, 1) := by decide +kernel
theorem dc_123_138 : decode code 138 = .ok (.aload_n 0, 1) := by decide +kernel
theorem dc_123_139 : decode code 139 = .ok (.iload_n 3, 1) := by decide +kernel
theorem dc_123_140 : decode code 140 = .ok (.iconst 1, 1) := by decide +kernel
theorem dc_123_141 : decode code 141 = .ok (.iadd, 1) := by decide +kernel
theorem dc_123_142 : decode code 142 = .ok (.iaload, 1) := by decide +kernel
theorem dc_123_143 : decode code 143 = .ok (.invokevirtual 17, 3) := by decide +kernel
theorem dc_123_146 : decode code 146 = .ok (.if_icmp .eq 548, 3) := by decide +kernel
theorem dc_123_149 : decode code 149 = .ok (.iconst 0, 1) := by decide +kernel
theorem dc_123_150 : decode code 150 = .ok (.ireturn, 1) := by decide +kernel
theorem dc_123_151 : decode code 151 = .ok (.aload_n 1, 1) := by decide +kernel
theorem dc_123_152 : decode code 152 = .ok (.aload_n 0, 1) := by decide +kernel
theorem dc_123_153 : decode code 153 = .ok (.iload_n 3, 1) := by decide +kernel
theorem dc_123_154 : decode code 154 = .ok (.iconst 1, 1) := by decide +kernel
theorem dc_123_155 : decode code 155 = .ok (.iadd, 1) := by decide +kernel
theorem dc_123_156 : decode code 156 = .ok (.iaload, 1) := by decide +kernel
theorem dc_123_157 : decode code 157 = .ok (.aload_n 0, 1) := by decide +kernel
theorem dc_123_158 : decode code 158 = .ok (.iload_n 3, 1) := by decide +kernel
theorem dc_123_159 : decode code 159 = .ok (.iconst 2, 1) := by decide +kernel
theorem dc_123_160 : decode code 160 = .ok (.iadd, 1) := by decide +kernel
theorem dc_123_161 : decode code 161 = .ok (.iaload, 1) := by decide +kernel
theorem dc_123_162 : decode code 162 = .ok (.invokevirtual 18, 3) := by decide +kernel
theorem dc_123_165 : decode code 165 = .ok (.aload_n 2, 1) := by decide +kernel
theorem dc_123_166 : decode code 166 = .ok (.aload_n 0, 1) := by decide +kernel
theorem dc_123_167 : decode code 167 = .ok (.iload_n 3, 1) := by decide +kernel
theorem dc_123_168 : decode code 168 = .ok (.iconst 1, 1) := by decide +kernel
theorem dc_123_169 : decode code 169 = .ok (.iadd, 1) := by decide +kernel
theorem dc_123_170 : decode code 170 = .ok (.iaload, 1) := by decide +kernel
theorem dc_123_171 : decode code 171 = .ok (.aload_n 0, 1) := by decide +kernel
theorem dc_123_172 : decode code 172 = .ok (.iload_n 3, 1) := by decide +kernel
theorem dc_123_173 : decode code 173 = .ok (.iconst 2, 1) := by decide +kernel
theorem dc_123_174 : decode code 174 = .ok (.iadd, 1) := by decide +kernel
theorem dc_123_175 : decode code 175 = .ok (.iaload, 1) := by decide +kernel
theorem dc_123_176 : decode code 176 = .ok (.invokevirtual 22, 3) := by decide +kernel
theorem dc_123_179 : decode code 179 = .ok (.if_icmp .eq 515, 3) := by decide +kernel
theorem dc_123_182 : decode code 182 = .ok (.iconst 0, 1) := by decide +kernel
theorem dc_123_183 : decode code 183 = .ok (.ireturn, 1) := by decide +kernel
theorem dc_123_184 : decode code 184 = .ok (.aload_n 1, 1) := by decide +kernel
theorem dc_123_185 : decode code 185 = .ok (.aload_n 0, 1) := by decide +kernel
theorem dc_123_186 : decode code 186 = .ok (.iload_n 3, 1) := by decide +kernel
theorem dc_123_187 : decode code 187 = .ok (.iconst 1, 1) := by decide +kernel
theorem dc_123_188 : decode code 188 = .ok (.iadd, 1) := by decide +kernel
theorem dc_123_189 : decode code 189 = .ok (.iaload, 1) := by decide +kernel
theorem dc_123_190 : decode code 190 = .ok (.invokevirtual 23, 3) := by decide +kernel
theorem dc_123_193 : decode code 193 = .ok (.aload_n 2, 1) := by decide +kernel
theorem dc_123_194 : decode code 194 = .ok (.aload_n 0, 1) := by decide +kernel
theorem dc_123_195 : decode code 195 = .ok (.iload_n 3, 1) := by decide +kernel
theorem dc_123_196 : decode code 196 = .ok (.iconst 1, 1) := by decide +kernel
theorem dc_123_197 : decode code 197 = .ok (.iadd, 1) := by decide +kernel
theorem dc_123_198 : decode code 198 = .ok (.iaload, 1) := by decide +kernel
theorem dc_123_199 : decode code 199 = .ok (.invokevirtual 26, 3) := by decide +kernel
theorem dc_123_202 : decode code 202 = .ok (.if_icmp .eq 492, 3) := by decide +kernel
theorem dc_123_205 : decode code 205 = .ok (.iconst 0, 1) := by decide +kernel
theorem dc_123_206 : decode code 206 = .ok (.ireturn, 1) := by decide +kernel
theorem dc_123_207 : decode code 207 = .ok (.aload_n 1, 1) := by decide +kernel
theorem dc_123_208 : decode code 208 = .ok (.aload_n 0, 1) := by decide +kernel
theorem dc_123_209 : decode code 209 = .ok (.iload_n 3, 1) := by decide +kernel
theorem dc_123_210 : decode code 210 = .ok (.iconst 1, 1) := by decide +kernel
theorem dc_123_211 : decode code 211 = .ok (.iadd, 1) := by decide +kernel
theorem dc_123_212 : decode code 212 = .ok (.iaload, 1) := by decide +kernel
theorem dc_123_213 : decode code 213 = .ok (.invokevirtual 27, 3) := by decide +kernel
theorem dc_123_216 : decode code 216 = .ok (.aload_n 2, 1) := by decide +kernel
theorem dc_123_217 : decode code 217 = .ok (.aload_n 0, 1) := by decide +kernel
theorem dc_123_218 : decode code 218 = .ok (.iload_n 3, 1) := by decide +kernel
theorem dc_123_219 : decode code 219 = .ok (.iconst 1, 1) := by decide +kernel
theorem dc_123_220 : decode code 220 = .ok (.iadd, 1) := by decide +kernel
theorem dc_123_221 : decode code 221 = .ok (.iaload, 1) := by decide +kernel
theorem dc_123_222 : decode code 222 = .ok (.invokevirtual 30, 3) := by decide +kernel
theorem dc_123_225 : decode code 225 = .ok (.if_icmp .eq 469, 3) := by decide +kernel
theorem dc_123_228 : decode code 228 = .ok (.iconst 0, 1) := by decide +kernel
theorem dc_123_229 : decode code 229 = .ok (.ireturn, 1) := by decide +kernel
theorem dc_123_230 : decode code 230 = .ok (.aload_n 1, 1) := by decide +kernel
theorem dc_123_231 : decode code 231 = .ok (.aload_n 0, 1) := by decide +kernel
theorem dc_123_232 : decode code 232 = .ok (.iload_n 3, 1) := by decide +kernel
theorem dc_123_233 : decode code 233 = .ok (.iconst 1, 1) := by decide +kernel
theorem dc_123_234 : decode code 234 = .ok (.iadd, 1) := by decide +kernel
theorem dc_123_235 : decode code 235 = .ok (.iaload, 1) := by decide +kernel
theorem dc_123_236 : decode code 236 = .ok (.aload_n 0, 1) := by decide +kernel
theorem dc_123_237 : decode code 237 = .ok (.iload_n 3, 1) := by decide +kernel
theorem dc_123_238 : decode code 238 = .ok (.iconst 2, 1) := by decide +kernel
theorem dc_123_239 : decode code 239 = .ok (.iadd, 1) := by decide +kernel
theorem dc_123_240 : decode code 240 = .ok (.iaload, 1) := by decide +kernel
theorem dc_123_241 : decode code 241 = .ok (.invokevirtual 31, 3) := by decide +kernel
theorem dc_123_244 : decode code 244 = .ok (.aload_n 2, 1) := by decide +kernel
theorem dc_123_245 : decode code 245 = .ok (.aload_n 0, 1) := by decide +kernel
theorem dc_123_246 : decode code 246 = .ok (.iload_n 3, 1) := by decide +kernel
theorem dc_123_247 : decode code 247 = .ok (.iconst 1, 1) := by decide +kernel
theorem dc_123_248 : decode code 248 = .ok (.iadd, 1) := by decide +kernel
theorem dc_123_249 : decode code 249 = .ok (.iaload, 1) := by decide +kernel
theorem dc_123_250 : decode code 250 = .ok (.aload_n 0, 1) := by decide +kernel
theorem dc_123_251 : decode code 251 = .ok (.iload_n 3, 1) := by decide +kernel
theorem dc_123_252 : decode code 252 = .ok (.iconst 2, 1) := by decide +kernel
theorem dc_123_253 : decode code 253 = .ok (.iadd, 1) := by decide +kernel
theorem dc_123_254 : decode code 254 = .ok (.iaload, 1) := by decide +kernel
theorem dc_123_255 : decode code 255 = .ok (.invokevirtual 34, 3) := by decide +kernel
theorem dc_123_258 : decode code 258 = .ok (.if_icmp .eq 436, 3) := by decide +kernel
theorem dc_123_261 : decode code 261 = .ok (.iconst 0, 1) := by decide +kernel
theorem dc_123_262 : decode code 262 = .ok (.ireturn, 1) := by decide +kernel
theorem dc_123_263 : decode code 263 = .ok (.aload_n 1, 1) := by decide +kernel
theorem dc_123_264 : decode code 264 = .ok (.aload_n 0, 1) := by decide +kernel
theorem dc_123_265 : decode code 265 = .ok (.iload_n 3, 1) := by decide +kernel
theorem dc_123_266 : decode code 266 = .ok (.iconst 1, 1) := by decide +kernel
theorem dc_123_267 : decode code 267 = .ok (.iadd, 1) := by decide +kernel
theorem dc_123_268 : decode code 268 = .ok (.iaload, 1) := by decide +kernel
theorem dc_123_269 : decode code 269 = .ok (.aload_n 0, 1) := by decide +kernel
theorem dc_123_270 : decode code 270 = .ok (.iload_n 3, 1) := by decide +kernel
theorem dc_123_271 : decode code 271 = .ok (.iconst 2, 1) := by decide +kernel
theorem dc_123_272 : decode code 272 = .ok (.iadd, 1) := by decide +kernel
theorem dc_123_273 : decode code 273 = .ok (.iaload, 1) := by decide +kernel
theorem dc_123_274 : decode code 274 = .ok (.aload_n 0, 1) := by decide +kernel
theorem dc_123_275 : decode code 275 = .ok (.iload_n 3, 1) := by decide +kernel
theorem dc_123_276 : decode code 276 = .ok (.iconst 3, 1) := by decide +kernel
theorem dc_123_277 : decode code 277 = .ok (.iadd, 1) := by decide +kernel
theorem dc_123_278 : decode code 278 = .ok (.iaload, 1) := by decide +kernel
theorem dc_123_279 : decode code 279 = .ok (.aload_n 0, 1) := by decide +kernel
theorem dc_123_280 : decode code 280 = .ok (.iload_n 3, 1) := by decide +kernel
theorem dc_123_281 : decode code 281 = .ok (.iconst 4, 1) := by decide +kernel
theorem dc_123_282 : decode code 282 = .ok (.iadd, 1) := by decide +kernel
theorem dc_123_283 : decode code 283 = .ok (.iaload, 1) := by decide +kernel
theorem dc_123_284 : decode code 284 = .ok (.invokevirtual 35, 3) := by decide +kernel
theorem dc_123_287 : decode code 287 = .ok (.aload_n 2, 1) := by decide +kernel
theorem dc_123_288 : decode code 288 = .ok (.aload_n 0, 1) := by decide +kernel
theorem dc_123_289 : decode code 289 = .ok (.iload_n 3, 1) := by decide +kernel
theorem dc_123_290 : decode code 290 = .ok (.iconst 1, 1) := by decide +kernel
theorem dc_123_291 : decode code 291 = .ok (.iadd, 1) := by decide +kernel
theorem dc_123_292 : decode code 292 = .ok (.iaload, 1) := by decide +kernel
theorem dc_123_293 : decode code 293 = .ok (.aload_n 0, 1) := by decide +kernel
theorem dc_123_294 : decode code 294 = .ok (.iload_n 3, 1) := by decide +kernel
theorem dc_123_295 : decode code 295 = .ok (.iconst 2, 1) := by decide +kernel
theorem dc_123_296 : decode code 296 = .ok (.iadd, 1) := by decide +kernel
theorem dc_123_297 : decode code 297 = .ok (.iaload, 1) := by decide +kernel
theorem dc_123_298 : decode code 298 = .ok (.aload_n 0, 1) := by decide +kernel
theorem dc_123_299 : decode code 299 = .ok (.iload_n 3, 1) := by decide +kernel
theorem dc_123_300 : decode code 300 = .ok (.iconst 3, 1) := by decide +kernel
theorem dc_123_301 : decode code 301 = .ok (.iadd, 1) := by decide +kernel
theorem dc_123_302 : decode code 302 = .ok (.iaload, 1) := by decide +kernel
theorem dc_123_303 : decode code 303 = .ok (.aload_n 0, 1) := by decide +kernel
theorem dc_123_304 : decode code 304 = .ok (.iload_n 3, 1) := by decide +kernel
theorem dc_123_305 : decode code 305 = .ok (.iconst 4, 1) := by decide +kernel
theorem dc_123_306 : decode code 306 = .ok (.iadd, 1) := by decide +kernel
theorem dc_123_307 : decode code 307 = .ok (.iaload, 1) := by decide +kernel
theorem dc_123_308 : decode code 308 = .ok (.invokevirtual 39, 3) := by decide +kernel
theorem dc_123_311 : decode code 311 = .ok (.if_icmp .eq 383, 3) := by decide +kernel
theorem dc_123_314 : decode code 314 = .ok (.iconst 0, 1) := by decide +kernel
theorem dc_123_315 : decode code 315 = .ok (.ireturn, 1) := by decide +kernel
theorem dc_123_316 : decode code 316 = .ok (.aload_n 1, 1) := by decide +kernel
theorem dc_123_317 : decode code 317 = .ok (.aload_n 0, 1) := by decide +kernel
theorem dc_123_318 : decode code 318 = .ok (.iload_n 3, 1) := by decide +kernel
theorem dc_123_319 : decode code 319 = .ok (.iconst 1, 1) := by decide +kernel
theorem dc_123_320 : decode code 320 = .ok (.iadd, 1) := by decide +kernel
theorem dc_123_321 : decode code 321 = .ok (.iaload, 1) := by decide +kernel
theorem dc_123_322 : decode code 322 = .ok (.invokevirtual 40, 3) := by decide +kernel
theorem dc_123_325 : decode code 325 = .ok (.aload_n 2, 1) := by decide +kernel
theorem dc_123_326 : decode code 326 = .ok (.aload_n 0, 1) := by decide +kernel
theorem dc_123_327 : decode code 327 = .ok (.iload_n 3, 1) := by decide +kernel
theorem dc_123_328 : decode code 328 = .ok (.iconst 1, 1) := by decide +kernel
theorem dc_123_329 : decode code 329 = .ok (.iadd, 1) := by decide +kernel
theorem dc_123_330 : decode code 330 = .ok (.iaload, 1) := by decide +kernel
theorem dc_123_331 : decode code 331 = .ok (.invokevirtual 44, 3) := by decide +kernel
theorem dc_123_334 : decode code 334 = .ok (.if_icmp .eq 360, 3) := by decide +kernel
theorem dc_123_337 : decode code 337 = .ok (.iconst 0, 1) := by decide +kernel
theorem dc_123_338 : decode code 338 = .ok (.ireturn, 1) := by decide +kernel
theorem dc_123_339 : decode code 339 = .ok (.aload_n 1, 1) := by decide +kernel
theorem dc_123_340 : decode code 340 = .ok (.aload_n 0, 1) := by decide +kernel
theorem dc_123_341 : decode code 341 = .ok (.iload_n 3, 1) := by decide +kernel
theorem dc_123_342 : decode code 342 = .ok (.iconst 1, 1) := by decide +kernel
theorem dc_123_343 : decode code 343 = .ok (.iadd, 1) := by decide +kernel
theorem dc_123_344 : decode code 344 = .ok (.iaload, 1) := by decide +kernel
theorem dc_123_345 : decode code 345 = .ok (.invokevirtual 45, 3) := by decide +kernel
theorem dc_123_348 : decode code 348 = .ok (.aload_n 2, 1) := by decide +kernel
theorem dc_123_349 : decode code 349 = .ok (.aload_n 0, 1) := by decide +kernel
theorem dc_123_350 : decode code 350 = .ok (.iload_n 3, 1) := by decide +kernel
theorem dc_123_351 : decode code 351 = .ok (.iconst 1, 1) := by decide +kernel
theorem dc_123_352 : decode code 352 = .ok (.iadd, 1) := by decide +kernel
theorem dc_123_353 : decode code 353 = .ok (.iaload, 1) := by decide +kernel
theorem dc_123_354 : decode code 354 = .ok (.invokevirtual 48, 3) := by decide +kernel
theorem dc_123_357 : decode code 357 = .ok (.if_icmp .eq 337, 3) := by decide +kernel
theorem dc_123_360 : decode code 360 = .ok (.iconst 0, 1) := by decide +kernel
theorem dc_123_361 : decode code 361 = .ok (.ireturn, 1) := by decide +kernel
theorem dc_123_362 : decode code 362 = .ok (.aload_n 1, 1) := by decide +kernel
theorem dc_123_363 : decode code 363 = .ok (.aload_n 0, 1) := by decide +kernel
theorem dc_123_364 : decode code 364 = .ok (.iload_n 3, 1) := by decide +kernel
theorem dc_123_365 : decode code 365 = .ok (.iconst 1, 1) := by decide +kernel
theorem dc_123_366 : decode code 366 = .ok (.iadd, 1) := by decide +kernel
theorem dc_123_367 : decode code 367 = .ok (.iaload, 1) := by decide +kernel
theorem dc_123_368 : decode code 368 = .ok (.aload_n 0, 1) := by decide +kernel
theorem dc_123_369 : decode code 369 = .ok (.iload_n 3, 1) := by decide +kernel
theorem dc_123_370 : decode code 370 = .ok (.iconst 2, 1) := by decide +kernel
theorem dc_123_371 : decode code 371 = .ok (.iadd, 1) := by decide +kernel
theorem dc_123_372 : decode code 372 = .ok (.iaload, 1) := by decide +kernel
theorem dc_123_373 : decode code 373 = .ok (.ifCond .eq 7, 3) := by decide +kernel
theorem dc_123_376 : decode code 376 = .ok (.iconst 1, 1) := by decide +kernel
theorem dc_123_377 : decode code 377 = .ok (.goto 4, 3) := by decide +kernel
theorem dc_123_380 : decode code 380 = .ok (.iconst 0, 1) := by decide +kernel
theorem dc_123_381 : decode code 381 = .ok (.invokevirtual 49, 3) := by decide +kernel
theorem dc_123_384 : decode code 384 = .ok (.aload_n 2, 1) := by decide +kernel
theorem dc_123_385 : decode code 385 = .ok (.aload_n 0, 1) := by decide +kernel
theorem dc_123_386 : decode code 386 = .ok (.iload_n 3, 1) := by decide +kernel
theorem dc_123_387 : decode code 387 = .ok (.iconst 1, 1) := by decide +kernel
theorem dc_123_388 : decode code 388 = .ok (.iadd, 1) := by decide +kernel
theorem dc_123_389 : decode code 389 = .ok (.iaload, 1) := by decide +kernel
theorem dc_123_390 : decode code 390 = .ok (.aload_n 0, 1) := by decide +kernel
theorem dc_123_391 : decode code 391 = .ok (.iload_n 3, 1) := by decide +kernel
theorem dc_123_392 : decode code 392 = .ok (.iconst 2, 1) := by decide +kernel
theorem dc_123_393 : decode code 393 = .ok (.iadd, 1) := by decide +kernel
theorem dc_123_394 : decode code 394 = .ok (.iaload, 1) := by decide +kernel
theorem dc_123_395 : decode code 395 = .ok (.ifCond .eq 7, 3) := by decide +kernel
theorem dc_123_398 : decode code 398 = .ok (.iconst 1, 1) := by decide +kernel
theorem dc_123_399 : decode code 399 = .ok (.goto 4, 3) := by decide +kernel
theorem dc_123_402 : decode code 402 = .ok (.iconst 0, 1) := by decide +kernel
theorem dc_123_403 : decode code 403 = .ok (.invokevirtual 53, 3) := by decide +kernel
theorem dc_123_406 : decode code 406 = .ok (.if_icmp .eq 288, 3) := by decide +kernel
theorem dc_123_409 : decode code 409 = .ok (.iconst 0, 1) := by decide +kernel
theorem dc_123_410 : decode code 410 = .ok (.ireturn, 1) := by decide +kernel
theorem dc_123_411 : decode code 411 = .ok (.aload_n 1, 1) := by decide +kernel
theorem dc_123_412 : decode code 412 = .ok (.aload_n 0, 1) := by decide +kernel
theorem dc_123_413 : decode code 413 = .ok (.iload_n 3, 1) := by decide +kernel
theorem dc_123_414 : decode code 414 = .ok (.iconst 1, 1) := by decide +kernel
theorem dc_123_415 : decode code 415 = .ok (.iadd, 1) := by decide +kernel
theorem dc_123_416 : decode code 416 = .ok (.iaload, 1) := by decide +kernel
theorem dc_123_417 : decode code 417 = .ok (.aload_n 0, 1) := by decide +kernel
theorem dc_123_418 : decode code 418 = .ok (.iload_n 3, 1) := by decide +kernel
theorem dc_123_419 : decode code 419 = .ok (.iconst 2, 1) := by decide +kernel
theorem dc_123_420 : decode code 420 = .ok (.iadd, 1) := by decide +kernel
theorem dc_123_421 : decode code 421 = .ok (.iaload, 1) := by decide +kernel
theorem dc_123_422 : decode code 422 = .ok (.aload_n 0, 1) := by decide +kernel
theorem dc_123_423 : decode code 423 = .ok (.iload_n 3, 1) := by decide +kernel
theorem dc_123_424 : decode code 424 = .ok (.iconst 3, 1) := by decide +kernel
theorem dc_123_425 : decode code 425 = .ok (.iadd, 1) := by decide +kernel
theorem dc_123_426 : decode code 426 = .ok (.iaload, 1) := by decide +kernel
theorem dc_123_427 : decode code 427 = .ok (.aload_n 0, 1) := by decide +kernel
theorem dc_123_428 : decode code 428 = .ok (.iload_n 3, 1) := by decide +kernel
theorem dc_123_429 : decode code 429 = .ok (.iconst 4, 1) := by decide +kernel
theorem dc_123_430 : decode code 430 = .ok (.iadd, 1) := by decide +kernel
theorem dc_123_431 : decode code 431 = .ok (.iaload, 1) := by decide +kernel
theorem dc_123_432 : decode code 432 = .ok (.invokevirtual 54, 3) := by decide +kernel
theorem dc_123_435 : decode code 435 = .ok (.aload_n 2, 1) := by decide +kernel
theorem dc_123_436 : decode code 436 = .ok (.aload_n 0, 1) := by decide +kernel
theorem dc_123_437 : decode code 437 = .ok (.iload_n 3, 1) := by decide +kernel
theorem dc_123_438 : decode code 438 = .ok (.iconst 1, 1) := by decide +kernel
theorem dc_123_439 : decode code 439 = .ok (.iadd, 1) := by decide +kernel
theorem dc_123_440 : decode code 440 = .ok (.iaload, 1) := by decide +kernel
theorem dc_123_441 : decode code 441 = .ok (.aload_n 0, 1) := by decide +kernel
theorem dc_123_442 : decode code 442 = .ok (.iload_n 3, 1) := by decide +kernel
theorem dc_123_443 : decode code 443 = .ok (.iconst 2, 1) := by decide +kernel
theorem dc_123_444 : decode code 444 = .ok (.iadd, 1) := by decide +kernel
theorem dc_123_445 : decode code 445 = .ok (.iaload, 1) := by decide +kernel
theorem dc_123_446 : decode code 446 = .ok (.aload_n 0, 1) := by decide +kernel
theorem dc_123_447 : decode code 447 = .ok (.iload_n 3, 1) := by decide +kernel
theorem dc_123_448 : decode code 448 = .ok (.iconst 3, 1) := by decide +kernel
theorem dc_123_449 : decode code 449 = .ok (.iadd, 1) := by decide +kernel
theorem dc_123_450 : decode code 450 = .ok (.iaload, 1) := by decide +kernel
theorem dc_123_451 : decode code 451 = .ok (.aload_n 0, 1) := by decide +kernel
theorem dc_123_452 : decode code 452 = .ok (.iload_n 3, 1) := by decide +kernel
theorem dc_123_453 : decode code 453 = .ok (.iconst 4, 1) := by decide +kernel
theorem dc_123_454 : decode code 454 = .ok (.iadd, 1) := by decide +kernel
theorem dc_123_455 : decode code 455 = .ok (.iaload, 1) := by decide +kernel
theorem dc_123_456 : decode code 456 = .ok (.invokevirtual 58, 3) := by decide +kernel
theorem dc_123_459 : decode code 459 = .ok (.if_icmp .eq 235, 3) := by decide +kernel
theorem dc_123_462 : decode code 462 = .ok (.iconst 0, 1) := by decide +kernel
theorem dc_123_463 : decode code 463 = .ok (.ireturn, 1) := by decide +kernel
theorem dc_123_464 : decode code 464 = .ok (.aload_n 1, 1) := by decide +kernel
theorem dc_123_465 : decode code 465 = .ok (.aload_n 0, 1) := by decide +kernel
theorem dc_123_466 : decode code 466 = .ok (.iload_n 3, 1) := by decide +kernel
theorem dc_123_467 : decode code 467 = .ok (.iconst 1, 1) := by decide +kernel
theorem dc_123_468 : decode code 468 = .ok (.iadd, 1) := by decide +kernel
theorem dc_123_469 : decode code 469 = .ok (.iaload, 1) := by decide +kernel
theorem dc_123_470 : decode code 470 = .ok (.invokevirtual 59, 3) := by decide +kernel
theorem dc_123_473 : decode code 473 = .ok (.aload_n 2, 1) := by decide +kernel
theorem dc_123_474 : decode code 474 = .ok (.aload_n 0, 1) := by decide +kernel
theorem dc_123_475 : decode code 475 = .ok (.iload_n 3, 1) := by decide +kernel
theorem dc_123_476 : decode code 476 = .ok (.iconst 1, 1) := by decide +kernel
theorem dc_123_477 : decode code 477 = .ok (.iadd, 1) := by decide +kernel
theorem dc_123_478 : decode code 478 = .ok (.iaload, 1) := by decide +kernel
theorem dc_123_479 : decode code 479 = .ok (.invokevirtual 62, 3) := by decide +kernel
theorem dc_123_482 : decode code 482 = .ok (.if_icmp .eq 212, 3) := by decide +kernel
theorem dc_123_485 : decode code 485 = .ok (.iconst 0, 1) := by decide +kernel
theorem dc_123_486 : decode code 486 = .ok (.ireturn, 1) := by decide +kernel
theorem dc_123_487 : decode code 487 = .ok (.aload_n 1, 1) := by decide +kernel
theorem dc_123_488 : decode code 488 = .ok (.aload_n 0, 1) := by decide +kernel
theorem dc_123_489 : decode code 489 = .ok (.iload_n 3, 1) := by decide +kernel
theorem dc_123_490 : decode code 490 = .ok (.iconst 1, 1) := by decide +kernel
theorem dc_123_491 : decode code 491 = .ok (.iadd, 1) := by decide +kernel
theorem dc_123_492 : decode code 492 = .ok (.iaload, 1) := by decide +kernel
theorem dc_123_493 : decode code 493 = .ok (.invokevirtual 63, 3) := by decide +kernel
theorem dc_123_496 : decode code 496 = .ok (.aload_n 2, 1) := by decide +kernel
theorem dc_123_497 : decode code 497 = .ok (.aload_n 0, 1) := by decide +kernel
theorem dc_123_498 : decode code 498 = .ok (.iload_n 3, 1) := by decide +kernel
theorem dc_123_499 : decode code 499 = .ok (.iconst 1, 1) := by decide +kernel
theorem dc_123_500 : decode code 500 = .ok (.iadd, 1) := by decide +kernel
theorem dc_123_501 : decode code 501 = .ok (.iaload, 1) := by decide +kernel
theorem dc_123_502 : decode code 502 = .ok (.invokevirtual 66, 3) := by decide +kernel
theorem dc_123_505 : decode code 505 = .ok (.if_icmp .eq 189, 3) := by decide +kernel
theorem dc_123_508 : decode code 508 = .ok (.iconst 0, 1) := by decide +kernel
theorem dc_123_509 : decode code 509 = .ok (.ireturn, 1) := by decide +kernel
theorem dc_123_510 : decode code 510 = .ok (.aload_n 1, 1) := by decide +kernel
theorem dc_123_511 : decode code 511 = .ok (.aload_n 0, 1) := by decide +kernel
theorem dc_123_512 : decode code 512 = .ok (.iload_n 3, 1) := by decide +kernel
theorem dc_123_513 : decode code 513 = .ok (.iconst 1, 1) := by decide +kernel
theorem dc_123_514 : decode code 514 = .ok (.iadd, 1) := by decide +kernel
theorem dc_123_515 : decode code 515 = .ok (.iaload, 1) := by decide +kernel
theorem dc_123_516 : decode code 516 = .ok (.invokevirtual 67, 3) := by decide +kernel
theorem dc_123_519 : decode code 519 = .ok (.aload_n 2, 1) := by decide +kernel
theorem dc_123_520 : decode code 520 = .ok (.aload_n 0, 1) := by decide +kernel
theorem dc_123_521 : decode code 521 = .ok (.iload_n 3, 1) := by decide +kernel
theorem dc_123_522 : decode code 522 = .ok (.iconst 1, 1) := by decide +kernel
theorem dc_123_523 : decode code 523 = .ok (.iadd, 1) := by decide +kernel
theorem dc_123_524 : decode code 524 = .ok (.iaload, 1) := by decide +kernel
theorem dc_123_525 : decode code 525 = .ok (.invokevirtual 70, 3) := by decide +kernel
theorem dc_123_528 : decode code 528 = .ok (.if_icmp .eq 166, 3) := by decide +kernel
theorem dc_123_531 : decode code 531 = .ok (.iconst 0, 1) := by decide +kernel
theorem dc_123_532 : decode code 532 = .ok (.ireturn, 1) := by decide +kernel
theorem dc_123_533 : decode code 533 = .ok (.aload_n 1, 1) := by decide +kernel
theorem dc_123_534 : decode code 534 = .ok (.invokevirtual 71, 3) := by decide +kernel
theorem dc_123_537 : decode code 537 = .ok (.aload_n 2, 1) := by decide +kernel
theorem dc_123_538 : decode code 538 = .ok (.invokevirtual 75, 3) := by decide +kernel
theorem dc_123_541 : decode code 541 = .ok (.if_icmp .eq 153, 3) := by decide +kernel
theorem dc_123_544 : decode code 544 = .ok (.iconst 0, 1) := by decide +kernel
theorem dc_123_545 : decode code 545 = .ok (.ireturn, 1) := by decide +kernel
theorem dc_123_546 : decode code 546 = .ok (.aload_n 1, 1) := by decide +kernel
theorem dc_123_547 : decode code 547 = .ok (.aload_n 0, 1) := by decide +kernel
theorem dc_123_548 : decode code 548 = .ok (.iload_n 3, 1) := by decide +kernel
theorem dc_123_549 : decode code 549 = .ok (.iconst 1, 1) := by decide +kernel
theorem dc_123_550 : decode code 550 = .ok (.iadd, 1) := by decide +kernel
theorem dc_123_551 : decode code 551 = .ok (.iaload, 1) := by decide +kernel
theorem dc_123_552 : decode code 552 = .ok (.invokevirtual 76, 3) := by decide +kernel
theorem dc_123_555 : decode code 555 = .ok (.aload_n 2, 1) := by decide +kernel
theorem dc_123_556 : decode code 556 = .ok (.aload_n 0, 1) := by decide +kernel
theorem dc_123_557 : decode code 557 = .ok (.iload_n 3, 1) := by decide +kernel
theorem dc_123_558 : decode code 558 = .ok (.iconst 1, 1) := by decide +kernel
theorem dc_123_559 : decode code 559 = .ok (.iadd, 1) := by decide +kernel
theorem dc_123_560 : decode code 560 = .ok (.iaload, 1) := by decide +kernel
theorem dc_123_561 : decode code 561 = .ok (.invokevirtual 79, 3) := by decide +kernel
theorem dc_123_564 : decode code 564 = .ok (.if_icmp .eq 130, 3) := by decide +kernel
theorem dc_123_567 : decode code 567 = .ok (.iconst 0, 1) := by decide +kernel
theorem dc_123_568 : decode code 568 = .ok (.ireturn, 1) := by decide +kernel
theorem dc_123_569 : decode code 569 = .ok (.aload_n 1, 1) := by decide +kernel
theorem dc_123_570 : decode code 570 = .ok (.aload_n 0, 1) := by decide +kernel
theorem dc_123_571 : decode code 571 = .ok (.iload_n 3, 1) := by decide +kernel
theorem dc_123_572 : decode code 572 = .ok (.iconst 1, 1) := by decide +kernel
theorem dc_123_573 : decode code 573 = .ok (.iadd, 1) := by decide +kernel
theorem dc_123_574 : decode code 574 = .ok (.iaload, 1) := by decide +kernel
theorem dc_123_575 : decode code 575 = .ok (.aload_n 0, 1) := by decide +kernel
theorem dc_123_576 : decode code 576 = .ok (.iload_n 3, 1) := by decide +kernel
theorem dc_123_577 : decode code 577 = .ok (.iconst 2, 1) := by decide +kernel
theorem dc_123_578 : decode code 578 = .ok (.iadd, 1) := by decide +kernel
theorem dc_123_579 : decode code 579 = .ok (.iaload, 1) := by decide +kernel
theorem dc_123_580 : decode code 580 = .ok (.invokevirtual 80, 3) := by decide +kernel
theorem dc_123_583 : decode code 583 = .ok (.aload_n 2, 1) := by decide +kernel
theorem dc_123_584 : decode code 584 = .ok (.aload_n 0, 1) := by decide +kernel
theorem dc_123_585 : decode code 585 = .ok (.iload_n 3, 1) := by decide +kernel
theorem dc_123_586 : decode code 586 = .ok (.iconst 1, 1) := by decide +kernel
theorem dc_123_587 : decode code 587 = .ok (.iadd, 1) := by decide +kernel
theorem dc_123_588 : decode code 588 = .ok (.iaload, 1) := by decide +kernel
theorem dc_123_589 : decode code 589 = .ok (.aload_n 0, 1) := by decide +kernel
theorem dc_123_590 : decode code 590 = .ok (.iload_n 3, 1) := by decide +kernel
theorem dc_123_591 : decode code 591 = .ok (.iconst 2, 1) := by decide +kernel
theorem dc_123_592 : decode code 592 = .ok (.iadd, 1) := by decide +kernel
theorem dc_123_593 : decode code 593 = .ok (.iaload, 1) := by decide +kernel
theorem dc_123_594 : decode code 594 = .ok (.invokevirtual 83, 3) := by decide +kernel
theorem dc_123_597 : decode code 597 = .ok (.if_icmp .eq 97, 3) := by decide +kernel
theorem dc_123_600 : decode code 600 = .ok (.iconst 0, 1) := by decide +kernel
theorem dc_123_601 : decode code 601 = .ok (.ireturn, 1) := by decide +kernel
theorem dc_123_602 : decode code 602 = .ok (.aload_n 1, 1) := by decide +kernel
theorem dc_123_603 : decode code 603 = .ok (.aload_n 0, 1) := by decide +kernel
theorem dc_123_604 : decode code 604 = .ok (.iload_n 3, 1) := by decide +kernel
theorem dc_123_605 : decode code 605 = .ok (.iconst 1, 1) := by decide +kernel
theorem dc_123_606 : decode code 606 = .ok (.iadd, 1) := by decide +kernel
theorem dc_123_607 : decode code 607 = .ok (.iaload, 1) := by decide +kernel
theorem dc_123_608 : decode code 608 = .ok (.aload_n 0, 1) := by decide +kernel
theorem dc_123_609 : decode code 609 = .ok (.iload_n 3, 1) := by decide +kernel
theorem dc_123_610 : decode code 610 = .ok (.iconst 2, 1) := by decide +kernel
theorem dc_123_611 : decode code 611 = .ok (.iadd, 1) := by decide +kernel
theorem dc_123_612 : decode code 612 = .ok (.iaload, 1) := by decide +kernel
theorem dc_123_613 : decode code 613 = .ok (.invokevirtual 84, 3) := by decide +kernel
theorem dc_123_616 : decode code 616 = .ok (.aload_n 2, 1) := by decide +kernel
theorem dc_123_617 : decode code 617 = .ok (.aload_n 0, 1) := by decide +kernel
theorem dc_123_618 : decode code 618 = .ok (.iload_n 3, 1) := by decide +kernel
theorem dc_123_619 : decode code 619 = .ok (.iconst 1, 1) := by decide +kernel
theorem dc_123_620 : decode code 620 = .ok (.iadd, 1) := by decide +kernel
theorem dc_123_621 : decode code 621 = .ok (.iaload, 1) := by decide +kernel
theorem dc_123_622 : decode code 622 = .ok (.aload_n 0, 1) := by decide +kernel
theorem dc_123_623 : decode code 623 = .ok (.iload_n 3, 1) := by decide +kernel
theorem dc_123_624 : decode code 624 = .ok (.iconst 2, 1) := by decide +kernel
theorem dc_123_625 : decode code 625 = .ok (.iadd, 1) := by decide +kernel
theorem dc_123_626 : decode code 626 = .ok (.iaload, 1) := by decide +kernel
theorem dc_123_627 : decode code 627 = .ok (.invokevirtual 87, 3) := by decide +kernel
theorem dc_123_630 : decode code 630 = .ok (.if_icmp .eq 64, 3) := by decide +kernel
theorem dc_123_633 : decode code 633 = .ok (.iconst 0, 1) := by decide +kernel
theorem dc_123_634 : decode code 634 = .ok (.ireturn, 1) := by decide +kernel
theorem dc_123_635 : decode code 635 = .ok (.aload_n 1, 1) := by decide +kernel
theorem dc_123_636 : decode code 636 = .ok (.aload_n 0, 1) := by decide +kernel
theorem dc_123_637 : decode code 637 = .ok (.iload_n 3, 1) := by decide +kernel
theorem dc_123_638 : decode code 638 = .ok (.iconst 1, 1) := by decide +kernel
theorem dc_123_639 : decode code 639 = .ok (.iadd, 1) := by decide +kernel
theorem dc_123_640 : decode code 640 = .ok (.iaload, 1) := by decide +kernel
theorem dc_123_641 : decode code 641 = .ok (.invokevirtual 88, 3) := by decide +kernel
theorem dc_123_644 : decode code 644 = .ok (.aload_n 2, 1) := by decide +kernel
theorem dc_123_645 : decode code 645 = .ok (.aload_n 0, 1) := by decide +kernel
theorem dc_123_646 : decode code 646 = .ok (.iload_n 3, 1) := by decide +kernel
theorem dc_123_647 : decode code 647 = .ok (.iconst 1, 1) := by decide +kernel
theorem dc_123_648 : decode code 648 = .ok (.iadd, 1) := by decide +kernel
theorem dc_123_649 : decode code 649 = .ok (.iaload, 1) := by decide +kernel
theorem dc_123_650 : decode code 650 = .ok (.invokevirtual 91, 3) := by decide +kernel
theorem dc_123_653 : decode code 653 = .ok (.if_icmp .eq 41, 3) := by decide +kernel
theorem dc_123_656 : decode code 656 = .ok (.iconst 0, 1) := by decide +kernel
theorem dc_123_657 : decode code 657 = .ok (.ireturn, 1) := by decide +kernel
theorem dc_123_658 : decode code 658 = .ok (.aload_n 1, 1) := by decide +kernel
theorem dc_123_659 : decode code 659 = .ok (.aload_n 0, 1) := by decide +kernel
theorem dc_123_660 : decode code 660 = .ok (.iload_n 3, 1) := by decide +kernel
theorem dc_123_661 : decode code 661 = .ok (.iconst 1, 1) := by decide +kernel
theorem dc_123_662 : decode code 662 = .ok (.iadd, 1) := by decide +kernel
theorem dc_123_663 : decode code 663 = .ok (.iaload, 1) := by decide +kernel
theorem dc_123_664 : decode code 664 = .ok (.invokevirtual 92, 3) := by decide +kernel
theorem dc_123_667 : decode code 667 = .ok (.aload_n 2, 1) := by decide +kernel
theorem dc_123_668 : decode code 668 = .ok (.aload_n 0, 1) := by decide +kernel
theorem dc_123_669 : decode code 669 = .ok (.iload_n 3, 1) := by decide +kernel
theorem dc_123_670 : decode code 670 = .ok (.iconst 1, 1) := by decide +kernel
theorem dc_123_671 : decode code 671 = .ok (.iadd, 1) := by decide +kernel
theorem dc_123_672 : decode code 672 = .ok (.iaload, 1) := by decide +kernel
theorem dc_123_673 : decode code 673 = .ok (.invokevirtual 95, 3) := by decide +kernel
theorem dc_123_676 : decode code 676 = .ok (.if_icmp .eq 18, 3) := by decide +kernel
theorem dc_123_679 : decode code 679 = .ok (.iconst 0, 1) := by decide +kernel
theorem dc_123_680 : decode code 680 = .ok (.ireturn, 1) := by decide +kernel
theorem dc_123_681 : decode code 681 = .ok (.aload_n 1, 1) := by decide +kernel
theorem dc_123_682 : decode code 682 = .ok (.invokevirtual 96, 3) := by decide +kernel
theorem dc_123_685 : decode code 685 = .ok (.aload_n 2, 1) := by decide +kernel
theorem dc_123_686 : decode code 686 = .ok (.invokevirtual 99, 3) := by decide +kernel
theorem dc_123_689 : decode code 689 = .ok (.if_icmp .eq 5, 3) := by decide +kernel
theorem dc_123_692 : decode code 692 = .ok (.iconst 0, 1) := by decide +kernel
theorem dc_123_693 : decode code 693 = .ok (.ireturn, 1) := by decide +kernel
theorem dc_123_694 : decode code 694 = .ok (.iinc 3 5, 3) := by decide +kernel
theorem dc_123_697 : decode code 697 = .ok (.goto (-679), 3) := by decide +kernel
theorem dc_123_700 : decode code 700 = .ok (.iconst 1, 1) := by decide +kernel
theorem dc_123_701 : decode code 701 = .ok (.ireturn, 1) := by decide +kernel
