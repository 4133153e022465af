theorem d_L_law_0 : decode code 0 = .ok (.new 8, 3) := by decide +kernel
theorem d_L_law_3 : decode code 3 = .ok (.dup, 1) := by decide +kernel
theorem d_L_law_4 : decode code 4 = .ok (.invokespecial 87, 3) := by decide +kernel
theorem d_L_law_7 : decode code 7 = .ok (.astore_n 1, 1) := by decide +kernel
theorem d_L_law_8 : decode code 8 = .ok (.new 88, 3) := by decide +kernel
theorem d_L_law_11 : decode code 11 = .ok (.dup, 1) := by decide +kernel
theorem d_L_law_12 : decode code 12 = .ok (.invokespecial 90, 3) := by decide +kernel
theorem d_L_law_15 : decode code 15 = .ok (.astore_n 2, 1) := by decide +kernel
theorem d_L_law_16 : decode code 16 = .ok (.iconst 1, 1) := by decide +kernel
theorem d_L_law_17 : decode code 17 = .ok (.newarray .long, 2) := by decide +kernel
theorem d_L_law_19 : decode code 19 = .ok (.astore_n 3, 1) := by decide +kernel
theorem d_L_law_20 : decode code 20 = .ok (.iconst 0, 1) := by decide +kernel
theorem d_L_law_21 : decode code 21 = .ok (.istore 4, 2) := by decide +kernel
theorem d_L_law_23 : decode code 23 = .ok (.iload 4, 2) := by decide +kernel
theorem d_L_law_25 : decode code 25 = .ok (.aload_n 0, 1) := by decide +kernel
theorem d_L_law_26 : decode code 26 = .ok (.arraylength, 1) := by decide +kernel
theorem d_L_law_27 : decode code 27 = .ok (.iconst 5, 1) := by decide +kernel
theorem d_L_law_28 : decode code 28 = .ok (.isub, 1) := by decide +kernel
theorem d_L_law_29 : decode code 29 = .ok (.if_icmp .gt 1208, 3) := by decide +kernel
theorem d_L_law_32 : decode code 32 = .ok (.aload_n 0, 1) := by decide +kernel
theorem d_L_law_33 : decode code 33 = .ok (.iload 4, 2) := by decide +kernel
theorem d_L_law_35 : decode code 35 = .ok (.iaload, 1) := by decide +kernel
theorem d_L_law_36 : decode code 36 = .ok (.bipush 31, 2) := by decide +kernel
theorem d_L_law_38 : decode code 38 = .ok (.iand, 1) := by decide +kernel
theorem d_L_law_39 : decode code 39 = .ok (.tableswitch 1192 0 21 #[101, 149, 229, 301, 337, 380, 393, 448, 504, 560, 660, 723, 766, 822, 878, 921, 945, 1001, 1037, 1093, 1137, 1181], 101) := by decide +kernel
theorem d_L_law_140 : decode code 140 = .ok (.aload_n 1, 1) := by decide +kernel
theorem d_L_law_141 : decode code 141 = .ok (.aload_n 0, 1) := by decide +kernel
theorem d_L_law_142 : decode code 142 = .ok (.iload 4, 2) := by decide +kernel
theorem d_L_law_144 : decode code 144 = .ok (.iconst 1, 1) := by decide +kernel
theorem d_L_law_145 : decode code 145 = .ok (.iadd, 1) := by decide +kernel
theorem d_L_law_146 : decode code 146 = .ok (.iaload, 1) := by decide +kernel
theorem d_L_law_147 : decode code 147 = .ok (.aload_n 0, 1) := by decide +kernel
theorem d_L_law_148 : decode code 148 = .ok (.iload 4, 2) := by decide +kernel
theorem d_L_law_150 : decode code 150 = .ok (.iconst 2, 1) := by decide +kernel
theorem d_L_law_151 : decode code 151 = .ok (.iadd, 1) := by decide +kernel
theorem d_L_law_152 : decode code 152 = .ok (.iaload, 1) := by decide +kernel
theorem d_L_law_153 : decode code 153 = .ok (.invokestatic 91, 3) := by decide +kernel
theorem d_L_law_156 : decode code 156 = .ok (.istore 5, 2) := by decide +kernel
theorem d_L_law_158 : decode code 158 = .ok (.aload_n 2, 1) := by decide +kernel
theorem d_L_law_159 : decode code 159 = .ok (.aload_n 0, 1) := by decide +kernel
theorem d_L_law_160 : decode code 160 = .ok (.iload 4, 2) := by decide +kernel
theorem d_L_law_162 : decode code 162 = .ok (.iconst 1, 1) := by decide +kernel
theorem d_L_law_163 : decode code 163 = .ok (.iadd, 1) := by decide +kernel
theorem d_L_law_164 : decode code 164 = .ok (.iaload, 1) := by decide +kernel
theorem d_L_law_165 : decode code 165 = .ok (.aload_n 0, 1) := by decide +kernel
theorem d_L_law_166 : decode code 166 = .ok (.iload 4, 2) := by decide +kernel
theorem d_L_law_168 : decode code 168 = .ok (.iconst 2, 1) := by decide +kernel
theorem d_L_law_169 : decode code 169 = .ok (.iadd, 1) := by decide +kernel
theorem d_L_law_170 : decode code 170 = .ok (.iaload, 1) := by decide +kernel
theorem d_L_law_171 : decode code 171 = .ok (.invokevirtual 96, 3) := by decide +kernel
theorem d_L_law_174 : decode code 174 = .ok (.aload_n 2, 1) := by decide +kernel
theorem d_L_law_175 : decode code 175 = .ok (.invokevirtual 97, 3) := by decide +kernel
theorem d_L_law_178 : decode code 178 = .ok (.iload 5, 2) := by decide +kernel
theorem d_L_law_180 : decode code 180 = .ok (.if_icmp .eq 5, 3) := by decide +kernel
theorem d_L_law_185 : decode code 185 = .ok (.goto 1046, 3) := by decide +kernel
theorem d_L_law_188 : decode code 188 = .ok (.aload_n 1, 1) := by decide +kernel
theorem d_L_law_189 : decode code 189 = .ok (.aload_n 0, 1) := by decide +kernel
theorem d_L_law_190 : decode code 190 = .ok (.iload 4, 2) := by decide +kernel
theorem d_L_law_192 : decode code 192 = .ok (.iconst 1, 1) := by decide +kernel
theorem d_L_law_193 : decode code 193 = .ok (.iadd, 1) := by decide +kernel
theorem d_L_law_194 : decode code 194 = .ok (.iaload, 1) := by decide +kernel
theorem d_L_law_195 : decode code 195 = .ok (.aload_n 0, 1) := by decide +kernel
theorem d_L_law_196 : decode code 196 = .ok (.iload 4, 2) := by decide +kernel
theorem d_L_law_198 : decode code 198 = .ok (.iconst 2, 1) := by decide +kernel
theorem d_L_law_199 : decode code 199 = .ok (.iadd, 1) := by decide +kernel
theorem d_L_law_200 : decode code 200 = .ok (.iaload, 1) := by decide +kernel
theorem d_L_law_201 : decode code 201 = .ok (.aload_n 0, 1) := by decide +kernel
theorem d_L_law_202 : decode code 202 = .ok (.iload 4, 2) := by decide +kernel
theorem d_L_law_204 : decode code 204 = .ok (.iconst 3, 1) := by decide +kernel
theorem d_L_law_205 : decode code 205 = .ok (.iadd, 1) := by decide +kernel
theorem d_L_law_206 : decode code 206 = .ok (.iaload, 1) := by decide +kernel
theorem d_L_law_207 : decode code 207 = .ok (.aload_n 3, 1) := by decide +kernel
theorem d_L_law_208 : decode code 208 = .ok (.invokestatic 100, 3) := by decide +kernel
theorem d_L_law_211 : decode code 211 = .ok (.istore 5, 2) := by decide +kernel
theorem d_L_law_213 : decode code 213 = .ok (.aload_n 2, 1) := by decide +kernel
theorem d_L_law_214 : decode code 214 = .ok (.aload_n 0, 1) := by decide +kernel
theorem d_L_law_215 : decode code 215 = .ok (.iload 4, 2) := by decide +kernel
theorem d_L_law_217 : decode code 217 = .ok (.iconst 1, 1) := by decide +kernel
theorem d_L_law_218 : decode code 218 = .ok (.iadd, 1) := by decide +kernel
theorem d_L_law_219 : decode code 219 = .ok (.iaload, 1) := by decide +kernel
theorem d_L_law_220 : decode code 220 = .ok (.aload_n 0, 1) := by decide +kernel
theorem d_L_law_221 : decode code 221 = .ok (.iload 4, 2) := by decide +kernel
theorem d_L_law_223 : decode code 223 = .ok (.iconst 2, 1) := by decide +kernel
theorem d_L_law_224 : decode code 224 = .ok (.iadd, 1) := by decide +kernel
theorem d_L_law_225 : decode code 225 = .ok (.iaload, 1) := by decide +kernel
theorem d_L_law_226 : decode code 226 = .ok (.aload_n 0, 1) := by decide +kernel
theorem d_L_law_227 : decode code 227 = .ok (.iload 4, 2) := by decide +kernel
theorem d_L_law_229 : decode code 229 = .ok (.iconst 3, 1) := by decide +kernel
theorem d_L_law_230 : decode code 230 = .ok (.iadd, 1) := by decide +kernel
theorem d_L_law_231 : decode code 231 = .ok (.iaload, 1) := by decide +kernel
theorem d_L_law_232 : decode code 232 = .ok (.invokevirtual 103, 3) := by decide +kernel
theorem d_L_law_235 : decode code 235 = .ok (.istore 6, 2) := by decide +kernel
theorem d_L_law_237 : decode code 237 = .ok (.aload_n 2, 1) := by decide +kernel
theorem d_L_law_238 : decode code 238 = .ok (.invokevirtual 97, 3) := by decide +kernel
theorem d_L_law_241 : decode code 241 = .ok (.iload 5, 2) := by decide +kernel
theorem d_L_law_243 : decode code 243 = .ok (.if_icmp .eq 5, 3) := by decide +kernel
theorem d_L_law_248 : decode code 248 = .ok (.iload 5, 2) := by decide +kernel
theorem d_L_law_250 : decode code 250 = .ok (.ifCond .ne 15, 3) := by decide +kernel
theorem d_L_law_253 : decode code 253 = .ok (.aload_n 3, 1) := by decide +kernel
theorem d_L_law_254 : decode code 254 = .ok (.iconst 0, 1) := by decide +kernel
theorem d_L_law_255 : decode code 255 = .ok (.laload, 1) := by decide +kernel
theorem d_L_law_256 : decode code 256 = .ok (.iload 6, 2) := by decide +kernel
theorem d_L_law_258 : decode code 258 = .ok (.i2l, 1) := by decide +kernel
theorem d_L_law_259 : decode code 259 = .ok (.lcmp, 1) := by decide +kernel
theorem d_L_law_260 : decode code 260 = .ok (.ifCond .eq 5, 3) := by decide +kernel
theorem d_L_law_265 : decode code 265 = .ok (.goto 966, 3) := by decide +kernel
theorem d_L_law_268 : decode code 268 = .ok (.aload_n 1, 1) := by decide +kernel
theorem d_L_law_269 : decode code 269 = .ok (.aload_n 0, 1) := by decide +kernel
theorem d_L_law_270 : decode code 270 = .ok (.iload 4, 2) := by decide +kernel
theorem d_L_law_272 : decode code 272 = .ok (.iconst 1, 1) := by decide +kernel
theorem d_L_law_273 : decode code 273 = .ok (.iadd, 1) := by decide +kernel
theorem d_L_law_274 : decode code 274 = .ok (.iaload, 1) := by decide +kernel
theorem d_L_law_275 : decode code 275 = .ok (.aload_n 0, 1) := by decide +kernel
theorem d_L_law_276 : decode code 276 = .ok (.iload 4, 2) := by decide +kernel
theorem d_L_law_278 : decode code 278 = .ok (.iconst 2, 1) := by decide +kernel
theorem d_L_law_279 : decode code 279 = .ok (.iadd, 1) := by decide +kernel
theorem d_L_law_280 : decode code 280 = .ok (.iaload, 1) := by decide +kernel
theorem d_L_law_281 : decode code 281 = .ok (.aload_n 0, 1) := by decide +kernel
theorem d_L_law_282 : decode code 282 = .ok (.iload 4, 2) := by decide +kernel
theorem d_L_law_284 : decode code 284 = .ok (.iconst 3, 1) := by decide +kernel
theorem d_L_law_285 : decode code 285 = .ok (.iadd, 1) := by decide +kernel
theorem d_L_law_286 : decode code 286 = .ok (.iaload, 1) := by decide +kernel
theorem d_L_law_287 : decode code 287 = .ok (.aload_n 0, 1) := by decide +kernel
theorem d_L_law_288 : decode code 288 = .ok (.iload 4, 2) := by decide +kernel
theorem d_L_law_290 : decode code 290 = .ok (.iconst 4, 1) := by decide +kernel
theorem d_L_law_291 : decode code 291 = .ok (.iadd, 1) := by decide +kernel
theorem d_L_law_292 : decode code 292 = .ok (.iaload, 1) := by decide +kernel
theorem d_L_law_293 : decode code 293 = .ok (.invokestatic 104, 3) := by decide +kernel
theorem d_L_law_296 : decode code 296 = .ok (.istore 5, 2) := by decide +kernel
theorem d_L_law_298 : decode code 298 = .ok (.aload_n 2, 1) := by decide +kernel
theorem d_L_law_299 : decode code 299 = .ok (.aload_n 0, 1) := by decide +kernel
theorem d_L_law_300 : decode code 300 = .ok (.iload 4, 2) := by decide +kernel
theorem d_L_law_302 : decode code 302 = .ok (.iconst 1, 1) := by decide +kernel
theorem d_L_law_303 : decode code 303 = .ok (.iadd, 1) := by decide +kernel
theorem d_L_law_304 : decode code 304 = .ok (.iaload, 1) := by decide +kernel
theorem d_L_law_305 : decode code 305 = .ok (.aload_n 0, 1) := by decide +kernel
theorem d_L_law_306 : decode code 306 = .ok (.iload 4, 2) := by decide +kernel
theorem d_L_law_308 : decode code 308 = .ok (.iconst 2, 1) := by decide +kernel
theorem d_L_law_309 : decode code 309 = .ok (.iadd, 1) := by decide +kernel
theorem d_L_law_310 : decode code 310 = .ok (.iaload, 1) := by decide +kernel
theorem d_L_law_311 : decode code 311 = .ok (.aload_n 0, 1) := by decide +kernel
theorem d_L_law_312 : decode code 312 = .ok (.iload 4, 2) := by decide +kernel
theorem d_L_law_314 : decode code 314 = .ok (.iconst 3, 1) := by decide +kernel
theorem d_L_law_315 : decode code 315 = .ok (.iadd, 1) := by decide +kernel
theorem d_L_law_316 : decode code 316 = .ok (.iaload, 1) := by decide +kernel
theorem d_L_law_317 : decode code 317 = .ok (.aload_n 0, 1) := by decide +kernel
theorem d_L_law_318 : decode code 318 = .ok (.iload 4, 2) := by decide +kernel
theorem d_L_law_320 : decode code 320 = .ok (.iconst 4, 1) := by decide +kernel
theorem d_L_law_321 : decode code 321 = .ok (.iadd, 1) := by decide +kernel
theorem d_L_law_322 : decode code 322 = .ok (.iaload, 1) := by decide +kernel
theorem d_L_law_323 : decode code 323 = .ok (.invokevirtual 107, 3) := by decide +kernel
theorem d_L_law_326 : decode code 326 = .ok (.aload_n 2, 1) := by decide +kernel
theorem d_L_law_327 : decode code 327 = .ok (.invokevirtual 97, 3) := by decide +kernel
theorem d_L_law_330 : decode code 330 = .ok (.iload 5, 2) := by decide +kernel
theorem d_L_law_332 : decode code 332 = .ok (.if_icmp .eq 5, 3) := by decide +kernel
theorem d_L_law_337 : decode code 337 = .ok (.goto 894, 3) := by decide +kernel
theorem d_L_law_340 : decode code 340 = .ok (.aload_n 1, 1) := by decide +kernel
theorem d_L_law_341 : decode code 341 = .ok (.aload_n 0, 1) := by decide +kernel
theorem d_L_law_342 : decode code 342 = .ok (.iload 4, 2) := by decide +kernel
theorem d_L_law_344 : decode code 344 = .ok (.iconst 1, 1) := by decide +kernel
theorem d_L_law_345 : decode code 345 = .ok (.iadd, 1) := by decide +kernel
theorem d_L_law_346 : decode code 346 = .ok (.iaload, 1) := by decide +kernel
theorem d_L_law_347 : decode code 347 = .ok (.invokestatic 108, 3) := by decide +kernel
theorem d_L_law_350 : decode code 350 = .ok (.istore 5, 2) := by decide +kernel
theorem d_L_law_352 : decode code 352 = .ok (.aload_n 2, 1) := by decide +kernel
theorem d_L_law_353 : decode code 353 = .ok (.aload_n 0, 1) := by decide +kernel
theorem d_L_law_354 : decode code 354 = .ok (.iload 4, 2) := by decide +kernel
theorem d_L_law_356 : decode code 356 = .ok (.iconst 1, 1) := by decide +kernel
theorem d_L_law_357 : decode code 357 = .ok (.iadd, 1) := by decide +kernel
theorem d_L_law_358 : decode code 358 = .ok (.iaload, 1) := by decide +kernel
theorem d_L_law_359 : decode code 359 = .ok (.invokevirtual 111, 3) := by decide +kernel
theorem d_L_law_362 : decode code 362 = .ok (.aload_n 2, 1) := by decide +kernel
theorem d_L_law_363 : decode code 363 = .ok (.invokevirtual 97, 3) := by decide +kernel
theorem d_L_law_366 : decode code 366 = .ok (.iload 5, 2) := by decide +kernel
theorem d_L_law_368 : decode code 368 = .ok (.if_icmp .eq 5, 3) := by decide +kernel
theorem d_L_law_373 : decode code 373 = .ok (.goto 858, 3) := by decide +kernel
theorem d_L_law_376 : decode code 376 = .ok (.aload_n 1, 1) := by decide +kernel
theorem d_L_law_377 : decode code 377 = .ok (.aload_n 3, 1) := by decide +kernel
theorem d_L_law_378 : decode code 378 = .ok (.invokestatic 112, 3) := by decide +kernel
theorem d_L_law_381 : decode code 381 = .ok (.istore 5, 2) := by decide +kernel
theorem d_L_law_383 : decode code 383 = .ok (.aload_n 2, 1) := by decide +kernel
theorem d_L_law_384 : decode code 384 = .ok (.invokevirtual 115, 3) := by decide +kernel
theorem d_L_law_387 : decode code 387 = .ok (.lstore 6, 2) := by decide +kernel
theorem d_L_law_389 : decode code 389 = .ok (.aload_n 2, 1) := by decide +kernel
theorem d_L_law_390 : decode code 390 = .ok (.invokevirtual 97, 3) := by decide +kernel
theorem d_L_law_393 : decode code 393 = .ok (.iload 5, 2) := by decide +kernel
theorem d_L_law_395 : decode code 395 = .ok (.if_icmp .eq 5, 3) := by decide +kernel
theorem d_L_law_400 : decode code 400 = .ok (.iload 5, 2) := by decide +kernel
theorem d_L_law_402 : decode code 402 = .ok (.ifCond .ne 14, 3) := by decide +kernel
theorem d_L_law_405 : decode code 405 = .ok (.aload_n 3, 1) := by decide +kernel
theorem d_L_law_406 : decode code 406 = .ok (.iconst 0, 1) := by decide +kernel
theorem d_L_law_407 : decode code 407 = .ok (.laload, 1) := by decide +kernel
theorem d_L_law_408 : decode code 408 = .ok (.lload 6, 2) := by decide +kernel
theorem d_L_law_410 : decode code 410 = .ok (.lcmp, 1) := by decide +kernel
theorem d_L_law_411 : decode code 411 = .ok (.ifCond .eq 5, 3) := by decide +kernel
theorem d_L_law_416 : decode code 416 = .ok (.goto 815, 3) := by decide +kernel
theorem d_L_law_419 : decode code 419 = .ok (.aload_n 1, 1) := by decide +kernel
theorem d_L_law_420 : decode code 420 = .ok (.invokevirtual 116, 3) := by decide +kernel
theorem d_L_law_423 : decode code 423 = .ok (.aload_n 2, 1) := by decide +kernel
theorem d_L_law_424 : decode code 424 = .ok (.invokevirtual 119, 3) := by decide +kernel
theorem d_L_law_427 : decode code 427 = .ok (.if_icmp .eq 804, 3) := by decide +kernel
theorem d_L_law_432 : decode code 432 = .ok (.aload_n 1, 1) := by decide +kernel
theorem d_L_law_433 : decode code 433 = .ok (.aload_n 0, 1) := by decide +kernel
theorem d_L_law_434 : decode code 434 = .ok (.iload 4, 2) := by decide +kernel
theorem d_L_law_436 : decode code 436 = .ok (.iconst 1, 1) := by decide +kernel
theorem d_L_law_437 : decode code 437 = .ok (.iadd, 1) := by decide +kernel
theorem d_L_law_438 : decode code 438 = .ok (.iaload, 1) := by decide +kernel
theorem d_L_law_439 : decode code 439 = .ok (.aload_n 3, 1) := by decide +kernel
theorem d_L_law_440 : decode code 440 = .ok (.invokestatic 120, 3) := by decide +kernel
theorem d_L_law_443 : decode code 443 = .ok (.istore 5, 2) := by decide +kernel
theorem d_L_law_445 : decode code 445 = .ok (.aload_n 2, 1) := by decide +kernel
theorem d_L_law_446 : decode code 446 = .ok (.aload_n 0, 1) := by decide +kernel
theorem d_L_law_447 : decode code 447 = .ok (.iload 4, 2) := by decide +kernel
