/-! The law's loop, over what is to be shown of the two (SIM). -/
theorem dL_law_0 : decode code 0 = .ok (.new 8, 3) := by decide +kernel
theorem dL_law_3 : decode code 3 = .ok (.dup, 1) := by decide +kernel
theorem dL_law_4 : decode code 4 = .ok (.aload_n 0, 1) := by decide +kernel
theorem dL_law_5 : decode code 5 = .ok (.iconst 0, 1) := by decide +kernel
theorem dL_law_6 : decode code 6 = .ok (.invokestatic 43, 3) := by decide +kernel
theorem dL_law_9 : decode code 9 = .ok (.aload_n 0, 1) := by decide +kernel
theorem dL_law_10 : decode code 10 = .ok (.iconst 1, 1) := by decide +kernel
theorem dL_law_11 : decode code 11 = .ok (.invokestatic 43, 3) := by decide +kernel
theorem dL_law_14 : decode code 14 = .ok (.invokespecial 49, 3) := by decide +kernel
theorem dL_law_17 : decode code 17 = .ok (.astore_n 1, 1) := by decide +kernel
theorem dL_law_18 : decode code 18 = .ok (.new 51, 3) := by decide +kernel
theorem dL_law_21 : decode code 21 = .ok (.dup, 1) := by decide +kernel
theorem dL_law_22 : decode code 22 = .ok (.aload_n 0, 1) := by decide +kernel
theorem dL_law_23 : decode code 23 = .ok (.iconst 0, 1) := by decide +kernel
theorem dL_law_24 : decode code 24 = .ok (.invokestatic 43, 3) := by decide +kernel
theorem dL_law_27 : decode code 27 = .ok (.aload_n 0, 1) := by decide +kernel
theorem dL_law_28 : decode code 28 = .ok (.iconst 1, 1) := by decide +kernel
theorem dL_law_29 : decode code 29 = .ok (.invokestatic 43, 3) := by decide +kernel
theorem dL_law_32 : decode code 32 = .ok (.invokespecial 53, 3) := by decide +kernel
theorem dL_law_35 : decode code 35 = .ok (.astore_n 2, 1) := by decide +kernel
theorem dL_law_36 : decode code 36 = .ok (.iconst 1, 1) := by decide +kernel
theorem dL_law_37 : decode code 37 = .ok (.newarray .long, 2) := by decide +kernel
theorem dL_law_39 : decode code 39 = .ok (.astore_n 3, 1) := by decide +kernel
theorem dL_law_40 : decode code 40 = .ok (.iconst 2, 1) := by decide +kernel
theorem dL_law_41 : decode code 41 = .ok (.istore 4, 2) := by decide +kernel
theorem dL_law_43 : decode code 43 = .ok (.iload 4, 2) := by decide +kernel
theorem dL_law_45 : decode code 45 = .ok (.aload_n 0, 1) := by decide +kernel
theorem dL_law_46 : decode code 46 = .ok (.arraylength, 1) := by decide +kernel
theorem dL_law_47 : decode code 47 = .ok (.iconst 4, 1) := by decide +kernel
theorem dL_law_48 : decode code 48 = .ok (.isub, 1) := by decide +kernel
theorem dL_law_49 : decode code 49 = .ok (.if_icmp .gt 757, 3) := by decide +kernel
theorem dL_law_52 : decode code 52 = .ok (.aload_n 0, 1) := by decide +kernel
theorem dL_law_53 : decode code 53 = .ok (.iload 4, 2) := by decide +kernel
theorem dL_law_55 : decode code 55 = .ok (.iaload, 1) := by decide +kernel
theorem dL_law_56 : decode code 56 = .ok (.bipush 15, 2) := by decide +kernel
theorem dL_law_58 : decode code 58 = .ok (.iand, 1) := by decide +kernel
theorem dL_law_136 : decode code 136 = .ok (.aload_n 1, 1) := by decide +kernel
theorem dL_law_137 : decode code 137 = .ok (.aload_n 0, 1) := by decide +kernel
theorem dL_law_138 : decode code 138 = .ok (.iload 4, 2) := by decide +kernel
theorem dL_law_140 : decode code 140 = .ok (.iconst 1, 1) := by decide +kernel
theorem dL_law_141 : decode code 141 = .ok (.iadd, 1) := by decide +kernel
theorem dL_law_142 : decode code 142 = .ok (.iaload, 1) := by decide +kernel
theorem dL_law_143 : decode code 143 = .ok (.aload_n 0, 1) := by decide +kernel
theorem dL_law_144 : decode code 144 = .ok (.iload 4, 2) := by decide +kernel
theorem dL_law_146 : decode code 146 = .ok (.iconst 2, 1) := by decide +kernel
theorem dL_law_147 : decode code 147 = .ok (.iadd, 1) := by decide +kernel
theorem dL_law_148 : decode code 148 = .ok (.iaload, 1) := by decide +kernel
theorem dL_law_149 : decode code 149 = .ok (.aload_n 0, 1) := by decide +kernel
theorem dL_law_150 : decode code 150 = .ok (.iload 4, 2) := by decide +kernel
theorem dL_law_152 : decode code 152 = .ok (.iconst 3, 1) := by decide +kernel
theorem dL_law_153 : decode code 153 = .ok (.iadd, 1) := by decide +kernel
theorem dL_law_154 : decode code 154 = .ok (.iaload, 1) := by decide +kernel
theorem dL_law_155 : decode code 155 = .ok (.aload_n 3, 1) := by decide +kernel
theorem dL_law_156 : decode code 156 = .ok (.invokestatic 54, 3) := by decide +kernel
theorem dL_law_159 : decode code 159 = .ok (.istore 5, 2) := by decide +kernel
theorem dL_law_161 : decode code 161 = .ok (.aload_n 2, 1) := by decide +kernel
theorem dL_law_162 : decode code 162 = .ok (.aload_n 0, 1) := by decide +kernel
theorem dL_law_163 : decode code 163 = .ok (.iload 4, 2) := by decide +kernel
theorem dL_law_165 : decode code 165 = .ok (.iconst 1, 1) := by decide +kernel
theorem dL_law_166 : decode code 166 = .ok (.iadd, 1) := by decide +kernel
theorem dL_law_167 : decode code 167 = .ok (.iaload, 1) := by decide +kernel
theorem dL_law_168 : decode code 168 = .ok (.aload_n 0, 1) := by decide +kernel
theorem dL_law_169 : decode code 169 = .ok (.iload 4, 2) := by decide +kernel
theorem dL_law_171 : decode code 171 = .ok (.iconst 2, 1) := by decide +kernel
theorem dL_law_172 : decode code 172 = .ok (.iadd, 1) := by decide +kernel
theorem dL_law_173 : decode code 173 = .ok (.iaload, 1) := by decide +kernel
theorem dL_law_174 : decode code 174 = .ok (.aload_n 0, 1) := by decide +kernel
theorem dL_law_175 : decode code 175 = .ok (.iload 4, 2) := by decide +kernel
theorem dL_law_177 : decode code 177 = .ok (.iconst 3, 1) := by decide +kernel
theorem dL_law_178 : decode code 178 = .ok (.iadd, 1) := by decide +kernel
theorem dL_law_179 : decode code 179 = .ok (.iaload, 1) := by decide +kernel
theorem dL_law_180 : decode code 180 = .ok (.invokevirtual 57, 3) := by decide +kernel
theorem dL_law_183 : decode code 183 = .ok (.istore 6, 2) := by decide +kernel
theorem dL_law_185 : decode code 185 = .ok (.aload_n 2, 1) := by decide +kernel
theorem dL_law_186 : decode code 186 = .ok (.invokevirtual 58, 3) := by decide +kernel
theorem dL_law_189 : decode code 189 = .ok (.iload 5, 2) := by decide +kernel
theorem dL_law_191 : decode code 191 = .ok (.if_icmp .eq 5, 3) := by decide +kernel
theorem dL_law_194 : decode code 194 = .ok (.iconst 0, 1) := by decide +kernel
theorem dL_law_195 : decode code 195 = .ok (.ireturn, 1) := by decide +kernel
theorem dL_law_196 : decode code 196 = .ok (.iload 5, 2) := by decide +kernel
theorem dL_law_198 : decode code 198 = .ok (.ifCond .ne 15, 3) := by decide +kernel
theorem dL_law_201 : decode code 201 = .ok (.aload_n 3, 1) := by decide +kernel
theorem dL_law_202 : decode code 202 = .ok (.iconst 0, 1) := by decide +kernel
theorem dL_law_203 : decode code 203 = .ok (.laload, 1) := by decide +kernel
theorem dL_law_204 : decode code 204 = .ok (.iload 6, 2) := by decide +kernel
theorem dL_law_206 : decode code 206 = .ok (.i2l, 1) := by decide +kernel
theorem dL_law_207 : decode code 207 = .ok (.lcmp, 1) := by decide +kernel
theorem dL_law_208 : decode code 208 = .ok (.ifCond .eq 5, 3) := by decide +kernel
theorem dL_law_211 : decode code 211 = .ok (.iconst 0, 1) := by decide +kernel
theorem dL_law_212 : decode code 212 = .ok (.ireturn, 1) := by decide +kernel
theorem dL_law_213 : decode code 213 = .ok (.goto 587, 3) := by decide +kernel
theorem dL_law_216 : decode code 216 = .ok (.aload_n 1, 1) := by decide +kernel
theorem dL_law_217 : decode code 217 = .ok (.aload_n 0, 1) := by decide +kernel
theorem dL_law_218 : decode code 218 = .ok (.iload 4, 2) := by decide +kernel
theorem dL_law_220 : decode code 220 = .ok (.iconst 1, 1) := by decide +kernel
theorem dL_law_221 : decode code 221 = .ok (.iadd, 1) := by decide +kernel
theorem dL_law_222 : decode code 222 = .ok (.iaload, 1) := by decide +kernel
theorem dL_law_223 : decode code 223 = .ok (.aload_n 0, 1) := by decide +kernel
theorem dL_law_224 : decode code 224 = .ok (.iload 4, 2) := by decide +kernel
theorem dL_law_226 : decode code 226 = .ok (.iconst 2, 1) := by decide +kernel
theorem dL_law_227 : decode code 227 = .ok (.iadd, 1) := by decide +kernel
theorem dL_law_228 : decode code 228 = .ok (.iaload, 1) := by decide +kernel
theorem dL_law_229 : decode code 229 = .ok (.aload_n 3, 1) := by decide +kernel
theorem dL_law_230 : decode code 230 = .ok (.invokestatic 62, 3) := by decide +kernel
theorem dL_law_233 : decode code 233 = .ok (.istore 5, 2) := by decide +kernel
theorem dL_law_235 : decode code 235 = .ok (.aload_n 2, 1) := by decide +kernel
theorem dL_law_236 : decode code 236 = .ok (.aload_n 0, 1) := by decide +kernel
theorem dL_law_237 : decode code 237 = .ok (.iload 4, 2) := by decide +kernel
theorem dL_law_239 : decode code 239 = .ok (.iconst 1, 1) := by decide +kernel
theorem dL_law_240 : decode code 240 = .ok (.iadd, 1) := by decide +kernel
theorem dL_law_241 : decode code 241 = .ok (.iaload, 1) := by decide +kernel
theorem dL_law_242 : decode code 242 = .ok (.aload_n 0, 1) := by decide +kernel
theorem dL_law_243 : decode code 243 = .ok (.iload 4, 2) := by decide +kernel
theorem dL_law_245 : decode code 245 = .ok (.iconst 2, 1) := by decide +kernel
theorem dL_law_246 : decode code 246 = .ok (.iadd, 1) := by decide +kernel
theorem dL_law_247 : decode code 247 = .ok (.iaload, 1) := by decide +kernel
theorem dL_law_248 : decode code 248 = .ok (.invokevirtual 65, 3) := by decide +kernel
theorem dL_law_251 : decode code 251 = .ok (.istore 6, 2) := by decide +kernel
theorem dL_law_253 : decode code 253 = .ok (.aload_n 2, 1) := by decide +kernel
theorem dL_law_254 : decode code 254 = .ok (.invokevirtual 58, 3) := by decide +kernel
theorem dL_law_257 : decode code 257 = .ok (.iload 5, 2) := by decide +kernel
theorem dL_law_259 : decode code 259 = .ok (.if_icmp .eq 5, 3) := by decide +kernel
theorem dL_law_262 : decode code 262 = .ok (.iconst 0, 1) := by decide +kernel
theorem dL_law_263 : decode code 263 = .ok (.ireturn, 1) := by decide +kernel
theorem dL_law_264 : decode code 264 = .ok (.iload 5, 2) := by decide +kernel
theorem dL_law_266 : decode code 266 = .ok (.ifCond .ne 15, 3) := by decide +kernel
theorem dL_law_269 : decode code 269 = .ok (.aload_n 3, 1) := by decide +kernel
theorem dL_law_270 : decode code 270 = .ok (.iconst 0, 1) := by decide +kernel
theorem dL_law_271 : decode code 271 = .ok (.laload, 1) := by decide +kernel
theorem dL_law_272 : decode code 272 = .ok (.iload 6, 2) := by decide +kernel
theorem dL_law_274 : decode code 274 = .ok (.i2l, 1) := by decide +kernel
theorem dL_law_275 : decode code 275 = .ok (.lcmp, 1) := by decide +kernel
theorem dL_law_276 : decode code 276 = .ok (.ifCond .eq 5, 3) := by decide +kernel
theorem dL_law_279 : decode code 279 = .ok (.iconst 0, 1) := by decide +kernel
theorem dL_law_280 : decode code 280 = .ok (.ireturn, 1) := by decide +kernel
theorem dL_law_281 : decode code 281 = .ok (.goto 519, 3) := by decide +kernel
theorem dL_law_284 : decode code 284 = .ok (.aload_n 1, 1) := by decide +kernel
theorem dL_law_285 : decode code 285 = .ok (.aload_n 0, 1) := by decide +kernel
theorem dL_law_286 : decode code 286 = .ok (.iload 4, 2) := by decide +kernel
theorem dL_law_288 : decode code 288 = .ok (.iconst 1, 1) := by decide +kernel
theorem dL_law_289 : decode code 289 = .ok (.iadd, 1) := by decide +kernel
theorem dL_law_290 : decode code 290 = .ok (.iaload, 1) := by decide +kernel
theorem dL_law_291 : decode code 291 = .ok (.aload_n 3, 1) := by decide +kernel
theorem dL_law_292 : decode code 292 = .ok (.invokestatic 66, 3) := by decide +kernel
theorem dL_law_295 : decode code 295 = .ok (.istore 5, 2) := by decide +kernel
theorem dL_law_297 : decode code 297 = .ok (.aload_n 2, 1) := by decide +kernel
theorem dL_law_298 : decode code 298 = .ok (.aload_n 0, 1) := by decide +kernel
theorem dL_law_299 : decode code 299 = .ok (.iload 4, 2) := by decide +kernel
theorem dL_law_301 : decode code 301 = .ok (.iconst 1, 1) := by decide +kernel
theorem dL_law_302 : decode code 302 = .ok (.iadd, 1) := by decide +kernel
theorem dL_law_303 : decode code 303 = .ok (.iaload, 1) := by decide +kernel
theorem dL_law_304 : decode code 304 = .ok (.invokevirtual 69, 3) := by decide +kernel
theorem dL_law_307 : decode code 307 = .ok (.istore 6, 2) := by decide +kernel
theorem dL_law_309 : decode code 309 = .ok (.aload_n 2, 1) := by decide +kernel
theorem dL_law_310 : decode code 310 = .ok (.invokevirtual 58, 3) := by decide +kernel
theorem dL_law_313 : decode code 313 = .ok (.iload 5, 2) := by decide +kernel
theorem dL_law_315 : decode code 315 = .ok (.if_icmp .eq 5, 3) := by decide +kernel
theorem dL_law_318 : decode code 318 = .ok (.iconst 0, 1) := by decide +kernel
theorem dL_law_319 : decode code 319 = .ok (.ireturn, 1) := by decide +kernel
theorem dL_law_320 : decode code 320 = .ok (.iload 5, 2) := by decide +kernel
theorem dL_law_322 : decode code 322 = .ok (.ifCond .ne 15, 3) := by decide +kernel
theorem dL_law_325 : decode code 325 = .ok (.aload_n 3, 1) := by decide +kernel
theorem dL_law_326 : decode code 326 = .ok (.iconst 0, 1) := by decide +kernel
theorem dL_law_327 : decode code 327 = .ok (.laload, 1) := by decide +kernel
theorem dL_law_328 : decode code 328 = .ok (.iload 6, 2) := by decide +kernel
theorem dL_law_330 : decode code 330 = .ok (.i2l, 1) := by decide +kernel
theorem dL_law_331 : decode code 331 = .ok (.lcmp, 1) := by decide +kernel
theorem dL_law_332 : decode code 332 = .ok (.ifCond .eq 5, 3) := by decide +kernel
theorem dL_law_335 : decode code 335 = .ok (.iconst 0, 1) := by decide +kernel
theorem dL_law_336 : decode code 336 = .ok (.ireturn, 1) := by decide +kernel
theorem dL_law_337 : decode code 337 = .ok (.goto 463, 3) := by decide +kernel
theorem dL_law_340 : decode code 340 = .ok (.aload_n 1, 1) := by decide +kernel
theorem dL_law_341 : decode code 341 = .ok (.aload_n 0, 1) := by decide +kernel
theorem dL_law_342 : decode code 342 = .ok (.iload 4, 2) := by decide +kernel
theorem dL_law_344 : decode code 344 = .ok (.iconst 1, 1) := by decide +kernel
theorem dL_law_345 : decode code 345 = .ok (.iadd, 1) := by decide +kernel
theorem dL_law_346 : decode code 346 = .ok (.iaload, 1) := by decide +kernel
theorem dL_law_347 : decode code 347 = .ok (.aload_n 0, 1) := by decide +kernel
theorem dL_law_348 : decode code 348 = .ok (.iload 4, 2) := by decide +kernel
theorem dL_law_350 : decode code 350 = .ok (.iconst 2, 1) := by decide +kernel
theorem dL_law_351 : decode code 351 = .ok (.iadd, 1) := by decide +kernel
theorem dL_law_352 : decode code 352 = .ok (.iaload, 1) := by decide +kernel
theorem dL_law_353 : decode code 353 = .ok (.aload_n 3, 1) := by decide +kernel
theorem dL_law_354 : decode code 354 = .ok (.invokestatic 70, 3) := by decide +kernel
theorem dL_law_357 : decode code 357 = .ok (.istore 5, 2) := by decide +kernel
theorem dL_law_359 : decode code 359 = .ok (.aload_n 2, 1) := by decide +kernel
theorem dL_law_360 : decode code 360 = .ok (.aload_n 0, 1) := by decide +kernel
theorem dL_law_361 : decode code 361 = .ok (.iload 4, 2) := by decide +kernel
theorem dL_law_363 : decode code 363 = .ok (.iconst 1, 1) := by decide +kernel
theorem dL_law_364 : decode code 364 = .ok (.iadd, 1) := by decide +kernel
theorem dL_law_365 : decode code 365 = .ok (.iaload, 1) := by decide +kernel
theorem dL_law_366 : decode code 366 = .ok (.aload_n 0, 1) := by decide +kernel
theorem dL_law_367 : decode code 367 = .ok (.iload 4, 2) := by decide +kernel
theorem dL_law_369 : decode code 369 = .ok (.iconst 2, 1) := by decide +kernel
theorem dL_law_370 : decode code 370 = .ok (.iadd, 1) := by decide +kernel
theorem dL_law_371 : decode code 371 = .ok (.iaload, 1) := by decide +kernel
theorem dL_law_372 : decode code 372 = .ok (.invokevirtual 72, 3) := by decide +kernel
theorem dL_law_375 : decode code 375 = .ok (.istore 6, 2) := by decide +kernel
theorem dL_law_377 : decode code 377 = .ok (.aload_n 2, 1) := by decide +kernel
theorem dL_law_378 : decode code 378 = .ok (.invokevirtual 58, 3) := by decide +kernel
theorem dL_law_381 : decode code 381 = .ok (.iload 5, 2) := by decide +kernel
theorem dL_law_383 : decode code 383 = .ok (.if_icmp .eq 5, 3) := by decide +kernel
theorem dL_law_386 : decode code 386 = .ok (.iconst 0, 1) := by decide +kernel
theorem dL_law_387 : decode code 387 = .ok (.ireturn, 1) := by decide +kernel
theorem dL_law_388 : decode code 388 = .ok (.iload 5, 2) := by decide +kernel
theorem dL_law_390 : decode code 390 = .ok (.ifCond .ne 15, 3) := by decide +kernel
theorem dL_law_393 : decode code 393 = .ok (.aload_n 3, 1) := by decide +kernel
theorem dL_law_394 : decode code 394 = .ok (.iconst 0, 1) := by decide +kernel
theorem dL_law_395 : decode code 395 = .ok (.laload, 1) := by decide +kernel
theorem dL_law_396 : decode code 396 = .ok (.iload 6, 2) := by decide +kernel
theorem dL_law_398 : decode code 398 = .ok (.i2l, 1) := by decide +kernel
theorem dL_law_399 : decode code 399 = .ok (.lcmp, 1) := by decide +kernel
theorem dL_law_400 : decode code 400 = .ok (.ifCond .eq 5, 3) := by decide +kernel
theorem dL_law_403 : decode code 403 = .ok (.iconst 0, 1) := by decide +kernel
theorem dL_law_404 : decode code 404 = .ok (.ireturn, 1) := by decide +kernel
theorem dL_law_405 : decode code 405 = .ok (.goto 395, 3) := by decide +kernel
theorem dL_law_408 : decode code 408 = .ok (.aload_n 1, 1) := by decide +kernel
theorem dL_law_409 : decode code 409 = .ok (.aload_n 0, 1) := by decide +kernel
theorem dL_law_410 : decode code 410 = .ok (.iload 4, 2) := by decide +kernel
theorem dL_law_412 : decode code 412 = .ok (.iconst 1, 1) := by decide +kernel
theorem dL_law_413 : decode code 413 = .ok (.iadd, 1) := by decide +kernel
theorem dL_law_414 : decode code 414 = .ok (.iaload, 1) := by decide +kernel
theorem dL_law_415 : decode code 415 = .ok (.aload_n 0, 1) := by decide +kernel
theorem dL_law_416 : decode code 416 = .ok (.iload 4, 2) := by decide +kernel
theorem dL_law_418 : decode code 418 = .ok (.iconst 2, 1) := by decide +kernel
theorem dL_law_419 : decode code 419 = .ok (.iadd, 1) := by decide +kernel
theorem dL_law_420 : decode code 420 = .ok (.iaload, 1) := by decide +kernel
theorem dL_law_421 : decode code 421 = .ok (.aload_n 0, 1) := by decide +kernel
theorem dL_law_422 : decode code 422 = .ok (.iload 4, 2) := by decide +kernel
theorem dL_law_424 : decode code 424 = .ok (.iconst 3, 1) := by decide +kernel
theorem dL_law_425 : decode code 425 = .ok (.iadd, 1) := by decide +kernel
theorem dL_law_426 : decode code 426 = .ok (.iaload, 1) := by decide +kernel
theorem dL_law_427 : decode code 427 = .ok (.aload_n 3, 1) := by decide +kernel
theorem dL_law_428 : decode code 428 = .ok (.invokestatic 73, 3) := by decide +kernel
theorem dL_law_431 : decode code 431 = .ok (.istore 5, 2) := by decide +kernel
theorem dL_law_433 : decode code 433 = .ok (.aload_n 2, 1) := by decide +kernel
theorem dL_law_434 : decode code 434 = .ok (.aload_n 0, 1) := by decide +kernel
theorem dL_law_435 : decode code 435 = .ok (.iload 4, 2) := by decide +kernel
theorem dL_law_437 : decode code 437 = .ok (.iconst 1, 1) := by decide +kernel
theorem dL_law_438 : decode code 438 = .ok (.iadd, 1) := by decide +kernel
theorem dL_law_439 : decode code 439 = .ok (.iaload, 1) := by decide +kernel
theorem dL_law_440 : decode code 440 = .ok (.aload_n 0, 1) := by decide +kernel
theorem dL_law_441 : decode code 441 = .ok (.iload 4, 2) := by decide +kernel
theorem dL_law_443 : decode code 443 = .ok (.iconst 2, 1) := by decide +kernel
theorem dL_law_444 : decode code 444 = .ok (.iadd, 1) := by decide +kernel
theorem dL_law_445 : decode code 445 = .ok (.iaload, 1) := by decide +kernel
theorem dL_law_446 : decode code 446 = .ok (.aload_n 0, 1) := by decide +kernel
theorem dL_law_447 : decode code 447 = .ok (.iload 4, 2) := by decide +kernel
theorem dL_law_449 : decode code 449 = .ok (.iconst 3, 1) := by decide +kernel
theorem dL_law_450 : decode code 450 = .ok (.iadd, 1) := by decide +kernel
theorem dL_law_451 : decode code 451 = .ok (.iaload, 1) := by decide +kernel
theorem dL_law_452 : decode code 452 = .ok (.invokevirtual 75, 3) := by decide +kernel
theorem dL_law_455 : decode code 455 = .ok (.istore 6, 2) := by decide +kernel
theorem dL_law_457 : decode code 457 = .ok (.aload_n 2, 1) := by decide +kernel
theorem dL_law_458 : decode code 458 = .ok (.invokevirtual 58, 3) := by decide +kernel
theorem dL_law_461 : decode code 461 = .ok (.iload 5, 2) := by decide +kernel
theorem dL_law_463 : decode code 463 = .ok (.if_icmp .eq 5, 3) := by decide +kernel
theorem dL_law_466 : decode code 466 = .ok (.iconst 0, 1) := by decide +kernel
theorem dL_law_467 : decode code 467 = .ok (.ireturn, 1) := by decide +kernel
theorem dL_law_468 : decode code 468 = .ok (.iload 5, 2) := by decide +kernel
theorem dL_law_470 : decode code 470 = .ok (.ifCond .ne 15, 3) := by decide +kernel
theorem dL_law_473 : decode code 473 = .ok (.aload_n 3, 1) := by decide +kernel
theorem dL_law_474 : decode code 474 = .ok (.iconst 0, 1) := by decide +kernel
theorem dL_law_475 : decode code 475 = .ok (.laload, 1) := by decide +kernel
theorem dL_law_476 : decode code 476 = .ok (.iload 6, 2) := by decide +kernel
theorem dL_law_478 : decode code 478 = .ok (.i2l, 1) := by decide +kernel
theorem dL_law_479 : decode code 479 = .ok (.lcmp, 1) := by decide +kernel
theorem dL_law_480 : decode code 480 = .ok (.ifCond .eq 5, 3) := by decide +kernel
theorem dL_law_483 : decode code 483 = .ok (.iconst 0, 1) := by decide +kernel
theorem dL_law_484 : decode code 484 = .ok (.ireturn, 1) := by decide +kernel
theorem dL_law_485 : decode code 485 = .ok (.goto 315, 3) := by decide +kernel
theorem dL_law_488 : decode code 488 = .ok (.aload_n 1, 1) := by decide +kernel
theorem dL_law_489 : decode code 489 = .ok (.aload_n 0, 1) := by decide +kernel
theorem dL_law_490 : decode code 490 = .ok (.iload 4, 2) := by decide +kernel
theorem dL_law_492 : decode code 492 = .ok (.iconst 1, 1) := by decide +kernel
theorem dL_law_493 : decode code 493 = .ok (.iadd, 1) := by decide +kernel
theorem dL_law_494 : decode code 494 = .ok (.iaload, 1) := by decide +kernel
theorem dL_law_495 : decode code 495 = .ok (.aload_n 3, 1) := by decide +kernel
theorem dL_law_496 : decode code 496 = .ok (.invokestatic 76, 3) := by decide +kernel
theorem dL_law_499 : decode code 499 = .ok (.istore 5, 2) := by decide +kernel
theorem dL_law_501 : decode code 501 = .ok (.aload_n 2, 1) := by decide +kernel
theorem dL_law_502 : decode code 502 = .ok (.aload_n 0, 1) := by decide +kernel
theorem dL_law_503 : decode code 503 = .ok (.iload 4, 2) := by decide +kernel
theorem dL_law_505 : decode code 505 = .ok (.iconst 1, 1) := by decide +kernel
theorem dL_law_506 : decode code 506 = .ok (.iadd, 1) := by decide +kernel
theorem dL_law_507 : decode code 507 = .ok (.iaload, 1) := by decide +kernel
theorem dL_law_508 : decode code 508 = .ok (.invokevirtual 78, 3) := by decide +kernel
theorem dL_law_511 : decode code 511 = .ok (.istore 6, 2) := by decide +kernel
theorem dL_law_513 : decode code 513 = .ok (.aload_n 2, 1) := by decide +kernel
theorem dL_law_514 : decode code 514 = .ok (.invokevirtual 58, 3) := by decide +kernel
theorem dL_law_517 : decode code 517 = .ok (.iload 5, 2) := by decide +kernel
theorem dL_law_519 : decode code 519 = .ok (.if_icmp .eq 5, 3) := by decide +kernel
theorem dL_law_522 : decode code 522 = .ok (.iconst 0, 1) := by decide +kernel
theorem dL_law_523 : decode code 523 = .ok (.ireturn, 1) := by decide +kernel
theorem dL_law_524 : decode code 524 = .ok (.iload 5, 2) := by decide +kernel
theorem dL_law_526 : decode code 526 = .ok (.ifCond .ne 15, 3) := by decide +kernel
theorem dL_law_529 : decode code 529 = .ok (.aload_n 3, 1) := by decide +kernel
theorem dL_law_530 : decode code 530 = .ok (.iconst 0, 1) := by decide +kernel
theorem dL_law_531 : decode code 531 = .ok (.laload, 1) := by decide +kernel
theorem dL_law_532 : decode code 532 = .ok (.iload 6, 2) := by decide +kernel
theorem dL_law_534 : decode code 534 = .ok (.i2l, 1) := by decide +kernel
theorem dL_law_535 : decode code 535 = .ok (.lcmp, 1) := by decide +kernel
theorem dL_law_536 : decode code 536 = .ok (.ifCond .eq 5, 3) := by decide +kernel
theorem dL_law_539 : decode code 539 = .ok (.iconst 0, 1) := by decide +kernel
theorem dL_law_540 : decode code 540 = .ok (.ireturn, 1) := by decide +kernel
theorem dL_law_541 : decode code 541 = .ok (.goto 259, 3) := by decide +kernel
theorem dL_law_544 : decode code 544 = .ok (.aload_n 1, 1) := by decide +kernel
theorem dL_law_545 : decode code 545 = .ok (.aload_n 0, 1) := by decide +kernel
theorem dL_law_546 : decode code 546 = .ok (.iload 4, 2) := by decide +kernel
theorem dL_law_548 : decode code 548 = .ok (.iconst 1, 1) := by decide +kernel
theorem dL_law_549 : decode code 549 = .ok (.iadd, 1) := by decide +kernel
theorem dL_law_550 : decode code 550 = .ok (.iaload, 1) := by decide +kernel
theorem dL_law_551 : decode code 551 = .ok (.aload_n 3, 1) := by decide +kernel
theorem dL_law_552 : decode code 552 = .ok (.invokestatic 79, 3) := by decide +kernel
theorem dL_law_555 : decode code 555 = .ok (.istore 5, 2) := by decide +kernel
theorem dL_law_557 : decode code 557 = .ok (.aload_n 2, 1) := by decide +kernel
theorem dL_law_558 : decode code 558 = .ok (.aload_n 0, 1) := by decide +kernel
theorem dL_law_559 : decode code 559 = .ok (.iload 4, 2) := by decide +kernel
theorem dL_law_561 : decode code 561 = .ok (.iconst 1, 1) := by decide +kernel
theorem dL_law_562 : decode code 562 = .ok (.iadd, 1) := by decide +kernel
theorem dL_law_563 : decode code 563 = .ok (.iaload, 1) := by decide +kernel
theorem dL_law_564 : decode code 564 = .ok (.invokevirtual 81, 3) := by decide +kernel
theorem dL_law_567 : decode code 567 = .ok (.istore 6, 2) := by decide +kernel
theorem dL_law_569 : decode code 569 = .ok (.aload_n 2, 1) := by decide +kernel
theorem dL_law_570 : decode code 570 = .ok (.invokevirtual 58, 3) := by decide +kernel
theorem dL_law_573 : decode code 573 = .ok (.iload 5, 2) := by decide +kernel
theorem dL_law_575 : decode code 575 = .ok (.if_icmp .eq 5, 3) := by decide +kernel
theorem dL_law_578 : decode code 578 = .ok (.iconst 0, 1) := by decide +kernel
theorem dL_law_579 : decode code 579 = .ok (.ireturn, 1) := by decide +kernel
theorem dL_law_580 : decode code 580 = .ok (.iload 5, 2) := by decide +kernel
theorem dL_law_582 : decode code 582 = .ok (.ifCond .ne 15, 3) := by decide +kernel
theorem dL_law_585 : decode code 585 = .ok (.aload_n 3, 1) := by decide +kernel
theorem dL_law_586 : decode code 586 = .ok (.iconst 0, 1) := by decide +kernel
theorem dL_law_587 : decode code 587 = .ok (.laload, 1) := by decide +kernel
theorem dL_law_588 : decode code 588 = .ok (.iload 6, 2) := by decide +kernel
theorem dL_law_590 : decode code 590 = .ok (.i2l, 1) := by decide +kernel
theorem dL_law_591 : decode code 591 = .ok (.lcmp, 1) := by decide +kernel
theorem dL_law_592 : decode code 592 = .ok (.ifCond .eq 5, 3) := by decide +kernel
theorem dL_law_595 : decode code 595 = .ok (.iconst 0, 1) := by decide +kernel
theorem dL_law_596 : decode code 596 = .ok (.ireturn, 1) := by decide +kernel
theorem dL_law_597 : decode code 597 = .ok (.goto 203, 3) := by decide +kernel
theorem dL_law_600 : decode code 600 = .ok (.aload_n 1, 1) := by decide +kernel
theorem dL_law_601 : decode code 601 = .ok (.aload_n 0, 1) := by decide +kernel
theorem dL_law_602 : decode code 602 = .ok (.iload 4, 2) := by decide +kernel
theorem dL_law_604 : decode code 604 = .ok (.iconst 1, 1) := by decide +kernel
theorem dL_law_605 : decode code 605 = .ok (.iadd, 1) := by decide +kernel
theorem dL_law_606 : decode code 606 = .ok (.iaload, 1) := by decide +kernel
theorem dL_law_607 : decode code 607 = .ok (.aload_n 0, 1) := by decide +kernel
theorem dL_law_608 : decode code 608 = .ok (.iload 4, 2) := by decide +kernel
theorem dL_law_610 : decode code 610 = .ok (.iconst 2, 1) := by decide +kernel
theorem dL_law_611 : decode code 611 = .ok (.iadd, 1) := by decide +kernel
theorem dL_law_612 : decode code 612 = .ok (.iaload, 1) := by decide +kernel
theorem dL_law_613 : decode code 613 = .ok (.invokestatic 82, 3) := by decide +kernel
theorem dL_law_616 : decode code 616 = .ok (.istore 5, 2) := by decide +kernel
theorem dL_law_618 : decode code 618 = .ok (.aload_n 2, 1) := by decide +kernel
theorem dL_law_619 : decode code 619 = .ok (.aload_n 0, 1) := by decide +kernel
theorem dL_law_620 : decode code 620 = .ok (.iload 4, 2) := by decide +kernel
theorem dL_law_622 : decode code 622 = .ok (.iconst 1, 1) := by decide +kernel
theorem dL_law_623 : decode code 623 = .ok (.iadd, 1) := by decide +kernel
theorem dL_law_624 : decode code 624 = .ok (.iaload, 1) := by decide +kernel
theorem dL_law_625 : decode code 625 = .ok (.aload_n 0, 1) := by decide +kernel
theorem dL_law_626 : decode code 626 = .ok (.iload 4, 2) := by decide +kernel
theorem dL_law_628 : decode code 628 = .ok (.iconst 2, 1) := by decide +kernel
theorem dL_law_629 : decode code 629 = .ok (.iadd, 1) := by decide +kernel
theorem dL_law_630 : decode code 630 = .ok (.iaload, 1) := by decide +kernel
theorem dL_law_631 : decode code 631 = .ok (.invokevirtual 85, 3) := by decide +kernel
theorem dL_law_634 : decode code 634 = .ok (.aload_n 2, 1) := by decide +kernel
theorem dL_law_635 : decode code 635 = .ok (.invokevirtual 58, 3) := by decide +kernel
theorem dL_law_638 : decode code 638 = .ok (.iload 5, 2) := by decide +kernel
theorem dL_law_640 : decode code 640 = .ok (.if_icmp .eq 5, 3) := by decide +kernel
theorem dL_law_643 : decode code 643 = .ok (.iconst 0, 1) := by decide +kernel
theorem dL_law_644 : decode code 644 = .ok (.ireturn, 1) := by decide +kernel
theorem dL_law_645 : decode code 645 = .ok (.goto 155, 3) := by decide +kernel
theorem dL_law_648 : decode code 648 = .ok (.aload_n 1, 1) := by decide +kernel
theorem dL_law_649 : decode code 649 = .ok (.invokevirtual 86, 3) := by decide +kernel
theorem dL_law_652 : decode code 652 = .ok (.aload_n 2, 1) := by decide +kernel
theorem dL_law_653 : decode code 653 = .ok (.invokevirtual 89, 3) := by decide +kernel
theorem dL_law_656 : decode code 656 = .ok (.if_icmp .eq 144, 3) := by decide +kernel
theorem dL_law_659 : decode code 659 = .ok (.iconst 0, 1) := by decide +kernel
theorem dL_law_660 : decode code 660 = .ok (.ireturn, 1) := by decide +kernel
theorem dL_law_661 : decode code 661 = .ok (.aload_n 1, 1) := by decide +kernel
theorem dL_law_662 : decode code 662 = .ok (.invokevirtual 90, 3) := by decide +kernel
theorem dL_law_665 : decode code 665 = .ok (.aload_n 2, 1) := by decide +kernel
theorem dL_law_666 : decode code 666 = .ok (.invokevirtual 93, 3) := by decide +kernel
theorem dL_law_669 : decode code 669 = .ok (.if_icmp .eq 131, 3) := by decide +kernel
theorem dL_law_672 : decode code 672 = .ok (.iconst 0, 1) := by decide +kernel
theorem dL_law_673 : decode code 673 = .ok (.ireturn, 1) := by decide +kernel
theorem dL_law_674 : decode code 674 = .ok (.aload_n 1, 1) := by decide +kernel
theorem dL_law_675 : decode code 675 = .ok (.aload_n 0, 1) := by decide +kernel
theorem dL_law_676 : decode code 676 = .ok (.iload 4, 2) := by decide +kernel
theorem dL_law_678 : decode code 678 = .ok (.iconst 1, 1) := by decide +kernel
theorem dL_law_679 : decode code 679 = .ok (.iadd, 1) := by decide +kernel
theorem dL_law_680 : decode code 680 = .ok (.iaload, 1) := by decide +kernel
theorem dL_law_681 : decode code 681 = .ok (.invokevirtual 94, 3) := by decide +kernel
theorem dL_law_684 : decode code 684 = .ok (.aload_n 2, 1) := by decide +kernel
theorem dL_law_685 : decode code 685 = .ok (.aload_n 0, 1) := by decide +kernel
theorem dL_law_686 : decode code 686 = .ok (.iload 4, 2) := by decide +kernel
theorem dL_law_688 : decode code 688 = .ok (.iconst 1, 1) := by decide +kernel
theorem dL_law_689 : decode code 689 = .ok (.iadd, 1) := by decide +kernel
theorem dL_law_690 : decode code 690 = .ok (.iaload, 1) := by decide +kernel
theorem dL_law_691 : decode code 691 = .ok (.invokevirtual 98, 3) := by decide +kernel
theorem dL_law_694 : decode code 694 = .ok (.if_icmp .eq 106, 3) := by decide +kernel
theorem dL_law_697 : decode code 697 = .ok (.iconst 0, 1) := by decide +kernel
theorem dL_law_698 : decode code 698 = .ok (.ireturn, 1) := by decide +kernel
theorem dL_law_699 : decode code 699 = .ok (.aload_n 1, 1) := by decide +kernel
theorem dL_law_700 : decode code 700 = .ok (.aload_n 0, 1) := by decide +kernel
theorem dL_law_701 : decode code 701 = .ok (.iload 4, 2) := by decide +kernel
theorem dL_law_703 : decode code 703 = .ok (.iconst 1, 1) := by decide +kernel
theorem dL_law_704 : decode code 704 = .ok (.iadd, 1) := by decide +kernel
theorem dL_law_705 : decode code 705 = .ok (.iaload, 1) := by decide +kernel
theorem dL_law_706 : decode code 706 = .ok (.invokevirtual 99, 3) := by decide +kernel
theorem dL_law_709 : decode code 709 = .ok (.aload_n 2, 1) := by decide +kernel
theorem dL_law_710 : decode code 710 = .ok (.aload_n 0, 1) := by decide +kernel
theorem dL_law_711 : decode code 711 = .ok (.iload 4, 2) := by decide +kernel
theorem dL_law_713 : decode code 713 = .ok (.iconst 1, 1) := by decide +kernel
theorem dL_law_714 : decode code 714 = .ok (.iadd, 1) := by decide +kernel
theorem dL_law_715 : decode code 715 = .ok (.iaload, 1) := by decide +kernel
theorem dL_law_716 : decode code 716 = .ok (.invokevirtual 102, 3) := by decide +kernel
theorem dL_law_719 : decode code 719 = .ok (.if_icmp .eq 81, 3) := by decide +kernel
theorem dL_law_722 : decode code 722 = .ok (.iconst 0, 1) := by decide +kernel
theorem dL_law_723 : decode code 723 = .ok (.ireturn, 1) := by decide +kernel
theorem dL_law_724 : decode code 724 = .ok (.aload_n 1, 1) := by decide +kernel
theorem dL_law_725 : decode code 725 = .ok (.aload_n 0, 1) := by decide +kernel
theorem dL_law_726 : decode code 726 = .ok (.iload 4, 2) := by decide +kernel
theorem dL_law_728 : decode code 728 = .ok (.iconst 1, 1) := by decide +kernel
theorem dL_law_729 : decode code 729 = .ok (.iadd, 1) := by decide +kernel
theorem dL_law_730 : decode code 730 = .ok (.iaload, 1) := by decide +kernel
theorem dL_law_731 : decode code 731 = .ok (.invokevirtual 103, 3) := by decide +kernel
theorem dL_law_734 : decode code 734 = .ok (.aload_n 2, 1) := by decide +kernel
theorem dL_law_735 : decode code 735 = .ok (.aload_n 0, 1) := by decide +kernel
theorem dL_law_736 : decode code 736 = .ok (.iload 4, 2) := by decide +kernel
theorem dL_law_738 : decode code 738 = .ok (.iconst 1, 1) := by decide +kernel
theorem dL_law_739 : decode code 739 = .ok (.iadd, 1) := by decide +kernel
theorem dL_law_740 : decode code 740 = .ok (.iaload, 1) := by decide +kernel
theorem dL_law_741 : decode code 741 = .ok (.invokevirtual 106, 3) := by decide +kernel
theorem dL_law_744 : decode code 744 = .ok (.if_icmp .eq 56, 3) := by decide +kernel
theorem dL_law_747 : decode code 747 = .ok (.iconst 0, 1) := by decide +kernel
theorem dL_law_748 : decode code 748 = .ok (.ireturn, 1) := by decide +kernel
theorem dL_law_749 : decode code 749 = .ok (.aload_n 1, 1) := by decide +kernel
theorem dL_law_750 : decode code 750 = .ok (.aload_n 0, 1) := by decide +kernel
theorem dL_law_751 : decode code 751 = .ok (.iload 4, 2) := by decide +kernel
theorem dL_law_753 : decode code 753 = .ok (.iconst 1, 1) := by decide +kernel
theorem dL_law_754 : decode code 754 = .ok (.iadd, 1) := by decide +kernel
theorem dL_law_755 : decode code 755 = .ok (.iaload, 1) := by decide +kernel
theorem dL_law_756 : decode code 756 = .ok (.invokevirtual 107, 3) := by decide +kernel
theorem dL_law_759 : decode code 759 = .ok (.aload_n 2, 1) := by decide +kernel
theorem dL_law_760 : decode code 760 = .ok (.aload_n 0, 1) := by decide +kernel
theorem dL_law_761 : decode code 761 = .ok (.iload 4, 2) := by decide +kernel
theorem dL_law_763 : decode code 763 = .ok (.iconst 1, 1) := by decide +kernel
theorem dL_law_764 : decode code 764 = .ok (.iadd, 1) := by decide +kernel
theorem dL_law_765 : decode code 765 = .ok (.iaload, 1) := by decide +kernel
theorem dL_law_766 : decode code 766 = .ok (.invokevirtual 110, 3) := by decide +kernel
theorem dL_law_769 : decode code 769 = .ok (.if_icmp .eq 31, 3) := by decide +kernel
theorem dL_law_772 : decode code 772 = .ok (.iconst 0, 1) := by decide +kernel
theorem dL_law_773 : decode code 773 = .ok (.ireturn, 1) := by decide +kernel
theorem dL_law_774 : decode code 774 = .ok (.aload_n 1, 1) := by decide +kernel
theorem dL_law_775 : decode code 775 = .ok (.invokevirtual 111, 3) := by decide +kernel
theorem dL_law_778 : decode code 778 = .ok (.aload_n 2, 1) := by decide +kernel
theorem dL_law_779 : decode code 779 = .ok (.invokevirtual 114, 3) := by decide +kernel
theorem dL_law_782 : decode code 782 = .ok (.if_icmp .eq 18, 3) := by decide +kernel
theorem dL_law_785 : decode code 785 = .ok (.iconst 0, 1) := by decide +kernel
theorem dL_law_786 : decode code 786 = .ok (.ireturn, 1) := by decide +kernel
theorem dL_law_787 : decode code 787 = .ok (.aload_n 1, 1) := by decide +kernel
theorem dL_law_788 : decode code 788 = .ok (.invokevirtual 115, 3) := by decide +kernel
theorem dL_law_791 : decode code 791 = .ok (.aload_n 2, 1) := by decide +kernel
theorem dL_law_792 : decode code 792 = .ok (.invokevirtual 118, 3) := by decide +kernel
theorem dL_law_795 : decode code 795 = .ok (.if_icmp .eq 5, 3) := by decide +kernel
theorem dL_law_798 : decode code 798 = .ok (.iconst 0, 1) := by decide +kernel
theorem dL_law_799 : decode code 799 = .ok (.ireturn, 1) := by decide +kernel
theorem dL_law_800 : decode code 800 = .ok (.iinc 4 4, 3) := by decide +kernel
theorem dL_law_803 : decode code 803 = .ok (.goto (-760), 3) := by decide +kernel
theorem dL_law_806 : decode code 806 = .ok (.iconst 1, 1) := by decide +kernel
theorem dL_law_807 : decode code 807 = .ok (.ireturn, 1) := by decide +kernel
theorem dL_law_59 : decode code 59 = .ok (.tableswitch 741 0 15 #[77, 157, 225, 281, 349, 429, 485, 541, 589, 602, 615, 640, 665, 690, 715, 728], 77) := by decide +kernel
def sm_instantiate (W E : Nat) (J : Nat → GS → GS → Prop) : Prop := ∀ (n : Nat) (X M : GS) (a1 a2 a3 : Int32), n ≤ 600 → J n X M → ∀ (PX : Int32 → GS → Prop) (PE : String → GS → Prop), (∀ r X1, (∀ PM : Int32 → GS → Prop, (∀ M1, M1 100 0 = 0 → J (n + 1) X1 M1 → PM r M1) → wp_M_instantiate [a1, a2, a3] M PM) → PX r X1) → (∀ X1, (∀ PM : Int32 → GS → Prop, (∀ r' M1, M1 100 0 = 1 → J (n + 1) X1 M1 → PM r' M1) → wp_M_instantiate [a1, a2, a3] M PM) → PE xE1 X1) → (∀ X1, (∀ PM : Int32 → GS → Prop, (∀ r' M1, M1 100 0 = 2 → J (n + 1) X1 M1 → PM r' M1) → wp_M_instantiate [a1, a2, a3] M PM) → PE xE2 X1) → (∀ X1, (∀ PM : Int32 → GS → Prop, (∀ r' M1, M1 100 0 = 3 → J (n + 1) X1 M1 → PM r' M1) → wp_M_instantiate [a1, a2, a3] M PM) → PE xE3 X1) → wp_X_instantiate W E [a1, a2, a3] X PX PE
def sm_set (W E : Nat) (J : Nat → GS → GS → Prop) : Prop := ∀ (n : Nat) (X M : GS) (a1 a2 : Int32), n ≤ 600 → J n X M → ∀ (PX : Int32 → GS → Prop) (PE : String → GS → Prop), (∀ r X1, (∀ PM : Int32 → GS → Prop, (∀ M1, M1 100 0 = 0 → J (n + 1) X1 M1 → PM r M1) → wp_M_set [a1, a2] M PM) → PX r X1) → (∀ X1, (∀ PM : Int32 → GS → Prop, (∀ r' M1, M1 100 0 = 1 → J (n + 1) X1 M1 → PM r' M1) → wp_M_set [a1, a2] M PM) → PE xE1 X1) → (∀ X1, (∀ PM : Int32 → GS → Prop, (∀ r' M1, M1 100 0 = 2 → J (n + 1) X1 M1 → PM r' M1) → wp_M_set [a1, a2] M PM) → PE xE2 X1) → wp_X_set W E [a1, a2] X PX PE
def sm_register (W E : Nat) (J : Nat → GS → GS → Prop) : Prop := ∀ (n : Nat) (X M : GS) (a1 : Int32), n ≤ 600 → J n X M → ∀ (PX : Int32 → GS → Prop) (PE : String → GS → Prop), (∀ r X1, (∀ PM : Int32 → GS → Prop, (∀ M1, M1 100 0 = 0 → J (n + 1) X1 M1 → PM r M1) → wp_M_register [a1] M PM) → PX r X1) → (∀ X1, (∀ PM : Int32 → GS → Prop, (∀ r' M1, M1 100 0 = 1 → J (n + 1) X1 M1 → PM r' M1) → wp_M_register [a1] M PM) → PE xE1 X1) → wp_X_register W E [a1] X PX PE
def sm_fetch (W E : Nat) (J : Nat → GS → GS → Prop) : Prop := ∀ (n : Nat) (X M : GS) (a1 a2 : Int32), n ≤ 600 → J n X M → ∀ (PX : Int32 → GS → Prop) (PE : String → GS → Prop), (∀ r X1, (∀ PM : Int32 → GS → Prop, (∀ M1, M1 100 0 = 0 → J (n + 1) X1 M1 → PM r M1) → wp_M_fetch [a1, a2] M PM) → PX r X1) → (∀ X1, (∀ PM : Int32 → GS → Prop, (∀ r' M1, M1 100 0 = 1 → J (n + 1) X1 M1 → PM r' M1) → wp_M_fetch [a1, a2] M PM) → PE xE2 X1) → (∀ X1, (∀ PM : Int32 → GS → Prop, (∀ r' M1, M1 100 0 = 2 → J (n + 1) X1 M1 → PM r' M1) → wp_M_fetch [a1, a2] M PM) → PE xE1 X1) → wp_X_fetch W E [a1, a2] X PX PE
def sm_store (W E : Nat) (J : Nat → GS → GS → Prop) : Prop := ∀ (n : Nat) (X M : GS) (a1 a2 a3 : Int32), n ≤ 600 → J n X M → ∀ (PX : Int32 → GS → Prop) (PE : String → GS → Prop), (∀ r X1, (∀ PM : Int32 → GS → Prop, (∀ M1, M1 100 0 = 0 → J (n + 1) X1 M1 → PM r M1) → wp_M_store [a1, a2, a3] M PM) → PX r X1) → (∀ X1, (∀ PM : Int32 → GS → Prop, (∀ r' M1, M1 100 0 = 1 → J (n + 1) X1 M1 → PM r' M1) → wp_M_store [a1, a2, a3] M PM) → PE xE2 X1) → (∀ X1, (∀ PM : Int32 → GS → Prop, (∀ r' M1, M1 100 0 = 2 → J (n + 1) X1 M1 → PM r' M1) → wp_M_store [a1, a2, a3] M PM) → PE xE1 X1) → wp_X_store W E [a1, a2, a3] X PX PE
def sm_type (W E : Nat) (J : Nat → GS → GS → Prop) : Prop := ∀ (n : Nat) (X M : GS) (a1 : Int32), n ≤ 600 → J n X M → ∀ (PX : Int32 → GS → Prop) (PE : String → GS → Prop), (∀ r X1, (∀ PM : Int32 → GS → Prop, (∀ M1, M1 100 0 = 0 → J (n + 1) X1 M1 → PM r M1) → wp_M_type [a1] M PM) → PX r X1) → (∀ X1, (∀ PM : Int32 → GS → Prop, (∀ r' M1, M1 100 0 = 1 → J (n + 1) X1 M1 → PM r' M1) → wp_M_type [a1] M PM) → PE xE2 X1) → wp_X_type W E [a1] X PX PE
def sm_fields (W E : Nat) (J : Nat → GS → GS → Prop) : Prop := ∀ (n : Nat) (X M : GS) (a1 : Int32), n ≤ 600 → J n X M → ∀ (PX : Int32 → GS → Prop) (PE : String → GS → Prop), (∀ r X1, (∀ PM : Int32 → GS → Prop, (∀ M1, M1 100 0 = 0 → J (n + 1) X1 M1 → PM r M1) → wp_M_fields [a1] M PM) → PX r X1) → (∀ X1, (∀ PM : Int32 → GS → Prop, (∀ r' M1, M1 100 0 = 1 → J (n + 1) X1 M1 → PM r' M1) → wp_M_fields [a1] M PM) → PE xE2 X1) → wp_X_fields W E [a1] X PX PE
def sm_become (W E : Nat) (J : Nat → GS → GS → Prop) : Prop := ∀ (n : Nat) (X M : GS) (a1 a2 : Int32), n ≤ 600 → J n X M → ∀ (PX : GS → Prop) (PE : String → GS → Prop), (∀ X1, (∀ PM : GS → Prop, (∀ M1, M1 100 0 = 0 → J (n + 1) X1 M1 → PM M1) → wp_M_become [a1, a2] M PM) → PX X1) → (∀ X1, (∀ PM : GS → Prop, (∀ M1, M1 100 0 = 1 → J (n + 1) X1 M1 → PM M1) → wp_M_become [a1, a2] M PM) → PE xE2 X1) → wp_X_become W E [a1, a2] X PX PE
def sm_collect (W E : Nat) (J : Nat → GS → GS → Prop) : Prop := ∀ (n : Nat) (X M : GS), n ≤ 600 → J n X M → ∀ (PX : Int32 → GS → Prop), (∀ r X1, (∀ PM : Int32 → GS → Prop, (∀ M1, J (n + 1) X1 M1 → PM r M1) → wp_M_collect [] M PM) → PX r X1) → wp_X_collect W E [] X PX
def sm_compact (W E : Nat) (J : Nat → GS → GS → Prop) : Prop := ∀ (n : Nat) (X M : GS), n ≤ 600 → J n X M → ∀ (PX : Int32 → GS → Prop), (∀ r X1, (∀ PM : Int32 → GS → Prop, (∀ M1, J (n + 1) X1 M1 → PM r M1) → wp_M_compact [] M PM) → PX r X1) → wp_X_compact W E [] X PX
def sm_exists (W E : Nat) (J : Nat → GS → GS → Prop) : Prop := ∀ (n : Nat) (X M : GS) (a1 : Int32), n ≤ 600 → J n X M → ∀ (PX : Int32 → GS → Prop), (∀ r X1, (∀ PM : Int32 → GS → Prop, (∀ M1, J (n + 1) X1 M1 → PM r M1) → wp_M_exists [a1] M PM) → PX r X1) → wp_X_exists W E [a1] X PX
def sm_count (W E : Nat) (J : Nat → GS → GS → Prop) : Prop := ∀ (n : Nat) (X M : GS) (a1 : Int32), n ≤ 600 → J n X M → ∀ (PX : Int32 → GS → Prop), (∀ r X1, (∀ PM : Int32 → GS → Prop, (∀ M1, J (n + 1) X1 M1 → PM r M1) → wp_M_count [a1] M PM) → PX r X1) → wp_X_count W E [a1] X PX
def sm_address (W E : Nat) (J : Nat → GS → GS → Prop) : Prop := ∀ (n : Nat) (X M : GS) (a1 : Int32), n ≤ 600 → J n X M → ∀ (PX : Int32 → GS → Prop), (∀ r X1, (∀ PM : Int32 → GS → Prop, (∀ M1, J (n + 1) X1 M1 → PM r M1) → wp_M_address [a1] M PM) → PX r X1) → wp_X_address W E [a1] X PX
def sm_chunks (W E : Nat) (J : Nat → GS → GS → Prop) : Prop := ∀ (n : Nat) (X M : GS) (a1 : Int32), n ≤ 600 → J n X M → ∀ (PX : Int32 → GS → Prop), (∀ r X1, (∀ PM : Int32 → GS → Prop, (∀ M1, J (n + 1) X1 M1 → PM r M1) → wp_M_chunks [a1] M PM) → PX r X1) → wp_X_chunks W E [a1] X PX (fun _ _ => False)
def sm_free (W E : Nat) (J : Nat → GS → GS → Prop) : Prop := ∀ (n : Nat) (X M : GS), n ≤ 600 → J n X M → ∀ (PX : Int32 → GS → Prop), (∀ r X1, (∀ PM : Int32 → GS → Prop, (∀ M1, J (n + 1) X1 M1 → PM r M1) → wp_M_free [] M PM) → PX r X1) → wp_X_free W E [] X PX
def sm_objects (W E : Nat) (J : Nat → GS → GS → Prop) : Prop := ∀ (n : Nat) (X M : GS), n ≤ 600 → J n X M → ∀ (PX : Int32 → GS → Prop), (∀ r X1, (∀ PM : Int32 → GS → Prop, (∀ M1, J (n + 1) X1 M1 → PM r M1) → wp_M_objects [] M PM) → PX r X1) → wp_X_objects W E [] X PX
/-- what is to be shown of class and reference: J holds between them after n calls -/
def SIM (W E : Nat) (J : Nat → GS → GS → Prop) : Prop := (∀ n X X' M, (∀ k, k < 150 → X k = X' k) → J n X M → J n X' M) ∧ sm_instantiate W E J ∧ sm_set W E J ∧ sm_register W E J ∧ sm_fetch W E J ∧ sm_store W E J ∧ sm_type W E J ∧ sm_fields W E J ∧ sm_become W E J ∧ sm_collect W E J ∧ sm_compact W E J ∧ sm_exists W E J ∧ sm_count W E J ∧ sm_address W E J ∧ sm_chunks W E J ∧ sm_free W E J ∧ sm_objects W E J
theorem SIM.instantiate_ {W E : Nat} {J : Nat → GS → GS → Prop} (h : SIM W E J) : sm_instantiate W E J := h.2.1
theorem SIM.set_ {W E : Nat} {J : Nat → GS → GS → Prop} (h : SIM W E J) : sm_set W E J := h.2.2.1
theorem SIM.register_ {W E : Nat} {J : Nat → GS → GS → Prop} (h : SIM W E J) : sm_register W E J := h.2.2.2.1
theorem SIM.fetch_ {W E : Nat} {J : Nat → GS → GS → Prop} (h : SIM W E J) : sm_fetch W E J := h.2.2.2.2.1
theorem SIM.store_ {W E : Nat} {J : Nat → GS → GS → Prop} (h : SIM W E J) : sm_store W E J := h.2.2.2.2.2.1
theorem SIM.type_ {W E : Nat} {J : Nat → GS → GS → Prop} (h : SIM W E J) : sm_type W E J := h.2.2.2.2.2.2.1
theorem SIM.fields_ {W E : Nat} {J : Nat → GS → GS → Prop} (h : SIM W E J) : sm_fields W E J := h.2.2.2.2.2.2.2.1
theorem SIM.become_ {W E : Nat} {J : Nat → GS → GS → Prop} (h : SIM W E J) : sm_become W E J := h.2.2.2.2.2.2.2.2.1
theorem SIM.collect_ {W E : Nat} {J : Nat → GS → GS → Prop} (h : SIM W E J) : sm_collect W E J := h.2.2.2.2.2.2.2.2.2.1
theorem SIM.compact_ {W E : Nat} {J : Nat → GS → GS → Prop} (h : SIM W E J) : sm_compact W E J := h.2.2.2.2.2.2.2.2.2.2.1
theorem SIM.exists_ {W E : Nat} {J : Nat → GS → GS → Prop} (h : SIM W E J) : sm_exists W E J := h.2.2.2.2.2.2.2.2.2.2.2.1
theorem SIM.count_ {W E : Nat} {J : Nat → GS → GS → Prop} (h : SIM W E J) : sm_count W E J := h.2.2.2.2.2.2.2.2.2.2.2.2.1
theorem SIM.address_ {W E : Nat} {J : Nat → GS → GS → Prop} (h : SIM W E J) : sm_address W E J := h.2.2.2.2.2.2.2.2.2.2.2.2.2.1
theorem SIM.chunks_ {W E : Nat} {J : Nat → GS → GS → Prop} (h : SIM W E J) : sm_chunks W E J := h.2.2.2.2.2.2.2.2.2.2.2.2.2.2.1
theorem SIM.free_ {W E : Nat} {J : Nat → GS → GS → Prop} (h : SIM W E J) : sm_free W E J := h.2.2.2.2.2.2.2.2.2.2.2.2.2.2.2.1
theorem SIM.objects_ {W E : Nat} {J : Nat → GS → GS → Prop} (h : SIM W E J) : sm_objects W E J := h.2.2.2.2.2.2.2.2.2.2.2.2.2.2.2.2
theorem lm_x (S S1 : GS) : lm (ljx S S1) = lm S := by
  funext k
  show (if 200 + k < 150 then S1 (200 + k) else S (200 + k)) = S (200 + k)
  rw [if_neg (by omega)]
theorem lm_o (S : GS) (r : Int32) : lm (gx_set 150 0 r S) = lm S := by
  funext k
  show (if 200 + k = 150 then _ else S (200 + k)) = S (200 + k)
  rw [if_neg (by omega)]
theorem lm_m (S S1 : GS) : lm (ljm S S1) = S1 := by
  funext k
  show (if 200 ≤ 200 + k then S1 (200 + k - 200) else S (200 + k)) = S1 k
  rw [if_pos (by omega), Nat.add_sub_cancel_left]
theorem lj_mm (S S1 : GS) : ljm (ljm S S1) S1 = ljm S S1 := by
  funext k
  unfold ljm
  by_cases h : 200 ≤ k
  · rw [if_pos h, if_pos h]
  · rw [if_neg h, if_neg h]
theorem lx_x (S S1 : GS) : ∀ k, k < 150 → S1 k = ljx S S1 k := fun k h => by
  show S1 k = if k < 150 then S1 k else S k
  rw [if_pos h]
theorem lx_o (S : GS) (r : Int32) : ∀ k, k < 150 → S k = gx_set 150 0 r S k := fun k h => by
  show S k = if k = 150 then _ else S k
  rw [if_neg (by omega)]
theorem lx_m (S S1 : GS) : ∀ k, k < 150 → S k = ljm S S1 k := fun k h => by
  show S k = if 200 ≤ k then _ else S k
  rw [if_neg (by omega)]
theorem lo_o (S : GS) (r : Int32) : gx_set 150 0 r S 150 0 = r := rfl
theorem lo_m (S S1 : GS) : ljm S S1 150 0 = S 150 0 := rfl
theorem wp_thrown (S : GS) : wp_M_thrown [] S (fun r M2 => r = S 100 0 ∧ M2 = S) := fun V hV => hV 0 S [] ⟨rfl, rfl⟩
/-- what the law's loop stands on -/
def LC (p : Program) (l : Launch) (s : State) (m : MethodId) (b Ln : Nat) (xs : Nat → Int32) (meth : Method) (c : Code) (dC : Nat → ClassId) (dI : Nat → Nat → Nat) (cI cZ cL : ClassId) (W E : Nat) (A : Nat → Prop) (J : Nat → GS → GS → Prop) : Prop :=
  GC p s m #[Value.ref b] c code 7 RL wsA (dC, dI) gx_cl (ltys cI cZ cL) A ∧ l.stackTraces = false ∧ ZL A s ∧ va_X b Ln xs s s.heap ∧ b < s.heap.size ∧ ¬ A b ∧ SIM W E J ∧ Ln ≤ 2050
section LLA
variable {p : Program} {l : Launch} {e : Env} {R : Room} {s : State} {m : MethodId} {args : Array Value} {below : List Frame} {meth : Method} {c : Code} {Q : State → Prop}
variable {cc : ByteArray} {nL : Nat} {own : String} {Ts : List Cond} {D : va_G} {cl : List vw_C} {tys : List (ClassId × FieldType)} {A : Nat → Prop} {wd : GS → va_W}
variable {nc ns : Nat} {S : GS} {pc : Nat} {L : List (Nat × Value)} {st : List Value}
theorem gl_sld (C : GC p s m args c cc nL own Ts D cl tys A) {b Ln : Nat} {xs : Nat → Int32} (hX : va_X b Ln xs s s.heap) (hbl : b < s.heap.size) (hbA : ¬ A b) {j : Nat} (hj : j < Ln) (hLn : Ln ≤ 2050) (d : decode cc pc = .ok (.iaload, 1)) (k : GW nc ns p l e R s m args below meth c Q nL D cl A wd S (pc + 1) L (.int (xs j) :: st)) : GW nc ns p l e R s m args below meth c Q nL D cl A wd S pc L (.int (nI j) :: .ref b :: st) :=
  fun H locs ls h1 h2 h3 h4 => va_sld C.1.1 C.1.2.1 hX hbl hbA h4 (vp_in_nI hj (by omega)) d (by rw [nI_clamp (by omega)]; exact k H locs ls h1 h2 h3 h4)
theorem gl_slen (C : GC p s m args c cc nL own Ts D cl tys A) {b Ln : Nat} {xs : Nat → Int32} (hX : va_X b Ln xs s s.heap) (hbl : b < s.heap.size) (hbA : ¬ A b) (d : decode cc pc = .ok (.arraylength, 1)) (k : GW nc ns p l e R s m args below meth c Q nL D cl A wd S (pc + 1) L (.int (nI Ln) :: st)) : GW nc ns p l e R s m args below meth c Q nL D cl A wd S pc L (.ref b :: st) :=
  fun H locs ls h1 h2 h3 h4 => va_slen C.1.1 C.1.2.1 hX hbl hbA h4 d (k H locs ls h1 h2 h3 h4)
/-- script[i + k] -/
theorem gl_arg (C : GC p s m args c cc nL own Ts D cl tys A) {b Ln : Nat} {xs : Nat → Int32} (hX : va_X b Ln xs s s.heap) (hbl : b < s.heap.size) (hbA : ¬ A b) (hLn : Ln ≤ 2050) {i k : Nat} {v : Int} (j0 j4 : Nat) (h0 : L[j0]? = some (0, .ref b)) (h4 : L[j4]? = some (4, .int (nI i))) (hv : Int32.ofInt v = nI k) (hik : i + k < Ln) (d0 : decode cc pc = .ok (.aload_n 0, 1)) (d1 : decode cc (pc + 1) = .ok (.iload 4, 2)) (d3 : decode cc (pc + 1 + 2) = .ok (.iconst v, 1)) (d4 : decode cc (pc + 1 + 2 + 1) = .ok (.iadd, 1)) (d5 : decode cc (pc + 1 + 2 + 1 + 1) = .ok (.iaload, 1)) (kk : GW nc ns p l e R s m args below meth c Q nL D cl A wd S (pc + 6) L (.int (xs (i + k)) :: st)) : GW nc ns p l e R s m args below meth c Q nL D cl A wd S pc L st := by
  refine gx_aload_n C d0 j0 rfl h0 ?_
  refine gx_iload C d1 j4 h4 ?_
  refine gx_iconst (v := nI k) C d3 hv ?_
  refine gx_iadd C d4 ?_
  rw [nI_add]
  exact gl_sld C hX hbl hbA hik hLn d5 kk
theorem gl_widen {nc' ns' : Nat} (h1 : nc ≤ nc') (h2 : ns ≤ ns') (k : GW nc' ns' p l e R s m args below meth c Q nL D cl A wd S pc L st) : GW nc ns p l e R s m args below meth c Q nL D cl A wd S pc L st :=
  fun H locs ls g1 g2 g3 g4 => W.widen h1 h2 (k H locs ls g1 g2 g3 g4)
theorem gl_blindL {wd : GS → va_W} {D : va_G} {cl : List vw_C} {tys : List (ClassId × FieldType)} {S : GS} {av : List Value} {sz : Nat} {B : Nat → Prop} : FrameBlind (va_Pc av (fun U => GP wd D cl tys S sz U ∧ ZL B U)) := fun a U g mk q => by
  obtain ⟨q0, ⟨q1, qP, qK, qD⟩, qZ⟩ := q
  exact ⟨q0, ⟨q1, qP, va_K.moved (u := U) (U := U.calling g mk a) (Vm.Alike.refl U.vm) qK, qD⟩, qZ.calling g mk a⟩
theorem gl_callL (C : GC p s m args c cc nL own wsA D cl tys A) (hZ : ZL A s) {y : MethodName} {rm : Room} {bytes : ByteArray} {maxL n index : Nat} {ret : Option FieldType} {hh : List (Nat × Nat × Nat × Nat)} {As rest : List Value} {post : Int32 → GS → Prop} (hM : LMetI l y (Cond.codeWith y bytes maxL ret hh :: wsA) rm D cl tys wd As S post) (h1 : Cond.methodLink own index y ∈ wsA) (h2 : Cond.static y ∈ wsA) (h3 : Cond.initialized y.cls ∈ wsA) (h5 : Cond.codeWith y bytes maxL ret hh ∈ wsA) (hrc : rm.cells = 1) (hrs : rm.slots = 6) (hd : y.cls ≠ "java/lang/invoke/MethodHandle" ∧ y.cls ≠ "java/lang/invoke/VarHandle" ∧ (parseMethodDescriptor y.desc).map (fun d => d.parameters.length) = some n) (hR : rm.frames + 1 ≤ R.frames ∧ 8 + (maxL + 11) + rm.locals ≤ R.locals) (hn : As.length = n) (hw : (rest.map fun v => v.category).sum ≤ 8) (d : decode cc pc = .ok (.invokestatic index, 3)) {st0 : List Value} (hst : st0 = As.reverse ++ rest) (hAd : ∀ S' : GS, (wd S').map (fun q => q.1) = (wd S).map (fun q => q.1)) (hcs : nc + 1 ≤ R.cells ∧ ns + 6 ≤ R.slots) (kk : ∀ (r : Int32) (S1 : GS), post r S1 → GW (nc + 1) (ns + 6) p l e R s m args below meth c Q nL D cl A wd S1 (pc + 3) L (.int r :: rest)) : GW nc ns p l e R s m args below meth c Q nL D cl A wd S pc L st0 := by
  intro H locs ls g1 g2 g3 g4
  have hFc := gx_free C g3 g4
  have cw : vx_CSW R s args own index y bytes maxL ret hh (Cond.codeWith y bytes maxL ret hh :: wsA) rm 1 6 n := by
    refine vx_cwSW n C.1.2.2.2.2 (gx_good C.2.2.2 ?_) rfl hrc hrs hd hR
    intro w hw
    unfold va_wsS at hw
    rcases List.mem_append.mp hw with hw | hw
    · rcases List.mem_cons.mp hw with rfl | hw
      · exact h1
      · rcases List.mem_cons.mp hw with rfl | hw
        · exact h2
        · rw [List.mem_singleton.mp hw]; exact h3
    · rcases List.mem_cons.mp hw with rfl | hw
      · exact h5
      · exact hw
  refine va_calli (vx_runSW (As := As) (rest := rest) C.1 (hM H.size) cw ⟨gl_blindL, fun U hU hW => ⟨rfl, ⟨by rw [hU], by rw [hU]; exact g2, va_K.moved hW.alike C.2.1, g3.weaken (fun _ _ _ _ => trivial)⟩, hZ.to hW hU g4 hFc⟩⟩ rfl hn g1.1 hst (lv_room hw) d hcs) g4 (fun q _ h => hFc q h) hFc (fun r u t H1 locs1 ht hvm hp hB hz hk hS => ?_)
  obtain ⟨hP1, hK1, hD1⟩ := hB
  rw [ht] at hP1
  exact kk r u hp H1 locs1 ls g1 hP1 (gx_D (hAd u) g3) hS
end LLA
section LLB
variable {p : Program} {l : Launch} {e : Env} {s : State} {m : MethodId} {b Ln : Nat} {xs : Nat → Int32} {below : List Frame} {meth : Method} {c : Code} {dC : Nat → ClassId} {dI : Nat → Nat → Nat} {cI cZ cL : ClassId} {o o' : Nat → Nat} {oo W E : Nat} {A : Nat → Prop} {J : Nat → GS → GS → Prop}
theorem lc_end (X : LC p l s m b Ln xs meth c dC dI cI cZ cL W E A J) {n i : Nat} {nc ns : Nat} (h1 : nc ≤ 30 + (n + 1)) (h2 : ns ≤ 6000 + 6 * (n + 1)) (S : GS) (hJ : J (n + 1) S (lm S)) (ih : ∀ S' : GS, J (n + 1) S' (lm S') → GW (30 + (n + 1)) (6000 + 6 * (n + 1)) p l e room_1 s m #[Value.ref b] below meth c (lw_Z below #[Value.ref b] s) 7 (dC, dI) gx_cl A (lw cI cZ cL o o' oo W E) S' 43 [(4, .int (nI (i + 4))), (0, .ref b), (1, .ref (o 0)), (2, .ref (o' 0)), (3, .ref oo)] []) : GW (nc) (ns) p l e room_1 s m #[Value.ref b] below meth c (lw_Z below #[Value.ref b] s) 7 (dC, dI) gx_cl A (lw cI cZ cL o o' oo W E) S 800 [(4, .int (nI i)), (0, .ref b), (1, .ref (o 0)), (2, .ref (o' 0)), (3, .ref oo)] [] := by
  refine gl_widen h1 h2 ?_
  refine gx_iinc (v0 := 4) (f := fun v => [(4, .int v), (0, .ref b), (1, .ref (o 0)), (2, .ref (o' 0)), (3, .ref oo)]) X.1 dL_law_800 0 rfl (by decide) (by decide) (fun _ => rfl) (fun v ev => ?_)
  have ev : v = nI (i + 4) := ev.trans (nI_add i 4)
  subst ev
  refine gx_goto X.1 dL_law_803 43 rfl ?_
  exact ih S hJ
set_option maxHeartbeats 4000000 in
set_option maxRecDepth 100000 in
theorem lc_instantiate (X : LC p l s m b Ln xs meth c dC dI cI cZ cL W E A J) {n i : Nat} (hn : n ≤ 600) (hi : i + 3 < Ln) (S : GS) (hJ : J n S (lm S)) (ih : ∀ S' : GS, J (n + 1) S' (lm S') → GW (30 + (n + 1)) (6000 + 6 * (n + 1)) p l e room_1 s m #[Value.ref b] below meth c (lw_Z below #[Value.ref b] s) 7 (dC, dI) gx_cl A (lw cI cZ cL o o' oo W E) S' 43 [(4, .int (nI (i + 4))), (0, .ref b), (1, .ref (o 0)), (2, .ref (o' 0)), (3, .ref oo)] []) : GW (30 + n) (6000 + 6 * n) p l e room_1 s m #[Value.ref b] below meth c (lw_Z below #[Value.ref b] s) 7 (dC, dI) gx_cl A (lw cI cZ cL o o' oo W E) S 136 [(4, .int (nI i)), (0, .ref b), (1, .ref (o 0)), (2, .ref (o' 0)), (3, .ref oo)] [] := by
  obtain ⟨C, hl, hZ, hX, hbl, hbA, hSim, hLn⟩ := id X
  refine gx_aload_n C dL_law_136 2 rfl rfl ?_
  refine gl_arg C hX hbl hbA hLn (k := 1) 1 0 rfl rfl (by decide) (by omega) dL_law_137 dL_law_138 dL_law_140 dL_law_141 dL_law_142 ?_
  refine gl_arg C hX hbl hbA hLn (k := 2) 1 0 rfl rfl (by decide) (by omega) dL_law_143 dL_law_144 dL_law_146 dL_law_147 dL_law_148 ?_
  refine gl_arg C hX hbl hbA hLn (k := 3) 1 0 rfl rfl (by decide) (by omega) dL_law_149 dL_law_150 dL_law_152 dL_law_153 dL_law_154 ?_
  refine gx_aload_n C dL_law_155 4 rfl rfl ?_
  refine gl_callL (n := 5) (As := [.ref (o 0), .int (xs (i + 1)), .int (xs (i + 2)), .int (xs (i + 3)), .ref oo]) (rest := []) C hZ (mt_L_instantiate l hl dC dI cI cZ cL o o' oo W E _ _ _ S (fun k S1 => ∀ PM : Int32 → GS → Prop, (∀ r' M1, M1 100 0 = k → (k = 0 → r' = S1 150 0) → J (n + 1) S1 M1 → PM r' M1) → wp_M_instantiate [(xs (i + 1)), (xs (i + 2)), (xs (i + 3))] (lm S1) PM) (hSim.instantiate_ n S (lm S) _ _ _ hn hJ _ _ (fun r X1 hM PM h => by rw [lm_o, lm_x]; exact hM PM (fun M1 h1 h2 => h r M1 h1 (fun _ => (lo_o _ r).symm) (hSim.1 _ _ _ _ (lx_o _ r) (hSim.1 _ _ _ _ (lx_x S X1) h2)))) (fun X1 hM => Or.inl ⟨rfl, fun PM h => by rw [lm_x]; exact hM PM (fun r' M1 h1 h2 => h r' M1 h1 (fun h0 => absurd h0 (by decide)) (hSim.1 _ _ _ _ (lx_x S X1) h2))⟩) (fun X1 hM => Or.inr (Or.inl ⟨rfl, fun PM h => by rw [lm_x]; exact hM PM (fun r' M1 h1 h2 => h r' M1 h1 (fun h0 => absurd h0 (by decide)) (hSim.1 _ _ _ _ (lx_x S X1) h2))⟩)) (fun X1 hM => Or.inr (Or.inr (⟨rfl, fun PM h => by rw [lm_x]; exact hM PM (fun r' M1 h1 h2 => h r' M1 h1 (fun h0 => absurd h0 (by decide)) (hSim.1 _ _ _ _ (lx_x S X1) h2))⟩))))) ln_L_54 sm_L_instantiate in_CountedObjectsLaw cw_L_instantiate rfl rfl (by decide +kernel) ⟨Nat.le_of_ble_eq_true rfl, Nat.le_of_ble_eq_true rfl⟩ rfl (Nat.le_of_ble_eq_true rfl) dL_law_156 rfl (fun S1 => lw_ad _ S1) ⟨by show 30 + n + 1 ≤ 601024; omega, by show 6000 + 6 * n + 6 ≤ 7293000; omega⟩ (fun k S1 hs => ?_)
  refine gx_istore (L' := [(5, .int k), (4, .int (nI i)), (0, .ref b), (1, .ref (o 0)), (2, .ref (o' 0)), (3, .ref oo)]) C dL_law_159 (by decide) rfl ?_
  refine gx_aload_n C dL_law_161 4 rfl rfl ?_
  refine gl_arg C hX hbl hbA hLn (k := 1) 2 1 rfl rfl (by decide) (by omega) dL_law_162 dL_law_163 dL_law_165 dL_law_166 dL_law_167 ?_
  refine gl_arg C hX hbl hbA hLn (k := 2) 2 1 rfl rfl (by decide) (by omega) dL_law_168 dL_law_169 dL_law_171 dL_law_172 dL_law_173 ?_
  refine gl_arg C hX hbl hbA hLn (k := 3) 2 1 rfl rfl (by decide) (by omega) dL_law_174 dL_law_175 dL_law_177 dL_law_178 dL_law_179 ?_
  refine gl_callMi (As := [.int (xs (i + 1)), .int (xs (i + 2)), .int (xs (i + 3))]) (rest := []) C (mt_M_instantiate l dC dI cI cZ o' _ _ _ (lm S1) (fun r' M1 => M1 100 0 = k ∧ (k = 0 → r' = S1 150 0) ∧ J (n + 1) S1 M1) (hs _ (fun r' M1 h1 h2 h3 => ⟨h1, h2, h3⟩))) (gx_cwV C 3 ln_L_57 im_M_instantiate se_M_instantiate in_CountedObjectsModel cd_M_instantiate rfl rfl (by decide +kernel) ⟨Nat.le_of_ble_eq_true rfl, Nat.le_of_ble_eq_true rfl⟩) rfl (Nat.le_of_ble_eq_true rfl) dL_law_180 rfl ⟨by show 30 + n + 1 ≤ 601024; omega, by show 6000 + 6 * n + 6 ≤ 7293000; omega⟩ (fun r' M1 hm => ?_)
  refine gx_istore (L' := [(6, .int r'), (5, .int k), (4, .int (nI i)), (0, .ref b), (1, .ref (o 0)), (2, .ref (o' 0)), (3, .ref oo)]) C dL_law_183 (by decide) rfl ?_
  obtain ⟨hm1, hm2, hm3⟩ := hm
  refine gx_aload_n C dL_law_185 5 rfl rfl ?_
  refine gl_callMi (As := []) (rest := []) C (mt_M_thrown l dC dI cI cZ o' (lm (ljm S1 M1)) _ (wp_thrown _)) (gx_cwV C 0 ln_L_58 im_M_thrown se_M_thrown in_CountedObjectsModel cd_M_thrown rfl rfl (by decide +kernel) ⟨Nat.le_of_ble_eq_true rfl, Nat.le_of_ble_eq_true rfl⟩) rfl (Nat.le_of_ble_eq_true rfl) dL_law_186 rfl ⟨by show 30 + n + 1 ≤ 601024; omega, by show 6000 + 6 * n + 6 ≤ 7293000; omega⟩ (fun t M2 ht => ?_)
  obtain ⟨ht1, ht2⟩ := ht
  rw [lm_m] at ht1 ht2
  subst ht2
  rw [lj_mm]
  have ht : t = k := ht1.trans hm1
  subst ht
  have hJ3 : J (n + 1) (ljm S1 M2) (lm (ljm S1 M2)) := by rw [lm_m]; exact hSim.1 _ _ _ _ (lx_m S1 M2) hm3
  refine gx_iload C dL_law_189 1 rfl ?_
  refine gx_icmp_eq C dL_law_191 196 rfl (fun _ => ?_) (fun hc => absurd rfl hc)
  refine gx_iload C dL_law_196 1 rfl ?_
  refine gx_if_ne C dL_law_198 213 rfl (fun _ => ?_) (fun h0 => ?_)
  · refine gx_goto C dL_law_213 800 rfl ?_
    refine gx_sub [2, 3, 4, 5, 6] rfl ?_
    exact lc_end X (by omega) (by omega) _ hJ3 ih
  · refine gx_aload_n C dL_law_201 6 rfl rfl ?_
    refine gx_iconst (v := 0) C dL_law_202 (by decide) ?_
    refine gl_laload C dL_law_203 ?_
    refine gx_iload C dL_law_204 0 rfl ?_
    refine gl_i2l C dL_law_206 ?_
    refine gl_lcmp C dL_law_207 ?_
    refine gx_if_eq C dL_law_208 213 rfl (fun _ => ?_) (fun hc => absurd ((lg_cmp_eq _ _).mpr ?_) hc)
    · refine gx_goto C dL_law_213 800 rfl ?_
      refine gx_sub [2, 3, 4, 5, 6] rfl ?_
      exact lc_end X (by omega) (by omega) _ hJ3 ih
    · rw [lo_m, hm2 h0]
set_option maxHeartbeats 4000000 in
set_option maxRecDepth 100000 in
theorem lc_set (X : LC p l s m b Ln xs meth c dC dI cI cZ cL W E A J) {n i : Nat} (hn : n ≤ 600) (hi : i + 3 < Ln) (S : GS) (hJ : J n S (lm S)) (ih : ∀ S' : GS, J (n + 1) S' (lm S') → GW (30 + (n + 1)) (6000 + 6 * (n + 1)) p l e room_1 s m #[Value.ref b] below meth c (lw_Z below #[Value.ref b] s) 7 (dC, dI) gx_cl A (lw cI cZ cL o o' oo W E) S' 43 [(4, .int (nI (i + 4))), (0, .ref b), (1, .ref (o 0)), (2, .ref (o' 0)), (3, .ref oo)] []) : GW (30 + n) (6000 + 6 * n) p l e room_1 s m #[Value.ref b] below meth c (lw_Z below #[Value.ref b] s) 7 (dC, dI) gx_cl A (lw cI cZ cL o o' oo W E) S 216 [(4, .int (nI i)), (0, .ref b), (1, .ref (o 0)), (2, .ref (o' 0)), (3, .ref oo)] [] := by
  obtain ⟨C, hl, hZ, hX, hbl, hbA, hSim, hLn⟩ := id X
  refine gx_aload_n C dL_law_216 2 rfl rfl ?_
  refine gl_arg C hX hbl hbA hLn (k := 1) 1 0 rfl rfl (by decide) (by omega) dL_law_217 dL_law_218 dL_law_220 dL_law_221 dL_law_222 ?_
  refine gl_arg C hX hbl hbA hLn (k := 2) 1 0 rfl rfl (by decide) (by omega) dL_law_223 dL_law_224 dL_law_226 dL_law_227 dL_law_228 ?_
  refine gx_aload_n C dL_law_229 4 rfl rfl ?_
  refine gl_callL (n := 4) (As := [.ref (o 0), .int (xs (i + 1)), .int (xs (i + 2)), .ref oo]) (rest := []) C hZ (mt_L_set l hl dC dI cI cZ cL o o' oo W E _ _ S (fun k S1 => ∀ PM : Int32 → GS → Prop, (∀ r' M1, M1 100 0 = k → (k = 0 → r' = S1 150 0) → J (n + 1) S1 M1 → PM r' M1) → wp_M_set [(xs (i + 1)), (xs (i + 2))] (lm S1) PM) (hSim.set_ n S (lm S) _ _ hn hJ _ _ (fun r X1 hM PM h => by rw [lm_o, lm_x]; exact hM PM (fun M1 h1 h2 => h r M1 h1 (fun _ => (lo_o _ r).symm) (hSim.1 _ _ _ _ (lx_o _ r) (hSim.1 _ _ _ _ (lx_x S X1) h2)))) (fun X1 hM => Or.inl ⟨rfl, fun PM h => by rw [lm_x]; exact hM PM (fun r' M1 h1 h2 => h r' M1 h1 (fun h0 => absurd h0 (by decide)) (hSim.1 _ _ _ _ (lx_x S X1) h2))⟩) (fun X1 hM => Or.inr (⟨rfl, fun PM h => by rw [lm_x]; exact hM PM (fun r' M1 h1 h2 => h r' M1 h1 (fun h0 => absurd h0 (by decide)) (hSim.1 _ _ _ _ (lx_x S X1) h2))⟩)))) ln_L_62 sm_L_set in_CountedObjectsLaw cw_L_set rfl rfl (by decide +kernel) ⟨Nat.le_of_ble_eq_true rfl, Nat.le_of_ble_eq_true rfl⟩ rfl (Nat.le_of_ble_eq_true rfl) dL_law_230 rfl (fun S1 => lw_ad _ S1) ⟨by show 30 + n + 1 ≤ 601024; omega, by show 6000 + 6 * n + 6 ≤ 7293000; omega⟩ (fun k S1 hs => ?_)
  refine gx_istore (L' := [(5, .int k), (4, .int (nI i)), (0, .ref b), (1, .ref (o 0)), (2, .ref (o' 0)), (3, .ref oo)]) C dL_law_233 (by decide) rfl ?_
  refine gx_aload_n C dL_law_235 4 rfl rfl ?_
  refine gl_arg C hX hbl hbA hLn (k := 1) 2 1 rfl rfl (by decide) (by omega) dL_law_236 dL_law_237 dL_law_239 dL_law_240 dL_law_241 ?_
  refine gl_arg C hX hbl hbA hLn (k := 2) 2 1 rfl rfl (by decide) (by omega) dL_law_242 dL_law_243 dL_law_245 dL_law_246 dL_law_247 ?_
  refine gl_callMi (As := [.int (xs (i + 1)), .int (xs (i + 2))]) (rest := []) C (mt_M_set l dC dI cI cZ o' _ _ (lm S1) (fun r' M1 => M1 100 0 = k ∧ (k = 0 → r' = S1 150 0) ∧ J (n + 1) S1 M1) (hs _ (fun r' M1 h1 h2 h3 => ⟨h1, h2, h3⟩))) (gx_cwV C 2 ln_L_65 im_M_set se_M_set in_CountedObjectsModel cd_M_set rfl rfl (by decide +kernel) ⟨Nat.le_of_ble_eq_true rfl, Nat.le_of_ble_eq_true rfl⟩) rfl (Nat.le_of_ble_eq_true rfl) dL_law_248 rfl ⟨by show 30 + n + 1 ≤ 601024; omega, by show 6000 + 6 * n + 6 ≤ 7293000; omega⟩ (fun r' M1 hm => ?_)
  refine gx_istore (L' := [(6, .int r'), (5, .int k), (4, .int (nI i)), (0, .ref b), (1, .ref (o 0)), (2, .ref (o' 0)), (3, .ref oo)]) C dL_law_251 (by decide) rfl ?_
  obtain ⟨hm1, hm2, hm3⟩ := hm
  refine gx_aload_n C dL_law_253 5 rfl rfl ?_
  refine gl_callMi (As := []) (rest := []) C (mt_M_thrown l dC dI cI cZ o' (lm (ljm S1 M1)) _ (wp_thrown _)) (gx_cwV C 0 ln_L_58 im_M_thrown se_M_thrown in_CountedObjectsModel cd_M_thrown rfl rfl (by decide +kernel) ⟨Nat.le_of_ble_eq_true rfl, Nat.le_of_ble_eq_true rfl⟩) rfl (Nat.le_of_ble_eq_true rfl) dL_law_254 rfl ⟨by show 30 + n + 1 ≤ 601024; omega, by show 6000 + 6 * n + 6 ≤ 7293000; omega⟩ (fun t M2 ht => ?_)
  obtain ⟨ht1, ht2⟩ := ht
  rw [lm_m] at ht1 ht2
  subst ht2
  rw [lj_mm]
  have ht : t = k := ht1.trans hm1
  subst ht
  have hJ3 : J (n + 1) (ljm S1 M2) (lm (ljm S1 M2)) := by rw [lm_m]; exact hSim.1 _ _ _ _ (lx_m S1 M2) hm3
  refine gx_iload C dL_law_257 1 rfl ?_
  refine gx_icmp_eq C dL_law_259 264 rfl (fun _ => ?_) (fun hc => absurd rfl hc)
  refine gx_iload C dL_law_264 1 rfl ?_
  refine gx_if_ne C dL_law_266 281 rfl (fun _ => ?_) (fun h0 => ?_)
  · refine gx_goto C dL_law_281 800 rfl ?_
    refine gx_sub [2, 3, 4, 5, 6] rfl ?_
    exact lc_end X (by omega) (by omega) _ hJ3 ih
  · refine gx_aload_n C dL_law_269 6 rfl rfl ?_
    refine gx_iconst (v := 0) C dL_law_270 (by decide) ?_
    refine gl_laload C dL_law_271 ?_
    refine gx_iload C dL_law_272 0 rfl ?_
    refine gl_i2l C dL_law_274 ?_
    refine gl_lcmp C dL_law_275 ?_
    refine gx_if_eq C dL_law_276 281 rfl (fun _ => ?_) (fun hc => absurd ((lg_cmp_eq _ _).mpr ?_) hc)
    · refine gx_goto C dL_law_281 800 rfl ?_
      refine gx_sub [2, 3, 4, 5, 6] rfl ?_
      exact lc_end X (by omega) (by omega) _ hJ3 ih
    · rw [lo_m, hm2 h0]
set_option maxHeartbeats 4000000 in
set_option maxRecDepth 100000 in
theorem lc_register (X : LC p l s m b Ln xs meth c dC dI cI cZ cL W E A J) {n i : Nat} (hn : n ≤ 600) (hi : i + 3 < Ln) (S : GS) (hJ : J n S (lm S)) (ih : ∀ S' : GS, J (n + 1) S' (lm S') → GW (30 + (n + 1)) (6000 + 6 * (n + 1)) p l e room_1 s m #[Value.ref b] below meth c (lw_Z below #[Value.ref b] s) 7 (dC, dI) gx_cl A (lw cI cZ cL o o' oo W E) S' 43 [(4, .int (nI (i + 4))), (0, .ref b), (1, .ref (o 0)), (2, .ref (o' 0)), (3, .ref oo)] []) : GW (30 + n) (6000 + 6 * n) p l e room_1 s m #[Value.ref b] below meth c (lw_Z below #[Value.ref b] s) 7 (dC, dI) gx_cl A (lw cI cZ cL o o' oo W E) S 284 [(4, .int (nI i)), (0, .ref b), (1, .ref (o 0)), (2, .ref (o' 0)), (3, .ref oo)] [] := by
  obtain ⟨C, hl, hZ, hX, hbl, hbA, hSim, hLn⟩ := id X
  refine gx_aload_n C dL_law_284 2 rfl rfl ?_
  refine gl_arg C hX hbl hbA hLn (k := 1) 1 0 rfl rfl (by decide) (by omega) dL_law_285 dL_law_286 dL_law_288 dL_law_289 dL_law_290 ?_
  refine gx_aload_n C dL_law_291 4 rfl rfl ?_
  refine gl_callL (n := 3) (As := [.ref (o 0), .int (xs (i + 1)), .ref oo]) (rest := []) C hZ (mt_L_register l hl dC dI cI cZ cL o o' oo W E _ S (fun k S1 => ∀ PM : Int32 → GS → Prop, (∀ r' M1, M1 100 0 = k → (k = 0 → r' = S1 150 0) → J (n + 1) S1 M1 → PM r' M1) → wp_M_register [(xs (i + 1))] (lm S1) PM) (hSim.register_ n S (lm S) _ hn hJ _ _ (fun r X1 hM PM h => by rw [lm_o, lm_x]; exact hM PM (fun M1 h1 h2 => h r M1 h1 (fun _ => (lo_o _ r).symm) (hSim.1 _ _ _ _ (lx_o _ r) (hSim.1 _ _ _ _ (lx_x S X1) h2)))) (fun X1 hM => ⟨rfl, fun PM h => by rw [lm_x]; exact hM PM (fun r' M1 h1 h2 => h r' M1 h1 (fun h0 => absurd h0 (by decide)) (hSim.1 _ _ _ _ (lx_x S X1) h2))⟩))) ln_L_66 sm_L_register in_CountedObjectsLaw cw_L_register rfl rfl (by decide +kernel) ⟨Nat.le_of_ble_eq_true rfl, Nat.le_of_ble_eq_true rfl⟩ rfl (Nat.le_of_ble_eq_true rfl) dL_law_292 rfl (fun S1 => lw_ad _ S1) ⟨by show 30 + n + 1 ≤ 601024; omega, by show 6000 + 6 * n + 6 ≤ 7293000; omega⟩ (fun k S1 hs => ?_)
  refine gx_istore (L' := [(5, .int k), (4, .int (nI i)), (0, .ref b), (1, .ref (o 0)), (2, .ref (o' 0)), (3, .ref oo)]) C dL_law_295 (by decide) rfl ?_
  refine gx_aload_n C dL_law_297 4 rfl rfl ?_
  refine gl_arg C hX hbl hbA hLn (k := 1) 2 1 rfl rfl (by decide) (by omega) dL_law_298 dL_law_299 dL_law_301 dL_law_302 dL_law_303 ?_
  refine gl_callMi (As := [.int (xs (i + 1))]) (rest := []) C (mt_M_register l dC dI cI cZ o' _ (lm S1) (fun r' M1 => M1 100 0 = k ∧ (k = 0 → r' = S1 150 0) ∧ J (n + 1) S1 M1) (hs _ (fun r' M1 h1 h2 h3 => ⟨h1, h2, h3⟩))) (gx_cwV C 1 ln_L_69 im_M_register se_M_register in_CountedObjectsModel cd_M_register rfl rfl (by decide +kernel) ⟨Nat.le_of_ble_eq_true rfl, Nat.le_of_ble_eq_true rfl⟩) rfl (Nat.le_of_ble_eq_true rfl) dL_law_304 rfl ⟨by show 30 + n + 1 ≤ 601024; omega, by show 6000 + 6 * n + 6 ≤ 7293000; omega⟩ (fun r' M1 hm => ?_)
  refine gx_istore (L' := [(6, .int r'), (5, .int k), (4, .int (nI i)), (0, .ref b), (1, .ref (o 0)), (2, .ref (o' 0)), (3, .ref oo)]) C dL_law_307 (by decide) rfl ?_
  obtain ⟨hm1, hm2, hm3⟩ := hm
  refine gx_aload_n C dL_law_309 5 rfl rfl ?_
  refine gl_callMi (As := []) (rest := []) C (mt_M_thrown l dC dI cI cZ o' (lm (ljm S1 M1)) _ (wp_thrown _)) (gx_cwV C 0 ln_L_58 im_M_thrown se_M_thrown in_CountedObjectsModel cd_M_thrown rfl rfl (by decide +kernel) ⟨Nat.le_of_ble_eq_true rfl, Nat.le_of_ble_eq_true rfl⟩) rfl (Nat.le_of_ble_eq_true rfl) dL_law_310 rfl ⟨by show 30 + n + 1 ≤ 601024; omega, by show 6000 + 6 * n + 6 ≤ 7293000; omega⟩ (fun t M2 ht => ?_)
  obtain ⟨ht1, ht2⟩ := ht
  rw [lm_m] at ht1 ht2
  subst ht2
  rw [lj_mm]
  have ht : t = k := ht1.trans hm1
  subst ht
  have hJ3 : J (n + 1) (ljm S1 M2) (lm (ljm S1 M2)) := by rw [lm_m]; exact hSim.1 _ _ _ _ (lx_m S1 M2) hm3
  refine gx_iload C dL_law_313 1 rfl ?_
  refine gx_icmp_eq C dL_law_315 320 rfl (fun _ => ?_) (fun hc => absurd rfl hc)
  refine gx_iload C dL_law_320 1 rfl ?_
  refine gx_if_ne C dL_law_322 337 rfl (fun _ => ?_) (fun h0 => ?_)
  · refine gx_goto C dL_law_337 800 rfl ?_
    refine gx_sub [2, 3, 4, 5, 6] rfl ?_
    exact lc_end X (by omega) (by omega) _ hJ3 ih
  · refine gx_aload_n C dL_law_325 6 rfl rfl ?_
    refine gx_iconst (v := 0) C dL_law_326 (by decide) ?_
    refine gl_laload C dL_law_327 ?_
    refine gx_iload C dL_law_328 0 rfl ?_
    refine gl_i2l C dL_law_330 ?_
    refine gl_lcmp C dL_law_331 ?_
    refine gx_if_eq C dL_law_332 337 rfl (fun _ => ?_) (fun hc => absurd ((lg_cmp_eq _ _).mpr ?_) hc)
    · refine gx_goto C dL_law_337 800 rfl ?_
      refine gx_sub [2, 3, 4, 5, 6] rfl ?_
      exact lc_end X (by omega) (by omega) _ hJ3 ih
    · rw [lo_m, hm2 h0]
set_option maxHeartbeats 4000000 in
set_option maxRecDepth 100000 in
theorem lc_fetch (X : LC p l s m b Ln xs meth c dC dI cI cZ cL W E A J) {n i : Nat} (hn : n ≤ 600) (hi : i + 3 < Ln) (S : GS) (hJ : J n S (lm S)) (ih : ∀ S' : GS, J (n + 1) S' (lm S') → GW (30 + (n + 1)) (6000 + 6 * (n + 1)) p l e room_1 s m #[Value.ref b] below meth c (lw_Z below #[Value.ref b] s) 7 (dC, dI) gx_cl A (lw cI cZ cL o o' oo W E) S' 43 [(4, .int (nI (i + 4))), (0, .ref b), (1, .ref (o 0)), (2, .ref (o' 0)), (3, .ref oo)] []) : GW (30 + n) (6000 + 6 * n) p l e room_1 s m #[Value.ref b] below meth c (lw_Z below #[Value.ref b] s) 7 (dC, dI) gx_cl A (lw cI cZ cL o o' oo W E) S 340 [(4, .int (nI i)), (0, .ref b), (1, .ref (o 0)), (2, .ref (o' 0)), (3, .ref oo)] [] := by
  obtain ⟨C, hl, hZ, hX, hbl, hbA, hSim, hLn⟩ := id X
  refine gx_aload_n C dL_law_340 2 rfl rfl ?_
  refine gl_arg C hX hbl hbA hLn (k := 1) 1 0 rfl rfl (by decide) (by omega) dL_law_341 dL_law_342 dL_law_344 dL_law_345 dL_law_346 ?_
  refine gl_arg C hX hbl hbA hLn (k := 2) 1 0 rfl rfl (by decide) (by omega) dL_law_347 dL_law_348 dL_law_350 dL_law_351 dL_law_352 ?_
  refine gx_aload_n C dL_law_353 4 rfl rfl ?_
  refine gl_callL (n := 4) (As := [.ref (o 0), .int (xs (i + 1)), .int (xs (i + 2)), .ref oo]) (rest := []) C hZ (mt_L_fetch l hl dC dI cI cZ cL o o' oo W E _ _ S (fun k S1 => ∀ PM : Int32 → GS → Prop, (∀ r' M1, M1 100 0 = k → (k = 0 → r' = S1 150 0) → J (n + 1) S1 M1 → PM r' M1) → wp_M_fetch [(xs (i + 1)), (xs (i + 2))] (lm S1) PM) (hSim.fetch_ n S (lm S) _ _ hn hJ _ _ (fun r X1 hM PM h => by rw [lm_o, lm_x]; exact hM PM (fun M1 h1 h2 => h r M1 h1 (fun _ => (lo_o _ r).symm) (hSim.1 _ _ _ _ (lx_o _ r) (hSim.1 _ _ _ _ (lx_x S X1) h2)))) (fun X1 hM => Or.inl ⟨rfl, fun PM h => by rw [lm_x]; exact hM PM (fun r' M1 h1 h2 => h r' M1 h1 (fun h0 => absurd h0 (by decide)) (hSim.1 _ _ _ _ (lx_x S X1) h2))⟩) (fun X1 hM => Or.inr (⟨rfl, fun PM h => by rw [lm_x]; exact hM PM (fun r' M1 h1 h2 => h r' M1 h1 (fun h0 => absurd h0 (by decide)) (hSim.1 _ _ _ _ (lx_x S X1) h2))⟩)))) ln_L_70 sm_L_fetch in_CountedObjectsLaw cw_L_fetch rfl rfl (by decide +kernel) ⟨Nat.le_of_ble_eq_true rfl, Nat.le_of_ble_eq_true rfl⟩ rfl (Nat.le_of_ble_eq_true rfl) dL_law_354 rfl (fun S1 => lw_ad _ S1) ⟨by show 30 + n + 1 ≤ 601024; omega, by show 6000 + 6 * n + 6 ≤ 7293000; omega⟩ (fun k S1 hs => ?_)
  refine gx_istore (L' := [(5, .int k), (4, .int (nI i)), (0, .ref b), (1, .ref (o 0)), (2, .ref (o' 0)), (3, .ref oo)]) C dL_law_357 (by decide) rfl ?_
  refine gx_aload_n C dL_law_359 4 rfl rfl ?_
  refine gl_arg C hX hbl hbA hLn (k := 1) 2 1 rfl rfl (by decide) (by omega) dL_law_360 dL_law_361 dL_law_363 dL_law_364 dL_law_365 ?_
  refine gl_arg C hX hbl hbA hLn (k := 2) 2 1 rfl rfl (by decide) (by omega) dL_law_366 dL_law_367 dL_law_369 dL_law_370 dL_law_371 ?_
  refine gl_callMi (As := [.int (xs (i + 1)), .int (xs (i + 2))]) (rest := []) C (mt_M_fetch l dC dI cI cZ o' _ _ (lm S1) (fun r' M1 => M1 100 0 = k ∧ (k = 0 → r' = S1 150 0) ∧ J (n + 1) S1 M1) (hs _ (fun r' M1 h1 h2 h3 => ⟨h1, h2, h3⟩))) (gx_cwV C 2 ln_L_72 im_M_fetch se_M_fetch in_CountedObjectsModel cd_M_fetch rfl rfl (by decide +kernel) ⟨Nat.le_of_ble_eq_true rfl, Nat.le_of_ble_eq_true rfl⟩) rfl (Nat.le_of_ble_eq_true rfl) dL_law_372 rfl ⟨by show 30 + n + 1 ≤ 601024; omega, by show 6000 + 6 * n + 6 ≤ 7293000; omega⟩ (fun r' M1 hm => ?_)
  refine gx_istore (L' := [(6, .int r'), (5, .int k), (4, .int (nI i)), (0, .ref b), (1, .ref (o 0)), (2, .ref (o' 0)), (3, .ref oo)]) C dL_law_375 (by decide) rfl ?_
  obtain ⟨hm1, hm2, hm3⟩ := hm
  refine gx_aload_n C dL_law_377 5 rfl rfl ?_
  refine gl_callMi (As := []) (rest := []) C (mt_M_thrown l dC dI cI cZ o' (lm (ljm S1 M1)) _ (wp_thrown _)) (gx_cwV C 0 ln_L_58 im_M_thrown se_M_thrown in_CountedObjectsModel cd_M_thrown rfl rfl (by decide +kernel) ⟨Nat.le_of_ble_eq_true rfl, Nat.le_of_ble_eq_true rfl⟩) rfl (Nat.le_of_ble_eq_true rfl) dL_law_378 rfl ⟨by show 30 + n + 1 ≤ 601024; omega, by show 6000 + 6 * n + 6 ≤ 7293000; omega⟩ (fun t M2 ht => ?_)
  obtain ⟨ht1, ht2⟩ := ht
  rw [lm_m] at ht1 ht2
  subst ht2
  rw [lj_mm]
  have ht : t = k := ht1.trans hm1
  subst ht
  have hJ3 : J (n + 1) (ljm S1 M2) (lm (ljm S1 M2)) := by rw [lm_m]; exact hSim.1 _ _ _ _ (lx_m S1 M2) hm3
  refine gx_iload C dL_law_381 1 rfl ?_
  refine gx_icmp_eq C dL_law_383 388 rfl (fun _ => ?_) (fun hc => absurd rfl hc)
  refine gx_iload C dL_law_388 1 rfl ?_
  refine gx_if_ne C dL_law_390 405 rfl (fun _ => ?_) (fun h0 => ?_)
  · refine gx_goto C dL_law_405 800 rfl ?_
    refine gx_sub [2, 3, 4, 5, 6] rfl ?_
    exact lc_end X (by omega) (by omega) _ hJ3 ih
  · refine gx_aload_n C dL_law_393 6 rfl rfl ?_
    refine gx_iconst (v := 0) C dL_law_394 (by decide) ?_
    refine gl_laload C dL_law_395 ?_
    refine gx_iload C dL_law_396 0 rfl ?_
    refine gl_i2l C dL_law_398 ?_
    refine gl_lcmp C dL_law_399 ?_
    refine gx_if_eq C dL_law_400 405 rfl (fun _ => ?_) (fun hc => absurd ((lg_cmp_eq _ _).mpr ?_) hc)
    · refine gx_goto C dL_law_405 800 rfl ?_
      refine gx_sub [2, 3, 4, 5, 6] rfl ?_
      exact lc_end X (by omega) (by omega) _ hJ3 ih
    · rw [lo_m, hm2 h0]
set_option maxHeartbeats 4000000 in
set_option maxRecDepth 100000 in
theorem lc_store (X : LC p l s m b Ln xs meth c dC dI cI cZ cL W E A J) {n i : Nat} (hn : n ≤ 600) (hi : i + 3 < Ln) (S : GS) (hJ : J n S (lm S)) (ih : ∀ S' : GS, J (n + 1) S' (lm S') → GW (30 + (n + 1)) (6000 + 6 * (n + 1)) p l e room_1 s m #[Value.ref b] below meth c (lw_Z below #[Value.ref b] s) 7 (dC, dI) gx_cl A (lw cI cZ cL o o' oo W E) S' 43 [(4, .int (nI (i + 4))), (0, .ref b), (1, .ref (o 0)), (2, .ref (o' 0)), (3, .ref oo)] []) : GW (30 + n) (6000 + 6 * n) p l e room_1 s m #[Value.ref b] below meth c (lw_Z below #[Value.ref b] s) 7 (dC, dI) gx_cl A (lw cI cZ cL o o' oo W E) S 408 [(4, .int (nI i)), (0, .ref b), (1, .ref (o 0)), (2, .ref (o' 0)), (3, .ref oo)] [] := by
  obtain ⟨C, hl, hZ, hX, hbl, hbA, hSim, hLn⟩ := id X
  refine gx_aload_n C dL_law_408 2 rfl rfl ?_
  refine gl_arg C hX hbl hbA hLn (k := 1) 1 0 rfl rfl (by decide) (by omega) dL_law_409 dL_law_410 dL_law_412 dL_law_413 dL_law_414 ?_
  refine gl_arg C hX hbl hbA hLn (k := 2) 1 0 rfl rfl (by decide) (by omega) dL_law_415 dL_law_416 dL_law_418 dL_law_419 dL_law_420 ?_
  refine gl_arg C hX hbl hbA hLn (k := 3) 1 0 rfl rfl (by decide) (by omega) dL_law_421 dL_law_422 dL_law_424 dL_law_425 dL_law_426 ?_
  refine gx_aload_n C dL_law_427 4 rfl rfl ?_
  refine gl_callL (n := 5) (As := [.ref (o 0), .int (xs (i + 1)), .int (xs (i + 2)), .int (xs (i + 3)), .ref oo]) (rest := []) C hZ (mt_L_store l hl dC dI cI cZ cL o o' oo W E _ _ _ S (fun k S1 => ∀ PM : Int32 → GS → Prop, (∀ r' M1, M1 100 0 = k → (k = 0 → r' = S1 150 0) → J (n + 1) S1 M1 → PM r' M1) → wp_M_store [(xs (i + 1)), (xs (i + 2)), (xs (i + 3))] (lm S1) PM) (hSim.store_ n S (lm S) _ _ _ hn hJ _ _ (fun r X1 hM PM h => by rw [lm_o, lm_x]; exact hM PM (fun M1 h1 h2 => h r M1 h1 (fun _ => (lo_o _ r).symm) (hSim.1 _ _ _ _ (lx_o _ r) (hSim.1 _ _ _ _ (lx_x S X1) h2)))) (fun X1 hM => Or.inl ⟨rfl, fun PM h => by rw [lm_x]; exact hM PM (fun r' M1 h1 h2 => h r' M1 h1 (fun h0 => absurd h0 (by decide)) (hSim.1 _ _ _ _ (lx_x S X1) h2))⟩) (fun X1 hM => Or.inr (⟨rfl, fun PM h => by rw [lm_x]; exact hM PM (fun r' M1 h1 h2 => h r' M1 h1 (fun h0 => absurd h0 (by decide)) (hSim.1 _ _ _ _ (lx_x S X1) h2))⟩)))) ln_L_73 sm_L_store in_CountedObjectsLaw cw_L_store rfl rfl (by decide +kernel) ⟨Nat.le_of_ble_eq_true rfl, Nat.le_of_ble_eq_true rfl⟩ rfl (Nat.le_of_ble_eq_true rfl) dL_law_428 rfl (fun S1 => lw_ad _ S1) ⟨by show 30 + n + 1 ≤ 601024; omega, by show 6000 + 6 * n + 6 ≤ 7293000; omega⟩ (fun k S1 hs => ?_)
  refine gx_istore (L' := [(5, .int k), (4, .int (nI i)), (0, .ref b), (1, .ref (o 0)), (2, .ref (o' 0)), (3, .ref oo)]) C dL_law_431 (by decide) rfl ?_
  refine gx_aload_n C dL_law_433 4 rfl rfl ?_
  refine gl_arg C hX hbl hbA hLn (k := 1) 2 1 rfl rfl (by decide) (by omega) dL_law_434 dL_law_435 dL_law_437 dL_law_438 dL_law_439 ?_
  refine gl_arg C hX hbl hbA hLn (k := 2) 2 1 rfl rfl (by decide) (by omega) dL_law_440 dL_law_441 dL_law_443 dL_law_444 dL_law_445 ?_
  refine gl_arg C hX hbl hbA hLn (k := 3) 2 1 rfl rfl (by decide) (by omega) dL_law_446 dL_law_447 dL_law_449 dL_law_450 dL_law_451 ?_
  refine gl_callMi (As := [.int (xs (i + 1)), .int (xs (i + 2)), .int (xs (i + 3))]) (rest := []) C (mt_M_store l dC dI cI cZ o' _ _ _ (lm S1) (fun r' M1 => M1 100 0 = k ∧ (k = 0 → r' = S1 150 0) ∧ J (n + 1) S1 M1) (hs _ (fun r' M1 h1 h2 h3 => ⟨h1, h2, h3⟩))) (gx_cwV C 3 ln_L_75 im_M_store se_M_store in_CountedObjectsModel cd_M_store rfl rfl (by decide +kernel) ⟨Nat.le_of_ble_eq_true rfl, Nat.le_of_ble_eq_true rfl⟩) rfl (Nat.le_of_ble_eq_true rfl) dL_law_452 rfl ⟨by show 30 + n + 1 ≤ 601024; omega, by show 6000 + 6 * n + 6 ≤ 7293000; omega⟩ (fun r' M1 hm => ?_)
  refine gx_istore (L' := [(6, .int r'), (5, .int k), (4, .int (nI i)), (0, .ref b), (1, .ref (o 0)), (2, .ref (o' 0)), (3, .ref oo)]) C dL_law_455 (by decide) rfl ?_
  obtain ⟨hm1, hm2, hm3⟩ := hm
  refine gx_aload_n C dL_law_457 5 rfl rfl ?_
  refine gl_callMi (As := []) (rest := []) C (mt_M_thrown l dC dI cI cZ o' (lm (ljm S1 M1)) _ (wp_thrown _)) (gx_cwV C 0 ln_L_58 im_M_thrown se_M_thrown in_CountedObjectsModel cd_M_thrown rfl rfl (by decide +kernel) ⟨Nat.le_of_ble_eq_true rfl, Nat.le_of_ble_eq_true rfl⟩) rfl (Nat.le_of_ble_eq_true rfl) dL_law_458 rfl ⟨by show 30 + n + 1 ≤ 601024; omega, by show 6000 + 6 * n + 6 ≤ 7293000; omega⟩ (fun t M2 ht => ?_)
  obtain ⟨ht1, ht2⟩ := ht
  rw [lm_m] at ht1 ht2
  subst ht2
  rw [lj_mm]
  have ht : t = k := ht1.trans hm1
  subst ht
  have hJ3 : J (n + 1) (ljm S1 M2) (lm (ljm S1 M2)) := by rw [lm_m]; exact hSim.1 _ _ _ _ (lx_m S1 M2) hm3
  refine gx_iload C dL_law_461 1 rfl ?_
  refine gx_icmp_eq C dL_law_463 468 rfl (fun _ => ?_) (fun hc => absurd rfl hc)
  refine gx_iload C dL_law_468 1 rfl ?_
  refine gx_if_ne C dL_law_470 485 rfl (fun _ => ?_) (fun h0 => ?_)
  · refine gx_goto C dL_law_485 800 rfl ?_
    refine gx_sub [2, 3, 4, 5, 6] rfl ?_
    exact lc_end X (by omega) (by omega) _ hJ3 ih
  · refine gx_aload_n C dL_law_473 6 rfl rfl ?_
    refine gx_iconst (v := 0) C dL_law_474 (by decide) ?_
    refine gl_laload C dL_law_475 ?_
    refine gx_iload C dL_law_476 0 rfl ?_
    refine gl_i2l C dL_law_478 ?_
    refine gl_lcmp C dL_law_479 ?_
    refine gx_if_eq C dL_law_480 485 rfl (fun _ => ?_) (fun hc => absurd ((lg_cmp_eq _ _).mpr ?_) hc)
    · refine gx_goto C dL_law_485 800 rfl ?_
      refine gx_sub [2, 3, 4, 5, 6] rfl ?_
      exact lc_end X (by omega) (by omega) _ hJ3 ih
    · rw [lo_m, hm2 h0]
set_option maxHeartbeats 4000000 in
set_option maxRecDepth 100000 in
theorem lc_type (X : LC p l s m b Ln xs meth c dC dI cI cZ cL W E A J) {n i : Nat} (hn : n ≤ 600) (hi : i + 3 < Ln) (S : GS) (hJ : J n S (lm S)) (ih : ∀ S' : GS, J (n + 1) S' (lm S') → GW (30 + (n + 1)) (6000 + 6 * (n + 1)) p l e room_1 s m #[Value.ref b] below meth c (lw_Z below #[Value.ref b] s) 7 (dC, dI) gx_cl A (lw cI cZ cL o o' oo W E) S' 43 [(4, .int (nI (i + 4))), (0, .ref b), (1, .ref (o 0)), (2, .ref (o' 0)), (3, .ref oo)] []) : GW (30 + n) (6000 + 6 * n) p l e room_1 s m #[Value.ref b] below meth c (lw_Z below #[Value.ref b] s) 7 (dC, dI) gx_cl A (lw cI cZ cL o o' oo W E) S 488 [(4, .int (nI i)), (0, .ref b), (1, .ref (o 0)), (2, .ref (o' 0)), (3, .ref oo)] [] := by
  obtain ⟨C, hl, hZ, hX, hbl, hbA, hSim, hLn⟩ := id X
  refine gx_aload_n C dL_law_488 2 rfl rfl ?_
  refine gl_arg C hX hbl hbA hLn (k := 1) 1 0 rfl rfl (by decide) (by omega) dL_law_489 dL_law_490 dL_law_492 dL_law_493 dL_law_494 ?_
  refine gx_aload_n C dL_law_495 4 rfl rfl ?_
  refine gl_callL (n := 3) (As := [.ref (o 0), .int (xs (i + 1)), .ref oo]) (rest := []) C hZ (mt_L_type l hl dC dI cI cZ cL o o' oo W E _ S (fun k S1 => ∀ PM : Int32 → GS → Prop, (∀ r' M1, M1 100 0 = k → (k = 0 → r' = S1 150 0) → J (n + 1) S1 M1 → PM r' M1) → wp_M_type [(xs (i + 1))] (lm S1) PM) (hSim.type_ n S (lm S) _ hn hJ _ _ (fun r X1 hM PM h => by rw [lm_o, lm_x]; exact hM PM (fun M1 h1 h2 => h r M1 h1 (fun _ => (lo_o _ r).symm) (hSim.1 _ _ _ _ (lx_o _ r) (hSim.1 _ _ _ _ (lx_x S X1) h2)))) (fun X1 hM => ⟨rfl, fun PM h => by rw [lm_x]; exact hM PM (fun r' M1 h1 h2 => h r' M1 h1 (fun h0 => absurd h0 (by decide)) (hSim.1 _ _ _ _ (lx_x S X1) h2))⟩))) ln_L_76 sm_L_type in_CountedObjectsLaw cw_L_type rfl rfl (by decide +kernel) ⟨Nat.le_of_ble_eq_true rfl, Nat.le_of_ble_eq_true rfl⟩ rfl (Nat.le_of_ble_eq_true rfl) dL_law_496 rfl (fun S1 => lw_ad _ S1) ⟨by show 30 + n + 1 ≤ 601024; omega, by show 6000 + 6 * n + 6 ≤ 7293000; omega⟩ (fun k S1 hs => ?_)
  refine gx_istore (L' := [(5, .int k), (4, .int (nI i)), (0, .ref b), (1, .ref (o 0)), (2, .ref (o' 0)), (3, .ref oo)]) C dL_law_499 (by decide) rfl ?_
  refine gx_aload_n C dL_law_501 4 rfl rfl ?_
  refine gl_arg C hX hbl hbA hLn (k := 1) 2 1 rfl rfl (by decide) (by omega) dL_law_502 dL_law_503 dL_law_505 dL_law_506 dL_law_507 ?_
  refine gl_callMi (As := [.int (xs (i + 1))]) (rest := []) C (mt_M_type l dC dI cI cZ o' _ (lm S1) (fun r' M1 => M1 100 0 = k ∧ (k = 0 → r' = S1 150 0) ∧ J (n + 1) S1 M1) (hs _ (fun r' M1 h1 h2 h3 => ⟨h1, h2, h3⟩))) (gx_cwV C 1 ln_L_78 im_M_type se_M_type in_CountedObjectsModel cd_M_type rfl rfl (by decide +kernel) ⟨Nat.le_of_ble_eq_true rfl, Nat.le_of_ble_eq_true rfl⟩) rfl (Nat.le_of_ble_eq_true rfl) dL_law_508 rfl ⟨by show 30 + n + 1 ≤ 601024; omega, by show 6000 + 6 * n + 6 ≤ 7293000; omega⟩ (fun r' M1 hm => ?_)
  refine gx_istore (L' := [(6, .int r'), (5, .int k), (4, .int (nI i)), (0, .ref b), (1, .ref (o 0)), (2, .ref (o' 0)), (3, .ref oo)]) C dL_law_511 (by decide) rfl ?_
  obtain ⟨hm1, hm2, hm3⟩ := hm
  refine gx_aload_n C dL_law_513 5 rfl rfl ?_
  refine gl_callMi (As := []) (rest := []) C (mt_M_thrown l dC dI cI cZ o' (lm (ljm S1 M1)) _ (wp_thrown _)) (gx_cwV C 0 ln_L_58 im_M_thrown se_M_thrown in_CountedObjectsModel cd_M_thrown rfl rfl (by decide +kernel) ⟨Nat.le_of_ble_eq_true rfl, Nat.le_of_ble_eq_true rfl⟩) rfl (Nat.le_of_ble_eq_true rfl) dL_law_514 rfl ⟨by show 30 + n + 1 ≤ 601024; omega, by show 6000 + 6 * n + 6 ≤ 7293000; omega⟩ (fun t M2 ht => ?_)
  obtain ⟨ht1, ht2⟩ := ht
  rw [lm_m] at ht1 ht2
  subst ht2
  rw [lj_mm]
  have ht : t = k := ht1.trans hm1
  subst ht
  have hJ3 : J (n + 1) (ljm S1 M2) (lm (ljm S1 M2)) := by rw [lm_m]; exact hSim.1 _ _ _ _ (lx_m S1 M2) hm3
  refine gx_iload C dL_law_517 1 rfl ?_
  refine gx_icmp_eq C dL_law_519 524 rfl (fun _ => ?_) (fun hc => absurd rfl hc)
  refine gx_iload C dL_law_524 1 rfl ?_
  refine gx_if_ne C dL_law_526 541 rfl (fun _ => ?_) (fun h0 => ?_)
  · refine gx_goto C dL_law_541 800 rfl ?_
    refine gx_sub [2, 3, 4, 5, 6] rfl ?_
    exact lc_end X (by omega) (by omega) _ hJ3 ih
  · refine gx_aload_n C dL_law_529 6 rfl rfl ?_
    refine gx_iconst (v := 0) C dL_law_530 (by decide) ?_
    refine gl_laload C dL_law_531 ?_
    refine gx_iload C dL_law_532 0 rfl ?_
    refine gl_i2l C dL_law_534 ?_
    refine gl_lcmp C dL_law_535 ?_
    refine gx_if_eq C dL_law_536 541 rfl (fun _ => ?_) (fun hc => absurd ((lg_cmp_eq _ _).mpr ?_) hc)
    · refine gx_goto C dL_law_541 800 rfl ?_
      refine gx_sub [2, 3, 4, 5, 6] rfl ?_
      exact lc_end X (by omega) (by omega) _ hJ3 ih
    · rw [lo_m, hm2 h0]
set_option maxHeartbeats 4000000 in
set_option maxRecDepth 100000 in
theorem lc_fields (X : LC p l s m b Ln xs meth c dC dI cI cZ cL W E A J) {n i : Nat} (hn : n ≤ 600) (hi : i + 3 < Ln) (S : GS) (hJ : J n S (lm S)) (ih : ∀ S' : GS, J (n + 1) S' (lm S') → GW (30 + (n + 1)) (6000 + 6 * (n + 1)) p l e room_1 s m #[Value.ref b] below meth c (lw_Z below #[Value.ref b] s) 7 (dC, dI) gx_cl A (lw cI cZ cL o o' oo W E) S' 43 [(4, .int (nI (i + 4))), (0, .ref b), (1, .ref (o 0)), (2, .ref (o' 0)), (3, .ref oo)] []) : GW (30 + n) (6000 + 6 * n) p l e room_1 s m #[Value.ref b] below meth c (lw_Z below #[Value.ref b] s) 7 (dC, dI) gx_cl A (lw cI cZ cL o o' oo W E) S 544 [(4, .int (nI i)), (0, .ref b), (1, .ref (o 0)), (2, .ref (o' 0)), (3, .ref oo)] [] := by
  obtain ⟨C, hl, hZ, hX, hbl, hbA, hSim, hLn⟩ := id X
  refine gx_aload_n C dL_law_544 2 rfl rfl ?_
  refine gl_arg C hX hbl hbA hLn (k := 1) 1 0 rfl rfl (by decide) (by omega) dL_law_545 dL_law_546 dL_law_548 dL_law_549 dL_law_550 ?_
  refine gx_aload_n C dL_law_551 4 rfl rfl ?_
  refine gl_callL (n := 3) (As := [.ref (o 0), .int (xs (i + 1)), .ref oo]) (rest := []) C hZ (mt_L_fields l hl dC dI cI cZ cL o o' oo W E _ S (fun k S1 => ∀ PM : Int32 → GS → Prop, (∀ r' M1, M1 100 0 = k → (k = 0 → r' = S1 150 0) → J (n + 1) S1 M1 → PM r' M1) → wp_M_fields [(xs (i + 1))] (lm S1) PM) (hSim.fields_ n S (lm S) _ hn hJ _ _ (fun r X1 hM PM h => by rw [lm_o, lm_x]; exact hM PM (fun M1 h1 h2 => h r M1 h1 (fun _ => (lo_o _ r).symm) (hSim.1 _ _ _ _ (lx_o _ r) (hSim.1 _ _ _ _ (lx_x S X1) h2)))) (fun X1 hM => ⟨rfl, fun PM h => by rw [lm_x]; exact hM PM (fun r' M1 h1 h2 => h r' M1 h1 (fun h0 => absurd h0 (by decide)) (hSim.1 _ _ _ _ (lx_x S X1) h2))⟩))) ln_L_79 sm_L_fields in_CountedObjectsLaw cw_L_fields rfl rfl (by decide +kernel) ⟨Nat.le_of_ble_eq_true rfl, Nat.le_of_ble_eq_true rfl⟩ rfl (Nat.le_of_ble_eq_true rfl) dL_law_552 rfl (fun S1 => lw_ad _ S1) ⟨by show 30 + n + 1 ≤ 601024; omega, by show 6000 + 6 * n + 6 ≤ 7293000; omega⟩ (fun k S1 hs => ?_)
  refine gx_istore (L' := [(5, .int k), (4, .int (nI i)), (0, .ref b), (1, .ref (o 0)), (2, .ref (o' 0)), (3, .ref oo)]) C dL_law_555 (by decide) rfl ?_
  refine gx_aload_n C dL_law_557 4 rfl rfl ?_
  refine gl_arg C hX hbl hbA hLn (k := 1) 2 1 rfl rfl (by decide) (by omega) dL_law_558 dL_law_559 dL_law_561 dL_law_562 dL_law_563 ?_
  refine gl_callMi (As := [.int (xs (i + 1))]) (rest := []) C (mt_M_fields l dC dI cI cZ o' _ (lm S1) (fun r' M1 => M1 100 0 = k ∧ (k = 0 → r' = S1 150 0) ∧ J (n + 1) S1 M1) (hs _ (fun r' M1 h1 h2 h3 => ⟨h1, h2, h3⟩))) (gx_cwV C 1 ln_L_81 im_M_fields se_M_fields in_CountedObjectsModel cd_M_fields rfl rfl (by decide +kernel) ⟨Nat.le_of_ble_eq_true rfl, Nat.le_of_ble_eq_true rfl⟩) rfl (Nat.le_of_ble_eq_true rfl) dL_law_564 rfl ⟨by show 30 + n + 1 ≤ 601024; omega, by show 6000 + 6 * n + 6 ≤ 7293000; omega⟩ (fun r' M1 hm => ?_)
  refine gx_istore (L' := [(6, .int r'), (5, .int k), (4, .int (nI i)), (0, .ref b), (1, .ref (o 0)), (2, .ref (o' 0)), (3, .ref oo)]) C dL_law_567 (by decide) rfl ?_
  obtain ⟨hm1, hm2, hm3⟩ := hm
  refine gx_aload_n C dL_law_569 5 rfl rfl ?_
  refine gl_callMi (As := []) (rest := []) C (mt_M_thrown l dC dI cI cZ o' (lm (ljm S1 M1)) _ (wp_thrown _)) (gx_cwV C 0 ln_L_58 im_M_thrown se_M_thrown in_CountedObjectsModel cd_M_thrown rfl rfl (by decide +kernel) ⟨Nat.le_of_ble_eq_true rfl, Nat.le_of_ble_eq_true rfl⟩) rfl (Nat.le_of_ble_eq_true rfl) dL_law_570 rfl ⟨by show 30 + n + 1 ≤ 601024; omega, by show 6000 + 6 * n + 6 ≤ 7293000; omega⟩ (fun t M2 ht => ?_)
  obtain ⟨ht1, ht2⟩ := ht
  rw [lm_m] at ht1 ht2
  subst ht2
  rw [lj_mm]
  have ht : t = k := ht1.trans hm1
  subst ht
  have hJ3 : J (n + 1) (ljm S1 M2) (lm (ljm S1 M2)) := by rw [lm_m]; exact hSim.1 _ _ _ _ (lx_m S1 M2) hm3
  refine gx_iload C dL_law_573 1 rfl ?_
  refine gx_icmp_eq C dL_law_575 580 rfl (fun _ => ?_) (fun hc => absurd rfl hc)
  refine gx_iload C dL_law_580 1 rfl ?_
  refine gx_if_ne C dL_law_582 597 rfl (fun _ => ?_) (fun h0 => ?_)
  · refine gx_goto C dL_law_597 800 rfl ?_
    refine gx_sub [2, 3, 4, 5, 6] rfl ?_
    exact lc_end X (by omega) (by omega) _ hJ3 ih
  · refine gx_aload_n C dL_law_585 6 rfl rfl ?_
    refine gx_iconst (v := 0) C dL_law_586 (by decide) ?_
    refine gl_laload C dL_law_587 ?_
    refine gx_iload C dL_law_588 0 rfl ?_
    refine gl_i2l C dL_law_590 ?_
    refine gl_lcmp C dL_law_591 ?_
    refine gx_if_eq C dL_law_592 597 rfl (fun _ => ?_) (fun hc => absurd ((lg_cmp_eq _ _).mpr ?_) hc)
    · refine gx_goto C dL_law_597 800 rfl ?_
      refine gx_sub [2, 3, 4, 5, 6] rfl ?_
      exact lc_end X (by omega) (by omega) _ hJ3 ih
    · rw [lo_m, hm2 h0]
set_option maxHeartbeats 4000000 in
set_option maxRecDepth 100000 in
theorem lc_become (X : LC p l s m b Ln xs meth c dC dI cI cZ cL W E A J) {n i : Nat} (hn : n ≤ 600) (hi : i + 3 < Ln) (S : GS) (hJ : J n S (lm S)) (ih : ∀ S' : GS, J (n + 1) S' (lm S') → GW (30 + (n + 1)) (6000 + 6 * (n + 1)) p l e room_1 s m #[Value.ref b] below meth c (lw_Z below #[Value.ref b] s) 7 (dC, dI) gx_cl A (lw cI cZ cL o o' oo W E) S' 43 [(4, .int (nI (i + 4))), (0, .ref b), (1, .ref (o 0)), (2, .ref (o' 0)), (3, .ref oo)] []) : GW (30 + n) (6000 + 6 * n) p l e room_1 s m #[Value.ref b] below meth c (lw_Z below #[Value.ref b] s) 7 (dC, dI) gx_cl A (lw cI cZ cL o o' oo W E) S 600 [(4, .int (nI i)), (0, .ref b), (1, .ref (o 0)), (2, .ref (o' 0)), (3, .ref oo)] [] := by
  obtain ⟨C, hl, hZ, hX, hbl, hbA, hSim, hLn⟩ := id X
  refine gx_aload_n C dL_law_600 2 rfl rfl ?_
  refine gl_arg C hX hbl hbA hLn (k := 1) 1 0 rfl rfl (by decide) (by omega) dL_law_601 dL_law_602 dL_law_604 dL_law_605 dL_law_606 ?_
  refine gl_arg C hX hbl hbA hLn (k := 2) 1 0 rfl rfl (by decide) (by omega) dL_law_607 dL_law_608 dL_law_610 dL_law_611 dL_law_612 ?_
  refine gl_callL (n := 3) (As := [.ref (o 0), .int (xs (i + 1)), .int (xs (i + 2))]) (rest := []) C hZ (mt_L_become l hl dC dI cI cZ cL o o' oo W E _ _ S (fun k S1 => ∀ PM : GS → Prop, (∀ M1, M1 100 0 = k → J (n + 1) S1 M1 → PM M1) → wp_M_become [(xs (i + 1)), (xs (i + 2))] (lm S1) PM) (hSim.become_ n S (lm S) _ _ hn hJ _ _ (fun X1 hM PM h => by rw [lm_x]; exact hM PM (fun M1 h1 h2 => h M1 h1 (hSim.1 _ _ _ _ (lx_x S X1) h2))) (fun X1 hM => ⟨rfl, fun PM h => by rw [lm_x]; exact hM PM (fun M1 h1 h2 => h M1 h1 (hSim.1 _ _ _ _ (lx_x S X1) h2))⟩))) ln_L_82 sm_L_become in_CountedObjectsLaw cw_L_become rfl rfl (by decide +kernel) ⟨Nat.le_of_ble_eq_true rfl, Nat.le_of_ble_eq_true rfl⟩ rfl (Nat.le_of_ble_eq_true rfl) dL_law_613 rfl (fun S1 => lw_ad _ S1) ⟨by show 30 + n + 1 ≤ 601024; omega, by show 6000 + 6 * n + 6 ≤ 7293000; omega⟩ (fun k S1 hs => ?_)
  refine gx_istore (L' := [(5, .int k), (4, .int (nI i)), (0, .ref b), (1, .ref (o 0)), (2, .ref (o' 0)), (3, .ref oo)]) C dL_law_616 (by decide) rfl ?_
  refine gx_aload_n C dL_law_618 4 rfl rfl ?_
  refine gl_arg C hX hbl hbA hLn (k := 1) 2 1 rfl rfl (by decide) (by omega) dL_law_619 dL_law_620 dL_law_622 dL_law_623 dL_law_624 ?_
  refine gl_arg C hX hbl hbA hLn (k := 2) 2 1 rfl rfl (by decide) (by omega) dL_law_625 dL_law_626 dL_law_628 dL_law_629 dL_law_630 ?_
  refine gl_callMv (As := [.int (xs (i + 1)), .int (xs (i + 2))]) (rest := []) C (mt_M_become l dC dI cI cZ o' _ _ (lm S1) (fun M1 => M1 100 0 = k ∧ J (n + 1) S1 M1) (hs _ (fun M1 h1 h2 => ⟨h1, h2⟩))) (gx_cwV C 2 ln_L_85 im_M_become se_M_become in_CountedObjectsModel cd_M_become rfl rfl (by decide +kernel) ⟨Nat.le_of_ble_eq_true rfl, Nat.le_of_ble_eq_true rfl⟩) rfl (Nat.le_of_ble_eq_true rfl) dL_law_631 rfl ⟨by show 30 + n + 1 ≤ 601024; omega, by show 6000 + 6 * n + 6 ≤ 7293000; omega⟩ (fun M1 hm => ?_)
  obtain ⟨hm1, hm3⟩ := hm
  refine gx_aload_n C dL_law_634 4 rfl rfl ?_
  refine gl_callMi (As := []) (rest := []) C (mt_M_thrown l dC dI cI cZ o' (lm (ljm S1 M1)) _ (wp_thrown _)) (gx_cwV C 0 ln_L_58 im_M_thrown se_M_thrown in_CountedObjectsModel cd_M_thrown rfl rfl (by decide +kernel) ⟨Nat.le_of_ble_eq_true rfl, Nat.le_of_ble_eq_true rfl⟩) rfl (Nat.le_of_ble_eq_true rfl) dL_law_635 rfl ⟨by show 30 + n + 1 ≤ 601024; omega, by show 6000 + 6 * n + 6 ≤ 7293000; omega⟩ (fun t M2 ht => ?_)
  obtain ⟨ht1, ht2⟩ := ht
  rw [lm_m] at ht1 ht2
  subst ht2
  rw [lj_mm]
  have ht : t = k := ht1.trans hm1
  subst ht
  have hJ3 : J (n + 1) (ljm S1 M2) (lm (ljm S1 M2)) := by rw [lm_m]; exact hSim.1 _ _ _ _ (lx_m S1 M2) hm3
  refine gx_iload C dL_law_638 0 rfl ?_
  refine gx_icmp_eq C dL_law_640 645 rfl (fun _ => ?_) (fun hc => absurd rfl hc)
  refine gx_goto C dL_law_645 800 rfl ?_
  refine gx_sub [1, 2, 3, 4, 5] rfl ?_
  exact lc_end X (by omega) (by omega) _ hJ3 ih
set_option maxHeartbeats 4000000 in
set_option maxRecDepth 100000 in
theorem lc_collect (X : LC p l s m b Ln xs meth c dC dI cI cZ cL W E A J) {n i : Nat} (hn : n ≤ 600) (hi : i + 3 < Ln) (S : GS) (hJ : J n S (lm S)) (ih : ∀ S' : GS, J (n + 1) S' (lm S') → GW (30 + (n + 1)) (6000 + 6 * (n + 1)) p l e room_1 s m #[Value.ref b] below meth c (lw_Z below #[Value.ref b] s) 7 (dC, dI) gx_cl A (lw cI cZ cL o o' oo W E) S' 43 [(4, .int (nI (i + 4))), (0, .ref b), (1, .ref (o 0)), (2, .ref (o' 0)), (3, .ref oo)] []) : GW (30 + n) (6000 + 6 * n) p l e room_1 s m #[Value.ref b] below meth c (lw_Z below #[Value.ref b] s) 7 (dC, dI) gx_cl A (lw cI cZ cL o o' oo W E) S 648 [(4, .int (nI i)), (0, .ref b), (1, .ref (o 0)), (2, .ref (o' 0)), (3, .ref oo)] [] := by
  obtain ⟨C, hl, hZ, hX, hbl, hbA, hSim, hLn⟩ := id X
  refine gx_aload_n C dL_law_648 2 rfl rfl ?_
  refine gl_callXi (As := []) (rest := []) C (mt_X_collect l dC dI cI cZ o W E S (fun r X1 => ∀ PM : Int32 → GS → Prop, (∀ M1, J (n + 1) X1 M1 → PM r M1) → wp_M_collect [] (lm S) PM) (hSim.collect_ n S (lm S) hn hJ _ (fun r X1 h => h))) (gx_cwV C 0 ln_L_86 im_X_collect se_X_collect in_CountedObjects cd_X_collect rfl rfl (by decide +kernel) ⟨Nat.le_of_ble_eq_true rfl, Nat.le_of_ble_eq_true rfl⟩) rfl (Nat.le_of_ble_eq_true rfl) dL_law_649 rfl ⟨by show 30 + n ≤ 601024; omega, by show 6000 + 6 * n ≤ 7293000; omega⟩ (fun r X1 hs => ?_)
  refine gx_aload_n C dL_law_652 3 rfl rfl ?_
  refine gl_callMi (As := []) (rest := [.int r]) C (mt_M_collect l dC dI cI cZ o' (lm (ljx S X1)) (fun r' M1 => r' = r ∧ J (n + 1) X1 M1) (by rw [lm_x]; exact hs _ (fun M1 h => ⟨rfl, h⟩))) (gx_cwV C 0 ln_L_89 im_M_collect se_M_collect in_CountedObjectsModel cd_M_collect rfl rfl (by decide +kernel) ⟨Nat.le_of_ble_eq_true rfl, Nat.le_of_ble_eq_true rfl⟩) rfl (Nat.le_of_ble_eq_true rfl) dL_law_653 rfl ⟨by show 30 + n ≤ 601024; omega, by show 6000 + 6 * n ≤ 7293000; omega⟩ (fun r' M1 hm => ?_)
  obtain ⟨hm1, hm3⟩ := hm
  subst hm1
  refine gx_icmp_eq C dL_law_656 800 rfl (fun _ => ?_) (fun hc => absurd rfl hc)
  refine lc_end X (by omega) (by omega) _ ?_ ih
  rw [lm_m]
  exact hSim.1 _ _ _ _ (lx_m _ M1) (hSim.1 _ _ _ _ (lx_x S X1) hm3)
set_option maxHeartbeats 4000000 in
set_option maxRecDepth 100000 in
theorem lc_compact (X : LC p l s m b Ln xs meth c dC dI cI cZ cL W E A J) {n i : Nat} (hn : n ≤ 600) (hi : i + 3 < Ln) (S : GS) (hJ : J n S (lm S)) (ih : ∀ S' : GS, J (n + 1) S' (lm S') → GW (30 + (n + 1)) (6000 + 6 * (n + 1)) p l e room_1 s m #[Value.ref b] below meth c (lw_Z below #[Value.ref b] s) 7 (dC, dI) gx_cl A (lw cI cZ cL o o' oo W E) S' 43 [(4, .int (nI (i + 4))), (0, .ref b), (1, .ref (o 0)), (2, .ref (o' 0)), (3, .ref oo)] []) : GW (30 + n) (6000 + 6 * n) p l e room_1 s m #[Value.ref b] below meth c (lw_Z below #[Value.ref b] s) 7 (dC, dI) gx_cl A (lw cI cZ cL o o' oo W E) S 661 [(4, .int (nI i)), (0, .ref b), (1, .ref (o 0)), (2, .ref (o' 0)), (3, .ref oo)] [] := by
  obtain ⟨C, hl, hZ, hX, hbl, hbA, hSim, hLn⟩ := id X
  refine gx_aload_n C dL_law_661 2 rfl rfl ?_
  refine gl_callXi (As := []) (rest := []) C (mt_X_compact l dC dI cI cZ o W E S (fun r X1 => ∀ PM : Int32 → GS → Prop, (∀ M1, J (n + 1) X1 M1 → PM r M1) → wp_M_compact [] (lm S) PM) (hSim.compact_ n S (lm S) hn hJ _ (fun r X1 h => h))) (gx_cwV C 0 ln_L_90 im_X_compact se_X_compact in_CountedObjects cd_X_compact rfl rfl (by decide +kernel) ⟨Nat.le_of_ble_eq_true rfl, Nat.le_of_ble_eq_true rfl⟩) rfl (Nat.le_of_ble_eq_true rfl) dL_law_662 rfl ⟨by show 30 + n ≤ 601024; omega, by show 6000 + 6 * n ≤ 7293000; omega⟩ (fun r X1 hs => ?_)
  refine gx_aload_n C dL_law_665 3 rfl rfl ?_
  refine gl_callMi (As := []) (rest := [.int r]) C (mt_M_compact l dC dI cI cZ o' (lm (ljx S X1)) (fun r' M1 => r' = r ∧ J (n + 1) X1 M1) (by rw [lm_x]; exact hs _ (fun M1 h => ⟨rfl, h⟩))) (gx_cwV C 0 ln_L_93 im_M_compact se_M_compact in_CountedObjectsModel cd_M_compact rfl rfl (by decide +kernel) ⟨Nat.le_of_ble_eq_true rfl, Nat.le_of_ble_eq_true rfl⟩) rfl (Nat.le_of_ble_eq_true rfl) dL_law_666 rfl ⟨by show 30 + n ≤ 601024; omega, by show 6000 + 6 * n ≤ 7293000; omega⟩ (fun r' M1 hm => ?_)
  obtain ⟨hm1, hm3⟩ := hm
  subst hm1
  refine gx_icmp_eq C dL_law_669 800 rfl (fun _ => ?_) (fun hc => absurd rfl hc)
  refine lc_end X (by omega) (by omega) _ ?_ ih
  rw [lm_m]
  exact hSim.1 _ _ _ _ (lx_m _ M1) (hSim.1 _ _ _ _ (lx_x S X1) hm3)
set_option maxHeartbeats 4000000 in
set_option maxRecDepth 100000 in
theorem lc_exists (X : LC p l s m b Ln xs meth c dC dI cI cZ cL W E A J) {n i : Nat} (hn : n ≤ 600) (hi : i + 3 < Ln) (S : GS) (hJ : J n S (lm S)) (ih : ∀ S' : GS, J (n + 1) S' (lm S') → GW (30 + (n + 1)) (6000 + 6 * (n + 1)) p l e room_1 s m #[Value.ref b] below meth c (lw_Z below #[Value.ref b] s) 7 (dC, dI) gx_cl A (lw cI cZ cL o o' oo W E) S' 43 [(4, .int (nI (i + 4))), (0, .ref b), (1, .ref (o 0)), (2, .ref (o' 0)), (3, .ref oo)] []) : GW (30 + n) (6000 + 6 * n) p l e room_1 s m #[Value.ref b] below meth c (lw_Z below #[Value.ref b] s) 7 (dC, dI) gx_cl A (lw cI cZ cL o o' oo W E) S 674 [(4, .int (nI i)), (0, .ref b), (1, .ref (o 0)), (2, .ref (o' 0)), (3, .ref oo)] [] := by
  obtain ⟨C, hl, hZ, hX, hbl, hbA, hSim, hLn⟩ := id X
  refine gx_aload_n C dL_law_674 2 rfl rfl ?_
  refine gl_arg C hX hbl hbA hLn (k := 1) 1 0 rfl rfl (by decide) (by omega) dL_law_675 dL_law_676 dL_law_678 dL_law_679 dL_law_680 ?_
  refine gl_callXi (As := [.int (xs (i + 1))]) (rest := []) C (mt_X_exists l dC dI cI cZ o W E _ S (fun r X1 => ∀ PM : Int32 → GS → Prop, (∀ M1, J (n + 1) X1 M1 → PM r M1) → wp_M_exists [(xs (i + 1))] (lm S) PM) (hSim.exists_ n S (lm S) _ hn hJ _ (fun r X1 h => h))) (gx_cwV C 1 ln_L_94 im_X_exists se_X_exists in_CountedObjects cd_X_exists rfl rfl (by decide +kernel) ⟨Nat.le_of_ble_eq_true rfl, Nat.le_of_ble_eq_true rfl⟩) rfl (Nat.le_of_ble_eq_true rfl) dL_law_681 rfl ⟨by show 30 + n ≤ 601024; omega, by show 6000 + 6 * n ≤ 7293000; omega⟩ (fun r X1 hs => ?_)
  refine gx_aload_n C dL_law_684 3 rfl rfl ?_
  refine gl_arg C hX hbl hbA hLn (k := 1) 1 0 rfl rfl (by decide) (by omega) dL_law_685 dL_law_686 dL_law_688 dL_law_689 dL_law_690 ?_
  refine gl_callMi (As := [.int (xs (i + 1))]) (rest := [.int r]) C (mt_M_exists l dC dI cI cZ o' _ (lm (ljx S X1)) (fun r' M1 => r' = r ∧ J (n + 1) X1 M1) (by rw [lm_x]; exact hs _ (fun M1 h => ⟨rfl, h⟩))) (gx_cwV C 1 ln_L_98 im_M_exists se_M_exists in_CountedObjectsModel cd_M_exists rfl rfl (by decide +kernel) ⟨Nat.le_of_ble_eq_true rfl, Nat.le_of_ble_eq_true rfl⟩) rfl (Nat.le_of_ble_eq_true rfl) dL_law_691 rfl ⟨by show 30 + n ≤ 601024; omega, by show 6000 + 6 * n ≤ 7293000; omega⟩ (fun r' M1 hm => ?_)
  obtain ⟨hm1, hm3⟩ := hm
  subst hm1
  refine gx_icmp_eq C dL_law_694 800 rfl (fun _ => ?_) (fun hc => absurd rfl hc)
  refine lc_end X (by omega) (by omega) _ ?_ ih
  rw [lm_m]
  exact hSim.1 _ _ _ _ (lx_m _ M1) (hSim.1 _ _ _ _ (lx_x S X1) hm3)
set_option maxHeartbeats 4000000 in
set_option maxRecDepth 100000 in
theorem lc_count (X : LC p l s m b Ln xs meth c dC dI cI cZ cL W E A J) {n i : Nat} (hn : n ≤ 600) (hi : i + 3 < Ln) (S : GS) (hJ : J n S (lm S)) (ih : ∀ S' : GS, J (n + 1) S' (lm S') → GW (30 + (n + 1)) (6000 + 6 * (n + 1)) p l e room_1 s m #[Value.ref b] below meth c (lw_Z below #[Value.ref b] s) 7 (dC, dI) gx_cl A (lw cI cZ cL o o' oo W E) S' 43 [(4, .int (nI (i + 4))), (0, .ref b), (1, .ref (o 0)), (2, .ref (o' 0)), (3, .ref oo)] []) : GW (30 + n) (6000 + 6 * n) p l e room_1 s m #[Value.ref b] below meth c (lw_Z below #[Value.ref b] s) 7 (dC, dI) gx_cl A (lw cI cZ cL o o' oo W E) S 699 [(4, .int (nI i)), (0, .ref b), (1, .ref (o 0)), (2, .ref (o' 0)), (3, .ref oo)] [] := by
  obtain ⟨C, hl, hZ, hX, hbl, hbA, hSim, hLn⟩ := id X
  refine gx_aload_n C dL_law_699 2 rfl rfl ?_
  refine gl_arg C hX hbl hbA hLn (k := 1) 1 0 rfl rfl (by decide) (by omega) dL_law_700 dL_law_701 dL_law_703 dL_law_704 dL_law_705 ?_
  refine gl_callXi (As := [.int (xs (i + 1))]) (rest := []) C (mt_X_count l dC dI cI cZ o W E _ S (fun r X1 => ∀ PM : Int32 → GS → Prop, (∀ M1, J (n + 1) X1 M1 → PM r M1) → wp_M_count [(xs (i + 1))] (lm S) PM) (hSim.count_ n S (lm S) _ hn hJ _ (fun r X1 h => h))) (gx_cwV C 1 ln_L_99 im_X_count se_X_count in_CountedObjects cd_X_count rfl rfl (by decide +kernel) ⟨Nat.le_of_ble_eq_true rfl, Nat.le_of_ble_eq_true rfl⟩) rfl (Nat.le_of_ble_eq_true rfl) dL_law_706 rfl ⟨by show 30 + n ≤ 601024; omega, by show 6000 + 6 * n ≤ 7293000; omega⟩ (fun r X1 hs => ?_)
  refine gx_aload_n C dL_law_709 3 rfl rfl ?_
  refine gl_arg C hX hbl hbA hLn (k := 1) 1 0 rfl rfl (by decide) (by omega) dL_law_710 dL_law_711 dL_law_713 dL_law_714 dL_law_715 ?_
  refine gl_callMi (As := [.int (xs (i + 1))]) (rest := [.int r]) C (mt_M_count l dC dI cI cZ o' _ (lm (ljx S X1)) (fun r' M1 => r' = r ∧ J (n + 1) X1 M1) (by rw [lm_x]; exact hs _ (fun M1 h => ⟨rfl, h⟩))) (gx_cwV C 1 ln_L_102 im_M_count se_M_count in_CountedObjectsModel cd_M_count rfl rfl (by decide +kernel) ⟨Nat.le_of_ble_eq_true rfl, Nat.le_of_ble_eq_true rfl⟩) rfl (Nat.le_of_ble_eq_true rfl) dL_law_716 rfl ⟨by show 30 + n ≤ 601024; omega, by show 6000 + 6 * n ≤ 7293000; omega⟩ (fun r' M1 hm => ?_)
  obtain ⟨hm1, hm3⟩ := hm
  subst hm1
  refine gx_icmp_eq C dL_law_719 800 rfl (fun _ => ?_) (fun hc => absurd rfl hc)
  refine lc_end X (by omega) (by omega) _ ?_ ih
  rw [lm_m]
  exact hSim.1 _ _ _ _ (lx_m _ M1) (hSim.1 _ _ _ _ (lx_x S X1) hm3)
set_option maxHeartbeats 4000000 in
set_option maxRecDepth 100000 in
theorem lc_address (X : LC p l s m b Ln xs meth c dC dI cI cZ cL W E A J) {n i : Nat} (hn : n ≤ 600) (hi : i + 3 < Ln) (S : GS) (hJ : J n S (lm S)) (ih : ∀ S' : GS, J (n + 1) S' (lm S') → GW (30 + (n + 1)) (6000 + 6 * (n + 1)) p l e room_1 s m #[Value.ref b] below meth c (lw_Z below #[Value.ref b] s) 7 (dC, dI) gx_cl A (lw cI cZ cL o o' oo W E) S' 43 [(4, .int (nI (i + 4))), (0, .ref b), (1, .ref (o 0)), (2, .ref (o' 0)), (3, .ref oo)] []) : GW (30 + n) (6000 + 6 * n) p l e room_1 s m #[Value.ref b] below meth c (lw_Z below #[Value.ref b] s) 7 (dC, dI) gx_cl A (lw cI cZ cL o o' oo W E) S 724 [(4, .int (nI i)), (0, .ref b), (1, .ref (o 0)), (2, .ref (o' 0)), (3, .ref oo)] [] := by
  obtain ⟨C, hl, hZ, hX, hbl, hbA, hSim, hLn⟩ := id X
  refine gx_aload_n C dL_law_724 2 rfl rfl ?_
  refine gl_arg C hX hbl hbA hLn (k := 1) 1 0 rfl rfl (by decide) (by omega) dL_law_725 dL_law_726 dL_law_728 dL_law_729 dL_law_730 ?_
  refine gl_callXi (As := [.int (xs (i + 1))]) (rest := []) C (mt_X_address l dC dI cI cZ o W E _ S (fun r X1 => ∀ PM : Int32 → GS → Prop, (∀ M1, J (n + 1) X1 M1 → PM r M1) → wp_M_address [(xs (i + 1))] (lm S) PM) (hSim.address_ n S (lm S) _ hn hJ _ (fun r X1 h => h))) (gx_cwV C 1 ln_L_103 im_X_address se_X_address in_CountedObjects cd_X_address rfl rfl (by decide +kernel) ⟨Nat.le_of_ble_eq_true rfl, Nat.le_of_ble_eq_true rfl⟩) rfl (Nat.le_of_ble_eq_true rfl) dL_law_731 rfl ⟨by show 30 + n ≤ 601024; omega, by show 6000 + 6 * n ≤ 7293000; omega⟩ (fun r X1 hs => ?_)
  refine gx_aload_n C dL_law_734 3 rfl rfl ?_
  refine gl_arg C hX hbl hbA hLn (k := 1) 1 0 rfl rfl (by decide) (by omega) dL_law_735 dL_law_736 dL_law_738 dL_law_739 dL_law_740 ?_
  refine gl_callMi (As := [.int (xs (i + 1))]) (rest := [.int r]) C (mt_M_address l dC dI cI cZ o' _ (lm (ljx S X1)) (fun r' M1 => r' = r ∧ J (n + 1) X1 M1) (by rw [lm_x]; exact hs _ (fun M1 h => ⟨rfl, h⟩))) (gx_cwV C 1 ln_L_106 im_M_address se_M_address in_CountedObjectsModel cd_M_address rfl rfl (by decide +kernel) ⟨Nat.le_of_ble_eq_true rfl, Nat.le_of_ble_eq_true rfl⟩) rfl (Nat.le_of_ble_eq_true rfl) dL_law_741 rfl ⟨by show 30 + n ≤ 601024; omega, by show 6000 + 6 * n ≤ 7293000; omega⟩ (fun r' M1 hm => ?_)
  obtain ⟨hm1, hm3⟩ := hm
  subst hm1
  refine gx_icmp_eq C dL_law_744 800 rfl (fun _ => ?_) (fun hc => absurd rfl hc)
  refine lc_end X (by omega) (by omega) _ ?_ ih
  rw [lm_m]
  exact hSim.1 _ _ _ _ (lx_m _ M1) (hSim.1 _ _ _ _ (lx_x S X1) hm3)
set_option maxHeartbeats 4000000 in
set_option maxRecDepth 100000 in
theorem lc_chunks (X : LC p l s m b Ln xs meth c dC dI cI cZ cL W E A J) {n i : Nat} (hn : n ≤ 600) (hi : i + 3 < Ln) (S : GS) (hJ : J n S (lm S)) (ih : ∀ S' : GS, J (n + 1) S' (lm S') → GW (30 + (n + 1)) (6000 + 6 * (n + 1)) p l e room_1 s m #[Value.ref b] below meth c (lw_Z below #[Value.ref b] s) 7 (dC, dI) gx_cl A (lw cI cZ cL o o' oo W E) S' 43 [(4, .int (nI (i + 4))), (0, .ref b), (1, .ref (o 0)), (2, .ref (o' 0)), (3, .ref oo)] []) : GW (30 + n) (6000 + 6 * n) p l e room_1 s m #[Value.ref b] below meth c (lw_Z below #[Value.ref b] s) 7 (dC, dI) gx_cl A (lw cI cZ cL o o' oo W E) S 749 [(4, .int (nI i)), (0, .ref b), (1, .ref (o 0)), (2, .ref (o' 0)), (3, .ref oo)] [] := by
  obtain ⟨C, hl, hZ, hX, hbl, hbA, hSim, hLn⟩ := id X
  refine gx_aload_n C dL_law_749 2 rfl rfl ?_
  refine gl_arg C hX hbl hbA hLn (k := 1) 1 0 rfl rfl (by decide) (by omega) dL_law_750 dL_law_751 dL_law_753 dL_law_754 dL_law_755 ?_
  refine gl_callXXi (As := [.int (xs (i + 1))]) (rest := []) C hZ.1 (mt_X_chunks l hl dC dI cI cZ o W E _ S (fun r X1 => ∀ PM : Int32 → GS → Prop, (∀ M1, J (n + 1) X1 M1 → PM r M1) → wp_M_chunks [(xs (i + 1))] (lm S) PM) (fun _ _ => False) (hSim.chunks_ n S (lm S) _ hn hJ _ (fun r X1 h => h))) (gl_cwV C 1 ln_L_107 im_X_chunks se_X_chunks in_CountedObjects cd_X_chunks rfl rfl (by decide +kernel) ⟨Nat.le_of_ble_eq_true rfl, Nat.le_of_ble_eq_true rfl⟩) rfl (Nat.le_of_ble_eq_true rfl) dL_law_756 rfl ⟨by show 30 + n + 1 ≤ 601024; omega, by show 6000 + 6 * n + 6 ≤ 7293000; omega⟩ (fun _ _ hs => hs.elim) (fun r X1 hs => ?_)
  refine gx_aload_n C dL_law_759 3 rfl rfl ?_
  refine gl_arg C hX hbl hbA hLn (k := 1) 1 0 rfl rfl (by decide) (by omega) dL_law_760 dL_law_761 dL_law_763 dL_law_764 dL_law_765 ?_
  refine gl_callMi (As := [.int (xs (i + 1))]) (rest := [.int r]) C (mt_M_chunks l dC dI cI cZ o' _ (lm (ljx S X1)) (fun r' M1 => r' = r ∧ J (n + 1) X1 M1) (by rw [lm_x]; exact hs _ (fun M1 h => ⟨rfl, h⟩))) (gx_cwV C 1 ln_L_110 im_M_chunks se_M_chunks in_CountedObjectsModel cd_M_chunks rfl rfl (by decide +kernel) ⟨Nat.le_of_ble_eq_true rfl, Nat.le_of_ble_eq_true rfl⟩) rfl (Nat.le_of_ble_eq_true rfl) dL_law_766 rfl ⟨by show 30 + n + 1 ≤ 601024; omega, by show 6000 + 6 * n + 6 ≤ 7293000; omega⟩ (fun r' M1 hm => ?_)
  obtain ⟨hm1, hm3⟩ := hm
  subst hm1
  refine gx_icmp_eq C dL_law_769 800 rfl (fun _ => ?_) (fun hc => absurd rfl hc)
  refine lc_end X (by omega) (by omega) _ ?_ ih
  rw [lm_m]
  exact hSim.1 _ _ _ _ (lx_m _ M1) (hSim.1 _ _ _ _ (lx_x S X1) hm3)
set_option maxHeartbeats 4000000 in
set_option maxRecDepth 100000 in
theorem lc_free (X : LC p l s m b Ln xs meth c dC dI cI cZ cL W E A J) {n i : Nat} (hn : n ≤ 600) (hi : i + 3 < Ln) (S : GS) (hJ : J n S (lm S)) (ih : ∀ S' : GS, J (n + 1) S' (lm S') → GW (30 + (n + 1)) (6000 + 6 * (n + 1)) p l e room_1 s m #[Value.ref b] below meth c (lw_Z below #[Value.ref b] s) 7 (dC, dI) gx_cl A (lw cI cZ cL o o' oo W E) S' 43 [(4, .int (nI (i + 4))), (0, .ref b), (1, .ref (o 0)), (2, .ref (o' 0)), (3, .ref oo)] []) : GW (30 + n) (6000 + 6 * n) p l e room_1 s m #[Value.ref b] below meth c (lw_Z below #[Value.ref b] s) 7 (dC, dI) gx_cl A (lw cI cZ cL o o' oo W E) S 774 [(4, .int (nI i)), (0, .ref b), (1, .ref (o 0)), (2, .ref (o' 0)), (3, .ref oo)] [] := by
  obtain ⟨C, hl, hZ, hX, hbl, hbA, hSim, hLn⟩ := id X
  refine gx_aload_n C dL_law_774 2 rfl rfl ?_
  refine gl_callXi (As := []) (rest := []) C (mt_X_free l dC dI cI cZ o W E S (fun r X1 => ∀ PM : Int32 → GS → Prop, (∀ M1, J (n + 1) X1 M1 → PM r M1) → wp_M_free [] (lm S) PM) (hSim.free_ n S (lm S) hn hJ _ (fun r X1 h => h))) (gx_cwV C 0 ln_L_111 im_X_free se_X_free in_CountedObjects cd_X_free rfl rfl (by decide +kernel) ⟨Nat.le_of_ble_eq_true rfl, Nat.le_of_ble_eq_true rfl⟩) rfl (Nat.le_of_ble_eq_true rfl) dL_law_775 rfl ⟨by show 30 + n ≤ 601024; omega, by show 6000 + 6 * n ≤ 7293000; omega⟩ (fun r X1 hs => ?_)
  refine gx_aload_n C dL_law_778 3 rfl rfl ?_
  refine gl_callMi (As := []) (rest := [.int r]) C (mt_M_free l dC dI cI cZ o' (lm (ljx S X1)) (fun r' M1 => r' = r ∧ J (n + 1) X1 M1) (by rw [lm_x]; exact hs _ (fun M1 h => ⟨rfl, h⟩))) (gx_cwV C 0 ln_L_114 im_M_free se_M_free in_CountedObjectsModel cd_M_free rfl rfl (by decide +kernel) ⟨Nat.le_of_ble_eq_true rfl, Nat.le_of_ble_eq_true rfl⟩) rfl (Nat.le_of_ble_eq_true rfl) dL_law_779 rfl ⟨by show 30 + n ≤ 601024; omega, by show 6000 + 6 * n ≤ 7293000; omega⟩ (fun r' M1 hm => ?_)
  obtain ⟨hm1, hm3⟩ := hm
  subst hm1
  refine gx_icmp_eq C dL_law_782 800 rfl (fun _ => ?_) (fun hc => absurd rfl hc)
  refine lc_end X (by omega) (by omega) _ ?_ ih
  rw [lm_m]
  exact hSim.1 _ _ _ _ (lx_m _ M1) (hSim.1 _ _ _ _ (lx_x S X1) hm3)
set_option maxHeartbeats 4000000 in
set_option maxRecDepth 100000 in
theorem lc_objects (X : LC p l s m b Ln xs meth c dC dI cI cZ cL W E A J) {n i : Nat} (hn : n ≤ 600) (hi : i + 3 < Ln) (S : GS) (hJ : J n S (lm S)) (ih : ∀ S' : GS, J (n + 1) S' (lm S') → GW (30 + (n + 1)) (6000 + 6 * (n + 1)) p l e room_1 s m #[Value.ref b] below meth c (lw_Z below #[Value.ref b] s) 7 (dC, dI) gx_cl A (lw cI cZ cL o o' oo W E) S' 43 [(4, .int (nI (i + 4))), (0, .ref b), (1, .ref (o 0)), (2, .ref (o' 0)), (3, .ref oo)] []) : GW (30 + n) (6000 + 6 * n) p l e room_1 s m #[Value.ref b] below meth c (lw_Z below #[Value.ref b] s) 7 (dC, dI) gx_cl A (lw cI cZ cL o o' oo W E) S 787 [(4, .int (nI i)), (0, .ref b), (1, .ref (o 0)), (2, .ref (o' 0)), (3, .ref oo)] [] := by
  obtain ⟨C, hl, hZ, hX, hbl, hbA, hSim, hLn⟩ := id X
  refine gx_aload_n C dL_law_787 2 rfl rfl ?_
  refine gl_callXi (As := []) (rest := []) C (mt_X_objects l dC dI cI cZ o W E S (fun r X1 => ∀ PM : Int32 → GS → Prop, (∀ M1, J (n + 1) X1 M1 → PM r M1) → wp_M_objects [] (lm S) PM) (hSim.objects_ n S (lm S) hn hJ _ (fun r X1 h => h))) (gx_cwV C 0 ln_L_115 im_X_objects se_X_objects in_CountedObjects cd_X_objects rfl rfl (by decide +kernel) ⟨Nat.le_of_ble_eq_true rfl, Nat.le_of_ble_eq_true rfl⟩) rfl (Nat.le_of_ble_eq_true rfl) dL_law_788 rfl ⟨by show 30 + n ≤ 601024; omega, by show 6000 + 6 * n ≤ 7293000; omega⟩ (fun r X1 hs => ?_)
  refine gx_aload_n C dL_law_791 3 rfl rfl ?_
  refine gl_callMi (As := []) (rest := [.int r]) C (mt_M_objects l dC dI cI cZ o' (lm (ljx S X1)) (fun r' M1 => r' = r ∧ J (n + 1) X1 M1) (by rw [lm_x]; exact hs _ (fun M1 h => ⟨rfl, h⟩))) (gx_cwV C 0 ln_L_118 im_M_objects se_M_objects in_CountedObjectsModel cd_M_objects rfl rfl (by decide +kernel) ⟨Nat.le_of_ble_eq_true rfl, Nat.le_of_ble_eq_true rfl⟩) rfl (Nat.le_of_ble_eq_true rfl) dL_law_792 rfl ⟨by show 30 + n ≤ 601024; omega, by show 6000 + 6 * n ≤ 7293000; omega⟩ (fun r' M1 hm => ?_)
  obtain ⟨hm1, hm3⟩ := hm
  subst hm1
  refine gx_icmp_eq C dL_law_795 800 rfl (fun _ => ?_) (fun hc => absurd rfl hc)
  refine lc_end X (by omega) (by omega) _ ?_ ih
  rw [lm_m]
  exact hSim.1 _ _ _ _ (lx_m _ M1) (hSim.1 _ _ _ _ (lx_x S X1) hm3)
end LLB
