abbrev c_L_law : Cf := (code, 4, "StripsOfFourLaw", "law", (some .boolean), room_1)
theorem d_L_law_0 : decode code 0 = .ok (.new 7, 3) := by decide +kernel
theorem d_L_law_3 : decode code 3 = .ok (.dup, 1) := by decide +kernel
theorem d_L_law_4 : decode code 4 = .ok (.invokespecial 9, 3) := by decide +kernel
theorem d_L_law_7 : decode code 7 = .ok (.astore_n 1, 1) := by decide +kernel
theorem d_L_law_8 : decode code 8 = .ok (.new 10, 3) := by decide +kernel
theorem d_L_law_11 : decode code 11 = .ok (.dup, 1) := by decide +kernel
theorem d_L_law_12 : decode code 12 = .ok (.invokespecial 12, 3) := by decide +kernel
theorem d_L_law_15 : decode code 15 = .ok (.astore_n 2, 1) := by decide +kernel
theorem d_L_law_16 : decode code 16 = .ok (.iconst 0, 1) := by decide +kernel
theorem d_L_law_17 : decode code 17 = .ok (.istore_n 3, 1) := by decide +kernel
theorem d_L_law_18 : decode code 18 = .ok (.iload_n 3, 1) := by decide +kernel
theorem d_L_law_19 : decode code 19 = .ok (.aload_n 0, 1) := by decide +kernel
theorem d_L_law_20 : decode code 20 = .ok (.arraylength, 1) := by decide +kernel
theorem d_L_law_21 : decode code 21 = .ok (.iconst 5, 1) := by decide +kernel
theorem d_L_law_22 : decode code 22 = .ok (.isub, 1) := by decide +kernel
theorem d_L_law_23 : decode code 23 = .ok (.if_icmp .gt 1052, 3) := by decide +kernel
theorem d_L_law_26 : decode code 26 = .ok (.aload_n 0, 1) := by decide +kernel
theorem d_L_law_27 : decode code 27 = .ok (.iload_n 3, 1) := by decide +kernel
theorem d_L_law_28 : decode code 28 = .ok (.iaload, 1) := by decide +kernel
theorem d_L_law_29 : decode code 29 = .ok (.bipush 31, 2) := by decide +kernel
theorem d_L_law_31 : decode code 31 = .ok (.iand, 1) := by decide +kernel
theorem d_L_law_32 : decode code 32 = .ok (.tableswitch 1037 0 30 #[140, 163, 176, 189, 202, 225, 258, 291, 324, 367, 421, 454, 477, 500, 513, 526, 559, 572, 585, 628, 651, 664, 687, 730, 763, 796, 829, 862, 932, 991, 1014], 140) := by decide +kernel
theorem d_L_law_172 : decode code 172 = .ok (.aload_n 1, 1) := by decide +kernel
theorem d_L_law_173 : decode code 173 = .ok (.aload_n 0, 1) := by decide +kernel
theorem d_L_law_174 : decode code 174 = .ok (.iload_n 3, 1) := by decide +kernel
theorem d_L_law_175 : decode code 175 = .ok (.iconst 1, 1) := by decide +kernel
theorem d_L_law_176 : decode code 176 = .ok (.iadd, 1) := by decide +kernel
theorem d_L_law_177 : decode code 177 = .ok (.iaload, 1) := by decide +kernel
theorem d_L_law_178 : decode code 178 = .ok (.invokevirtual 13, 3) := by decide +kernel
theorem d_L_law_181 : decode code 181 = .ok (.aload_n 2, 1) := by decide +kernel
theorem d_L_law_182 : decode code 182 = .ok (.aload_n 0, 1) := by decide +kernel
theorem d_L_law_183 : decode code 183 = .ok (.iload_n 3, 1) := by decide +kernel
theorem d_L_law_184 : decode code 184 = .ok (.iconst 1, 1) := by decide +kernel
theorem d_L_law_185 : decode code 185 = .ok (.iadd, 1) := by decide +kernel
theorem d_L_law_186 : decode code 186 = .ok (.iaload, 1) := by decide +kernel
theorem d_L_law_187 : decode code 187 = .ok (.invokevirtual 17, 3) := by decide +kernel
theorem d_L_law_190 : decode code 190 = .ok (.if_icmp .eq 879, 3) := by decide +kernel
theorem d_L_law_193 : decode code 193 = .ok (.iconst 0, 1) := by decide +kernel
theorem d_L_law_194 : decode code 194 = .ok (.ireturn, 1) := by decide +kernel
theorem d_L_law_195 : decode code 195 = .ok (.aload_n 1, 1) := by decide +kernel
theorem d_L_law_196 : decode code 196 = .ok (.invokevirtual 18, 3) := by decide +kernel
theorem d_L_law_199 : decode code 199 = .ok (.aload_n 2, 1) := by decide +kernel
theorem d_L_law_200 : decode code 200 = .ok (.invokevirtual 22, 3) := by decide +kernel
theorem d_L_law_203 : decode code 203 = .ok (.if_icmp .eq 866, 3) := by decide +kernel
theorem d_L_law_206 : decode code 206 = .ok (.iconst 0, 1) := by decide +kernel
theorem d_L_law_207 : decode code 207 = .ok (.ireturn, 1) := by decide +kernel
theorem d_L_law_208 : decode code 208 = .ok (.aload_n 1, 1) := by decide +kernel
theorem d_L_law_209 : decode code 209 = .ok (.invokevirtual 23, 3) := by decide +kernel
theorem d_L_law_212 : decode code 212 = .ok (.aload_n 2, 1) := by decide +kernel
theorem d_L_law_213 : decode code 213 = .ok (.invokevirtual 26, 3) := by decide +kernel
theorem d_L_law_216 : decode code 216 = .ok (.if_icmp .eq 853, 3) := by decide +kernel
theorem d_L_law_219 : decode code 219 = .ok (.iconst 0, 1) := by decide +kernel
theorem d_L_law_220 : decode code 220 = .ok (.ireturn, 1) := by decide +kernel
theorem d_L_law_221 : decode code 221 = .ok (.aload_n 1, 1) := by decide +kernel
theorem d_L_law_222 : decode code 222 = .ok (.invokevirtual 27, 3) := by decide +kernel
theorem d_L_law_225 : decode code 225 = .ok (.aload_n 2, 1) := by decide +kernel
theorem d_L_law_226 : decode code 226 = .ok (.invokevirtual 30, 3) := by decide +kernel
theorem d_L_law_229 : decode code 229 = .ok (.if_icmp .eq 840, 3) := by decide +kernel
theorem d_L_law_232 : decode code 232 = .ok (.iconst 0, 1) := by decide +kernel
theorem d_L_law_233 : decode code 233 = .ok (.ireturn, 1) := by decide +kernel
theorem d_L_law_234 : decode code 234 = .ok (.aload_n 1, 1) := by decide +kernel
theorem d_L_law_235 : decode code 235 = .ok (.aload_n 0, 1) := by decide +kernel
theorem d_L_law_236 : decode code 236 = .ok (.iload_n 3, 1) := by decide +kernel
theorem d_L_law_237 : decode code 237 = .ok (.iconst 1, 1) := by decide +kernel
theorem d_L_law_238 : decode code 238 = .ok (.iadd, 1) := by decide +kernel
theorem d_L_law_239 : decode code 239 = .ok (.iaload, 1) := by decide +kernel
theorem d_L_law_240 : decode code 240 = .ok (.invokevirtual 31, 3) := by decide +kernel
theorem d_L_law_243 : decode code 243 = .ok (.aload_n 2, 1) := by decide +kernel
theorem d_L_law_244 : decode code 244 = .ok (.aload_n 0, 1) := by decide +kernel
theorem d_L_law_245 : decode code 245 = .ok (.iload_n 3, 1) := by decide +kernel
theorem d_L_law_246 : decode code 246 = .ok (.iconst 1, 1) := by decide +kernel
theorem d_L_law_247 : decode code 247 = .ok (.iadd, 1) := by decide +kernel
theorem d_L_law_248 : decode code 248 = .ok (.iaload, 1) := by decide +kernel
theorem d_L_law_249 : decode code 249 = .ok (.invokevirtual 34, 3) := by decide +kernel
theorem d_L_law_252 : decode code 252 = .ok (.if_icmp .eq 817, 3) := by decide +kernel
theorem d_L_law_255 : decode code 255 = .ok (.iconst 0, 1) := by decide +kernel
theorem d_L_law_256 : decode code 256 = .ok (.ireturn, 1) := by decide +kernel
theorem d_L_law_257 : decode code 257 = .ok (.aload_n 1, 1) := by decide +kernel
theorem d_L_law_258 : decode code 258 = .ok (.aload_n 0, 1) := by decide +kernel
theorem d_L_law_259 : decode code 259 = .ok (.iload_n 3, 1) := by decide +kernel
theorem d_L_law_260 : decode code 260 = .ok (.iconst 1, 1) := by decide +kernel
theorem d_L_law_261 : decode code 261 = .ok (.iadd, 1) := by decide +kernel
theorem d_L_law_262 : decode code 262 = .ok (.iaload, 1) := by decide +kernel
theorem d_L_law_263 : decode code 263 = .ok (.aload_n 0, 1) := by decide +kernel
theorem d_L_law_264 : decode code 264 = .ok (.iload_n 3, 1) := by decide +kernel
theorem d_L_law_265 : decode code 265 = .ok (.iconst 2, 1) := by decide +kernel
theorem d_L_law_266 : decode code 266 = .ok (.iadd, 1) := by decide +kernel
theorem d_L_law_267 : decode code 267 = .ok (.iaload, 1) := by decide +kernel
theorem d_L_law_268 : decode code 268 = .ok (.invokevirtual 35, 3) := by decide +kernel
theorem d_L_law_271 : decode code 271 = .ok (.aload_n 2, 1) := by decide +kernel
theorem d_L_law_272 : decode code 272 = .ok (.aload_n 0, 1) := by decide +kernel
theorem d_L_law_273 : decode code 273 = .ok (.iload_n 3, 1) := by decide +kernel
theorem d_L_law_274 : decode code 274 = .ok (.iconst 1, 1) := by decide +kernel
theorem d_L_law_275 : decode code 275 = .ok (.iadd, 1) := by decide +kernel
theorem d_L_law_276 : decode code 276 = .ok (.iaload, 1) := by decide +kernel
theorem d_L_law_277 : decode code 277 = .ok (.aload_n 0, 1) := by decide +kernel
theorem d_L_law_278 : decode code 278 = .ok (.iload_n 3, 1) := by decide +kernel
theorem d_L_law_279 : decode code 279 = .ok (.iconst 2, 1) := by decide +kernel
theorem d_L_law_280 : decode code 280 = .ok (.iadd, 1) := by decide +kernel
theorem d_L_law_281 : decode code 281 = .ok (.iaload, 1) := by decide +kernel
theorem d_L_law_282 : decode code 282 = .ok (.invokevirtual 39, 3) := by decide +kernel
theorem d_L_law_285 : decode code 285 = .ok (.if_icmp .eq 784, 3) := by decide +kernel
theorem d_L_law_288 : decode code 288 = .ok (.iconst 0, 1) := by decide +kernel
theorem d_L_law_289 : decode code 289 = .ok (.ireturn, 1) := by decide +kernel
theorem d_L_law_290 : decode code 290 = .ok (.aload_n 1, 1) := by decide +kernel
theorem d_L_law_291 : decode code 291 = .ok (.aload_n 0, 1) := by decide +kernel
theorem d_L_law_292 : decode code 292 = .ok (.iload_n 3, 1) := by decide +kernel
theorem d_L_law_293 : decode code 293 = .ok (.iconst 1, 1) := by decide +kernel
theorem d_L_law_294 : decode code 294 = .ok (.iadd, 1) := by decide +kernel
theorem d_L_law_295 : decode code 295 = .ok (.iaload, 1) := by decide +kernel
theorem d_L_law_296 : decode code 296 = .ok (.aload_n 0, 1) := by decide +kernel
theorem d_L_law_297 : decode code 297 = .ok (.iload_n 3, 1) := by decide +kernel
theorem d_L_law_298 : decode code 298 = .ok (.iconst 2, 1) := by decide +kernel
theorem d_L_law_299 : decode code 299 = .ok (.iadd, 1) := by decide +kernel
theorem d_L_law_300 : decode code 300 = .ok (.iaload, 1) := by decide +kernel
theorem d_L_law_301 : decode code 301 = .ok (.invokevirtual 40, 3) := by decide +kernel
theorem d_L_law_304 : decode code 304 = .ok (.aload_n 2, 1) := by decide +kernel
theorem d_L_law_305 : decode code 305 = .ok (.aload_n 0, 1) := by decide +kernel
theorem d_L_law_306 : decode code 306 = .ok (.iload_n 3, 1) := by decide +kernel
theorem d_L_law_307 : decode code 307 = .ok (.iconst 1, 1) := by decide +kernel
theorem d_L_law_308 : decode code 308 = .ok (.iadd, 1) := by decide +kernel
theorem d_L_law_309 : decode code 309 = .ok (.iaload, 1) := by decide +kernel
theorem d_L_law_310 : decode code 310 = .ok (.aload_n 0, 1) := by decide +kernel
theorem d_L_law_311 : decode code 311 = .ok (.iload_n 3, 1) := by decide +kernel
theorem d_L_law_312 : decode code 312 = .ok (.iconst 2, 1) := by decide +kernel
theorem d_L_law_313 : decode code 313 = .ok (.iadd, 1) := by decide +kernel
theorem d_L_law_314 : decode code 314 = .ok (.iaload, 1) := by decide +kernel
theorem d_L_law_315 : decode code 315 = .ok (.invokevirtual 43, 3) := by decide +kernel
theorem d_L_law_318 : decode code 318 = .ok (.if_icmp .eq 751, 3) := by decide +kernel
theorem d_L_law_321 : decode code 321 = .ok (.iconst 0, 1) := by decide +kernel
theorem d_L_law_322 : decode code 322 = .ok (.ireturn, 1) := by decide +kernel
theorem d_L_law_323 : decode code 323 = .ok (.aload_n 1, 1) := by decide +kernel
theorem d_L_law_324 : decode code 324 = .ok (.aload_n 0, 1) := by decide +kernel
theorem d_L_law_325 : decode code 325 = .ok (.iload_n 3, 1) := by decide +kernel
theorem d_L_law_326 : decode code 326 = .ok (.iconst 1, 1) := by decide +kernel
theorem d_L_law_327 : decode code 327 = .ok (.iadd, 1) := by decide +kernel
theorem d_L_law_328 : decode code 328 = .ok (.iaload, 1) := by decide +kernel
theorem d_L_law_329 : decode code 329 = .ok (.aload_n 0, 1) := by decide +kernel
theorem d_L_law_330 : decode code 330 = .ok (.iload_n 3, 1) := by decide +kernel
theorem d_L_law_331 : decode code 331 = .ok (.iconst 2, 1) := by decide +kernel
theorem d_L_law_332 : decode code 332 = .ok (.iadd, 1) := by decide +kernel
theorem d_L_law_333 : decode code 333 = .ok (.iaload, 1) := by decide +kernel
theorem d_L_law_334 : decode code 334 = .ok (.invokevirtual 44, 3) := by decide +kernel
theorem d_L_law_337 : decode code 337 = .ok (.aload_n 2, 1) := by decide +kernel
theorem d_L_law_338 : decode code 338 = .ok (.aload_n 0, 1) := by decide +kernel
theorem d_L_law_339 : decode code 339 = .ok (.iload_n 3, 1) := by decide +kernel
theorem d_L_law_340 : decode code 340 = .ok (.iconst 1, 1) := by decide +kernel
theorem d_L_law_341 : decode code 341 = .ok (.iadd, 1) := by decide +kernel
theorem d_L_law_342 : decode code 342 = .ok (.iaload, 1) := by decide +kernel
theorem d_L_law_343 : decode code 343 = .ok (.aload_n 0, 1) := by decide +kernel
theorem d_L_law_344 : decode code 344 = .ok (.iload_n 3, 1) := by decide +kernel
theorem d_L_law_345 : decode code 345 = .ok (.iconst 2, 1) := by decide +kernel
theorem d_L_law_346 : decode code 346 = .ok (.iadd, 1) := by decide +kernel
theorem d_L_law_347 : decode code 347 = .ok (.iaload, 1) := by decide +kernel
theorem d_L_law_348 : decode code 348 = .ok (.invokevirtual 47, 3) := by decide +kernel
theorem d_L_law_351 : decode code 351 = .ok (.if_icmp .eq 718, 3) := by decide +kernel
theorem d_L_law_354 : decode code 354 = .ok (.iconst 0, 1) := by decide +kernel
theorem d_L_law_355 : decode code 355 = .ok (.ireturn, 1) := by decide +kernel
theorem d_L_law_356 : decode code 356 = .ok (.aload_n 1, 1) := by decide +kernel
theorem d_L_law_357 : decode code 357 = .ok (.aload_n 0, 1) := by decide +kernel
theorem d_L_law_358 : decode code 358 = .ok (.iload_n 3, 1) := by decide +kernel
theorem d_L_law_359 : decode code 359 = .ok (.iconst 1, 1) := by decide +kernel
theorem d_L_law_360 : decode code 360 = .ok (.iadd, 1) := by decide +kernel
theorem d_L_law_361 : decode code 361 = .ok (.iaload, 1) := by decide +kernel
theorem d_L_law_362 : decode code 362 = .ok (.aload_n 0, 1) := by decide +kernel
theorem d_L_law_363 : decode code 363 = .ok (.iload_n 3, 1) := by decide +kernel
theorem d_L_law_364 : decode code 364 = .ok (.iconst 2, 1) := by decide +kernel
theorem d_L_law_365 : decode code 365 = .ok (.iadd, 1) := by decide +kernel
theorem d_L_law_366 : decode code 366 = .ok (.iaload, 1) := by decide +kernel
theorem d_L_law_367 : decode code 367 = .ok (.aload_n 0, 1) := by decide +kernel
theorem d_L_law_368 : decode code 368 = .ok (.iload_n 3, 1) := by decide +kernel
theorem d_L_law_369 : decode code 369 = .ok (.iconst 3, 1) := by decide +kernel
theorem d_L_law_370 : decode code 370 = .ok (.iadd, 1) := by decide +kernel
theorem d_L_law_371 : decode code 371 = .ok (.iaload, 1) := by decide +kernel
theorem d_L_law_372 : decode code 372 = .ok (.invokevirtual 48, 3) := by decide +kernel
theorem d_L_law_375 : decode code 375 = .ok (.aload_n 2, 1) := by decide +kernel
theorem d_L_law_376 : decode code 376 = .ok (.aload_n 0, 1) := by decide +kernel
theorem d_L_law_377 : decode code 377 = .ok (.iload_n 3, 1) := by decide +kernel
theorem d_L_law_378 : decode code 378 = .ok (.iconst 1, 1) := by decide +kernel
theorem d_L_law_379 : decode code 379 = .ok (.iadd, 1) := by decide +kernel
theorem d_L_law_380 : decode code 380 = .ok (.iaload, 1) := by decide +kernel
theorem d_L_law_381 : decode code 381 = .ok (.aload_n 0, 1) := by decide +kernel
theorem d_L_law_382 : decode code 382 = .ok (.iload_n 3, 1) := by decide +kernel
theorem d_L_law_383 : decode code 383 = .ok (.iconst 2, 1) := by decide +kernel
theorem d_L_law_384 : decode code 384 = .ok (.iadd, 1) := by decide +kernel
theorem d_L_law_385 : decode code 385 = .ok (.iaload, 1) := by decide +kernel
theorem d_L_law_386 : decode code 386 = .ok (.aload_n 0, 1) := by decide +kernel
theorem d_L_law_387 : decode code 387 = .ok (.iload_n 3, 1) := by decide +kernel
theorem d_L_law_388 : decode code 388 = .ok (.iconst 3, 1) := by decide +kernel
theorem d_L_law_389 : decode code 389 = .ok (.iadd, 1) := by decide +kernel
theorem d_L_law_390 : decode code 390 = .ok (.iaload, 1) := by decide +kernel
theorem d_L_law_391 : decode code 391 = .ok (.invokevirtual 52, 3) := by decide +kernel
theorem d_L_law_394 : decode code 394 = .ok (.if_icmp .eq 675, 3) := by decide +kernel
theorem d_L_law_397 : decode code 397 = .ok (.iconst 0, 1) := by decide +kernel
theorem d_L_law_398 : decode code 398 = .ok (.ireturn, 1) := by decide +kernel
theorem d_L_law_399 : decode code 399 = .ok (.aload_n 1, 1) := by decide +kernel
theorem d_L_law_400 : decode code 400 = .ok (.aload_n 0, 1) := by decide +kernel
theorem d_L_law_401 : decode code 401 = .ok (.iload_n 3, 1) := by decide +kernel
theorem d_L_law_402 : decode code 402 = .ok (.iconst 1, 1) := by decide +kernel
theorem d_L_law_403 : decode code 403 = .ok (.iadd, 1) := by decide +kernel
theorem d_L_law_404 : decode code 404 = .ok (.iaload, 1) := by decide +kernel
theorem d_L_law_405 : decode code 405 = .ok (.i2l, 1) := by decide +kernel
theorem d_L_law_406 : decode code 406 = .ok (.bipush 32, 2) := by decide +kernel
theorem d_L_law_408 : decode code 408 = .ok (.lshl, 1) := by decide +kernel
theorem d_L_law_409 : decode code 409 = .ok (.aload_n 0, 1) := by decide +kernel
theorem d_L_law_410 : decode code 410 = .ok (.iload_n 3, 1) := by decide +kernel
theorem d_L_law_411 : decode code 411 = .ok (.iconst 2, 1) := by decide +kernel
theorem d_L_law_412 : decode code 412 = .ok (.iadd, 1) := by decide +kernel
theorem d_L_law_413 : decode code 413 = .ok (.iaload, 1) := by decide +kernel
theorem d_L_law_414 : decode code 414 = .ok (.i2l, 1) := by decide +kernel
theorem d_L_law_415 : decode code 415 = .ok (.ldc2_w 53, 3) := by decide +kernel
theorem d_L_law_418 : decode code 418 = .ok (.land, 1) := by decide +kernel
theorem d_L_law_419 : decode code 419 = .ok (.lor, 1) := by decide +kernel
theorem d_L_law_420 : decode code 420 = .ok (.invokevirtual 55, 3) := by decide +kernel
theorem d_L_law_423 : decode code 423 = .ok (.aload_n 2, 1) := by decide +kernel
theorem d_L_law_424 : decode code 424 = .ok (.aload_n 0, 1) := by decide +kernel
theorem d_L_law_425 : decode code 425 = .ok (.iload_n 3, 1) := by decide +kernel
theorem d_L_law_426 : decode code 426 = .ok (.iconst 1, 1) := by decide +kernel
theorem d_L_law_427 : decode code 427 = .ok (.iadd, 1) := by decide +kernel
theorem d_L_law_428 : decode code 428 = .ok (.iaload, 1) := by decide +kernel
theorem d_L_law_429 : decode code 429 = .ok (.i2l, 1) := by decide +kernel
theorem d_L_law_430 : decode code 430 = .ok (.bipush 32, 2) := by decide +kernel
theorem d_L_law_432 : decode code 432 = .ok (.lshl, 1) := by decide +kernel
theorem d_L_law_433 : decode code 433 = .ok (.aload_n 0, 1) := by decide +kernel
theorem d_L_law_434 : decode code 434 = .ok (.iload_n 3, 1) := by decide +kernel
theorem d_L_law_435 : decode code 435 = .ok (.iconst 2, 1) := by decide +kernel
theorem d_L_law_436 : decode code 436 = .ok (.iadd, 1) := by decide +kernel
theorem d_L_law_437 : decode code 437 = .ok (.iaload, 1) := by decide +kernel
theorem d_L_law_438 : decode code 438 = .ok (.i2l, 1) := by decide +kernel
theorem d_L_law_439 : decode code 439 = .ok (.ldc2_w 53, 3) := by decide +kernel
theorem d_L_law_442 : decode code 442 = .ok (.land, 1) := by decide +kernel
theorem d_L_law_443 : decode code 443 = .ok (.lor, 1) := by decide +kernel
theorem d_L_law_444 : decode code 444 = .ok (.invokevirtual 59, 3) := by decide +kernel
theorem d_L_law_447 : decode code 447 = .ok (.lcmp, 1) := by decide +kernel
theorem d_L_law_448 : decode code 448 = .ok (.ifCond .eq 621, 3) := by decide +kernel
theorem d_L_law_451 : decode code 451 = .ok (.iconst 0, 1) := by decide +kernel
theorem d_L_law_452 : decode code 452 = .ok (.ireturn, 1) := by decide +kernel
theorem d_L_law_453 : decode code 453 = .ok (.aload_n 1, 1) := by decide +kernel
theorem d_L_law_454 : decode code 454 = .ok (.aload_n 0, 1) := by decide +kernel
theorem d_L_law_455 : decode code 455 = .ok (.iload_n 3, 1) := by decide +kernel
theorem d_L_law_456 : decode code 456 = .ok (.iconst 1, 1) := by decide +kernel
theorem d_L_law_457 : decode code 457 = .ok (.iadd, 1) := by decide +kernel
theorem d_L_law_458 : decode code 458 = .ok (.iaload, 1) := by decide +kernel
theorem d_L_law_459 : decode code 459 = .ok (.aload_n 0, 1) := by decide +kernel
theorem d_L_law_460 : decode code 460 = .ok (.iload_n 3, 1) := by decide +kernel
theorem d_L_law_461 : decode code 461 = .ok (.iconst 2, 1) := by decide +kernel
theorem d_L_law_462 : decode code 462 = .ok (.iadd, 1) := by decide +kernel
theorem d_L_law_463 : decode code 463 = .ok (.iaload, 1) := by decide +kernel
theorem d_L_law_464 : decode code 464 = .ok (.invokevirtual 60, 3) := by decide +kernel
theorem d_L_law_467 : decode code 467 = .ok (.aload_n 2, 1) := by decide +kernel
theorem d_L_law_468 : decode code 468 = .ok (.aload_n 0, 1) := by decide +kernel
theorem d_L_law_469 : decode code 469 = .ok (.iload_n 3, 1) := by decide +kernel
theorem d_L_law_470 : decode code 470 = .ok (.iconst 1, 1) := by decide +kernel
theorem d_L_law_471 : decode code 471 = .ok (.iadd, 1) := by decide +kernel
theorem d_L_law_472 : decode code 472 = .ok (.iaload, 1) := by decide +kernel
theorem d_L_law_473 : decode code 473 = .ok (.aload_n 0, 1) := by decide +kernel
theorem d_L_law_474 : decode code 474 = .ok (.iload_n 3, 1) := by decide +kernel
theorem d_L_law_475 : decode code 475 = .ok (.iconst 2, 1) := by decide +kernel
theorem d_L_law_476 : decode code 476 = .ok (.iadd, 1) := by decide +kernel
theorem d_L_law_477 : decode code 477 = .ok (.iaload, 1) := by decide +kernel
theorem d_L_law_478 : decode code 478 = .ok (.invokevirtual 63, 3) := by decide +kernel
theorem d_L_law_481 : decode code 481 = .ok (.if_icmp .eq 588, 3) := by decide +kernel
theorem d_L_law_484 : decode code 484 = .ok (.iconst 0, 1) := by decide +kernel
theorem d_L_law_485 : decode code 485 = .ok (.ireturn, 1) := by decide +kernel
theorem d_L_law_486 : decode code 486 = .ok (.aload_n 1, 1) := by decide +kernel
theorem d_L_law_487 : decode code 487 = .ok (.aload_n 0, 1) := by decide +kernel
theorem d_L_law_488 : decode code 488 = .ok (.iload_n 3, 1) := by decide +kernel
theorem d_L_law_489 : decode code 489 = .ok (.iconst 1, 1) := by decide +kernel
theorem d_L_law_490 : decode code 490 = .ok (.iadd, 1) := by decide +kernel
theorem d_L_law_491 : decode code 491 = .ok (.iaload, 1) := by decide +kernel
theorem d_L_law_492 : decode code 492 = .ok (.invokevirtual 64, 3) := by decide +kernel
theorem d_L_law_495 : decode code 495 = .ok (.aload_n 2, 1) := by decide +kernel
theorem d_L_law_496 : decode code 496 = .ok (.aload_n 0, 1) := by decide +kernel
theorem d_L_law_497 : decode code 497 = .ok (.iload_n 3, 1) := by decide +kernel
theorem d_L_law_498 : decode code 498 = .ok (.iconst 1, 1) := by decide +kernel
theorem d_L_law_499 : decode code 499 = .ok (.iadd, 1) := by decide +kernel
theorem d_L_law_500 : decode code 500 = .ok (.iaload, 1) := by decide +kernel
theorem d_L_law_501 : decode code 501 = .ok (.invokevirtual 67, 3) := by decide +kernel
theorem d_L_law_504 : decode code 504 = .ok (.if_icmp .eq 565, 3) := by decide +kernel
theorem d_L_law_507 : decode code 507 = .ok (.iconst 0, 1) := by decide +kernel
theorem d_L_law_508 : decode code 508 = .ok (.ireturn, 1) := by decide +kernel
theorem d_L_law_509 : decode code 509 = .ok (.aload_n 1, 1) := by decide +kernel
theorem d_L_law_510 : decode code 510 = .ok (.aload_n 0, 1) := by decide +kernel
theorem d_L_law_511 : decode code 511 = .ok (.iload_n 3, 1) := by decide +kernel
theorem d_L_law_512 : decode code 512 = .ok (.iconst 1, 1) := by decide +kernel
theorem d_L_law_513 : decode code 513 = .ok (.iadd, 1) := by decide +kernel
theorem d_L_law_514 : decode code 514 = .ok (.iaload, 1) := by decide +kernel
theorem d_L_law_515 : decode code 515 = .ok (.invokevirtual 68, 3) := by decide +kernel
theorem d_L_law_518 : decode code 518 = .ok (.aload_n 2, 1) := by decide +kernel
theorem d_L_law_519 : decode code 519 = .ok (.aload_n 0, 1) := by decide +kernel
theorem d_L_law_520 : decode code 520 = .ok (.iload_n 3, 1) := by decide +kernel
theorem d_L_law_521 : decode code 521 = .ok (.iconst 1, 1) := by decide +kernel
theorem d_L_law_522 : decode code 522 = .ok (.iadd, 1) := by decide +kernel
theorem d_L_law_523 : decode code 523 = .ok (.iaload, 1) := by decide +kernel
theorem d_L_law_524 : decode code 524 = .ok (.invokevirtual 71, 3) := by decide +kernel
theorem d_L_law_527 : decode code 527 = .ok (.if_icmp .eq 542, 3) := by decide +kernel
theorem d_L_law_530 : decode code 530 = .ok (.iconst 0, 1) := by decide +kernel
theorem d_L_law_531 : decode code 531 = .ok (.ireturn, 1) := by decide +kernel
theorem d_L_law_532 : decode code 532 = .ok (.aload_n 1, 1) := by decide +kernel
theorem d_L_law_533 : decode code 533 = .ok (.invokevirtual 72, 3) := by decide +kernel
theorem d_L_law_536 : decode code 536 = .ok (.aload_n 2, 1) := by decide +kernel
theorem d_L_law_537 : decode code 537 = .ok (.invokevirtual 75, 3) := by decide +kernel
theorem d_L_law_540 : decode code 540 = .ok (.if_icmp .eq 529, 3) := by decide +kernel
theorem d_L_law_543 : decode code 543 = .ok (.iconst 0, 1) := by decide +kernel
theorem d_L_law_544 : decode code 544 = .ok (.ireturn, 1) := by decide +kernel
theorem d_L_law_545 : decode code 545 = .ok (.aload_n 1, 1) := by decide +kernel
theorem d_L_law_546 : decode code 546 = .ok (.invokevirtual 76, 3) := by decide +kernel
theorem d_L_law_549 : decode code 549 = .ok (.aload_n 2, 1) := by decide +kernel
theorem d_L_law_550 : decode code 550 = .ok (.invokevirtual 79, 3) := by decide +kernel
theorem d_L_law_553 : decode code 553 = .ok (.if_icmp .eq 516, 3) := by decide +kernel
theorem d_L_law_556 : decode code 556 = .ok (.iconst 0, 1) := by decide +kernel
theorem d_L_law_557 : decode code 557 = .ok (.ireturn, 1) := by decide +kernel
theorem d_L_law_558 : decode code 558 = .ok (.aload_n 1, 1) := by decide +kernel
theorem d_L_law_559 : decode code 559 = .ok (.aload_n 0, 1) := by decide +kernel
theorem d_L_law_560 : decode code 560 = .ok (.iload_n 3, 1) := by decide +kernel
theorem d_L_law_561 : decode code 561 = .ok (.iconst 1, 1) := by decide +kernel
theorem d_L_law_562 : decode code 562 = .ok (.iadd, 1) := by decide +kernel
theorem d_L_law_563 : decode code 563 = .ok (.iaload, 1) := by decide +kernel
theorem d_L_law_564 : decode code 564 = .ok (.aload_n 0, 1) := by decide +kernel
theorem d_L_law_565 : decode code 565 = .ok (.iload_n 3, 1) := by decide +kernel
theorem d_L_law_566 : decode code 566 = .ok (.iconst 2, 1) := by decide +kernel
theorem d_L_law_567 : decode code 567 = .ok (.iadd, 1) := by decide +kernel
theorem d_L_law_568 : decode code 568 = .ok (.iaload, 1) := by decide +kernel
theorem d_L_law_569 : decode code 569 = .ok (.invokevirtual 80, 3) := by decide +kernel
theorem d_L_law_572 : decode code 572 = .ok (.aload_n 2, 1) := by decide +kernel
theorem d_L_law_573 : decode code 573 = .ok (.aload_n 0, 1) := by decide +kernel
theorem d_L_law_574 : decode code 574 = .ok (.iload_n 3, 1) := by decide +kernel
theorem d_L_law_575 : decode code 575 = .ok (.iconst 1, 1) := by decide +kernel
theorem d_L_law_576 : decode code 576 = .ok (.iadd, 1) := by decide +kernel
theorem d_L_law_577 : decode code 577 = .ok (.iaload, 1) := by decide +kernel
theorem d_L_law_578 : decode code 578 = .ok (.aload_n 0, 1) := by decide +kernel
theorem d_L_law_579 : decode code 579 = .ok (.iload_n 3, 1) := by decide +kernel
theorem d_L_law_580 : decode code 580 = .ok (.iconst 2, 1) := by decide +kernel
theorem d_L_law_581 : decode code 581 = .ok (.iadd, 1) := by decide +kernel
theorem d_L_law_582 : decode code 582 = .ok (.iaload, 1) := by decide +kernel
theorem d_L_law_583 : decode code 583 = .ok (.invokevirtual 83, 3) := by decide +kernel
theorem d_L_law_586 : decode code 586 = .ok (.if_icmp .eq 483, 3) := by decide +kernel
theorem d_L_law_589 : decode code 589 = .ok (.iconst 0, 1) := by decide +kernel
theorem d_L_law_590 : decode code 590 = .ok (.ireturn, 1) := by decide +kernel
theorem d_L_law_591 : decode code 591 = .ok (.aload_n 1, 1) := by decide +kernel
theorem d_L_law_592 : decode code 592 = .ok (.invokevirtual 84, 3) := by decide +kernel
theorem d_L_law_595 : decode code 595 = .ok (.aload_n 2, 1) := by decide +kernel
theorem d_L_law_596 : decode code 596 = .ok (.invokevirtual 87, 3) := by decide +kernel
theorem d_L_law_599 : decode code 599 = .ok (.if_icmp .eq 470, 3) := by decide +kernel
theorem d_L_law_602 : decode code 602 = .ok (.iconst 0, 1) := by decide +kernel
theorem d_L_law_603 : decode code 603 = .ok (.ireturn, 1) := by decide +kernel
theorem d_L_law_604 : decode code 604 = .ok (.aload_n 1, 1) := by decide +kernel
theorem d_L_law_605 : decode code 605 = .ok (.invokevirtual 88, 3) := by decide +kernel
theorem d_L_law_608 : decode code 608 = .ok (.aload_n 2, 1) := by decide +kernel
theorem d_L_law_609 : decode code 609 = .ok (.invokevirtual 91, 3) := by decide +kernel
theorem d_L_law_612 : decode code 612 = .ok (.if_icmp .eq 457, 3) := by decide +kernel
theorem d_L_law_615 : decode code 615 = .ok (.iconst 0, 1) := by decide +kernel
theorem d_L_law_616 : decode code 616 = .ok (.ireturn, 1) := by decide +kernel
theorem d_L_law_617 : decode code 617 = .ok (.aload_n 1, 1) := by decide +kernel
theorem d_L_law_618 : decode code 618 = .ok (.aload_n 0, 1) := by decide +kernel
theorem d_L_law_619 : decode code 619 = .ok (.iload_n 3, 1) := by decide +kernel
theorem d_L_law_620 : decode code 620 = .ok (.iconst 1, 1) := by decide +kernel
theorem d_L_law_621 : decode code 621 = .ok (.iadd, 1) := by decide +kernel
theorem d_L_law_622 : decode code 622 = .ok (.iaload, 1) := by decide +kernel
theorem d_L_law_623 : decode code 623 = .ok (.aload_n 0, 1) := by decide +kernel
theorem d_L_law_624 : decode code 624 = .ok (.iload_n 3, 1) := by decide +kernel
theorem d_L_law_625 : decode code 625 = .ok (.iconst 2, 1) := by decide +kernel
theorem d_L_law_626 : decode code 626 = .ok (.iadd, 1) := by decide +kernel
theorem d_L_law_627 : decode code 627 = .ok (.iaload, 1) := by decide +kernel
theorem d_L_law_628 : decode code 628 = .ok (.aload_n 0, 1) := by decide +kernel
theorem d_L_law_629 : decode code 629 = .ok (.iload_n 3, 1) := by decide +kernel
theorem d_L_law_630 : decode code 630 = .ok (.iconst 3, 1) := by decide +kernel
theorem d_L_law_631 : decode code 631 = .ok (.iadd, 1) := by decide +kernel
theorem d_L_law_632 : decode code 632 = .ok (.iaload, 1) := by decide +kernel
theorem d_L_law_633 : decode code 633 = .ok (.invokevirtual 92, 3) := by decide +kernel
theorem d_L_law_636 : decode code 636 = .ok (.aload_n 2, 1) := by decide +kernel
theorem d_L_law_637 : decode code 637 = .ok (.aload_n 0, 1) := by decide +kernel
theorem d_L_law_638 : decode code 638 = .ok (.iload_n 3, 1) := by decide +kernel
theorem d_L_law_639 : decode code 639 = .ok (.iconst 1, 1) := by decide +kernel
theorem d_L_law_640 : decode code 640 = .ok (.iadd, 1) := by decide +kernel
theorem d_L_law_641 : decode code 641 = .ok (.iaload, 1) := by decide +kernel
theorem d_L_law_642 : decode code 642 = .ok (.aload_n 0, 1) := by decide +kernel
theorem d_L_law_643 : decode code 643 = .ok (.iload_n 3, 1) := by decide +kernel
theorem d_L_law_644 : decode code 644 = .ok (.iconst 2, 1) := by decide +kernel
theorem d_L_law_645 : decode code 645 = .ok (.iadd, 1) := by decide +kernel
theorem d_L_law_646 : decode code 646 = .ok (.iaload, 1) := by decide +kernel
theorem d_L_law_647 : decode code 647 = .ok (.aload_n 0, 1) := by decide +kernel
theorem d_L_law_648 : decode code 648 = .ok (.iload_n 3, 1) := by decide +kernel
theorem d_L_law_649 : decode code 649 = .ok (.iconst 3, 1) := by decide +kernel
theorem d_L_law_650 : decode code 650 = .ok (.iadd, 1) := by decide +kernel
theorem d_L_law_651 : decode code 651 = .ok (.iaload, 1) := by decide +kernel
theorem d_L_law_652 : decode code 652 = .ok (.invokevirtual 95, 3) := by decide +kernel
theorem d_L_law_655 : decode code 655 = .ok (.if_icmp .eq 414, 3) := by decide +kernel
theorem d_L_law_658 : decode code 658 = .ok (.iconst 0, 1) := by decide +kernel
theorem d_L_law_659 : decode code 659 = .ok (.ireturn, 1) := by decide +kernel
theorem d_L_law_660 : decode code 660 = .ok (.aload_n 1, 1) := by decide +kernel
theorem d_L_law_661 : decode code 661 = .ok (.aload_n 0, 1) := by decide +kernel
theorem d_L_law_662 : decode code 662 = .ok (.iload_n 3, 1) := by decide +kernel
theorem d_L_law_663 : decode code 663 = .ok (.iconst 1, 1) := by decide +kernel
theorem d_L_law_664 : decode code 664 = .ok (.iadd, 1) := by decide +kernel
theorem d_L_law_665 : decode code 665 = .ok (.iaload, 1) := by decide +kernel
theorem d_L_law_666 : decode code 666 = .ok (.invokevirtual 96, 3) := by decide +kernel
theorem d_L_law_669 : decode code 669 = .ok (.aload_n 2, 1) := by decide +kernel
theorem d_L_law_670 : decode code 670 = .ok (.aload_n 0, 1) := by decide +kernel
theorem d_L_law_671 : decode code 671 = .ok (.iload_n 3, 1) := by decide +kernel
theorem d_L_law_672 : decode code 672 = .ok (.iconst 1, 1) := by decide +kernel
theorem d_L_law_673 : decode code 673 = .ok (.iadd, 1) := by decide +kernel
theorem d_L_law_674 : decode code 674 = .ok (.iaload, 1) := by decide +kernel
theorem d_L_law_675 : decode code 675 = .ok (.invokevirtual 99, 3) := by decide +kernel
theorem d_L_law_678 : decode code 678 = .ok (.if_icmp .eq 391, 3) := by decide +kernel
theorem d_L_law_681 : decode code 681 = .ok (.iconst 0, 1) := by decide +kernel
theorem d_L_law_682 : decode code 682 = .ok (.ireturn, 1) := by decide +kernel
theorem d_L_law_683 : decode code 683 = .ok (.aload_n 1, 1) := by decide +kernel
theorem d_L_law_684 : decode code 684 = .ok (.invokevirtual 100, 3) := by decide +kernel
theorem d_L_law_687 : decode code 687 = .ok (.aload_n 2, 1) := by decide +kernel
theorem d_L_law_688 : decode code 688 = .ok (.invokevirtual 103, 3) := by decide +kernel
theorem d_L_law_691 : decode code 691 = .ok (.if_icmp .eq 378, 3) := by decide +kernel
theorem d_L_law_694 : decode code 694 = .ok (.iconst 0, 1) := by decide +kernel
theorem d_L_law_695 : decode code 695 = .ok (.ireturn, 1) := by decide +kernel
theorem d_L_law_696 : decode code 696 = .ok (.aload_n 1, 1) := by decide +kernel
theorem d_L_law_697 : decode code 697 = .ok (.aload_n 0, 1) := by decide +kernel
theorem d_L_law_698 : decode code 698 = .ok (.iload_n 3, 1) := by decide +kernel
theorem d_L_law_699 : decode code 699 = .ok (.iconst 1, 1) := by decide +kernel
theorem d_L_law_700 : decode code 700 = .ok (.iadd, 1) := by decide +kernel
theorem d_L_law_701 : decode code 701 = .ok (.iaload, 1) := by decide +kernel
theorem d_L_law_702 : decode code 702 = .ok (.invokevirtual 104, 3) := by decide +kernel
theorem d_L_law_705 : decode code 705 = .ok (.aload_n 2, 1) := by decide +kernel
theorem d_L_law_706 : decode code 706 = .ok (.aload_n 0, 1) := by decide +kernel
theorem d_L_law_707 : decode code 707 = .ok (.iload_n 3, 1) := by decide +kernel
theorem d_L_law_708 : decode code 708 = .ok (.iconst 1, 1) := by decide +kernel
theorem d_L_law_709 : decode code 709 = .ok (.iadd, 1) := by decide +kernel
theorem d_L_law_710 : decode code 710 = .ok (.iaload, 1) := by decide +kernel
theorem d_L_law_711 : decode code 711 = .ok (.invokevirtual 107, 3) := by decide +kernel
theorem d_L_law_714 : decode code 714 = .ok (.if_icmp .eq 355, 3) := by decide +kernel
theorem d_L_law_717 : decode code 717 = .ok (.iconst 0, 1) := by decide +kernel
theorem d_L_law_718 : decode code 718 = .ok (.ireturn, 1) := by decide +kernel
theorem d_L_law_719 : decode code 719 = .ok (.aload_n 1, 1) := by decide +kernel
theorem d_L_law_720 : decode code 720 = .ok (.aload_n 0, 1) := by decide +kernel
theorem d_L_law_721 : decode code 721 = .ok (.iload_n 3, 1) := by decide +kernel
theorem d_L_law_722 : decode code 722 = .ok (.iconst 1, 1) := by decide +kernel
theorem d_L_law_723 : decode code 723 = .ok (.iadd, 1) := by decide +kernel
theorem d_L_law_724 : decode code 724 = .ok (.iaload, 1) := by decide +kernel
theorem d_L_law_725 : decode code 725 = .ok (.aload_n 0, 1) := by decide +kernel
theorem d_L_law_726 : decode code 726 = .ok (.iload_n 3, 1) := by decide +kernel
theorem d_L_law_727 : decode code 727 = .ok (.iconst 2, 1) := by decide +kernel
theorem d_L_law_728 : decode code 728 = .ok (.iadd, 1) := by decide +kernel
theorem d_L_law_729 : decode code 729 = .ok (.iaload, 1) := by decide +kernel
theorem d_L_law_730 : decode code 730 = .ok (.aload_n 0, 1) := by decide +kernel
theorem d_L_law_731 : decode code 731 = .ok (.iload_n 3, 1) := by decide +kernel
theorem d_L_law_732 : decode code 732 = .ok (.iconst 3, 1) := by decide +kernel
theorem d_L_law_733 : decode code 733 = .ok (.iadd, 1) := by decide +kernel
theorem d_L_law_734 : decode code 734 = .ok (.iaload, 1) := by decide +kernel
theorem d_L_law_735 : decode code 735 = .ok (.invokevirtual 108, 3) := by decide +kernel
theorem d_L_law_738 : decode code 738 = .ok (.aload_n 2, 1) := by decide +kernel
theorem d_L_law_739 : decode code 739 = .ok (.aload_n 0, 1) := by decide +kernel
theorem d_L_law_740 : decode code 740 = .ok (.iload_n 3, 1) := by decide +kernel
theorem d_L_law_741 : decode code 741 = .ok (.iconst 1, 1) := by decide +kernel
theorem d_L_law_742 : decode code 742 = .ok (.iadd, 1) := by decide +kernel
theorem d_L_law_743 : decode code 743 = .ok (.iaload, 1) := by decide +kernel
theorem d_L_law_744 : decode code 744 = .ok (.aload_n 0, 1) := by decide +kernel
theorem d_L_law_745 : decode code 745 = .ok (.iload_n 3, 1) := by decide +kernel
theorem d_L_law_746 : decode code 746 = .ok (.iconst 2, 1) := by decide +kernel
theorem d_L_law_747 : decode code 747 = .ok (.iadd, 1) := by decide +kernel
theorem d_L_law_748 : decode code 748 = .ok (.iaload, 1) := by decide +kernel
theorem d_L_law_749 : decode code 749 = .ok (.aload_n 0, 1) := by decide +kernel
theorem d_L_law_750 : decode code 750 = .ok (.iload_n 3, 1) := by decide +kernel
theorem d_L_law_751 : decode code 751 = .ok (.iconst 3, 1) := by decide +kernel
theorem d_L_law_752 : decode code 752 = .ok (.iadd, 1) := by decide +kernel
theorem d_L_law_753 : decode code 753 = .ok (.iaload, 1) := by decide +kernel
theorem d_L_law_754 : decode code 754 = .ok (.invokevirtual 111, 3) := by decide +kernel
theorem d_L_law_757 : decode code 757 = .ok (.if_icmp .eq 312, 3) := by decide +kernel
theorem d_L_law_760 : decode code 760 = .ok (.iconst 0, 1) := by decide +kernel
theorem d_L_law_761 : decode code 761 = .ok (.ireturn, 1) := by decide +kernel
theorem d_L_law_762 : decode code 762 = .ok (.aload_n 1, 1) := by decide +kernel
theorem d_L_law_763 : decode code 763 = .ok (.aload_n 0, 1) := by decide +kernel
theorem d_L_law_764 : decode code 764 = .ok (.iload_n 3, 1) := by decide +kernel
theorem d_L_law_765 : decode code 765 = .ok (.iconst 1, 1) := by decide +kernel
theorem d_L_law_766 : decode code 766 = .ok (.iadd, 1) := by decide +kernel
theorem d_L_law_767 : decode code 767 = .ok (.iaload, 1) := by decide +kernel
theorem d_L_law_768 : decode code 768 = .ok (.aload_n 0, 1) := by decide +kernel
theorem d_L_law_769 : decode code 769 = .ok (.iload_n 3, 1) := by decide +kernel
theorem d_L_law_770 : decode code 770 = .ok (.iconst 2, 1) := by decide +kernel
theorem d_L_law_771 : decode code 771 = .ok (.iadd, 1) := by decide +kernel
theorem d_L_law_772 : decode code 772 = .ok (.iaload, 1) := by decide +kernel
theorem d_L_law_773 : decode code 773 = .ok (.invokevirtual 112, 3) := by decide +kernel
theorem d_L_law_776 : decode code 776 = .ok (.aload_n 2, 1) := by decide +kernel
theorem d_L_law_777 : decode code 777 = .ok (.aload_n 0, 1) := by decide +kernel
theorem d_L_law_778 : decode code 778 = .ok (.iload_n 3, 1) := by decide +kernel
theorem d_L_law_779 : decode code 779 = .ok (.iconst 1, 1) := by decide +kernel
theorem d_L_law_780 : decode code 780 = .ok (.iadd, 1) := by decide +kernel
theorem d_L_law_781 : decode code 781 = .ok (.iaload, 1) := by decide +kernel
theorem d_L_law_782 : decode code 782 = .ok (.aload_n 0, 1) := by decide +kernel
theorem d_L_law_783 : decode code 783 = .ok (.iload_n 3, 1) := by decide +kernel
theorem d_L_law_784 : decode code 784 = .ok (.iconst 2, 1) := by decide +kernel
theorem d_L_law_785 : decode code 785 = .ok (.iadd, 1) := by decide +kernel
theorem d_L_law_786 : decode code 786 = .ok (.iaload, 1) := by decide +kernel
theorem d_L_law_787 : decode code 787 = .ok (.invokevirtual 115, 3) := by decide +kernel
theorem d_L_law_790 : decode code 790 = .ok (.if_icmp .eq 279, 3) := by decide +kernel
theorem d_L_law_793 : decode code 793 = .ok (.iconst 0, 1) := by decide +kernel
theorem d_L_law_794 : decode code 794 = .ok (.ireturn, 1) := by decide +kernel
theorem d_L_law_795 : decode code 795 = .ok (.aload_n 1, 1) := by decide +kernel
theorem d_L_law_796 : decode code 796 = .ok (.aload_n 0, 1) := by decide +kernel
theorem d_L_law_797 : decode code 797 = .ok (.iload_n 3, 1) := by decide +kernel
theorem d_L_law_798 : decode code 798 = .ok (.iconst 1, 1) := by decide +kernel
theorem d_L_law_799 : decode code 799 = .ok (.iadd, 1) := by decide +kernel
theorem d_L_law_800 : decode code 800 = .ok (.iaload, 1) := by decide +kernel
theorem d_L_law_801 : decode code 801 = .ok (.aload_n 0, 1) := by decide +kernel
theorem d_L_law_802 : decode code 802 = .ok (.iload_n 3, 1) := by decide +kernel
theorem d_L_law_803 : decode code 803 = .ok (.iconst 2, 1) := by decide +kernel
theorem d_L_law_804 : decode code 804 = .ok (.iadd, 1) := by decide +kernel
theorem d_L_law_805 : decode code 805 = .ok (.iaload, 1) := by decide +kernel
theorem d_L_law_806 : decode code 806 = .ok (.invokevirtual 116, 3) := by decide +kernel
theorem d_L_law_809 : decode code 809 = .ok (.aload_n 2, 1) := by decide +kernel
theorem d_L_law_810 : decode code 810 = .ok (.aload_n 0, 1) := by decide +kernel
theorem d_L_law_811 : decode code 811 = .ok (.iload_n 3, 1) := by decide +kernel
theorem d_L_law_812 : decode code 812 = .ok (.iconst 1, 1) := by decide +kernel
theorem d_L_law_813 : decode code 813 = .ok (.iadd, 1) := by decide +kernel
theorem d_L_law_814 : decode code 814 = .ok (.iaload, 1) := by decide +kernel
theorem d_L_law_815 : decode code 815 = .ok (.aload_n 0, 1) := by decide +kernel
theorem d_L_law_816 : decode code 816 = .ok (.iload_n 3, 1) := by decide +kernel
theorem d_L_law_817 : decode code 817 = .ok (.iconst 2, 1) := by decide +kernel
theorem d_L_law_818 : decode code 818 = .ok (.iadd, 1) := by decide +kernel
theorem d_L_law_819 : decode code 819 = .ok (.iaload, 1) := by decide +kernel
theorem d_L_law_820 : decode code 820 = .ok (.invokevirtual 119, 3) := by decide +kernel
theorem d_L_law_823 : decode code 823 = .ok (.if_icmp .eq 246, 3) := by decide +kernel
theorem d_L_law_826 : decode code 826 = .ok (.iconst 0, 1) := by decide +kernel
theorem d_L_law_827 : decode code 827 = .ok (.ireturn, 1) := by decide +kernel
theorem d_L_law_828 : decode code 828 = .ok (.aload_n 1, 1) := by decide +kernel
theorem d_L_law_829 : decode code 829 = .ok (.aload_n 0, 1) := by decide +kernel
theorem d_L_law_830 : decode code 830 = .ok (.iload_n 3, 1) := by decide +kernel
theorem d_L_law_831 : decode code 831 = .ok (.iconst 1, 1) := by decide +kernel
theorem d_L_law_832 : decode code 832 = .ok (.iadd, 1) := by decide +kernel
theorem d_L_law_833 : decode code 833 = .ok (.iaload, 1) := by decide +kernel
theorem d_L_law_834 : decode code 834 = .ok (.aload_n 0, 1) := by decide +kernel
theorem d_L_law_835 : decode code 835 = .ok (.iload_n 3, 1) := by decide +kernel
theorem d_L_law_836 : decode code 836 = .ok (.iconst 2, 1) := by decide +kernel
theorem d_L_law_837 : decode code 837 = .ok (.iadd, 1) := by decide +kernel
theorem d_L_law_838 : decode code 838 = .ok (.iaload, 1) := by decide +kernel
theorem d_L_law_839 : decode code 839 = .ok (.invokevirtual 120, 3) := by decide +kernel
theorem d_L_law_842 : decode code 842 = .ok (.aload_n 2, 1) := by decide +kernel
theorem d_L_law_843 : decode code 843 = .ok (.aload_n 0, 1) := by decide +kernel
theorem d_L_law_844 : decode code 844 = .ok (.iload_n 3, 1) := by decide +kernel
theorem d_L_law_845 : decode code 845 = .ok (.iconst 1, 1) := by decide +kernel
theorem d_L_law_846 : decode code 846 = .ok (.iadd, 1) := by decide +kernel
theorem d_L_law_847 : decode code 847 = .ok (.iaload, 1) := by decide +kernel
theorem d_L_law_848 : decode code 848 = .ok (.aload_n 0, 1) := by decide +kernel
theorem d_L_law_849 : decode code 849 = .ok (.iload_n 3, 1) := by decide +kernel
theorem d_L_law_850 : decode code 850 = .ok (.iconst 2, 1) := by decide +kernel
theorem d_L_law_851 : decode code 851 = .ok (.iadd, 1) := by decide +kernel
theorem d_L_law_852 : decode code 852 = .ok (.iaload, 1) := by decide +kernel
theorem d_L_law_853 : decode code 853 = .ok (.invokevirtual 123, 3) := by decide +kernel
theorem d_L_law_856 : decode code 856 = .ok (.if_icmp .eq 213, 3) := by decide +kernel
theorem d_L_law_859 : decode code 859 = .ok (.iconst 0, 1) := by decide +kernel
theorem d_L_law_860 : decode code 860 = .ok (.ireturn, 1) := by decide +kernel
theorem d_L_law_861 : decode code 861 = .ok (.aload_n 1, 1) := by decide +kernel
theorem d_L_law_862 : decode code 862 = .ok (.aload_n 0, 1) := by decide +kernel
theorem d_L_law_863 : decode code 863 = .ok (.iload_n 3, 1) := by decide +kernel
theorem d_L_law_864 : decode code 864 = .ok (.iconst 1, 1) := by decide +kernel
theorem d_L_law_865 : decode code 865 = .ok (.iadd, 1) := by decide +kernel
theorem d_L_law_866 : decode code 866 = .ok (.iaload, 1) := by decide +kernel
theorem d_L_law_867 : decode code 867 = .ok (.aload_n 0, 1) := by decide +kernel
theorem d_L_law_868 : decode code 868 = .ok (.iload_n 3, 1) := by decide +kernel
theorem d_L_law_869 : decode code 869 = .ok (.iconst 2, 1) := by decide +kernel
theorem d_L_law_870 : decode code 870 = .ok (.iadd, 1) := by decide +kernel
theorem d_L_law_871 : decode code 871 = .ok (.iaload, 1) := by decide +kernel
theorem d_L_law_872 : decode code 872 = .ok (.invokevirtual 124, 3) := by decide +kernel
theorem d_L_law_875 : decode code 875 = .ok (.aload_n 2, 1) := by decide +kernel
theorem d_L_law_876 : decode code 876 = .ok (.aload_n 0, 1) := by decide +kernel
theorem d_L_law_877 : decode code 877 = .ok (.iload_n 3, 1) := by decide +kernel
theorem d_L_law_878 : decode code 878 = .ok (.iconst 1, 1) := by decide +kernel
theorem d_L_law_879 : decode code 879 = .ok (.iadd, 1) := by decide +kernel
theorem d_L_law_880 : decode code 880 = .ok (.iaload, 1) := by decide +kernel
theorem d_L_law_881 : decode code 881 = .ok (.aload_n 0, 1) := by decide +kernel
theorem d_L_law_882 : decode code 882 = .ok (.iload_n 3, 1) := by decide +kernel
theorem d_L_law_883 : decode code 883 = .ok (.iconst 2, 1) := by decide +kernel
theorem d_L_law_884 : decode code 884 = .ok (.iadd, 1) := by decide +kernel
theorem d_L_law_885 : decode code 885 = .ok (.iaload, 1) := by decide +kernel
theorem d_L_law_886 : decode code 886 = .ok (.invokevirtual 127, 3) := by decide +kernel
theorem d_L_law_889 : decode code 889 = .ok (.if_icmp .eq 180, 3) := by decide +kernel
theorem d_L_law_892 : decode code 892 = .ok (.iconst 0, 1) := by decide +kernel
theorem d_L_law_893 : decode code 893 = .ok (.ireturn, 1) := by decide +kernel
theorem d_L_law_894 : decode code 894 = .ok (.aload_n 1, 1) := by decide +kernel
theorem d_L_law_895 : decode code 895 = .ok (.aload_n 0, 1) := by decide +kernel
theorem d_L_law_896 : decode code 896 = .ok (.iload_n 3, 1) := by decide +kernel
theorem d_L_law_897 : decode code 897 = .ok (.iconst 1, 1) := by decide +kernel
theorem d_L_law_898 : decode code 898 = .ok (.iadd, 1) := by decide +kernel
theorem d_L_law_899 : decode code 899 = .ok (.iaload, 1) := by decide +kernel
theorem d_L_law_900 : decode code 900 = .ok (.aload_n 0, 1) := by decide +kernel
theorem d_L_law_901 : decode code 901 = .ok (.iload_n 3, 1) := by decide +kernel
theorem d_L_law_902 : decode code 902 = .ok (.iconst 2, 1) := by decide +kernel
theorem d_L_law_903 : decode code 903 = .ok (.iadd, 1) := by decide +kernel
theorem d_L_law_904 : decode code 904 = .ok (.iaload, 1) := by decide +kernel
theorem d_L_law_905 : decode code 905 = .ok (.aload_n 0, 1) := by decide +kernel
theorem d_L_law_906 : decode code 906 = .ok (.iload_n 3, 1) := by decide +kernel
theorem d_L_law_907 : decode code 907 = .ok (.iconst 3, 1) := by decide +kernel
theorem d_L_law_908 : decode code 908 = .ok (.iadd, 1) := by decide +kernel
theorem d_L_law_909 : decode code 909 = .ok (.iaload, 1) := by decide +kernel
theorem d_L_law_910 : decode code 910 = .ok (.aload_n 0, 1) := by decide +kernel
theorem d_L_law_911 : decode code 911 = .ok (.iload_n 3, 1) := by decide +kernel
theorem d_L_law_912 : decode code 912 = .ok (.iconst 4, 1) := by decide +kernel
theorem d_L_law_913 : decode code 913 = .ok (.iadd, 1) := by decide +kernel
theorem d_L_law_914 : decode code 914 = .ok (.iaload, 1) := by decide +kernel
theorem d_L_law_915 : decode code 915 = .ok (.ifCond .eq 7, 3) := by decide +kernel
theorem d_L_law_918 : decode code 918 = .ok (.iconst 1, 1) := by decide +kernel
theorem d_L_law_919 : decode code 919 = .ok (.goto 4, 3) := by decide +kernel
theorem d_L_law_922 : decode code 922 = .ok (.iconst 0, 1) := by decide +kernel
theorem d_L_law_923 : decode code 923 = .ok (.invokevirtual 128, 3) := by decide +kernel
theorem d_L_law_926 : decode code 926 = .ok (.aload_n 2, 1) := by decide +kernel
theorem d_L_law_927 : decode code 927 = .ok (.aload_n 0, 1) := by decide +kernel
theorem d_L_law_928 : decode code 928 = .ok (.iload_n 3, 1) := by decide +kernel
theorem d_L_law_929 : decode code 929 = .ok (.iconst 1, 1) := by decide +kernel
theorem d_L_law_930 : decode code 930 = .ok (.iadd, 1) := by decide +kernel
theorem d_L_law_931 : decode code 931 = .ok (.iaload, 1) := by decide +kernel
theorem d_L_law_932 : decode code 932 = .ok (.aload_n 0, 1) := by decide +kernel
theorem d_L_law_933 : decode code 933 = .ok (.iload_n 3, 1) := by decide +kernel
theorem d_L_law_934 : decode code 934 = .ok (.iconst 2, 1) := by decide +kernel
theorem d_L_law_935 : decode code 935 = .ok (.iadd, 1) := by decide +kernel
theorem d_L_law_936 : decode code 936 = .ok (.iaload, 1) := by decide +kernel
theorem d_L_law_937 : decode code 937 = .ok (.aload_n 0, 1) := by decide +kernel
theorem d_L_law_938 : decode code 938 = .ok (.iload_n 3, 1) := by decide +kernel
theorem d_L_law_939 : decode code 939 = .ok (.iconst 3, 1) := by decide +kernel
theorem d_L_law_940 : decode code 940 = .ok (.iadd, 1) := by decide +kernel
theorem d_L_law_941 : decode code 941 = .ok (.iaload, 1) := by decide +kernel
theorem d_L_law_942 : decode code 942 = .ok (.aload_n 0, 1) := by decide +kernel
theorem d_L_law_943 : decode code 943 = .ok (.iload_n 3, 1) := by decide +kernel
theorem d_L_law_944 : decode code 944 = .ok (.iconst 4, 1) := by decide +kernel
theorem d_L_law_945 : decode code 945 = .ok (.iadd, 1) := by decide +kernel
theorem d_L_law_946 : decode code 946 = .ok (.iaload, 1) := by decide +kernel
theorem d_L_law_947 : decode code 947 = .ok (.ifCond .eq 7, 3) := by decide +kernel
theorem d_L_law_950 : decode code 950 = .ok (.iconst 1, 1) := by decide +kernel
theorem d_L_law_951 : decode code 951 = .ok (.goto 4, 3) := by decide +kernel
theorem d_L_law_954 : decode code 954 = .ok (.iconst 0, 1) := by decide +kernel
theorem d_L_law_955 : decode code 955 = .ok (.invokevirtual 132, 3) := by decide +kernel
theorem d_L_law_958 : decode code 958 = .ok (.lcmp, 1) := by decide +kernel
theorem d_L_law_959 : decode code 959 = .ok (.ifCond .eq 110, 3) := by decide +kernel
theorem d_L_law_962 : decode code 962 = .ok (.iconst 0, 1) := by decide +kernel
theorem d_L_law_963 : decode code 963 = .ok (.ireturn, 1) := by decide +kernel
theorem d_L_law_964 : decode code 964 = .ok (.aload_n 1, 1) := by decide +kernel
theorem d_L_law_965 : decode code 965 = .ok (.aload_n 0, 1) := by decide +kernel
theorem d_L_law_966 : decode code 966 = .ok (.iload_n 3, 1) := by decide +kernel
theorem d_L_law_967 : decode code 967 = .ok (.iconst 1, 1) := by decide +kernel
theorem d_L_law_968 : decode code 968 = .ok (.iadd, 1) := by decide +kernel
theorem d_L_law_969 : decode code 969 = .ok (.iaload, 1) := by decide +kernel
theorem d_L_law_970 : decode code 970 = .ok (.aload_n 0, 1) := by decide +kernel
theorem d_L_law_971 : decode code 971 = .ok (.iload_n 3, 1) := by decide +kernel
theorem d_L_law_972 : decode code 972 = .ok (.iconst 2, 1) := by decide +kernel
theorem d_L_law_973 : decode code 973 = .ok (.iadd, 1) := by decide +kernel
theorem d_L_law_974 : decode code 974 = .ok (.iaload, 1) := by decide +kernel
theorem d_L_law_975 : decode code 975 = .ok (.aload_n 0, 1) := by decide +kernel
theorem d_L_law_976 : decode code 976 = .ok (.iload_n 3, 1) := by decide +kernel
theorem d_L_law_977 : decode code 977 = .ok (.iconst 3, 1) := by decide +kernel
theorem d_L_law_978 : decode code 978 = .ok (.iadd, 1) := by decide +kernel
theorem d_L_law_979 : decode code 979 = .ok (.iaload, 1) := by decide +kernel
theorem d_L_law_980 : decode code 980 = .ok (.ifCond .eq 7, 3) := by decide +kernel
theorem d_L_law_983 : decode code 983 = .ok (.iconst 1, 1) := by decide +kernel
theorem d_L_law_984 : decode code 984 = .ok (.goto 4, 3) := by decide +kernel
theorem d_L_law_987 : decode code 987 = .ok (.iconst 0, 1) := by decide +kernel
theorem d_L_law_988 : decode code 988 = .ok (.invokevirtual 133, 3) := by decide +kernel
theorem d_L_law_991 : decode code 991 = .ok (.aload_n 2, 1) := by decide +kernel
theorem d_L_law_992 : decode code 992 = .ok (.aload_n 0, 1) := by decide +kernel
theorem d_L_law_993 : decode code 993 = .ok (.iload_n 3, 1) := by decide +kernel
theorem d_L_law_994 : decode code 994 = .ok (.iconst 1, 1) := by decide +kernel
theorem d_L_law_995 : decode code 995 = .ok (.iadd, 1) := by decide +kernel
theorem d_L_law_996 : decode code 996 = .ok (.iaload, 1) := by decide +kernel
theorem d_L_law_997 : decode code 997 = .ok (.aload_n 0, 1) := by decide +kernel
theorem d_L_law_998 : decode code 998 = .ok (.iload_n 3, 1) := by decide +kernel
theorem d_L_law_999 : decode code 999 = .ok (.iconst 2, 1) := by decide +kernel
theorem d_L_law_1000 : decode code 1000 = .ok (.iadd, 1) := by decide +kernel
theorem d_L_law_1001 : decode code 1001 = .ok (.iaload, 1) := by decide +kernel
theorem d_L_law_1002 : decode code 1002 = .ok (.aload_n 0, 1) := by decide +kernel
theorem d_L_law_1003 : decode code 1003 = .ok (.iload_n 3, 1) := by decide +kernel
theorem d_L_law_1004 : decode code 1004 = .ok (.iconst 3, 1) := by decide +kernel
theorem d_L_law_1005 : decode code 1005 = .ok (.iadd, 1) := by decide +kernel
theorem d_L_law_1006 : decode code 1006 = .ok (.iaload, 1) := by decide +kernel
theorem d_L_law_1007 : decode code 1007 = .ok (.ifCond .eq 7, 3) := by decide +kernel
theorem d_L_law_1010 : decode code 1010 = .ok (.iconst 1, 1) := by decide +kernel
theorem d_L_law_1011 : decode code 1011 = .ok (.goto 4, 3) := by decide +kernel
theorem d_L_law_1014 : decode code 1014 = .ok (.iconst 0, 1) := by decide +kernel
theorem d_L_law_1015 : decode code 1015 = .ok (.invokevirtual 137, 3) := by decide +kernel
theorem d_L_law_1018 : decode code 1018 = .ok (.if_icmp .eq 51, 3) := by decide +kernel
theorem d_L_law_1021 : decode code 1021 = .ok (.iconst 0, 1) := by decide +kernel
theorem d_L_law_1022 : decode code 1022 = .ok (.ireturn, 1) := by decide +kernel
theorem d_L_law_1023 : decode code 1023 = .ok (.aload_n 1, 1) := by decide +kernel
theorem d_L_law_1024 : decode code 1024 = .ok (.aload_n 0, 1) := by decide +kernel
theorem d_L_law_1025 : decode code 1025 = .ok (.iload_n 3, 1) := by decide +kernel
theorem d_L_law_1026 : decode code 1026 = .ok (.iconst 1, 1) := by decide +kernel
theorem d_L_law_1027 : decode code 1027 = .ok (.iadd, 1) := by decide +kernel
theorem d_L_law_1028 : decode code 1028 = .ok (.iaload, 1) := by decide +kernel
theorem d_L_law_1029 : decode code 1029 = .ok (.invokevirtual 138, 3) := by decide +kernel
theorem d_L_law_1032 : decode code 1032 = .ok (.aload_n 2, 1) := by decide +kernel
theorem d_L_law_1033 : decode code 1033 = .ok (.aload_n 0, 1) := by decide +kernel
theorem d_L_law_1034 : decode code 1034 = .ok (.iload_n 3, 1) := by decide +kernel
theorem d_L_law_1035 : decode code 1035 = .ok (.iconst 1, 1) := by decide +kernel
theorem d_L_law_1036 : decode code 1036 = .ok (.iadd, 1) := by decide +kernel
theorem d_L_law_1037 : decode code 1037 = .ok (.iaload, 1) := by decide +kernel
theorem d_L_law_1038 : decode code 1038 = .ok (.invokevirtual 141, 3) := by decide +kernel
theorem d_L_law_1041 : decode code 1041 = .ok (.if_icmp .eq 28, 3) := by decide +kernel
theorem d_L_law_1044 : decode code 1044 = .ok (.iconst 0, 1) := by decide +kernel
theorem d_L_law_1045 : decode code 1045 = .ok (.ireturn, 1) := by decide +kernel
theorem d_L_law_1046 : decode code 1046 = .ok (.aload_n 1, 1) := by decide +kernel
theorem d_L_law_1047 : decode code 1047 = .ok (.aload_n 0, 1) := by decide +kernel
theorem d_L_law_1048 : decode code 1048 = .ok (.iload_n 3, 1) := by decide +kernel
theorem d_L_law_1049 : decode code 1049 = .ok (.iconst 1, 1) := by decide +kernel
theorem d_L_law_1050 : decode code 1050 = .ok (.iadd, 1) := by decide +kernel
theorem d_L_law_1051 : decode code 1051 = .ok (.iaload, 1) := by decide +kernel
theorem d_L_law_1052 : decode code 1052 = .ok (.invokevirtual 142, 3) := by decide +kernel
theorem d_L_law_1055 : decode code 1055 = .ok (.aload_n 2, 1) := by decide +kernel
theorem d_L_law_1056 : decode code 1056 = .ok (.aload_n 0, 1) := by decide +kernel
theorem d_L_law_1057 : decode code 1057 = .ok (.iload_n 3, 1) := by decide +kernel
theorem d_L_law_1058 : decode code 1058 = .ok (.iconst 1, 1) := by decide +kernel
theorem d_L_law_1059 : decode code 1059 = .ok (.iadd, 1) := by decide +kernel
theorem d_L_law_1060 : decode code 1060 = .ok (.iaload, 1) := by decide +kernel
theorem d_L_law_1061 : decode code 1061 = .ok (.invokevirtual 145, 3) := by decide +kernel
theorem d_L_law_1064 : decode code 1064 = .ok (.if_icmp .eq 5, 3) := by decide +kernel
theorem d_L_law_1067 : decode code 1067 = .ok (.iconst 0, 1) := by decide +kernel
theorem d_L_law_1068 : decode code 1068 = .ok (.ireturn, 1) := by decide +kernel
theorem d_L_law_1069 : decode code 1069 = .ok (.iinc 3 5, 3) := by decide +kernel
theorem d_L_law_1072 : decode code 1072 = .ok (.goto (-1054), 3) := by decide +kernel
theorem d_L_law_1075 : decode code 1075 = .ok (.iconst 1, 1) := by decide +kernel
theorem d_L_law_1076 : decode code 1076 = .ok (.ireturn, 1) := by decide +kernel
def m_L_law_b1069 (L : Nat) (xs : Nat → Int32) (k18 : Int32 → Nat → Nat → Nat → Sh → Mu → Option Int32) (v1 : Nat) (v2 : Nat) (v3 : Int32) (n kc js : Nat) (sh : Sh) (μ : Mu) : Option Int32 :=
  bd (v3 + 5) fun w423 =>
  k18 w423 n kc js sh μ
def m_L_law_b955 (L : Nat) (xs : Nat → Int32) (k18 : Int32 → Nat → Nat → Nat → Sh → Mu → Option Int32) (v1 : Nat) (v2 : Nat) (v3 : Int32) (s0 : Int32) (s1 : Int32) (s2 : Int32) (s3 : Int32) (s4 : Nat) (s5 : Int64) (n kc js : Nat) (sh : Sh) (μ : Mu) : Option Int32 :=
  gd (iz sh 7 s4) <|
  ca2 (m_X7_whose sh s4 s3 s2 s1 s0 μ) fun r449 μ450 =>
  gd (roomB kc 600000 js 7302250) <|
  if (lg_cmp s5 r449) = 0 then
    m_L_law_b1069 L xs k18 v1 v2 v3 n kc js sh μ450
  else
    gd (eq1 kc n) <| gd (roomB kc 600000 js 7302250) <| some 0
def m_L_law_b923 (L : Nat) (xs : Nat → Int32) (k18 : Int32 → Nat → Nat → Nat → Sh → Mu → Option Int32) (v1 : Nat) (v2 : Nat) (v3 : Int32) (s0 : Int32) (s1 : Int32) (s2 : Int32) (s3 : Int32) (s4 : Nat) (n kc js : Nat) (sh : Sh) (μ : Mu) : Option Int32 :=
  gd (iz sh 6 s4) <|
  ca2 (m_X6_whose sh s4 s3 s2 s1 s0 μ) fun r425 μ426 =>
  gd (roomB kc 600000 js 7302250) <|
  gd (ixn L (v3 + 1)) <|
  bd (xs (v3 + 1).toNatClampNeg) fun w429 =>
  gd (ixn L (v3 + 2)) <|
  bd (xs (v3 + 2).toNatClampNeg) fun w431 =>
  gd (ixn L (v3 + 3)) <|
  bd (xs (v3 + 3).toNatClampNeg) fun w433 =>
  gd (ixn L (v3 + 4)) <|
  bd (xs (v3 + 4).toNatClampNeg) fun w435 =>
  if w435 = 0 then
    m_L_law_b955 L xs k18 v1 v2 v3 0 w433 w431 w429 v2 r425 n kc js sh μ426
  else
    m_L_law_b955 L xs k18 v1 v2 v3 1 w433 w431 w429 v2 r425 n kc js sh μ426
def m_L_law_b1015 (L : Nat) (xs : Nat → Int32) (k18 : Int32 → Nat → Nat → Nat → Sh → Mu → Option Int32) (v1 : Nat) (v2 : Nat) (v3 : Int32) (s0 : Int32) (s1 : Int32) (s2 : Int32) (s3 : Nat) (s4 : Int32) (n kc js : Nat) (sh : Sh) (μ : Mu) : Option Int32 :=
  gd (iz sh 7 s3) <|
  ca2 (m_X7_open sh s3 s2 s1 s0 μ) fun r454 μ455 =>
  gd (roomB kc 600000 js 7302250) <|
  if s4 = r454 then
    m_L_law_b1069 L xs k18 v1 v2 v3 n kc js sh μ455
  else
    gd (eq1 kc n) <| gd (roomB kc 600000 js 7302250) <| some 0
def m_L_law_b988 (L : Nat) (xs : Nat → Int32) (k18 : Int32 → Nat → Nat → Nat → Sh → Mu → Option Int32) (v1 : Nat) (v2 : Nat) (v3 : Int32) (s0 : Int32) (s1 : Int32) (s2 : Int32) (s3 : Nat) (n kc js : Nat) (sh : Sh) (μ : Mu) : Option Int32 :=
  gd (iz sh 6 s3) <|
  ca2 (m_X6_open sh s3 s2 s1 s0 μ) fun r438 μ439 =>
  gd (roomB kc 600000 js 7302250) <|
  gd (ixn L (v3 + 1)) <|
  bd (xs (v3 + 1).toNatClampNeg) fun w442 =>
  gd (ixn L (v3 + 2)) <|
  bd (xs (v3 + 2).toNatClampNeg) fun w444 =>
  gd (ixn L (v3 + 3)) <|
  bd (xs (v3 + 3).toNatClampNeg) fun w446 =>
  if w446 = 0 then
    m_L_law_b1015 L xs k18 v1 v2 v3 0 w444 w442 v2 r438 n kc js sh μ439
  else
    m_L_law_b1015 L xs k18 v1 v2 v3 1 w444 w442 v2 r438 n kc js sh μ439
def m_L_law_b18 (L : Nat) (xs : Nat → Int32) (k18 : Int32 → Nat → Nat → Nat → Sh → Mu → Option Int32) (v1 : Nat) (v2 : Nat) (v3 : Int32) (n kc js : Nat) (sh : Sh) (μ : Mu) : Option Int32 :=
  if ((nI L) - 5) < v3 then
    gd (eq1 kc n) <| gd (roomB kc 600000 js 7302250) <| some 1
  else
    gd (ixn L v3) <|
    bd (xs v3.toNatClampNeg) fun w31 =>
    bd (w31 &&& 31) fun w32 =>
    if w32 = 0 then
      gd (ixn L (v3 + 1)) <|
      bd (xs (v3 + 1).toNatClampNeg) fun w35 =>
      gd (iz sh 6 v1) <|
      ca2 (m_X6_write sh v1 w35 μ) fun r37 μ38 =>
      gd (roomB kc 600000 js 7302250) <|
      bd (xs (v3 + 1).toNatClampNeg) fun w40 =>
      gd (iz sh 7 v2) <|
      ca2 (m_X7_write sh v2 w40 μ38) fun r42 μ43 =>
      if r37 = r42 then
        m_L_law_b1069 L xs k18 v1 v2 v3 n kc js sh μ43
      else
        gd (eq1 kc n) <| gd (roomB kc 600000 js 7302250) <| some 0
    else
      if w32 = 1 then
        gd (iz sh 6 v1) <|
        ca2 (m_X6_wipe sh v1 μ) fun r47 μ48 =>
        gd (roomB kc 600000 js 7302250) <|
        gd (iz sh 7 v2) <|
        ca2 (m_X7_wipe sh v2 μ48) fun r51 μ52 =>
        if r47 = r51 then
          m_L_law_b1069 L xs k18 v1 v2 v3 n kc js sh μ52
        else
          gd (eq1 kc n) <| gd (roomB kc 600000 js 7302250) <| some 0
      else
        if w32 = 2 then
          gd (iz sh 6 v1) <|
          ca2 (m_X6_fault sh v1 μ) fun r56 μ57 =>
          gd (roomB kc 600000 js 7302250) <|
          gd (iz sh 7 v2) <|
          ca2 (m_X7_fault sh v2 μ57) fun r60 μ61 =>
          if r56 = r60 then
            m_L_law_b1069 L xs k18 v1 v2 v3 n kc js sh μ61
          else
            gd (eq1 kc n) <| gd (roomB kc 600000 js 7302250) <| some 0
        else
          if w32 = 3 then
            gd (iz sh 6 v1) <|
            ca2 (m_X6_fair sh v1 μ) fun r65 μ66 =>
            gd (roomB kc 600000 js 7302250) <|
            gd (iz sh 7 v2) <|
            ca2 (m_X7_fair sh v2 μ66) fun r69 μ70 =>
            if r65 = r69 then
              m_L_law_b1069 L xs k18 v1 v2 v3 n kc js sh μ70
            else
              gd (eq1 kc n) <| gd (roomB kc 600000 js 7302250) <| some 0
          else
            if w32 = 4 then
              gd (ixn L (v3 + 1)) <|
              bd (xs (v3 + 1).toNatClampNeg) fun w74 =>
              gd (iz sh 6 v1) <|
              ca2 (m_X6_about sh v1 w74 μ) fun r76 μ77 =>
              gd (roomB kc 600000 js 7302250) <|
              bd (xs (v3 + 1).toNatClampNeg) fun w79 =>
              gd (iz sh 7 v2) <|
              ca2 (m_X7_about sh v2 w79 μ77) fun r81 μ82 =>
              if r76 = r81 then
                m_L_law_b1069 L xs k18 v1 v2 v3 n kc js sh μ82
              else
                gd (eq1 kc n) <| gd (roomB kc 600000 js 7302250) <| some 0
            else
              if w32 = 5 then
                gd (ixn L (v3 + 1)) <|
                bd (xs (v3 + 1).toNatClampNeg) fun w86 =>
                gd (ixn L (v3 + 2)) <|
                bd (xs (v3 + 2).toNatClampNeg) fun w88 =>
                gd (iz sh 6 v1) <|
                ca2 (m_X6_booth sh v1 w86 w88 μ) fun r90 μ91 =>
                gd (roomB kc 600000 js 7302250) <|
                bd (xs (v3 + 1).toNatClampNeg) fun w93 =>
                bd (xs (v3 + 2).toNatClampNeg) fun w94 =>
                gd (iz sh 7 v2) <|
                ca2 (m_X7_booth sh v2 w93 w94 μ91) fun r96 μ97 =>
                if r90 = r96 then
                  m_L_law_b1069 L xs k18 v1 v2 v3 n kc js sh μ97
                else
                  gd (eq1 kc n) <| gd (roomB kc 600000 js 7302250) <| some 0
              else
                if w32 = 6 then
                  gd (ixn L (v3 + 1)) <|
                  bd (xs (v3 + 1).toNatClampNeg) fun w101 =>
                  gd (ixn L (v3 + 2)) <|
                  bd (xs (v3 + 2).toNatClampNeg) fun w103 =>
                  gd (iz sh 6 v1) <|
                  ca2 (m_X6_person sh v1 w101 w103 μ) fun r105 μ106 =>
                  gd (roomB kc 600000 js 7302250) <|
                  bd (xs (v3 + 1).toNatClampNeg) fun w108 =>
                  bd (xs (v3 + 2).toNatClampNeg) fun w109 =>
                  gd (iz sh 7 v2) <|
                  ca2 (m_X7_person sh v2 w108 w109 μ106) fun r111 μ112 =>
                  if r105 = r111 then
                    m_L_law_b1069 L xs k18 v1 v2 v3 n kc js sh μ112
                  else
                    gd (eq1 kc n) <| gd (roomB kc 600000 js 7302250) <| some 0
                else
                  if w32 = 7 then
                    gd (ixn L (v3 + 1)) <|
                    bd (xs (v3 + 1).toNatClampNeg) fun w116 =>
                    gd (ixn L (v3 + 2)) <|
                    bd (xs (v3 + 2).toNatClampNeg) fun w118 =>
                    gd (iz sh 6 v1) <|
                    ca2 (m_X6_strip sh v1 w116 w118 μ) fun r120 μ121 =>
                    gd (roomB kc 600000 js 7302250) <|
                    bd (xs (v3 + 1).toNatClampNeg) fun w123 =>
                    bd (xs (v3 + 2).toNatClampNeg) fun w124 =>
                    gd (iz sh 7 v2) <|
                    ca2 (m_X7_strip sh v2 w123 w124 μ121) fun r126 μ127 =>
                    if r120 = r126 then
                      m_L_law_b1069 L xs k18 v1 v2 v3 n kc js sh μ127
                    else
                      gd (eq1 kc n) <| gd (roomB kc 600000 js 7302250) <| some 0
                  else
                    if w32 = 8 then
                      gd (ixn L (v3 + 1)) <|
                      bd (xs (v3 + 1).toNatClampNeg) fun w131 =>
                      gd (ixn L (v3 + 2)) <|
                      bd (xs (v3 + 2).toNatClampNeg) fun w133 =>
                      gd (ixn L (v3 + 3)) <|
                      bd (xs (v3 + 3).toNatClampNeg) fun w135 =>
                      gd (iz sh 6 v1) <|
                      ca2 (m_X6_look sh v1 w131 w133 w135 μ) fun r137 μ138 =>
                      gd (roomB kc 600000 js 7302250) <|
                      bd (xs (v3 + 1).toNatClampNeg) fun w140 =>
                      bd (xs (v3 + 2).toNatClampNeg) fun w141 =>
                      bd (xs (v3 + 3).toNatClampNeg) fun w142 =>
                      gd (iz sh 7 v2) <|
                      ca2 (m_X7_look sh v2 w140 w141 w142 μ138) fun r144 μ145 =>
                      if r137 = r144 then
                        m_L_law_b1069 L xs k18 v1 v2 v3 n kc js sh μ145
                      else
                        gd (eq1 kc n) <| gd (roomB kc 600000 js 7302250) <| some 0
                    else
                      if w32 = 9 then
                        gd (ixn L (v3 + 1)) <|
                        bd (xs (v3 + 1).toNatClampNeg) fun w149 =>
                        gd (ixn L (v3 + 2)) <|
                        bd (xs (v3 + 2).toNatClampNeg) fun w151 =>
                        gd (iz sh 6 v1) <|
                        ca2 (m_X6_seed sh v1 (((w149.toInt64) <<< ((32 : Int32).toInt64 &&& 63)) ||| ((w151.toInt64) &&& 4294967295)) μ) fun r153 μ154 =>
                        gd (roomB kc 600000 js 7302250) <|
                        bd (xs (v3 + 1).toNatClampNeg) fun w156 =>
                        bd (xs (v3 + 2).toNatClampNeg) fun w157 =>
                        gd (iz sh 7 v2) <|
                        ca2 (m_X7_seed sh v2 (((w156.toInt64) <<< ((32 : Int32).toInt64 &&& 63)) ||| ((w157.toInt64) &&& 4294967295)) μ154) fun r159 μ160 =>
                        if (lg_cmp r153 r159) = 0 then
                          m_L_law_b1069 L xs k18 v1 v2 v3 n kc js sh μ160
                        else
                          gd (eq1 kc n) <| gd (roomB kc 600000 js 7302250) <| some 0
                      else
                        if w32 = 10 then
                          gd (ixn L (v3 + 1)) <|
                          bd (xs (v3 + 1).toNatClampNeg) fun w164 =>
                          gd (ixn L (v3 + 2)) <|
                          bd (xs (v3 + 2).toNatClampNeg) fun w166 =>
                          gd (iz sh 6 v1) <|
                          ca2 (m_X6_enter sh v1 w164 w166 μ) fun r168 μ169 =>
                          gd (roomB kc 600000 js 7302250) <|
                          bd (xs (v3 + 1).toNatClampNeg) fun w171 =>
                          bd (xs (v3 + 2).toNatClampNeg) fun w172 =>
                          gd (iz sh 7 v2) <|
                          ca2 (m_X7_enter sh v2 w171 w172 μ169) fun r174 μ175 =>
                          if r168 = r174 then
                            m_L_law_b1069 L xs k18 v1 v2 v3 n kc js sh μ175
                          else
                            gd (eq1 kc n) <| gd (roomB kc 600000 js 7302250) <| some 0
                        else
                          if w32 = 11 then
                            gd (ixn L (v3 + 1)) <|
                            bd (xs (v3 + 1).toNatClampNeg) fun w179 =>
                            gd (iz sh 6 v1) <|
                            ca2 (m_X6_leave sh v1 w179 μ) fun r181 μ182 =>
                            gd (roomB kc 600000 js 7302250) <|
                            bd (xs (v3 + 1).toNatClampNeg) fun w184 =>
                            gd (iz sh 7 v2) <|
                            ca2 (m_X7_leave sh v2 w184 μ182) fun r186 μ187 =>
                            if r181 = r186 then
                              m_L_law_b1069 L xs k18 v1 v2 v3 n kc js sh μ187
                            else
                              gd (eq1 kc n) <| gd (roomB kc 600000 js 7302250) <| some 0
                          else
                            if w32 = 12 then
                              gd (ixn L (v3 + 1)) <|
                              bd (xs (v3 + 1).toNatClampNeg) fun w191 =>
                              gd (iz sh 6 v1) <|
                              ca2 (m_X6_hat sh v1 w191 μ) fun r193 μ194 =>
                              gd (roomB kc 600000 js 7302250) <|
                              bd (xs (v3 + 1).toNatClampNeg) fun w196 =>
                              gd (iz sh 7 v2) <|
                              ca2 (m_X7_hat sh v2 w196 μ194) fun r198 μ199 =>
                              if r193 = r198 then
                                m_L_law_b1069 L xs k18 v1 v2 v3 n kc js sh μ199
                              else
                                gd (eq1 kc n) <| gd (roomB kc 600000 js 7302250) <| some 0
                            else
                              if w32 = 13 then
                                gd (iz sh 6 v1) <|
                                ca2 (m_X6_minute sh v1 μ) fun r203 μ204 =>
                                gd (roomB kc 600000 js 7302250) <|
                                gd (iz sh 7 v2) <|
                                ca2 (m_X7_minute sh v2 μ204) fun r207 μ208 =>
                                if r203 = r207 then
                                  m_L_law_b1069 L xs k18 v1 v2 v3 n kc js sh μ208
                                else
                                  gd (eq1 kc n) <| gd (roomB kc 600000 js 7302250) <| some 0
                              else
                                if w32 = 14 then
                                  gd (iz sh 6 v1) <|
                                  ca2 (m_X6_stuck sh v1 μ) fun r212 μ213 =>
                                  gd (roomB kc 600000 js 7302250) <|
                                  gd (iz sh 7 v2) <|
                                  ca2 (m_X7_stuck sh v2 μ213) fun r216 μ217 =>
                                  if r212 = r216 then
                                    m_L_law_b1069 L xs k18 v1 v2 v3 n kc js sh μ217
                                  else
                                    gd (eq1 kc n) <| gd (roomB kc 600000 js 7302250) <| some 0
                                else
                                  if w32 = 15 then
                                    gd (ixn L (v3 + 1)) <|
                                    bd (xs (v3 + 1).toNatClampNeg) fun w221 =>
                                    gd (ixn L (v3 + 2)) <|
                                    bd (xs (v3 + 2).toNatClampNeg) fun w223 =>
                                    gd (iz sh 6 v1) <|
                                    ca2 (m_X6_tear sh v1 w221 w223 μ) fun r225 μ226 =>
                                    gd (roomB kc 600000 js 7302250) <|
                                    bd (xs (v3 + 1).toNatClampNeg) fun w228 =>
                                    bd (xs (v3 + 2).toNatClampNeg) fun w229 =>
                                    gd (iz sh 7 v2) <|
                                    ca2 (m_X7_tear sh v2 w228 w229 μ226) fun r231 μ232 =>
                                    if r225 = r231 then
                                      m_L_law_b1069 L xs k18 v1 v2 v3 n kc js sh μ232
                                    else
                                      gd (eq1 kc n) <| gd (roomB kc 600000 js 7302250) <| some 0
                                  else
                                    if w32 = 16 then
                                      gd (iz sh 6 v1) <|
                                      ca2 (m_X6_day sh v1 μ) fun r236 μ237 =>
                                      gd (roomB kc 600000 js 7302250) <|
                                      gd (iz sh 7 v2) <|
                                      ca2 (m_X7_day sh v2 μ237) fun r240 μ241 =>
                                      if r236 = r240 then
                                        m_L_law_b1069 L xs k18 v1 v2 v3 n kc js sh μ241
                                      else
                                        gd (eq1 kc n) <| gd (roomB kc 600000 js 7302250) <| some 0
                                    else
                                      if w32 = 17 then
                                        gd (iz sh 6 v1) <|
                                        ca2 (m_X6_undo sh v1 μ) fun r245 μ246 =>
                                        gd (roomB kc 600000 js 7302250) <|
                                        gd (iz sh 7 v2) <|
                                        ca2 (m_X7_undo sh v2 μ246) fun r249 μ250 =>
                                        if r245 = r249 then
                                          m_L_law_b1069 L xs k18 v1 v2 v3 n kc js sh μ250
                                        else
                                          gd (eq1 kc n) <| gd (roomB kc 600000 js 7302250) <| some 0
                                      else
                                        if w32 = 18 then
                                          gd (ixn L (v3 + 1)) <|
                                          bd (xs (v3 + 1).toNatClampNeg) fun w254 =>
                                          gd (ixn L (v3 + 2)) <|
                                          bd (xs (v3 + 2).toNatClampNeg) fun w256 =>
                                          gd (ixn L (v3 + 3)) <|
                                          bd (xs (v3 + 3).toNatClampNeg) fun w258 =>
                                          gd (iz sh 6 v1) <|
                                          ca2 (m_X6_found sh v1 w254 w256 w258 μ) fun r260 μ261 =>
                                          gd (roomB kc 600000 js 7302250) <|
                                          bd (xs (v3 + 1).toNatClampNeg) fun w263 =>
                                          bd (xs (v3 + 2).toNatClampNeg) fun w264 =>
                                          bd (xs (v3 + 3).toNatClampNeg) fun w265 =>
                                          gd (iz sh 7 v2) <|
                                          ca2 (m_X7_found sh v2 w263 w264 w265 μ261) fun r267 μ268 =>
                                          if r260 = r267 then
                                            m_L_law_b1069 L xs k18 v1 v2 v3 n kc js sh μ268
                                          else
                                            gd (eq1 kc n) <| gd (roomB kc 600000 js 7302250) <| some 0
                                        else
                                          if w32 = 19 then
                                            gd (ixn L (v3 + 1)) <|
                                            bd (xs (v3 + 1).toNatClampNeg) fun w272 =>
                                            gd (iz sh 6 v1) <|
                                            ca2 (m_X6_together sh v1 w272 μ) fun r274 μ275 =>
                                            gd (roomB kc 600000 js 7302250) <|
                                            bd (xs (v3 + 1).toNatClampNeg) fun w277 =>
                                            gd (iz sh 7 v2) <|
                                            ca2 (m_X7_together sh v2 w277 μ275) fun r279 μ280 =>
                                            if r274 = r279 then
                                              m_L_law_b1069 L xs k18 v1 v2 v3 n kc js sh μ280
                                            else
                                              gd (eq1 kc n) <| gd (roomB kc 600000 js 7302250) <| some 0
                                          else
                                            if w32 = 20 then
                                              gd (iz sh 6 v1) <|
                                              ca2 (m_X6_orders sh v1 μ) fun r284 μ285 =>
                                              gd (roomB kc 600000 js 7302250) <|
                                              gd (iz sh 7 v2) <|
                                              ca2 (m_X7_orders sh v2 μ285) fun r288 μ289 =>
                                              if r284 = r288 then
                                                m_L_law_b1069 L xs k18 v1 v2 v3 n kc js sh μ289
                                              else
                                                gd (eq1 kc n) <| gd (roomB kc 600000 js 7302250) <| some 0
                                            else
                                              if w32 = 21 then
                                                gd (ixn L (v3 + 1)) <|
                                                bd (xs (v3 + 1).toNatClampNeg) fun w293 =>
                                                gd (iz sh 6 v1) <|
                                                ca2 (m_X6_orderAt sh v1 w293 μ) fun r295 μ296 =>
                                                gd (roomB kc 600000 js 7302250) <|
                                                bd (xs (v3 + 1).toNatClampNeg) fun w298 =>
                                                gd (iz sh 7 v2) <|
                                                ca2 (m_X7_orderAt sh v2 w298 μ296) fun r300 μ301 =>
                                                if r295 = r300 then
                                                  m_L_law_b1069 L xs k18 v1 v2 v3 n kc js sh μ301
                                                else
                                                  gd (eq1 kc n) <| gd (roomB kc 600000 js 7302250) <| some 0
                                              else
                                                if w32 = 22 then
                                                  gd (ixn L (v3 + 1)) <|
                                                  bd (xs (v3 + 1).toNatClampNeg) fun w305 =>
                                                  gd (ixn L (v3 + 2)) <|
                                                  bd (xs (v3 + 2).toNatClampNeg) fun w307 =>
                                                  gd (ixn L (v3 + 3)) <|
                                                  bd (xs (v3 + 3).toNatClampNeg) fun w309 =>
                                                  gd (iz sh 6 v1) <|
                                                  ca2 (m_X6_forgery sh v1 w305 w307 w309 μ) fun r311 μ312 =>
                                                  gd (roomB kc 600000 js 7302250) <|
                                                  bd (xs (v3 + 1).toNatClampNeg) fun w314 =>
                                                  bd (xs (v3 + 2).toNatClampNeg) fun w315 =>
                                                  bd (xs (v3 + 3).toNatClampNeg) fun w316 =>
                                                  gd (iz sh 7 v2) <|
                                                  ca2 (m_X7_forgery sh v2 w314 w315 w316 μ312) fun r318 μ319 =>
                                                  if r311 = r318 then
                                                    m_L_law_b1069 L xs k18 v1 v2 v3 n kc js sh μ319
                                                  else
                                                    gd (eq1 kc n) <| gd (roomB kc 600000 js 7302250) <| some 0
                                                else
                                                  if w32 = 23 then
                                                    gd (ixn L (v3 + 1)) <|
                                                    bd (xs (v3 + 1).toNatClampNeg) fun w323 =>
                                                    gd (ixn L (v3 + 2)) <|
                                                    bd (xs (v3 + 2).toNatClampNeg) fun w325 =>
                                                    gd (iz sh 6 v1) <|
                                                    ca2 (m_X6_toSit sh v1 w323 w325 μ) fun r327 μ328 =>
                                                    gd (roomB kc 600000 js 7302250) <|
                                                    bd (xs (v3 + 1).toNatClampNeg) fun w330 =>
                                                    bd (xs (v3 + 2).toNatClampNeg) fun w331 =>
                                                    gd (iz sh 7 v2) <|
                                                    ca2 (m_X7_toSit sh v2 w330 w331 μ328) fun r333 μ334 =>
                                                    if r327 = r333 then
                                                      m_L_law_b1069 L xs k18 v1 v2 v3 n kc js sh μ334
                                                    else
                                                      gd (eq1 kc n) <| gd (roomB kc 600000 js 7302250) <| some 0
                                                  else
                                                    if w32 = 24 then
                                                      gd (ixn L (v3 + 1)) <|
                                                      bd (xs (v3 + 1).toNatClampNeg) fun w338 =>
                                                      gd (ixn L (v3 + 2)) <|
                                                      bd (xs (v3 + 2).toNatClampNeg) fun w340 =>
                                                      gd (iz sh 6 v1) <|
                                                      ca2 (m_X6_between sh v1 w338 w340 μ) fun r342 μ343 =>
                                                      gd (roomB kc 600000 js 7302250) <|
                                                      bd (xs (v3 + 1).toNatClampNeg) fun w345 =>
                                                      bd (xs (v3 + 2).toNatClampNeg) fun w346 =>
                                                      gd (iz sh 7 v2) <|
                                                      ca2 (m_X7_between sh v2 w345 w346 μ343) fun r348 μ349 =>
                                                      if r342 = r348 then
                                                        m_L_law_b1069 L xs k18 v1 v2 v3 n kc js sh μ349
                                                      else
                                                        gd (eq1 kc n) <| gd (roomB kc 600000 js 7302250) <| some 0
                                                    else
                                                      if w32 = 25 then
                                                        gd (ixn L (v3 + 1)) <|
                                                        bd (xs (v3 + 1).toNatClampNeg) fun w353 =>
                                                        gd (ixn L (v3 + 2)) <|
                                                        bd (xs (v3 + 2).toNatClampNeg) fun w355 =>
                                                        gd (iz sh 6 v1) <|
                                                        ca2 (m_X6_most sh v1 w353 w355 μ) fun r357 μ358 =>
                                                        gd (roomB kc 600000 js 7302250) <|
                                                        bd (xs (v3 + 1).toNatClampNeg) fun w360 =>
                                                        bd (xs (v3 + 2).toNatClampNeg) fun w361 =>
                                                        gd (iz sh 7 v2) <|
                                                        ca2 (m_X7_most sh v2 w360 w361 μ358) fun r363 μ364 =>
                                                        if r357 = r363 then
                                                          m_L_law_b1069 L xs k18 v1 v2 v3 n kc js sh μ364
                                                        else
                                                          gd (eq1 kc n) <| gd (roomB kc 600000 js 7302250) <| some 0
                                                      else
                                                        if w32 = 26 then
                                                          gd (ixn L (v3 + 1)) <|
                                                          bd (xs (v3 + 1).toNatClampNeg) fun w368 =>
                                                          gd (ixn L (v3 + 2)) <|
                                                          bd (xs (v3 + 2).toNatClampNeg) fun w370 =>
                                                          gd (iz sh 6 v1) <|
                                                          ca2 (m_X6_eyes sh v1 w368 w370 μ) fun r372 μ373 =>
                                                          gd (roomB kc 600000 js 7302250) <|
                                                          bd (xs (v3 + 1).toNatClampNeg) fun w375 =>
                                                          bd (xs (v3 + 2).toNatClampNeg) fun w376 =>
                                                          gd (iz sh 7 v2) <|
                                                          ca2 (m_X7_eyes sh v2 w375 w376 μ373) fun r378 μ379 =>
                                                          if r372 = r378 then
                                                            m_L_law_b1069 L xs k18 v1 v2 v3 n kc js sh μ379
                                                          else
                                                            gd (eq1 kc n) <| gd (roomB kc 600000 js 7302250) <| some 0
                                                        else
                                                          if w32 = 27 then
                                                            gd (ixn L (v3 + 1)) <|
                                                            bd (xs (v3 + 1).toNatClampNeg) fun w383 =>
                                                            gd (ixn L (v3 + 2)) <|
                                                            bd (xs (v3 + 2).toNatClampNeg) fun w385 =>
                                                            gd (ixn L (v3 + 3)) <|
                                                            bd (xs (v3 + 3).toNatClampNeg) fun w387 =>
                                                            gd (ixn L (v3 + 4)) <|
                                                            bd (xs (v3 + 4).toNatClampNeg) fun w389 =>
                                                            if w389 = 0 then
                                                              m_L_law_b923 L xs k18 v1 v2 v3 0 w387 w385 w383 v1 n kc js sh μ
                                                            else
                                                              m_L_law_b923 L xs k18 v1 v2 v3 1 w387 w385 w383 v1 n kc js sh μ
                                                          else
                                                            if w32 = 28 then
                                                              gd (ixn L (v3 + 1)) <|
                                                              bd (xs (v3 + 1).toNatClampNeg) fun w393 =>
                                                              gd (ixn L (v3 + 2)) <|
                                                              bd (xs (v3 + 2).toNatClampNeg) fun w395 =>
                                                              gd (ixn L (v3 + 3)) <|
                                                              bd (xs (v3 + 3).toNatClampNeg) fun w397 =>
                                                              if w397 = 0 then
                                                                m_L_law_b988 L xs k18 v1 v2 v3 0 w395 w393 v1 n kc js sh μ
                                                              else
                                                                m_L_law_b988 L xs k18 v1 v2 v3 1 w395 w393 v1 n kc js sh μ
                                                            else
                                                              if w32 = 29 then
                                                                gd (ixn L (v3 + 1)) <|
                                                                bd (xs (v3 + 1).toNatClampNeg) fun w401 =>
                                                                gd (iz sh 6 v1) <|
                                                                ca2 (m_X6_keep sh v1 w401 μ) fun r403 μ404 =>
                                                                gd (roomB kc 600000 js 7302250) <|
                                                                bd (xs (v3 + 1).toNatClampNeg) fun w406 =>
                                                                gd (iz sh 7 v2) <|
                                                                ca2 (m_X7_keep sh v2 w406 μ404) fun r408 μ409 =>
                                                                if r403 = r408 then
                                                                  m_L_law_b1069 L xs k18 v1 v2 v3 n kc js sh μ409
                                                                else
                                                                  gd (eq1 kc n) <| gd (roomB kc 600000 js 7302250) <| some 0
                                                              else
                                                                if w32 = 30 then
                                                                  gd (ixn L (v3 + 1)) <|
                                                                  bd (xs (v3 + 1).toNatClampNeg) fun w413 =>
                                                                  gd (iz sh 6 v1) <|
                                                                  ca2 (m_X6_again sh v1 w413 μ) fun r415 μ416 =>
                                                                  gd (roomB kc 600000 js 7302250) <|
                                                                  bd (xs (v3 + 1).toNatClampNeg) fun w418 =>
                                                                  gd (iz sh 7 v2) <|
                                                                  ca2 (m_X7_again sh v2 w418 μ416) fun r420 μ421 =>
                                                                  if r415 = r420 then
                                                                    m_L_law_b1069 L xs k18 v1 v2 v3 n kc js sh μ421
                                                                  else
                                                                    gd (eq1 kc n) <| gd (roomB kc 600000 js 7302250) <| some 0
                                                                else
                                                                  m_L_law_b1069 L xs k18 v1 v2 v3 n kc js sh μ
def m_L_law_h18 (L : Nat) (xs : Nat → Int32) (v1 : Nat) (v2 : Nat) : Nat → Int32 → Nat → Nat → Nat → Sh → Mu → Option Int32
  | 0 => fun _ _ _ _ _ _ => none
  | f + 1 => fun v3 n kc js sh μ => m_L_law_b18 L xs (m_L_law_h18 L xs v1 v2 f) v1 v2 v3 n kc js sh μ
def m_L_law (L : Nat) (xs : Nat → Int32) (n : Nat) (sh : Sh) (μ : Mu) : Option Int32 :=
  gd (roomB (0 + 1) 600000 (0 + 10) 7302250) <|
  bd (n + 1) fun n2 =>
  bd (0 + 1) fun kc3 =>
  bd (0 + 10) fun js4 =>
  bd (shn sh n2 6 10) fun sh5 =>
  bd (zr μ n2) fun μ6 =>
  gd (nn0 n2) <|
  ca3 (m_X6_init n2 sh5 n2 μ6) fun n8 sh9 μ10 =>
  gd (roomB (kc3 + 412) 600000 (js4 + 4809) 7302250) <|
  gd (eq1 n8 (n2 + 412)) <|
  bd (kc3 + 412) fun kc13 =>
  bd (js4 + 4809) fun js14 =>
  gd (roomB (kc13 + 1) 600000 (js14 + 29) 7302250) <|
  bd (n8 + 1) fun n16 =>
  bd (kc13 + 1) fun kc17 =>
  bd (js14 + 29) fun js18 =>
  bd (shn sh9 n16 7 29) fun sh19 =>
  bd (zr μ10 n16) fun μ20 =>
  gd (nn0 n16) <|
  ca3 (m_X7_init n16 sh19 n16 μ20) fun n22 sh23 μ24 =>
  gd (roomB (kc17 + 17) 600000 (js18 + 3657) 7302250) <|
  gd (eq1 n22 (n16 + 17)) <|
  bd (kc17 + 17) fun kc27 =>
  bd (js18 + 3657) fun js28 =>
  m_L_law_h18 L xs n2 n16 FU 0 n22 kc27 js28 sh23 μ24
set_option maxHeartbeats 8000000 in
set_option maxRecDepth 20000 in
theorem t_L_law_b1069 {l : Launch} {G : Gl} {L : Nat} {xs : Nat → Int32} (hL : gL G = L) (hxs : gX G = xs) {k18 : Int32 → Nat → Nat → Nat → Sh → Mu → Option Int32} {v1 : Nat} {v2 : Nat} {v3 : Int32} {n kc js : Nat} {sh : Sh} {μ : Mu} (hk18 : ∀ (v3 : Int32) (n kc js : Nat) (sh : Sh) (μ : Mu), k18 v3 n kc js sh μ = some 1 → Sj l G (QL G) c_L_law n sh kc js μ 18 [some (vq (gB G)), some (vr v1), some (vr v2), some (vi v3)] []) (h : m_L_law_b1069 L xs k18 v1 v2 v3 n kc js sh μ = some 1) : Sj l G (QL G) c_L_law n sh kc js μ 1069 [some (vq (gB G)), some (vr v1), some (vr v2), some (vi v3)] [] := by
  unfold m_L_law_b1069 at h
  obtain ⟨w423, ew423, h⟩ := bd_1 h
  refine s_iinc (pc := 1069) (v := w423) (lc' := [some (vq (gB G)), some (vr v1), some (vr v2), some (vi w423)]) d_L_law_1069 rfl (by rw [ew423]; rfl) (by decide) rfl ?_
  refine s_goto (pc := 1072) (tgt := 18) d_L_law_1072 (by decide) ?_
  exact hk18 _ _ _ _ _ _ h
set_option maxHeartbeats 8000000 in
set_option maxRecDepth 20000 in
theorem t_L_law_b955 {l : Launch} {G : Gl} {L : Nat} {xs : Nat → Int32} (hL : gL G = L) (hxs : gX G = xs) {k18 : Int32 → Nat → Nat → Nat → Sh → Mu → Option Int32} {v1 : Nat} {v2 : Nat} {v3 : Int32} {s0 : Int32} {s1 : Int32} {s2 : Int32} {s3 : Int32} {s4 : Nat} {s5 : Int64} {n kc js : Nat} {sh : Sh} {μ : Mu} (hk18 : ∀ (v3 : Int32) (n kc js : Nat) (sh : Sh) (μ : Mu), k18 v3 n kc js sh μ = some 1 → Sj l G (QL G) c_L_law n sh kc js μ 18 [some (vq (gB G)), some (vr v1), some (vr v2), some (vi v3)] []) (h : m_L_law_b955 L xs k18 v1 v2 v3 s0 s1 s2 s3 s4 s5 n kc js sh μ = some 1) : Sj l G (QL G) c_L_law n sh kc js μ 955 [some (vq (gB G)), some (vr v1), some (vr v2), some (vi v3)] [vi s0, vi s1, vi s2, vi s3, vr s4, vl s5] := by
  unfold m_L_law_b955 at h
  obtain ⟨g448, h⟩ := gd_1 h
  obtain ⟨r449, μ450, er449, h⟩ := ca2_1 h
  obtain ⟨g451, h⟩ := gd_1 h
  refine s_callV (pc := 955) (as := [vi s3, vi s2, vi s1, vi s0]) (st := [vl s5]) (vo := [vl r449]) (t_X7_whose er449) cl_7 g448 d_L_law_955 y_X7_whose w_955 w_956 w_957 ⟨by decide, by decide⟩ (roomB_eq g451) (Nat.le_of_ble_eq_true rfl) rfl rfl rfl ?_
  refine s_as (kc' := kc) (js' := js) (pc' := 958) (st' := [vl r449, vl s5]) ⟨rfl, rfl, rfl, rfl⟩ ?_
  refine s_lcmp (pc := 958) d_L_law_958 ?_
  refine s_if_eq (pc := 959) (tgt := 1069) d_L_law_959 (by decide) (fun c452 => ?_) (fun c452 => ?_)
  · have h := it_t c452 h
    exact t_L_law_b1069 hL hxs hk18 h
  · have h := it_f c452 h
    refine s_iconst (pc := 962) (v := 0) d_L_law_962 (by decide) ?_
    obtain ⟨gz1, h⟩ := gd_1 h
    obtain ⟨gz2, h⟩ := gd_1 h
    exact absurd (Option.some.inj h) (by decide)
set_option maxHeartbeats 8000000 in
set_option maxRecDepth 20000 in
theorem t_L_law_b923 {l : Launch} {G : Gl} {L : Nat} {xs : Nat → Int32} (hL : gL G = L) (hxs : gX G = xs) {k18 : Int32 → Nat → Nat → Nat → Sh → Mu → Option Int32} {v1 : Nat} {v2 : Nat} {v3 : Int32} {s0 : Int32} {s1 : Int32} {s2 : Int32} {s3 : Int32} {s4 : Nat} {n kc js : Nat} {sh : Sh} {μ : Mu} (hk18 : ∀ (v3 : Int32) (n kc js : Nat) (sh : Sh) (μ : Mu), k18 v3 n kc js sh μ = some 1 → Sj l G (QL G) c_L_law n sh kc js μ 18 [some (vq (gB G)), some (vr v1), some (vr v2), some (vi v3)] []) (h : m_L_law_b923 L xs k18 v1 v2 v3 s0 s1 s2 s3 s4 n kc js sh μ = some 1) : Sj l G (QL G) c_L_law n sh kc js μ 923 [some (vq (gB G)), some (vr v1), some (vr v2), some (vi v3)] [vi s0, vi s1, vi s2, vi s3, vr s4] := by
  unfold m_L_law_b923 at h
  obtain ⟨g424, h⟩ := gd_1 h
  obtain ⟨r425, μ426, er425, h⟩ := ca2_1 h
  obtain ⟨g427, h⟩ := gd_1 h
  refine s_callV (pc := 923) (as := [vi s3, vi s2, vi s1, vi s0]) (st := []) (vo := [vl r425]) (t_X6_whose er425) cl_6 g424 d_L_law_923 y_X6_whose w_617 w_618 w_619 ⟨by decide, by decide⟩ (roomB_eq g427) (Nat.le_of_ble_eq_true rfl) rfl rfl rfl ?_
  refine s_as (kc' := kc) (js' := js) (pc' := 926) (st' := [vl r425]) ⟨rfl, rfl, rfl, rfl⟩ ?_
  refine s_aload_n (pc := 926) d_L_law_926 rfl rfl ?_
  refine s_qload_n (pc := 927) d_L_law_927 rfl rfl ?_
  refine s_iload_n (pc := 928) d_L_law_928 rfl rfl ?_
  refine s_iconst (pc := 929) (v := 1) d_L_law_929 (by decide) ?_
  refine s_iadd (pc := 930) d_L_law_930 ?_
  obtain ⟨g428, h⟩ := gd_1 h
  refine s_sld (pc := 931) d_L_law_931 (by rw [hL]; exact ixn_eq g428) ?_
  rw [hxs]
  obtain ⟨w429, ew429, h⟩ := bd_1 h
  refine s_topI ew429 ?_
  refine s_qload_n (pc := 932) d_L_law_932 rfl rfl ?_
  refine s_iload_n (pc := 933) d_L_law_933 rfl rfl ?_
  refine s_iconst (pc := 934) (v := 2) d_L_law_934 (by decide) ?_
  refine s_iadd (pc := 935) d_L_law_935 ?_
  obtain ⟨g430, h⟩ := gd_1 h
  refine s_sld (pc := 936) d_L_law_936 (by rw [hL]; exact ixn_eq g430) ?_
  rw [hxs]
  obtain ⟨w431, ew431, h⟩ := bd_1 h
  refine s_topI ew431 ?_
  refine s_qload_n (pc := 937) d_L_law_937 rfl rfl ?_
  refine s_iload_n (pc := 938) d_L_law_938 rfl rfl ?_
  refine s_iconst (pc := 939) (v := 3) d_L_law_939 (by decide) ?_
  refine s_iadd (pc := 940) d_L_law_940 ?_
  obtain ⟨g432, h⟩ := gd_1 h
  refine s_sld (pc := 941) d_L_law_941 (by rw [hL]; exact ixn_eq g432) ?_
  rw [hxs]
  obtain ⟨w433, ew433, h⟩ := bd_1 h
  refine s_topI ew433 ?_
  refine s_qload_n (pc := 942) d_L_law_942 rfl rfl ?_
  refine s_iload_n (pc := 943) d_L_law_943 rfl rfl ?_
  refine s_iconst (pc := 944) (v := 4) d_L_law_944 (by decide) ?_
  refine s_iadd (pc := 945) d_L_law_945 ?_
  obtain ⟨g434, h⟩ := gd_1 h
  refine s_sld (pc := 946) d_L_law_946 (by rw [hL]; exact ixn_eq g434) ?_
  rw [hxs]
  obtain ⟨w435, ew435, h⟩ := bd_1 h
  refine s_topI ew435 ?_
  refine s_if_eq (pc := 947) (tgt := 954) d_L_law_947 (by decide) (fun c436 => ?_) (fun c436 => ?_)
  · have h := it_t c436 h
    refine s_iconst (pc := 954) (v := 0) d_L_law_954 (by decide) ?_
    exact t_L_law_b955 hL hxs hk18 h
  · have h := it_f c436 h
    refine s_iconst (pc := 950) (v := 1) d_L_law_950 (by decide) ?_
    refine s_goto (pc := 951) (tgt := 955) d_L_law_951 (by decide) ?_
    exact t_L_law_b955 hL hxs hk18 h
set_option maxHeartbeats 8000000 in
set_option maxRecDepth 20000 in
theorem t_L_law_b1015 {l : Launch} {G : Gl} {L : Nat} {xs : Nat → Int32} (hL : gL G = L) (hxs : gX G = xs) {k18 : Int32 → Nat → Nat → Nat → Sh → Mu → Option Int32} {v1 : Nat} {v2 : Nat} {v3 : Int32} {s0 : Int32} {s1 : Int32} {s2 : Int32} {s3 : Nat} {s4 : Int32} {n kc js : Nat} {sh : Sh} {μ : Mu} (hk18 : ∀ (v3 : Int32) (n kc js : Nat) (sh : Sh) (μ : Mu), k18 v3 n kc js sh μ = some 1 → Sj l G (QL G) c_L_law n sh kc js μ 18 [some (vq (gB G)), some (vr v1), some (vr v2), some (vi v3)] []) (h : m_L_law_b1015 L xs k18 v1 v2 v3 s0 s1 s2 s3 s4 n kc js sh μ = some 1) : Sj l G (QL G) c_L_law n sh kc js μ 1015 [some (vq (gB G)), some (vr v1), some (vr v2), some (vi v3)] [vi s0, vi s1, vi s2, vr s3, vi s4] := by
  unfold m_L_law_b1015 at h
  obtain ⟨g453, h⟩ := gd_1 h
  obtain ⟨r454, μ455, er454, h⟩ := ca2_1 h
  obtain ⟨g456, h⟩ := gd_1 h
  refine s_callV (pc := 1015) (as := [vi s2, vi s1, vi s0]) (st := [vi s4]) (vo := [vi r454]) (t_X7_open er454) cl_7 g453 d_L_law_1015 y_X7_open w_969 w_970 w_971 ⟨by decide, by decide⟩ (roomB_eq g456) (Nat.le_of_ble_eq_true rfl) rfl rfl rfl ?_
  refine s_as (kc' := kc) (js' := js) (pc' := 1018) (st' := [vi r454, vi s4]) ⟨rfl, rfl, rfl, rfl⟩ ?_
  refine s_icmp_eq (pc := 1018) (tgt := 1069) d_L_law_1018 (by decide) (fun c457 => ?_) (fun c457 => ?_)
  · have h := it_t c457 h
    exact t_L_law_b1069 hL hxs hk18 h
  · have h := it_f c457 h
    refine s_iconst (pc := 1021) (v := 0) d_L_law_1021 (by decide) ?_
    obtain ⟨gz1, h⟩ := gd_1 h
    obtain ⟨gz2, h⟩ := gd_1 h
    exact absurd (Option.some.inj h) (by decide)
set_option maxHeartbeats 8000000 in
set_option maxRecDepth 20000 in
theorem t_L_law_b988 {l : Launch} {G : Gl} {L : Nat} {xs : Nat → Int32} (hL : gL G = L) (hxs : gX G = xs) {k18 : Int32 → Nat → Nat → Nat → Sh → Mu → Option Int32} {v1 : Nat} {v2 : Nat} {v3 : Int32} {s0 : Int32} {s1 : Int32} {s2 : Int32} {s3 : Nat} {n kc js : Nat} {sh : Sh} {μ : Mu} (hk18 : ∀ (v3 : Int32) (n kc js : Nat) (sh : Sh) (μ : Mu), k18 v3 n kc js sh μ = some 1 → Sj l G (QL G) c_L_law n sh kc js μ 18 [some (vq (gB G)), some (vr v1), some (vr v2), some (vi v3)] []) (h : m_L_law_b988 L xs k18 v1 v2 v3 s0 s1 s2 s3 n kc js sh μ = some 1) : Sj l G (QL G) c_L_law n sh kc js μ 988 [some (vq (gB G)), some (vr v1), some (vr v2), some (vi v3)] [vi s0, vi s1, vi s2, vr s3] := by
  unfold m_L_law_b988 at h
  obtain ⟨g437, h⟩ := gd_1 h
  obtain ⟨r438, μ439, er438, h⟩ := ca2_1 h
  obtain ⟨g440, h⟩ := gd_1 h
  refine s_callV (pc := 988) (as := [vi s2, vi s1, vi s0]) (st := []) (vo := [vi r438]) (t_X6_open er438) cl_6 g437 d_L_law_988 y_X6_open w_632 w_633 w_634 ⟨by decide, by decide⟩ (roomB_eq g440) (Nat.le_of_ble_eq_true rfl) rfl rfl rfl ?_
  refine s_as (kc' := kc) (js' := js) (pc' := 991) (st' := [vi r438]) ⟨rfl, rfl, rfl, rfl⟩ ?_
  refine s_aload_n (pc := 991) d_L_law_991 rfl rfl ?_
  refine s_qload_n (pc := 992) d_L_law_992 rfl rfl ?_
  refine s_iload_n (pc := 993) d_L_law_993 rfl rfl ?_
  refine s_iconst (pc := 994) (v := 1) d_L_law_994 (by decide) ?_
  refine s_iadd (pc := 995) d_L_law_995 ?_
  obtain ⟨g441, h⟩ := gd_1 h
  refine s_sld (pc := 996) d_L_law_996 (by rw [hL]; exact ixn_eq g441) ?_
  rw [hxs]
  obtain ⟨w442, ew442, h⟩ := bd_1 h
  refine s_topI ew442 ?_
  refine s_qload_n (pc := 997) d_L_law_997 rfl rfl ?_
  refine s_iload_n (pc := 998) d_L_law_998 rfl rfl ?_
  refine s_iconst (pc := 999) (v := 2) d_L_law_999 (by decide) ?_
  refine s_iadd (pc := 1000) d_L_law_1000 ?_
  obtain ⟨g443, h⟩ := gd_1 h
  refine s_sld (pc := 1001) d_L_law_1001 (by rw [hL]; exact ixn_eq g443) ?_
  rw [hxs]
  obtain ⟨w444, ew444, h⟩ := bd_1 h
  refine s_topI ew444 ?_
  refine s_qload_n (pc := 1002) d_L_law_1002 rfl rfl ?_
  refine s_iload_n (pc := 1003) d_L_law_1003 rfl rfl ?_
  refine s_iconst (pc := 1004) (v := 3) d_L_law_1004 (by decide) ?_
  refine s_iadd (pc := 1005) d_L_law_1005 ?_
  obtain ⟨g445, h⟩ := gd_1 h
  refine s_sld (pc := 1006) d_L_law_1006 (by rw [hL]; exact ixn_eq g445) ?_
  rw [hxs]
  obtain ⟨w446, ew446, h⟩ := bd_1 h
  refine s_topI ew446 ?_
  refine s_if_eq (pc := 1007) (tgt := 1014) d_L_law_1007 (by decide) (fun c447 => ?_) (fun c447 => ?_)
  · have h := it_t c447 h
    refine s_iconst (pc := 1014) (v := 0) d_L_law_1014 (by decide) ?_
    exact t_L_law_b1015 hL hxs hk18 h
  · have h := it_f c447 h
    refine s_iconst (pc := 1010) (v := 1) d_L_law_1010 (by decide) ?_
    refine s_goto (pc := 1011) (tgt := 1015) d_L_law_1011 (by decide) ?_
    exact t_L_law_b1015 hL hxs hk18 h
set_option maxHeartbeats 8000000 in
set_option maxRecDepth 20000 in
theorem t_L_law_b18 {l : Launch} {G : Gl} {L : Nat} {xs : Nat → Int32} (hL : gL G = L) (hxs : gX G = xs) {k18 : Int32 → Nat → Nat → Nat → Sh → Mu → Option Int32} {v1 : Nat} {v2 : Nat} {v3 : Int32} {n kc js : Nat} {sh : Sh} {μ : Mu} (hk18 : ∀ (v3 : Int32) (n kc js : Nat) (sh : Sh) (μ : Mu), k18 v3 n kc js sh μ = some 1 → Sj l G (QL G) c_L_law n sh kc js μ 18 [some (vq (gB G)), some (vr v1), some (vr v2), some (vi v3)] []) (h : m_L_law_b18 L xs k18 v1 v2 v3 n kc js sh μ = some 1) : Sj l G (QL G) c_L_law n sh kc js μ 18 [some (vq (gB G)), some (vr v1), some (vr v2), some (vi v3)] [] := by
  unfold m_L_law_b18 at h
  refine s_iload_n (pc := 18) d_L_law_18 rfl rfl ?_
  refine s_qload_n (pc := 19) d_L_law_19 rfl rfl ?_
  refine s_slen (pc := 20) d_L_law_20 ?_
  rw [hL]
  refine s_iconst (pc := 21) (v := 5) d_L_law_21 (by decide) ?_
  refine s_isub (pc := 22) d_L_law_22 ?_
  refine s_icmp_gt (pc := 23) (tgt := 1075) d_L_law_23 (by decide) (fun c29 => ?_) (fun c29 => ?_)
  · have h := it_t c29 h
    refine s_iconst (pc := 1075) (v := 1) d_L_law_1075 (by decide) ?_
    obtain ⟨gz1, h⟩ := gd_1 h
    obtain ⟨gz2, h⟩ := gd_1 h
    exact s_lawret d_L_law_1076 (eq1_eq gz1) (roomB_eq gz2)
  · have h := it_f c29 h
    refine s_qload_n (pc := 26) d_L_law_26 rfl rfl ?_
    refine s_iload_n (pc := 27) d_L_law_27 rfl rfl ?_
    obtain ⟨g30, h⟩ := gd_1 h
    refine s_sld (pc := 28) d_L_law_28 (by rw [hL]; exact ixn_eq g30) ?_
    rw [hxs]
    obtain ⟨w31, ew31, h⟩ := bd_1 h
    refine s_topI ew31 ?_
    refine s_bipush (pc := 29) (v := 31) d_L_law_29 (by decide) ?_
    refine s_iand (pc := 31) d_L_law_31 ?_
    obtain ⟨w32, ew32, h⟩ := bd_1 h
    refine s_topI ew32 ?_
    by_cases c33 : w32 = 0
    · have h := it_t c33 h
      refine s_tab (pc := 32) (tgt := 172) 0 c33 d_L_law_32 (by decide) (by decide) rfl (by decide) ?_
      refine s_aload_n (pc := 172) d_L_law_172 rfl rfl ?_
      refine s_qload_n (pc := 173) d_L_law_173 rfl rfl ?_
      refine s_iload_n (pc := 174) d_L_law_174 rfl rfl ?_
      refine s_iconst (pc := 175) (v := 1) d_L_law_175 (by decide) ?_
      refine s_iadd (pc := 176) d_L_law_176 ?_
      obtain ⟨g34, h⟩ := gd_1 h
      refine s_sld (pc := 177) d_L_law_177 (by rw [hL]; exact ixn_eq g34) ?_
      rw [hxs]
      obtain ⟨w35, ew35, h⟩ := bd_1 h
      refine s_topI ew35 ?_
      obtain ⟨g36, h⟩ := gd_1 h
      obtain ⟨r37, μ38, er37, h⟩ := ca2_1 h
      obtain ⟨g39, h⟩ := gd_1 h
      refine s_callV (pc := 178) (as := [vi w35]) (st := []) (vo := [vi r37]) (t_X6_write er37) cl_6 g36 d_L_law_178 y_X6_write w_227 w_228 w_229 ⟨by decide, by decide⟩ (roomB_eq g39) (Nat.le_of_ble_eq_true rfl) rfl rfl rfl ?_
      refine s_as (kc' := kc) (js' := js) (pc' := 181) (st' := [vi r37]) ⟨rfl, rfl, rfl, rfl⟩ ?_
      refine s_aload_n (pc := 181) d_L_law_181 rfl rfl ?_
      refine s_qload_n (pc := 182) d_L_law_182 rfl rfl ?_
      refine s_iload_n (pc := 183) d_L_law_183 rfl rfl ?_
      refine s_iconst (pc := 184) (v := 1) d_L_law_184 (by decide) ?_
      refine s_iadd (pc := 185) d_L_law_185 ?_
      refine s_sld (pc := 186) d_L_law_186 (by rw [hL]; exact ixn_eq g34) ?_
      rw [hxs]
      obtain ⟨w40, ew40, h⟩ := bd_1 h
      refine s_topI ew40 ?_
      obtain ⟨g41, h⟩ := gd_1 h
      obtain ⟨r42, μ43, er42, h⟩ := ca2_1 h
      refine s_callV (pc := 187) (as := [vi w40]) (st := [vi r37]) (vo := [vi r42]) (t_X7_write er42) cl_7 g41 d_L_law_187 y_X7_write w_749 w_750 w_751 ⟨by decide, by decide⟩ (roomB_eq g39) (Nat.le_of_ble_eq_true rfl) rfl rfl rfl ?_
      refine s_as (kc' := kc) (js' := js) (pc' := 190) (st' := [vi r42, vi r37]) ⟨rfl, rfl, rfl, rfl⟩ ?_
      refine s_icmp_eq (pc := 190) (tgt := 1069) d_L_law_190 (by decide) (fun c44 => ?_) (fun c44 => ?_)
      · have h := it_t c44 h
        exact t_L_law_b1069 hL hxs hk18 h
      · have h := it_f c44 h
        refine s_iconst (pc := 193) (v := 0) d_L_law_193 (by decide) ?_
        obtain ⟨gz1, h⟩ := gd_1 h
        obtain ⟨gz2, h⟩ := gd_1 h
        exact absurd (Option.some.inj h) (by decide)
    have h := it_f c33 h
    by_cases c45 : w32 = 1
    · have h := it_t c45 h
      refine s_tab (pc := 32) (tgt := 195) 1 c45 d_L_law_32 (by decide) (by decide) rfl (by decide) ?_
      refine s_aload_n (pc := 195) d_L_law_195 rfl rfl ?_
      obtain ⟨g46, h⟩ := gd_1 h
      obtain ⟨r47, μ48, er47, h⟩ := ca2_1 h
      obtain ⟨g49, h⟩ := gd_1 h
      refine s_callV (pc := 196) (as := []) (st := []) (vo := [vi r47]) (t_X6_wipe er47) cl_6 g46 d_L_law_196 y_X6_wipe w_231 w_232 w_233 ⟨by decide, by decide⟩ (roomB_eq g49) (Nat.le_of_ble_eq_true rfl) rfl rfl rfl ?_
      refine s_as (kc' := kc) (js' := js) (pc' := 199) (st' := [vi r47]) ⟨rfl, rfl, rfl, rfl⟩ ?_
      refine s_aload_n (pc := 199) d_L_law_199 rfl rfl ?_
      obtain ⟨g50, h⟩ := gd_1 h
      obtain ⟨r51, μ52, er51, h⟩ := ca2_1 h
      refine s_callV (pc := 200) (as := []) (st := [vi r47]) (vo := [vi r51]) (t_X7_wipe er51) cl_7 g50 d_L_law_200 y_X7_wipe w_757 w_758 w_759 ⟨by decide, by decide⟩ (roomB_eq g49) (Nat.le_of_ble_eq_true rfl) rfl rfl rfl ?_
      refine s_as (kc' := kc) (js' := js) (pc' := 203) (st' := [vi r51, vi r47]) ⟨rfl, rfl, rfl, rfl⟩ ?_
      refine s_icmp_eq (pc := 203) (tgt := 1069) d_L_law_203 (by decide) (fun c53 => ?_) (fun c53 => ?_)
      · have h := it_t c53 h
        exact t_L_law_b1069 hL hxs hk18 h
      · have h := it_f c53 h
        refine s_iconst (pc := 206) (v := 0) d_L_law_206 (by decide) ?_
        obtain ⟨gz1, h⟩ := gd_1 h
        obtain ⟨gz2, h⟩ := gd_1 h
        exact absurd (Option.some.inj h) (by decide)
    have h := it_f c45 h
    by_cases c54 : w32 = 2
    · have h := it_t c54 h
      refine s_tab (pc := 32) (tgt := 208) 2 c54 d_L_law_32 (by decide) (by decide) rfl (by decide) ?_
      refine s_aload_n (pc := 208) d_L_law_208 rfl rfl ?_
      obtain ⟨g55, h⟩ := gd_1 h
      obtain ⟨r56, μ57, er56, h⟩ := ca2_1 h
      obtain ⟨g58, h⟩ := gd_1 h
      refine s_callV (pc := 209) (as := []) (st := []) (vo := [vi r56]) (t_X6_fault er56) cl_6 g55 d_L_law_209 y_X6_fault w_235 w_236 w_237 ⟨by decide, by decide⟩ (roomB_eq g58) (Nat.le_of_ble_eq_true rfl) rfl rfl rfl ?_
      refine s_as (kc' := kc) (js' := js) (pc' := 212) (st' := [vi r56]) ⟨rfl, rfl, rfl, rfl⟩ ?_
      refine s_aload_n (pc := 212) d_L_law_212 rfl rfl ?_
      obtain ⟨g59, h⟩ := gd_1 h
      obtain ⟨r60, μ61, er60, h⟩ := ca2_1 h
      refine s_callV (pc := 213) (as := []) (st := [vi r56]) (vo := [vi r60]) (t_X7_fault er60) cl_7 g59 d_L_law_213 y_X7_fault w_761 w_762 w_763 ⟨by decide, by decide⟩ (roomB_eq g58) (Nat.le_of_ble_eq_true rfl) rfl rfl rfl ?_
      refine s_as (kc' := kc) (js' := js) (pc' := 216) (st' := [vi r60, vi r56]) ⟨rfl, rfl, rfl, rfl⟩ ?_
      refine s_icmp_eq (pc := 216) (tgt := 1069) d_L_law_216 (by decide) (fun c62 => ?_) (fun c62 => ?_)
      · have h := it_t c62 h
        exact t_L_law_b1069 hL hxs hk18 h
      · have h := it_f c62 h
        refine s_iconst (pc := 219) (v := 0) d_L_law_219 (by decide) ?_
        obtain ⟨gz1, h⟩ := gd_1 h
        obtain ⟨gz2, h⟩ := gd_1 h
        exact absurd (Option.some.inj h) (by decide)
    have h := it_f c54 h
    by_cases c63 : w32 = 3
    · have h := it_t c63 h
      refine s_tab (pc := 32) (tgt := 221) 3 c63 d_L_law_32 (by decide) (by decide) rfl (by decide) ?_
      refine s_aload_n (pc := 221) d_L_law_221 rfl rfl ?_
      obtain ⟨g64, h⟩ := gd_1 h
      obtain ⟨r65, μ66, er65, h⟩ := ca2_1 h
      obtain ⟨g67, h⟩ := gd_1 h
      refine s_callV (pc := 222) (as := []) (st := []) (vo := [vi r65]) (t_X6_fair er65) cl_6 g64 d_L_law_222 y_X6_fair w_263 w_264 w_265 ⟨by decide, by decide⟩ (roomB_eq g67) (Nat.le_of_ble_eq_true rfl) rfl rfl rfl ?_
      refine s_as (kc' := kc) (js' := js) (pc' := 225) (st' := [vi r65]) ⟨rfl, rfl, rfl, rfl⟩ ?_
      refine s_aload_n (pc := 225) d_L_law_225 rfl rfl ?_
      obtain ⟨g68, h⟩ := gd_1 h
      obtain ⟨r69, μ70, er69, h⟩ := ca2_1 h
      refine s_callV (pc := 226) (as := []) (st := [vi r65]) (vo := [vi r69]) (t_X7_fair er69) cl_7 g68 d_L_law_226 y_X7_fair w_777 w_778 w_779 ⟨by decide, by decide⟩ (roomB_eq g67) (Nat.le_of_ble_eq_true rfl) rfl rfl rfl ?_
      refine s_as (kc' := kc) (js' := js) (pc' := 229) (st' := [vi r69, vi r65]) ⟨rfl, rfl, rfl, rfl⟩ ?_
      refine s_icmp_eq (pc := 229) (tgt := 1069) d_L_law_229 (by decide) (fun c71 => ?_) (fun c71 => ?_)
      · have h := it_t c71 h
        exact t_L_law_b1069 hL hxs hk18 h
      · have h := it_f c71 h
        refine s_iconst (pc := 232) (v := 0) d_L_law_232 (by decide) ?_
        obtain ⟨gz1, h⟩ := gd_1 h
        obtain ⟨gz2, h⟩ := gd_1 h
        exact absurd (Option.some.inj h) (by decide)
    have h := it_f c63 h
    by_cases c72 : w32 = 4
    · have h := it_t c72 h
      refine s_tab (pc := 32) (tgt := 234) 4 c72 d_L_law_32 (by decide) (by decide) rfl (by decide) ?_
      refine s_aload_n (pc := 234) d_L_law_234 rfl rfl ?_
      refine s_qload_n (pc := 235) d_L_law_235 rfl rfl ?_
      refine s_iload_n (pc := 236) d_L_law_236 rfl rfl ?_
      refine s_iconst (pc := 237) (v := 1) d_L_law_237 (by decide) ?_
      refine s_iadd (pc := 238) d_L_law_238 ?_
      obtain ⟨g73, h⟩ := gd_1 h
      refine s_sld (pc := 239) d_L_law_239 (by rw [hL]; exact ixn_eq g73) ?_
      rw [hxs]
      obtain ⟨w74, ew74, h⟩ := bd_1 h
      refine s_topI ew74 ?_
      obtain ⟨g75, h⟩ := gd_1 h
      obtain ⟨r76, μ77, er76, h⟩ := ca2_1 h
      obtain ⟨g78, h⟩ := gd_1 h
      refine s_callV (pc := 240) (as := [vi w74]) (st := []) (vo := [vi r76]) (t_X6_about er76) cl_6 g75 d_L_law_240 y_X6_about w_272 w_273 w_274 ⟨by decide, by decide⟩ (roomB_eq g78) (Nat.le_of_ble_eq_true rfl) rfl rfl rfl ?_
      refine s_as (kc' := kc) (js' := js) (pc' := 243) (st' := [vi r76]) ⟨rfl, rfl, rfl, rfl⟩ ?_
      refine s_aload_n (pc := 243) d_L_law_243 rfl rfl ?_
      refine s_qload_n (pc := 244) d_L_law_244 rfl rfl ?_
      refine s_iload_n (pc := 245) d_L_law_245 rfl rfl ?_
      refine s_iconst (pc := 246) (v := 1) d_L_law_246 (by decide) ?_
      refine s_iadd (pc := 247) d_L_law_247 ?_
      refine s_sld (pc := 248) d_L_law_248 (by rw [hL]; exact ixn_eq g73) ?_
      rw [hxs]
      obtain ⟨w79, ew79, h⟩ := bd_1 h
      refine s_topI ew79 ?_
      obtain ⟨g80, h⟩ := gd_1 h
      obtain ⟨r81, μ82, er81, h⟩ := ca2_1 h
      refine s_callV (pc := 249) (as := [vi w79]) (st := [vi r76]) (vo := [vi r81]) (t_X7_about er81) cl_7 g80 d_L_law_249 y_X7_about w_781 w_782 w_783 ⟨by decide, by decide⟩ (roomB_eq g78) (Nat.le_of_ble_eq_true rfl) rfl rfl rfl ?_
      refine s_as (kc' := kc) (js' := js) (pc' := 252) (st' := [vi r81, vi r76]) ⟨rfl, rfl, rfl, rfl⟩ ?_
      refine s_icmp_eq (pc := 252) (tgt := 1069) d_L_law_252 (by decide) (fun c83 => ?_) (fun c83 => ?_)
      · have h := it_t c83 h
        exact t_L_law_b1069 hL hxs hk18 h
      · have h := it_f c83 h
        refine s_iconst (pc := 255) (v := 0) d_L_law_255 (by decide) ?_
        obtain ⟨gz1, h⟩ := gd_1 h
        obtain ⟨gz2, h⟩ := gd_1 h
        exact absurd (Option.some.inj h) (by decide)
    have h := it_f c72 h
    by_cases c84 : w32 = 5
    · have h := it_t c84 h
      refine s_tab (pc := 32) (tgt := 257) 5 c84 d_L_law_32 (by decide) (by decide) rfl (by decide) ?_
      refine s_aload_n (pc := 257) d_L_law_257 rfl rfl ?_
      refine s_qload_n (pc := 258) d_L_law_258 rfl rfl ?_
      refine s_iload_n (pc := 259) d_L_law_259 rfl rfl ?_
      refine s_iconst (pc := 260) (v := 1) d_L_law_260 (by decide) ?_
      refine s_iadd (pc := 261) d_L_law_261 ?_
      obtain ⟨g85, h⟩ := gd_1 h
      refine s_sld (pc := 262) d_L_law_262 (by rw [hL]; exact ixn_eq g85) ?_
      rw [hxs]
      obtain ⟨w86, ew86, h⟩ := bd_1 h
      refine s_topI ew86 ?_
      refine s_qload_n (pc := 263) d_L_law_263 rfl rfl ?_
      refine s_iload_n (pc := 264) d_L_law_264 rfl rfl ?_
      refine s_iconst (pc := 265) (v := 2) d_L_law_265 (by decide) ?_
      refine s_iadd (pc := 266) d_L_law_266 ?_
      obtain ⟨g87, h⟩ := gd_1 h
      refine s_sld (pc := 267) d_L_law_267 (by rw [hL]; exact ixn_eq g87) ?_
      rw [hxs]
      obtain ⟨w88, ew88, h⟩ := bd_1 h
      refine s_topI ew88 ?_
      obtain ⟨g89, h⟩ := gd_1 h
      obtain ⟨r90, μ91, er90, h⟩ := ca2_1 h
      obtain ⟨g92, h⟩ := gd_1 h
      refine s_callV (pc := 268) (as := [vi w86, vi w88]) (st := []) (vo := [vi r90]) (t_X6_booth er90) cl_6 g89 d_L_law_268 y_X6_booth w_280 w_281 w_282 ⟨by decide, by decide⟩ (roomB_eq g92) (Nat.le_of_ble_eq_true rfl) rfl rfl rfl ?_
      refine s_as (kc' := kc) (js' := js) (pc' := 271) (st' := [vi r90]) ⟨rfl, rfl, rfl, rfl⟩ ?_
      refine s_aload_n (pc := 271) d_L_law_271 rfl rfl ?_
      refine s_qload_n (pc := 272) d_L_law_272 rfl rfl ?_
      refine s_iload_n (pc := 273) d_L_law_273 rfl rfl ?_
      refine s_iconst (pc := 274) (v := 1) d_L_law_274 (by decide) ?_
      refine s_iadd (pc := 275) d_L_law_275 ?_
      refine s_sld (pc := 276) d_L_law_276 (by rw [hL]; exact ixn_eq g85) ?_
      rw [hxs]
      obtain ⟨w93, ew93, h⟩ := bd_1 h
      refine s_topI ew93 ?_
      refine s_qload_n (pc := 277) d_L_law_277 rfl rfl ?_
      refine s_iload_n (pc := 278) d_L_law_278 rfl rfl ?_
      refine s_iconst (pc := 279) (v := 2) d_L_law_279 (by decide) ?_
      refine s_iadd (pc := 280) d_L_law_280 ?_
      refine s_sld (pc := 281) d_L_law_281 (by rw [hL]; exact ixn_eq g87) ?_
      rw [hxs]
      obtain ⟨w94, ew94, h⟩ := bd_1 h
      refine s_topI ew94 ?_
      obtain ⟨g95, h⟩ := gd_1 h
      obtain ⟨r96, μ97, er96, h⟩ := ca2_1 h
      refine s_callV (pc := 282) (as := [vi w93, vi w94]) (st := [vi r90]) (vo := [vi r96]) (t_X7_booth er96) cl_7 g95 d_L_law_282 y_X7_booth w_793 w_794 w_795 ⟨by decide, by decide⟩ (roomB_eq g92) (Nat.le_of_ble_eq_true rfl) rfl rfl rfl ?_
      refine s_as (kc' := kc) (js' := js) (pc' := 285) (st' := [vi r96, vi r90]) ⟨rfl, rfl, rfl, rfl⟩ ?_
      refine s_icmp_eq (pc := 285) (tgt := 1069) d_L_law_285 (by decide) (fun c98 => ?_) (fun c98 => ?_)
      · have h := it_t c98 h
        exact t_L_law_b1069 hL hxs hk18 h
      · have h := it_f c98 h
        refine s_iconst (pc := 288) (v := 0) d_L_law_288 (by decide) ?_
        obtain ⟨gz1, h⟩ := gd_1 h
        obtain ⟨gz2, h⟩ := gd_1 h
        exact absurd (Option.some.inj h) (by decide)
    have h := it_f c84 h
    by_cases c99 : w32 = 6
    · have h := it_t c99 h
      refine s_tab (pc := 32) (tgt := 290) 6 c99 d_L_law_32 (by decide) (by decide) rfl (by decide) ?_
      refine s_aload_n (pc := 290) d_L_law_290 rfl rfl ?_
      refine s_qload_n (pc := 291) d_L_law_291 rfl rfl ?_
      refine s_iload_n (pc := 292) d_L_law_292 rfl rfl ?_
      refine s_iconst (pc := 293) (v := 1) d_L_law_293 (by decide) ?_
      refine s_iadd (pc := 294) d_L_law_294 ?_
      obtain ⟨g100, h⟩ := gd_1 h
      refine s_sld (pc := 295) d_L_law_295 (by rw [hL]; exact ixn_eq g100) ?_
      rw [hxs]
      obtain ⟨w101, ew101, h⟩ := bd_1 h
      refine s_topI ew101 ?_
      refine s_qload_n (pc := 296) d_L_law_296 rfl rfl ?_
      refine s_iload_n (pc := 297) d_L_law_297 rfl rfl ?_
      refine s_iconst (pc := 298) (v := 2) d_L_law_298 (by decide) ?_
      refine s_iadd (pc := 299) d_L_law_299 ?_
      obtain ⟨g102, h⟩ := gd_1 h
      refine s_sld (pc := 300) d_L_law_300 (by rw [hL]; exact ixn_eq g102) ?_
      rw [hxs]
      obtain ⟨w103, ew103, h⟩ := bd_1 h
      refine s_topI ew103 ?_
      obtain ⟨g104, h⟩ := gd_1 h
      obtain ⟨r105, μ106, er105, h⟩ := ca2_1 h
      obtain ⟨g107, h⟩ := gd_1 h
      refine s_callV (pc := 301) (as := [vi w101, vi w103]) (st := []) (vo := [vi r105]) (t_X6_person er105) cl_6 g104 d_L_law_301 y_X6_person w_313 w_314 w_315 ⟨by decide, by decide⟩ (roomB_eq g107) (Nat.le_of_ble_eq_true rfl) rfl rfl rfl ?_
      refine s_as (kc' := kc) (js' := js) (pc' := 304) (st' := [vi r105]) ⟨rfl, rfl, rfl, rfl⟩ ?_
      refine s_aload_n (pc := 304) d_L_law_304 rfl rfl ?_
      refine s_qload_n (pc := 305) d_L_law_305 rfl rfl ?_
      refine s_iload_n (pc := 306) d_L_law_306 rfl rfl ?_
      refine s_iconst (pc := 307) (v := 1) d_L_law_307 (by decide) ?_
      refine s_iadd (pc := 308) d_L_law_308 ?_
      refine s_sld (pc := 309) d_L_law_309 (by rw [hL]; exact ixn_eq g100) ?_
      rw [hxs]
      obtain ⟨w108, ew108, h⟩ := bd_1 h
      refine s_topI ew108 ?_
      refine s_qload_n (pc := 310) d_L_law_310 rfl rfl ?_
      refine s_iload_n (pc := 311) d_L_law_311 rfl rfl ?_
      refine s_iconst (pc := 312) (v := 2) d_L_law_312 (by decide) ?_
      refine s_iadd (pc := 313) d_L_law_313 ?_
      refine s_sld (pc := 314) d_L_law_314 (by rw [hL]; exact ixn_eq g102) ?_
      rw [hxs]
      obtain ⟨w109, ew109, h⟩ := bd_1 h
      refine s_topI ew109 ?_
      obtain ⟨g110, h⟩ := gd_1 h
      obtain ⟨r111, μ112, er111, h⟩ := ca2_1 h
      refine s_callV (pc := 315) (as := [vi w108, vi w109]) (st := [vi r105]) (vo := [vi r111]) (t_X7_person er111) cl_7 g110 d_L_law_315 y_X7_person w_809 w_810 w_811 ⟨by decide, by decide⟩ (roomB_eq g107) (Nat.le_of_ble_eq_true rfl) rfl rfl rfl ?_
      refine s_as (kc' := kc) (js' := js) (pc' := 318) (st' := [vi r111, vi r105]) ⟨rfl, rfl, rfl, rfl⟩ ?_
      refine s_icmp_eq (pc := 318) (tgt := 1069) d_L_law_318 (by decide) (fun c113 => ?_) (fun c113 => ?_)
      · have h := it_t c113 h
        exact t_L_law_b1069 hL hxs hk18 h
      · have h := it_f c113 h
        refine s_iconst (pc := 321) (v := 0) d_L_law_321 (by decide) ?_
        obtain ⟨gz1, h⟩ := gd_1 h
        obtain ⟨gz2, h⟩ := gd_1 h
        exact absurd (Option.some.inj h) (by decide)
    have h := it_f c99 h
    by_cases c114 : w32 = 7
    · have h := it_t c114 h
      refine s_tab (pc := 32) (tgt := 323) 7 c114 d_L_law_32 (by decide) (by decide) rfl (by decide) ?_
      refine s_aload_n (pc := 323) d_L_law_323 rfl rfl ?_
      refine s_qload_n (pc := 324) d_L_law_324 rfl rfl ?_
      refine s_iload_n (pc := 325) d_L_law_325 rfl rfl ?_
      refine s_iconst (pc := 326) (v := 1) d_L_law_326 (by decide) ?_
      refine s_iadd (pc := 327) d_L_law_327 ?_
      obtain ⟨g115, h⟩ := gd_1 h
      refine s_sld (pc := 328) d_L_law_328 (by rw [hL]; exact ixn_eq g115) ?_
      rw [hxs]
      obtain ⟨w116, ew116, h⟩ := bd_1 h
      refine s_topI ew116 ?_
      refine s_qload_n (pc := 329) d_L_law_329 rfl rfl ?_
      refine s_iload_n (pc := 330) d_L_law_330 rfl rfl ?_
      refine s_iconst (pc := 331) (v := 2) d_L_law_331 (by decide) ?_
      refine s_iadd (pc := 332) d_L_law_332 ?_
      obtain ⟨g117, h⟩ := gd_1 h
      refine s_sld (pc := 333) d_L_law_333 (by rw [hL]; exact ixn_eq g117) ?_
      rw [hxs]
      obtain ⟨w118, ew118, h⟩ := bd_1 h
      refine s_topI ew118 ?_
      obtain ⟨g119, h⟩ := gd_1 h
      obtain ⟨r120, μ121, er120, h⟩ := ca2_1 h
      obtain ⟨g122, h⟩ := gd_1 h
      refine s_callV (pc := 334) (as := [vi w116, vi w118]) (st := []) (vo := [vi r120]) (t_X6_strip er120) cl_6 g119 d_L_law_334 y_X6_strip w_337 w_338 w_339 ⟨by decide, by decide⟩ (roomB_eq g122) (Nat.le_of_ble_eq_true rfl) rfl rfl rfl ?_
      refine s_as (kc' := kc) (js' := js) (pc' := 337) (st' := [vi r120]) ⟨rfl, rfl, rfl, rfl⟩ ?_
      refine s_aload_n (pc := 337) d_L_law_337 rfl rfl ?_
      refine s_qload_n (pc := 338) d_L_law_338 rfl rfl ?_
      refine s_iload_n (pc := 339) d_L_law_339 rfl rfl ?_
      refine s_iconst (pc := 340) (v := 1) d_L_law_340 (by decide) ?_
      refine s_iadd (pc := 341) d_L_law_341 ?_
      refine s_sld (pc := 342) d_L_law_342 (by rw [hL]; exact ixn_eq g115) ?_
      rw [hxs]
      obtain ⟨w123, ew123, h⟩ := bd_1 h
      refine s_topI ew123 ?_
      refine s_qload_n (pc := 343) d_L_law_343 rfl rfl ?_
      refine s_iload_n (pc := 344) d_L_law_344 rfl rfl ?_
      refine s_iconst (pc := 345) (v := 2) d_L_law_345 (by decide) ?_
      refine s_iadd (pc := 346) d_L_law_346 ?_
      refine s_sld (pc := 347) d_L_law_347 (by rw [hL]; exact ixn_eq g117) ?_
      rw [hxs]
      obtain ⟨w124, ew124, h⟩ := bd_1 h
      refine s_topI ew124 ?_
      obtain ⟨g125, h⟩ := gd_1 h
      obtain ⟨r126, μ127, er126, h⟩ := ca2_1 h
      refine s_callV (pc := 348) (as := [vi w123, vi w124]) (st := [vi r120]) (vo := [vi r126]) (t_X7_strip er126) cl_7 g125 d_L_law_348 y_X7_strip w_818 w_819 w_820 ⟨by decide, by decide⟩ (roomB_eq g122) (Nat.le_of_ble_eq_true rfl) rfl rfl rfl ?_
      refine s_as (kc' := kc) (js' := js) (pc' := 351) (st' := [vi r126, vi r120]) ⟨rfl, rfl, rfl, rfl⟩ ?_
      refine s_icmp_eq (pc := 351) (tgt := 1069) d_L_law_351 (by decide) (fun c128 => ?_) (fun c128 => ?_)
      · have h := it_t c128 h
        exact t_L_law_b1069 hL hxs hk18 h
      · have h := it_f c128 h
        refine s_iconst (pc := 354) (v := 0) d_L_law_354 (by decide) ?_
        obtain ⟨gz1, h⟩ := gd_1 h
        obtain ⟨gz2, h⟩ := gd_1 h
        exact absurd (Option.some.inj h) (by decide)
    have h := it_f c114 h
    by_cases c129 : w32 = 8
    · have h := it_t c129 h
      refine s_tab (pc := 32) (tgt := 356) 8 c129 d_L_law_32 (by decide) (by decide) rfl (by decide) ?_
      refine s_aload_n (pc := 356) d_L_law_356 rfl rfl ?_
      refine s_qload_n (pc := 357) d_L_law_357 rfl rfl ?_
      refine s_iload_n (pc := 358) d_L_law_358 rfl rfl ?_
      refine s_iconst (pc := 359) (v := 1) d_L_law_359 (by decide) ?_
      refine s_iadd (pc := 360) d_L_law_360 ?_
      obtain ⟨g130, h⟩ := gd_1 h
      refine s_sld (pc := 361) d_L_law_361 (by rw [hL]; exact ixn_eq g130) ?_
      rw [hxs]
      obtain ⟨w131, ew131, h⟩ := bd_1 h
      refine s_topI ew131 ?_
      refine s_qload_n (pc := 362) d_L_law_362 rfl rfl ?_
      refine s_iload_n (pc := 363) d_L_law_363 rfl rfl ?_
      refine s_iconst (pc := 364) (v := 2) d_L_law_364 (by decide) ?_
      refine s_iadd (pc := 365) d_L_law_365 ?_
      obtain ⟨g132, h⟩ := gd_1 h
      refine s_sld (pc := 366) d_L_law_366 (by rw [hL]; exact ixn_eq g132) ?_
      rw [hxs]
      obtain ⟨w133, ew133, h⟩ := bd_1 h
      refine s_topI ew133 ?_
      refine s_qload_n (pc := 367) d_L_law_367 rfl rfl ?_
      refine s_iload_n (pc := 368) d_L_law_368 rfl rfl ?_
      refine s_iconst (pc := 369) (v := 3) d_L_law_369 (by decide) ?_
      refine s_iadd (pc := 370) d_L_law_370 ?_
      obtain ⟨g134, h⟩ := gd_1 h
      refine s_sld (pc := 371) d_L_law_371 (by rw [hL]; exact ixn_eq g134) ?_
      rw [hxs]
      obtain ⟨w135, ew135, h⟩ := bd_1 h
      refine s_topI ew135 ?_
      obtain ⟨g136, h⟩ := gd_1 h
      obtain ⟨r137, μ138, er137, h⟩ := ca2_1 h
      obtain ⟨g139, h⟩ := gd_1 h
      refine s_callV (pc := 372) (as := [vi w131, vi w133, vi w135]) (st := []) (vo := [vi r137]) (t_X6_look er137) cl_6 g136 d_L_law_372 y_X6_look w_353 w_354 w_355 ⟨by decide, by decide⟩ (roomB_eq g139) (Nat.le_of_ble_eq_true rfl) rfl rfl rfl ?_
      refine s_as (kc' := kc) (js' := js) (pc' := 375) (st' := [vi r137]) ⟨rfl, rfl, rfl, rfl⟩ ?_
      refine s_aload_n (pc := 375) d_L_law_375 rfl rfl ?_
      refine s_qload_n (pc := 376) d_L_law_376 rfl rfl ?_
      refine s_iload_n (pc := 377) d_L_law_377 rfl rfl ?_
      refine s_iconst (pc := 378) (v := 1) d_L_law_378 (by decide) ?_
      refine s_iadd (pc := 379) d_L_law_379 ?_
      refine s_sld (pc := 380) d_L_law_380 (by rw [hL]; exact ixn_eq g130) ?_
      rw [hxs]
      obtain ⟨w140, ew140, h⟩ := bd_1 h
      refine s_topI ew140 ?_
      refine s_qload_n (pc := 381) d_L_law_381 rfl rfl ?_
      refine s_iload_n (pc := 382) d_L_law_382 rfl rfl ?_
      refine s_iconst (pc := 383) (v := 2) d_L_law_383 (by decide) ?_
      refine s_iadd (pc := 384) d_L_law_384 ?_
      refine s_sld (pc := 385) d_L_law_385 (by rw [hL]; exact ixn_eq g132) ?_
      rw [hxs]
      obtain ⟨w141, ew141, h⟩ := bd_1 h
      refine s_topI ew141 ?_
      refine s_qload_n (pc := 386) d_L_law_386 rfl rfl ?_
      refine s_iload_n (pc := 387) d_L_law_387 rfl rfl ?_
      refine s_iconst (pc := 388) (v := 3) d_L_law_388 (by decide) ?_
      refine s_iadd (pc := 389) d_L_law_389 ?_
      refine s_sld (pc := 390) d_L_law_390 (by rw [hL]; exact ixn_eq g134) ?_
      rw [hxs]
      obtain ⟨w142, ew142, h⟩ := bd_1 h
      refine s_topI ew142 ?_
      obtain ⟨g143, h⟩ := gd_1 h
      obtain ⟨r144, μ145, er144, h⟩ := ca2_1 h
      refine s_callV (pc := 391) (as := [vi w140, vi w141, vi w142]) (st := [vi r137]) (vo := [vi r144]) (t_X7_look er144) cl_7 g143 d_L_law_391 y_X7_look w_831 w_832 w_833 ⟨by decide, by decide⟩ (roomB_eq g139) (Nat.le_of_ble_eq_true rfl) rfl rfl rfl ?_
      refine s_as (kc' := kc) (js' := js) (pc' := 394) (st' := [vi r144, vi r137]) ⟨rfl, rfl, rfl, rfl⟩ ?_
      refine s_icmp_eq (pc := 394) (tgt := 1069) d_L_law_394 (by decide) (fun c146 => ?_) (fun c146 => ?_)
      · have h := it_t c146 h
        exact t_L_law_b1069 hL hxs hk18 h
      · have h := it_f c146 h
        refine s_iconst (pc := 397) (v := 0) d_L_law_397 (by decide) ?_
        obtain ⟨gz1, h⟩ := gd_1 h
        obtain ⟨gz2, h⟩ := gd_1 h
        exact absurd (Option.some.inj h) (by decide)
    have h := it_f c129 h
    by_cases c147 : w32 = 9
    · have h := it_t c147 h
      refine s_tab (pc := 32) (tgt := 399) 9 c147 d_L_law_32 (by decide) (by decide) rfl (by decide) ?_
      refine s_aload_n (pc := 399) d_L_law_399 rfl rfl ?_
      refine s_qload_n (pc := 400) d_L_law_400 rfl rfl ?_
      refine s_iload_n (pc := 401) d_L_law_401 rfl rfl ?_
      refine s_iconst (pc := 402) (v := 1) d_L_law_402 (by decide) ?_
      refine s_iadd (pc := 403) d_L_law_403 ?_
      obtain ⟨g148, h⟩ := gd_1 h
      refine s_sld (pc := 404) d_L_law_404 (by rw [hL]; exact ixn_eq g148) ?_
      rw [hxs]
      obtain ⟨w149, ew149, h⟩ := bd_1 h
      refine s_topI ew149 ?_
      refine s_i2l (pc := 405) d_L_law_405 ?_
      refine s_bipush (pc := 406) (v := 32) d_L_law_406 (by decide) ?_
      refine s_lshl (pc := 408) d_L_law_408 ?_
      refine s_qload_n (pc := 409) d_L_law_409 rfl rfl ?_
      refine s_iload_n (pc := 410) d_L_law_410 rfl rfl ?_
      refine s_iconst (pc := 411) (v := 2) d_L_law_411 (by decide) ?_
      refine s_iadd (pc := 412) d_L_law_412 ?_
      obtain ⟨g150, h⟩ := gd_1 h
      refine s_sld (pc := 413) d_L_law_413 (by rw [hL]; exact ixn_eq g150) ?_
      rw [hxs]
      obtain ⟨w151, ew151, h⟩ := bd_1 h
      refine s_topI ew151 ?_
      refine s_i2l (pc := 414) d_L_law_414 ?_
      refine s_ldc2 (pc := 415) (v := 4294967295) d_L_law_415 w_982 ?_
      refine s_land (pc := 418) d_L_law_418 ?_
      refine s_lor (pc := 419) d_L_law_419 ?_
      obtain ⟨g152, h⟩ := gd_1 h
      obtain ⟨r153, μ154, er153, h⟩ := ca2_1 h
      obtain ⟨g155, h⟩ := gd_1 h
      refine s_callV (pc := 420) (as := [vl (((w149.toInt64) <<< ((32 : Int32).toInt64 &&& 63)) ||| ((w151.toInt64) &&& 4294967295))]) (st := []) (vo := [vl r153]) (t_X6_seed er153) cl_6 g152 d_L_law_420 y_X6_seed w_358 w_359 w_360 ⟨by decide, by decide⟩ (roomB_eq g155) (Nat.le_of_ble_eq_true rfl) rfl rfl rfl ?_
      refine s_as (kc' := kc) (js' := js) (pc' := 423) (st' := [vl r153]) ⟨rfl, rfl, rfl, rfl⟩ ?_
      refine s_aload_n (pc := 423) d_L_law_423 rfl rfl ?_
      refine s_qload_n (pc := 424) d_L_law_424 rfl rfl ?_
      refine s_iload_n (pc := 425) d_L_law_425 rfl rfl ?_
      refine s_iconst (pc := 426) (v := 1) d_L_law_426 (by decide) ?_
      refine s_iadd (pc := 427) d_L_law_427 ?_
      refine s_sld (pc := 428) d_L_law_428 (by rw [hL]; exact ixn_eq g148) ?_
      rw [hxs]
      obtain ⟨w156, ew156, h⟩ := bd_1 h
      refine s_topI ew156 ?_
      refine s_i2l (pc := 429) d_L_law_429 ?_
      refine s_bipush (pc := 430) (v := 32) d_L_law_430 (by decide) ?_
      refine s_lshl (pc := 432) d_L_law_432 ?_
      refine s_qload_n (pc := 433) d_L_law_433 rfl rfl ?_
      refine s_iload_n (pc := 434) d_L_law_434 rfl rfl ?_
      refine s_iconst (pc := 435) (v := 2) d_L_law_435 (by decide) ?_
      refine s_iadd (pc := 436) d_L_law_436 ?_
      refine s_sld (pc := 437) d_L_law_437 (by rw [hL]; exact ixn_eq g150) ?_
      rw [hxs]
      obtain ⟨w157, ew157, h⟩ := bd_1 h
      refine s_topI ew157 ?_
      refine s_i2l (pc := 438) d_L_law_438 ?_
      refine s_ldc2 (pc := 439) (v := 4294967295) d_L_law_439 w_982 ?_
      refine s_land (pc := 442) d_L_law_442 ?_
      refine s_lor (pc := 443) d_L_law_443 ?_
      obtain ⟨g158, h⟩ := gd_1 h
      obtain ⟨r159, μ160, er159, h⟩ := ca2_1 h
      refine s_callV (pc := 444) (as := [vl (((w156.toInt64) <<< ((32 : Int32).toInt64 &&& 63)) ||| ((w157.toInt64) &&& 4294967295))]) (st := [vl r153]) (vo := [vl r159]) (t_X7_seed er159) cl_7 g158 d_L_law_444 y_X7_seed w_835 w_836 w_837 ⟨by decide, by decide⟩ (roomB_eq g155) (Nat.le_of_ble_eq_true rfl) rfl rfl rfl ?_
      refine s_as (kc' := kc) (js' := js) (pc' := 447) (st' := [vl r159, vl r153]) ⟨rfl, rfl, rfl, rfl⟩ ?_
      refine s_lcmp (pc := 447) d_L_law_447 ?_
      refine s_if_eq (pc := 448) (tgt := 1069) d_L_law_448 (by decide) (fun c161 => ?_) (fun c161 => ?_)
      · have h := it_t c161 h
        exact t_L_law_b1069 hL hxs hk18 h
      · have h := it_f c161 h
        refine s_iconst (pc := 451) (v := 0) d_L_law_451 (by decide) ?_
        obtain ⟨gz1, h⟩ := gd_1 h
        obtain ⟨gz2, h⟩ := gd_1 h
        exact absurd (Option.some.inj h) (by decide)
    have h := it_f c147 h
    by_cases c162 : w32 = 10
    · have h := it_t c162 h
      refine s_tab (pc := 32) (tgt := 453) 10 c162 d_L_law_32 (by decide) (by decide) rfl (by decide) ?_
      refine s_aload_n (pc := 453) d_L_law_453 rfl rfl ?_
      refine s_qload_n (pc := 454) d_L_law_454 rfl rfl ?_
      refine s_iload_n (pc := 455) d_L_law_455 rfl rfl ?_
      refine s_iconst (pc := 456) (v := 1) d_L_law_456 (by decide) ?_
      refine s_iadd (pc := 457) d_L_law_457 ?_
      obtain ⟨g163, h⟩ := gd_1 h
      refine s_sld (pc := 458) d_L_law_458 (by rw [hL]; exact ixn_eq g163) ?_
      rw [hxs]
      obtain ⟨w164, ew164, h⟩ := bd_1 h
      refine s_topI ew164 ?_
      refine s_qload_n (pc := 459) d_L_law_459 rfl rfl ?_
      refine s_iload_n (pc := 460) d_L_law_460 rfl rfl ?_
      refine s_iconst (pc := 461) (v := 2) d_L_law_461 (by decide) ?_
      refine s_iadd (pc := 462) d_L_law_462 ?_
      obtain ⟨g165, h⟩ := gd_1 h
      refine s_sld (pc := 463) d_L_law_463 (by rw [hL]; exact ixn_eq g165) ?_
      rw [hxs]
      obtain ⟨w166, ew166, h⟩ := bd_1 h
      refine s_topI ew166 ?_
      obtain ⟨g167, h⟩ := gd_1 h
      obtain ⟨r168, μ169, er168, h⟩ := ca2_1 h
      obtain ⟨g170, h⟩ := gd_1 h
      refine s_callV (pc := 464) (as := [vi w164, vi w166]) (st := []) (vo := [vi r168]) (t_X6_enter er168) cl_6 g167 d_L_law_464 y_X6_enter w_362 w_363 w_364 ⟨by decide, by decide⟩ (roomB_eq g170) (Nat.le_of_ble_eq_true rfl) rfl rfl rfl ?_
      refine s_as (kc' := kc) (js' := js) (pc' := 467) (st' := [vi r168]) ⟨rfl, rfl, rfl, rfl⟩ ?_
      refine s_aload_n (pc := 467) d_L_law_467 rfl rfl ?_
      refine s_qload_n (pc := 468) d_L_law_468 rfl rfl ?_
      refine s_iload_n (pc := 469) d_L_law_469 rfl rfl ?_
      refine s_iconst (pc := 470) (v := 1) d_L_law_470 (by decide) ?_
      refine s_iadd (pc := 471) d_L_law_471 ?_
      refine s_sld (pc := 472) d_L_law_472 (by rw [hL]; exact ixn_eq g163) ?_
      rw [hxs]
      obtain ⟨w171, ew171, h⟩ := bd_1 h
      refine s_topI ew171 ?_
      refine s_qload_n (pc := 473) d_L_law_473 rfl rfl ?_
      refine s_iload_n (pc := 474) d_L_law_474 rfl rfl ?_
      refine s_iconst (pc := 475) (v := 2) d_L_law_475 (by decide) ?_
      refine s_iadd (pc := 476) d_L_law_476 ?_
      refine s_sld (pc := 477) d_L_law_477 (by rw [hL]; exact ixn_eq g165) ?_
      rw [hxs]
      obtain ⟨w172, ew172, h⟩ := bd_1 h
      refine s_topI ew172 ?_
      obtain ⟨g173, h⟩ := gd_1 h
      obtain ⟨r174, μ175, er174, h⟩ := ca2_1 h
      refine s_callV (pc := 478) (as := [vi w171, vi w172]) (st := [vi r168]) (vo := [vi r174]) (t_X7_enter er174) cl_7 g173 d_L_law_478 y_X7_enter w_839 w_840 w_841 ⟨by decide, by decide⟩ (roomB_eq g170) (Nat.le_of_ble_eq_true rfl) rfl rfl rfl ?_
      refine s_as (kc' := kc) (js' := js) (pc' := 481) (st' := [vi r174, vi r168]) ⟨rfl, rfl, rfl, rfl⟩ ?_
      refine s_icmp_eq (pc := 481) (tgt := 1069) d_L_law_481 (by decide) (fun c176 => ?_) (fun c176 => ?_)
      · have h := it_t c176 h
        exact t_L_law_b1069 hL hxs hk18 h
      · have h := it_f c176 h
        refine s_iconst (pc := 484) (v := 0) d_L_law_484 (by decide) ?_
        obtain ⟨gz1, h⟩ := gd_1 h
        obtain ⟨gz2, h⟩ := gd_1 h
        exact absurd (Option.some.inj h) (by decide)
    have h := it_f c162 h
    by_cases c177 : w32 = 11
    · have h := it_t c177 h
      refine s_tab (pc := 32) (tgt := 486) 11 c177 d_L_law_32 (by decide) (by decide) rfl (by decide) ?_
      refine s_aload_n (pc := 486) d_L_law_486 rfl rfl ?_
      refine s_qload_n (pc := 487) d_L_law_487 rfl rfl ?_
      refine s_iload_n (pc := 488) d_L_law_488 rfl rfl ?_
      refine s_iconst (pc := 489) (v := 1) d_L_law_489 (by decide) ?_
      refine s_iadd (pc := 490) d_L_law_490 ?_
      obtain ⟨g178, h⟩ := gd_1 h
      refine s_sld (pc := 491) d_L_law_491 (by rw [hL]; exact ixn_eq g178) ?_
      rw [hxs]
      obtain ⟨w179, ew179, h⟩ := bd_1 h
      refine s_topI ew179 ?_
      obtain ⟨g180, h⟩ := gd_1 h
      obtain ⟨r181, μ182, er181, h⟩ := ca2_1 h
      obtain ⟨g183, h⟩ := gd_1 h
      refine s_callV (pc := 492) (as := [vi w179]) (st := []) (vo := [vi r181]) (t_X6_leave er181) cl_6 g180 d_L_law_492 y_X6_leave w_399 w_400 w_401 ⟨by decide, by decide⟩ (roomB_eq g183) (Nat.le_of_ble_eq_true rfl) rfl rfl rfl ?_
      refine s_as (kc' := kc) (js' := js) (pc' := 495) (st' := [vi r181]) ⟨rfl, rfl, rfl, rfl⟩ ?_
      refine s_aload_n (pc := 495) d_L_law_495 rfl rfl ?_
      refine s_qload_n (pc := 496) d_L_law_496 rfl rfl ?_
      refine s_iload_n (pc := 497) d_L_law_497 rfl rfl ?_
      refine s_iconst (pc := 498) (v := 1) d_L_law_498 (by decide) ?_
      refine s_iadd (pc := 499) d_L_law_499 ?_
      refine s_sld (pc := 500) d_L_law_500 (by rw [hL]; exact ixn_eq g178) ?_
      rw [hxs]
      obtain ⟨w184, ew184, h⟩ := bd_1 h
      refine s_topI ew184 ?_
      obtain ⟨g185, h⟩ := gd_1 h
      obtain ⟨r186, μ187, er186, h⟩ := ca2_1 h
      refine s_callV (pc := 501) (as := [vi w184]) (st := [vi r181]) (vo := [vi r186]) (t_X7_leave er186) cl_7 g185 d_L_law_501 y_X7_leave w_850 w_851 w_852 ⟨by decide, by decide⟩ (roomB_eq g183) (Nat.le_of_ble_eq_true rfl) rfl rfl rfl ?_
      refine s_as (kc' := kc) (js' := js) (pc' := 504) (st' := [vi r186, vi r181]) ⟨rfl, rfl, rfl, rfl⟩ ?_
      refine s_icmp_eq (pc := 504) (tgt := 1069) d_L_law_504 (by decide) (fun c188 => ?_) (fun c188 => ?_)
      · have h := it_t c188 h
        exact t_L_law_b1069 hL hxs hk18 h
      · have h := it_f c188 h
        refine s_iconst (pc := 507) (v := 0) d_L_law_507 (by decide) ?_
        obtain ⟨gz1, h⟩ := gd_1 h
        obtain ⟨gz2, h⟩ := gd_1 h
        exact absurd (Option.some.inj h) (by decide)
    have h := it_f c177 h
    by_cases c189 : w32 = 12
    · have h := it_t c189 h
      refine s_tab (pc := 32) (tgt := 509) 12 c189 d_L_law_32 (by decide) (by decide) rfl (by decide) ?_
      refine s_aload_n (pc := 509) d_L_law_509 rfl rfl ?_
      refine s_qload_n (pc := 510) d_L_law_510 rfl rfl ?_
      refine s_iload_n (pc := 511) d_L_law_511 rfl rfl ?_
      refine s_iconst (pc := 512) (v := 1) d_L_law_512 (by decide) ?_
      refine s_iadd (pc := 513) d_L_law_513 ?_
      obtain ⟨g190, h⟩ := gd_1 h
      refine s_sld (pc := 514) d_L_law_514 (by rw [hL]; exact ixn_eq g190) ?_
      rw [hxs]
      obtain ⟨w191, ew191, h⟩ := bd_1 h
      refine s_topI ew191 ?_
      obtain ⟨g192, h⟩ := gd_1 h
      obtain ⟨r193, μ194, er193, h⟩ := ca2_1 h
      obtain ⟨g195, h⟩ := gd_1 h
      refine s_callV (pc := 515) (as := [vi w191]) (st := []) (vo := [vi r193]) (t_X6_hat er193) cl_6 g192 d_L_law_515 y_X6_hat w_407 w_408 w_409 ⟨by decide, by decide⟩ (roomB_eq g195) (Nat.le_of_ble_eq_true rfl) rfl rfl rfl ?_
      refine s_as (kc' := kc) (js' := js) (pc' := 518) (st' := [vi r193]) ⟨rfl, rfl, rfl, rfl⟩ ?_
      refine s_aload_n (pc := 518) d_L_law_518 rfl rfl ?_
      refine s_qload_n (pc := 519) d_L_law_519 rfl rfl ?_
      refine s_iload_n (pc := 520) d_L_law_520 rfl rfl ?_
      refine s_iconst (pc := 521) (v := 1) d_L_law_521 (by decide) ?_
      refine s_iadd (pc := 522) d_L_law_522 ?_
      refine s_sld (pc := 523) d_L_law_523 (by rw [hL]; exact ixn_eq g190) ?_
      rw [hxs]
      obtain ⟨w196, ew196, h⟩ := bd_1 h
      refine s_topI ew196 ?_
      obtain ⟨g197, h⟩ := gd_1 h
      obtain ⟨r198, μ199, er198, h⟩ := ca2_1 h
      refine s_callV (pc := 524) (as := [vi w196]) (st := [vi r193]) (vo := [vi r198]) (t_X7_hat er198) cl_7 g197 d_L_law_524 y_X7_hat w_854 w_855 w_856 ⟨by decide, by decide⟩ (roomB_eq g195) (Nat.le_of_ble_eq_true rfl) rfl rfl rfl ?_
      refine s_as (kc' := kc) (js' := js) (pc' := 527) (st' := [vi r198, vi r193]) ⟨rfl, rfl, rfl, rfl⟩ ?_
      refine s_icmp_eq (pc := 527) (tgt := 1069) d_L_law_527 (by decide) (fun c200 => ?_) (fun c200 => ?_)
      · have h := it_t c200 h
        exact t_L_law_b1069 hL hxs hk18 h
      · have h := it_f c200 h
        refine s_iconst (pc := 530) (v := 0) d_L_law_530 (by decide) ?_
        obtain ⟨gz1, h⟩ := gd_1 h
        obtain ⟨gz2, h⟩ := gd_1 h
        exact absurd (Option.some.inj h) (by decide)
    have h := it_f c189 h
    by_cases c201 : w32 = 13
    · have h := it_t c201 h
      refine s_tab (pc := 32) (tgt := 532) 13 c201 d_L_law_32 (by decide) (by decide) rfl (by decide) ?_
      refine s_aload_n (pc := 532) d_L_law_532 rfl rfl ?_
      obtain ⟨g202, h⟩ := gd_1 h
      obtain ⟨r203, μ204, er203, h⟩ := ca2_1 h
      obtain ⟨g205, h⟩ := gd_1 h
      refine s_callV (pc := 533) (as := []) (st := []) (vo := [vi r203]) (t_X6_minute er203) cl_6 g202 d_L_law_533 y_X6_minute w_411 w_412 w_413 ⟨by decide, by decide⟩ (roomB_eq g205) (Nat.le_of_ble_eq_true rfl) rfl rfl rfl ?_
      refine s_as (kc' := kc) (js' := js) (pc' := 536) (st' := [vi r203]) ⟨rfl, rfl, rfl, rfl⟩ ?_
      refine s_aload_n (pc := 536) d_L_law_536 rfl rfl ?_
      obtain ⟨g206, h⟩ := gd_1 h
      obtain ⟨r207, μ208, er207, h⟩ := ca2_1 h
      refine s_callV (pc := 537) (as := []) (st := [vi r203]) (vo := [vi r207]) (t_X7_minute er207) cl_7 g206 d_L_law_537 y_X7_minute w_858 w_859 w_860 ⟨by decide, by decide⟩ (roomB_eq g205) (Nat.le_of_ble_eq_true rfl) rfl rfl rfl ?_
      refine s_as (kc' := kc) (js' := js) (pc' := 540) (st' := [vi r207, vi r203]) ⟨rfl, rfl, rfl, rfl⟩ ?_
      refine s_icmp_eq (pc := 540) (tgt := 1069) d_L_law_540 (by decide) (fun c209 => ?_) (fun c209 => ?_)
      · have h := it_t c209 h
        exact t_L_law_b1069 hL hxs hk18 h
      · have h := it_f c209 h
        refine s_iconst (pc := 543) (v := 0) d_L_law_543 (by decide) ?_
        obtain ⟨gz1, h⟩ := gd_1 h
        obtain ⟨gz2, h⟩ := gd_1 h
        exact absurd (Option.some.inj h) (by decide)
    have h := it_f c201 h
    by_cases c210 : w32 = 14
    · have h := it_t c210 h
      refine s_tab (pc := 32) (tgt := 545) 14 c210 d_L_law_32 (by decide) (by decide) rfl (by decide) ?_
      refine s_aload_n (pc := 545) d_L_law_545 rfl rfl ?_
      obtain ⟨g211, h⟩ := gd_1 h
      obtain ⟨r212, μ213, er212, h⟩ := ca2_1 h
      obtain ⟨g214, h⟩ := gd_1 h
      refine s_callV (pc := 546) (as := []) (st := []) (vo := [vi r212]) (t_X6_stuck er212) cl_6 g211 d_L_law_546 y_X6_stuck w_440 w_441 w_442 ⟨by decide, by decide⟩ (roomB_eq g214) (Nat.le_of_ble_eq_true rfl) rfl rfl rfl ?_
      refine s_as (kc' := kc) (js' := js) (pc' := 549) (st' := [vi r212]) ⟨rfl, rfl, rfl, rfl⟩ ?_
      refine s_aload_n (pc := 549) d_L_law_549 rfl rfl ?_
      obtain ⟨g215, h⟩ := gd_1 h
      obtain ⟨r216, μ217, er216, h⟩ := ca2_1 h
      refine s_callV (pc := 550) (as := []) (st := [vi r212]) (vo := [vi r216]) (t_X7_stuck er216) cl_7 g215 d_L_law_550 y_X7_stuck w_869 w_870 w_871 ⟨by decide, by decide⟩ (roomB_eq g214) (Nat.le_of_ble_eq_true rfl) rfl rfl rfl ?_
      refine s_as (kc' := kc) (js' := js) (pc' := 553) (st' := [vi r216, vi r212]) ⟨rfl, rfl, rfl, rfl⟩ ?_
      refine s_icmp_eq (pc := 553) (tgt := 1069) d_L_law_553 (by decide) (fun c218 => ?_) (fun c218 => ?_)
      · have h := it_t c218 h
        exact t_L_law_b1069 hL hxs hk18 h
      · have h := it_f c218 h
        refine s_iconst (pc := 556) (v := 0) d_L_law_556 (by decide) ?_
        obtain ⟨gz1, h⟩ := gd_1 h
        obtain ⟨gz2, h⟩ := gd_1 h
        exact absurd (Option.some.inj h) (by decide)
    have h := it_f c210 h
    by_cases c219 : w32 = 15
    · have h := it_t c219 h
      refine s_tab (pc := 32) (tgt := 558) 15 c219 d_L_law_32 (by decide) (by decide) rfl (by decide) ?_
      refine s_aload_n (pc := 558) d_L_law_558 rfl rfl ?_
      refine s_qload_n (pc := 559) d_L_law_559 rfl rfl ?_
      refine s_iload_n (pc := 560) d_L_law_560 rfl rfl ?_
      refine s_iconst (pc := 561) (v := 1) d_L_law_561 (by decide) ?_
      refine s_iadd (pc := 562) d_L_law_562 ?_
      obtain ⟨g220, h⟩ := gd_1 h
      refine s_sld (pc := 563) d_L_law_563 (by rw [hL]; exact ixn_eq g220) ?_
      rw [hxs]
      obtain ⟨w221, ew221, h⟩ := bd_1 h
      refine s_topI ew221 ?_
      refine s_qload_n (pc := 564) d_L_law_564 rfl rfl ?_
      refine s_iload_n (pc := 565) d_L_law_565 rfl rfl ?_
      refine s_iconst (pc := 566) (v := 2) d_L_law_566 (by decide) ?_
      refine s_iadd (pc := 567) d_L_law_567 ?_
      obtain ⟨g222, h⟩ := gd_1 h
      refine s_sld (pc := 568) d_L_law_568 (by rw [hL]; exact ixn_eq g222) ?_
      rw [hxs]
      obtain ⟨w223, ew223, h⟩ := bd_1 h
      refine s_topI ew223 ?_
      obtain ⟨g224, h⟩ := gd_1 h
      obtain ⟨r225, μ226, er225, h⟩ := ca2_1 h
      obtain ⟨g227, h⟩ := gd_1 h
      refine s_callV (pc := 569) (as := [vi w221, vi w223]) (st := []) (vo := [vi r225]) (t_X6_tear er225) cl_6 g224 d_L_law_569 y_X6_tear w_448 w_449 w_450 ⟨by decide, by decide⟩ (roomB_eq g227) (Nat.le_of_ble_eq_true rfl) rfl rfl rfl ?_
      refine s_as (kc' := kc) (js' := js) (pc' := 572) (st' := [vi r225]) ⟨rfl, rfl, rfl, rfl⟩ ?_
      refine s_aload_n (pc := 572) d_L_law_572 rfl rfl ?_
      refine s_qload_n (pc := 573) d_L_law_573 rfl rfl ?_
      refine s_iload_n (pc := 574) d_L_law_574 rfl rfl ?_
      refine s_iconst (pc := 575) (v := 1) d_L_law_575 (by decide) ?_
      refine s_iadd (pc := 576) d_L_law_576 ?_
      refine s_sld (pc := 577) d_L_law_577 (by rw [hL]; exact ixn_eq g220) ?_
      rw [hxs]
      obtain ⟨w228, ew228, h⟩ := bd_1 h
      refine s_topI ew228 ?_
      refine s_qload_n (pc := 578) d_L_law_578 rfl rfl ?_
      refine s_iload_n (pc := 579) d_L_law_579 rfl rfl ?_
      refine s_iconst (pc := 580) (v := 2) d_L_law_580 (by decide) ?_
      refine s_iadd (pc := 581) d_L_law_581 ?_
      refine s_sld (pc := 582) d_L_law_582 (by rw [hL]; exact ixn_eq g222) ?_
      rw [hxs]
      obtain ⟨w229, ew229, h⟩ := bd_1 h
      refine s_topI ew229 ?_
      obtain ⟨g230, h⟩ := gd_1 h
      obtain ⟨r231, μ232, er231, h⟩ := ca2_1 h
      refine s_callV (pc := 583) (as := [vi w228, vi w229]) (st := [vi r225]) (vo := [vi r231]) (t_X7_tear er231) cl_7 g230 d_L_law_583 y_X7_tear w_873 w_874 w_875 ⟨by decide, by decide⟩ (roomB_eq g227) (Nat.le_of_ble_eq_true rfl) rfl rfl rfl ?_
      refine s_as (kc' := kc) (js' := js) (pc' := 586) (st' := [vi r231, vi r225]) ⟨rfl, rfl, rfl, rfl⟩ ?_
      refine s_icmp_eq (pc := 586) (tgt := 1069) d_L_law_586 (by decide) (fun c233 => ?_) (fun c233 => ?_)
      · have h := it_t c233 h
        exact t_L_law_b1069 hL hxs hk18 h
      · have h := it_f c233 h
        refine s_iconst (pc := 589) (v := 0) d_L_law_589 (by decide) ?_
        obtain ⟨gz1, h⟩ := gd_1 h
        obtain ⟨gz2, h⟩ := gd_1 h
        exact absurd (Option.some.inj h) (by decide)
    have h := it_f c219 h
    by_cases c234 : w32 = 16
    · have h := it_t c234 h
      refine s_tab (pc := 32) (tgt := 591) 16 c234 d_L_law_32 (by decide) (by decide) rfl (by decide) ?_
      refine s_aload_n (pc := 591) d_L_law_591 rfl rfl ?_
      obtain ⟨g235, h⟩ := gd_1 h
      obtain ⟨r236, μ237, er236, h⟩ := ca2_1 h
      obtain ⟨g238, h⟩ := gd_1 h
      refine s_callV (pc := 592) (as := []) (st := []) (vo := [vi r236]) (t_X6_day er236) cl_6 g235 d_L_law_592 y_X6_day w_452 w_453 w_454 ⟨by decide, by decide⟩ (roomB_eq g238) (Nat.le_of_ble_eq_true rfl) rfl rfl rfl ?_
      refine s_as (kc' := kc) (js' := js) (pc' := 595) (st' := [vi r236]) ⟨rfl, rfl, rfl, rfl⟩ ?_
      refine s_aload_n (pc := 595) d_L_law_595 rfl rfl ?_
      obtain ⟨g239, h⟩ := gd_1 h
      obtain ⟨r240, μ241, er240, h⟩ := ca2_1 h
      refine s_callV (pc := 596) (as := []) (st := [vi r236]) (vo := [vi r240]) (t_X7_day er240) cl_7 g239 d_L_law_596 y_X7_day w_877 w_878 w_879 ⟨by decide, by decide⟩ (roomB_eq g238) (Nat.le_of_ble_eq_true rfl) rfl rfl rfl ?_
      refine s_as (kc' := kc) (js' := js) (pc' := 599) (st' := [vi r240, vi r236]) ⟨rfl, rfl, rfl, rfl⟩ ?_
      refine s_icmp_eq (pc := 599) (tgt := 1069) d_L_law_599 (by decide) (fun c242 => ?_) (fun c242 => ?_)
      · have h := it_t c242 h
        exact t_L_law_b1069 hL hxs hk18 h
      · have h := it_f c242 h
        refine s_iconst (pc := 602) (v := 0) d_L_law_602 (by decide) ?_
        obtain ⟨gz1, h⟩ := gd_1 h
        obtain ⟨gz2, h⟩ := gd_1 h
        exact absurd (Option.some.inj h) (by decide)
    have h := it_f c234 h
    by_cases c243 : w32 = 17
    · have h := it_t c243 h
      refine s_tab (pc := 32) (tgt := 604) 17 c243 d_L_law_32 (by decide) (by decide) rfl (by decide) ?_
      refine s_aload_n (pc := 604) d_L_law_604 rfl rfl ?_
      obtain ⟨g244, h⟩ := gd_1 h
      obtain ⟨r245, μ246, er245, h⟩ := ca2_1 h
      obtain ⟨g247, h⟩ := gd_1 h
      refine s_callV (pc := 605) (as := []) (st := []) (vo := [vi r245]) (t_X6_undo er245) cl_6 g244 d_L_law_605 y_X6_undo w_463 w_464 w_465 ⟨by decide, by decide⟩ (roomB_eq g247) (Nat.le_of_ble_eq_true rfl) rfl rfl rfl ?_
      refine s_as (kc' := kc) (js' := js) (pc' := 608) (st' := [vi r245]) ⟨rfl, rfl, rfl, rfl⟩ ?_
      refine s_aload_n (pc := 608) d_L_law_608 rfl rfl ?_
      obtain ⟨g248, h⟩ := gd_1 h
      obtain ⟨r249, μ250, er249, h⟩ := ca2_1 h
      refine s_callV (pc := 609) (as := []) (st := [vi r245]) (vo := [vi r249]) (t_X7_undo er249) cl_7 g248 d_L_law_609 y_X7_undo w_881 w_882 w_883 ⟨by decide, by decide⟩ (roomB_eq g247) (Nat.le_of_ble_eq_true rfl) rfl rfl rfl ?_
      refine s_as (kc' := kc) (js' := js) (pc' := 612) (st' := [vi r249, vi r245]) ⟨rfl, rfl, rfl, rfl⟩ ?_
      refine s_icmp_eq (pc := 612) (tgt := 1069) d_L_law_612 (by decide) (fun c251 => ?_) (fun c251 => ?_)
      · have h := it_t c251 h
        exact t_L_law_b1069 hL hxs hk18 h
      · have h := it_f c251 h
        refine s_iconst (pc := 615) (v := 0) d_L_law_615 (by decide) ?_
        obtain ⟨gz1, h⟩ := gd_1 h
        obtain ⟨gz2, h⟩ := gd_1 h
        exact absurd (Option.some.inj h) (by decide)
    have h := it_f c243 h
    by_cases c252 : w32 = 18
    · have h := it_t c252 h
      refine s_tab (pc := 32) (tgt := 617) 18 c252 d_L_law_32 (by decide) (by decide) rfl (by decide) ?_
      refine s_aload_n (pc := 617) d_L_law_617 rfl rfl ?_
      refine s_qload_n (pc := 618) d_L_law_618 rfl rfl ?_
      refine s_iload_n (pc := 619) d_L_law_619 rfl rfl ?_
      refine s_iconst (pc := 620) (v := 1) d_L_law_620 (by decide) ?_
      refine s_iadd (pc := 621) d_L_law_621 ?_
      obtain ⟨g253, h⟩ := gd_1 h
      refine s_sld (pc := 622) d_L_law_622 (by rw [hL]; exact ixn_eq g253) ?_
      rw [hxs]
      obtain ⟨w254, ew254, h⟩ := bd_1 h
      refine s_topI ew254 ?_
      refine s_qload_n (pc := 623) d_L_law_623 rfl rfl ?_
      refine s_iload_n (pc := 624) d_L_law_624 rfl rfl ?_
      refine s_iconst (pc := 625) (v := 2) d_L_law_625 (by decide) ?_
      refine s_iadd (pc := 626) d_L_law_626 ?_
      obtain ⟨g255, h⟩ := gd_1 h
      refine s_sld (pc := 627) d_L_law_627 (by rw [hL]; exact ixn_eq g255) ?_
      rw [hxs]
      obtain ⟨w256, ew256, h⟩ := bd_1 h
      refine s_topI ew256 ?_
      refine s_qload_n (pc := 628) d_L_law_628 rfl rfl ?_
      refine s_iload_n (pc := 629) d_L_law_629 rfl rfl ?_
      refine s_iconst (pc := 630) (v := 3) d_L_law_630 (by decide) ?_
      refine s_iadd (pc := 631) d_L_law_631 ?_
      obtain ⟨g257, h⟩ := gd_1 h
      refine s_sld (pc := 632) d_L_law_632 (by rw [hL]; exact ixn_eq g257) ?_
      rw [hxs]
      obtain ⟨w258, ew258, h⟩ := bd_1 h
      refine s_topI ew258 ?_
      obtain ⟨g259, h⟩ := gd_1 h
      obtain ⟨r260, μ261, er260, h⟩ := ca2_1 h
      obtain ⟨g262, h⟩ := gd_1 h
      refine s_callV (pc := 633) (as := [vi w254, vi w256, vi w258]) (st := []) (vo := [vi r260]) (t_X6_found er260) cl_6 g259 d_L_law_633 y_X6_found w_471 w_472 w_473 ⟨by decide, by decide⟩ (roomB_eq g262) (Nat.le_of_ble_eq_true rfl) rfl rfl rfl ?_
      refine s_as (kc' := kc) (js' := js) (pc' := 636) (st' := [vi r260]) ⟨rfl, rfl, rfl, rfl⟩ ?_
      refine s_aload_n (pc := 636) d_L_law_636 rfl rfl ?_
      refine s_qload_n (pc := 637) d_L_law_637 rfl rfl ?_
      refine s_iload_n (pc := 638) d_L_law_638 rfl rfl ?_
      refine s_iconst (pc := 639) (v := 1) d_L_law_639 (by decide) ?_
      refine s_iadd (pc := 640) d_L_law_640 ?_
      refine s_sld (pc := 641) d_L_law_641 (by rw [hL]; exact ixn_eq g253) ?_
      rw [hxs]
      obtain ⟨w263, ew263, h⟩ := bd_1 h
      refine s_topI ew263 ?_
      refine s_qload_n (pc := 642) d_L_law_642 rfl rfl ?_
      refine s_iload_n (pc := 643) d_L_law_643 rfl rfl ?_
      refine s_iconst (pc := 644) (v := 2) d_L_law_644 (by decide) ?_
      refine s_iadd (pc := 645) d_L_law_645 ?_
      refine s_sld (pc := 646) d_L_law_646 (by rw [hL]; exact ixn_eq g255) ?_
      rw [hxs]
      obtain ⟨w264, ew264, h⟩ := bd_1 h
      refine s_topI ew264 ?_
      refine s_qload_n (pc := 647) d_L_law_647 rfl rfl ?_
      refine s_iload_n (pc := 648) d_L_law_648 rfl rfl ?_
      refine s_iconst (pc := 649) (v := 3) d_L_law_649 (by decide) ?_
      refine s_iadd (pc := 650) d_L_law_650 ?_
      refine s_sld (pc := 651) d_L_law_651 (by rw [hL]; exact ixn_eq g257) ?_
      rw [hxs]
      obtain ⟨w265, ew265, h⟩ := bd_1 h
      refine s_topI ew265 ?_
      obtain ⟨g266, h⟩ := gd_1 h
      obtain ⟨r267, μ268, er267, h⟩ := ca2_1 h
      refine s_callV (pc := 652) (as := [vi w263, vi w264, vi w265]) (st := [vi r260]) (vo := [vi r267]) (t_X7_found er267) cl_7 g266 d_L_law_652 y_X7_found w_885 w_886 w_887 ⟨by decide, by decide⟩ (roomB_eq g262) (Nat.le_of_ble_eq_true rfl) rfl rfl rfl ?_
      refine s_as (kc' := kc) (js' := js) (pc' := 655) (st' := [vi r267, vi r260]) ⟨rfl, rfl, rfl, rfl⟩ ?_
      refine s_icmp_eq (pc := 655) (tgt := 1069) d_L_law_655 (by decide) (fun c269 => ?_) (fun c269 => ?_)
      · have h := it_t c269 h
        exact t_L_law_b1069 hL hxs hk18 h
      · have h := it_f c269 h
        refine s_iconst (pc := 658) (v := 0) d_L_law_658 (by decide) ?_
        obtain ⟨gz1, h⟩ := gd_1 h
        obtain ⟨gz2, h⟩ := gd_1 h
        exact absurd (Option.some.inj h) (by decide)
    have h := it_f c252 h
    by_cases c270 : w32 = 19
    · have h := it_t c270 h
      refine s_tab (pc := 32) (tgt := 660) 19 c270 d_L_law_32 (by decide) (by decide) rfl (by decide) ?_
      refine s_aload_n (pc := 660) d_L_law_660 rfl rfl ?_
      refine s_qload_n (pc := 661) d_L_law_661 rfl rfl ?_
      refine s_iload_n (pc := 662) d_L_law_662 rfl rfl ?_
      refine s_iconst (pc := 663) (v := 1) d_L_law_663 (by decide) ?_
      refine s_iadd (pc := 664) d_L_law_664 ?_
      obtain ⟨g271, h⟩ := gd_1 h
      refine s_sld (pc := 665) d_L_law_665 (by rw [hL]; exact ixn_eq g271) ?_
      rw [hxs]
      obtain ⟨w272, ew272, h⟩ := bd_1 h
      refine s_topI ew272 ?_
      obtain ⟨g273, h⟩ := gd_1 h
      obtain ⟨r274, μ275, er274, h⟩ := ca2_1 h
      obtain ⟨g276, h⟩ := gd_1 h
      refine s_callV (pc := 666) (as := [vi w272]) (st := []) (vo := [vi r274]) (t_X6_together er274) cl_6 g273 d_L_law_666 y_X6_together w_490 w_491 w_492 ⟨by decide, by decide⟩ (roomB_eq g276) (Nat.le_of_ble_eq_true rfl) rfl rfl rfl ?_
      refine s_as (kc' := kc) (js' := js) (pc' := 669) (st' := [vi r274]) ⟨rfl, rfl, rfl, rfl⟩ ?_
      refine s_aload_n (pc := 669) d_L_law_669 rfl rfl ?_
      refine s_qload_n (pc := 670) d_L_law_670 rfl rfl ?_
      refine s_iload_n (pc := 671) d_L_law_671 rfl rfl ?_
      refine s_iconst (pc := 672) (v := 1) d_L_law_672 (by decide) ?_
      refine s_iadd (pc := 673) d_L_law_673 ?_
      refine s_sld (pc := 674) d_L_law_674 (by rw [hL]; exact ixn_eq g271) ?_
      rw [hxs]
      obtain ⟨w277, ew277, h⟩ := bd_1 h
      refine s_topI ew277 ?_
      obtain ⟨g278, h⟩ := gd_1 h
      obtain ⟨r279, μ280, er279, h⟩ := ca2_1 h
      refine s_callV (pc := 675) (as := [vi w277]) (st := [vi r274]) (vo := [vi r279]) (t_X7_together er279) cl_7 g278 d_L_law_675 y_X7_together w_899 w_900 w_901 ⟨by decide, by decide⟩ (roomB_eq g276) (Nat.le_of_ble_eq_true rfl) rfl rfl rfl ?_
      refine s_as (kc' := kc) (js' := js) (pc' := 678) (st' := [vi r279, vi r274]) ⟨rfl, rfl, rfl, rfl⟩ ?_
      refine s_icmp_eq (pc := 678) (tgt := 1069) d_L_law_678 (by decide) (fun c281 => ?_) (fun c281 => ?_)
      · have h := it_t c281 h
        exact t_L_law_b1069 hL hxs hk18 h
      · have h := it_f c281 h
        refine s_iconst (pc := 681) (v := 0) d_L_law_681 (by decide) ?_
        obtain ⟨gz1, h⟩ := gd_1 h
        obtain ⟨gz2, h⟩ := gd_1 h
        exact absurd (Option.some.inj h) (by decide)
    have h := it_f c270 h
    by_cases c282 : w32 = 20
    · have h := it_t c282 h
      refine s_tab (pc := 32) (tgt := 683) 20 c282 d_L_law_32 (by decide) (by decide) rfl (by decide) ?_
      refine s_aload_n (pc := 683) d_L_law_683 rfl rfl ?_
      obtain ⟨g283, h⟩ := gd_1 h
      obtain ⟨r284, μ285, er284, h⟩ := ca2_1 h
      obtain ⟨g286, h⟩ := gd_1 h
      refine s_callV (pc := 684) (as := []) (st := []) (vo := [vi r284]) (t_X6_orders er284) cl_6 g283 d_L_law_684 y_X6_orders w_524 w_525 w_526 ⟨by decide, by decide⟩ (roomB_eq g286) (Nat.le_of_ble_eq_true rfl) rfl rfl rfl ?_
      refine s_as (kc' := kc) (js' := js) (pc' := 687) (st' := [vi r284]) ⟨rfl, rfl, rfl, rfl⟩ ?_
      refine s_aload_n (pc := 687) d_L_law_687 rfl rfl ?_
      obtain ⟨g287, h⟩ := gd_1 h
      obtain ⟨r288, μ289, er288, h⟩ := ca2_1 h
      refine s_callV (pc := 688) (as := []) (st := [vi r284]) (vo := [vi r288]) (t_X7_orders er288) cl_7 g287 d_L_law_688 y_X7_orders w_910 w_911 w_912 ⟨by decide, by decide⟩ (roomB_eq g286) (Nat.le_of_ble_eq_true rfl) rfl rfl rfl ?_
      refine s_as (kc' := kc) (js' := js) (pc' := 691) (st' := [vi r288, vi r284]) ⟨rfl, rfl, rfl, rfl⟩ ?_
      refine s_icmp_eq (pc := 691) (tgt := 1069) d_L_law_691 (by decide) (fun c290 => ?_) (fun c290 => ?_)
      · have h := it_t c290 h
        exact t_L_law_b1069 hL hxs hk18 h
      · have h := it_f c290 h
        refine s_iconst (pc := 694) (v := 0) d_L_law_694 (by decide) ?_
        obtain ⟨gz1, h⟩ := gd_1 h
        obtain ⟨gz2, h⟩ := gd_1 h
        exact absurd (Option.some.inj h) (by decide)
    have h := it_f c282 h
    by_cases c291 : w32 = 21
    · have h := it_t c291 h
      refine s_tab (pc := 32) (tgt := 696) 21 c291 d_L_law_32 (by decide) (by decide) rfl (by decide) ?_
      refine s_aload_n (pc := 696) d_L_law_696 rfl rfl ?_
      refine s_qload_n (pc := 697) d_L_law_697 rfl rfl ?_
      refine s_iload_n (pc := 698) d_L_law_698 rfl rfl ?_
      refine s_iconst (pc := 699) (v := 1) d_L_law_699 (by decide) ?_
      refine s_iadd (pc := 700) d_L_law_700 ?_
      obtain ⟨g292, h⟩ := gd_1 h
      refine s_sld (pc := 701) d_L_law_701 (by rw [hL]; exact ixn_eq g292) ?_
      rw [hxs]
      obtain ⟨w293, ew293, h⟩ := bd_1 h
      refine s_topI ew293 ?_
      obtain ⟨g294, h⟩ := gd_1 h
      obtain ⟨r295, μ296, er295, h⟩ := ca2_1 h
      obtain ⟨g297, h⟩ := gd_1 h
      refine s_callV (pc := 702) (as := [vi w293]) (st := []) (vo := [vi r295]) (t_X6_orderAt er295) cl_6 g294 d_L_law_702 y_X6_orderAt w_550 w_551 w_552 ⟨by decide, by decide⟩ (roomB_eq g297) (Nat.le_of_ble_eq_true rfl) rfl rfl rfl ?_
      refine s_as (kc' := kc) (js' := js) (pc' := 705) (st' := [vi r295]) ⟨rfl, rfl, rfl, rfl⟩ ?_
      refine s_aload_n (pc := 705) d_L_law_705 rfl rfl ?_
      refine s_qload_n (pc := 706) d_L_law_706 rfl rfl ?_
      refine s_iload_n (pc := 707) d_L_law_707 rfl rfl ?_
      refine s_iconst (pc := 708) (v := 1) d_L_law_708 (by decide) ?_
      refine s_iadd (pc := 709) d_L_law_709 ?_
      refine s_sld (pc := 710) d_L_law_710 (by rw [hL]; exact ixn_eq g292) ?_
      rw [hxs]
      obtain ⟨w298, ew298, h⟩ := bd_1 h
      refine s_topI ew298 ?_
      obtain ⟨g299, h⟩ := gd_1 h
      obtain ⟨r300, μ301, er300, h⟩ := ca2_1 h
      refine s_callV (pc := 711) (as := [vi w298]) (st := [vi r295]) (vo := [vi r300]) (t_X7_orderAt er300) cl_7 g299 d_L_law_711 y_X7_orderAt w_922 w_923 w_924 ⟨by decide, by decide⟩ (roomB_eq g297) (Nat.le_of_ble_eq_true rfl) rfl rfl rfl ?_
      refine s_as (kc' := kc) (js' := js) (pc' := 714) (st' := [vi r300, vi r295]) ⟨rfl, rfl, rfl, rfl⟩ ?_
      refine s_icmp_eq (pc := 714) (tgt := 1069) d_L_law_714 (by decide) (fun c302 => ?_) (fun c302 => ?_)
      · have h := it_t c302 h
        exact t_L_law_b1069 hL hxs hk18 h
      · have h := it_f c302 h
        refine s_iconst (pc := 717) (v := 0) d_L_law_717 (by decide) ?_
        obtain ⟨gz1, h⟩ := gd_1 h
        obtain ⟨gz2, h⟩ := gd_1 h
        exact absurd (Option.some.inj h) (by decide)
    have h := it_f c291 h
    by_cases c303 : w32 = 22
    · have h := it_t c303 h
      refine s_tab (pc := 32) (tgt := 719) 22 c303 d_L_law_32 (by decide) (by decide) rfl (by decide) ?_
      refine s_aload_n (pc := 719) d_L_law_719 rfl rfl ?_
      refine s_qload_n (pc := 720) d_L_law_720 rfl rfl ?_
      refine s_iload_n (pc := 721) d_L_law_721 rfl rfl ?_
      refine s_iconst (pc := 722) (v := 1) d_L_law_722 (by decide) ?_
      refine s_iadd (pc := 723) d_L_law_723 ?_
      obtain ⟨g304, h⟩ := gd_1 h
      refine s_sld (pc := 724) d_L_law_724 (by rw [hL]; exact ixn_eq g304) ?_
      rw [hxs]
      obtain ⟨w305, ew305, h⟩ := bd_1 h
      refine s_topI ew305 ?_
      refine s_qload_n (pc := 725) d_L_law_725 rfl rfl ?_
      refine s_iload_n (pc := 726) d_L_law_726 rfl rfl ?_
      refine s_iconst (pc := 727) (v := 2) d_L_law_727 (by decide) ?_
      refine s_iadd (pc := 728) d_L_law_728 ?_
      obtain ⟨g306, h⟩ := gd_1 h
      refine s_sld (pc := 729) d_L_law_729 (by rw [hL]; exact ixn_eq g306) ?_
      rw [hxs]
      obtain ⟨w307, ew307, h⟩ := bd_1 h
      refine s_topI ew307 ?_
      refine s_qload_n (pc := 730) d_L_law_730 rfl rfl ?_
      refine s_iload_n (pc := 731) d_L_law_731 rfl rfl ?_
      refine s_iconst (pc := 732) (v := 3) d_L_law_732 (by decide) ?_
      refine s_iadd (pc := 733) d_L_law_733 ?_
      obtain ⟨g308, h⟩ := gd_1 h
      refine s_sld (pc := 734) d_L_law_734 (by rw [hL]; exact ixn_eq g308) ?_
      rw [hxs]
      obtain ⟨w309, ew309, h⟩ := bd_1 h
      refine s_topI ew309 ?_
      obtain ⟨g310, h⟩ := gd_1 h
      obtain ⟨r311, μ312, er311, h⟩ := ca2_1 h
      obtain ⟨g313, h⟩ := gd_1 h
      refine s_callV (pc := 735) (as := [vi w305, vi w307, vi w309]) (st := []) (vo := [vi r311]) (t_X6_forgery er311) cl_6 g310 d_L_law_735 y_X6_forgery w_559 w_560 w_561 ⟨by decide, by decide⟩ (roomB_eq g313) (Nat.le_of_ble_eq_true rfl) rfl rfl rfl ?_
      refine s_as (kc' := kc) (js' := js) (pc' := 738) (st' := [vi r311]) ⟨rfl, rfl, rfl, rfl⟩ ?_
      refine s_aload_n (pc := 738) d_L_law_738 rfl rfl ?_
      refine s_qload_n (pc := 739) d_L_law_739 rfl rfl ?_
      refine s_iload_n (pc := 740) d_L_law_740 rfl rfl ?_
      refine s_iconst (pc := 741) (v := 1) d_L_law_741 (by decide) ?_
      refine s_iadd (pc := 742) d_L_law_742 ?_
      refine s_sld (pc := 743) d_L_law_743 (by rw [hL]; exact ixn_eq g304) ?_
      rw [hxs]
      obtain ⟨w314, ew314, h⟩ := bd_1 h
      refine s_topI ew314 ?_
      refine s_qload_n (pc := 744) d_L_law_744 rfl rfl ?_
      refine s_iload_n (pc := 745) d_L_law_745 rfl rfl ?_
      refine s_iconst (pc := 746) (v := 2) d_L_law_746 (by decide) ?_
      refine s_iadd (pc := 747) d_L_law_747 ?_
      refine s_sld (pc := 748) d_L_law_748 (by rw [hL]; exact ixn_eq g306) ?_
      rw [hxs]
      obtain ⟨w315, ew315, h⟩ := bd_1 h
      refine s_topI ew315 ?_
      refine s_qload_n (pc := 749) d_L_law_749 rfl rfl ?_
      refine s_iload_n (pc := 750) d_L_law_750 rfl rfl ?_
      refine s_iconst (pc := 751) (v := 3) d_L_law_751 (by decide) ?_
      refine s_iadd (pc := 752) d_L_law_752 ?_
      refine s_sld (pc := 753) d_L_law_753 (by rw [hL]; exact ixn_eq g308) ?_
      rw [hxs]
      obtain ⟨w316, ew316, h⟩ := bd_1 h
      refine s_topI ew316 ?_
      obtain ⟨g317, h⟩ := gd_1 h
      obtain ⟨r318, μ319, er318, h⟩ := ca2_1 h
      refine s_callV (pc := 754) (as := [vi w314, vi w315, vi w316]) (st := [vi r311]) (vo := [vi r318]) (t_X7_forgery er318) cl_7 g317 d_L_law_754 y_X7_forgery w_926 w_927 w_928 ⟨by decide, by decide⟩ (roomB_eq g313) (Nat.le_of_ble_eq_true rfl) rfl rfl rfl ?_
      refine s_as (kc' := kc) (js' := js) (pc' := 757) (st' := [vi r318, vi r311]) ⟨rfl, rfl, rfl, rfl⟩ ?_
      refine s_icmp_eq (pc := 757) (tgt := 1069) d_L_law_757 (by decide) (fun c320 => ?_) (fun c320 => ?_)
      · have h := it_t c320 h
        exact t_L_law_b1069 hL hxs hk18 h
      · have h := it_f c320 h
        refine s_iconst (pc := 760) (v := 0) d_L_law_760 (by decide) ?_
        obtain ⟨gz1, h⟩ := gd_1 h
        obtain ⟨gz2, h⟩ := gd_1 h
        exact absurd (Option.some.inj h) (by decide)
    have h := it_f c303 h
    by_cases c321 : w32 = 23
    · have h := it_t c321 h
      refine s_tab (pc := 32) (tgt := 762) 23 c321 d_L_law_32 (by decide) (by decide) rfl (by decide) ?_
      refine s_aload_n (pc := 762) d_L_law_762 rfl rfl ?_
      refine s_qload_n (pc := 763) d_L_law_763 rfl rfl ?_
      refine s_iload_n (pc := 764) d_L_law_764 rfl rfl ?_
      refine s_iconst (pc := 765) (v := 1) d_L_law_765 (by decide) ?_
      refine s_iadd (pc := 766) d_L_law_766 ?_
      obtain ⟨g322, h⟩ := gd_1 h
      refine s_sld (pc := 767) d_L_law_767 (by rw [hL]; exact ixn_eq g322) ?_
      rw [hxs]
      obtain ⟨w323, ew323, h⟩ := bd_1 h
      refine s_topI ew323 ?_
      refine s_qload_n (pc := 768) d_L_law_768 rfl rfl ?_
      refine s_iload_n (pc := 769) d_L_law_769 rfl rfl ?_
      refine s_iconst (pc := 770) (v := 2) d_L_law_770 (by decide) ?_
      refine s_iadd (pc := 771) d_L_law_771 ?_
      obtain ⟨g324, h⟩ := gd_1 h
      refine s_sld (pc := 772) d_L_law_772 (by rw [hL]; exact ixn_eq g324) ?_
      rw [hxs]
      obtain ⟨w325, ew325, h⟩ := bd_1 h
      refine s_topI ew325 ?_
      obtain ⟨g326, h⟩ := gd_1 h
      obtain ⟨r327, μ328, er327, h⟩ := ca2_1 h
      obtain ⟨g329, h⟩ := gd_1 h
      refine s_callV (pc := 773) (as := [vi w323, vi w325]) (st := []) (vo := [vi r327]) (t_X6_toSit er327) cl_6 g326 d_L_law_773 y_X6_toSit w_584 w_585 w_586 ⟨by decide, by decide⟩ (roomB_eq g329) (Nat.le_of_ble_eq_true rfl) rfl rfl rfl ?_
      refine s_as (kc' := kc) (js' := js) (pc' := 776) (st' := [vi r327]) ⟨rfl, rfl, rfl, rfl⟩ ?_
      refine s_aload_n (pc := 776) d_L_law_776 rfl rfl ?_
      refine s_qload_n (pc := 777) d_L_law_777 rfl rfl ?_
      refine s_iload_n (pc := 778) d_L_law_778 rfl rfl ?_
      refine s_iconst (pc := 779) (v := 1) d_L_law_779 (by decide) ?_
      refine s_iadd (pc := 780) d_L_law_780 ?_
      refine s_sld (pc := 781) d_L_law_781 (by rw [hL]; exact ixn_eq g322) ?_
      rw [hxs]
      obtain ⟨w330, ew330, h⟩ := bd_1 h
      refine s_topI ew330 ?_
      refine s_qload_n (pc := 782) d_L_law_782 rfl rfl ?_
      refine s_iload_n (pc := 783) d_L_law_783 rfl rfl ?_
      refine s_iconst (pc := 784) (v := 2) d_L_law_784 (by decide) ?_
      refine s_iadd (pc := 785) d_L_law_785 ?_
      refine s_sld (pc := 786) d_L_law_786 (by rw [hL]; exact ixn_eq g324) ?_
      rw [hxs]
      obtain ⟨w331, ew331, h⟩ := bd_1 h
      refine s_topI ew331 ?_
      obtain ⟨g332, h⟩ := gd_1 h
      obtain ⟨r333, μ334, er333, h⟩ := ca2_1 h
      refine s_callV (pc := 787) (as := [vi w330, vi w331]) (st := [vi r327]) (vo := [vi r333]) (t_X7_toSit er333) cl_7 g332 d_L_law_787 y_X7_toSit w_939 w_940 w_941 ⟨by decide, by decide⟩ (roomB_eq g329) (Nat.le_of_ble_eq_true rfl) rfl rfl rfl ?_
      refine s_as (kc' := kc) (js' := js) (pc' := 790) (st' := [vi r333, vi r327]) ⟨rfl, rfl, rfl, rfl⟩ ?_
      refine s_icmp_eq (pc := 790) (tgt := 1069) d_L_law_790 (by decide) (fun c335 => ?_) (fun c335 => ?_)
      · have h := it_t c335 h
        exact t_L_law_b1069 hL hxs hk18 h
      · have h := it_f c335 h
        refine s_iconst (pc := 793) (v := 0) d_L_law_793 (by decide) ?_
        obtain ⟨gz1, h⟩ := gd_1 h
        obtain ⟨gz2, h⟩ := gd_1 h
        exact absurd (Option.some.inj h) (by decide)
    have h := it_f c321 h
    by_cases c336 : w32 = 24
    · have h := it_t c336 h
      refine s_tab (pc := 32) (tgt := 795) 24 c336 d_L_law_32 (by decide) (by decide) rfl (by decide) ?_
      refine s_aload_n (pc := 795) d_L_law_795 rfl rfl ?_
      refine s_qload_n (pc := 796) d_L_law_796 rfl rfl ?_
      refine s_iload_n (pc := 797) d_L_law_797 rfl rfl ?_
      refine s_iconst (pc := 798) (v := 1) d_L_law_798 (by decide) ?_
      refine s_iadd (pc := 799) d_L_law_799 ?_
      obtain ⟨g337, h⟩ := gd_1 h
      refine s_sld (pc := 800) d_L_law_800 (by rw [hL]; exact ixn_eq g337) ?_
      rw [hxs]
      obtain ⟨w338, ew338, h⟩ := bd_1 h
      refine s_topI ew338 ?_
      refine s_qload_n (pc := 801) d_L_law_801 rfl rfl ?_
      refine s_iload_n (pc := 802) d_L_law_802 rfl rfl ?_
      refine s_iconst (pc := 803) (v := 2) d_L_law_803 (by decide) ?_
      refine s_iadd (pc := 804) d_L_law_804 ?_
      obtain ⟨g339, h⟩ := gd_1 h
      refine s_sld (pc := 805) d_L_law_805 (by rw [hL]; exact ixn_eq g339) ?_
      rw [hxs]
      obtain ⟨w340, ew340, h⟩ := bd_1 h
      refine s_topI ew340 ?_
      obtain ⟨g341, h⟩ := gd_1 h
      obtain ⟨r342, μ343, er342, h⟩ := ca2_1 h
      obtain ⟨g344, h⟩ := gd_1 h
      refine s_callV (pc := 806) (as := [vi w338, vi w340]) (st := []) (vo := [vi r342]) (t_X6_between er342) cl_6 g341 d_L_law_806 y_X6_between w_592 w_593 w_594 ⟨by decide, by decide⟩ (roomB_eq g344) (Nat.le_of_ble_eq_true rfl) rfl rfl rfl ?_
      refine s_as (kc' := kc) (js' := js) (pc' := 809) (st' := [vi r342]) ⟨rfl, rfl, rfl, rfl⟩ ?_
      refine s_aload_n (pc := 809) d_L_law_809 rfl rfl ?_
      refine s_qload_n (pc := 810) d_L_law_810 rfl rfl ?_
      refine s_iload_n (pc := 811) d_L_law_811 rfl rfl ?_
      refine s_iconst (pc := 812) (v := 1) d_L_law_812 (by decide) ?_
      refine s_iadd (pc := 813) d_L_law_813 ?_
      refine s_sld (pc := 814) d_L_law_814 (by rw [hL]; exact ixn_eq g337) ?_
      rw [hxs]
      obtain ⟨w345, ew345, h⟩ := bd_1 h
      refine s_topI ew345 ?_
      refine s_qload_n (pc := 815) d_L_law_815 rfl rfl ?_
      refine s_iload_n (pc := 816) d_L_law_816 rfl rfl ?_
      refine s_iconst (pc := 817) (v := 2) d_L_law_817 (by decide) ?_
      refine s_iadd (pc := 818) d_L_law_818 ?_
      refine s_sld (pc := 819) d_L_law_819 (by rw [hL]; exact ixn_eq g339) ?_
      rw [hxs]
      obtain ⟨w346, ew346, h⟩ := bd_1 h
      refine s_topI ew346 ?_
      obtain ⟨g347, h⟩ := gd_1 h
      obtain ⟨r348, μ349, er348, h⟩ := ca2_1 h
      refine s_callV (pc := 820) (as := [vi w345, vi w346]) (st := [vi r342]) (vo := [vi r348]) (t_X7_between er348) cl_7 g347 d_L_law_820 y_X7_between w_943 w_944 w_945 ⟨by decide, by decide⟩ (roomB_eq g344) (Nat.le_of_ble_eq_true rfl) rfl rfl rfl ?_
      refine s_as (kc' := kc) (js' := js) (pc' := 823) (st' := [vi r348, vi r342]) ⟨rfl, rfl, rfl, rfl⟩ ?_
      refine s_icmp_eq (pc := 823) (tgt := 1069) d_L_law_823 (by decide) (fun c350 => ?_) (fun c350 => ?_)
      · have h := it_t c350 h
        exact t_L_law_b1069 hL hxs hk18 h
      · have h := it_f c350 h
        refine s_iconst (pc := 826) (v := 0) d_L_law_826 (by decide) ?_
        obtain ⟨gz1, h⟩ := gd_1 h
        obtain ⟨gz2, h⟩ := gd_1 h
        exact absurd (Option.some.inj h) (by decide)
    have h := it_f c336 h
    by_cases c351 : w32 = 25
    · have h := it_t c351 h
      refine s_tab (pc := 32) (tgt := 828) 25 c351 d_L_law_32 (by decide) (by decide) rfl (by decide) ?_
      refine s_aload_n (pc := 828) d_L_law_828 rfl rfl ?_
      refine s_qload_n (pc := 829) d_L_law_829 rfl rfl ?_
      refine s_iload_n (pc := 830) d_L_law_830 rfl rfl ?_
      refine s_iconst (pc := 831) (v := 1) d_L_law_831 (by decide) ?_
      refine s_iadd (pc := 832) d_L_law_832 ?_
      obtain ⟨g352, h⟩ := gd_1 h
      refine s_sld (pc := 833) d_L_law_833 (by rw [hL]; exact ixn_eq g352) ?_
      rw [hxs]
      obtain ⟨w353, ew353, h⟩ := bd_1 h
      refine s_topI ew353 ?_
      refine s_qload_n (pc := 834) d_L_law_834 rfl rfl ?_
      refine s_iload_n (pc := 835) d_L_law_835 rfl rfl ?_
      refine s_iconst (pc := 836) (v := 2) d_L_law_836 (by decide) ?_
      refine s_iadd (pc := 837) d_L_law_837 ?_
      obtain ⟨g354, h⟩ := gd_1 h
      refine s_sld (pc := 838) d_L_law_838 (by rw [hL]; exact ixn_eq g354) ?_
      rw [hxs]
      obtain ⟨w355, ew355, h⟩ := bd_1 h
      refine s_topI ew355 ?_
      obtain ⟨g356, h⟩ := gd_1 h
      obtain ⟨r357, μ358, er357, h⟩ := ca2_1 h
      obtain ⟨g359, h⟩ := gd_1 h
      refine s_callV (pc := 839) (as := [vi w353, vi w355]) (st := []) (vo := [vi r357]) (t_X6_most er357) cl_6 g356 d_L_law_839 y_X6_most w_601 w_602 w_603 ⟨by decide, by decide⟩ (roomB_eq g359) (Nat.le_of_ble_eq_true rfl) rfl rfl rfl ?_
      refine s_as (kc' := kc) (js' := js) (pc' := 842) (st' := [vi r357]) ⟨rfl, rfl, rfl, rfl⟩ ?_
      refine s_aload_n (pc := 842) d_L_law_842 rfl rfl ?_
      refine s_qload_n (pc := 843) d_L_law_843 rfl rfl ?_
      refine s_iload_n (pc := 844) d_L_law_844 rfl rfl ?_
      refine s_iconst (pc := 845) (v := 1) d_L_law_845 (by decide) ?_
      refine s_iadd (pc := 846) d_L_law_846 ?_
      refine s_sld (pc := 847) d_L_law_847 (by rw [hL]; exact ixn_eq g352) ?_
      rw [hxs]
      obtain ⟨w360, ew360, h⟩ := bd_1 h
      refine s_topI ew360 ?_
      refine s_qload_n (pc := 848) d_L_law_848 rfl rfl ?_
      refine s_iload_n (pc := 849) d_L_law_849 rfl rfl ?_
      refine s_iconst (pc := 850) (v := 2) d_L_law_850 (by decide) ?_
      refine s_iadd (pc := 851) d_L_law_851 ?_
      refine s_sld (pc := 852) d_L_law_852 (by rw [hL]; exact ixn_eq g354) ?_
      rw [hxs]
      obtain ⟨w361, ew361, h⟩ := bd_1 h
      refine s_topI ew361 ?_
      obtain ⟨g362, h⟩ := gd_1 h
      obtain ⟨r363, μ364, er363, h⟩ := ca2_1 h
      refine s_callV (pc := 853) (as := [vi w360, vi w361]) (st := [vi r357]) (vo := [vi r363]) (t_X7_most er363) cl_7 g362 d_L_law_853 y_X7_most w_947 w_948 w_949 ⟨by decide, by decide⟩ (roomB_eq g359) (Nat.le_of_ble_eq_true rfl) rfl rfl rfl ?_
      refine s_as (kc' := kc) (js' := js) (pc' := 856) (st' := [vi r363, vi r357]) ⟨rfl, rfl, rfl, rfl⟩ ?_
      refine s_icmp_eq (pc := 856) (tgt := 1069) d_L_law_856 (by decide) (fun c365 => ?_) (fun c365 => ?_)
      · have h := it_t c365 h
        exact t_L_law_b1069 hL hxs hk18 h
      · have h := it_f c365 h
        refine s_iconst (pc := 859) (v := 0) d_L_law_859 (by decide) ?_
        obtain ⟨gz1, h⟩ := gd_1 h
        obtain ⟨gz2, h⟩ := gd_1 h
        exact absurd (Option.some.inj h) (by decide)
    have h := it_f c351 h
    by_cases c366 : w32 = 26
    · have h := it_t c366 h
      refine s_tab (pc := 32) (tgt := 861) 26 c366 d_L_law_32 (by decide) (by decide) rfl (by decide) ?_
      refine s_aload_n (pc := 861) d_L_law_861 rfl rfl ?_
      refine s_qload_n (pc := 862) d_L_law_862 rfl rfl ?_
      refine s_iload_n (pc := 863) d_L_law_863 rfl rfl ?_
      refine s_iconst (pc := 864) (v := 1) d_L_law_864 (by decide) ?_
      refine s_iadd (pc := 865) d_L_law_865 ?_
      obtain ⟨g367, h⟩ := gd_1 h
      refine s_sld (pc := 866) d_L_law_866 (by rw [hL]; exact ixn_eq g367) ?_
      rw [hxs]
      obtain ⟨w368, ew368, h⟩ := bd_1 h
      refine s_topI ew368 ?_
      refine s_qload_n (pc := 867) d_L_law_867 rfl rfl ?_
      refine s_iload_n (pc := 868) d_L_law_868 rfl rfl ?_
      refine s_iconst (pc := 869) (v := 2) d_L_law_869 (by decide) ?_
      refine s_iadd (pc := 870) d_L_law_870 ?_
      obtain ⟨g369, h⟩ := gd_1 h
      refine s_sld (pc := 871) d_L_law_871 (by rw [hL]; exact ixn_eq g369) ?_
      rw [hxs]
      obtain ⟨w370, ew370, h⟩ := bd_1 h
      refine s_topI ew370 ?_
      obtain ⟨g371, h⟩ := gd_1 h
      obtain ⟨r372, μ373, er372, h⟩ := ca2_1 h
      obtain ⟨g374, h⟩ := gd_1 h
      refine s_callV (pc := 872) (as := [vi w368, vi w370]) (st := []) (vo := [vi r372]) (t_X6_eyes er372) cl_6 g371 d_L_law_872 y_X6_eyes w_609 w_610 w_611 ⟨by decide, by decide⟩ (roomB_eq g374) (Nat.le_of_ble_eq_true rfl) rfl rfl rfl ?_
      refine s_as (kc' := kc) (js' := js) (pc' := 875) (st' := [vi r372]) ⟨rfl, rfl, rfl, rfl⟩ ?_
      refine s_aload_n (pc := 875) d_L_law_875 rfl rfl ?_
      refine s_qload_n (pc := 876) d_L_law_876 rfl rfl ?_
      refine s_iload_n (pc := 877) d_L_law_877 rfl rfl ?_
      refine s_iconst (pc := 878) (v := 1) d_L_law_878 (by decide) ?_
      refine s_iadd (pc := 879) d_L_law_879 ?_
      refine s_sld (pc := 880) d_L_law_880 (by rw [hL]; exact ixn_eq g367) ?_
      rw [hxs]
      obtain ⟨w375, ew375, h⟩ := bd_1 h
      refine s_topI ew375 ?_
      refine s_qload_n (pc := 881) d_L_law_881 rfl rfl ?_
      refine s_iload_n (pc := 882) d_L_law_882 rfl rfl ?_
      refine s_iconst (pc := 883) (v := 2) d_L_law_883 (by decide) ?_
      refine s_iadd (pc := 884) d_L_law_884 ?_
      refine s_sld (pc := 885) d_L_law_885 (by rw [hL]; exact ixn_eq g369) ?_
      rw [hxs]
      obtain ⟨w376, ew376, h⟩ := bd_1 h
      refine s_topI ew376 ?_
      obtain ⟨g377, h⟩ := gd_1 h
      obtain ⟨r378, μ379, er378, h⟩ := ca2_1 h
      refine s_callV (pc := 886) (as := [vi w375, vi w376]) (st := [vi r372]) (vo := [vi r378]) (t_X7_eyes er378) cl_7 g377 d_L_law_886 y_X7_eyes w_951 w_952 w_953 ⟨by decide, by decide⟩ (roomB_eq g374) (Nat.le_of_ble_eq_true rfl) rfl rfl rfl ?_
      refine s_as (kc' := kc) (js' := js) (pc' := 889) (st' := [vi r378, vi r372]) ⟨rfl, rfl, rfl, rfl⟩ ?_
      refine s_icmp_eq (pc := 889) (tgt := 1069) d_L_law_889 (by decide) (fun c380 => ?_) (fun c380 => ?_)
      · have h := it_t c380 h
        exact t_L_law_b1069 hL hxs hk18 h
      · have h := it_f c380 h
        refine s_iconst (pc := 892) (v := 0) d_L_law_892 (by decide) ?_
        obtain ⟨gz1, h⟩ := gd_1 h
        obtain ⟨gz2, h⟩ := gd_1 h
        exact absurd (Option.some.inj h) (by decide)
    have h := it_f c366 h
    by_cases c381 : w32 = 27
    · have h := it_t c381 h
      refine s_tab (pc := 32) (tgt := 894) 27 c381 d_L_law_32 (by decide) (by decide) rfl (by decide) ?_
      refine s_aload_n (pc := 894) d_L_law_894 rfl rfl ?_
      refine s_qload_n (pc := 895) d_L_law_895 rfl rfl ?_
      refine s_iload_n (pc := 896) d_L_law_896 rfl rfl ?_
      refine s_iconst (pc := 897) (v := 1) d_L_law_897 (by decide) ?_
      refine s_iadd (pc := 898) d_L_law_898 ?_
      obtain ⟨g382, h⟩ := gd_1 h
      refine s_sld (pc := 899) d_L_law_899 (by rw [hL]; exact ixn_eq g382) ?_
      rw [hxs]
      obtain ⟨w383, ew383, h⟩ := bd_1 h
      refine s_topI ew383 ?_
      refine s_qload_n (pc := 900) d_L_law_900 rfl rfl ?_
      refine s_iload_n (pc := 901) d_L_law_901 rfl rfl ?_
      refine s_iconst (pc := 902) (v := 2) d_L_law_902 (by decide) ?_
      refine s_iadd (pc := 903) d_L_law_903 ?_
      obtain ⟨g384, h⟩ := gd_1 h
      refine s_sld (pc := 904) d_L_law_904 (by rw [hL]; exact ixn_eq g384) ?_
      rw [hxs]
      obtain ⟨w385, ew385, h⟩ := bd_1 h
      refine s_topI ew385 ?_
      refine s_qload_n (pc := 905) d_L_law_905 rfl rfl ?_
      refine s_iload_n (pc := 906) d_L_law_906 rfl rfl ?_
      refine s_iconst (pc := 907) (v := 3) d_L_law_907 (by decide) ?_
      refine s_iadd (pc := 908) d_L_law_908 ?_
      obtain ⟨g386, h⟩ := gd_1 h
      refine s_sld (pc := 909) d_L_law_909 (by rw [hL]; exact ixn_eq g386) ?_
      rw [hxs]
      obtain ⟨w387, ew387, h⟩ := bd_1 h
      refine s_topI ew387 ?_
      refine s_qload_n (pc := 910) d_L_law_910 rfl rfl ?_
      refine s_iload_n (pc := 911) d_L_law_911 rfl rfl ?_
      refine s_iconst (pc := 912) (v := 4) d_L_law_912 (by decide) ?_
      refine s_iadd (pc := 913) d_L_law_913 ?_
      obtain ⟨g388, h⟩ := gd_1 h
      refine s_sld (pc := 914) d_L_law_914 (by rw [hL]; exact ixn_eq g388) ?_
      rw [hxs]
      obtain ⟨w389, ew389, h⟩ := bd_1 h
      refine s_topI ew389 ?_
      refine s_if_eq (pc := 915) (tgt := 922) d_L_law_915 (by decide) (fun c390 => ?_) (fun c390 => ?_)
      · have h := it_t c390 h
        refine s_iconst (pc := 922) (v := 0) d_L_law_922 (by decide) ?_
        exact t_L_law_b923 hL hxs hk18 h
      · have h := it_f c390 h
        refine s_iconst (pc := 918) (v := 1) d_L_law_918 (by decide) ?_
        refine s_goto (pc := 919) (tgt := 923) d_L_law_919 (by decide) ?_
        exact t_L_law_b923 hL hxs hk18 h
    have h := it_f c381 h
    by_cases c391 : w32 = 28
    · have h := it_t c391 h
      refine s_tab (pc := 32) (tgt := 964) 28 c391 d_L_law_32 (by decide) (by decide) rfl (by decide) ?_
      refine s_aload_n (pc := 964) d_L_law_964 rfl rfl ?_
      refine s_qload_n (pc := 965) d_L_law_965 rfl rfl ?_
      refine s_iload_n (pc := 966) d_L_law_966 rfl rfl ?_
      refine s_iconst (pc := 967) (v := 1) d_L_law_967 (by decide) ?_
      refine s_iadd (pc := 968) d_L_law_968 ?_
      obtain ⟨g392, h⟩ := gd_1 h
      refine s_sld (pc := 969) d_L_law_969 (by rw [hL]; exact ixn_eq g392) ?_
      rw [hxs]
      obtain ⟨w393, ew393, h⟩ := bd_1 h
      refine s_topI ew393 ?_
      refine s_qload_n (pc := 970) d_L_law_970 rfl rfl ?_
      refine s_iload_n (pc := 971) d_L_law_971 rfl rfl ?_
      refine s_iconst (pc := 972) (v := 2) d_L_law_972 (by decide) ?_
      refine s_iadd (pc := 973) d_L_law_973 ?_
      obtain ⟨g394, h⟩ := gd_1 h
      refine s_sld (pc := 974) d_L_law_974 (by rw [hL]; exact ixn_eq g394) ?_
      rw [hxs]
      obtain ⟨w395, ew395, h⟩ := bd_1 h
      refine s_topI ew395 ?_
      refine s_qload_n (pc := 975) d_L_law_975 rfl rfl ?_
      refine s_iload_n (pc := 976) d_L_law_976 rfl rfl ?_
      refine s_iconst (pc := 977) (v := 3) d_L_law_977 (by decide) ?_
      refine s_iadd (pc := 978) d_L_law_978 ?_
      obtain ⟨g396, h⟩ := gd_1 h
      refine s_sld (pc := 979) d_L_law_979 (by rw [hL]; exact ixn_eq g396) ?_
      rw [hxs]
      obtain ⟨w397, ew397, h⟩ := bd_1 h
      refine s_topI ew397 ?_
      refine s_if_eq (pc := 980) (tgt := 987) d_L_law_980 (by decide) (fun c398 => ?_) (fun c398 => ?_)
      · have h := it_t c398 h
        refine s_iconst (pc := 987) (v := 0) d_L_law_987 (by decide) ?_
        exact t_L_law_b988 hL hxs hk18 h
      · have h := it_f c398 h
        refine s_iconst (pc := 983) (v := 1) d_L_law_983 (by decide) ?_
        refine s_goto (pc := 984) (tgt := 988) d_L_law_984 (by decide) ?_
        exact t_L_law_b988 hL hxs hk18 h
    have h := it_f c391 h
    by_cases c399 : w32 = 29
    · have h := it_t c399 h
      refine s_tab (pc := 32) (tgt := 1023) 29 c399 d_L_law_32 (by decide) (by decide) rfl (by decide) ?_
      refine s_aload_n (pc := 1023) d_L_law_1023 rfl rfl ?_
      refine s_qload_n (pc := 1024) d_L_law_1024 rfl rfl ?_
      refine s_iload_n (pc := 1025) d_L_law_1025 rfl rfl ?_
      refine s_iconst (pc := 1026) (v := 1) d_L_law_1026 (by decide) ?_
      refine s_iadd (pc := 1027) d_L_law_1027 ?_
      obtain ⟨g400, h⟩ := gd_1 h
      refine s_sld (pc := 1028) d_L_law_1028 (by rw [hL]; exact ixn_eq g400) ?_
      rw [hxs]
      obtain ⟨w401, ew401, h⟩ := bd_1 h
      refine s_topI ew401 ?_
      obtain ⟨g402, h⟩ := gd_1 h
      obtain ⟨r403, μ404, er403, h⟩ := ca2_1 h
      obtain ⟨g405, h⟩ := gd_1 h
      refine s_callV (pc := 1029) (as := [vi w401]) (st := []) (vo := [vi r403]) (t_X6_keep er403) cl_6 g402 d_L_law_1029 y_X6_keep w_641 w_642 w_643 ⟨by decide, by decide⟩ (roomB_eq g405) (Nat.le_of_ble_eq_true rfl) rfl rfl rfl ?_
      refine s_as (kc' := kc) (js' := js) (pc' := 1032) (st' := [vi r403]) ⟨rfl, rfl, rfl, rfl⟩ ?_
      refine s_aload_n (pc := 1032) d_L_law_1032 rfl rfl ?_
      refine s_qload_n (pc := 1033) d_L_law_1033 rfl rfl ?_
      refine s_iload_n (pc := 1034) d_L_law_1034 rfl rfl ?_
      refine s_iconst (pc := 1035) (v := 1) d_L_law_1035 (by decide) ?_
      refine s_iadd (pc := 1036) d_L_law_1036 ?_
      refine s_sld (pc := 1037) d_L_law_1037 (by rw [hL]; exact ixn_eq g400) ?_
      rw [hxs]
      obtain ⟨w406, ew406, h⟩ := bd_1 h
      refine s_topI ew406 ?_
      obtain ⟨g407, h⟩ := gd_1 h
      obtain ⟨r408, μ409, er408, h⟩ := ca2_1 h
      refine s_callV (pc := 1038) (as := [vi w406]) (st := [vi r403]) (vo := [vi r408]) (t_X7_keep er408) cl_7 g407 d_L_law_1038 y_X7_keep w_974 w_975 w_976 ⟨by decide, by decide⟩ (roomB_eq g405) (Nat.le_of_ble_eq_true rfl) rfl rfl rfl ?_
      refine s_as (kc' := kc) (js' := js) (pc' := 1041) (st' := [vi r408, vi r403]) ⟨rfl, rfl, rfl, rfl⟩ ?_
      refine s_icmp_eq (pc := 1041) (tgt := 1069) d_L_law_1041 (by decide) (fun c410 => ?_) (fun c410 => ?_)
      · have h := it_t c410 h
        exact t_L_law_b1069 hL hxs hk18 h
      · have h := it_f c410 h
        refine s_iconst (pc := 1044) (v := 0) d_L_law_1044 (by decide) ?_
        obtain ⟨gz1, h⟩ := gd_1 h
        obtain ⟨gz2, h⟩ := gd_1 h
        exact absurd (Option.some.inj h) (by decide)
    have h := it_f c399 h
    by_cases c411 : w32 = 30
    · have h := it_t c411 h
      refine s_tab (pc := 32) (tgt := 1046) 30 c411 d_L_law_32 (by decide) (by decide) rfl (by decide) ?_
      refine s_aload_n (pc := 1046) d_L_law_1046 rfl rfl ?_
      refine s_qload_n (pc := 1047) d_L_law_1047 rfl rfl ?_
      refine s_iload_n (pc := 1048) d_L_law_1048 rfl rfl ?_
      refine s_iconst (pc := 1049) (v := 1) d_L_law_1049 (by decide) ?_
      refine s_iadd (pc := 1050) d_L_law_1050 ?_
      obtain ⟨g412, h⟩ := gd_1 h
      refine s_sld (pc := 1051) d_L_law_1051 (by rw [hL]; exact ixn_eq g412) ?_
      rw [hxs]
      obtain ⟨w413, ew413, h⟩ := bd_1 h
      refine s_topI ew413 ?_
      obtain ⟨g414, h⟩ := gd_1 h
      obtain ⟨r415, μ416, er415, h⟩ := ca2_1 h
      obtain ⟨g417, h⟩ := gd_1 h
      refine s_callV (pc := 1052) (as := [vi w413]) (st := []) (vo := [vi r415]) (t_X6_again er415) cl_6 g414 d_L_law_1052 y_X6_again w_646 w_647 w_648 ⟨by decide, by decide⟩ (roomB_eq g417) (Nat.le_of_ble_eq_true rfl) rfl rfl rfl ?_
      refine s_as (kc' := kc) (js' := js) (pc' := 1055) (st' := [vi r415]) ⟨rfl, rfl, rfl, rfl⟩ ?_
      refine s_aload_n (pc := 1055) d_L_law_1055 rfl rfl ?_
      refine s_qload_n (pc := 1056) d_L_law_1056 rfl rfl ?_
      refine s_iload_n (pc := 1057) d_L_law_1057 rfl rfl ?_
      refine s_iconst (pc := 1058) (v := 1) d_L_law_1058 (by decide) ?_
      refine s_iadd (pc := 1059) d_L_law_1059 ?_
      refine s_sld (pc := 1060) d_L_law_1060 (by rw [hL]; exact ixn_eq g412) ?_
      rw [hxs]
      obtain ⟨w418, ew418, h⟩ := bd_1 h
      refine s_topI ew418 ?_
      obtain ⟨g419, h⟩ := gd_1 h
      obtain ⟨r420, μ421, er420, h⟩ := ca2_1 h
      refine s_callV (pc := 1061) (as := [vi w418]) (st := [vi r415]) (vo := [vi r420]) (t_X7_again er420) cl_7 g419 d_L_law_1061 y_X7_again w_978 w_979 w_980 ⟨by decide, by decide⟩ (roomB_eq g417) (Nat.le_of_ble_eq_true rfl) rfl rfl rfl ?_
      refine s_as (kc' := kc) (js' := js) (pc' := 1064) (st' := [vi r420, vi r415]) ⟨rfl, rfl, rfl, rfl⟩ ?_
      refine s_icmp_eq (pc := 1064) (tgt := 1069) d_L_law_1064 (by decide) (fun c422 => ?_) (fun c422 => ?_)
      · have h := it_t c422 h
        exact t_L_law_b1069 hL hxs hk18 h
      · have h := it_f c422 h
        refine s_iconst (pc := 1067) (v := 0) d_L_law_1067 (by decide) ?_
        obtain ⟨gz1, h⟩ := gd_1 h
        obtain ⟨gz2, h⟩ := gd_1 h
        exact absurd (Option.some.inj h) (by decide)
    have h := it_f c411 h
    have qc33 := lv_neT (a := 0) c33 (by decide)
    have qc45 := lv_neT (a := 1) c45 (by decide)
    have qc54 := lv_neT (a := 2) c54 (by decide)
    have qc63 := lv_neT (a := 3) c63 (by decide)
    have qc72 := lv_neT (a := 4) c72 (by decide)
    have qc84 := lv_neT (a := 5) c84 (by decide)
    have qc99 := lv_neT (a := 6) c99 (by decide)
    have qc114 := lv_neT (a := 7) c114 (by decide)
    have qc129 := lv_neT (a := 8) c129 (by decide)
    have qc147 := lv_neT (a := 9) c147 (by decide)
    have qc162 := lv_neT (a := 10) c162 (by decide)
    have qc177 := lv_neT (a := 11) c177 (by decide)
    have qc189 := lv_neT (a := 12) c189 (by decide)
    have qc201 := lv_neT (a := 13) c201 (by decide)
    have qc210 := lv_neT (a := 14) c210 (by decide)
    have qc219 := lv_neT (a := 15) c219 (by decide)
    have qc234 := lv_neT (a := 16) c234 (by decide)
    have qc243 := lv_neT (a := 17) c243 (by decide)
    have qc252 := lv_neT (a := 18) c252 (by decide)
    have qc270 := lv_neT (a := 19) c270 (by decide)
    have qc282 := lv_neT (a := 20) c282 (by decide)
    have qc291 := lv_neT (a := 21) c291 (by decide)
    have qc303 := lv_neT (a := 22) c303 (by decide)
    have qc321 := lv_neT (a := 23) c321 (by decide)
    have qc336 := lv_neT (a := 24) c336 (by decide)
    have qc351 := lv_neT (a := 25) c351 (by decide)
    have qc366 := lv_neT (a := 26) c366 (by decide)
    have qc381 := lv_neT (a := 27) c381 (by decide)
    have qc391 := lv_neT (a := 28) c391 (by decide)
    have qc399 := lv_neT (a := 29) c399 (by decide)
    have qc411 := lv_neT (a := 30) c411 (by decide)
    refine s_tabOut (pc := 32) (tgt := 1069) d_L_law_32 (by omega) (by decide) ?_
    exact t_L_law_b1069 hL hxs hk18 h
set_option maxHeartbeats 8000000 in
set_option maxRecDepth 20000 in
theorem t_L_law_h18 {l : Launch} {G : Gl} {L : Nat} {xs : Nat → Int32} (hL : gL G = L) (hxs : gX G = xs) {v1 : Nat} {v2 : Nat} : ∀ (f : Nat) (v3 : Int32) (n kc js : Nat) (sh : Sh) (μ : Mu), m_L_law_h18 L xs v1 v2 f v3 n kc js sh μ = some 1 → Sj l G (QL G) c_L_law n sh kc js μ 18 [some (vq (gB G)), some (vr v1), some (vr v2), some (vi v3)] [] := by
  intro f
  induction f with
  | zero =>
    intro v3 n kc js sh μ h
    cases h
  | succ f ih =>
    intro v3 n kc js sh μ h
    exact t_L_law_b18 hL hxs ih h
set_option maxHeartbeats 8000000 in
set_option maxRecDepth 20000 in
theorem t_L_law {l : Launch} {G : Gl} {L : Nat} {xs : Nat → Int32} (hL : gL G = L) (hxs : gX G = xs) {n : Nat} {sh : Sh} {μ : Mu} (h : m_L_law L xs n sh μ = some 1) : Sj l G (QL G) c_L_law n sh 0 0 μ 0 [some (vq (gB G)), none, none, none] [] := by
  unfold m_L_law at h
  obtain ⟨g1, h⟩ := gd_1 h
  refine s_new (pc := 0) cl_6 d_L_law_0 w_12 w_13 w_1 (roomB_eq g1) ?_
  obtain ⟨n2, en2, h⟩ := bd_1 h
  obtain ⟨kc3, ekc3, h⟩ := bd_1 h
  obtain ⟨js4, ejs4, h⟩ := bd_1 h
  obtain ⟨sh5, esh5, h⟩ := bd_1 h
  obtain ⟨μ6, eμ6, h⟩ := bd_1 h
  rw [← en2]
  refine s_nsm (n' := n2) (sh' := sh5) (μ' := μ6) ⟨rfl, esh5, eμ6⟩ ?_
  refine s_as (kc' := kc3) (js' := js4) (pc' := 3) (st' := [vr n2]) ⟨ekc3, ejs4, rfl, rfl⟩ ?_
  refine s_dup (pc := 3) d_L_law_3 rfl ?_
  obtain ⟨g7, h⟩ := gd_1 h
  obtain ⟨n8, sh9, μ10, ern8, h⟩ := ca3_1 h
  obtain ⟨g11, h⟩ := gd_1 h
  obtain ⟨g12, h⟩ := gd_1 h
  refine s_callI (pc := 4) (as := []) (st := [vr n2]) (t_X6_init ern8) (nn0_eq g7) d_L_law_4 y_X6_init w_14 w_15 rfl ⟨by decide, by decide⟩ (roomB_eq g11) (Nat.le_of_ble_eq_true rfl) rfl (eq1_eq g12) ?_
  obtain ⟨kc13, ekc13, h⟩ := bd_1 h
  obtain ⟨js14, ejs14, h⟩ := bd_1 h
  refine s_as (kc' := kc13) (js' := js14) (pc' := 7) (st' := [vr n2]) ⟨ekc13, ejs14, rfl, rfl⟩ ?_
  refine s_astore_n (pc := 7) (lc' := [some (vq (gB G)), some (vr n2), none, none]) d_L_law_7 rfl (by decide) rfl ?_
  obtain ⟨g15, h⟩ := gd_1 h
  refine s_new (pc := 8) cl_7 d_L_law_8 w_650 w_651 w_8 (roomB_eq g15) ?_
  obtain ⟨n16, en16, h⟩ := bd_1 h
  obtain ⟨kc17, ekc17, h⟩ := bd_1 h
  obtain ⟨js18, ejs18, h⟩ := bd_1 h
  obtain ⟨sh19, esh19, h⟩ := bd_1 h
  obtain ⟨μ20, eμ20, h⟩ := bd_1 h
  rw [← en16]
  refine s_nsm (n' := n16) (sh' := sh19) (μ' := μ20) ⟨rfl, esh19, eμ20⟩ ?_
  refine s_as (kc' := kc17) (js' := js18) (pc' := 11) (st' := [vr n16]) ⟨ekc17, ejs18, rfl, rfl⟩ ?_
  refine s_dup (pc := 11) d_L_law_11 rfl ?_
  obtain ⟨g21, h⟩ := gd_1 h
  obtain ⟨n22, sh23, μ24, ern22, h⟩ := ca3_1 h
  obtain ⟨g25, h⟩ := gd_1 h
  obtain ⟨g26, h⟩ := gd_1 h
  refine s_callI (pc := 12) (as := []) (st := [vr n16]) (t_X7_init ern22) (nn0_eq g21) d_L_law_12 y_X7_init w_652 w_653 rfl ⟨by decide, by decide⟩ (roomB_eq g25) (Nat.le_of_ble_eq_true rfl) rfl (eq1_eq g26) ?_
  obtain ⟨kc27, ekc27, h⟩ := bd_1 h
  obtain ⟨js28, ejs28, h⟩ := bd_1 h
  refine s_as (kc' := kc27) (js' := js28) (pc' := 15) (st' := [vr n16]) ⟨ekc27, ejs28, rfl, rfl⟩ ?_
  refine s_astore_n (pc := 15) (lc' := [some (vq (gB G)), some (vr n2), some (vr n16), none]) d_L_law_15 rfl (by decide) rfl ?_
  refine s_iconst (pc := 16) (v := 0) d_L_law_16 (by decide) ?_
  refine s_istore_n (pc := 17) (lc' := [some (vq (gB G)), some (vr n2), some (vr n16), some (vi 0)]) d_L_law_17 rfl (by decide) rfl ?_
  exact t_L_law_h18 hL hxs FU _ _ _ _ _ _ h
