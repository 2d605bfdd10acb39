theorem dL_law_0 : decode code 0 = .ok (.new 7, 3) := by decide +kernel
theorem dL_law_3 : decode code 3 = .ok (.dup, 1) := by decide +kernel
theorem dL_law_4 : decode code 4 = .ok (.invokespecial 9, 3) := by decide +kernel
theorem dL_law_7 : decode code 7 = .ok (.astore_n 1, 1) := by decide +kernel
theorem dL_law_8 : decode code 8 = .ok (.new 10, 3) := by decide +kernel
theorem dL_law_11 : decode code 11 = .ok (.dup, 1) := by decide +kernel
theorem dL_law_12 : decode code 12 = .ok (.invokespecial 12, 3) := by decide +kernel
theorem dL_law_15 : decode code 15 = .ok (.astore_n 2, 1) := by decide +kernel
theorem dL_law_16 : decode code 16 = .ok (.iconst 0, 1) := by decide +kernel
theorem dL_law_17 : decode code 17 = .ok (.istore_n 3, 1) := by decide +kernel
theorem dL_law_18 : decode code 18 = .ok (.iload_n 3, 1) := by decide +kernel
theorem dL_law_19 : decode code 19 = .ok (.aload_n 0, 1) := by decide +kernel
theorem dL_law_20 : decode code 20 = .ok (.arraylength, 1) := by decide +kernel
theorem dL_law_21 : decode code 21 = .ok (.bipush 6, 2) := by decide +kernel
theorem dL_law_23 : decode code 23 = .ok (.isub, 1) := by decide +kernel
theorem dL_law_24 : decode code 24 = .ok (.if_icmp .gt 1231, 3) := by decide +kernel
theorem dL_law_27 : decode code 27 = .ok (.aload_n 0, 1) := by decide +kernel
theorem dL_law_28 : decode code 28 = .ok (.iload_n 3, 1) := by decide +kernel
theorem dL_law_29 : decode code 29 = .ok (.iaload, 1) := by decide +kernel
theorem dL_law_30 : decode code 30 = .ok (.bipush 63, 2) := by decide +kernel
theorem dL_law_32 : decode code 32 = .ok (.iand, 1) := by decide +kernel
theorem dL_law_33 : decode code 33 = .ok (.tableswitch 1216 0 36 #[163, 196, 219, 242, 265, 288, 321, 364, 377, 400, 443, 476, 509, 532, 555, 568, 581, 604, 617, 640, 653, 686, 709, 752, 765, 778, 811, 834, 878, 921, 964, 987, 1040, 1083, 1146, 1179, 1202], 163) := by decide +kernel
theorem dL_law_196 : decode code 196 = .ok (.aload_n 1, 1) := by decide +kernel
theorem dL_law_197 : decode code 197 = .ok (.aload_n 0, 1) := by decide +kernel
theorem dL_law_198 : decode code 198 = .ok (.iload_n 3, 1) := by decide +kernel
theorem dL_law_199 : decode code 199 = .ok (.iconst 1, 1) := by decide +kernel
theorem dL_law_200 : decode code 200 = .ok (.iadd, 1) := by decide +kernel
theorem dL_law_201 : decode code 201 = .ok (.iaload, 1) := by decide +kernel
theorem dL_law_202 : decode code 202 = .ok (.aload_n 0, 1) := by decide +kernel
theorem dL_law_203 : decode code 203 = .ok (.iload_n 3, 1) := by decide +kernel
theorem dL_law_204 : decode code 204 = .ok (.iconst 2, 1) := by decide +kernel
theorem dL_law_205 : decode code 205 = .ok (.iadd, 1) := by decide +kernel
theorem dL_law_206 : decode code 206 = .ok (.iaload, 1) := by decide +kernel
theorem dL_law_207 : decode code 207 = .ok (.invokevirtual 13, 3) := by decide +kernel
theorem dL_law_210 : decode code 210 = .ok (.aload_n 2, 1) := by decide +kernel
theorem dL_law_211 : decode code 211 = .ok (.aload_n 0, 1) := by decide +kernel
theorem dL_law_212 : decode code 212 = .ok (.iload_n 3, 1) := by decide +kernel
theorem dL_law_213 : decode code 213 = .ok (.iconst 1, 1) := by decide +kernel
theorem dL_law_214 : decode code 214 = .ok (.iadd, 1) := by decide +kernel
theorem dL_law_215 : decode code 215 = .ok (.iaload, 1) := by decide +kernel
theorem dL_law_216 : decode code 216 = .ok (.aload_n 0, 1) := by decide +kernel
theorem dL_law_217 : decode code 217 = .ok (.iload_n 3, 1) := by decide +kernel
theorem dL_law_218 : decode code 218 = .ok (.iconst 2, 1) := by decide +kernel
theorem dL_law_219 : decode code 219 = .ok (.iadd, 1) := by decide +kernel
theorem dL_law_220 : decode code 220 = .ok (.iaload, 1) := by decide +kernel
theorem dL_law_221 : decode code 221 = .ok (.invokevirtual 17, 3) := by decide +kernel
theorem dL_law_224 : decode code 224 = .ok (.if_icmp .eq 1025, 3) := by decide +kernel
theorem dL_law_229 : decode code 229 = .ok (.aload_n 1, 1) := by decide +kernel
theorem dL_law_230 : decode code 230 = .ok (.aload_n 0, 1) := by decide +kernel
theorem dL_law_231 : decode code 231 = .ok (.iload_n 3, 1) := by decide +kernel
theorem dL_law_232 : decode code 232 = .ok (.iconst 1, 1) := by decide +kernel
theorem dL_law_233 : decode code 233 = .ok (.iadd, 1) := by decide +kernel
theorem dL_law_234 : decode code 234 = .ok (.iaload, 1) := by decide +kernel
theorem dL_law_235 : decode code 235 = .ok (.invokevirtual 18, 3) := by decide +kernel
theorem dL_law_238 : decode code 238 = .ok (.aload_n 2, 1) := by decide +kernel
theorem dL_law_239 : decode code 239 = .ok (.aload_n 0, 1) := by decide +kernel
theorem dL_law_240 : decode code 240 = .ok (.iload_n 3, 1) := by decide +kernel
theorem dL_law_241 : decode code 241 = .ok (.iconst 1, 1) := by decide +kernel
theorem dL_law_242 : decode code 242 = .ok (.iadd, 1) := by decide +kernel
theorem dL_law_243 : decode code 243 = .ok (.iaload, 1) := by decide +kernel
theorem dL_law_244 : decode code 244 = .ok (.invokevirtual 22, 3) := by decide +kernel
theorem dL_law_247 : decode code 247 = .ok (.if_icmp .eq 1002, 3) := by decide +kernel
theorem dL_law_252 : decode code 252 = .ok (.aload_n 1, 1) := by decide +kernel
theorem dL_law_253 : decode code 253 = .ok (.aload_n 0, 1) := by decide +kernel
theorem dL_law_254 : decode code 254 = .ok (.iload_n 3, 1) := by decide +kernel
theorem dL_law_255 : decode code 255 = .ok (.iconst 1, 1) := by decide +kernel
theorem dL_law_256 : decode code 256 = .ok (.iadd, 1) := by decide +kernel
theorem dL_law_257 : decode code 257 = .ok (.iaload, 1) := by decide +kernel
theorem dL_law_258 : decode code 258 = .ok (.invokevirtual 23, 3) := by decide +kernel
theorem dL_law_261 : decode code 261 = .ok (.aload_n 2, 1) := by decide +kernel
theorem dL_law_262 : decode code 262 = .ok (.aload_n 0, 1) := by decide +kernel
theorem dL_law_263 : decode code 263 = .ok (.iload_n 3, 1) := by decide +kernel
theorem dL_law_264 : decode code 264 = .ok (.iconst 1, 1) := by decide +kernel
theorem dL_law_265 : decode code 265 = .ok (.iadd, 1) := by decide +kernel
theorem dL_law_266 : decode code 266 = .ok (.iaload, 1) := by decide +kernel
theorem dL_law_267 : decode code 267 = .ok (.invokevirtual 26, 3) := by decide +kernel
theorem dL_law_270 : decode code 270 = .ok (.if_icmp .eq 979, 3) := by decide +kernel
theorem dL_law_275 : decode code 275 = .ok (.aload_n 1, 1) := by decide +kernel
theorem dL_law_276 : decode code 276 = .ok (.aload_n 0, 1) := by decide +kernel
theorem dL_law_277 : decode code 277 = .ok (.iload_n 3, 1) := by decide +kernel
theorem dL_law_278 : decode code 278 = .ok (.iconst 1, 1) := by decide +kernel
theorem dL_law_279 : decode code 279 = .ok (.iadd, 1) := by decide +kernel
theorem dL_law_280 : decode code 280 = .ok (.iaload, 1) := by decide +kernel
theorem dL_law_281 : decode code 281 = .ok (.invokevirtual 27, 3) := by decide +kernel
theorem dL_law_284 : decode code 284 = .ok (.aload_n 2, 1) := by decide +kernel
theorem dL_law_285 : decode code 285 = .ok (.aload_n 0, 1) := by decide +kernel
theorem dL_law_286 : decode code 286 = .ok (.iload_n 3, 1) := by decide +kernel
theorem dL_law_287 : decode code 287 = .ok (.iconst 1, 1) := by decide +kernel
theorem dL_law_288 : decode code 288 = .ok (.iadd, 1) := by decide +kernel
theorem dL_law_289 : decode code 289 = .ok (.iaload, 1) := by decide +kernel
theorem dL_law_290 : decode code 290 = .ok (.invokevirtual 30, 3) := by decide +kernel
theorem dL_law_293 : decode code 293 = .ok (.if_icmp .eq 956, 3) := by decide +kernel
theorem dL_law_298 : decode code 298 = .ok (.aload_n 1, 1) := by decide +kernel
theorem dL_law_299 : decode code 299 = .ok (.aload_n 0, 1) := by decide +kernel
theorem dL_law_300 : decode code 300 = .ok (.iload_n 3, 1) := by decide +kernel
theorem dL_law_301 : decode code 301 = .ok (.iconst 1, 1) := by decide +kernel
theorem dL_law_302 : decode code 302 = .ok (.iadd, 1) := by decide +kernel
theorem dL_law_303 : decode code 303 = .ok (.iaload, 1) := by decide +kernel
theorem dL_law_304 : decode code 304 = .ok (.invokevirtual 31, 3) := by decide +kernel
theorem dL_law_307 : decode code 307 = .ok (.aload_n 2, 1) := by decide +kernel
theorem dL_law_308 : decode code 308 = .ok (.aload_n 0, 1) := by decide +kernel
theorem dL_law_309 : decode code 309 = .ok (.iload_n 3, 1) := by decide +kernel
theorem dL_law_310 : decode code 310 = .ok (.iconst 1, 1) := by decide +kernel
theorem dL_law_311 : decode code 311 = .ok (.iadd, 1) := by decide +kernel
theorem dL_law_312 : decode code 312 = .ok (.iaload, 1) := by decide +kernel
theorem dL_law_313 : decode code 313 = .ok (.invokevirtual 34, 3) := by decide +kernel
theorem dL_law_316 : decode code 316 = .ok (.if_icmp .eq 933, 3) := by decide +kernel
theorem dL_law_321 : decode code 321 = .ok (.aload_n 1, 1) := by decide +kernel
theorem dL_law_322 : decode code 322 = .ok (.aload_n 0, 1) := by decide +kernel
theorem dL_law_323 : decode code 323 = .ok (.iload_n 3, 1) := by decide +kernel
theorem dL_law_324 : decode code 324 = .ok (.iconst 1, 1) := by decide +kernel
theorem dL_law_325 : decode code 325 = .ok (.iadd, 1) := by decide +kernel
theorem dL_law_326 : decode code 326 = .ok (.iaload, 1) := by decide +kernel
theorem dL_law_327 : decode code 327 = .ok (.aload_n 0, 1) := by decide +kernel
theorem dL_law_328 : decode code 328 = .ok (.iload_n 3, 1) := by decide +kernel
theorem dL_law_329 : decode code 329 = .ok (.iconst 2, 1) := by decide +kernel
theorem dL_law_330 : decode code 330 = .ok (.iadd, 1) := by decide +kernel
theorem dL_law_331 : decode code 331 = .ok (.iaload, 1) := by decide +kernel
theorem dL_law_332 : decode code 332 = .ok (.invokevirtual 35, 3) := by decide +kernel
theorem dL_law_335 : decode code 335 = .ok (.aload_n 2, 1) := by decide +kernel
theorem dL_law_336 : decode code 336 = .ok (.aload_n 0, 1) := by decide +kernel
theorem dL_law_337 : decode code 337 = .ok (.iload_n 3, 1) := by decide +kernel
theorem dL_law_338 : decode code 338 = .ok (.iconst 1, 1) := by decide +kernel
theorem dL_law_339 : decode code 339 = .ok (.iadd, 1) := by decide +kernel
theorem dL_law_340 : decode code 340 = .ok (.iaload, 1) := by decide +kernel
theorem dL_law_341 : decode code 341 = .ok (.aload_n 0, 1) := by decide +kernel
theorem dL_law_342 : decode code 342 = .ok (.iload_n 3, 1) := by decide +kernel
theorem dL_law_343 : decode code 343 = .ok (.iconst 2, 1) := by decide +kernel
theorem dL_law_344 : decode code 344 = .ok (.iadd, 1) := by decide +kernel
theorem dL_law_345 : decode code 345 = .ok (.iaload, 1) := by decide +kernel
theorem dL_law_346 : decode code 346 = .ok (.invokevirtual 38, 3) := by decide +kernel
theorem dL_law_349 : decode code 349 = .ok (.if_icmp .eq 900, 3) := by decide +kernel
theorem dL_law_354 : decode code 354 = .ok (.aload_n 1, 1) := by decide +kernel
theorem dL_law_355 : decode code 355 = .ok (.aload_n 0, 1) := by decide +kernel
theorem dL_law_356 : decode code 356 = .ok (.iload_n 3, 1) := by decide +kernel
theorem dL_law_357 : decode code 357 = .ok (.iconst 1, 1) := by decide +kernel
theorem dL_law_358 : decode code 358 = .ok (.iadd, 1) := by decide +kernel
theorem dL_law_359 : decode code 359 = .ok (.iaload, 1) := by decide +kernel
theorem dL_law_360 : decode code 360 = .ok (.aload_n 0, 1) := by decide +kernel
theorem dL_law_361 : decode code 361 = .ok (.iload_n 3, 1) := by decide +kernel
theorem dL_law_362 : decode code 362 = .ok (.iconst 2, 1) := by decide +kernel
theorem dL_law_363 : decode code 363 = .ok (.iadd, 1) := by decide +kernel
theorem dL_law_364 : decode code 364 = .ok (.iaload, 1) := by decide +kernel
theorem dL_law_365 : decode code 365 = .ok (.aload_n 0, 1) := by decide +kernel
theorem dL_law_366 : decode code 366 = .ok (.iload_n 3, 1) := by decide +kernel
theorem dL_law_367 : decode code 367 = .ok (.iconst 3, 1) := by decide +kernel
theorem dL_law_368 : decode code 368 = .ok (.iadd, 1) := by decide +kernel
theorem dL_law_369 : decode code 369 = .ok (.iaload, 1) := by decide +kernel
theorem dL_law_370 : decode code 370 = .ok (.invokevirtual 39, 3) := by decide +kernel
theorem dL_law_373 : decode code 373 = .ok (.aload_n 2, 1) := by decide +kernel
theorem dL_law_374 : decode code 374 = .ok (.aload_n 0, 1) := by decide +kernel
theorem dL_law_375 : decode code 375 = .ok (.iload_n 3, 1) := by decide +kernel
theorem dL_law_376 : decode code 376 = .ok (.iconst 1, 1) := by decide +kernel
theorem dL_law_377 : decode code 377 = .ok (.iadd, 1) := by decide +kernel
theorem dL_law_378 : decode code 378 = .ok (.iaload, 1) := by decide +kernel
theorem dL_law_379 : decode code 379 = .ok (.aload_n 0, 1) := by decide +kernel
theorem dL_law_380 : decode code 380 = .ok (.iload_n 3, 1) := by decide +kernel
theorem dL_law_381 : decode code 381 = .ok (.iconst 2, 1) := by decide +kernel
theorem dL_law_382 : decode code 382 = .ok (.iadd, 1) := by decide +kernel
theorem dL_law_383 : decode code 383 = .ok (.iaload, 1) := by decide +kernel
theorem dL_law_384 : decode code 384 = .ok (.aload_n 0, 1) := by decide +kernel
theorem dL_law_385 : decode code 385 = .ok (.iload_n 3, 1) := by decide +kernel
theorem dL_law_386 : decode code 386 = .ok (.iconst 3, 1) := by decide +kernel
theorem dL_law_387 : decode code 387 = .ok (.iadd, 1) := by decide +kernel
theorem dL_law_388 : decode code 388 = .ok (.iaload, 1) := by decide +kernel
theorem dL_law_389 : decode code 389 = .ok (.invokevirtual 43, 3) := by decide +kernel
theorem dL_law_392 : decode code 392 = .ok (.if_icmp .eq 857, 3) := by decide +kernel
theorem dL_law_397 : decode code 397 = .ok (.aload_n 1, 1) := by decide +kernel
theorem dL_law_398 : decode code 398 = .ok (.invokevirtual 44, 3) := by decide +kernel
theorem dL_law_401 : decode code 401 = .ok (.aload_n 2, 1) := by decide +kernel
theorem dL_law_402 : decode code 402 = .ok (.invokevirtual 48, 3) := by decide +kernel
theorem dL_law_405 : decode code 405 = .ok (.if_icmp .eq 844, 3) := by decide +kernel
theorem dL_law_410 : decode code 410 = .ok (.aload_n 1, 1) := by decide +kernel
theorem dL_law_411 : decode code 411 = .ok (.aload_n 0, 1) := by decide +kernel
theorem dL_law_412 : decode code 412 = .ok (.iload_n 3, 1) := by decide +kernel
theorem dL_law_413 : decode code 413 = .ok (.iconst 1, 1) := by decide +kernel
theorem dL_law_414 : decode code 414 = .ok (.iadd, 1) := by decide +kernel
theorem dL_law_415 : decode code 415 = .ok (.iaload, 1) := by decide +kernel
theorem dL_law_416 : decode code 416 = .ok (.invokevirtual 49, 3) := by decide +kernel
theorem dL_law_419 : decode code 419 = .ok (.aload_n 2, 1) := by decide +kernel
theorem dL_law_420 : decode code 420 = .ok (.aload_n 0, 1) := by decide +kernel
theorem dL_law_421 : decode code 421 = .ok (.iload_n 3, 1) := by decide +kernel
theorem dL_law_422 : decode code 422 = .ok (.iconst 1, 1) := by decide +kernel
theorem dL_law_423 : decode code 423 = .ok (.iadd, 1) := by decide +kernel
theorem dL_law_424 : decode code 424 = .ok (.iaload, 1) := by decide +kernel
theorem dL_law_425 : decode code 425 = .ok (.invokevirtual 52, 3) := by decide +kernel
theorem dL_law_428 : decode code 428 = .ok (.if_icmp .eq 821, 3) := by decide +kernel
theorem dL_law_433 : decode code 433 = .ok (.aload_n 1, 1) := by decide +kernel
theorem dL_law_434 : decode code 434 = .ok (.aload_n 0, 1) := by decide +kernel
theorem dL_law_435 : decode code 435 = .ok (.iload_n 3, 1) := by decide +kernel
theorem dL_law_436 : decode code 436 = .ok (.iconst 1, 1) := by decide +kernel
theorem dL_law_437 : decode code 437 = .ok (.iadd, 1) := by decide +kernel
theorem dL_law_438 : decode code 438 = .ok (.iaload, 1) := by decide +kernel
theorem dL_law_439 : decode code 439 = .ok (.aload_n 0, 1) := by decide +kernel
theorem dL_law_440 : decode code 440 = .ok (.iload_n 3, 1) := by decide +kernel
theorem dL_law_441 : decode code 441 = .ok (.iconst 2, 1) := by decide +kernel
