theorem dL_law_0 : decode cL_law 0 = .ok (.new 7, 3) := by decide +kernel
theorem dL_law_3 : decode cL_law 3 = .ok (.dup, 1) := by decide +kernel
theorem dL_law_4 : decode cL_law 4 = .ok (.invokespecial 9, 3) := by decide +kernel
theorem dL_law_7 : decode cL_law 7 = .ok (.astore_n 1, 1) := by decide +kernel
theorem dL_law_8 : decode cL_law 8 = .ok (.new 10, 3) := by decide +kernel
theorem dL_law_11 : decode cL_law 11 = .ok (.dup, 1) := by decide +kernel
theorem dL_law_12 : decode cL_law 12 = .ok (.invokespecial 12, 3) := by decide +kernel
theorem dL_law_15 : decode cL_law 15 = .ok (.astore_n 2, 1) := by decide +kernel
theorem dL_law_16 : decode cL_law 16 = .ok (.iconst 0, 1) := by decide +kernel
theorem dL_law_17 : decode cL_law 17 = .ok (.istore_n 3, 1) := by decide +kernel
theorem dL_law_18 : decode cL_law 18 = .ok (.iload_n 3, 1) := by decide +kernel
theorem dL_law_19 : decode cL_law 19 = .ok (.aload_n 0, 1) := by decide +kernel
theorem dL_law_20 : decode cL_law 20 = .ok (.arraylength, 1) := by decide +kernel
theorem dL_law_21 : decode cL_law 21 = .ok (.iconst 4, 1) := by decide +kernel
theorem dL_law_22 : decode cL_law 22 = .ok (.isub, 1) := by decide +kernel
theorem dL_law_23 : decode cL_law 23 = .ok (.if_icmp .gt 1255, 3) := by decide +kernel
theorem dL_law_26 : decode cL_law 26 = .ok (.aload_n 0, 1) := by decide +kernel
theorem dL_law_27 : decode cL_law 27 = .ok (.iload_n 3, 1) := by decide +kernel
theorem dL_law_28 : decode cL_law 28 = .ok (.iaload, 1) := by decide +kernel
theorem dL_law_29 : decode cL_law 29 = .ok (.bipush 63, 2) := by decide +kernel
theorem dL_law_31 : decode cL_law 31 = .ok (.iand, 1) := by decide +kernel
theorem dL_law_32 : decode cL_law 32 = .ok (.tableswitch 1240 0 38 #[172, 195, 208, 241, 274, 307, 340, 373, 406, 439, 482, 505, 538, 551, 564, 597, 620, 653, 686, 719, 752, 795, 828, 841, 864, 887, 910, 943, 976, 1019, 1032, 1055, 1078, 1122, 1145, 1158, 1191, 1204, 1217], 172) := by decide +kernel
theorem dL_law_204 : decode cL_law 204 = .ok (.aload_n 1, 1) := by decide +kernel
theorem dL_law_205 : decode cL_law 205 = .ok (.aload_n 0, 1) := by decide +kernel
theorem dL_law_206 : decode cL_law 206 = .ok (.iload_n 3, 1) := by decide +kernel
theorem dL_law_207 : decode cL_law 207 = .ok (.iconst 1, 1) := by decide +kernel
theorem dL_law_208 : decode cL_law 208 = .ok (.iadd, 1) := by decide +kernel
theorem dL_law_209 : decode cL_law 209 = .ok (.iaload, 1) := by decide +kernel
theorem dL_law_210 : decode cL_law 210 = .ok (.invokevirtual 13, 3) := by decide +kernel
theorem dL_law_213 : decode cL_law 213 = .ok (.aload_n 2, 1) := by decide +kernel
theorem dL_law_214 : decode cL_law 214 = .ok (.aload_n 0, 1) := by decide +kernel
theorem dL_law_215 : decode cL_law 215 = .ok (.iload_n 3, 1) := by decide +kernel
theorem dL_law_216 : decode cL_law 216 = .ok (.iconst 1, 1) := by decide +kernel
theorem dL_law_217 : decode cL_law 217 = .ok (.iadd, 1) := by decide +kernel
theorem dL_law_218 : decode cL_law 218 = .ok (.iaload, 1) := by decide +kernel
theorem dL_law_219 : decode cL_law 219 = .ok (.invokevirtual 17, 3) := by decide +kernel
theorem dL_law_222 : decode cL_law 222 = .ok (.if_icmp .eq 1050, 3) := by decide +kernel
theorem dL_law_225 : decode cL_law 225 = .ok (.iconst 0, 1) := by decide +kernel
theorem dL_law_226 : decode cL_law 226 = .ok (.ireturn, 1) := by decide +kernel
theorem dL_law_227 : decode cL_law 227 = .ok (.aload_n 1, 1) := by decide +kernel
theorem dL_law_228 : decode cL_law 228 = .ok (.invokevirtual 18, 3) := by decide +kernel
theorem dL_law_231 : decode cL_law 231 = .ok (.aload_n 2, 1) := by decide +kernel
theorem dL_law_232 : decode cL_law 232 = .ok (.invokevirtual 22, 3) := by decide +kernel
theorem dL_law_235 : decode cL_law 235 = .ok (.if_icmp .eq 1037, 3) := by decide +kernel
theorem dL_law_238 : decode cL_law 238 = .ok (.iconst 0, 1) := by decide +kernel
theorem dL_law_239 : decode cL_law 239 = .ok (.ireturn, 1) := by decide +kernel
theorem dL_law_240 : decode cL_law 240 = .ok (.aload_n 1, 1) := by decide +kernel
theorem dL_law_241 : decode cL_law 241 = .ok (.aload_n 0, 1) := by decide +kernel
theorem dL_law_242 : decode cL_law 242 = .ok (.iload_n 3, 1) := by decide +kernel
theorem dL_law_243 : decode cL_law 243 = .ok (.iconst 1, 1) := by decide +kernel
theorem dL_law_244 : decode cL_law 244 = .ok (.iadd, 1) := by decide +kernel
theorem dL_law_245 : decode cL_law 245 = .ok (.iaload, 1) := by decide +kernel
theorem dL_law_246 : decode cL_law 246 = .ok (.aload_n 0, 1) := by decide +kernel
theorem dL_law_247 : decode cL_law 247 = .ok (.iload_n 3, 1) := by decide +kernel
theorem dL_law_248 : decode cL_law 248 = .ok (.iconst 2, 1) := by decide +kernel
theorem dL_law_249 : decode cL_law 249 = .ok (.iadd, 1) := by decide +kernel
theorem dL_law_250 : decode cL_law 250 = .ok (.iaload, 1) := by decide +kernel
theorem dL_law_251 : decode cL_law 251 = .ok (.invokevirtual 23, 3) := by decide +kernel
theorem dL_law_254 : decode cL_law 254 = .ok (.aload_n 2, 1) := by decide +kernel
theorem dL_law_255 : decode cL_law 255 = .ok (.aload_n 0, 1) := by decide +kernel
theorem dL_law_256 : decode cL_law 256 = .ok (.iload_n 3, 1) := by decide +kernel
theorem dL_law_257 : decode cL_law 257 = .ok (.iconst 1, 1) := by decide +kernel
theorem dL_law_258 : decode cL_law 258 = .ok (.iadd, 1) := by decide +kernel
theorem dL_law_259 : decode cL_law 259 = .ok (.iaload, 1) := by decide +kernel
theorem dL_law_260 : decode cL_law 260 = .ok (.aload_n 0, 1) := by decide +kernel
theorem dL_law_261 : decode cL_law 261 = .ok (.iload_n 3, 1) := by decide +kernel
theorem dL_law_262 : decode cL_law 262 = .ok (.iconst 2, 1) := by decide +kernel
theorem dL_law_263 : decode cL_law 263 = .ok (.iadd, 1) := by decide +kernel
theorem dL_law_264 : decode cL_law 264 = .ok (.iaload, 1) := by decide +kernel
theorem dL_law_265 : decode cL_law 265 = .ok (.invokevirtual 27, 3) := by decide +kernel
theorem dL_law_268 : decode cL_law 268 = .ok (.if_icmp .eq 1004, 3) := by decide +kernel
theorem dL_law_271 : decode cL_law 271 = .ok (.iconst 0, 1) := by decide +kernel
theorem dL_law_272 : decode cL_law 272 = .ok (.ireturn, 1) := by decide +kernel
theorem dL_law_273 : decode cL_law 273 = .ok (.aload_n 1, 1) := by decide +kernel
theorem dL_law_274 : decode cL_law 274 = .ok (.aload_n 0, 1) := by decide +kernel
theorem dL_law_275 : decode cL_law 275 = .ok (.iload_n 3, 1) := by decide +kernel
theorem dL_law_276 : decode cL_law 276 = .ok (.iconst 1, 1) := by decide +kernel
theorem dL_law_277 : decode cL_law 277 = .ok (.iadd, 1) := by decide +kernel
theorem dL_law_278 : decode cL_law 278 = .ok (.iaload, 1) := by decide +kernel
theorem dL_law_279 : decode cL_law 279 = .ok (.aload_n 0, 1) := by decide +kernel
theorem dL_law_280 : decode cL_law 280 = .ok (.iload_n 3, 1) := by decide +kernel
theorem dL_law_281 : decode cL_law 281 = .ok (.iconst 2, 1) := by decide +kernel
theorem dL_law_282 : decode cL_law 282 = .ok (.iadd, 1) := by decide +kernel
theorem dL_law_283 : decode cL_law 283 = .ok (.iaload, 1) := by decide +kernel
theorem dL_law_284 : decode cL_law 284 = .ok (.invokevirtual 28, 3) := by decide +kernel
theorem dL_law_287 : decode cL_law 287 = .ok (.aload_n 2, 1) := by decide +kernel
theorem dL_law_288 : decode cL_law 288 = .ok (.aload_n 0, 1) := by decide +kernel
theorem dL_law_289 : decode cL_law 289 = .ok (.iload_n 3, 1) := by decide +kernel
theorem dL_law_290 : decode cL_law 290 = .ok (.iconst 1, 1) := by decide +kernel
theorem dL_law_291 : decode cL_law 291 = .ok (.iadd, 1) := by decide +kernel
theorem dL_law_292 : decode cL_law 292 = .ok (.iaload, 1) := by decide +kernel
theorem dL_law_293 : decode cL_law 293 = .ok (.aload_n 0, 1) := by decide +kernel
theorem dL_law_294 : decode cL_law 294 = .ok (.iload_n 3, 1) := by decide +kernel
theorem dL_law_295 : decode cL_law 295 = .ok (.iconst 2, 1) := by decide +kernel
theorem dL_law_296 : decode cL_law 296 = .ok (.iadd, 1) := by decide +kernel
theorem dL_law_297 : decode cL_law 297 = .ok (.iaload, 1) := by decide +kernel
theorem dL_law_298 : decode cL_law 298 = .ok (.invokevirtual 31, 3) := by decide +kernel
theorem dL_law_301 : decode cL_law 301 = .ok (.if_icmp .eq 971, 3) := by decide +kernel
theorem dL_law_304 : decode cL_law 304 = .ok (.iconst 0, 1) := by decide +kernel
theorem dL_law_305 : decode cL_law 305 = .ok (.ireturn, 1) := by decide +kernel
theorem dL_law_306 : decode cL_law 306 = .ok (.aload_n 1, 1) := by decide +kernel
theorem dL_law_307 : decode cL_law 307 = .ok (.aload_n 0, 1) := by decide +kernel
theorem dL_law_308 : decode cL_law 308 = .ok (.iload_n 3, 1) := by decide +kernel
theorem dL_law_309 : decode cL_law 309 = .ok (.iconst 1, 1) := by decide +kernel
theorem dL_law_310 : decode cL_law 310 = .ok (.iadd, 1) := by decide +kernel
theorem dL_law_311 : decode cL_law 311 = .ok (.iaload, 1) := by decide +kernel
theorem dL_law_312 : decode cL_law 312 = .ok (.aload_n 0, 1) := by decide +kernel
theorem dL_law_313 : decode cL_law 313 = .ok (.iload_n 3, 1) := by decide +kernel
theorem dL_law_314 : decode cL_law 314 = .ok (.iconst 2, 1) := by decide +kernel
theorem dL_law_315 : decode cL_law 315 = .ok (.iadd, 1) := by decide +kernel
theorem dL_law_316 : decode cL_law 316 = .ok (.iaload, 1) := by decide +kernel
theorem dL_law_317 : decode cL_law 317 = .ok (.invokevirtual 32, 3) := by decide +kernel
theorem dL_law_320 : decode cL_law 320 = .ok (.aload_n 2, 1) := by decide +kernel
theorem dL_law_321 : decode cL_law 321 = .ok (.aload_n 0, 1) := by decide +kernel
theorem dL_law_322 : decode cL_law 322 = .ok (.iload_n 3, 1) := by decide +kernel
theorem dL_law_323 : decode cL_law 323 = .ok (.iconst 1, 1) := by decide +kernel
theorem dL_law_324 : decode cL_law 324 = .ok (.iadd, 1) := by decide +kernel
theorem dL_law_325 : decode cL_law 325 = .ok (.iaload, 1) := by decide +kernel
theorem dL_law_326 : decode cL_law 326 = .ok (.aload_n 0, 1) := by decide +kernel
theorem dL_law_327 : decode cL_law 327 = .ok (.iload_n 3, 1) := by decide +kernel
theorem dL_law_328 : decode cL_law 328 = .ok (.iconst 2, 1) := by decide +kernel
theorem dL_law_329 : decode cL_law 329 = .ok (.iadd, 1) := by decide +kernel
theorem dL_law_330 : decode cL_law 330 = .ok (.iaload, 1) := by decide +kernel
theorem dL_law_331 : decode cL_law 331 = .ok (.invokevirtual 35, 3) := by decide +kernel
theorem dL_law_334 : decode cL_law 334 = .ok (.if_icmp .eq 938, 3) := by decide +kernel
theorem dL_law_337 : decode cL_law 337 = .ok (.iconst 0, 1) := by decide +kernel
theorem dL_law_338 : decode cL_law 338 = .ok (.ireturn, 1) := by decide +kernel
theorem dL_law_339 : decode cL_law 339 = .ok (.aload_n 1, 1) := by decide +kernel
theorem dL_law_340 : decode cL_law 340 = .ok (.aload_n 0, 1) := by decide +kernel
theorem dL_law_341 : decode cL_law 341 = .ok (.iload_n 3, 1) := by decide +kernel
theorem dL_law_342 : decode cL_law 342 = .ok (.iconst 1, 1) := by decide +kernel
theorem dL_law_343 : decode cL_law 343 = .ok (.iadd, 1) := by decide +kernel
theorem dL_law_344 : decode cL_law 344 = .ok (.iaload, 1) := by decide +kernel
theorem dL_law_345 : decode cL_law 345 = .ok (.aload_n 0, 1) := by decide +kernel
theorem dL_law_346 : decode cL_law 346 = .ok (.iload_n 3, 1) := by decide +kernel
theorem dL_law_347 : decode cL_law 347 = .ok (.iconst 2, 1) := by decide +kernel
theorem dL_law_348 : decode cL_law 348 = .ok (.iadd, 1) := by decide +kernel
theorem dL_law_349 : decode cL_law 349 = .ok (.iaload, 1) := by decide +kernel
theorem dL_law_350 : decode cL_law 350 = .ok (.invokevirtual 36, 3) := by decide +kernel
theorem dL_law_353 : decode cL_law 353 = .ok (.aload_n 2, 1) := by decide +kernel
theorem dL_law_354 : decode cL_law 354 = .ok (.aload_n 0, 1) := by decide +kernel
theorem dL_law_355 : decode cL_law 355 = .ok (.iload_n 3, 1) := by decide +kernel
theorem dL_law_356 : decode cL_law 356 = .ok (.iconst 1, 1) := by decide +kernel
theorem dL_law_357 : decode cL_law 357 = .ok (.iadd, 1) := by decide +kernel
theorem dL_law_358 : decode cL_law 358 = .ok (.iaload, 1) := by decide +kernel
theorem dL_law_359 : decode cL_law 359 = .ok (.aload_n 0, 1) := by decide +kernel
theorem dL_law_360 : decode cL_law 360 = .ok (.iload_n 3, 1) := by decide +kernel
theorem dL_law_361 : decode cL_law 361 = .ok (.iconst 2, 1) := by decide +kernel
theorem dL_law_362 : decode cL_law 362 = .ok (.iadd, 1) := by decide +kernel
theorem dL_law_363 : decode cL_law 363 = .ok (.iaload, 1) := by decide +kernel
theorem dL_law_364 : decode cL_law 364 = .ok (.invokevirtual 39, 3) := by decide +kernel
theorem dL_law_367 : decode cL_law 367 = .ok (.if_icmp .eq 905, 3) := by decide +kernel
theorem dL_law_370 : decode cL_law 370 = .ok (.iconst 0, 1) := by decide +kernel
theorem dL_law_371 : decode cL_law 371 = .ok (.ireturn, 1) := by decide +kernel
theorem dL_law_372 : decode cL_law 372 = .ok (.aload_n 1, 1) := by decide +kernel
theorem dL_law_373 : decode cL_law 373 = .ok (.aload_n 0, 1) := by decide +kernel
theorem dL_law_374 : decode cL_law 374 = .ok (.iload_n 3, 1) := by decide +kernel
theorem dL_law_375 : decode cL_law 375 = .ok (.iconst 1, 1) := by decide +kernel
theorem dL_law_376 : decode cL_law 376 = .ok (.iadd, 1) := by decide +kernel
theorem dL_law_377 : decode cL_law 377 = .ok (.iaload, 1) := by decide +kernel
theorem dL_law_378 : decode cL_law 378 = .ok (.aload_n 0, 1) := by decide +kernel
theorem dL_law_379 : decode cL_law 379 = .ok (.iload_n 3, 1) := by decide +kernel
theorem dL_law_380 : decode cL_law 380 = .ok (.iconst 2, 1) := by decide +kernel
theorem dL_law_381 : decode cL_law 381 = .ok (.iadd, 1) := by decide +kernel
theorem dL_law_382 : decode cL_law 382 = .ok (.iaload, 1) := by decide +kernel
theorem dL_law_383 : decode cL_law 383 = .ok (.invokevirtual 40, 3) := by decide +kernel
theorem dL_law_386 : decode cL_law 386 = .ok (.aload_n 2, 1) := by decide +kernel
theorem dL_law_387 : decode cL_law 387 = .ok (.aload_n 0, 1) := by decide +kernel
theorem dL_law_388 : decode cL_law 388 = .ok (.iload_n 3, 1) := by decide +kernel
theorem dL_law_389 : decode cL_law 389 = .ok (.iconst 1, 1) := by decide +kernel
theorem dL_law_390 : decode cL_law 390 = .ok (.iadd, 1) := by decide +kernel
theorem dL_law_391 : decode cL_law 391 = .ok (.iaload, 1) := by decide +kernel
theorem dL_law_392 : decode cL_law 392 = .ok (.aload_n 0, 1) := by decide +kernel
theorem dL_law_393 : decode cL_law 393 = .ok (.iload_n 3, 1) := by decide +kernel
theorem dL_law_394 : decode cL_law 394 = .ok (.iconst 2, 1) := by decide +kernel
theorem dL_law_395 : decode cL_law 395 = .ok (.iadd, 1) := by decide +kernel
theorem dL_law_396 : decode cL_law 396 = .ok (.iaload, 1) := by decide +kernel
theorem dL_law_397 : decode cL_law 397 = .ok (.invokevirtual 43, 3) := by decide +kernel
theorem dL_law_400 : decode cL_law 400 = .ok (.if_icmp .eq 872, 3) := by decide +kernel
theorem dL_law_403 : decode cL_law 403 = .ok (.iconst 0, 1) := by decide +kernel
theorem dL_law_404 : decode cL_law 404 = .ok (.ireturn, 1) := by decide +kernel
theorem dL_law_405 : decode cL_law 405 = .ok (.aload_n 1, 1) := by decide +kernel
theorem dL_law_406 : decode cL_law 406 = .ok (.aload_n 0, 1) := by decide +kernel
theorem dL_law_407 : decode cL_law 407 = .ok (.iload_n 3, 1) := by decide +kernel
theorem dL_law_408 : decode cL_law 408 = .ok (.iconst 1, 1) := by decide +kernel
theorem dL_law_409 : decode cL_law 409 = .ok (.iadd, 1) := by decide +kernel
theorem dL_law_410 : decode cL_law 410 = .ok (.iaload, 1) := by decide +kernel
theorem dL_law_411 : decode cL_law 411 = .ok (.aload_n 0, 1) := by decide +kernel
theorem dL_law_412 : decode cL_law 412 = .ok (.iload_n 3, 1) := by decide +kernel
theorem dL_law_413 : decode cL_law 413 = .ok (.iconst 2, 1) := by decide +kernel
theorem dL_law_414 : decode cL_law 414 = .ok (.iadd, 1) := by decide +kernel
theorem dL_law_415 : decode cL_law 415 = .ok (.iaload, 1) := by decide +kernel
theorem dL_law_416 : decode cL_law 416 = .ok (.invokevirtual 44, 3) := by decide +kernel
theorem dL_law_419 : decode cL_law 419 = .ok (.aload_n 2, 1) := by decide +kernel
theorem dL_law_420 : decode cL_law 420 = .ok (.aload_n 0, 1) := by decide +kernel
theorem dL_law_421 : decode cL_law 421 = .ok (.iload_n 3, 1) := by decide +kernel
theorem dL_law_422 : decode cL_law 422 = .ok (.iconst 1, 1) := by decide +kernel
theorem dL_law_423 : decode cL_law 423 = .ok (.iadd, 1) := by decide +kernel
theorem dL_law_424 : decode cL_law 424 = .ok (.iaload, 1) := by decide +kernel
theorem dL_law_425 : decode cL_law 425 = .ok (.aload_n 0, 1) := by decide +kernel
theorem dL_law_426 : decode cL_law 426 = .ok (.iload_n 3, 1) := by decide +kernel
theorem dL_law_427 : decode cL_law 427 = .ok (.iconst 2, 1) := by decide +kernel
theorem dL_law_428 : decode cL_law 428 = .ok (.iadd, 1) := by decide +kernel
theorem dL_law_429 : decode cL_law 429 = .ok (.iaload, 1) := by decide +kernel
theorem dL_law_430 : decode cL_law 430 = .ok (.invokevirtual 47, 3) := by decide +kernel
theorem dL_law_433 : decode cL_law 433 = .ok (.if_icmp .eq 839, 3) := by decide +kernel
theorem dL_law_436 : decode cL_law 436 = .ok (.iconst 0, 1) := by decide +kernel
theorem dL_law_437 : decode cL_law 437 = .ok (.ireturn, 1) := by decide +kernel
theorem dL_law_438 : decode cL_law 438 = .ok (.aload_n 1, 1) := by decide +kernel
theorem dL_law_439 : decode cL_law 439 = .ok (.aload_n 0, 1) := by decide +kernel
theorem dL_law_440 : decode cL_law 440 = .ok (.iload_n 3, 1) := by decide +kernel
theorem dL_law_441 : decode cL_law 441 = .ok (.iconst 1, 1) := by decide +kernel
theorem dL_law_442 : decode cL_law 442 = .ok (.iadd, 1) := by decide +kernel
theorem dL_law_443 : decode cL_law 443 = .ok (.iaload, 1) := by decide +kernel
theorem dL_law_444 : decode cL_law 444 = .ok (.aload_n 0, 1) := by decide +kernel
theorem dL_law_445 : decode cL_law 445 = .ok (.iload_n 3, 1) := by decide +kernel
theorem dL_law_446 : decode cL_law 446 = .ok (.iconst 2, 1) := by decide +kernel
theorem dL_law_447 : decode cL_law 447 = .ok (.iadd, 1) := by decide +kernel
theorem dL_law_448 : decode cL_law 448 = .ok (.iaload, 1) := by decide +kernel
theorem dL_law_449 : decode cL_law 449 = .ok (.invokevirtual 48, 3) := by decide +kernel
theorem dL_law_452 : decode cL_law 452 = .ok (.aload_n 2, 1) := by decide +kernel
theorem dL_law_453 : decode cL_law 453 = .ok (.aload_n 0, 1) := by decide +kernel
theorem dL_law_454 : decode cL_law 454 = .ok (.iload_n 3, 1) := by decide +kernel
theorem dL_law_455 : decode cL_law 455 = .ok (.iconst 1, 1) := by decide +kernel
theorem dL_law_456 : decode cL_law 456 = .ok (.iadd, 1) := by decide +kernel
theorem dL_law_457 : decode cL_law 457 = .ok (.iaload, 1) := by decide +kernel
theorem dL_law_458 : decode cL_law 458 = .ok (.aload_n 0, 1) := by decide +kernel
theorem dL_law_459 : decode cL_law 459 = .ok (.iload_n 3, 1) := by decide +kernel
theorem dL_law_460 : decode cL_law 460 = .ok (.iconst 2, 1) := by decide +kernel
theorem dL_law_461 : decode cL_law 461 = .ok (.iadd, 1) := by decide +kernel
theorem dL_law_462 : decode cL_law 462 = .ok (.iaload, 1) := by decide +kernel
theorem dL_law_463 : decode cL_law 463 = .ok (.invokevirtual 51, 3) := by decide +kernel
theorem dL_law_466 : decode cL_law 466 = .ok (.if_icmp .eq 806, 3) := by decide +kernel
theorem dL_law_469 : decode cL_law 469 = .ok (.iconst 0, 1) := by decide +kernel
theorem dL_law_470 : decode cL_law 470 = .ok (.ireturn, 1) := by decide +kernel
theorem dL_law_471 : decode cL_law 471 = .ok (.aload_n 1, 1) := by decide +kernel
theorem dL_law_472 : decode cL_law 472 = .ok (.aload_n 0, 1) := by decide +kernel
theorem dL_law_473 : decode cL_law 473 = .ok (.iload_n 3, 1) := by decide +kernel
theorem dL_law_474 : decode cL_law 474 = .ok (.iconst 1, 1) := by decide +kernel
theorem dL_law_475 : decode cL_law 475 = .ok (.iadd, 1) := by decide +kernel
theorem dL_law_476 : decode cL_law 476 = .ok (.iaload, 1) := by decide +kernel
theorem dL_law_477 : decode cL_law 477 = .ok (.aload_n 0, 1) := by decide +kernel
theorem dL_law_478 : decode cL_law 478 = .ok (.iload_n 3, 1) := by decide +kernel
theorem dL_law_479 : decode cL_law 479 = .ok (.iconst 2, 1) := by decide +kernel
theorem dL_law_480 : decode cL_law 480 = .ok (.iadd, 1) := by decide +kernel
theorem dL_law_481 : decode cL_law 481 = .ok (.iaload, 1) := by decide +kernel
theorem dL_law_482 : decode cL_law 482 = .ok (.aload_n 0, 1) := by decide +kernel
theorem dL_law_483 : decode cL_law 483 = .ok (.iload_n 3, 1) := by decide +kernel
theorem dL_law_484 : decode cL_law 484 = .ok (.iconst 3, 1) := by decide +kernel
theorem dL_law_485 : decode cL_law 485 = .ok (.iadd, 1) := by decide +kernel
theorem dL_law_486 : decode cL_law 486 = .ok (.iaload, 1) := by decide +kernel
theorem dL_law_487 : decode cL_law 487 = .ok (.invokevirtual 52, 3) := by decide +kernel
theorem dL_law_490 : decode cL_law 490 = .ok (.aload_n 2, 1) := by decide +kernel
theorem dL_law_491 : decode cL_law 491 = .ok (.aload_n 0, 1) := by decide +kernel
theorem dL_law_492 : decode cL_law 492 = .ok (.iload_n 3, 1) := by decide +kernel
theorem dL_law_493 : decode cL_law 493 = .ok (.iconst 1, 1) := by decide +kernel
theorem dL_law_494 : decode cL_law 494 = .ok (.iadd, 1) := by decide +kernel
theorem dL_law_495 : decode cL_law 495 = .ok (.iaload, 1) := by decide +kernel
theorem dL_law_496 : decode cL_law 496 = .ok (.aload_n 0, 1) := by decide +kernel
theorem dL_law_497 : decode cL_law 497 = .ok (.iload_n 3, 1) := by decide +kernel
theorem dL_law_498 : decode cL_law 498 = .ok (.iconst 2, 1) := by decide +kernel
theorem dL_law_499 : decode cL_law 499 = .ok (.iadd, 1) := by decide +kernel
theorem dL_law_500 : decode cL_law 500 = .ok (.iaload, 1) := by decide +kernel
theorem dL_law_501 : decode cL_law 501 = .ok (.aload_n 0, 1) := by decide +kernel
theorem dL_law_502 : decode cL_law 502 = .ok (.iload_n 3, 1) := by decide +kernel
theorem dL_law_503 : decode cL_law 503 = .ok (.iconst 3, 1) := by decide +kernel
theorem dL_law_504 : decode cL_law 504 = .ok (.iadd, 1) := by decide +kernel
theorem dL_law_505 : decode cL_law 505 = .ok (.iaload, 1) := by decide +kernel
theorem dL_law_506 : decode cL_law 506 = .ok (.invokevirtual 56, 3) := by decide +kernel
theorem dL_law_509 : decode cL_law 509 = .ok (.if_icmp .eq 763, 3) := by decide +kernel
theorem dL_law_512 : decode cL_law 512 = .ok (.iconst 0, 1) := by decide +kernel
theorem dL_law_513 : decode cL_law 513 = .ok (.ireturn, 1) := by decide +kernel
theorem dL_law_514 : decode cL_law 514 = .ok (.aload_n 1, 1) := by decide +kernel
theorem dL_law_515 : decode cL_law 515 = .ok (.aload_n 0, 1) := by decide +kernel
theorem dL_law_516 : decode cL_law 516 = .ok (.iload_n 3, 1) := by decide +kernel
theorem dL_law_517 : decode cL_law 517 = .ok (.iconst 1, 1) := by decide +kernel
theorem dL_law_518 : decode cL_law 518 = .ok (.iadd, 1) := by decide +kernel
theorem dL_law_519 : decode cL_law 519 = .ok (.iaload, 1) := by decide +kernel
theorem dL_law_520 : decode cL_law 520 = .ok (.invokevirtual 57, 3) := by decide +kernel
theorem dL_law_523 : decode cL_law 523 = .ok (.aload_n 2, 1) := by decide +kernel
theorem dL_law_524 : decode cL_law 524 = .ok (.aload_n 0, 1) := by decide +kernel
theorem dL_law_525 : decode cL_law 525 = .ok (.iload_n 3, 1) := by decide +kernel
theorem dL_law_526 : decode cL_law 526 = .ok (.iconst 1, 1) := by decide +kernel
theorem dL_law_527 : decode cL_law 527 = .ok (.iadd, 1) := by decide +kernel
theorem dL_law_528 : decode cL_law 528 = .ok (.iaload, 1) := by decide +kernel
theorem dL_law_529 : decode cL_law 529 = .ok (.invokevirtual 60, 3) := by decide +kernel
theorem dL_law_532 : decode cL_law 532 = .ok (.if_icmp .eq 740, 3) := by decide +kernel
theorem dL_law_535 : decode cL_law 535 = .ok (.iconst 0, 1) := by decide +kernel
theorem dL_law_536 : decode cL_law 536 = .ok (.ireturn, 1) := by decide +kernel
theorem dL_law_537 : decode cL_law 537 = .ok (.aload_n 1, 1) := by decide +kernel
theorem dL_law_538 : decode cL_law 538 = .ok (.aload_n 0, 1) := by decide +kernel
theorem dL_law_539 : decode cL_law 539 = .ok (.iload_n 3, 1) := by decide +kernel
theorem dL_law_540 : decode cL_law 540 = .ok (.iconst 1, 1) := by decide +kernel
theorem dL_law_541 : decode cL_law 541 = .ok (.iadd, 1) := by decide +kernel
theorem dL_law_542 : decode cL_law 542 = .ok (.iaload, 1) := by decide +kernel
theorem dL_law_543 : decode cL_law 543 = .ok (.aload_n 0, 1) := by decide +kernel
theorem dL_law_544 : decode cL_law 544 = .ok (.iload_n 3, 1) := by decide +kernel
theorem dL_law_545 : decode cL_law 545 = .ok (.iconst 2, 1) := by decide +kernel
theorem dL_law_546 : decode cL_law 546 = .ok (.iadd, 1) := by decide +kernel
theorem dL_law_547 : decode cL_law 547 = .ok (.iaload, 1) := by decide +kernel
theorem dL_law_548 : decode cL_law 548 = .ok (.invokevirtual 61, 3) := by decide +kernel
theorem dL_law_551 : decode cL_law 551 = .ok (.aload_n 2, 1) := by decide +kernel
theorem dL_law_552 : decode cL_law 552 = .ok (.aload_n 0, 1) := by decide +kernel
theorem dL_law_553 : decode cL_law 553 = .ok (.iload_n 3, 1) := by decide +kernel
theorem dL_law_554 : decode cL_law 554 = .ok (.iconst 1, 1) := by decide +kernel
theorem dL_law_555 : decode cL_law 555 = .ok (.iadd, 1) := by decide +kernel
theorem dL_law_556 : decode cL_law 556 = .ok (.iaload, 1) := by decide +kernel
theorem dL_law_557 : decode cL_law 557 = .ok (.aload_n 0, 1) := by decide +kernel
theorem dL_law_558 : decode cL_law 558 = .ok (.iload_n 3, 1) := by decide +kernel
theorem dL_law_559 : decode cL_law 559 = .ok (.iconst 2, 1) := by decide +kernel
theorem dL_law_560 : decode cL_law 560 = .ok (.iadd, 1) := by decide +kernel
theorem dL_law_561 : decode cL_law 561 = .ok (.iaload, 1) := by decide +kernel
theorem dL_law_562 : decode cL_law 562 = .ok (.invokevirtual 64, 3) := by decide +kernel
theorem dL_law_565 : decode cL_law 565 = .ok (.if_icmp .eq 707, 3) := by decide +kernel
theorem dL_law_568 : decode cL_law 568 = .ok (.iconst 0, 1) := by decide +kernel
theorem dL_law_569 : decode cL_law 569 = .ok (.ireturn, 1) := by decide +kernel
theorem dL_law_570 : decode cL_law 570 = .ok (.aload_n 1, 1) := by decide +kernel
theorem dL_law_571 : decode cL_law 571 = .ok (.invokevirtual 65, 3) := by decide +kernel
theorem dL_law_574 : decode cL_law 574 = .ok (.aload_n 2, 1) := by decide +kernel
theorem dL_law_575 : decode cL_law 575 = .ok (.invokevirtual 68, 3) := by decide +kernel
theorem dL_law_578 : decode cL_law 578 = .ok (.if_icmp .eq 694, 3) := by decide +kernel
theorem dL_law_581 : decode cL_law 581 = .ok (.iconst 0, 1) := by decide +kernel
theorem dL_law_582 : decode cL_law 582 = .ok (.ireturn, 1) := by decide +kernel
theorem dL_law_583 : decode cL_law 583 = .ok (.aload_n 1, 1) := by decide +kernel
theorem dL_law_584 : decode cL_law 584 = .ok (.invokevirtual 69, 3) := by decide +kernel
theorem dL_law_587 : decode cL_law 587 = .ok (.aload_n 2, 1) := by decide +kernel
theorem dL_law_588 : decode cL_law 588 = .ok (.invokevirtual 72, 3) := by decide +kernel
theorem dL_law_591 : decode cL_law 591 = .ok (.if_icmp .eq 681, 3) := by decide +kernel
theorem dL_law_594 : decode cL_law 594 = .ok (.iconst 0, 1) := by decide +kernel
theorem dL_law_595 : decode cL_law 595 = .ok (.ireturn, 1) := by decide +kernel
theorem dL_law_596 : decode cL_law 596 = .ok (.aload_n 1, 1) := by decide +kernel
theorem dL_law_597 : decode cL_law 597 = .ok (.aload_n 0, 1) := by decide +kernel
theorem dL_law_598 : decode cL_law 598 = .ok (.iload_n 3, 1) := by decide +kernel
theorem dL_law_599 : decode cL_law 599 = .ok (.iconst 1, 1) := by decide +kernel
theorem dL_law_600 : decode cL_law 600 = .ok (.iadd, 1) := by decide +kernel
theorem dL_law_601 : decode cL_law 601 = .ok (.iaload, 1) := by decide +kernel
theorem dL_law_602 : decode cL_law 602 = .ok (.aload_n 0, 1) := by decide +kernel
theorem dL_law_603 : decode cL_law 603 = .ok (.iload_n 3, 1) := by decide +kernel
theorem dL_law_604 : decode cL_law 604 = .ok (.iconst 2, 1) := by decide +kernel
theorem dL_law_605 : decode cL_law 605 = .ok (.iadd, 1) := by decide +kernel
theorem dL_law_606 : decode cL_law 606 = .ok (.iaload, 1) := by decide +kernel
theorem dL_law_607 : decode cL_law 607 = .ok (.invokevirtual 73, 3) := by decide +kernel
theorem dL_law_610 : decode cL_law 610 = .ok (.aload_n 2, 1) := by decide +kernel
theorem dL_law_611 : decode cL_law 611 = .ok (.aload_n 0, 1) := by decide +kernel
theorem dL_law_612 : decode cL_law 612 = .ok (.iload_n 3, 1) := by decide +kernel
theorem dL_law_613 : decode cL_law 613 = .ok (.iconst 1, 1) := by decide +kernel
theorem dL_law_614 : decode cL_law 614 = .ok (.iadd, 1) := by decide +kernel
theorem dL_law_615 : decode cL_law 615 = .ok (.iaload, 1) := by decide +kernel
theorem dL_law_616 : decode cL_law 616 = .ok (.aload_n 0, 1) := by decide +kernel
theorem dL_law_617 : decode cL_law 617 = .ok (.iload_n 3, 1) := by decide +kernel
theorem dL_law_618 : decode cL_law 618 = .ok (.iconst 2, 1) := by decide +kernel
theorem dL_law_619 : decode cL_law 619 = .ok (.iadd, 1) := by decide +kernel
theorem dL_law_620 : decode cL_law 620 = .ok (.iaload, 1) := by decide +kernel
theorem dL_law_621 : decode cL_law 621 = .ok (.invokevirtual 76, 3) := by decide +kernel
theorem dL_law_624 : decode cL_law 624 = .ok (.if_icmp .eq 648, 3) := by decide +kernel
theorem dL_law_627 : decode cL_law 627 = .ok (.iconst 0, 1) := by decide +kernel
theorem dL_law_628 : decode cL_law 628 = .ok (.ireturn, 1) := by decide +kernel
theorem dL_law_629 : decode cL_law 629 = .ok (.aload_n 1, 1) := by decide +kernel
theorem dL_law_630 : decode cL_law 630 = .ok (.aload_n 0, 1) := by decide +kernel
theorem dL_law_631 : decode cL_law 631 = .ok (.iload_n 3, 1) := by decide +kernel
theorem dL_law_632 : decode cL_law 632 = .ok (.iconst 1, 1) := by decide +kernel
theorem dL_law_633 : decode cL_law 633 = .ok (.iadd, 1) := by decide +kernel
theorem dL_law_634 : decode cL_law 634 = .ok (.iaload, 1) := by decide +kernel
theorem dL_law_635 : decode cL_law 635 = .ok (.invokevirtual 77, 3) := by decide +kernel
theorem dL_law_638 : decode cL_law 638 = .ok (.aload_n 2, 1) := by decide +kernel
theorem dL_law_639 : decode cL_law 639 = .ok (.aload_n 0, 1) := by decide +kernel
theorem dL_law_640 : decode cL_law 640 = .ok (.iload_n 3, 1) := by decide +kernel
theorem dL_law_641 : decode cL_law 641 = .ok (.iconst 1, 1) := by decide +kernel
theorem dL_law_642 : decode cL_law 642 = .ok (.iadd, 1) := by decide +kernel
theorem dL_law_643 : decode cL_law 643 = .ok (.iaload, 1) := by decide +kernel
theorem dL_law_644 : decode cL_law 644 = .ok (.invokevirtual 80, 3) := by decide +kernel
theorem dL_law_647 : decode cL_law 647 = .ok (.if_icmp .eq 625, 3) := by decide +kernel
theorem dL_law_650 : decode cL_law 650 = .ok (.iconst 0, 1) := by decide +kernel
theorem dL_law_651 : decode cL_law 651 = .ok (.ireturn, 1) := by decide +kernel
theorem dL_law_652 : decode cL_law 652 = .ok (.aload_n 1, 1) := by decide +kernel
theorem dL_law_653 : decode cL_law 653 = .ok (.aload_n 0, 1) := by decide +kernel
theorem dL_law_654 : decode cL_law 654 = .ok (.iload_n 3, 1) := by decide +kernel
theorem dL_law_655 : decode cL_law 655 = .ok (.iconst 1, 1) := by decide +kernel
theorem dL_law_656 : decode cL_law 656 = .ok (.iadd, 1) := by decide +kernel
theorem dL_law_657 : decode cL_law 657 = .ok (.iaload, 1) := by decide +kernel
theorem dL_law_658 : decode cL_law 658 = .ok (.aload_n 0, 1) := by decide +kernel
theorem dL_law_659 : decode cL_law 659 = .ok (.iload_n 3, 1) := by decide +kernel
theorem dL_law_660 : decode cL_law 660 = .ok (.iconst 2, 1) := by decide +kernel
theorem dL_law_661 : decode cL_law 661 = .ok (.iadd, 1) := by decide +kernel
theorem dL_law_662 : decode cL_law 662 = .ok (.iaload, 1) := by decide +kernel
theorem dL_law_663 : decode cL_law 663 = .ok (.invokevirtual 81, 3) := by decide +kernel
theorem dL_law_666 : decode cL_law 666 = .ok (.aload_n 2, 1) := by decide +kernel
theorem dL_law_667 : decode cL_law 667 = .ok (.aload_n 0, 1) := by decide +kernel
theorem dL_law_668 : decode cL_law 668 = .ok (.iload_n 3, 1) := by decide +kernel
theorem dL_law_669 : decode cL_law 669 = .ok (.iconst 1, 1) := by decide +kernel
theorem dL_law_670 : decode cL_law 670 = .ok (.iadd, 1) := by decide +kernel
theorem dL_law_671 : decode cL_law 671 = .ok (.iaload, 1) := by decide +kernel
theorem dL_law_672 : decode cL_law 672 = .ok (.aload_n 0, 1) := by decide +kernel
theorem dL_law_673 : decode cL_law 673 = .ok (.iload_n 3, 1) := by decide +kernel
theorem dL_law_674 : decode cL_law 674 = .ok (.iconst 2, 1) := by decide +kernel
theorem dL_law_675 : decode cL_law 675 = .ok (.iadd, 1) := by decide +kernel
theorem dL_law_676 : decode cL_law 676 = .ok (.iaload, 1) := by decide +kernel
theorem dL_law_677 : decode cL_law 677 = .ok (.invokevirtual 84, 3) := by decide +kernel
theorem dL_law_680 : decode cL_law 680 = .ok (.if_icmp .eq 592, 3) := by decide +kernel
theorem dL_law_683 : decode cL_law 683 = .ok (.iconst 0, 1) := by decide +kernel
theorem dL_law_684 : decode cL_law 684 = .ok (.ireturn, 1) := by decide +kernel
theorem dL_law_685 : decode cL_law 685 = .ok (.aload_n 1, 1) := by decide +kernel
theorem dL_law_686 : decode cL_law 686 = .ok (.aload_n 0, 1) := by decide +kernel
theorem dL_law_687 : decode cL_law 687 = .ok (.iload_n 3, 1) := by decide +kernel
theorem dL_law_688 : decode cL_law 688 = .ok (.iconst 1, 1) := by decide +kernel
theorem dL_law_689 : decode cL_law 689 = .ok (.iadd, 1) := by decide +kernel
theorem dL_law_690 : decode cL_law 690 = .ok (.iaload, 1) := by decide +kernel
theorem dL_law_691 : decode cL_law 691 = .ok (.aload_n 0, 1) := by decide +kernel
theorem dL_law_692 : decode cL_law 692 = .ok (.iload_n 3, 1) := by decide +kernel
theorem dL_law_693 : decode cL_law 693 = .ok (.iconst 2, 1) := by decide +kernel
theorem dL_law_694 : decode cL_law 694 = .ok (.iadd, 1) := by decide +kernel
theorem dL_law_695 : decode cL_law 695 = .ok (.iaload, 1) := by decide +kernel
theorem dL_law_696 : decode cL_law 696 = .ok (.invokevirtual 85, 3) := by decide +kernel
theorem dL_law_699 : decode cL_law 699 = .ok (.aload_n 2, 1) := by decide +kernel
theorem dL_law_700 : decode cL_law 700 = .ok (.aload_n 0, 1) := by decide +kernel
theorem dL_law_701 : decode cL_law 701 = .ok (.iload_n 3, 1) := by decide +kernel
theorem dL_law_702 : decode cL_law 702 = .ok (.iconst 1, 1) := by decide +kernel
theorem dL_law_703 : decode cL_law 703 = .ok (.iadd, 1) := by decide +kernel
theorem dL_law_704 : decode cL_law 704 = .ok (.iaload, 1) := by decide +kernel
theorem dL_law_705 : decode cL_law 705 = .ok (.aload_n 0, 1) := by decide +kernel
theorem dL_law_706 : decode cL_law 706 = .ok (.iload_n 3, 1) := by decide +kernel
theorem dL_law_707 : decode cL_law 707 = .ok (.iconst 2, 1) := by decide +kernel
theorem dL_law_708 : decode cL_law 708 = .ok (.iadd, 1) := by decide +kernel
theorem dL_law_709 : decode cL_law 709 = .ok (.iaload, 1) := by decide +kernel
theorem dL_law_710 : decode cL_law 710 = .ok (.invokevirtual 88, 3) := by decide +kernel
theorem dL_law_713 : decode cL_law 713 = .ok (.if_icmp .eq 559, 3) := by decide +kernel
theorem dL_law_716 : decode cL_law 716 = .ok (.iconst 0, 1) := by decide +kernel
theorem dL_law_717 : decode cL_law 717 = .ok (.ireturn, 1) := by decide +kernel
theorem dL_law_718 : decode cL_law 718 = .ok (.aload_n 1, 1) := by decide +kernel
theorem dL_law_719 : decode cL_law 719 = .ok (.aload_n 0, 1) := by decide +kernel
theorem dL_law_720 : decode cL_law 720 = .ok (.iload_n 3, 1) := by decide +kernel
theorem dL_law_721 : decode cL_law 721 = .ok (.iconst 1, 1) := by decide +kernel
theorem dL_law_722 : decode cL_law 722 = .ok (.iadd, 1) := by decide +kernel
theorem dL_law_723 : decode cL_law 723 = .ok (.iaload, 1) := by decide +kernel
theorem dL_law_724 : decode cL_law 724 = .ok (.aload_n 0, 1) := by decide +kernel
theorem dL_law_725 : decode cL_law 725 = .ok (.iload_n 3, 1) := by decide +kernel
theorem dL_law_726 : decode cL_law 726 = .ok (.iconst 2, 1) := by decide +kernel
theorem dL_law_727 : decode cL_law 727 = .ok (.iadd, 1) := by decide +kernel
theorem dL_law_728 : decode cL_law 728 = .ok (.iaload, 1) := by decide +kernel
theorem dL_law_729 : decode cL_law 729 = .ok (.invokevirtual 89, 3) := by decide +kernel
theorem dL_law_732 : decode cL_law 732 = .ok (.aload_n 2, 1) := by decide +kernel
theorem dL_law_733 : decode cL_law 733 = .ok (.aload_n 0, 1) := by decide +kernel
theorem dL_law_734 : decode cL_law 734 = .ok (.iload_n 3, 1) := by decide +kernel
theorem dL_law_735 : decode cL_law 735 = .ok (.iconst 1, 1) := by decide +kernel
theorem dL_law_736 : decode cL_law 736 = .ok (.iadd, 1) := by decide +kernel
theorem dL_law_737 : decode cL_law 737 = .ok (.iaload, 1) := by decide +kernel
theorem dL_law_738 : decode cL_law 738 = .ok (.aload_n 0, 1) := by decide +kernel
theorem dL_law_739 : decode cL_law 739 = .ok (.iload_n 3, 1) := by decide +kernel
theorem dL_law_740 : decode cL_law 740 = .ok (.iconst 2, 1) := by decide +kernel
theorem dL_law_741 : decode cL_law 741 = .ok (.iadd, 1) := by decide +kernel
theorem dL_law_742 : decode cL_law 742 = .ok (.iaload, 1) := by decide +kernel
theorem dL_law_743 : decode cL_law 743 = .ok (.invokevirtual 92, 3) := by decide +kernel
theorem dL_law_746 : decode cL_law 746 = .ok (.if_icmp .eq 526, 3) := by decide +kernel
theorem dL_law_749 : decode cL_law 749 = .ok (.iconst 0, 1) := by decide +kernel
theorem dL_law_750 : decode cL_law 750 = .ok (.ireturn, 1) := by decide +kernel
theorem dL_law_751 : decode cL_law 751 = .ok (.aload_n 1, 1) := by decide +kernel
theorem dL_law_752 : decode cL_law 752 = .ok (.aload_n 0, 1) := by decide +kernel
theorem dL_law_753 : decode cL_law 753 = .ok (.iload_n 3, 1) := by decide +kernel
theorem dL_law_754 : decode cL_law 754 = .ok (.iconst 1, 1) := by decide +kernel
theorem dL_law_755 : decode cL_law 755 = .ok (.iadd, 1) := by decide +kernel
theorem dL_law_756 : decode cL_law 756 = .ok (.iaload, 1) := by decide +kernel
theorem dL_law_757 : decode cL_law 757 = .ok (.aload_n 0, 1) := by decide +kernel
theorem dL_law_758 : decode cL_law 758 = .ok (.iload_n 3, 1) := by decide +kernel
theorem dL_law_759 : decode cL_law 759 = .ok (.iconst 2, 1) := by decide +kernel
theorem dL_law_760 : decode cL_law 760 = .ok (.iadd, 1) := by decide +kernel
theorem dL_law_761 : decode cL_law 761 = .ok (.iaload, 1) := by decide +kernel
theorem dL_law_762 : decode cL_law 762 = .ok (.invokevirtual 93, 3) := by decide +kernel
theorem dL_law_765 : decode cL_law 765 = .ok (.aload_n 2, 1) := by decide +kernel
theorem dL_law_766 : decode cL_law 766 = .ok (.aload_n 0, 1) := by decide +kernel
theorem dL_law_767 : decode cL_law 767 = .ok (.iload_n 3, 1) := by decide +kernel
theorem dL_law_768 : decode cL_law 768 = .ok (.iconst 1, 1) := by decide +kernel
theorem dL_law_769 : decode cL_law 769 = .ok (.iadd, 1) := by decide +kernel
theorem dL_law_770 : decode cL_law 770 = .ok (.iaload, 1) := by decide +kernel
theorem dL_law_771 : decode cL_law 771 = .ok (.aload_n 0, 1) := by decide +kernel
theorem dL_law_772 : decode cL_law 772 = .ok (.iload_n 3, 1) := by decide +kernel
theorem dL_law_773 : decode cL_law 773 = .ok (.iconst 2, 1) := by decide +kernel
theorem dL_law_774 : decode cL_law 774 = .ok (.iadd, 1) := by decide +kernel
theorem dL_law_775 : decode cL_law 775 = .ok (.iaload, 1) := by decide +kernel
theorem dL_law_776 : decode cL_law 776 = .ok (.invokevirtual 96, 3) := by decide +kernel
theorem dL_law_779 : decode cL_law 779 = .ok (.if_icmp .eq 493, 3) := by decide +kernel
theorem dL_law_782 : decode cL_law 782 = .ok (.iconst 0, 1) := by decide +kernel
theorem dL_law_783 : decode cL_law 783 = .ok (.ireturn, 1) := by decide +kernel
theorem dL_law_784 : decode cL_law 784 = .ok (.aload_n 1, 1) := by decide +kernel
theorem dL_law_785 : decode cL_law 785 = .ok (.aload_n 0, 1) := by decide +kernel
theorem dL_law_786 : decode cL_law 786 = .ok (.iload_n 3, 1) := by decide +kernel
theorem dL_law_787 : decode cL_law 787 = .ok (.iconst 1, 1) := by decide +kernel
theorem dL_law_788 : decode cL_law 788 = .ok (.iadd, 1) := by decide +kernel
theorem dL_law_789 : decode cL_law 789 = .ok (.iaload, 1) := by decide +kernel
theorem dL_law_790 : decode cL_law 790 = .ok (.aload_n 0, 1) := by decide +kernel
theorem dL_law_791 : decode cL_law 791 = .ok (.iload_n 3, 1) := by decide +kernel
theorem dL_law_792 : decode cL_law 792 = .ok (.iconst 2, 1) := by decide +kernel
theorem dL_law_793 : decode cL_law 793 = .ok (.iadd, 1) := by decide +kernel
theorem dL_law_794 : decode cL_law 794 = .ok (.iaload, 1) := by decide +kernel
theorem dL_law_795 : decode cL_law 795 = .ok (.aload_n 0, 1) := by decide +kernel
theorem dL_law_796 : decode cL_law 796 = .ok (.iload_n 3, 1) := by decide +kernel
theorem dL_law_797 : decode cL_law 797 = .ok (.iconst 3, 1) := by decide +kernel
theorem dL_law_798 : decode cL_law 798 = .ok (.iadd, 1) := by decide +kernel
theorem dL_law_799 : decode cL_law 799 = .ok (.iaload, 1) := by decide +kernel
theorem dL_law_800 : decode cL_law 800 = .ok (.invokevirtual 97, 3) := by decide +kernel
theorem dL_law_803 : decode cL_law 803 = .ok (.aload_n 2, 1) := by decide +kernel
theorem dL_law_804 : decode cL_law 804 = .ok (.aload_n 0, 1) := by decide +kernel
theorem dL_law_805 : decode cL_law 805 = .ok (.iload_n 3, 1) := by decide +kernel
theorem dL_law_806 : decode cL_law 806 = .ok (.iconst 1, 1) := by decide +kernel
theorem dL_law_807 : decode cL_law 807 = .ok (.iadd, 1) := by decide +kernel
theorem dL_law_808 : decode cL_law 808 = .ok (.iaload, 1) := by decide +kernel
theorem dL_law_809 : decode cL_law 809 = .ok (.aload_n 0, 1) := by decide +kernel
theorem dL_law_810 : decode cL_law 810 = .ok (.iload_n 3, 1) := by decide +kernel
theorem dL_law_811 : decode cL_law 811 = .ok (.iconst 2, 1) := by decide +kernel
theorem dL_law_812 : decode cL_law 812 = .ok (.iadd, 1) := by decide +kernel
theorem dL_law_813 : decode cL_law 813 = .ok (.iaload, 1) := by decide +kernel
theorem dL_law_814 : decode cL_law 814 = .ok (.aload_n 0, 1) := by decide +kernel
theorem dL_law_815 : decode cL_law 815 = .ok (.iload_n 3, 1) := by decide +kernel
theorem dL_law_816 : decode cL_law 816 = .ok (.iconst 3, 1) := by decide +kernel
theorem dL_law_817 : decode cL_law 817 = .ok (.iadd, 1) := by decide +kernel
theorem dL_law_818 : decode cL_law 818 = .ok (.iaload, 1) := by decide +kernel
theorem dL_law_819 : decode cL_law 819 = .ok (.invokevirtual 100, 3) := by decide +kernel
theorem dL_law_822 : decode cL_law 822 = .ok (.if_icmp .eq 450, 3) := by decide +kernel
theorem dL_law_825 : decode cL_law 825 = .ok (.iconst 0, 1) := by decide +kernel
theorem dL_law_826 : decode cL_law 826 = .ok (.ireturn, 1) := by decide +kernel
theorem dL_law_827 : decode cL_law 827 = .ok (.aload_n 1, 1) := by decide +kernel
theorem dL_law_828 : decode cL_law 828 = .ok (.aload_n 0, 1) := by decide +kernel
theorem dL_law_829 : decode cL_law 829 = .ok (.iload_n 3, 1) := by decide +kernel
theorem dL_law_830 : decode cL_law 830 = .ok (.iconst 1, 1) := by decide +kernel
theorem dL_law_831 : decode cL_law 831 = .ok (.iadd, 1) := by decide +kernel
theorem dL_law_832 : decode cL_law 832 = .ok (.iaload, 1) := by decide +kernel
theorem dL_law_833 : decode cL_law 833 = .ok (.aload_n 0, 1) := by decide +kernel
theorem dL_law_834 : decode cL_law 834 = .ok (.iload_n 3, 1) := by decide +kernel
theorem dL_law_835 : decode cL_law 835 = .ok (.iconst 2, 1) := by decide +kernel
theorem dL_law_836 : decode cL_law 836 = .ok (.iadd, 1) := by decide +kernel
theorem dL_law_837 : decode cL_law 837 = .ok (.iaload, 1) := by decide +kernel
theorem dL_law_838 : decode cL_law 838 = .ok (.invokevirtual 101, 3) := by decide +kernel
theorem dL_law_841 : decode cL_law 841 = .ok (.aload_n 2, 1) := by decide +kernel
theorem dL_law_842 : decode cL_law 842 = .ok (.aload_n 0, 1) := by decide +kernel
theorem dL_law_843 : decode cL_law 843 = .ok (.iload_n 3, 1) := by decide +kernel
theorem dL_law_844 : decode cL_law 844 = .ok (.iconst 1, 1) := by decide +kernel
theorem dL_law_845 : decode cL_law 845 = .ok (.iadd, 1) := by decide +kernel
theorem dL_law_846 : decode cL_law 846 = .ok (.iaload, 1) := by decide +kernel
theorem dL_law_847 : decode cL_law 847 = .ok (.aload_n 0, 1) := by decide +kernel
theorem dL_law_848 : decode cL_law 848 = .ok (.iload_n 3, 1) := by decide +kernel
theorem dL_law_849 : decode cL_law 849 = .ok (.iconst 2, 1) := by decide +kernel
theorem dL_law_850 : decode cL_law 850 = .ok (.iadd, 1) := by decide +kernel
theorem dL_law_851 : decode cL_law 851 = .ok (.iaload, 1) := by decide +kernel
theorem dL_law_852 : decode cL_law 852 = .ok (.invokevirtual 104, 3) := by decide +kernel
theorem dL_law_855 : decode cL_law 855 = .ok (.if_icmp .eq 417, 3) := by decide +kernel
theorem dL_law_858 : decode cL_law 858 = .ok (.iconst 0, 1) := by decide +kernel
theorem dL_law_859 : decode cL_law 859 = .ok (.ireturn, 1) := by decide +kernel
theorem dL_law_860 : decode cL_law 860 = .ok (.aload_n 1, 1) := by decide +kernel
theorem dL_law_861 : decode cL_law 861 = .ok (.invokevirtual 105, 3) := by decide +kernel
theorem dL_law_864 : decode cL_law 864 = .ok (.aload_n 2, 1) := by decide +kernel
theorem dL_law_865 : decode cL_law 865 = .ok (.invokevirtual 108, 3) := by decide +kernel
theorem dL_law_868 : decode cL_law 868 = .ok (.if_icmp .eq 404, 3) := by decide +kernel
theorem dL_law_871 : decode cL_law 871 = .ok (.iconst 0, 1) := by decide +kernel
theorem dL_law_872 : decode cL_law 872 = .ok (.ireturn, 1) := by decide +kernel
theorem dL_law_873 : decode cL_law 873 = .ok (.aload_n 1, 1) := by decide +kernel
theorem dL_law_874 : decode cL_law 874 = .ok (.aload_n 0, 1) := by decide +kernel
theorem dL_law_875 : decode cL_law 875 = .ok (.iload_n 3, 1) := by decide +kernel
theorem dL_law_876 : decode cL_law 876 = .ok (.iconst 1, 1) := by decide +kernel
theorem dL_law_877 : decode cL_law 877 = .ok (.iadd, 1) := by decide +kernel
theorem dL_law_878 : decode cL_law 878 = .ok (.iaload, 1) := by decide +kernel
theorem dL_law_879 : decode cL_law 879 = .ok (.invokevirtual 109, 3) := by decide +kernel
theorem dL_law_882 : decode cL_law 882 = .ok (.aload_n 2, 1) := by decide +kernel
theorem dL_law_883 : decode cL_law 883 = .ok (.aload_n 0, 1) := by decide +kernel
theorem dL_law_884 : decode cL_law 884 = .ok (.iload_n 3, 1) := by decide +kernel
theorem dL_law_885 : decode cL_law 885 = .ok (.iconst 1, 1) := by decide +kernel
theorem dL_law_886 : decode cL_law 886 = .ok (.iadd, 1) := by decide +kernel
theorem dL_law_887 : decode cL_law 887 = .ok (.iaload, 1) := by decide +kernel
theorem dL_law_888 : decode cL_law 888 = .ok (.invokevirtual 112, 3) := by decide +kernel
theorem dL_law_891 : decode cL_law 891 = .ok (.if_icmp .eq 381, 3) := by decide +kernel
theorem dL_law_894 : decode cL_law 894 = .ok (.iconst 0, 1) := by decide +kernel
theorem dL_law_895 : decode cL_law 895 = .ok (.ireturn, 1) := by decide +kernel
theorem dL_law_896 : decode cL_law 896 = .ok (.aload_n 1, 1) := by decide +kernel
theorem dL_law_897 : decode cL_law 897 = .ok (.aload_n 0, 1) := by decide +kernel
theorem dL_law_898 : decode cL_law 898 = .ok (.iload_n 3, 1) := by decide +kernel
theorem dL_law_899 : decode cL_law 899 = .ok (.iconst 1, 1) := by decide +kernel
theorem dL_law_900 : decode cL_law 900 = .ok (.iadd, 1) := by decide +kernel
theorem dL_law_901 : decode cL_law 901 = .ok (.iaload, 1) := by decide +kernel
theorem dL_law_902 : decode cL_law 902 = .ok (.invokevirtual 113, 3) := by decide +kernel
theorem dL_law_905 : decode cL_law 905 = .ok (.aload_n 2, 1) := by decide +kernel
theorem dL_law_906 : decode cL_law 906 = .ok (.aload_n 0, 1) := by decide +kernel
theorem dL_law_907 : decode cL_law 907 = .ok (.iload_n 3, 1) := by decide +kernel
theorem dL_law_908 : decode cL_law 908 = .ok (.iconst 1, 1) := by decide +kernel
theorem dL_law_909 : decode cL_law 909 = .ok (.iadd, 1) := by decide +kernel
theorem dL_law_910 : decode cL_law 910 = .ok (.iaload, 1) := by decide +kernel
theorem dL_law_911 : decode cL_law 911 = .ok (.invokevirtual 116, 3) := by decide +kernel
theorem dL_law_914 : decode cL_law 914 = .ok (.if_icmp .eq 358, 3) := by decide +kernel
theorem dL_law_917 : decode cL_law 917 = .ok (.iconst 0, 1) := by decide +kernel
theorem dL_law_918 : decode cL_law 918 = .ok (.ireturn, 1) := by decide +kernel
theorem dL_law_919 : decode cL_law 919 = .ok (.aload_n 1, 1) := by decide +kernel
theorem dL_law_920 : decode cL_law 920 = .ok (.aload_n 0, 1) := by decide +kernel
theorem dL_law_921 : decode cL_law 921 = .ok (.iload_n 3, 1) := by decide +kernel
theorem dL_law_922 : decode cL_law 922 = .ok (.iconst 1, 1) := by decide +kernel
theorem dL_law_923 : decode cL_law 923 = .ok (.iadd, 1) := by decide +kernel
theorem dL_law_924 : decode cL_law 924 = .ok (.iaload, 1) := by decide +kernel
theorem dL_law_925 : decode cL_law 925 = .ok (.invokevirtual 117, 3) := by decide +kernel
theorem dL_law_928 : decode cL_law 928 = .ok (.aload_n 2, 1) := by decide +kernel
theorem dL_law_929 : decode cL_law 929 = .ok (.aload_n 0, 1) := by decide +kernel
theorem dL_law_930 : decode cL_law 930 = .ok (.iload_n 3, 1) := by decide +kernel
theorem dL_law_931 : decode cL_law 931 = .ok (.iconst 1, 1) := by decide +kernel
theorem dL_law_932 : decode cL_law 932 = .ok (.iadd, 1) := by decide +kernel
theorem dL_law_933 : decode cL_law 933 = .ok (.iaload, 1) := by decide +kernel
theorem dL_law_934 : decode cL_law 934 = .ok (.invokevirtual 120, 3) := by decide +kernel
theorem dL_law_937 : decode cL_law 937 = .ok (.if_icmp .eq 335, 3) := by decide +kernel
theorem dL_law_940 : decode cL_law 940 = .ok (.iconst 0, 1) := by decide +kernel
theorem dL_law_941 : decode cL_law 941 = .ok (.ireturn, 1) := by decide +kernel
theorem dL_law_942 : decode cL_law 942 = .ok (.aload_n 1, 1) := by decide +kernel
theorem dL_law_943 : decode cL_law 943 = .ok (.aload_n 0, 1) := by decide +kernel
theorem dL_law_944 : decode cL_law 944 = .ok (.iload_n 3, 1) := by decide +kernel
theorem dL_law_945 : decode cL_law 945 = .ok (.iconst 1, 1) := by decide +kernel
theorem dL_law_946 : decode cL_law 946 = .ok (.iadd, 1) := by decide +kernel
theorem dL_law_947 : decode cL_law 947 = .ok (.iaload, 1) := by decide +kernel
theorem dL_law_948 : decode cL_law 948 = .ok (.aload_n 0, 1) := by decide +kernel
theorem dL_law_949 : decode cL_law 949 = .ok (.iload_n 3, 1) := by decide +kernel
theorem dL_law_950 : decode cL_law 950 = .ok (.iconst 2, 1) := by decide +kernel
theorem dL_law_951 : decode cL_law 951 = .ok (.iadd, 1) := by decide +kernel
theorem dL_law_952 : decode cL_law 952 = .ok (.iaload, 1) := by decide +kernel
theorem dL_law_953 : decode cL_law 953 = .ok (.invokevirtual 121, 3) := by decide +kernel
theorem dL_law_956 : decode cL_law 956 = .ok (.aload_n 2, 1) := by decide +kernel
theorem dL_law_957 : decode cL_law 957 = .ok (.aload_n 0, 1) := by decide +kernel
theorem dL_law_958 : decode cL_law 958 = .ok (.iload_n 3, 1) := by decide +kernel
theorem dL_law_959 : decode cL_law 959 = .ok (.iconst 1, 1) := by decide +kernel
theorem dL_law_960 : decode cL_law 960 = .ok (.iadd, 1) := by decide +kernel
theorem dL_law_961 : decode cL_law 961 = .ok (.iaload, 1) := by decide +kernel
theorem dL_law_962 : decode cL_law 962 = .ok (.aload_n 0, 1) := by decide +kernel
theorem dL_law_963 : decode cL_law 963 = .ok (.iload_n 3, 1) := by decide +kernel
theorem dL_law_964 : decode cL_law 964 = .ok (.iconst 2, 1) := by decide +kernel
theorem dL_law_965 : decode cL_law 965 = .ok (.iadd, 1) := by decide +kernel
theorem dL_law_966 : decode cL_law 966 = .ok (.iaload, 1) := by decide +kernel
theorem dL_law_967 : decode cL_law 967 = .ok (.invokevirtual 124, 3) := by decide +kernel
theorem dL_law_970 : decode cL_law 970 = .ok (.if_icmp .eq 302, 3) := by decide +kernel
theorem dL_law_973 : decode cL_law 973 = .ok (.iconst 0, 1) := by decide +kernel
theorem dL_law_974 : decode cL_law 974 = .ok (.ireturn, 1) := by decide +kernel
theorem dL_law_975 : decode cL_law 975 = .ok (.aload_n 1, 1) := by decide +kernel
theorem dL_law_976 : decode cL_law 976 = .ok (.aload_n 0, 1) := by decide +kernel
theorem dL_law_977 : decode cL_law 977 = .ok (.iload_n 3, 1) := by decide +kernel
theorem dL_law_978 : decode cL_law 978 = .ok (.iconst 1, 1) := by decide +kernel
theorem dL_law_979 : decode cL_law 979 = .ok (.iadd, 1) := by decide +kernel
theorem dL_law_980 : decode cL_law 980 = .ok (.iaload, 1) := by decide +kernel
theorem dL_law_981 : decode cL_law 981 = .ok (.aload_n 0, 1) := by decide +kernel
theorem dL_law_982 : decode cL_law 982 = .ok (.iload_n 3, 1) := by decide +kernel
theorem dL_law_983 : decode cL_law 983 = .ok (.iconst 2, 1) := by decide +kernel
theorem dL_law_984 : decode cL_law 984 = .ok (.iadd, 1) := by decide +kernel
theorem dL_law_985 : decode cL_law 985 = .ok (.iaload, 1) := by decide +kernel
theorem dL_law_986 : decode cL_law 986 = .ok (.invokevirtual 125, 3) := by decide +kernel
theorem dL_law_989 : decode cL_law 989 = .ok (.aload_n 2, 1) := by decide +kernel
theorem dL_law_990 : decode cL_law 990 = .ok (.aload_n 0, 1) := by decide +kernel
theorem dL_law_991 : decode cL_law 991 = .ok (.iload_n 3, 1) := by decide +kernel
theorem dL_law_992 : decode cL_law 992 = .ok (.iconst 1, 1) := by decide +kernel
theorem dL_law_993 : decode cL_law 993 = .ok (.iadd, 1) := by decide +kernel
theorem dL_law_994 : decode cL_law 994 = .ok (.iaload, 1) := by decide +kernel
theorem dL_law_995 : decode cL_law 995 = .ok (.aload_n 0, 1) := by decide +kernel
theorem dL_law_996 : decode cL_law 996 = .ok (.iload_n 3, 1) := by decide +kernel
theorem dL_law_997 : decode cL_law 997 = .ok (.iconst 2, 1) := by decide +kernel
theorem dL_law_998 : decode cL_law 998 = .ok (.iadd, 1) := by decide +kernel
theorem dL_law_999 : decode cL_law 999 = .ok (.iaload, 1) := by decide +kernel
theorem dL_law_1000 : decode cL_law 1000 = .ok (.invokevirtual 128, 3) := by decide +kernel
theorem dL_law_1003 : decode cL_law 1003 = .ok (.if_icmp .eq 269, 3) := by decide +kernel
theorem dL_law_1006 : decode cL_law 1006 = .ok (.iconst 0, 1) := by decide +kernel
theorem dL_law_1007 : decode cL_law 1007 = .ok (.ireturn, 1) := by decide +kernel
theorem dL_law_1008 : decode cL_law 1008 = .ok (.aload_n 1, 1) := by decide +kernel
theorem dL_law_1009 : decode cL_law 1009 = .ok (.aload_n 0, 1) := by decide +kernel
theorem dL_law_1010 : decode cL_law 1010 = .ok (.iload_n 3, 1) := by decide +kernel
theorem dL_law_1011 : decode cL_law 1011 = .ok (.iconst 1, 1) := by decide +kernel
theorem dL_law_1012 : decode cL_law 1012 = .ok (.iadd, 1) := by decide +kernel
theorem dL_law_1013 : decode cL_law 1013 = .ok (.iaload, 1) := by decide +kernel
theorem dL_law_1014 : decode cL_law 1014 = .ok (.aload_n 0, 1) := by decide +kernel
theorem dL_law_1015 : decode cL_law 1015 = .ok (.iload_n 3, 1) := by decide +kernel
theorem dL_law_1016 : decode cL_law 1016 = .ok (.iconst 2, 1) := by decide +kernel
theorem dL_law_1017 : decode cL_law 1017 = .ok (.iadd, 1) := by decide +kernel
theorem dL_law_1018 : decode cL_law 1018 = .ok (.iaload, 1) := by decide +kernel
theorem dL_law_1019 : decode cL_law 1019 = .ok (.aload_n 0, 1) := by decide +kernel
theorem dL_law_1020 : decode cL_law 1020 = .ok (.iload_n 3, 1) := by decide +kernel
theorem dL_law_1021 : decode cL_law 1021 = .ok (.iconst 3, 1) := by decide +kernel
theorem dL_law_1022 : decode cL_law 1022 = .ok (.iadd, 1) := by decide +kernel
theorem dL_law_1023 : decode cL_law 1023 = .ok (.iaload, 1) := by decide +kernel
theorem dL_law_1024 : decode cL_law 1024 = .ok (.invokevirtual 129, 3) := by decide +kernel
theorem dL_law_1027 : decode cL_law 1027 = .ok (.aload_n 2, 1) := by decide +kernel
theorem dL_law_1028 : decode cL_law 1028 = .ok (.aload_n 0, 1) := by decide +kernel
theorem dL_law_1029 : decode cL_law 1029 = .ok (.iload_n 3, 1) := by decide +kernel
theorem dL_law_1030 : decode cL_law 1030 = .ok (.iconst 1, 1) := by decide +kernel
theorem dL_law_1031 : decode cL_law 1031 = .ok (.iadd, 1) := by decide +kernel
theorem dL_law_1032 : decode cL_law 1032 = .ok (.iaload, 1) := by decide +kernel
theorem dL_law_1033 : decode cL_law 1033 = .ok (.aload_n 0, 1) := by decide +kernel
theorem dL_law_1034 : decode cL_law 1034 = .ok (.iload_n 3, 1) := by decide +kernel
theorem dL_law_1035 : decode cL_law 1035 = .ok (.iconst 2, 1) := by decide +kernel
theorem dL_law_1036 : decode cL_law 1036 = .ok (.iadd, 1) := by decide +kernel
theorem dL_law_1037 : decode cL_law 1037 = .ok (.iaload, 1) := by decide +kernel
theorem dL_law_1038 : decode cL_law 1038 = .ok (.aload_n 0, 1) := by decide +kernel
theorem dL_law_1039 : decode cL_law 1039 = .ok (.iload_n 3, 1) := by decide +kernel
theorem dL_law_1040 : decode cL_law 1040 = .ok (.iconst 3, 1) := by decide +kernel
theorem dL_law_1041 : decode cL_law 1041 = .ok (.iadd, 1) := by decide +kernel
theorem dL_law_1042 : decode cL_law 1042 = .ok (.iaload, 1) := by decide +kernel
theorem dL_law_1043 : decode cL_law 1043 = .ok (.invokevirtual 132, 3) := by decide +kernel
theorem dL_law_1046 : decode cL_law 1046 = .ok (.if_icmp .eq 226, 3) := by decide +kernel
theorem dL_law_1049 : decode cL_law 1049 = .ok (.iconst 0, 1) := by decide +kernel
theorem dL_law_1050 : decode cL_law 1050 = .ok (.ireturn, 1) := by decide +kernel
theorem dL_law_1051 : decode cL_law 1051 = .ok (.aload_n 1, 1) := by decide +kernel
theorem dL_law_1052 : decode cL_law 1052 = .ok (.invokevirtual 133, 3) := by decide +kernel
theorem dL_law_1055 : decode cL_law 1055 = .ok (.aload_n 2, 1) := by decide +kernel
theorem dL_law_1056 : decode cL_law 1056 = .ok (.invokevirtual 136, 3) := by decide +kernel
theorem dL_law_1059 : decode cL_law 1059 = .ok (.if_icmp .eq 213, 3) := by decide +kernel
theorem dL_law_1062 : decode cL_law 1062 = .ok (.iconst 0, 1) := by decide +kernel
theorem dL_law_1063 : decode cL_law 1063 = .ok (.ireturn, 1) := by decide +kernel
theorem dL_law_1064 : decode cL_law 1064 = .ok (.aload_n 1, 1) := by decide +kernel
theorem dL_law_1065 : decode cL_law 1065 = .ok (.aload_n 0, 1) := by decide +kernel
theorem dL_law_1066 : decode cL_law 1066 = .ok (.iload_n 3, 1) := by decide +kernel
theorem dL_law_1067 : decode cL_law 1067 = .ok (.iconst 1, 1) := by decide +kernel
theorem dL_law_1068 : decode cL_law 1068 = .ok (.iadd, 1) := by decide +kernel
theorem dL_law_1069 : decode cL_law 1069 = .ok (.iaload, 1) := by decide +kernel
theorem dL_law_1070 : decode cL_law 1070 = .ok (.invokevirtual 137, 3) := by decide +kernel
theorem dL_law_1073 : decode cL_law 1073 = .ok (.aload_n 2, 1) := by decide +kernel
theorem dL_law_1074 : decode cL_law 1074 = .ok (.aload_n 0, 1) := by decide +kernel
theorem dL_law_1075 : decode cL_law 1075 = .ok (.iload_n 3, 1) := by decide +kernel
theorem dL_law_1076 : decode cL_law 1076 = .ok (.iconst 1, 1) := by decide +kernel
theorem dL_law_1077 : decode cL_law 1077 = .ok (.iadd, 1) := by decide +kernel
theorem dL_law_1078 : decode cL_law 1078 = .ok (.iaload, 1) := by decide +kernel
theorem dL_law_1079 : decode cL_law 1079 = .ok (.invokevirtual 140, 3) := by decide +kernel
theorem dL_law_1082 : decode cL_law 1082 = .ok (.if_icmp .eq 190, 3) := by decide +kernel
theorem dL_law_1085 : decode cL_law 1085 = .ok (.iconst 0, 1) := by decide +kernel
theorem dL_law_1086 : decode cL_law 1086 = .ok (.ireturn, 1) := by decide +kernel
theorem dL_law_1087 : decode cL_law 1087 = .ok (.aload_n 1, 1) := by decide +kernel
theorem dL_law_1088 : decode cL_law 1088 = .ok (.aload_n 0, 1) := by decide +kernel
theorem dL_law_1089 : decode cL_law 1089 = .ok (.iload_n 3, 1) := by decide +kernel
theorem dL_law_1090 : decode cL_law 1090 = .ok (.iconst 1, 1) := by decide +kernel
theorem dL_law_1091 : decode cL_law 1091 = .ok (.iadd, 1) := by decide +kernel
theorem dL_law_1092 : decode cL_law 1092 = .ok (.iaload, 1) := by decide +kernel
theorem dL_law_1093 : decode cL_law 1093 = .ok (.invokevirtual 141, 3) := by decide +kernel
theorem dL_law_1096 : decode cL_law 1096 = .ok (.aload_n 2, 1) := by decide +kernel
theorem dL_law_1097 : decode cL_law 1097 = .ok (.aload_n 0, 1) := by decide +kernel
theorem dL_law_1098 : decode cL_law 1098 = .ok (.iload_n 3, 1) := by decide +kernel
theorem dL_law_1099 : decode cL_law 1099 = .ok (.iconst 1, 1) := by decide +kernel
theorem dL_law_1100 : decode cL_law 1100 = .ok (.iadd, 1) := by decide +kernel
theorem dL_law_1101 : decode cL_law 1101 = .ok (.iaload, 1) := by decide +kernel
theorem dL_law_1102 : decode cL_law 1102 = .ok (.invokevirtual 144, 3) := by decide +kernel
theorem dL_law_1105 : decode cL_law 1105 = .ok (.if_icmp .eq 167, 3) := by decide +kernel
theorem dL_law_1108 : decode cL_law 1108 = .ok (.iconst 0, 1) := by decide +kernel
theorem dL_law_1109 : decode cL_law 1109 = .ok (.ireturn, 1) := by decide +kernel
theorem dL_law_1110 : decode cL_law 1110 = .ok (.aload_n 1, 1) := by decide +kernel
theorem dL_law_1111 : decode cL_law 1111 = .ok (.aload_n 0, 1) := by decide +kernel
theorem dL_law_1112 : decode cL_law 1112 = .ok (.iload_n 3, 1) := by decide +kernel
theorem dL_law_1113 : decode cL_law 1113 = .ok (.iconst 1, 1) := by decide +kernel
theorem dL_law_1114 : decode cL_law 1114 = .ok (.iadd, 1) := by decide +kernel
theorem dL_law_1115 : decode cL_law 1115 = .ok (.iaload, 1) := by decide +kernel
theorem dL_law_1116 : decode cL_law 1116 = .ok (.aload_n 0, 1) := by decide +kernel
theorem dL_law_1117 : decode cL_law 1117 = .ok (.iload_n 3, 1) := by decide +kernel
theorem dL_law_1118 : decode cL_law 1118 = .ok (.iconst 2, 1) := by decide +kernel
theorem dL_law_1119 : decode cL_law 1119 = .ok (.iadd, 1) := by decide +kernel
theorem dL_law_1120 : decode cL_law 1120 = .ok (.iaload, 1) := by decide +kernel
theorem dL_law_1121 : decode cL_law 1121 = .ok (.aload_n 0, 1) := by decide +kernel
theorem dL_law_1122 : decode cL_law 1122 = .ok (.iload_n 3, 1) := by decide +kernel
theorem dL_law_1123 : decode cL_law 1123 = .ok (.iconst 3, 1) := by decide +kernel
theorem dL_law_1124 : decode cL_law 1124 = .ok (.iadd, 1) := by decide +kernel
theorem dL_law_1125 : decode cL_law 1125 = .ok (.iaload, 1) := by decide +kernel
theorem dL_law_1126 : decode cL_law 1126 = .ok (.invokevirtual 145, 3) := by decide +kernel
theorem dL_law_1129 : decode cL_law 1129 = .ok (.aload_n 2, 1) := by decide +kernel
theorem dL_law_1130 : decode cL_law 1130 = .ok (.aload_n 0, 1) := by decide +kernel
theorem dL_law_1131 : decode cL_law 1131 = .ok (.iload_n 3, 1) := by decide +kernel
theorem dL_law_1132 : decode cL_law 1132 = .ok (.iconst 1, 1) := by decide +kernel
theorem dL_law_1133 : decode cL_law 1133 = .ok (.iadd, 1) := by decide +kernel
theorem dL_law_1134 : decode cL_law 1134 = .ok (.iaload, 1) := by decide +kernel
theorem dL_law_1135 : decode cL_law 1135 = .ok (.aload_n 0, 1) := by decide +kernel
theorem dL_law_1136 : decode cL_law 1136 = .ok (.iload_n 3, 1) := by decide +kernel
theorem dL_law_1137 : decode cL_law 1137 = .ok (.iconst 2, 1) := by decide +kernel
theorem dL_law_1138 : decode cL_law 1138 = .ok (.iadd, 1) := by decide +kernel
theorem dL_law_1139 : decode cL_law 1139 = .ok (.iaload, 1) := by decide +kernel
theorem dL_law_1140 : decode cL_law 1140 = .ok (.aload_n 0, 1) := by decide +kernel
theorem dL_law_1141 : decode cL_law 1141 = .ok (.iload_n 3, 1) := by decide +kernel
theorem dL_law_1142 : decode cL_law 1142 = .ok (.iconst 3, 1) := by decide +kernel
theorem dL_law_1143 : decode cL_law 1143 = .ok (.iadd, 1) := by decide +kernel
theorem dL_law_1144 : decode cL_law 1144 = .ok (.iaload, 1) := by decide +kernel
theorem dL_law_1145 : decode cL_law 1145 = .ok (.invokevirtual 149, 3) := by decide +kernel
theorem dL_law_1148 : decode cL_law 1148 = .ok (.lcmp, 1) := by decide +kernel
theorem dL_law_1149 : decode cL_law 1149 = .ok (.ifCond .eq 123, 3) := by decide +kernel
theorem dL_law_1152 : decode cL_law 1152 = .ok (.iconst 0, 1) := by decide +kernel
theorem dL_law_1153 : decode cL_law 1153 = .ok (.ireturn, 1) := by decide +kernel
theorem dL_law_1154 : decode cL_law 1154 = .ok (.aload_n 1, 1) := by decide +kernel
theorem dL_law_1155 : decode cL_law 1155 = .ok (.aload_n 0, 1) := by decide +kernel
theorem dL_law_1156 : decode cL_law 1156 = .ok (.iload_n 3, 1) := by decide +kernel
theorem dL_law_1157 : decode cL_law 1157 = .ok (.iconst 1, 1) := by decide +kernel
theorem dL_law_1158 : decode cL_law 1158 = .ok (.iadd, 1) := by decide +kernel
theorem dL_law_1159 : decode cL_law 1159 = .ok (.iaload, 1) := by decide +kernel
theorem dL_law_1160 : decode cL_law 1160 = .ok (.invokevirtual 150, 3) := by decide +kernel
theorem dL_law_1163 : decode cL_law 1163 = .ok (.aload_n 2, 1) := by decide +kernel
theorem dL_law_1164 : decode cL_law 1164 = .ok (.aload_n 0, 1) := by decide +kernel
theorem dL_law_1165 : decode cL_law 1165 = .ok (.iload_n 3, 1) := by decide +kernel
theorem dL_law_1166 : decode cL_law 1166 = .ok (.iconst 1, 1) := by decide +kernel
theorem dL_law_1167 : decode cL_law 1167 = .ok (.iadd, 1) := by decide +kernel
theorem dL_law_1168 : decode cL_law 1168 = .ok (.iaload, 1) := by decide +kernel
theorem dL_law_1169 : decode cL_law 1169 = .ok (.invokevirtual 153, 3) := by decide +kernel
theorem dL_law_1172 : decode cL_law 1172 = .ok (.if_icmp .eq 100, 3) := by decide +kernel
theorem dL_law_1175 : decode cL_law 1175 = .ok (.iconst 0, 1) := by decide +kernel
theorem dL_law_1176 : decode cL_law 1176 = .ok (.ireturn, 1) := by decide +kernel
theorem dL_law_1177 : decode cL_law 1177 = .ok (.aload_n 1, 1) := by decide +kernel
theorem dL_law_1178 : decode cL_law 1178 = .ok (.invokevirtual 154, 3) := by decide +kernel
theorem dL_law_1181 : decode cL_law 1181 = .ok (.aload_n 2, 1) := by decide +kernel
theorem dL_law_1182 : decode cL_law 1182 = .ok (.invokevirtual 157, 3) := by decide +kernel
theorem dL_law_1185 : decode cL_law 1185 = .ok (.if_icmp .eq 87, 3) := by decide +kernel
theorem dL_law_1188 : decode cL_law 1188 = .ok (.iconst 0, 1) := by decide +kernel
theorem dL_law_1189 : decode cL_law 1189 = .ok (.ireturn, 1) := by decide +kernel
theorem dL_law_1190 : decode cL_law 1190 = .ok (.aload_n 1, 1) := by decide +kernel
theorem dL_law_1191 : decode cL_law 1191 = .ok (.aload_n 0, 1) := by decide +kernel
theorem dL_law_1192 : decode cL_law 1192 = .ok (.iload_n 3, 1) := by decide +kernel
theorem dL_law_1193 : decode cL_law 1193 = .ok (.iconst 1, 1) := by decide +kernel
theorem dL_law_1194 : decode cL_law 1194 = .ok (.iadd, 1) := by decide +kernel
theorem dL_law_1195 : decode cL_law 1195 = .ok (.iaload, 1) := by decide +kernel
theorem dL_law_1196 : decode cL_law 1196 = .ok (.aload_n 0, 1) := by decide +kernel
theorem dL_law_1197 : decode cL_law 1197 = .ok (.iload_n 3, 1) := by decide +kernel
theorem dL_law_1198 : decode cL_law 1198 = .ok (.iconst 2, 1) := by decide +kernel
theorem dL_law_1199 : decode cL_law 1199 = .ok (.iadd, 1) := by decide +kernel
theorem dL_law_1200 : decode cL_law 1200 = .ok (.iaload, 1) := by decide +kernel
theorem dL_law_1201 : decode cL_law 1201 = .ok (.invokevirtual 158, 3) := by decide +kernel
theorem dL_law_1204 : decode cL_law 1204 = .ok (.aload_n 2, 1) := by decide +kernel
theorem dL_law_1205 : decode cL_law 1205 = .ok (.aload_n 0, 1) := by decide +kernel
theorem dL_law_1206 : decode cL_law 1206 = .ok (.iload_n 3, 1) := by decide +kernel
theorem dL_law_1207 : decode cL_law 1207 = .ok (.iconst 1, 1) := by decide +kernel
theorem dL_law_1208 : decode cL_law 1208 = .ok (.iadd, 1) := by decide +kernel
theorem dL_law_1209 : decode cL_law 1209 = .ok (.iaload, 1) := by decide +kernel
theorem dL_law_1210 : decode cL_law 1210 = .ok (.aload_n 0, 1) := by decide +kernel
theorem dL_law_1211 : decode cL_law 1211 = .ok (.iload_n 3, 1) := by decide +kernel
theorem dL_law_1212 : decode cL_law 1212 = .ok (.iconst 2, 1) := by decide +kernel
theorem dL_law_1213 : decode cL_law 1213 = .ok (.iadd, 1) := by decide +kernel
theorem dL_law_1214 : decode cL_law 1214 = .ok (.iaload, 1) := by decide +kernel
theorem dL_law_1215 : decode cL_law 1215 = .ok (.invokevirtual 161, 3) := by decide +kernel
theorem dL_law_1218 : decode cL_law 1218 = .ok (.if_icmp .eq 54, 3) := by decide +kernel
theorem dL_law_1221 : decode cL_law 1221 = .ok (.iconst 0, 1) := by decide +kernel
theorem dL_law_1222 : decode cL_law 1222 = .ok (.ireturn, 1) := by decide +kernel
theorem dL_law_1223 : decode cL_law 1223 = .ok (.aload_n 1, 1) := by decide +kernel
theorem dL_law_1224 : decode cL_law 1224 = .ok (.invokevirtual 162, 3) := by decide +kernel
theorem dL_law_1227 : decode cL_law 1227 = .ok (.aload_n 2, 1) := by decide +kernel
theorem dL_law_1228 : decode cL_law 1228 = .ok (.invokevirtual 165, 3) := by decide +kernel
theorem dL_law_1231 : decode cL_law 1231 = .ok (.if_icmp .eq 41, 3) := by decide +kernel
theorem dL_law_1234 : decode cL_law 1234 = .ok (.iconst 0, 1) := by decide +kernel
theorem dL_law_1235 : decode cL_law 1235 = .ok (.ireturn, 1) := by decide +kernel
theorem dL_law_1236 : decode cL_law 1236 = .ok (.aload_n 1, 1) := by decide +kernel
theorem dL_law_1237 : decode cL_law 1237 = .ok (.invokevirtual 166, 3) := by decide +kernel
theorem dL_law_1240 : decode cL_law 1240 = .ok (.aload_n 2, 1) := by decide +kernel
theorem dL_law_1241 : decode cL_law 1241 = .ok (.invokevirtual 169, 3) := by decide +kernel
theorem dL_law_1244 : decode cL_law 1244 = .ok (.if_icmp .eq 28, 3) := by decide +kernel
theorem dL_law_1247 : decode cL_law 1247 = .ok (.iconst 0, 1) := by decide +kernel
theorem dL_law_1248 : decode cL_law 1248 = .ok (.ireturn, 1) := by decide +kernel
theorem dL_law_1249 : decode cL_law 1249 = .ok (.aload_n 1, 1) := by decide +kernel
theorem dL_law_1250 : decode cL_law 1250 = .ok (.aload_n 0, 1) := by decide +kernel
theorem dL_law_1251 : decode cL_law 1251 = .ok (.iload_n 3, 1) := by decide +kernel
theorem dL_law_1252 : decode cL_law 1252 = .ok (.iconst 1, 1) := by decide +kernel
theorem dL_law_1253 : decode cL_law 1253 = .ok (.iadd, 1) := by decide +kernel
theorem dL_law_1254 : decode cL_law 1254 = .ok (.iaload, 1) := by decide +kernel
theorem dL_law_1255 : decode cL_law 1255 = .ok (.invokevirtual 170, 3) := by decide +kernel
theorem dL_law_1258 : decode cL_law 1258 = .ok (.aload_n 2, 1) := by decide +kernel
theorem dL_law_1259 : decode cL_law 1259 = .ok (.aload_n 0, 1) := by decide +kernel
theorem dL_law_1260 : decode cL_law 1260 = .ok (.iload_n 3, 1) := by decide +kernel
theorem dL_law_1261 : decode cL_law 1261 = .ok (.iconst 1, 1) := by decide +kernel
theorem dL_law_1262 : decode cL_law 1262 = .ok (.iadd, 1) := by decide +kernel
theorem dL_law_1263 : decode cL_law 1263 = .ok (.iaload, 1) := by decide +kernel
theorem dL_law_1264 : decode cL_law 1264 = .ok (.invokevirtual 173, 3) := by decide +kernel
theorem dL_law_1267 : decode cL_law 1267 = .ok (.if_icmp .eq 5, 3) := by decide +kernel
theorem dL_law_1270 : decode cL_law 1270 = .ok (.iconst 0, 1) := by decide +kernel
theorem dL_law_1271 : decode cL_law 1271 = .ok (.ireturn, 1) := by decide +kernel
theorem dL_law_1272 : decode cL_law 1272 = .ok (.iinc 3 4, 3) := by decide +kernel
theorem dL_law_1275 : decode cL_law 1275 = .ok (.goto (-1257), 3) := by decide +kernel
theorem dL_law_1278 : decode cL_law 1278 = .ok (.iconst 1, 1) := by decide +kernel
theorem dL_law_1279 : decode cL_law 1279 = .ok (.ireturn, 1) := by decide +kernel
def idsC : List (Nat × Nat) := [(0, 0), (1, 6), (1, 7), (1, 8), (1, 9), (1, 10), (1, 11), (1, 12), (1, 13), (1, 14), (1, 15), (1, 16), (1, 17), (1, 18), (1, 19), (1, 20), (1, 21), (1, 22), (1, 23), (1, 24), (1, 25), (1, 26), (1, 27), (1, 28), (2, 6), (2, 7), (2, 8), (2, 9), (2, 10), (2, 11), (2, 12), (2, 13), (2, 14), (2, 15), (2, 16), (2, 17), (2, 18), (2, 19), (2, 20), (2, 21), (2, 22), (2, 23), (2, 24), (2, 25), (2, 26), (2, 27), (2, 28), (3, 6), (3, 7), (3, 8), (3, 9), (3, 10), (3, 11), (3, 12), (3, 13), (3, 14), (3, 15), (3, 16), (3, 17), (3, 18), (3, 19), (3, 20), (3, 21), (3, 22), (3, 23), (3, 24), (3, 25), (3, 26), (3, 27), (3, 28), (0, 4), (0, 5), (0, 1), (0, 2), (0, 3)]
def idsM : List (Nat × Nat) := [(0, 29), (0, 30), (0, 31), (0, 32), (0, 33), (0, 34), (0, 35), (0, 36), (0, 37), (0, 38), (0, 39), (0, 40), (0, 41), (0, 42), (0, 43), (0, 44), (0, 45), (0, 46), (0, 47), (0, 48), (0, 49), (0, 50), (0, 51), (0, 52), (0, 53), (0, 54), (0, 55), (0, 56)]
def idsA : List (Nat × Nat) := idsC ++ idsM
theorem nd_C : Ndp idsC := Ndp.of _ (by decide +kernel)
theorem nd_M : Ndp idsM := Ndp.of _ (by decide +kernel)
theorem nd_A : Ndp idsA := Ndp.of _ (by decide +kernel)
theorem sub_C : ∀ j ∈ idsC, j ∈ idsA := fun j h => List.mem_append_left _ h
theorem sub_M : ∀ j ∈ idsM, j ∈ idsA := fun j h => List.mem_append_right _ h
theorem dis_CM : ∀ j ∈ idsM, j ∉ idsC := by decide +kernel
theorem inr_of {ids : List (Nat × Nat)} {h a b : Nat} (q : (List.range (b + 1)).all (fun m => decide (m < a) || decide ((h, m) ∈ ids)) = true) : InR ids h a b := by
  intro m h1 h2
  have h3 := List.all_eq_true.mp q m (List.mem_range.mpr (by omega))
  simp only [Bool.or_eq_true, decide_eq_true_eq] at h3
  exact h3.resolve_left (by omega)
theorem iC0 : InR idsC 0 0 5 := inr_of (by decide +kernel)
theorem iC1 : InR idsC 1 6 28 := inr_of (by decide +kernel)
theorem iC2 : InR idsC 2 6 28 := inr_of (by decide +kernel)
theorem iC3 : InR idsC 3 6 28 := inr_of (by decide +kernel)
theorem iM0 : InR idsM 0 29 56 := inr_of (by decide +kernel)
abbrev mL (N : Nat) (xs : Nat → Int32) : MI := (cL_law, 4, RL, ret, 11, 424, scrX N xs idsA)
abbrev locL (k : Nat) : List (Option AV) := [some (aR (7, 0)), some (aR (0, 0)), some (aR (0, 29)), some (aI (nI k))]
def phiL : Option AV → Sg → Prop := fun r _ => r = some (aI 1)
theorem A_ret {M : MI} {ids : List (Nat × Nat)} {Φ : Option AV → Sg → Prop} {pc : Nat} {L : List (Option AV)} {r : Option AV} {σ : Sg} (h : Φ r σ) (hd : retD M pc r) : Aj M ids Φ pc L r.toList σ := by
  intro p l e R s m args below meth c cells slots Q D cI ad hF hR H locs ls hP hS hl
  exact hR.2 r σ pc H locs ls h hd hP hS
theorem A_weak {M : MI} {ids : List (Nat × Nat)} {Φ : Option AV → Sg → Prop} {pc : Nat} {L L' : List (Option AV)} {S : List AV} {σ : Sg} (h : leL L' L) (k : Aj M ids Φ pc L' S σ) : Aj M ids Φ pc L S σ := by
  intro p l e R s m args below meth c cells slots Q D cI ad hF hR H locs ls hP hS hl
  exact k p l e R s m args below meth c cells slots Q D cI ad hF hR H locs ls hP hS (lv_leA hl h)
/-- a state whose cells are the class's at σ, the reference's at τ -/
def ag (ρ σ τ : Sg) : Prop := (∀ j ∈ idsC, ρ j = σ j) ∧ ∀ j ∈ idsM, ρ j = τ j
theorem ag_C {ρ σ τ σ' : Sg} (h : ag ρ σ τ) : ∀ j ∈ idsM, mrg idsC σ' ρ j = τ j := fun j hj => (if_neg (dis_CM j hj)).trans (h.2 j hj)
theorem ag_M {ρ σ τ σ' τ' : Sg} (_ : ag ρ σ τ) : ag (mrg idsM τ' (mrg idsC σ' ρ)) σ' τ' := ⟨fun j hj => (if_neg (fun h => dis_CM j h hj)).trans (if_pos hj), fun j hj => if_pos hj⟩
def E_feed (Rl : Sg → Sg → Prop) : Prop := ∀ (a : Int32) (σ τ : Sg), Rl σ τ → ∃ (r : Int32) (σ' τ' : Sg), f_X6_feed a σ = some (r, σ') ∧ f_X7_feed a τ = some (r, τ') ∧ Rl σ' τ'
def E_front (Rl : Sg → Sg → Prop) : Prop := ∀ (σ τ : Sg), Rl σ τ → ∃ (r : Int32) (σ' τ' : Sg), f_X6_front σ = some (r, σ') ∧ f_X7_front τ = some (r, τ') ∧ Rl σ' τ'
def E_flat (Rl : Sg → Sg → Prop) : Prop := ∀ (a b : Int32) (σ τ : Sg), Rl σ τ → ∃ (r : Int32) (σ' τ' : Sg), f_X6_flat a b σ = some (r, σ') ∧ f_X7_flat a b τ = some (r, τ') ∧ Rl σ' τ'
def E_tenant (Rl : Sg → Sg → Prop) : Prop := ∀ (a b : Int32) (σ τ : Sg), Rl σ τ → ∃ (r : Int32) (σ' τ' : Sg), f_X6_tenant a b σ = some (r, σ') ∧ f_X7_tenant a b τ = some (r, τ') ∧ Rl σ' τ'
def E_anger (Rl : Sg → Sg → Prop) : Prop := ∀ (a b : Int32) (σ τ : Sg), Rl σ τ → ∃ (r : Int32) (σ' τ' : Sg), f_X6_anger a b σ = some (r, σ') ∧ f_X7_anger a b τ = some (r, τ') ∧ Rl σ' τ'
def E_habit (Rl : Sg → Sg → Prop) : Prop := ∀ (a b : Int32) (σ τ : Sg), Rl σ τ → ∃ (r : Int32) (σ' τ' : Sg), f_X6_habit a b σ = some (r, σ') ∧ f_X7_habit a b τ = some (r, τ') ∧ Rl σ' τ'
def E_put (Rl : Sg → Sg → Prop) : Prop := ∀ (a b : Int32) (σ τ : Sg), Rl σ τ → ∃ (r : Int32) (σ' τ' : Sg), f_X6_put a b σ = some (r, σ') ∧ f_X7_put a b τ = some (r, τ') ∧ Rl σ' τ'
def E_saucer (Rl : Sg → Sg → Prop) : Prop := ∀ (a b : Int32) (σ τ : Sg), Rl σ τ → ∃ (r : Int32) (σ' τ' : Sg), f_X6_saucer a b σ = some (r, σ') ∧ f_X7_saucer a b τ = some (r, τ') ∧ Rl σ' τ'
def E_awning (Rl : Sg → Sg → Prop) : Prop := ∀ (a b : Int32) (σ τ : Sg), Rl σ τ → ∃ (r : Int32) (σ' τ' : Sg), f_X6_awning a b σ = some (r, σ') ∧ f_X7_awning a b τ = some (r, τ') ∧ Rl σ' τ'
def E_wash (Rl : Sg → Sg → Prop) : Prop := ∀ (a b c : Int32) (σ τ : Sg), Rl σ τ → ∃ (r : Int32) (σ' τ' : Sg), f_X6_wash a b c σ = some (r, σ') ∧ f_X7_wash a b c τ = some (r, τ') ∧ Rl σ' τ'
def E_wind (Rl : Sg → Sg → Prop) : Prop := ∀ (a : Int32) (σ τ : Sg), Rl σ τ → ∃ (r : Int32) (σ' τ' : Sg), f_X6_wind a σ = some (r, σ') ∧ f_X7_wind a τ = some (r, τ') ∧ Rl σ' τ'
def E_move (Rl : Sg → Sg → Prop) : Prop := ∀ (a b : Int32) (σ τ : Sg), Rl σ τ → ∃ (r : Int32) (σ' τ' : Sg), f_X6_move a b σ = some (r, σ') ∧ f_X7_move a b τ = some (r, τ') ∧ Rl σ' τ'
def E_rain (Rl : Sg → Sg → Prop) : Prop := ∀ (σ τ : Sg), Rl σ τ → ∃ (r : Int32) (σ' τ' : Sg), f_X6_rain σ = some (r, σ') ∧ f_X7_rain τ = some (r, τ') ∧ Rl σ' τ'
def E_week (Rl : Sg → Sg → Prop) : Prop := ∀ (σ τ : Sg), Rl σ τ → ∃ (r : Int32) (σ' τ' : Sg), f_X6_week σ = some (r, σ') ∧ f_X7_week τ = some (r, τ') ∧ Rl σ' τ'
def E_steps (Rl : Sg → Sg → Prop) : Prop := ∀ (a b : Int32) (σ τ : Sg), Rl σ τ → ∃ (r : Int32) (σ' τ' : Sg), f_X6_steps a b σ = some (r, σ') ∧ f_X7_steps a b τ = some (r, τ') ∧ Rl σ' τ'
def E_down (Rl : Sg → Sg → Prop) : Prop := ∀ (a : Int32) (σ τ : Sg), Rl σ τ → ∃ (r : Int32) (σ' τ' : Sg), f_X6_down a σ = some (r, σ') ∧ f_X7_down a τ = some (r, τ') ∧ Rl σ' τ'
def E_whom (Rl : Sg → Sg → Prop) : Prop := ∀ (a b : Int32) (σ τ : Sg), Rl σ τ → ∃ (r : Int32) (σ' τ' : Sg), f_X6_whom a b σ = some (r, σ') ∧ f_X7_whom a b τ = some (r, τ') ∧ Rl σ' τ'
def E_does (Rl : Sg → Sg → Prop) : Prop := ∀ (a b : Int32) (σ τ : Sg), Rl σ τ → ∃ (r : Int32) (σ' τ' : Sg), f_X6_does a b σ = some (r, σ') ∧ f_X7_does a b τ = some (r, τ') ∧ Rl σ' τ'
def E_harmed (Rl : Sg → Sg → Prop) : Prop := ∀ (a b : Int32) (σ τ : Sg), Rl σ τ → ∃ (r : Int32) (σ' τ' : Sg), f_X6_harmed a b σ = some (r, σ') ∧ f_X7_harmed a b τ = some (r, τ') ∧ Rl σ' τ'
def E_least (Rl : Sg → Sg → Prop) : Prop := ∀ (a b : Int32) (σ τ : Sg), Rl σ τ → ∃ (r : Int32) (σ' τ' : Sg), f_X6_least a b σ = some (r, σ') ∧ f_X7_least a b τ = some (r, τ') ∧ Rl σ' τ'
def E_hours (Rl : Sg → Sg → Prop) : Prop := ∀ (a b c : Int32) (σ τ : Sg), Rl σ τ → ∃ (r : Int32) (σ' τ' : Sg), f_X6_hours a b c σ = some (r, σ') ∧ f_X7_hours a b c τ = some (r, τ') ∧ Rl σ' τ'
def E_quiet (Rl : Sg → Sg → Prop) : Prop := ∀ (a b : Int32) (σ τ : Sg), Rl σ τ → ∃ (r : Int32) (σ' τ' : Sg), f_X6_quiet a b σ = some (r, σ') ∧ f_X7_quiet a b τ = some (r, τ') ∧ Rl σ' τ'
def E_rule (Rl : Sg → Sg → Prop) : Prop := ∀ (σ τ : Sg), Rl σ τ → ∃ (r : Int32) (σ' τ' : Sg), f_X6_rule σ = some (r, σ') ∧ f_X7_rule τ = some (r, τ') ∧ Rl σ' τ'
def E_hang (Rl : Sg → Sg → Prop) : Prop := ∀ (a : Int32) (σ τ : Sg), Rl σ τ → ∃ (r : Int32) (σ' τ' : Sg), f_X6_hang a σ = some (r, σ') ∧ f_X7_hang a τ = some (r, τ') ∧ Rl σ' τ'
def E_big (Rl : Sg → Sg → Prop) : Prop := ∀ (a : Int32) (σ τ : Sg), Rl σ τ → ∃ (r : Int32) (σ' τ' : Sg), f_X6_big a σ = some (r, σ') ∧ f_X7_big a τ = some (r, τ') ∧ Rl σ' τ'
def E_leads (Rl : Sg → Sg → Prop) : Prop := ∀ (a : Int32) (σ τ : Sg), Rl σ τ → ∃ (r : Int32) (σ' τ' : Sg), f_X6_leads a σ = some (r, σ') ∧ f_X7_leads a τ = some (r, τ') ∧ Rl σ' τ'
def E_whose (Rl : Sg → Sg → Prop) : Prop := ∀ (a b : Int32) (σ τ : Sg), Rl σ τ → ∃ (r : Int32) (σ' τ' : Sg), f_X6_whose a b σ = some (r, σ') ∧ f_X7_whose a b τ = some (r, τ') ∧ Rl σ' τ'
def E_deal (Rl : Sg → Sg → Prop) : Prop := ∀ (a b : Int32) (σ τ : Sg), Rl σ τ → ∃ (r : Int32) (σ' τ' : Sg), f_X6_deal a b σ = some (r, σ') ∧ f_X7_deal a b τ = some (r, τ') ∧ Rl σ' τ'
def E_pays (Rl : Sg → Sg → Prop) : Prop := ∀ (a b c : Int32) (σ τ : Sg), Rl σ τ → ∃ (r : Int32) (σ' τ' : Sg), f_X6_pays a b c σ = some (r, σ') ∧ f_X7_pays a b c τ = some (r, τ') ∧ Rl σ' τ'
def E_climbs (Rl : Sg → Sg → Prop) : Prop := ∀ (σ τ : Sg), Rl σ τ → ∃ (r : Int32) (σ' τ' : Sg), f_X6_climbs σ = some (r, σ') ∧ f_X7_climbs τ = some (r, τ') ∧ Rl σ' τ'
def E_worth (Rl : Sg → Sg → Prop) : Prop := ∀ (a : Int32) (σ τ : Sg), Rl σ τ → ∃ (r : Int32) (σ' τ' : Sg), f_X6_worth a σ = some (r, σ') ∧ f_X7_worth a τ = some (r, τ') ∧ Rl σ' τ'
def E_swaps (Rl : Sg → Sg → Prop) : Prop := ∀ (a : Int32) (σ τ : Sg), Rl σ τ → ∃ (r : Int32) (σ' τ' : Sg), f_X6_swaps a σ = some (r, σ') ∧ f_X7_swaps a τ = some (r, τ') ∧ Rl σ' τ'
def E_peg (Rl : Sg → Sg → Prop) : Prop := ∀ (a b c : Int32) (σ τ : Sg), Rl σ τ → ∃ (r : Int64) (σ' τ' : Sg), f_X6_peg a b c σ = some (r, σ') ∧ f_X7_peg a b c τ = some (r, τ') ∧ Rl σ' τ'
def E_row (Rl : Sg → Sg → Prop) : Prop := ∀ (a : Int32) (σ τ : Sg), Rl σ τ → ∃ (r : Int32) (σ' τ' : Sg), f_X6_row a σ = some (r, σ') ∧ f_X7_row a τ = some (r, τ') ∧ Rl σ' τ'
def E_judge (Rl : Sg → Sg → Prop) : Prop := ∀ (σ τ : Sg), Rl σ τ → ∃ (r : Int32) (σ' τ' : Sg), f_X6_judge σ = some (r, σ') ∧ f_X7_judge τ = some (r, τ') ∧ Rl σ' τ'
def E_seeds (Rl : Sg → Sg → Prop) : Prop := ∀ (a b : Int32) (σ τ : Sg), Rl σ τ → ∃ (r : Int32) (σ' τ' : Sg), f_X6_seeds a b σ = some (r, σ') ∧ f_X7_seeds a b τ = some (r, τ') ∧ Rl σ' τ'
def E_image (Rl : Sg → Sg → Prop) : Prop := ∀ (σ τ : Sg), Rl σ τ → ∃ (r : Int32) (σ' τ' : Sg), f_X6_image σ = some (r, σ') ∧ f_X7_image τ = some (r, τ') ∧ Rl σ' τ'
def E_restore (Rl : Sg → Sg → Prop) : Prop := ∀ (σ τ : Sg), Rl σ τ → ∃ (r : Int32) (σ' τ' : Sg), f_X6_restore σ = some (r, σ') ∧ f_X7_restore τ = some (r, τ') ∧ Rl σ' τ'
def E_count (Rl : Sg → Sg → Prop) : Prop := ∀ (a : Int32) (σ τ : Sg), Rl σ τ → ∃ (r : Int32) (σ' τ' : Sg), f_X6_count a σ = some (r, σ') ∧ f_X7_count a τ = some (r, τ') ∧ Rl σ' τ'
def El (Rl : Sg → Sg → Prop) : Prop := E_feed Rl ∧ E_front Rl ∧ E_flat Rl ∧ E_tenant Rl ∧ E_anger Rl ∧ E_habit Rl ∧ E_put Rl ∧ E_saucer Rl ∧ E_awning Rl ∧ E_wash Rl ∧ E_wind Rl ∧ E_move Rl ∧ E_rain Rl ∧ E_week Rl ∧ E_steps Rl ∧ E_down Rl ∧ E_whom Rl ∧ E_does Rl ∧ E_harmed Rl ∧ E_least Rl ∧ E_hours Rl ∧ E_quiet Rl ∧ E_rule Rl ∧ E_hang Rl ∧ E_big Rl ∧ E_leads Rl ∧ E_whose Rl ∧ E_deal Rl ∧ E_pays Rl ∧ E_climbs Rl ∧ E_worth Rl ∧ E_swaps Rl ∧ E_peg Rl ∧ E_row Rl ∧ E_judge Rl ∧ E_seeds Rl ∧ E_image Rl ∧ E_restore Rl ∧ E_count Rl
set_option maxRecDepth 100000 in
set_option maxHeartbeats 4000000 in
theorem lk_0 {N : Nat} {xs : Nat → Int32} {Rl : Sg → Sg → Prop} (hE : E_feed Rl) {k : Nat} (hin : ∀ q : Int32, 0 ≤ q → q ≤ 3 → inb (nI k + q) N) {ρ σ τ : Sg} (hA : ag ρ σ τ) (hR : Rl σ τ) (hnext : ∀ ρ' σ' τ', ag ρ' σ' τ' → Rl σ' τ' → Aj (mL N xs) idsA phiL 1272 (locL k) [] ρ') : Aj (mL N xs) idsA phiL 204 (locL k) [] ρ := by
  obtain ⟨r, σ', τ', e1, e2, hR2⟩ := hE (xs (nI k + (1 : Int32)).toNatClampNeg) σ τ hR
  refine A_st (x_aload_n dL_law_204 rfl) ?_
  refine A_st (x_aload_n dL_law_205 rfl) ?_
  refine A_st (x_iload_n dL_law_206 rfl) ?_
  refine A_st (x_iconst (1 : Int32) dL_law_207 rfl) ?_
  refine A_st (x_iadd dL_law_208) ?_
  refine A_st (x_sld rfl dL_law_209 (hin 1 (by decide) (by decide))) ?_
  refine A_st (x_callW [] (c_X6_feed idsC nd_C (xs (nI k + (1 : Int32)).toNatClampNeg) iC0 iC1 iC2 iC3 _ _ _ e1) sub_C hA.1 dL_law_210 tw_313 kc_X6_feed (sub_C _ (iC0 0 (Nat.le_of_ble_eq_true rfl) (Nat.le_of_ble_eq_true rfl))) rfl rfl rfl rfl ⟨Nat.le_of_ble_eq_true rfl, Nat.le_of_ble_eq_true rfl⟩ (Nat.le_of_ble_eq_true rfl) rfl) ?_
  refine A_st (x_aload_n dL_law_213 rfl) ?_
  refine A_st (x_aload_n dL_law_214 rfl) ?_
  refine A_st (x_iload_n dL_law_215 rfl) ?_
  refine A_st (x_iconst (1 : Int32) dL_law_216 rfl) ?_
  refine A_st (x_iadd dL_law_217) ?_
  refine A_st (x_sld rfl dL_law_218 (hin 1 (by decide) (by decide))) ?_
  refine A_st (x_callW [aI r] (c_X7_feed idsM nd_M (xs (nI k + (1 : Int32)).toNatClampNeg) iM0 _ _ _ e2) sub_M (ag_C hA) dL_law_219 tw_977 kc_X7_feed (sub_M _ (iM0 29 (Nat.le_of_ble_eq_true rfl) (Nat.le_of_ble_eq_true rfl))) rfl rfl rfl rfl ⟨Nat.le_of_ble_eq_true rfl, Nat.le_of_ble_eq_true rfl⟩ (Nat.le_of_ble_eq_true rfl) rfl) ?_
  refine A_st (x_icmp_eq_t (tgt := 1272) dL_law_222 (by decide) rfl) ?_
  exact hnext _ σ' τ' (ag_M hA) hR2
set_option maxRecDepth 100000 in
set_option maxHeartbeats 4000000 in
theorem lk_1 {N : Nat} {xs : Nat → Int32} {Rl : Sg → Sg → Prop} (hE : E_front Rl) {k : Nat} (hin : ∀ q : Int32, 0 ≤ q → q ≤ 3 → inb (nI k + q) N) {ρ σ τ : Sg} (hA : ag ρ σ τ) (hR : Rl σ τ) (hnext : ∀ ρ' σ' τ', ag ρ' σ' τ' → Rl σ' τ' → Aj (mL N xs) idsA phiL 1272 (locL k) [] ρ') : Aj (mL N xs) idsA phiL 227 (locL k) [] ρ := by
  obtain ⟨r, σ', τ', e1, e2, hR2⟩ := hE σ τ hR
  refine A_st (x_aload_n dL_law_227 rfl) ?_
  refine A_st (x_callW [] (c_X6_front idsC nd_C iC0 iC1 iC2 iC3 _ _ _ e1) sub_C hA.1 dL_law_228 tw_330 kc_X6_front (sub_C _ (iC0 0 (Nat.le_of_ble_eq_true rfl) (Nat.le_of_ble_eq_true rfl))) rfl rfl rfl rfl ⟨Nat.le_of_ble_eq_true rfl, Nat.le_of_ble_eq_true rfl⟩ (Nat.le_of_ble_eq_true rfl) rfl) ?_
  refine A_st (x_aload_n dL_law_231 rfl) ?_
  refine A_st (x_callW [aI r] (c_X7_front idsM nd_M iM0 _ _ _ e2) sub_M (ag_C hA) dL_law_232 tw_985 kc_X7_front (sub_M _ (iM0 29 (Nat.le_of_ble_eq_true rfl) (Nat.le_of_ble_eq_true rfl))) rfl rfl rfl rfl ⟨Nat.le_of_ble_eq_true rfl, Nat.le_of_ble_eq_true rfl⟩ (Nat.le_of_ble_eq_true rfl) rfl) ?_
  refine A_st (x_icmp_eq_t (tgt := 1272) dL_law_235 (by decide) rfl) ?_
  exact hnext _ σ' τ' (ag_M hA) hR2
set_option maxRecDepth 100000 in
set_option maxHeartbeats 4000000 in
theorem lk_2 {N : Nat} {xs : Nat → Int32} {Rl : Sg → Sg → Prop} (hE : E_flat Rl) {k : Nat} (hin : ∀ q : Int32, 0 ≤ q → q ≤ 3 → inb (nI k + q) N) {ρ σ τ : Sg} (hA : ag ρ σ τ) (hR : Rl σ τ) (hnext : ∀ ρ' σ' τ', ag ρ' σ' τ' → Rl σ' τ' → Aj (mL N xs) idsA phiL 1272 (locL k) [] ρ') : Aj (mL N xs) idsA phiL 240 (locL k) [] ρ := by
  obtain ⟨r, σ', τ', e1, e2, hR2⟩ := hE (xs (nI k + (1 : Int32)).toNatClampNeg) (xs (nI k + (2 : Int32)).toNatClampNeg) σ τ hR
  refine A_st (x_aload_n dL_law_240 rfl) ?_
  refine A_st (x_aload_n dL_law_241 rfl) ?_
  refine A_st (x_iload_n dL_law_242 rfl) ?_
  refine A_st (x_iconst (1 : Int32) dL_law_243 rfl) ?_
  refine A_st (x_iadd dL_law_244) ?_
  refine A_st (x_sld rfl dL_law_245 (hin 1 (by decide) (by decide))) ?_
  refine A_st (x_aload_n dL_law_246 rfl) ?_
  refine A_st (x_iload_n dL_law_247 rfl) ?_
  refine A_st (x_iconst (2 : Int32) dL_law_248 rfl) ?_
  refine A_st (x_iadd dL_law_249) ?_
  refine A_st (x_sld rfl dL_law_250 (hin 2 (by decide) (by decide))) ?_
  refine A_st (x_callW [] (c_X6_flat idsC nd_C (xs (nI k + (1 : Int32)).toNatClampNeg) (xs (nI k + (2 : Int32)).toNatClampNeg) iC0 iC1 iC2 iC3 _ _ _ e1) sub_C hA.1 dL_law_251 tw_517 kc_X6_flat (sub_C _ (iC0 0 (Nat.le_of_ble_eq_true rfl) (Nat.le_of_ble_eq_true rfl))) rfl rfl rfl rfl ⟨Nat.le_of_ble_eq_true rfl, Nat.le_of_ble_eq_true rfl⟩ (Nat.le_of_ble_eq_true rfl) rfl) ?_
  refine A_st (x_aload_n dL_law_254 rfl) ?_
  refine A_st (x_aload_n dL_law_255 rfl) ?_
  refine A_st (x_iload_n dL_law_256 rfl) ?_
  refine A_st (x_iconst (1 : Int32) dL_law_257 rfl) ?_
  refine A_st (x_iadd dL_law_258) ?_
  refine A_st (x_sld rfl dL_law_259 (hin 1 (by decide) (by decide))) ?_
  refine A_st (x_aload_n dL_law_260 rfl) ?_
  refine A_st (x_iload_n dL_law_261 rfl) ?_
  refine A_st (x_iconst (2 : Int32) dL_law_262 rfl) ?_
  refine A_st (x_iadd dL_law_263) ?_
  refine A_st (x_sld rfl dL_law_264 (hin 2 (by decide) (by decide))) ?_
  refine A_st (x_callW [aI r] (c_X7_flat idsM nd_M (xs (nI k + (1 : Int32)).toNatClampNeg) (xs (nI k + (2 : Int32)).toNatClampNeg) iM0 _ _ _ e2) sub_M (ag_C hA) dL_law_265 tw_1073 kc_X7_flat (sub_M _ (iM0 29 (Nat.le_of_ble_eq_true rfl) (Nat.le_of_ble_eq_true rfl))) rfl rfl rfl rfl ⟨Nat.le_of_ble_eq_true rfl, Nat.le_of_ble_eq_true rfl⟩ (Nat.le_of_ble_eq_true rfl) rfl) ?_
  refine A_st (x_icmp_eq_t (tgt := 1272) dL_law_268 (by decide) rfl) ?_
  exact hnext _ σ' τ' (ag_M hA) hR2
set_option maxRecDepth 100000 in
set_option maxHeartbeats 4000000 in
theorem lk_3 {N : Nat} {xs : Nat → Int32} {Rl : Sg → Sg → Prop} (hE : E_tenant Rl) {k : Nat} (hin : ∀ q : Int32, 0 ≤ q → q ≤ 3 → inb (nI k + q) N) {ρ σ τ : Sg} (hA : ag ρ σ τ) (hR : Rl σ τ) (hnext : ∀ ρ' σ' τ', ag ρ' σ' τ' → Rl σ' τ' → Aj (mL N xs) idsA phiL 1272 (locL k) [] ρ') : Aj (mL N xs) idsA phiL 273 (locL k) [] ρ := by
  obtain ⟨r, σ', τ', e1, e2, hR2⟩ := hE (xs (nI k + (1 : Int32)).toNatClampNeg) (xs (nI k + (2 : Int32)).toNatClampNeg) σ τ hR
  refine A_st (x_aload_n dL_law_273 rfl) ?_
  refine A_st (x_aload_n dL_law_274 rfl) ?_
  refine A_st (x_iload_n dL_law_275 rfl) ?_
  refine A_st (x_iconst (1 : Int32) dL_law_276 rfl) ?_
  refine A_st (x_iadd dL_law_277) ?_
  refine A_st (x_sld rfl dL_law_278 (hin 1 (by decide) (by decide))) ?_
  refine A_st (x_aload_n dL_law_279 rfl) ?_
  refine A_st (x_iload_n dL_law_280 rfl) ?_
  refine A_st (x_iconst (2 : Int32) dL_law_281 rfl) ?_
  refine A_st (x_iadd dL_law_282) ?_
  refine A_st (x_sld rfl dL_law_283 (hin 2 (by decide) (by decide))) ?_
  refine A_st (x_callW [] (c_X6_tenant idsC nd_C (xs (nI k + (1 : Int32)).toNatClampNeg) (xs (nI k + (2 : Int32)).toNatClampNeg) iC0 iC1 iC2 iC3 _ _ _ e1) sub_C hA.1 dL_law_284 tw_526 kc_X6_tenant (sub_C _ (iC0 0 (Nat.le_of_ble_eq_true rfl) (Nat.le_of_ble_eq_true rfl))) rfl rfl rfl rfl ⟨Nat.le_of_ble_eq_true rfl, Nat.le_of_ble_eq_true rfl⟩ (Nat.le_of_ble_eq_true rfl) rfl) ?_
  refine A_st (x_aload_n dL_law_287 rfl) ?_
  refine A_st (x_aload_n dL_law_288 rfl) ?_
  refine A_st (x_iload_n dL_law_289 rfl) ?_
  refine A_st (x_iconst (1 : Int32) dL_law_290 rfl) ?_
  refine A_st (x_iadd dL_law_291) ?_
  refine A_st (x_sld rfl dL_law_292 (hin 1 (by decide) (by decide))) ?_
  refine A_st (x_aload_n dL_law_293 rfl) ?_
  refine A_st (x_iload_n dL_law_294 rfl) ?_
  refine A_st (x_iconst (2 : Int32) dL_law_295 rfl) ?_
  refine A_st (x_iadd dL_law_296) ?_
  refine A_st (x_sld rfl dL_law_297 (hin 2 (by decide) (by decide))) ?_
  refine A_st (x_callW [aI r] (c_X7_tenant idsM nd_M (xs (nI k + (1 : Int32)).toNatClampNeg) (xs (nI k + (2 : Int32)).toNatClampNeg) iM0 _ _ _ e2) sub_M (ag_C hA) dL_law_298 tw_1082 kc_X7_tenant (sub_M _ (iM0 29 (Nat.le_of_ble_eq_true rfl) (Nat.le_of_ble_eq_true rfl))) rfl rfl rfl rfl ⟨Nat.le_of_ble_eq_true rfl, Nat.le_of_ble_eq_true rfl⟩ (Nat.le_of_ble_eq_true rfl) rfl) ?_
  refine A_st (x_icmp_eq_t (tgt := 1272) dL_law_301 (by decide) rfl) ?_
  exact hnext _ σ' τ' (ag_M hA) hR2
set_option maxRecDepth 100000 in
set_option maxHeartbeats 4000000 in
theorem lk_4 {N : Nat} {xs : Nat → Int32} {Rl : Sg → Sg → Prop} (hE : E_anger Rl) {k : Nat} (hin : ∀ q : Int32, 0 ≤ q → q ≤ 3 → inb (nI k + q) N) {ρ σ τ : Sg} (hA : ag ρ σ τ) (hR : Rl σ τ) (hnext : ∀ ρ' σ' τ', ag ρ' σ' τ' → Rl σ' τ' → Aj (mL N xs) idsA phiL 1272 (locL k) [] ρ') : Aj (mL N xs) idsA phiL 306 (locL k) [] ρ := by
  obtain ⟨r, σ', τ', e1, e2, hR2⟩ := hE (xs (nI k + (1 : Int32)).toNatClampNeg) (xs (nI k + (2 : Int32)).toNatClampNeg) σ τ hR
  refine A_st (x_aload_n dL_law_306 rfl) ?_
  refine A_st (x_aload_n dL_law_307 rfl) ?_
  refine A_st (x_iload_n dL_law_308 rfl) ?_
  refine A_st (x_iconst (1 : Int32) dL_law_309 rfl) ?_
  refine A_st (x_iadd dL_law_310) ?_
  refine A_st (x_sld rfl dL_law_311 (hin 1 (by decide) (by decide))) ?_
  refine A_st (x_aload_n dL_law_312 rfl) ?_
  refine A_st (x_iload_n dL_law_313 rfl) ?_
  refine A_st (x_iconst (2 : Int32) dL_law_314 rfl) ?_
  refine A_st (x_iadd dL_law_315) ?_
  refine A_st (x_sld rfl dL_law_316 (hin 2 (by decide) (by decide))) ?_
  refine A_st (x_callW [] (c_X6_anger idsC nd_C (xs (nI k + (1 : Int32)).toNatClampNeg) (xs (nI k + (2 : Int32)).toNatClampNeg) iC0 iC1 iC2 iC3 _ _ _ e1) sub_C hA.1 dL_law_317 tw_543 kc_X6_anger (sub_C _ (iC0 0 (Nat.le_of_ble_eq_true rfl) (Nat.le_of_ble_eq_true rfl))) rfl rfl rfl rfl ⟨Nat.le_of_ble_eq_true rfl, Nat.le_of_ble_eq_true rfl⟩ (Nat.le_of_ble_eq_true rfl) rfl) ?_
  refine A_st (x_aload_n dL_law_320 rfl) ?_
  refine A_st (x_aload_n dL_law_321 rfl) ?_
  refine A_st (x_iload_n dL_law_322 rfl) ?_
  refine A_st (x_iconst (1 : Int32) dL_law_323 rfl) ?_
  refine A_st (x_iadd dL_law_324) ?_
  refine A_st (x_sld rfl dL_law_325 (hin 1 (by decide) (by decide))) ?_
  refine A_st (x_aload_n dL_law_326 rfl) ?_
  refine A_st (x_iload_n dL_law_327 rfl) ?_
  refine A_st (x_iconst (2 : Int32) dL_law_328 rfl) ?_
  refine A_st (x_iadd dL_law_329) ?_
  refine A_st (x_sld rfl dL_law_330 (hin 2 (by decide) (by decide))) ?_
  refine A_st (x_callW [aI r] (c_X7_anger idsM nd_M (xs (nI k + (1 : Int32)).toNatClampNeg) (xs (nI k + (2 : Int32)).toNatClampNeg) iM0 _ _ _ e2) sub_M (ag_C hA) dL_law_331 tw_1097 kc_X7_anger (sub_M _ (iM0 29 (Nat.le_of_ble_eq_true rfl) (Nat.le_of_ble_eq_true rfl))) rfl rfl rfl rfl ⟨Nat.le_of_ble_eq_true rfl, Nat.le_of_ble_eq_true rfl⟩ (Nat.le_of_ble_eq_true rfl) rfl) ?_
  refine A_st (x_icmp_eq_t (tgt := 1272) dL_law_334 (by decide) rfl) ?_
  exact hnext _ σ' τ' (ag_M hA) hR2
set_option maxRecDepth 100000 in
set_option maxHeartbeats 4000000 in
theorem lk_5 {N : Nat} {xs : Nat → Int32} {Rl : Sg → Sg → Prop} (hE : E_habit Rl) {k : Nat} (hin : ∀ q : Int32, 0 ≤ q → q ≤ 3 → inb (nI k + q) N) {ρ σ τ : Sg} (hA : ag ρ σ τ) (hR : Rl σ τ) (hnext : ∀ ρ' σ' τ', ag ρ' σ' τ' → Rl σ' τ' → Aj (mL N xs) idsA phiL 1272 (locL k) [] ρ') : Aj (mL N xs) idsA phiL 339 (locL k) [] ρ := by
  obtain ⟨r, σ', τ', e1, e2, hR2⟩ := hE (xs (nI k + (1 : Int32)).toNatClampNeg) (xs (nI k + (2 : Int32)).toNatClampNeg) σ τ hR
  refine A_st (x_aload_n dL_law_339 rfl) ?_
  refine A_st (x_aload_n dL_law_340 rfl) ?_
  refine A_st (x_iload_n dL_law_341 rfl) ?_
  refine A_st (x_iconst (1 : Int32) dL_law_342 rfl) ?_
  refine A_st (x_iadd dL_law_343) ?_
  refine A_st (x_sld rfl dL_law_344 (hin 1 (by decide) (by decide))) ?_
  refine A_st (x_aload_n dL_law_345 rfl) ?_
  refine A_st (x_iload_n dL_law_346 rfl) ?_
  refine A_st (x_iconst (2 : Int32) dL_law_347 rfl) ?_
  refine A_st (x_iadd dL_law_348) ?_
  refine A_st (x_sld rfl dL_law_349 (hin 2 (by decide) (by decide))) ?_
  refine A_st (x_callW [] (c_X6_habit idsC nd_C (xs (nI k + (1 : Int32)).toNatClampNeg) (xs (nI k + (2 : Int32)).toNatClampNeg) iC0 iC1 iC2 iC3 _ _ _ e1) sub_C hA.1 dL_law_350 tw_550 kc_X6_habit (sub_C _ (iC0 0 (Nat.le_of_ble_eq_true rfl) (Nat.le_of_ble_eq_true rfl))) rfl rfl rfl rfl ⟨Nat.le_of_ble_eq_true rfl, Nat.le_of_ble_eq_true rfl⟩ (Nat.le_of_ble_eq_true rfl) rfl) ?_
  refine A_st (x_aload_n dL_law_353 rfl) ?_
  refine A_st (x_aload_n dL_law_354 rfl) ?_
  refine A_st (x_iload_n dL_law_355 rfl) ?_
  refine A_st (x_iconst (1 : Int32) dL_law_356 rfl) ?_
  refine A_st (x_iadd dL_law_357) ?_
  refine A_st (x_sld rfl dL_law_358 (hin 1 (by decide) (by decide))) ?_
  refine A_st (x_aload_n dL_law_359 rfl) ?_
  refine A_st (x_iload_n dL_law_360 rfl) ?_
  refine A_st (x_iconst (2 : Int32) dL_law_361 rfl) ?_
  refine A_st (x_iadd dL_law_362) ?_
  refine A_st (x_sld rfl dL_law_363 (hin 2 (by decide) (by decide))) ?_
  refine A_st (x_callW [aI r] (c_X7_habit idsM nd_M (xs (nI k + (1 : Int32)).toNatClampNeg) (xs (nI k + (2 : Int32)).toNatClampNeg) iM0 _ _ _ e2) sub_M (ag_C hA) dL_law_364 tw_1105 kc_X7_habit (sub_M _ (iM0 29 (Nat.le_of_ble_eq_true rfl) (Nat.le_of_ble_eq_true rfl))) rfl rfl rfl rfl ⟨Nat.le_of_ble_eq_true rfl, Nat.le_of_ble_eq_true rfl⟩ (Nat.le_of_ble_eq_true rfl) rfl) ?_
  refine A_st (x_icmp_eq_t (tgt := 1272) dL_law_367 (by decide) rfl) ?_
  exact hnext _ σ' τ' (ag_M hA) hR2
set_option maxRecDepth 100000 in
set_option maxHeartbeats 4000000 in
theorem lk_6 {N : Nat} {xs : Nat → Int32} {Rl : Sg → Sg → Prop} (hE : E_put Rl) {k : Nat} (hin : ∀ q : Int32, 0 ≤ q → q ≤ 3 → inb (nI k + q) N) {ρ σ τ : Sg} (hA : ag ρ σ τ) (hR : Rl σ τ) (hnext : ∀ ρ' σ' τ', ag ρ' σ' τ' → Rl σ' τ' → Aj (mL N xs) idsA phiL 1272 (locL k) [] ρ') : Aj (mL N xs) idsA phiL 372 (locL k) [] ρ := by
  obtain ⟨r, σ', τ', e1, e2, hR2⟩ := hE (xs (nI k + (1 : Int32)).toNatClampNeg) (xs (nI k + (2 : Int32)).toNatClampNeg) σ τ hR
  refine A_st (x_aload_n dL_law_372 rfl) ?_
  refine A_st (x_aload_n dL_law_373 rfl) ?_
  refine A_st (x_iload_n dL_law_374 rfl) ?_
  refine A_st (x_iconst (1 : Int32) dL_law_375 rfl) ?_
  refine A_st (x_iadd dL_law_376) ?_
  refine A_st (x_sld rfl dL_law_377 (hin 1 (by decide) (by decide))) ?_
  refine A_st (x_aload_n dL_law_378 rfl) ?_
  refine A_st (x_iload_n dL_law_379 rfl) ?_
  refine A_st (x_iconst (2 : Int32) dL_law_380 rfl) ?_
  refine A_st (x_iadd dL_law_381) ?_
  refine A_st (x_sld rfl dL_law_382 (hin 2 (by decide) (by decide))) ?_
  refine A_st (x_callW [] (c_X6_put idsC nd_C (xs (nI k + (1 : Int32)).toNatClampNeg) (xs (nI k + (2 : Int32)).toNatClampNeg) iC0 iC1 iC2 iC3 _ _ _ e1) sub_C hA.1 dL_law_383 tw_565 kc_X6_put (sub_C _ (iC0 0 (Nat.le_of_ble_eq_true rfl) (Nat.le_of_ble_eq_true rfl))) rfl rfl rfl rfl ⟨Nat.le_of_ble_eq_true rfl, Nat.le_of_ble_eq_true rfl⟩ (Nat.le_of_ble_eq_true rfl) rfl) ?_
  refine A_st (x_aload_n dL_law_386 rfl) ?_
  refine A_st (x_aload_n dL_law_387 rfl) ?_
  refine A_st (x_iload_n dL_law_388 rfl) ?_
  refine A_st (x_iconst (1 : Int32) dL_law_389 rfl) ?_
  refine A_st (x_iadd dL_law_390) ?_
  refine A_st (x_sld rfl dL_law_391 (hin 1 (by decide) (by decide))) ?_
  refine A_st (x_aload_n dL_law_392 rfl) ?_
  refine A_st (x_iload_n dL_law_393 rfl) ?_
  refine A_st (x_iconst (2 : Int32) dL_law_394 rfl) ?_
  refine A_st (x_iadd dL_law_395) ?_
  refine A_st (x_sld rfl dL_law_396 (hin 2 (by decide) (by decide))) ?_
  refine A_st (x_callW [aI r] (c_X7_put idsM nd_M (xs (nI k + (1 : Int32)).toNatClampNeg) (xs (nI k + (2 : Int32)).toNatClampNeg) iM0 _ _ _ e2) sub_M (ag_C hA) dL_law_397 tw_1114 kc_X7_put (sub_M _ (iM0 29 (Nat.le_of_ble_eq_true rfl) (Nat.le_of_ble_eq_true rfl))) rfl rfl rfl rfl ⟨Nat.le_of_ble_eq_true rfl, Nat.le_of_ble_eq_true rfl⟩ (Nat.le_of_ble_eq_true rfl) rfl) ?_
  refine A_st (x_icmp_eq_t (tgt := 1272) dL_law_400 (by decide) rfl) ?_
  exact hnext _ σ' τ' (ag_M hA) hR2
set_option maxRecDepth 100000 in
set_option maxHeartbeats 4000000 in
theorem lk_7 {N : Nat} {xs : Nat → Int32} {Rl : Sg → Sg → Prop} (hE : E_saucer Rl) {k : Nat} (hin : ∀ q : Int32, 0 ≤ q → q ≤ 3 → inb (nI k + q) N) {ρ σ τ : Sg} (hA : ag ρ σ τ) (hR : Rl σ τ) (hnext : ∀ ρ' σ' τ', ag ρ' σ' τ' → Rl σ' τ' → Aj (mL N xs) idsA phiL 1272 (locL k) [] ρ') : Aj (mL N xs) idsA phiL 405 (locL k) [] ρ := by
  obtain ⟨r, σ', τ', e1, e2, hR2⟩ := hE (xs (nI k + (1 : Int32)).toNatClampNeg) (xs (nI k + (2 : Int32)).toNatClampNeg) σ τ hR
  refine A_st (x_aload_n dL_law_405 rfl) ?_
  refine A_st (x_aload_n dL_law_406 rfl) ?_
  refine A_st (x_iload_n dL_law_407 rfl) ?_
  refine A_st (x_iconst (1 : Int32) dL_law_408 rfl) ?_
  refine A_st (x_iadd dL_law_409) ?_
  refine A_st (x_sld rfl dL_law_410 (hin 1 (by decide) (by decide))) ?_
  refine A_st (x_aload_n dL_law_411 rfl) ?_
  refine A_st (x_iload_n dL_law_412 rfl) ?_
  refine A_st (x_iconst (2 : Int32) dL_law_413 rfl) ?_
  refine A_st (x_iadd dL_law_414) ?_
  refine A_st (x_sld rfl dL_law_415 (hin 2 (by decide) (by decide))) ?_
  refine A_st (x_callW [] (c_X6_saucer idsC nd_C (xs (nI k + (1 : Int32)).toNatClampNeg) (xs (nI k + (2 : Int32)).toNatClampNeg) iC0 iC1 iC2 iC3 _ _ _ e1) sub_C hA.1 dL_law_416 tw_570 kc_X6_saucer (sub_C _ (iC0 0 (Nat.le_of_ble_eq_true rfl) (Nat.le_of_ble_eq_true rfl))) rfl rfl rfl rfl ⟨Nat.le_of_ble_eq_true rfl, Nat.le_of_ble_eq_true rfl⟩ (Nat.le_of_ble_eq_true rfl) rfl) ?_
  refine A_st (x_aload_n dL_law_419 rfl) ?_
  refine A_st (x_aload_n dL_law_420 rfl) ?_
  refine A_st (x_iload_n dL_law_421 rfl) ?_
  refine A_st (x_iconst (1 : Int32) dL_law_422 rfl) ?_
  refine A_st (x_iadd dL_law_423) ?_
  refine A_st (x_sld rfl dL_law_424 (hin 1 (by decide) (by decide))) ?_
  refine A_st (x_aload_n dL_law_425 rfl) ?_
  refine A_st (x_iload_n dL_law_426 rfl) ?_
  refine A_st (x_iconst (2 : Int32) dL_law_427 rfl) ?_
  refine A_st (x_iadd dL_law_428) ?_
  refine A_st (x_sld rfl dL_law_429 (hin 2 (by decide) (by decide))) ?_
  refine A_st (x_callW [aI r] (c_X7_saucer idsM nd_M (xs (nI k + (1 : Int32)).toNatClampNeg) (xs (nI k + (2 : Int32)).toNatClampNeg) iM0 _ _ _ e2) sub_M (ag_C hA) dL_law_430 tw_1122 kc_X7_saucer (sub_M _ (iM0 29 (Nat.le_of_ble_eq_true rfl) (Nat.le_of_ble_eq_true rfl))) rfl rfl rfl rfl ⟨Nat.le_of_ble_eq_true rfl, Nat.le_of_ble_eq_true rfl⟩ (Nat.le_of_ble_eq_true rfl) rfl) ?_
  refine A_st (x_icmp_eq_t (tgt := 1272) dL_law_433 (by decide) rfl) ?_
  exact hnext _ σ' τ' (ag_M hA) hR2
set_option maxRecDepth 100000 in
set_option maxHeartbeats 4000000 in
theorem lk_8 {N : Nat} {xs : Nat → Int32} {Rl : Sg → Sg → Prop} (hE : E_awning Rl) {k : Nat} (hin : ∀ q : Int32, 0 ≤ q → q ≤ 3 → inb (nI k + q) N) {ρ σ τ : Sg} (hA : ag ρ σ τ) (hR : Rl σ τ) (hnext : ∀ ρ' σ' τ', ag ρ' σ' τ' → Rl σ' τ' → Aj (mL N xs) idsA phiL 1272 (locL k) [] ρ') : Aj (mL N xs) idsA phiL 438 (locL k) [] ρ := by
  obtain ⟨r, σ', τ', e1, e2, hR2⟩ := hE (xs (nI k + (1 : Int32)).toNatClampNeg) (xs (nI k + (2 : Int32)).toNatClampNeg) σ τ hR
  refine A_st (x_aload_n dL_law_438 rfl) ?_
  refine A_st (x_aload_n dL_law_439 rfl) ?_
  refine A_st (x_iload_n dL_law_440 rfl) ?_
  refine A_st (x_iconst (1 : Int32) dL_law_441 rfl) ?_
  refine A_st (x_iadd dL_law_442) ?_
  refine A_st (x_sld rfl dL_law_443 (hin 1 (by decide) (by decide))) ?_
  refine A_st (x_aload_n dL_law_444 rfl) ?_
  refine A_st (x_iload_n dL_law_445 rfl) ?_
  refine A_st (x_iconst (2 : Int32) dL_law_446 rfl) ?_
  refine A_st (x_iadd dL_law_447) ?_
  refine A_st (x_sld rfl dL_law_448 (hin 2 (by decide) (by decide))) ?_
  refine A_st (x_callW [] (c_X6_awning idsC nd_C (xs (nI k + (1 : Int32)).toNatClampNeg) (xs (nI k + (2 : Int32)).toNatClampNeg) iC0 iC1 iC2 iC3 _ _ _ e1) sub_C hA.1 dL_law_449 tw_575 kc_X6_awning (sub_C _ (iC0 0 (Nat.le_of_ble_eq_true rfl) (Nat.le_of_ble_eq_true rfl))) rfl rfl rfl rfl ⟨Nat.le_of_ble_eq_true rfl, Nat.le_of_ble_eq_true rfl⟩ (Nat.le_of_ble_eq_true rfl) rfl) ?_
  refine A_st (x_aload_n dL_law_452 rfl) ?_
  refine A_st (x_aload_n dL_law_453 rfl) ?_
  refine A_st (x_iload_n dL_law_454 rfl) ?_
  refine A_st (x_iconst (1 : Int32) dL_law_455 rfl) ?_
  refine A_st (x_iadd dL_law_456) ?_
  refine A_st (x_sld rfl dL_law_457 (hin 1 (by decide) (by decide))) ?_
  refine A_st (x_aload_n dL_law_458 rfl) ?_
  refine A_st (x_iload_n dL_law_459 rfl) ?_
  refine A_st (x_iconst (2 : Int32) dL_law_460 rfl) ?_
  refine A_st (x_iadd dL_law_461) ?_
  refine A_st (x_sld rfl dL_law_462 (hin 2 (by decide) (by decide))) ?_
  refine A_st (x_callW [aI r] (c_X7_awning idsM nd_M (xs (nI k + (1 : Int32)).toNatClampNeg) (xs (nI k + (2 : Int32)).toNatClampNeg) iM0 _ _ _ e2) sub_M (ag_C hA) dL_law_463 tw_1129 kc_X7_awning (sub_M _ (iM0 29 (Nat.le_of_ble_eq_true rfl) (Nat.le_of_ble_eq_true rfl))) rfl rfl rfl rfl ⟨Nat.le_of_ble_eq_true rfl, Nat.le_of_ble_eq_true rfl⟩ (Nat.le_of_ble_eq_true rfl) rfl) ?_
  refine A_st (x_icmp_eq_t (tgt := 1272) dL_law_466 (by decide) rfl) ?_
  exact hnext _ σ' τ' (ag_M hA) hR2
set_option maxRecDepth 100000 in
set_option maxHeartbeats 4000000 in
theorem lk_9 {N : Nat} {xs : Nat → Int32} {Rl : Sg → Sg → Prop} (hE : E_wash Rl) {k : Nat} (hin : ∀ q : Int32, 0 ≤ q → q ≤ 3 → inb (nI k + q) N) {ρ σ τ : Sg} (hA : ag ρ σ τ) (hR : Rl σ τ) (hnext : ∀ ρ' σ' τ', ag ρ' σ' τ' → Rl σ' τ' → Aj (mL N xs) idsA phiL 1272 (locL k) [] ρ') : Aj (mL N xs) idsA phiL 471 (locL k) [] ρ := by
  obtain ⟨r, σ', τ', e1, e2, hR2⟩ := hE (xs (nI k + (1 : Int32)).toNatClampNeg) (xs (nI k + (2 : Int32)).toNatClampNeg) (xs (nI k + (3 : Int32)).toNatClampNeg) σ τ hR
  refine A_st (x_aload_n dL_law_471 rfl) ?_
  refine A_st (x_aload_n dL_law_472 rfl) ?_
  refine A_st (x_iload_n dL_law_473 rfl) ?_
  refine A_st (x_iconst (1 : Int32) dL_law_474 rfl) ?_
  refine A_st (x_iadd dL_law_475) ?_
  refine A_st (x_sld rfl dL_law_476 (hin 1 (by decide) (by decide))) ?_
  refine A_st (x_aload_n dL_law_477 rfl) ?_
  refine A_st (x_iload_n dL_law_478 rfl) ?_
  refine A_st (x_iconst (2 : Int32) dL_law_479 rfl) ?_
  refine A_st (x_iadd dL_law_480) ?_
  refine A_st (x_sld rfl dL_law_481 (hin 2 (by decide) (by decide))) ?_
  refine A_st (x_aload_n dL_law_482 rfl) ?_
  refine A_st (x_iload_n dL_law_483 rfl) ?_
  refine A_st (x_iconst (3 : Int32) dL_law_484 rfl) ?_
  refine A_st (x_iadd dL_law_485) ?_
  refine A_st (x_sld rfl dL_law_486 (hin 3 (by decide) (by decide))) ?_
  refine A_st (x_callW [] (c_X6_wash idsC nd_C (xs (nI k + (1 : Int32)).toNatClampNeg) (xs (nI k + (2 : Int32)).toNatClampNeg) (xs (nI k + (3 : Int32)).toNatClampNeg) iC0 iC1 iC2 iC3 _ _ _ e1) sub_C hA.1 dL_law_487 tw_579 kc_X6_wash (sub_C _ (iC0 0 (Nat.le_of_ble_eq_true rfl) (Nat.le_of_ble_eq_true rfl))) rfl rfl rfl rfl ⟨Nat.le_of_ble_eq_true rfl, Nat.le_of_ble_eq_true rfl⟩ (Nat.le_of_ble_eq_true rfl) rfl) ?_
  refine A_st (x_aload_n dL_law_490 rfl) ?_
  refine A_st (x_aload_n dL_law_491 rfl) ?_
  refine A_st (x_iload_n dL_law_492 rfl) ?_
  refine A_st (x_iconst (1 : Int32) dL_law_493 rfl) ?_
  refine A_st (x_iadd dL_law_494) ?_
  refine A_st (x_sld rfl dL_law_495 (hin 1 (by decide) (by decide))) ?_
  refine A_st (x_aload_n dL_law_496 rfl) ?_
  refine A_st (x_iload_n dL_law_497 rfl) ?_
  refine A_st (x_iconst (2 : Int32) dL_law_498 rfl) ?_
  refine A_st (x_iadd dL_law_499) ?_
  refine A_st (x_sld rfl dL_law_500 (hin 2 (by decide) (by decide))) ?_
  refine A_st (x_aload_n dL_law_501 rfl) ?_
  refine A_st (x_iload_n dL_law_502 rfl) ?_
  refine A_st (x_iconst (3 : Int32) dL_law_503 rfl) ?_
  refine A_st (x_iadd dL_law_504) ?_
  refine A_st (x_sld rfl dL_law_505 (hin 3 (by decide) (by decide))) ?_
  refine A_st (x_callW [aI r] (c_X7_wash idsM nd_M (xs (nI k + (1 : Int32)).toNatClampNeg) (xs (nI k + (2 : Int32)).toNatClampNeg) (xs (nI k + (3 : Int32)).toNatClampNeg) iM0 _ _ _ e2) sub_M (ag_C hA) dL_law_506 tw_1133 kc_X7_wash (sub_M _ (iM0 29 (Nat.le_of_ble_eq_true rfl) (Nat.le_of_ble_eq_true rfl))) rfl rfl rfl rfl ⟨Nat.le_of_ble_eq_true rfl, Nat.le_of_ble_eq_true rfl⟩ (Nat.le_of_ble_eq_true rfl) rfl) ?_
  refine A_st (x_icmp_eq_t (tgt := 1272) dL_law_509 (by decide) rfl) ?_
  exact hnext _ σ' τ' (ag_M hA) hR2
set_option maxRecDepth 100000 in
set_option maxHeartbeats 4000000 in
theorem lk_10 {N : Nat} {xs : Nat → Int32} {Rl : Sg → Sg → Prop} (hE : E_wind Rl) {k : Nat} (hin : ∀ q : Int32, 0 ≤ q → q ≤ 3 → inb (nI k + q) N) {ρ σ τ : Sg} (hA : ag ρ σ τ) (hR : Rl σ τ) (hnext : ∀ ρ' σ' τ', ag ρ' σ' τ' → Rl σ' τ' → Aj (mL N xs) idsA phiL 1272 (locL k) [] ρ') : Aj (mL N xs) idsA phiL 514 (locL k) [] ρ := by
  obtain ⟨r, σ', τ', e1, e2, hR2⟩ := hE (xs (nI k + (1 : Int32)).toNatClampNeg) σ τ hR
  refine A_st (x_aload_n dL_law_514 rfl) ?_
  refine A_st (x_aload_n dL_law_515 rfl) ?_
  refine A_st (x_iload_n dL_law_516 rfl) ?_
  refine A_st (x_iconst (1 : Int32) dL_law_517 rfl) ?_
  refine A_st (x_iadd dL_law_518) ?_
  refine A_st (x_sld rfl dL_law_519 (hin 1 (by decide) (by decide))) ?_
  refine A_st (x_callW [] (c_X6_wind idsC nd_C (xs (nI k + (1 : Int32)).toNatClampNeg) iC0 iC1 iC2 iC3 _ _ _ e1) sub_C hA.1 dL_law_520 tw_584 kc_X6_wind (sub_C _ (iC0 0 (Nat.le_of_ble_eq_true rfl) (Nat.le_of_ble_eq_true rfl))) rfl rfl rfl rfl ⟨Nat.le_of_ble_eq_true rfl, Nat.le_of_ble_eq_true rfl⟩ (Nat.le_of_ble_eq_true rfl) rfl) ?_
  refine A_st (x_aload_n dL_law_523 rfl) ?_
  refine A_st (x_aload_n dL_law_524 rfl) ?_
  refine A_st (x_iload_n dL_law_525 rfl) ?_
  refine A_st (x_iconst (1 : Int32) dL_law_526 rfl) ?_
  refine A_st (x_iadd dL_law_527) ?_
  refine A_st (x_sld rfl dL_law_528 (hin 1 (by decide) (by decide))) ?_
  refine A_st (x_callW [aI r] (c_X7_wind idsM nd_M (xs (nI k + (1 : Int32)).toNatClampNeg) iM0 _ _ _ e2) sub_M (ag_C hA) dL_law_529 tw_1137 kc_X7_wind (sub_M _ (iM0 29 (Nat.le_of_ble_eq_true rfl) (Nat.le_of_ble_eq_true rfl))) rfl rfl rfl rfl ⟨Nat.le_of_ble_eq_true rfl, Nat.le_of_ble_eq_true rfl⟩ (Nat.le_of_ble_eq_true rfl) rfl) ?_
  refine A_st (x_icmp_eq_t (tgt := 1272) dL_law_532 (by decide) rfl) ?_
  exact hnext _ σ' τ' (ag_M hA) hR2
set_option maxRecDepth 100000 in
set_option maxHeartbeats 4000000 in
theorem lk_11 {N : Nat} {xs : Nat → Int32} {Rl : Sg → Sg → Prop} (hE : E_move Rl) {k : Nat} (hin : ∀ q : Int32, 0 ≤ q → q ≤ 3 → inb (nI k + q) N) {ρ σ τ : Sg} (hA : ag ρ σ τ) (hR : Rl σ τ) (hnext : ∀ ρ' σ' τ', ag ρ' σ' τ' → Rl σ' τ' → Aj (mL N xs) idsA phiL 1272 (locL k) [] ρ') : Aj (mL N xs) idsA phiL 537 (locL k) [] ρ := by
  obtain ⟨r, σ', τ', e1, e2, hR2⟩ := hE (xs (nI k + (1 : Int32)).toNatClampNeg) (xs (nI k + (2 : Int32)).toNatClampNeg) σ τ hR
  refine A_st (x_aload_n dL_law_537 rfl) ?_
  refine A_st (x_aload_n dL_law_538 rfl) ?_
  refine A_st (x_iload_n dL_law_539 rfl) ?_
  refine A_st (x_iconst (1 : Int32) dL_law_540 rfl) ?_
  refine A_st (x_iadd dL_law_541) ?_
  refine A_st (x_sld rfl dL_law_542 (hin 1 (by decide) (by decide))) ?_
  refine A_st (x_aload_n dL_law_543 rfl) ?_
  refine A_st (x_iload_n dL_law_544 rfl) ?_
  refine A_st (x_iconst (2 : Int32) dL_law_545 rfl) ?_
  refine A_st (x_iadd dL_law_546) ?_
  refine A_st (x_sld rfl dL_law_547 (hin 2 (by decide) (by decide))) ?_
  refine A_st (x_callW [] (c_X6_move idsC nd_C (xs (nI k + (1 : Int32)).toNatClampNeg) (xs (nI k + (2 : Int32)).toNatClampNeg) iC0 iC1 iC2 iC3 _ _ _ e1) sub_C hA.1 dL_law_548 tw_588 kc_X6_move (sub_C _ (iC0 0 (Nat.le_of_ble_eq_true rfl) (Nat.le_of_ble_eq_true rfl))) rfl rfl rfl rfl ⟨Nat.le_of_ble_eq_true rfl, Nat.le_of_ble_eq_true rfl⟩ (Nat.le_of_ble_eq_true rfl) rfl) ?_
  refine A_st (x_aload_n dL_law_551 rfl) ?_
  refine A_st (x_aload_n dL_law_552 rfl) ?_
  refine A_st (x_iload_n dL_law_553 rfl) ?_
  refine A_st (x_iconst (1 : Int32) dL_law_554 rfl) ?_
  refine A_st (x_iadd dL_law_555) ?_
  refine A_st (x_sld rfl dL_law_556 (hin 1 (by decide) (by decide))) ?_
  refine A_st (x_aload_n dL_law_557 rfl) ?_
  refine A_st (x_iload_n dL_law_558 rfl) ?_
  refine A_st (x_iconst (2 : Int32) dL_law_559 rfl) ?_
  refine A_st (x_iadd dL_law_560) ?_
  refine A_st (x_sld rfl dL_law_561 (hin 2 (by decide) (by decide))) ?_
  refine A_st (x_callW [aI r] (c_X7_move idsM nd_M (xs (nI k + (1 : Int32)).toNatClampNeg) (xs (nI k + (2 : Int32)).toNatClampNeg) iM0 _ _ _ e2) sub_M (ag_C hA) dL_law_562 tw_1141 kc_X7_move (sub_M _ (iM0 29 (Nat.le_of_ble_eq_true rfl) (Nat.le_of_ble_eq_true rfl))) rfl rfl rfl rfl ⟨Nat.le_of_ble_eq_true rfl, Nat.le_of_ble_eq_true rfl⟩ (Nat.le_of_ble_eq_true rfl) rfl) ?_
  refine A_st (x_icmp_eq_t (tgt := 1272) dL_law_565 (by decide) rfl) ?_
  exact hnext _ σ' τ' (ag_M hA) hR2
set_option maxRecDepth 100000 in
set_option maxHeartbeats 4000000 in
theorem lk_12 {N : Nat} {xs : Nat → Int32} {Rl : Sg → Sg → Prop} (hE : E_rain Rl) {k : Nat} (hin : ∀ q : Int32, 0 ≤ q → q ≤ 3 → inb (nI k + q) N) {ρ σ τ : Sg} (hA : ag ρ σ τ) (hR : Rl σ τ) (hnext : ∀ ρ' σ' τ', ag ρ' σ' τ' → Rl σ' τ' → Aj (mL N xs) idsA phiL 1272 (locL k) [] ρ') : Aj (mL N xs) idsA phiL 570 (locL k) [] ρ := by
  obtain ⟨r, σ', τ', e1, e2, hR2⟩ := hE σ τ hR
  refine A_st (x_aload_n dL_law_570 rfl) ?_
  refine A_st (x_callW [] (c_X6_rain idsC nd_C iC0 iC1 iC2 iC3 _ _ _ e1) sub_C hA.1 dL_law_571 tw_596 kc_X6_rain (sub_C _ (iC0 0 (Nat.le_of_ble_eq_true rfl) (Nat.le_of_ble_eq_true rfl))) rfl rfl rfl rfl ⟨Nat.le_of_ble_eq_true rfl, Nat.le_of_ble_eq_true rfl⟩ (Nat.le_of_ble_eq_true rfl) rfl) ?_
  refine A_st (x_aload_n dL_law_574 rfl) ?_
  refine A_st (x_callW [aI r] (c_X7_rain idsM nd_M iM0 _ _ _ e2) sub_M (ag_C hA) dL_law_575 tw_1149 kc_X7_rain (sub_M _ (iM0 29 (Nat.le_of_ble_eq_true rfl) (Nat.le_of_ble_eq_true rfl))) rfl rfl rfl rfl ⟨Nat.le_of_ble_eq_true rfl, Nat.le_of_ble_eq_true rfl⟩ (Nat.le_of_ble_eq_true rfl) rfl) ?_
  refine A_st (x_icmp_eq_t (tgt := 1272) dL_law_578 (by decide) rfl) ?_
  exact hnext _ σ' τ' (ag_M hA) hR2
set_option maxRecDepth 100000 in
set_option maxHeartbeats 4000000 in
theorem lk_13 {N : Nat} {xs : Nat → Int32} {Rl : Sg → Sg → Prop} (hE : E_week Rl) {k : Nat} (hin : ∀ q : Int32, 0 ≤ q → q ≤ 3 → inb (nI k + q) N) {ρ σ τ : Sg} (hA : ag ρ σ τ) (hR : Rl σ τ) (hnext : ∀ ρ' σ' τ', ag ρ' σ' τ' → Rl σ' τ' → Aj (mL N xs) idsA phiL 1272 (locL k) [] ρ') : Aj (mL N xs) idsA phiL 583 (locL k) [] ρ := by
  obtain ⟨r, σ', τ', e1, e2, hR2⟩ := hE σ τ hR
  refine A_st (x_aload_n dL_law_583 rfl) ?_
  refine A_st (x_callW [] (c_X6_week idsC nd_C iC0 iC1 iC2 iC3 _ _ _ e1) sub_C hA.1 dL_law_584 tw_601 kc_X6_week (sub_C _ (iC0 0 (Nat.le_of_ble_eq_true rfl) (Nat.le_of_ble_eq_true rfl))) rfl rfl rfl rfl ⟨Nat.le_of_ble_eq_true rfl, Nat.le_of_ble_eq_true rfl⟩ (Nat.le_of_ble_eq_true rfl) rfl) ?_
  refine A_st (x_aload_n dL_law_587 rfl) ?_
  refine A_st (x_callW [aI r] (c_X7_week idsM nd_M iM0 _ _ _ e2) sub_M (ag_C hA) dL_law_588 tw_1153 kc_X7_week (sub_M _ (iM0 29 (Nat.le_of_ble_eq_true rfl) (Nat.le_of_ble_eq_true rfl))) rfl rfl rfl rfl ⟨Nat.le_of_ble_eq_true rfl, Nat.le_of_ble_eq_true rfl⟩ (Nat.le_of_ble_eq_true rfl) rfl) ?_
  refine A_st (x_icmp_eq_t (tgt := 1272) dL_law_591 (by decide) rfl) ?_
  exact hnext _ σ' τ' (ag_M hA) hR2
set_option maxRecDepth 100000 in
set_option maxHeartbeats 4000000 in
theorem lk_14 {N : Nat} {xs : Nat → Int32} {Rl : Sg → Sg → Prop} (hE : E_steps Rl) {k : Nat} (hin : ∀ q : Int32, 0 ≤ q → q ≤ 3 → inb (nI k + q) N) {ρ σ τ : Sg} (hA : ag ρ σ τ) (hR : Rl σ τ) (hnext : ∀ ρ' σ' τ', ag ρ' σ' τ' → Rl σ' τ' → Aj (mL N xs) idsA phiL 1272 (locL k) [] ρ') : Aj (mL N xs) idsA phiL 596 (locL k) [] ρ := by
  obtain ⟨r, σ', τ', e1, e2, hR2⟩ := hE (xs (nI k + (1 : Int32)).toNatClampNeg) (xs (nI k + (2 : Int32)).toNatClampNeg) σ τ hR
  refine A_st (x_aload_n dL_law_596 rfl) ?_
  refine A_st (x_aload_n dL_law_597 rfl) ?_
  refine A_st (x_iload_n dL_law_598 rfl) ?_
  refine A_st (x_iconst (1 : Int32) dL_law_599 rfl) ?_
  refine A_st (x_iadd dL_law_600) ?_
  refine A_st (x_sld rfl dL_law_601 (hin 1 (by decide) (by decide))) ?_
  refine A_st (x_aload_n dL_law_602 rfl) ?_
  refine A_st (x_iload_n dL_law_603 rfl) ?_
  refine A_st (x_iconst (2 : Int32) dL_law_604 rfl) ?_
  refine A_st (x_iadd dL_law_605) ?_
  refine A_st (x_sld rfl dL_law_606 (hin 2 (by decide) (by decide))) ?_
  refine A_st (x_callW [] (c_X6_steps idsC nd_C (xs (nI k + (1 : Int32)).toNatClampNeg) (xs (nI k + (2 : Int32)).toNatClampNeg) iC0 iC1 iC2 iC3 _ _ _ e1) sub_C hA.1 dL_law_607 tw_656 kc_X6_steps (sub_C _ (iC0 0 (Nat.le_of_ble_eq_true rfl) (Nat.le_of_ble_eq_true rfl))) rfl rfl rfl rfl ⟨Nat.le_of_ble_eq_true rfl, Nat.le_of_ble_eq_true rfl⟩ (Nat.le_of_ble_eq_true rfl) rfl) ?_
  refine A_st (x_aload_n dL_law_610 rfl) ?_
  refine A_st (x_aload_n dL_law_611 rfl) ?_
  refine A_st (x_iload_n dL_law_612 rfl) ?_
  refine A_st (x_iconst (1 : Int32) dL_law_613 rfl) ?_
  refine A_st (x_iadd dL_law_614) ?_
  refine A_st (x_sld rfl dL_law_615 (hin 1 (by decide) (by decide))) ?_
  refine A_st (x_aload_n dL_law_616 rfl) ?_
  refine A_st (x_iload_n dL_law_617 rfl) ?_
  refine A_st (x_iconst (2 : Int32) dL_law_618 rfl) ?_
  refine A_st (x_iadd dL_law_619) ?_
  refine A_st (x_sld rfl dL_law_620 (hin 2 (by decide) (by decide))) ?_
  refine A_st (x_callW [aI r] (c_X7_steps idsM nd_M (xs (nI k + (1 : Int32)).toNatClampNeg) (xs (nI k + (2 : Int32)).toNatClampNeg) iM0 _ _ _ e2) sub_M (ag_C hA) dL_law_621 tw_1198 kc_X7_steps (sub_M _ (iM0 29 (Nat.le_of_ble_eq_true rfl) (Nat.le_of_ble_eq_true rfl))) rfl rfl rfl rfl ⟨Nat.le_of_ble_eq_true rfl, Nat.le_of_ble_eq_true rfl⟩ (Nat.le_of_ble_eq_true rfl) rfl) ?_
  refine A_st (x_icmp_eq_t (tgt := 1272) dL_law_624 (by decide) rfl) ?_
  exact hnext _ σ' τ' (ag_M hA) hR2
set_option maxRecDepth 100000 in
set_option maxHeartbeats 4000000 in
theorem lk_15 {N : Nat} {xs : Nat → Int32} {Rl : Sg → Sg → Prop} (hE : E_down Rl) {k : Nat} (hin : ∀ q : Int32, 0 ≤ q → q ≤ 3 → inb (nI k + q) N) {ρ σ τ : Sg} (hA : ag ρ σ τ) (hR : Rl σ τ) (hnext : ∀ ρ' σ' τ', ag ρ' σ' τ' → Rl σ' τ' → Aj (mL N xs) idsA phiL 1272 (locL k) [] ρ') : Aj (mL N xs) idsA phiL 629 (locL k) [] ρ := by
  obtain ⟨r, σ', τ', e1, e2, hR2⟩ := hE (xs (nI k + (1 : Int32)).toNatClampNeg) σ τ hR
  refine A_st (x_aload_n dL_law_629 rfl) ?_
  refine A_st (x_aload_n dL_law_630 rfl) ?_
  refine A_st (x_iload_n dL_law_631 rfl) ?_
  refine A_st (x_iconst (1 : Int32) dL_law_632 rfl) ?_
  refine A_st (x_iadd dL_law_633) ?_
  refine A_st (x_sld rfl dL_law_634 (hin 1 (by decide) (by decide))) ?_
  refine A_st (x_callW [] (c_X6_down idsC nd_C (xs (nI k + (1 : Int32)).toNatClampNeg) iC0 iC1 iC2 iC3 _ _ _ e1) sub_C hA.1 dL_law_635 tw_664 kc_X6_down (sub_C _ (iC0 0 (Nat.le_of_ble_eq_true rfl) (Nat.le_of_ble_eq_true rfl))) rfl rfl rfl rfl ⟨Nat.le_of_ble_eq_true rfl, Nat.le_of_ble_eq_true rfl⟩ (Nat.le_of_ble_eq_true rfl) rfl) ?_
  refine A_st (x_aload_n dL_law_638 rfl) ?_
  refine A_st (x_aload_n dL_law_639 rfl) ?_
  refine A_st (x_iload_n dL_law_640 rfl) ?_
  refine A_st (x_iconst (1 : Int32) dL_law_641 rfl) ?_
  refine A_st (x_iadd dL_law_642) ?_
  refine A_st (x_sld rfl dL_law_643 (hin 1 (by decide) (by decide))) ?_
  refine A_st (x_callW [aI r] (c_X7_down idsM nd_M (xs (nI k + (1 : Int32)).toNatClampNeg) iM0 _ _ _ e2) sub_M (ag_C hA) dL_law_644 tw_1206 kc_X7_down (sub_M _ (iM0 29 (Nat.le_of_ble_eq_true rfl) (Nat.le_of_ble_eq_true rfl))) rfl rfl rfl rfl ⟨Nat.le_of_ble_eq_true rfl, Nat.le_of_ble_eq_true rfl⟩ (Nat.le_of_ble_eq_true rfl) rfl) ?_
  refine A_st (x_icmp_eq_t (tgt := 1272) dL_law_647 (by decide) rfl) ?_
  exact hnext _ σ' τ' (ag_M hA) hR2
set_option maxRecDepth 100000 in
set_option maxHeartbeats 4000000 in
theorem lk_16 {N : Nat} {xs : Nat → Int32} {Rl : Sg → Sg → Prop} (hE : E_whom Rl) {k : Nat} (hin : ∀ q : Int32, 0 ≤ q → q ≤ 3 → inb (nI k + q) N) {ρ σ τ : Sg} (hA : ag ρ σ τ) (hR : Rl σ τ) (hnext : ∀ ρ' σ' τ', ag ρ' σ' τ' → Rl σ' τ' → Aj (mL N xs) idsA phiL 1272 (locL k) [] ρ') : Aj (mL N xs) idsA phiL 652 (locL k) [] ρ := by
  obtain ⟨r, σ', τ', e1, e2, hR2⟩ := hE (xs (nI k + (1 : Int32)).toNatClampNeg) (xs (nI k + (2 : Int32)).toNatClampNeg) σ τ hR
  refine A_st (x_aload_n dL_law_652 rfl) ?_
  refine A_st (x_aload_n dL_law_653 rfl) ?_
  refine A_st (x_iload_n dL_law_654 rfl) ?_
  refine A_st (x_iconst (1 : Int32) dL_law_655 rfl) ?_
  refine A_st (x_iadd dL_law_656) ?_
  refine A_st (x_sld rfl dL_law_657 (hin 1 (by decide) (by decide))) ?_
  refine A_st (x_aload_n dL_law_658 rfl) ?_
  refine A_st (x_iload_n dL_law_659 rfl) ?_
  refine A_st (x_iconst (2 : Int32) dL_law_660 rfl) ?_
  refine A_st (x_iadd dL_law_661) ?_
  refine A_st (x_sld rfl dL_law_662 (hin 2 (by decide) (by decide))) ?_
  refine A_st (x_callW [] (c_X6_whom idsC nd_C (xs (nI k + (1 : Int32)).toNatClampNeg) (xs (nI k + (2 : Int32)).toNatClampNeg) iC0 iC1 iC2 iC3 _ _ _ e1) sub_C hA.1 dL_law_663 tw_668 kc_X6_whom (sub_C _ (iC0 0 (Nat.le_of_ble_eq_true rfl) (Nat.le_of_ble_eq_true rfl))) rfl rfl rfl rfl ⟨Nat.le_of_ble_eq_true rfl, Nat.le_of_ble_eq_true rfl⟩ (Nat.le_of_ble_eq_true rfl) rfl) ?_
  refine A_st (x_aload_n dL_law_666 rfl) ?_
  refine A_st (x_aload_n dL_law_667 rfl) ?_
  refine A_st (x_iload_n dL_law_668 rfl) ?_
  refine A_st (x_iconst (1 : Int32) dL_law_669 rfl) ?_
  refine A_st (x_iadd dL_law_670) ?_
  refine A_st (x_sld rfl dL_law_671 (hin 1 (by decide) (by decide))) ?_
  refine A_st (x_aload_n dL_law_672 rfl) ?_
  refine A_st (x_iload_n dL_law_673 rfl) ?_
  refine A_st (x_iconst (2 : Int32) dL_law_674 rfl) ?_
  refine A_st (x_iadd dL_law_675) ?_
  refine A_st (x_sld rfl dL_law_676 (hin 2 (by decide) (by decide))) ?_
  refine A_st (x_callW [aI r] (c_X7_whom idsM nd_M (xs (nI k + (1 : Int32)).toNatClampNeg) (xs (nI k + (2 : Int32)).toNatClampNeg) iM0 _ _ _ e2) sub_M (ag_C hA) dL_law_677 tw_1210 kc_X7_whom (sub_M _ (iM0 29 (Nat.le_of_ble_eq_true rfl) (Nat.le_of_ble_eq_true rfl))) rfl rfl rfl rfl ⟨Nat.le_of_ble_eq_true rfl, Nat.le_of_ble_eq_true rfl⟩ (Nat.le_of_ble_eq_true rfl) rfl) ?_
  refine A_st (x_icmp_eq_t (tgt := 1272) dL_law_680 (by decide) rfl) ?_
  exact hnext _ σ' τ' (ag_M hA) hR2
set_option maxRecDepth 100000 in
set_option maxHeartbeats 4000000 in
theorem lk_17 {N : Nat} {xs : Nat → Int32} {Rl : Sg → Sg → Prop} (hE : E_does Rl) {k : Nat} (hin : ∀ q : Int32, 0 ≤ q → q ≤ 3 → inb (nI k + q) N) {ρ σ τ : Sg} (hA : ag ρ σ τ) (hR : Rl σ τ) (hnext : ∀ ρ' σ' τ', ag ρ' σ' τ' → Rl σ' τ' → Aj (mL N xs) idsA phiL 1272 (locL k) [] ρ') : Aj (mL N xs) idsA phiL 685 (locL k) [] ρ := by
  obtain ⟨r, σ', τ', e1, e2, hR2⟩ := hE (xs (nI k + (1 : Int32)).toNatClampNeg) (xs (nI k + (2 : Int32)).toNatClampNeg) σ τ hR
  refine A_st (x_aload_n dL_law_685 rfl) ?_
  refine A_st (x_aload_n dL_law_686 rfl) ?_
  refine A_st (x_iload_n dL_law_687 rfl) ?_
  refine A_st (x_iconst (1 : Int32) dL_law_688 rfl) ?_
  refine A_st (x_iadd dL_law_689) ?_
  refine A_st (x_sld rfl dL_law_690 (hin 1 (by decide) (by decide))) ?_
  refine A_st (x_aload_n dL_law_691 rfl) ?_
  refine A_st (x_iload_n dL_law_692 rfl) ?_
  refine A_st (x_iconst (2 : Int32) dL_law_693 rfl) ?_
  refine A_st (x_iadd dL_law_694) ?_
  refine A_st (x_sld rfl dL_law_695 (hin 2 (by decide) (by decide))) ?_
  refine A_st (x_callW [] (c_X6_does idsC nd_C (xs (nI k + (1 : Int32)).toNatClampNeg) (xs (nI k + (2 : Int32)).toNatClampNeg) iC0 iC1 iC2 iC3 _ _ _ e1) sub_C hA.1 dL_law_696 tw_680 kc_X6_does (sub_C _ (iC0 0 (Nat.le_of_ble_eq_true rfl) (Nat.le_of_ble_eq_true rfl))) rfl rfl rfl rfl ⟨Nat.le_of_ble_eq_true rfl, Nat.le_of_ble_eq_true rfl⟩ (Nat.le_of_ble_eq_true rfl) rfl) ?_
  refine A_st (x_aload_n dL_law_699 rfl) ?_
  refine A_st (x_aload_n dL_law_700 rfl) ?_
  refine A_st (x_iload_n dL_law_701 rfl) ?_
  refine A_st (x_iconst (1 : Int32) dL_law_702 rfl) ?_
  refine A_st (x_iadd dL_law_703) ?_
  refine A_st (x_sld rfl dL_law_704 (hin 1 (by decide) (by decide))) ?_
  refine A_st (x_aload_n dL_law_705 rfl) ?_
  refine A_st (x_iload_n dL_law_706 rfl) ?_
  refine A_st (x_iconst (2 : Int32) dL_law_707 rfl) ?_
  refine A_st (x_iadd dL_law_708) ?_
  refine A_st (x_sld rfl dL_law_709 (hin 2 (by decide) (by decide))) ?_
  refine A_st (x_callW [aI r] (c_X7_does idsM nd_M (xs (nI k + (1 : Int32)).toNatClampNeg) (xs (nI k + (2 : Int32)).toNatClampNeg) iM0 _ _ _ e2) sub_M (ag_C hA) dL_law_710 tw_1218 kc_X7_does (sub_M _ (iM0 29 (Nat.le_of_ble_eq_true rfl) (Nat.le_of_ble_eq_true rfl))) rfl rfl rfl rfl ⟨Nat.le_of_ble_eq_true rfl, Nat.le_of_ble_eq_true rfl⟩ (Nat.le_of_ble_eq_true rfl) rfl) ?_
  refine A_st (x_icmp_eq_t (tgt := 1272) dL_law_713 (by decide) rfl) ?_
  exact hnext _ σ' τ' (ag_M hA) hR2
set_option maxRecDepth 100000 in
set_option maxHeartbeats 4000000 in
theorem lk_18 {N : Nat} {xs : Nat → Int32} {Rl : Sg → Sg → Prop} (hE : E_harmed Rl) {k : Nat} (hin : ∀ q : Int32, 0 ≤ q → q ≤ 3 → inb (nI k + q) N) {ρ σ τ : Sg} (hA : ag ρ σ τ) (hR : Rl σ τ) (hnext : ∀ ρ' σ' τ', ag ρ' σ' τ' → Rl σ' τ' → Aj (mL N xs) idsA phiL 1272 (locL k) [] ρ') : Aj (mL N xs) idsA phiL 718 (locL k) [] ρ := by
  obtain ⟨r, σ', τ', e1, e2, hR2⟩ := hE (xs (nI k + (1 : Int32)).toNatClampNeg) (xs (nI k + (2 : Int32)).toNatClampNeg) σ τ hR
  refine A_st (x_aload_n dL_law_718 rfl) ?_
  refine A_st (x_aload_n dL_law_719 rfl) ?_
  refine A_st (x_iload_n dL_law_720 rfl) ?_
  refine A_st (x_iconst (1 : Int32) dL_law_721 rfl) ?_
  refine A_st (x_iadd dL_law_722) ?_
  refine A_st (x_sld rfl dL_law_723 (hin 1 (by decide) (by decide))) ?_
  refine A_st (x_aload_n dL_law_724 rfl) ?_
  refine A_st (x_iload_n dL_law_725 rfl) ?_
  refine A_st (x_iconst (2 : Int32) dL_law_726 rfl) ?_
  refine A_st (x_iadd dL_law_727) ?_
  refine A_st (x_sld rfl dL_law_728 (hin 2 (by decide) (by decide))) ?_
  refine A_st (x_callW [] (c_X6_harmed idsC nd_C (xs (nI k + (1 : Int32)).toNatClampNeg) (xs (nI k + (2 : Int32)).toNatClampNeg) iC0 iC1 iC2 iC3 _ _ _ e1) sub_C hA.1 dL_law_729 tw_685 kc_X6_harmed (sub_C _ (iC0 0 (Nat.le_of_ble_eq_true rfl) (Nat.le_of_ble_eq_true rfl))) rfl rfl rfl rfl ⟨Nat.le_of_ble_eq_true rfl, Nat.le_of_ble_eq_true rfl⟩ (Nat.le_of_ble_eq_true rfl) rfl) ?_
  refine A_st (x_aload_n dL_law_732 rfl) ?_
  refine A_st (x_aload_n dL_law_733 rfl) ?_
  refine A_st (x_iload_n dL_law_734 rfl) ?_
  refine A_st (x_iconst (1 : Int32) dL_law_735 rfl) ?_
  refine A_st (x_iadd dL_law_736) ?_
  refine A_st (x_sld rfl dL_law_737 (hin 1 (by decide) (by decide))) ?_
  refine A_st (x_aload_n dL_law_738 rfl) ?_
  refine A_st (x_iload_n dL_law_739 rfl) ?_
  refine A_st (x_iconst (2 : Int32) dL_law_740 rfl) ?_
  refine A_st (x_iadd dL_law_741) ?_
  refine A_st (x_sld rfl dL_law_742 (hin 2 (by decide) (by decide))) ?_
  refine A_st (x_callW [aI r] (c_X7_harmed idsM nd_M (xs (nI k + (1 : Int32)).toNatClampNeg) (xs (nI k + (2 : Int32)).toNatClampNeg) iM0 _ _ _ e2) sub_M (ag_C hA) dL_law_743 tw_1222 kc_X7_harmed (sub_M _ (iM0 29 (Nat.le_of_ble_eq_true rfl) (Nat.le_of_ble_eq_true rfl))) rfl rfl rfl rfl ⟨Nat.le_of_ble_eq_true rfl, Nat.le_of_ble_eq_true rfl⟩ (Nat.le_of_ble_eq_true rfl) rfl) ?_
  refine A_st (x_icmp_eq_t (tgt := 1272) dL_law_746 (by decide) rfl) ?_
  exact hnext _ σ' τ' (ag_M hA) hR2
set_option maxRecDepth 100000 in
set_option maxHeartbeats 4000000 in
theorem lk_19 {N : Nat} {xs : Nat → Int32} {Rl : Sg → Sg → Prop} (hE : E_least Rl) {k : Nat} (hin : ∀ q : Int32, 0 ≤ q → q ≤ 3 → inb (nI k + q) N) {ρ σ τ : Sg} (hA : ag ρ σ τ) (hR : Rl σ τ) (hnext : ∀ ρ' σ' τ', ag ρ' σ' τ' → Rl σ' τ' → Aj (mL N xs) idsA phiL 1272 (locL k) [] ρ') : Aj (mL N xs) idsA phiL 751 (locL k) [] ρ := by
  obtain ⟨r, σ', τ', e1, e2, hR2⟩ := hE (xs (nI k + (1 : Int32)).toNatClampNeg) (xs (nI k + (2 : Int32)).toNatClampNeg) σ τ hR
  refine A_st (x_aload_n dL_law_751 rfl) ?_
  refine A_st (x_aload_n dL_law_752 rfl) ?_
  refine A_st (x_iload_n dL_law_753 rfl) ?_
  refine A_st (x_iconst (1 : Int32) dL_law_754 rfl) ?_
  refine A_st (x_iadd dL_law_755) ?_
  refine A_st (x_sld rfl dL_law_756 (hin 1 (by decide) (by decide))) ?_
  refine A_st (x_aload_n dL_law_757 rfl) ?_
  refine A_st (x_iload_n dL_law_758 rfl) ?_
  refine A_st (x_iconst (2 : Int32) dL_law_759 rfl) ?_
  refine A_st (x_iadd dL_law_760) ?_
  refine A_st (x_sld rfl dL_law_761 (hin 2 (by decide) (by decide))) ?_
  refine A_st (x_callW [] (c_X6_least idsC nd_C (xs (nI k + (1 : Int32)).toNatClampNeg) (xs (nI k + (2 : Int32)).toNatClampNeg) iC0 iC1 iC2 iC3 _ _ _ e1) sub_C hA.1 dL_law_762 tw_699 kc_X6_least (sub_C _ (iC0 0 (Nat.le_of_ble_eq_true rfl) (Nat.le_of_ble_eq_true rfl))) rfl rfl rfl rfl ⟨Nat.le_of_ble_eq_true rfl, Nat.le_of_ble_eq_true rfl⟩ (Nat.le_of_ble_eq_true rfl) rfl) ?_
  refine A_st (x_aload_n dL_law_765 rfl) ?_
  refine A_st (x_aload_n dL_law_766 rfl) ?_
  refine A_st (x_iload_n dL_law_767 rfl) ?_
  refine A_st (x_iconst (1 : Int32) dL_law_768 rfl) ?_
  refine A_st (x_iadd dL_law_769) ?_
  refine A_st (x_sld rfl dL_law_770 (hin 1 (by decide) (by decide))) ?_
  refine A_st (x_aload_n dL_law_771 rfl) ?_
  refine A_st (x_iload_n dL_law_772 rfl) ?_
  refine A_st (x_iconst (2 : Int32) dL_law_773 rfl) ?_
  refine A_st (x_iadd dL_law_774) ?_
  refine A_st (x_sld rfl dL_law_775 (hin 2 (by decide) (by decide))) ?_
  refine A_st (x_callW [aI r] (c_X7_least idsM nd_M (xs (nI k + (1 : Int32)).toNatClampNeg) (xs (nI k + (2 : Int32)).toNatClampNeg) iM0 _ _ _ e2) sub_M (ag_C hA) dL_law_776 tw_1226 kc_X7_least (sub_M _ (iM0 29 (Nat.le_of_ble_eq_true rfl) (Nat.le_of_ble_eq_true rfl))) rfl rfl rfl rfl ⟨Nat.le_of_ble_eq_true rfl, Nat.le_of_ble_eq_true rfl⟩ (Nat.le_of_ble_eq_true rfl) rfl) ?_
  refine A_st (x_icmp_eq_t (tgt := 1272) dL_law_779 (by decide) rfl) ?_
  exact hnext _ σ' τ' (ag_M hA) hR2
set_option maxRecDepth 100000 in
set_option maxHeartbeats 4000000 in
theorem lk_20 {N : Nat} {xs : Nat → Int32} {Rl : Sg → Sg → Prop} (hE : E_hours Rl) {k : Nat} (hin : ∀ q : Int32, 0 ≤ q → q ≤ 3 → inb (nI k + q) N) {ρ σ τ : Sg} (hA : ag ρ σ τ) (hR : Rl σ τ) (hnext : ∀ ρ' σ' τ', ag ρ' σ' τ' → Rl σ' τ' → Aj (mL N xs) idsA phiL 1272 (locL k) [] ρ') : Aj (mL N xs) idsA phiL 784 (locL k) [] ρ := by
  obtain ⟨r, σ', τ', e1, e2, hR2⟩ := hE (xs (nI k + (1 : Int32)).toNatClampNeg) (xs (nI k + (2 : Int32)).toNatClampNeg) (xs (nI k + (3 : Int32)).toNatClampNeg) σ τ hR
  refine A_st (x_aload_n dL_law_784 rfl) ?_
  refine A_st (x_aload_n dL_law_785 rfl) ?_
  refine A_st (x_iload_n dL_law_786 rfl) ?_
  refine A_st (x_iconst (1 : Int32) dL_law_787 rfl) ?_
  refine A_st (x_iadd dL_law_788) ?_
  refine A_st (x_sld rfl dL_law_789 (hin 1 (by decide) (by decide))) ?_
  refine A_st (x_aload_n dL_law_790 rfl) ?_
  refine A_st (x_iload_n dL_law_791 rfl) ?_
  refine A_st (x_iconst (2 : Int32) dL_law_792 rfl) ?_
  refine A_st (x_iadd dL_law_793) ?_
  refine A_st (x_sld rfl dL_law_794 (hin 2 (by decide) (by decide))) ?_
  refine A_st (x_aload_n dL_law_795 rfl) ?_
  refine A_st (x_iload_n dL_law_796 rfl) ?_
  refine A_st (x_iconst (3 : Int32) dL_law_797 rfl) ?_
  refine A_st (x_iadd dL_law_798) ?_
  refine A_st (x_sld rfl dL_law_799 (hin 3 (by decide) (by decide))) ?_
  refine A_st (x_callW [] (c_X6_hours idsC nd_C (xs (nI k + (1 : Int32)).toNatClampNeg) (xs (nI k + (2 : Int32)).toNatClampNeg) (xs (nI k + (3 : Int32)).toNatClampNeg) iC0 iC1 iC2 iC3 _ _ _ e1) sub_C hA.1 dL_law_800 tw_707 kc_X6_hours (sub_C _ (iC0 0 (Nat.le_of_ble_eq_true rfl) (Nat.le_of_ble_eq_true rfl))) rfl rfl rfl rfl ⟨Nat.le_of_ble_eq_true rfl, Nat.le_of_ble_eq_true rfl⟩ (Nat.le_of_ble_eq_true rfl) rfl) ?_
  refine A_st (x_aload_n dL_law_803 rfl) ?_
  refine A_st (x_aload_n dL_law_804 rfl) ?_
  refine A_st (x_iload_n dL_law_805 rfl) ?_
  refine A_st (x_iconst (1 : Int32) dL_law_806 rfl) ?_
  refine A_st (x_iadd dL_law_807) ?_
  refine A_st (x_sld rfl dL_law_808 (hin 1 (by decide) (by decide))) ?_
  refine A_st (x_aload_n dL_law_809 rfl) ?_
  refine A_st (x_iload_n dL_law_810 rfl) ?_
  refine A_st (x_iconst (2 : Int32) dL_law_811 rfl) ?_
  refine A_st (x_iadd dL_law_812) ?_
  refine A_st (x_sld rfl dL_law_813 (hin 2 (by decide) (by decide))) ?_
  refine A_st (x_aload_n dL_law_814 rfl) ?_
  refine A_st (x_iload_n dL_law_815 rfl) ?_
  refine A_st (x_iconst (3 : Int32) dL_law_816 rfl) ?_
  refine A_st (x_iadd dL_law_817) ?_
  refine A_st (x_sld rfl dL_law_818 (hin 3 (by decide) (by decide))) ?_
  refine A_st (x_callW [aI r] (c_X7_hours idsM nd_M (xs (nI k + (1 : Int32)).toNatClampNeg) (xs (nI k + (2 : Int32)).toNatClampNeg) (xs (nI k + (3 : Int32)).toNatClampNeg) iM0 _ _ _ e2) sub_M (ag_C hA) dL_law_819 tw_1230 kc_X7_hours (sub_M _ (iM0 29 (Nat.le_of_ble_eq_true rfl) (Nat.le_of_ble_eq_true rfl))) rfl rfl rfl rfl ⟨Nat.le_of_ble_eq_true rfl, Nat.le_of_ble_eq_true rfl⟩ (Nat.le_of_ble_eq_true rfl) rfl) ?_
  refine A_st (x_icmp_eq_t (tgt := 1272) dL_law_822 (by decide) rfl) ?_
  exact hnext _ σ' τ' (ag_M hA) hR2
set_option maxRecDepth 100000 in
set_option maxHeartbeats 4000000 in
theorem lk_21 {N : Nat} {xs : Nat → Int32} {Rl : Sg → Sg → Prop} (hE : E_quiet Rl) {k : Nat} (hin : ∀ q : Int32, 0 ≤ q → q ≤ 3 → inb (nI k + q) N) {ρ σ τ : Sg} (hA : ag ρ σ τ) (hR : Rl σ τ) (hnext : ∀ ρ' σ' τ', ag ρ' σ' τ' → Rl σ' τ' → Aj (mL N xs) idsA phiL 1272 (locL k) [] ρ') : Aj (mL N xs) idsA phiL 827 (locL k) [] ρ := by
  obtain ⟨r, σ', τ', e1, e2, hR2⟩ := hE (xs (nI k + (1 : Int32)).toNatClampNeg) (xs (nI k + (2 : Int32)).toNatClampNeg) σ τ hR
  refine A_st (x_aload_n dL_law_827 rfl) ?_
  refine A_st (x_aload_n dL_law_828 rfl) ?_
  refine A_st (x_iload_n dL_law_829 rfl) ?_
  refine A_st (x_iconst (1 : Int32) dL_law_830 rfl) ?_
  refine A_st (x_iadd dL_law_831) ?_
  refine A_st (x_sld rfl dL_law_832 (hin 1 (by decide) (by decide))) ?_
  refine A_st (x_aload_n dL_law_833 rfl) ?_
  refine A_st (x_iload_n dL_law_834 rfl) ?_
  refine A_st (x_iconst (2 : Int32) dL_law_835 rfl) ?_
  refine A_st (x_iadd dL_law_836) ?_
  refine A_st (x_sld rfl dL_law_837 (hin 2 (by decide) (by decide))) ?_
  refine A_st (x_callW [] (c_X6_quiet idsC nd_C (xs (nI k + (1 : Int32)).toNatClampNeg) (xs (nI k + (2 : Int32)).toNatClampNeg) iC0 iC1 iC2 iC3 _ _ _ e1) sub_C hA.1 dL_law_838 tw_711 kc_X6_quiet (sub_C _ (iC0 0 (Nat.le_of_ble_eq_true rfl) (Nat.le_of_ble_eq_true rfl))) rfl rfl rfl rfl ⟨Nat.le_of_ble_eq_true rfl, Nat.le_of_ble_eq_true rfl⟩ (Nat.le_of_ble_eq_true rfl) rfl) ?_
  refine A_st (x_aload_n dL_law_841 rfl) ?_
  refine A_st (x_aload_n dL_law_842 rfl) ?_
  refine A_st (x_iload_n dL_law_843 rfl) ?_
  refine A_st (x_iconst (1 : Int32) dL_law_844 rfl) ?_
  refine A_st (x_iadd dL_law_845) ?_
  refine A_st (x_sld rfl dL_law_846 (hin 1 (by decide) (by decide))) ?_
  refine A_st (x_aload_n dL_law_847 rfl) ?_
  refine A_st (x_iload_n dL_law_848 rfl) ?_
  refine A_st (x_iconst (2 : Int32) dL_law_849 rfl) ?_
  refine A_st (x_iadd dL_law_850) ?_
  refine A_st (x_sld rfl dL_law_851 (hin 2 (by decide) (by decide))) ?_
  refine A_st (x_callW [aI r] (c_X7_quiet idsM nd_M (xs (nI k + (1 : Int32)).toNatClampNeg) (xs (nI k + (2 : Int32)).toNatClampNeg) iM0 _ _ _ e2) sub_M (ag_C hA) dL_law_852 tw_1234 kc_X7_quiet (sub_M _ (iM0 29 (Nat.le_of_ble_eq_true rfl) (Nat.le_of_ble_eq_true rfl))) rfl rfl rfl rfl ⟨Nat.le_of_ble_eq_true rfl, Nat.le_of_ble_eq_true rfl⟩ (Nat.le_of_ble_eq_true rfl) rfl) ?_
  refine A_st (x_icmp_eq_t (tgt := 1272) dL_law_855 (by decide) rfl) ?_
  exact hnext _ σ' τ' (ag_M hA) hR2
set_option maxRecDepth 100000 in
set_option maxHeartbeats 4000000 in
theorem lk_22 {N : Nat} {xs : Nat → Int32} {Rl : Sg → Sg → Prop} (hE : E_rule Rl) {k : Nat} (hin : ∀ q : Int32, 0 ≤ q → q ≤ 3 → inb (nI k + q) N) {ρ σ τ : Sg} (hA : ag ρ σ τ) (hR : Rl σ τ) (hnext : ∀ ρ' σ' τ', ag ρ' σ' τ' → Rl σ' τ' → Aj (mL N xs) idsA phiL 1272 (locL k) [] ρ') : Aj (mL N xs) idsA phiL 860 (locL k) [] ρ := by
  obtain ⟨r, σ', τ', e1, e2, hR2⟩ := hE σ τ hR
  refine A_st (x_aload_n dL_law_860 rfl) ?_
  refine A_st (x_callW [] (c_X6_rule idsC nd_C iC0 iC1 iC2 iC3 _ _ _ e1) sub_C hA.1 dL_law_861 tw_724 kc_X6_rule (sub_C _ (iC0 0 (Nat.le_of_ble_eq_true rfl) (Nat.le_of_ble_eq_true rfl))) rfl rfl rfl rfl ⟨Nat.le_of_ble_eq_true rfl, Nat.le_of_ble_eq_true rfl⟩ (Nat.le_of_ble_eq_true rfl) rfl) ?_
  refine A_st (x_aload_n dL_law_864 rfl) ?_
  refine A_st (x_callW [aI r] (c_X7_rule idsM nd_M iM0 _ _ _ e2) sub_M (ag_C hA) dL_law_865 tw_1250 kc_X7_rule (sub_M _ (iM0 29 (Nat.le_of_ble_eq_true rfl) (Nat.le_of_ble_eq_true rfl))) rfl rfl rfl rfl ⟨Nat.le_of_ble_eq_true rfl, Nat.le_of_ble_eq_true rfl⟩ (Nat.le_of_ble_eq_true rfl) rfl) ?_
  refine A_st (x_icmp_eq_t (tgt := 1272) dL_law_868 (by decide) rfl) ?_
  exact hnext _ σ' τ' (ag_M hA) hR2
set_option maxRecDepth 100000 in
set_option maxHeartbeats 4000000 in
theorem lk_23 {N : Nat} {xs : Nat → Int32} {Rl : Sg → Sg → Prop} (hE : E_hang Rl) {k : Nat} (hin : ∀ q : Int32, 0 ≤ q → q ≤ 3 → inb (nI k + q) N) {ρ σ τ : Sg} (hA : ag ρ σ τ) (hR : Rl σ τ) (hnext : ∀ ρ' σ' τ', ag ρ' σ' τ' → Rl σ' τ' → Aj (mL N xs) idsA phiL 1272 (locL k) [] ρ') : Aj (mL N xs) idsA phiL 873 (locL k) [] ρ := by
  obtain ⟨r, σ', τ', e1, e2, hR2⟩ := hE (xs (nI k + (1 : Int32)).toNatClampNeg) σ τ hR
  refine A_st (x_aload_n dL_law_873 rfl) ?_
  refine A_st (x_aload_n dL_law_874 rfl) ?_
  refine A_st (x_iload_n dL_law_875 rfl) ?_
  refine A_st (x_iconst (1 : Int32) dL_law_876 rfl) ?_
  refine A_st (x_iadd dL_law_877) ?_
  refine A_st (x_sld rfl dL_law_878 (hin 1 (by decide) (by decide))) ?_
  refine A_st (x_callW [] (c_X6_hang idsC nd_C (xs (nI k + (1 : Int32)).toNatClampNeg) iC0 iC1 iC2 iC3 _ _ _ e1) sub_C hA.1 dL_law_879 tw_733 kc_X6_hang (sub_C _ (iC0 0 (Nat.le_of_ble_eq_true rfl) (Nat.le_of_ble_eq_true rfl))) rfl rfl rfl rfl ⟨Nat.le_of_ble_eq_true rfl, Nat.le_of_ble_eq_true rfl⟩ (Nat.le_of_ble_eq_true rfl) rfl) ?_
  refine A_st (x_aload_n dL_law_882 rfl) ?_
  refine A_st (x_aload_n dL_law_883 rfl) ?_
  refine A_st (x_iload_n dL_law_884 rfl) ?_
  refine A_st (x_iconst (1 : Int32) dL_law_885 rfl) ?_
  refine A_st (x_iadd dL_law_886) ?_
  refine A_st (x_sld rfl dL_law_887 (hin 1 (by decide) (by decide))) ?_
  refine A_st (x_callW [aI r] (c_X7_hang idsM nd_M (xs (nI k + (1 : Int32)).toNatClampNeg) iM0 _ _ _ e2) sub_M (ag_C hA) dL_law_888 tw_1254 kc_X7_hang (sub_M _ (iM0 29 (Nat.le_of_ble_eq_true rfl) (Nat.le_of_ble_eq_true rfl))) rfl rfl rfl rfl ⟨Nat.le_of_ble_eq_true rfl, Nat.le_of_ble_eq_true rfl⟩ (Nat.le_of_ble_eq_true rfl) rfl) ?_
  refine A_st (x_icmp_eq_t (tgt := 1272) dL_law_891 (by decide) rfl) ?_
  exact hnext _ σ' τ' (ag_M hA) hR2
set_option maxRecDepth 100000 in
set_option maxHeartbeats 4000000 in
theorem lk_24 {N : Nat} {xs : Nat → Int32} {Rl : Sg → Sg → Prop} (hE : E_big Rl) {k : Nat} (hin : ∀ q : Int32, 0 ≤ q → q ≤ 3 → inb (nI k + q) N) {ρ σ τ : Sg} (hA : ag ρ σ τ) (hR : Rl σ τ) (hnext : ∀ ρ' σ' τ', ag ρ' σ' τ' → Rl σ' τ' → Aj (mL N xs) idsA phiL 1272 (locL k) [] ρ') : Aj (mL N xs) idsA phiL 896 (locL k) [] ρ := by
  obtain ⟨r, σ', τ', e1, e2, hR2⟩ := hE (xs (nI k + (1 : Int32)).toNatClampNeg) σ τ hR
  refine A_st (x_aload_n dL_law_896 rfl) ?_
  refine A_st (x_aload_n dL_law_897 rfl) ?_
  refine A_st (x_iload_n dL_law_898 rfl) ?_
  refine A_st (x_iconst (1 : Int32) dL_law_899 rfl) ?_
  refine A_st (x_iadd dL_law_900) ?_
  refine A_st (x_sld rfl dL_law_901 (hin 1 (by decide) (by decide))) ?_
  refine A_st (x_callW [] (c_X6_big idsC nd_C (xs (nI k + (1 : Int32)).toNatClampNeg) iC0 iC1 iC2 iC3 _ _ _ e1) sub_C hA.1 dL_law_902 tw_737 kc_X6_big (sub_C _ (iC0 0 (Nat.le_of_ble_eq_true rfl) (Nat.le_of_ble_eq_true rfl))) rfl rfl rfl rfl ⟨Nat.le_of_ble_eq_true rfl, Nat.le_of_ble_eq_true rfl⟩ (Nat.le_of_ble_eq_true rfl) rfl) ?_
  refine A_st (x_aload_n dL_law_905 rfl) ?_
  refine A_st (x_aload_n dL_law_906 rfl) ?_
  refine A_st (x_iload_n dL_law_907 rfl) ?_
  refine A_st (x_iconst (1 : Int32) dL_law_908 rfl) ?_
  refine A_st (x_iadd dL_law_909) ?_
  refine A_st (x_sld rfl dL_law_910 (hin 1 (by decide) (by decide))) ?_
  refine A_st (x_callW [aI r] (c_X7_big idsM nd_M (xs (nI k + (1 : Int32)).toNatClampNeg) iM0 _ _ _ e2) sub_M (ag_C hA) dL_law_911 tw_1262 kc_X7_big (sub_M _ (iM0 29 (Nat.le_of_ble_eq_true rfl) (Nat.le_of_ble_eq_true rfl))) rfl rfl rfl rfl ⟨Nat.le_of_ble_eq_true rfl, Nat.le_of_ble_eq_true rfl⟩ (Nat.le_of_ble_eq_true rfl) rfl) ?_
  refine A_st (x_icmp_eq_t (tgt := 1272) dL_law_914 (by decide) rfl) ?_
  exact hnext _ σ' τ' (ag_M hA) hR2
set_option maxRecDepth 100000 in
set_option maxHeartbeats 4000000 in
theorem lk_25 {N : Nat} {xs : Nat → Int32} {Rl : Sg → Sg → Prop} (hE : E_leads Rl) {k : Nat} (hin : ∀ q : Int32, 0 ≤ q → q ≤ 3 → inb (nI k + q) N) {ρ σ τ : Sg} (hA : ag ρ σ τ) (hR : Rl σ τ) (hnext : ∀ ρ' σ' τ', ag ρ' σ' τ' → Rl σ' τ' → Aj (mL N xs) idsA phiL 1272 (locL k) [] ρ') : Aj (mL N xs) idsA phiL 919 (locL k) [] ρ := by
  obtain ⟨r, σ', τ', e1, e2, hR2⟩ := hE (xs (nI k + (1 : Int32)).toNatClampNeg) σ τ hR
  refine A_st (x_aload_n dL_law_919 rfl) ?_
  refine A_st (x_aload_n dL_law_920 rfl) ?_
  refine A_st (x_iload_n dL_law_921 rfl) ?_
  refine A_st (x_iconst (1 : Int32) dL_law_922 rfl) ?_
  refine A_st (x_iadd dL_law_923) ?_
  refine A_st (x_sld rfl dL_law_924 (hin 1 (by decide) (by decide))) ?_
  refine A_st (x_callW [] (c_X6_leads idsC nd_C (xs (nI k + (1 : Int32)).toNatClampNeg) iC0 iC1 iC2 iC3 _ _ _ e1) sub_C hA.1 dL_law_925 tw_741 kc_X6_leads (sub_C _ (iC0 0 (Nat.le_of_ble_eq_true rfl) (Nat.le_of_ble_eq_true rfl))) rfl rfl rfl rfl ⟨Nat.le_of_ble_eq_true rfl, Nat.le_of_ble_eq_true rfl⟩ (Nat.le_of_ble_eq_true rfl) rfl) ?_
  refine A_st (x_aload_n dL_law_928 rfl) ?_
  refine A_st (x_aload_n dL_law_929 rfl) ?_
  refine A_st (x_iload_n dL_law_930 rfl) ?_
  refine A_st (x_iconst (1 : Int32) dL_law_931 rfl) ?_
  refine A_st (x_iadd dL_law_932) ?_
  refine A_st (x_sld rfl dL_law_933 (hin 1 (by decide) (by decide))) ?_
  refine A_st (x_callW [aI r] (c_X7_leads idsM nd_M (xs (nI k + (1 : Int32)).toNatClampNeg) iM0 _ _ _ e2) sub_M (ag_C hA) dL_law_934 tw_1266 kc_X7_leads (sub_M _ (iM0 29 (Nat.le_of_ble_eq_true rfl) (Nat.le_of_ble_eq_true rfl))) rfl rfl rfl rfl ⟨Nat.le_of_ble_eq_true rfl, Nat.le_of_ble_eq_true rfl⟩ (Nat.le_of_ble_eq_true rfl) rfl) ?_
  refine A_st (x_icmp_eq_t (tgt := 1272) dL_law_937 (by decide) rfl) ?_
  exact hnext _ σ' τ' (ag_M hA) hR2
set_option maxRecDepth 100000 in
set_option maxHeartbeats 4000000 in
theorem lk_26 {N : Nat} {xs : Nat → Int32} {Rl : Sg → Sg → Prop} (hE : E_whose Rl) {k : Nat} (hin : ∀ q : Int32, 0 ≤ q → q ≤ 3 → inb (nI k + q) N) {ρ σ τ : Sg} (hA : ag ρ σ τ) (hR : Rl σ τ) (hnext : ∀ ρ' σ' τ', ag ρ' σ' τ' → Rl σ' τ' → Aj (mL N xs) idsA phiL 1272 (locL k) [] ρ') : Aj (mL N xs) idsA phiL 942 (locL k) [] ρ := by
  obtain ⟨r, σ', τ', e1, e2, hR2⟩ := hE (xs (nI k + (1 : Int32)).toNatClampNeg) (xs (nI k + (2 : Int32)).toNatClampNeg) σ τ hR
  refine A_st (x_aload_n dL_law_942 rfl) ?_
  refine A_st (x_aload_n dL_law_943 rfl) ?_
  refine A_st (x_iload_n dL_law_944 rfl) ?_
  refine A_st (x_iconst (1 : Int32) dL_law_945 rfl) ?_
  refine A_st (x_iadd dL_law_946) ?_
  refine A_st (x_sld rfl dL_law_947 (hin 1 (by decide) (by decide))) ?_
  refine A_st (x_aload_n dL_law_948 rfl) ?_
  refine A_st (x_iload_n dL_law_949 rfl) ?_
  refine A_st (x_iconst (2 : Int32) dL_law_950 rfl) ?_
  refine A_st (x_iadd dL_law_951) ?_
  refine A_st (x_sld rfl dL_law_952 (hin 2 (by decide) (by decide))) ?_
  refine A_st (x_callW [] (c_X6_whose idsC nd_C (xs (nI k + (1 : Int32)).toNatClampNeg) (xs (nI k + (2 : Int32)).toNatClampNeg) iC0 iC1 iC2 iC3 _ _ _ e1) sub_C hA.1 dL_law_953 tw_749 kc_X6_whose (sub_C _ (iC0 0 (Nat.le_of_ble_eq_true rfl) (Nat.le_of_ble_eq_true rfl))) rfl rfl rfl rfl ⟨Nat.le_of_ble_eq_true rfl, Nat.le_of_ble_eq_true rfl⟩ (Nat.le_of_ble_eq_true rfl) rfl) ?_
  refine A_st (x_aload_n dL_law_956 rfl) ?_
  refine A_st (x_aload_n dL_law_957 rfl) ?_
  refine A_st (x_iload_n dL_law_958 rfl) ?_
  refine A_st (x_iconst (1 : Int32) dL_law_959 rfl) ?_
  refine A_st (x_iadd dL_law_960) ?_
  refine A_st (x_sld rfl dL_law_961 (hin 1 (by decide) (by decide))) ?_
  refine A_st (x_aload_n dL_law_962 rfl) ?_
  refine A_st (x_iload_n dL_law_963 rfl) ?_
  refine A_st (x_iconst (2 : Int32) dL_law_964 rfl) ?_
  refine A_st (x_iadd dL_law_965) ?_
  refine A_st (x_sld rfl dL_law_966 (hin 2 (by decide) (by decide))) ?_
  refine A_st (x_callW [aI r] (c_X7_whose idsM nd_M (xs (nI k + (1 : Int32)).toNatClampNeg) (xs (nI k + (2 : Int32)).toNatClampNeg) iM0 _ _ _ e2) sub_M (ag_C hA) dL_law_967 tw_1270 kc_X7_whose (sub_M _ (iM0 29 (Nat.le_of_ble_eq_true rfl) (Nat.le_of_ble_eq_true rfl))) rfl rfl rfl rfl ⟨Nat.le_of_ble_eq_true rfl, Nat.le_of_ble_eq_true rfl⟩ (Nat.le_of_ble_eq_true rfl) rfl) ?_
  refine A_st (x_icmp_eq_t (tgt := 1272) dL_law_970 (by decide) rfl) ?_
  exact hnext _ σ' τ' (ag_M hA) hR2
set_option maxRecDepth 100000 in
set_option maxHeartbeats 4000000 in
theorem lk_27 {N : Nat} {xs : Nat → Int32} {Rl : Sg → Sg → Prop} (hE : E_deal Rl) {k : Nat} (hin : ∀ q : Int32, 0 ≤ q → q ≤ 3 → inb (nI k + q) N) {ρ σ τ : Sg} (hA : ag ρ σ τ) (hR : Rl σ τ) (hnext : ∀ ρ' σ' τ', ag ρ' σ' τ' → Rl σ' τ' → Aj (mL N xs) idsA phiL 1272 (locL k) [] ρ') : Aj (mL N xs) idsA phiL 975 (locL k) [] ρ := by
  obtain ⟨r, σ', τ', e1, e2, hR2⟩ := hE (xs (nI k + (1 : Int32)).toNatClampNeg) (xs (nI k + (2 : Int32)).toNatClampNeg) σ τ hR
  refine A_st (x_aload_n dL_law_975 rfl) ?_
  refine A_st (x_aload_n dL_law_976 rfl) ?_
  refine A_st (x_iload_n dL_law_977 rfl) ?_
  refine A_st (x_iconst (1 : Int32) dL_law_978 rfl) ?_
  refine A_st (x_iadd dL_law_979) ?_
  refine A_st (x_sld rfl dL_law_980 (hin 1 (by decide) (by decide))) ?_
  refine A_st (x_aload_n dL_law_981 rfl) ?_
  refine A_st (x_iload_n dL_law_982 rfl) ?_
  refine A_st (x_iconst (2 : Int32) dL_law_983 rfl) ?_
  refine A_st (x_iadd dL_law_984) ?_
  refine A_st (x_sld rfl dL_law_985 (hin 2 (by decide) (by decide))) ?_
  refine A_st (x_callW [] (c_X6_deal idsC nd_C (xs (nI k + (1 : Int32)).toNatClampNeg) (xs (nI k + (2 : Int32)).toNatClampNeg) iC0 iC1 iC2 iC3 _ _ _ e1) sub_C hA.1 dL_law_986 tw_757 kc_X6_deal (sub_C _ (iC0 0 (Nat.le_of_ble_eq_true rfl) (Nat.le_of_ble_eq_true rfl))) rfl rfl rfl rfl ⟨Nat.le_of_ble_eq_true rfl, Nat.le_of_ble_eq_true rfl⟩ (Nat.le_of_ble_eq_true rfl) rfl) ?_
  refine A_st (x_aload_n dL_law_989 rfl) ?_
  refine A_st (x_aload_n dL_law_990 rfl) ?_
  refine A_st (x_iload_n dL_law_991 rfl) ?_
  refine A_st (x_iconst (1 : Int32) dL_law_992 rfl) ?_
  refine A_st (x_iadd dL_law_993) ?_
  refine A_st (x_sld rfl dL_law_994 (hin 1 (by decide) (by decide))) ?_
  refine A_st (x_aload_n dL_law_995 rfl) ?_
  refine A_st (x_iload_n dL_law_996 rfl) ?_
  refine A_st (x_iconst (2 : Int32) dL_law_997 rfl) ?_
  refine A_st (x_iadd dL_law_998) ?_
  refine A_st (x_sld rfl dL_law_999 (hin 2 (by decide) (by decide))) ?_
  refine A_st (x_callW [aI r] (c_X7_deal idsM nd_M (xs (nI k + (1 : Int32)).toNatClampNeg) (xs (nI k + (2 : Int32)).toNatClampNeg) iM0 _ _ _ e2) sub_M (ag_C hA) dL_law_1000 tw_1278 kc_X7_deal (sub_M _ (iM0 29 (Nat.le_of_ble_eq_true rfl) (Nat.le_of_ble_eq_true rfl))) rfl rfl rfl rfl ⟨Nat.le_of_ble_eq_true rfl, Nat.le_of_ble_eq_true rfl⟩ (Nat.le_of_ble_eq_true rfl) rfl) ?_
  refine A_st (x_icmp_eq_t (tgt := 1272) dL_law_1003 (by decide) rfl) ?_
  exact hnext _ σ' τ' (ag_M hA) hR2
set_option maxRecDepth 100000 in
set_option maxHeartbeats 4000000 in
theorem lk_28 {N : Nat} {xs : Nat → Int32} {Rl : Sg → Sg → Prop} (hE : E_pays Rl) {k : Nat} (hin : ∀ q : Int32, 0 ≤ q → q ≤ 3 → inb (nI k + q) N) {ρ σ τ : Sg} (hA : ag ρ σ τ) (hR : Rl σ τ) (hnext : ∀ ρ' σ' τ', ag ρ' σ' τ' → Rl σ' τ' → Aj (mL N xs) idsA phiL 1272 (locL k) [] ρ') : Aj (mL N xs) idsA phiL 1008 (locL k) [] ρ := by
  obtain ⟨r, σ', τ', e1, e2, hR2⟩ := hE (xs (nI k + (1 : Int32)).toNatClampNeg) (xs (nI k + (2 : Int32)).toNatClampNeg) (xs (nI k + (3 : Int32)).toNatClampNeg) σ τ hR
  refine A_st (x_aload_n dL_law_1008 rfl) ?_
  refine A_st (x_aload_n dL_law_1009 rfl) ?_
  refine A_st (x_iload_n dL_law_1010 rfl) ?_
  refine A_st (x_iconst (1 : Int32) dL_law_1011 rfl) ?_
  refine A_st (x_iadd dL_law_1012) ?_
  refine A_st (x_sld rfl dL_law_1013 (hin 1 (by decide) (by decide))) ?_
  refine A_st (x_aload_n dL_law_1014 rfl) ?_
  refine A_st (x_iload_n dL_law_1015 rfl) ?_
  refine A_st (x_iconst (2 : Int32) dL_law_1016 rfl) ?_
  refine A_st (x_iadd dL_law_1017) ?_
  refine A_st (x_sld rfl dL_law_1018 (hin 2 (by decide) (by decide))) ?_
  refine A_st (x_aload_n dL_law_1019 rfl) ?_
  refine A_st (x_iload_n dL_law_1020 rfl) ?_
  refine A_st (x_iconst (3 : Int32) dL_law_1021 rfl) ?_
  refine A_st (x_iadd dL_law_1022) ?_
  refine A_st (x_sld rfl dL_law_1023 (hin 3 (by decide) (by decide))) ?_
  refine A_st (x_callW [] (c_X6_pays idsC nd_C (xs (nI k + (1 : Int32)).toNatClampNeg) (xs (nI k + (2 : Int32)).toNatClampNeg) (xs (nI k + (3 : Int32)).toNatClampNeg) iC0 iC1 iC2 iC3 _ _ _ e1) sub_C hA.1 dL_law_1024 tw_765 kc_X6_pays (sub_C _ (iC0 0 (Nat.le_of_ble_eq_true rfl) (Nat.le_of_ble_eq_true rfl))) rfl rfl rfl rfl ⟨Nat.le_of_ble_eq_true rfl, Nat.le_of_ble_eq_true rfl⟩ (Nat.le_of_ble_eq_true rfl) rfl) ?_
  refine A_st (x_aload_n dL_law_1027 rfl) ?_
  refine A_st (x_aload_n dL_law_1028 rfl) ?_
  refine A_st (x_iload_n dL_law_1029 rfl) ?_
  refine A_st (x_iconst (1 : Int32) dL_law_1030 rfl) ?_
  refine A_st (x_iadd dL_law_1031) ?_
  refine A_st (x_sld rfl dL_law_1032 (hin 1 (by decide) (by decide))) ?_
  refine A_st (x_aload_n dL_law_1033 rfl) ?_
  refine A_st (x_iload_n dL_law_1034 rfl) ?_
  refine A_st (x_iconst (2 : Int32) dL_law_1035 rfl) ?_
  refine A_st (x_iadd dL_law_1036) ?_
  refine A_st (x_sld rfl dL_law_1037 (hin 2 (by decide) (by decide))) ?_
  refine A_st (x_aload_n dL_law_1038 rfl) ?_
  refine A_st (x_iload_n dL_law_1039 rfl) ?_
  refine A_st (x_iconst (3 : Int32) dL_law_1040 rfl) ?_
  refine A_st (x_iadd dL_law_1041) ?_
  refine A_st (x_sld rfl dL_law_1042 (hin 3 (by decide) (by decide))) ?_
  refine A_st (x_callW [aI r] (c_X7_pays idsM nd_M (xs (nI k + (1 : Int32)).toNatClampNeg) (xs (nI k + (2 : Int32)).toNatClampNeg) (xs (nI k + (3 : Int32)).toNatClampNeg) iM0 _ _ _ e2) sub_M (ag_C hA) dL_law_1043 tw_1287 kc_X7_pays (sub_M _ (iM0 29 (Nat.le_of_ble_eq_true rfl) (Nat.le_of_ble_eq_true rfl))) rfl rfl rfl rfl ⟨Nat.le_of_ble_eq_true rfl, Nat.le_of_ble_eq_true rfl⟩ (Nat.le_of_ble_eq_true rfl) rfl) ?_
  refine A_st (x_icmp_eq_t (tgt := 1272) dL_law_1046 (by decide) rfl) ?_
  exact hnext _ σ' τ' (ag_M hA) hR2
set_option maxRecDepth 100000 in
set_option maxHeartbeats 4000000 in
theorem lk_29 {N : Nat} {xs : Nat → Int32} {Rl : Sg → Sg → Prop} (hE : E_climbs Rl) {k : Nat} (hin : ∀ q : Int32, 0 ≤ q → q ≤ 3 → inb (nI k + q) N) {ρ σ τ : Sg} (hA : ag ρ σ τ) (hR : Rl σ τ) (hnext : ∀ ρ' σ' τ', ag ρ' σ' τ' → Rl σ' τ' → Aj (mL N xs) idsA phiL 1272 (locL k) [] ρ') : Aj (mL N xs) idsA phiL 1051 (locL k) [] ρ := by
  obtain ⟨r, σ', τ', e1, e2, hR2⟩ := hE σ τ hR
  refine A_st (x_aload_n dL_law_1051 rfl) ?_
  refine A_st (x_callW [] (c_X6_climbs idsC nd_C iC0 iC1 iC2 iC3 _ _ _ e1) sub_C hA.1 dL_law_1052 tw_769 kc_X6_climbs (sub_C _ (iC0 0 (Nat.le_of_ble_eq_true rfl) (Nat.le_of_ble_eq_true rfl))) rfl rfl rfl rfl ⟨Nat.le_of_ble_eq_true rfl, Nat.le_of_ble_eq_true rfl⟩ (Nat.le_of_ble_eq_true rfl) rfl) ?_
  refine A_st (x_aload_n dL_law_1055 rfl) ?_
  refine A_st (x_callW [aI r] (c_X7_climbs idsM nd_M iM0 _ _ _ e2) sub_M (ag_C hA) dL_law_1056 tw_1291 kc_X7_climbs (sub_M _ (iM0 29 (Nat.le_of_ble_eq_true rfl) (Nat.le_of_ble_eq_true rfl))) rfl rfl rfl rfl ⟨Nat.le_of_ble_eq_true rfl, Nat.le_of_ble_eq_true rfl⟩ (Nat.le_of_ble_eq_true rfl) rfl) ?_
  refine A_st (x_icmp_eq_t (tgt := 1272) dL_law_1059 (by decide) rfl) ?_
  exact hnext _ σ' τ' (ag_M hA) hR2
set_option maxRecDepth 100000 in
set_option maxHeartbeats 4000000 in
theorem lk_30 {N : Nat} {xs : Nat → Int32} {Rl : Sg → Sg → Prop} (hE : E_worth Rl) {k : Nat} (hin : ∀ q : Int32, 0 ≤ q → q ≤ 3 → inb (nI k + q) N) {ρ σ τ : Sg} (hA : ag ρ σ τ) (hR : Rl σ τ) (hnext : ∀ ρ' σ' τ', ag ρ' σ' τ' → Rl σ' τ' → Aj (mL N xs) idsA phiL 1272 (locL k) [] ρ') : Aj (mL N xs) idsA phiL 1064 (locL k) [] ρ := by
  obtain ⟨r, σ', τ', e1, e2, hR2⟩ := hE (xs (nI k + (1 : Int32)).toNatClampNeg) σ τ hR
  refine A_st (x_aload_n dL_law_1064 rfl) ?_
  refine A_st (x_aload_n dL_law_1065 rfl) ?_
  refine A_st (x_iload_n dL_law_1066 rfl) ?_
  refine A_st (x_iconst (1 : Int32) dL_law_1067 rfl) ?_
  refine A_st (x_iadd dL_law_1068) ?_
  refine A_st (x_sld rfl dL_law_1069 (hin 1 (by decide) (by decide))) ?_
  refine A_st (x_callW [] (c_X6_worth idsC nd_C (xs (nI k + (1 : Int32)).toNatClampNeg) iC0 iC1 iC2 iC3 _ _ _ e1) sub_C hA.1 dL_law_1070 tw_787 kc_X6_worth (sub_C _ (iC0 0 (Nat.le_of_ble_eq_true rfl) (Nat.le_of_ble_eq_true rfl))) rfl rfl rfl rfl ⟨Nat.le_of_ble_eq_true rfl, Nat.le_of_ble_eq_true rfl⟩ (Nat.le_of_ble_eq_true rfl) rfl) ?_
  refine A_st (x_aload_n dL_law_1073 rfl) ?_
  refine A_st (x_aload_n dL_law_1074 rfl) ?_
  refine A_st (x_iload_n dL_law_1075 rfl) ?_
  refine A_st (x_iconst (1 : Int32) dL_law_1076 rfl) ?_
  refine A_st (x_iadd dL_law_1077) ?_
  refine A_st (x_sld rfl dL_law_1078 (hin 1 (by decide) (by decide))) ?_
  refine A_st (x_callW [aI r] (c_X7_worth idsM nd_M (xs (nI k + (1 : Int32)).toNatClampNeg) iM0 _ _ _ e2) sub_M (ag_C hA) dL_law_1079 tw_1303 kc_X7_worth (sub_M _ (iM0 29 (Nat.le_of_ble_eq_true rfl) (Nat.le_of_ble_eq_true rfl))) rfl rfl rfl rfl ⟨Nat.le_of_ble_eq_true rfl, Nat.le_of_ble_eq_true rfl⟩ (Nat.le_of_ble_eq_true rfl) rfl) ?_
  refine A_st (x_icmp_eq_t (tgt := 1272) dL_law_1082 (by decide) rfl) ?_
  exact hnext _ σ' τ' (ag_M hA) hR2
set_option maxRecDepth 100000 in
set_option maxHeartbeats 4000000 in
theorem lk_31 {N : Nat} {xs : Nat → Int32} {Rl : Sg → Sg → Prop} (hE : E_swaps Rl) {k : Nat} (hin : ∀ q : Int32, 0 ≤ q → q ≤ 3 → inb (nI k + q) N) {ρ σ τ : Sg} (hA : ag ρ σ τ) (hR : Rl σ τ) (hnext : ∀ ρ' σ' τ', ag ρ' σ' τ' → Rl σ' τ' → Aj (mL N xs) idsA phiL 1272 (locL k) [] ρ') : Aj (mL N xs) idsA phiL 1087 (locL k) [] ρ := by
  obtain ⟨r, σ', τ', e1, e2, hR2⟩ := hE (xs (nI k + (1 : Int32)).toNatClampNeg) σ τ hR
  refine A_st (x_aload_n dL_law_1087 rfl) ?_
  refine A_st (x_aload_n dL_law_1088 rfl) ?_
  refine A_st (x_iload_n dL_law_1089 rfl) ?_
  refine A_st (x_iconst (1 : Int32) dL_law_1090 rfl) ?_
  refine A_st (x_iadd dL_law_1091) ?_
  refine A_st (x_sld rfl dL_law_1092 (hin 1 (by decide) (by decide))) ?_
  refine A_st (x_callW [] (c_X6_swaps idsC nd_C (xs (nI k + (1 : Int32)).toNatClampNeg) iC0 iC1 iC2 iC3 _ _ _ e1) sub_C hA.1 dL_law_1093 tw_792 kc_X6_swaps (sub_C _ (iC0 0 (Nat.le_of_ble_eq_true rfl) (Nat.le_of_ble_eq_true rfl))) rfl rfl rfl rfl ⟨Nat.le_of_ble_eq_true rfl, Nat.le_of_ble_eq_true rfl⟩ (Nat.le_of_ble_eq_true rfl) rfl) ?_
  refine A_st (x_aload_n dL_law_1096 rfl) ?_
  refine A_st (x_aload_n dL_law_1097 rfl) ?_
  refine A_st (x_iload_n dL_law_1098 rfl) ?_
  refine A_st (x_iconst (1 : Int32) dL_law_1099 rfl) ?_
  refine A_st (x_iadd dL_law_1100) ?_
  refine A_st (x_sld rfl dL_law_1101 (hin 1 (by decide) (by decide))) ?_
  refine A_st (x_callW [aI r] (c_X7_swaps idsM nd_M (xs (nI k + (1 : Int32)).toNatClampNeg) iM0 _ _ _ e2) sub_M (ag_C hA) dL_law_1102 tw_1307 kc_X7_swaps (sub_M _ (iM0 29 (Nat.le_of_ble_eq_true rfl) (Nat.le_of_ble_eq_true rfl))) rfl rfl rfl rfl ⟨Nat.le_of_ble_eq_true rfl, Nat.le_of_ble_eq_true rfl⟩ (Nat.le_of_ble_eq_true rfl) rfl) ?_
  refine A_st (x_icmp_eq_t (tgt := 1272) dL_law_1105 (by decide) rfl) ?_
  exact hnext _ σ' τ' (ag_M hA) hR2
theorem lgc_same (x : Int64) : lg_cmp x x = 0 := by
  unfold lg_cmp
  rw [if_neg (by exact fun h => absurd h (by simp)), if_pos rfl]
set_option maxRecDepth 100000 in
set_option maxHeartbeats 4000000 in
theorem lk_32 {N : Nat} {xs : Nat → Int32} {Rl : Sg → Sg → Prop} (hE : E_peg Rl) {k : Nat} (hin : ∀ q : Int32, 0 ≤ q → q ≤ 3 → inb (nI k + q) N) {ρ σ τ : Sg} (hA : ag ρ σ τ) (hR : Rl σ τ) (hnext : ∀ ρ' σ' τ', ag ρ' σ' τ' → Rl σ' τ' → Aj (mL N xs) idsA phiL 1272 (locL k) [] ρ') : Aj (mL N xs) idsA phiL 1110 (locL k) [] ρ := by
  obtain ⟨r, σ', τ', e1, e2, hR2⟩ := hE (xs (nI k + (1 : Int32)).toNatClampNeg) (xs (nI k + (2 : Int32)).toNatClampNeg) (xs (nI k + (3 : Int32)).toNatClampNeg) σ τ hR
  refine A_st (x_aload_n dL_law_1110 rfl) ?_
  refine A_st (x_aload_n dL_law_1111 rfl) ?_
  refine A_st (x_iload_n dL_law_1112 rfl) ?_
  refine A_st (x_iconst (1 : Int32) dL_law_1113 rfl) ?_
  refine A_st (x_iadd dL_law_1114) ?_
  refine A_st (x_sld rfl dL_law_1115 (hin 1 (by decide) (by decide))) ?_
  refine A_st (x_aload_n dL_law_1116 rfl) ?_
  refine A_st (x_iload_n dL_law_1117 rfl) ?_
  refine A_st (x_iconst (2 : Int32) dL_law_1118 rfl) ?_
  refine A_st (x_iadd dL_law_1119) ?_
  refine A_st (x_sld rfl dL_law_1120 (hin 2 (by decide) (by decide))) ?_
  refine A_st (x_aload_n dL_law_1121 rfl) ?_
  refine A_st (x_iload_n dL_law_1122 rfl) ?_
  refine A_st (x_iconst (3 : Int32) dL_law_1123 rfl) ?_
  refine A_st (x_iadd dL_law_1124) ?_
  refine A_st (x_sld rfl dL_law_1125 (hin 3 (by decide) (by decide))) ?_
  refine A_st (x_callW [] (c_X6_peg idsC nd_C (xs (nI k + (1 : Int32)).toNatClampNeg) (xs (nI k + (2 : Int32)).toNatClampNeg) (xs (nI k + (3 : Int32)).toNatClampNeg) iC0 iC1 iC2 iC3 _ _ _ e1) sub_C hA.1 dL_law_1126 tw_808 kc_X6_peg (sub_C _ (iC0 0 (Nat.le_of_ble_eq_true rfl) (Nat.le_of_ble_eq_true rfl))) rfl rfl rfl rfl ⟨Nat.le_of_ble_eq_true rfl, Nat.le_of_ble_eq_true rfl⟩ (Nat.le_of_ble_eq_true rfl) rfl) ?_
  refine A_st (x_aload_n dL_law_1129 rfl) ?_
  refine A_st (x_aload_n dL_law_1130 rfl) ?_
  refine A_st (x_iload_n dL_law_1131 rfl) ?_
  refine A_st (x_iconst (1 : Int32) dL_law_1132 rfl) ?_
  refine A_st (x_iadd dL_law_1133) ?_
  refine A_st (x_sld rfl dL_law_1134 (hin 1 (by decide) (by decide))) ?_
  refine A_st (x_aload_n dL_law_1135 rfl) ?_
  refine A_st (x_iload_n dL_law_1136 rfl) ?_
  refine A_st (x_iconst (2 : Int32) dL_law_1137 rfl) ?_
  refine A_st (x_iadd dL_law_1138) ?_
  refine A_st (x_sld rfl dL_law_1139 (hin 2 (by decide) (by decide))) ?_
  refine A_st (x_aload_n dL_law_1140 rfl) ?_
  refine A_st (x_iload_n dL_law_1141 rfl) ?_
  refine A_st (x_iconst (3 : Int32) dL_law_1142 rfl) ?_
  refine A_st (x_iadd dL_law_1143) ?_
  refine A_st (x_sld rfl dL_law_1144 (hin 3 (by decide) (by decide))) ?_
  refine A_st (x_callW [aL r] (c_X7_peg idsM nd_M (xs (nI k + (1 : Int32)).toNatClampNeg) (xs (nI k + (2 : Int32)).toNatClampNeg) (xs (nI k + (3 : Int32)).toNatClampNeg) iM0 _ _ _ e2) sub_M (ag_C hA) dL_law_1145 tw_1327 kc_X7_peg (sub_M _ (iM0 29 (Nat.le_of_ble_eq_true rfl) (Nat.le_of_ble_eq_true rfl))) rfl rfl rfl rfl ⟨Nat.le_of_ble_eq_true rfl, Nat.le_of_ble_eq_true rfl⟩ (Nat.le_of_ble_eq_true rfl) rfl) ?_
  refine A_st (x_lcmp dL_law_1148) ?_
  refine A_st (x_if_eq_t (tgt := 1272) dL_law_1149 (by decide) (lgc_same r)) ?_
  exact hnext _ σ' τ' (ag_M hA) hR2
set_option maxRecDepth 100000 in
set_option maxHeartbeats 4000000 in
theorem lk_33 {N : Nat} {xs : Nat → Int32} {Rl : Sg → Sg → Prop} (hE : E_row Rl) {k : Nat} (hin : ∀ q : Int32, 0 ≤ q → q ≤ 3 → inb (nI k + q) N) {ρ σ τ : Sg} (hA : ag ρ σ τ) (hR : Rl σ τ) (hnext : ∀ ρ' σ' τ', ag ρ' σ' τ' → Rl σ' τ' → Aj (mL N xs) idsA phiL 1272 (locL k) [] ρ') : Aj (mL N xs) idsA phiL 1154 (locL k) [] ρ := by
  obtain ⟨r, σ', τ', e1, e2, hR2⟩ := hE (xs (nI k + (1 : Int32)).toNatClampNeg) σ τ hR
  refine A_st (x_aload_n dL_law_1154 rfl) ?_
  refine A_st (x_aload_n dL_law_1155 rfl) ?_
  refine A_st (x_iload_n dL_law_1156 rfl) ?_
  refine A_st (x_iconst (1 : Int32) dL_law_1157 rfl) ?_
  refine A_st (x_iadd dL_law_1158) ?_
  refine A_st (x_sld rfl dL_law_1159 (hin 1 (by decide) (by decide))) ?_
  refine A_st (x_callW [] (c_X6_row idsC nd_C (xs (nI k + (1 : Int32)).toNatClampNeg) iC0 iC1 iC2 iC3 _ _ _ e1) sub_C hA.1 dL_law_1160 tw_814 kc_X6_row (sub_C _ (iC0 0 (Nat.le_of_ble_eq_true rfl) (Nat.le_of_ble_eq_true rfl))) rfl rfl rfl rfl ⟨Nat.le_of_ble_eq_true rfl, Nat.le_of_ble_eq_true rfl⟩ (Nat.le_of_ble_eq_true rfl) rfl) ?_
  refine A_st (x_aload_n dL_law_1163 rfl) ?_
  refine A_st (x_aload_n dL_law_1164 rfl) ?_
  refine A_st (x_iload_n dL_law_1165 rfl) ?_
  refine A_st (x_iconst (1 : Int32) dL_law_1166 rfl) ?_
  refine A_st (x_iadd dL_law_1167) ?_
  refine A_st (x_sld rfl dL_law_1168 (hin 1 (by decide) (by decide))) ?_
  refine A_st (x_callW [aI r] (c_X7_row idsM nd_M (xs (nI k + (1 : Int32)).toNatClampNeg) iM0 _ _ _ e2) sub_M (ag_C hA) dL_law_1169 tw_1335 kc_X7_row (sub_M _ (iM0 29 (Nat.le_of_ble_eq_true rfl) (Nat.le_of_ble_eq_true rfl))) rfl rfl rfl rfl ⟨Nat.le_of_ble_eq_true rfl, Nat.le_of_ble_eq_true rfl⟩ (Nat.le_of_ble_eq_true rfl) rfl) ?_
  refine A_st (x_icmp_eq_t (tgt := 1272) dL_law_1172 (by decide) rfl) ?_
  exact hnext _ σ' τ' (ag_M hA) hR2
set_option maxRecDepth 100000 in
set_option maxHeartbeats 4000000 in
theorem lk_34 {N : Nat} {xs : Nat → Int32} {Rl : Sg → Sg → Prop} (hE : E_judge Rl) {k : Nat} (hin : ∀ q : Int32, 0 ≤ q → q ≤ 3 → inb (nI k + q) N) {ρ σ τ : Sg} (hA : ag ρ σ τ) (hR : Rl σ τ) (hnext : ∀ ρ' σ' τ', ag ρ' σ' τ' → Rl σ' τ' → Aj (mL N xs) idsA phiL 1272 (locL k) [] ρ') : Aj (mL N xs) idsA phiL 1177 (locL k) [] ρ := by
  obtain ⟨r, σ', τ', e1, e2, hR2⟩ := hE σ τ hR
  refine A_st (x_aload_n dL_law_1177 rfl) ?_
  refine A_st (x_callW [] (c_X6_judge idsC nd_C iC0 iC1 iC2 iC3 _ _ _ e1) sub_C hA.1 dL_law_1178 tw_818 kc_X6_judge (sub_C _ (iC0 0 (Nat.le_of_ble_eq_true rfl) (Nat.le_of_ble_eq_true rfl))) rfl rfl rfl rfl ⟨Nat.le_of_ble_eq_true rfl, Nat.le_of_ble_eq_true rfl⟩ (Nat.le_of_ble_eq_true rfl) rfl) ?_
  refine A_st (x_aload_n dL_law_1181 rfl) ?_
  refine A_st (x_callW [aI r] (c_X7_judge idsM nd_M iM0 _ _ _ e2) sub_M (ag_C hA) dL_law_1182 tw_1339 kc_X7_judge (sub_M _ (iM0 29 (Nat.le_of_ble_eq_true rfl) (Nat.le_of_ble_eq_true rfl))) rfl rfl rfl rfl ⟨Nat.le_of_ble_eq_true rfl, Nat.le_of_ble_eq_true rfl⟩ (Nat.le_of_ble_eq_true rfl) rfl) ?_
  refine A_st (x_icmp_eq_t (tgt := 1272) dL_law_1185 (by decide) rfl) ?_
  exact hnext _ σ' τ' (ag_M hA) hR2
set_option maxRecDepth 100000 in
set_option maxHeartbeats 4000000 in
theorem lk_35 {N : Nat} {xs : Nat → Int32} {Rl : Sg → Sg → Prop} (hE : E_seeds Rl) {k : Nat} (hin : ∀ q : Int32, 0 ≤ q → q ≤ 3 → inb (nI k + q) N) {ρ σ τ : Sg} (hA : ag ρ σ τ) (hR : Rl σ τ) (hnext : ∀ ρ' σ' τ', ag ρ' σ' τ' → Rl σ' τ' → Aj (mL N xs) idsA phiL 1272 (locL k) [] ρ') : Aj (mL N xs) idsA phiL 1190 (locL k) [] ρ := by
  obtain ⟨r, σ', τ', e1, e2, hR2⟩ := hE (xs (nI k + (1 : Int32)).toNatClampNeg) (xs (nI k + (2 : Int32)).toNatClampNeg) σ τ hR
  refine A_st (x_aload_n dL_law_1190 rfl) ?_
  refine A_st (x_aload_n dL_law_1191 rfl) ?_
  refine A_st (x_iload_n dL_law_1192 rfl) ?_
  refine A_st (x_iconst (1 : Int32) dL_law_1193 rfl) ?_
  refine A_st (x_iadd dL_law_1194) ?_
  refine A_st (x_sld rfl dL_law_1195 (hin 1 (by decide) (by decide))) ?_
  refine A_st (x_aload_n dL_law_1196 rfl) ?_
  refine A_st (x_iload_n dL_law_1197 rfl) ?_
  refine A_st (x_iconst (2 : Int32) dL_law_1198 rfl) ?_
  refine A_st (x_iadd dL_law_1199) ?_
  refine A_st (x_sld rfl dL_law_1200 (hin 2 (by decide) (by decide))) ?_
  refine A_st (x_callW [] (c_X6_seeds idsC nd_C (xs (nI k + (1 : Int32)).toNatClampNeg) (xs (nI k + (2 : Int32)).toNatClampNeg) iC0 iC1 iC2 iC3 _ _ _ e1) sub_C hA.1 dL_law_1201 tw_822 kc_X6_seeds (sub_C _ (iC0 0 (Nat.le_of_ble_eq_true rfl) (Nat.le_of_ble_eq_true rfl))) rfl rfl rfl rfl ⟨Nat.le_of_ble_eq_true rfl, Nat.le_of_ble_eq_true rfl⟩ (Nat.le_of_ble_eq_true rfl) rfl) ?_
  refine A_st (x_aload_n dL_law_1204 rfl) ?_
  refine A_st (x_aload_n dL_law_1205 rfl) ?_
  refine A_st (x_iload_n dL_law_1206 rfl) ?_
  refine A_st (x_iconst (1 : Int32) dL_law_1207 rfl) ?_
  refine A_st (x_iadd dL_law_1208) ?_
  refine A_st (x_sld rfl dL_law_1209 (hin 1 (by decide) (by decide))) ?_
  refine A_st (x_aload_n dL_law_1210 rfl) ?_
  refine A_st (x_iload_n dL_law_1211 rfl) ?_
  refine A_st (x_iconst (2 : Int32) dL_law_1212 rfl) ?_
  refine A_st (x_iadd dL_law_1213) ?_
  refine A_st (x_sld rfl dL_law_1214 (hin 2 (by decide) (by decide))) ?_
  refine A_st (x_callW [aI r] (c_X7_seeds idsM nd_M (xs (nI k + (1 : Int32)).toNatClampNeg) (xs (nI k + (2 : Int32)).toNatClampNeg) iM0 _ _ _ e2) sub_M (ag_C hA) dL_law_1215 tw_1343 kc_X7_seeds (sub_M _ (iM0 29 (Nat.le_of_ble_eq_true rfl) (Nat.le_of_ble_eq_true rfl))) rfl rfl rfl rfl ⟨Nat.le_of_ble_eq_true rfl, Nat.le_of_ble_eq_true rfl⟩ (Nat.le_of_ble_eq_true rfl) rfl) ?_
  refine A_st (x_icmp_eq_t (tgt := 1272) dL_law_1218 (by decide) rfl) ?_
  exact hnext _ σ' τ' (ag_M hA) hR2
set_option maxRecDepth 100000 in
set_option maxHeartbeats 4000000 in
theorem lk_36 {N : Nat} {xs : Nat → Int32} {Rl : Sg → Sg → Prop} (hE : E_image Rl) {k : Nat} (hin : ∀ q : Int32, 0 ≤ q → q ≤ 3 → inb (nI k + q) N) {ρ σ τ : Sg} (hA : ag ρ σ τ) (hR : Rl σ τ) (hnext : ∀ ρ' σ' τ', ag ρ' σ' τ' → Rl σ' τ' → Aj (mL N xs) idsA phiL 1272 (locL k) [] ρ') : Aj (mL N xs) idsA phiL 1223 (locL k) [] ρ := by
  obtain ⟨r, σ', τ', e1, e2, hR2⟩ := hE σ τ hR
  refine A_st (x_aload_n dL_law_1223 rfl) ?_
  refine A_st (x_callW [] (c_X6_image idsC nd_C iC0 iC1 iC2 iC3 _ _ _ e1) sub_C hA.1 dL_law_1224 tw_829 kc_X6_image (sub_C _ (iC0 0 (Nat.le_of_ble_eq_true rfl) (Nat.le_of_ble_eq_true rfl))) rfl rfl rfl rfl ⟨Nat.le_of_ble_eq_true rfl, Nat.le_of_ble_eq_true rfl⟩ (Nat.le_of_ble_eq_true rfl) rfl) ?_
  refine A_st (x_aload_n dL_law_1227 rfl) ?_
  refine A_st (x_callW [aI r] (c_X7_image idsM nd_M iM0 _ _ _ e2) sub_M (ag_C hA) dL_law_1228 tw_1065 kc_X7_image (sub_M _ (iM0 29 (Nat.le_of_ble_eq_true rfl) (Nat.le_of_ble_eq_true rfl))) rfl rfl rfl rfl ⟨Nat.le_of_ble_eq_true rfl, Nat.le_of_ble_eq_true rfl⟩ (Nat.le_of_ble_eq_true rfl) rfl) ?_
  refine A_st (x_icmp_eq_t (tgt := 1272) dL_law_1231 (by decide) rfl) ?_
  exact hnext _ σ' τ' (ag_M hA) hR2
set_option maxRecDepth 100000 in
set_option maxHeartbeats 4000000 in
theorem lk_37 {N : Nat} {xs : Nat → Int32} {Rl : Sg → Sg → Prop} (hE : E_restore Rl) {k : Nat} (hin : ∀ q : Int32, 0 ≤ q → q ≤ 3 → inb (nI k + q) N) {ρ σ τ : Sg} (hA : ag ρ σ τ) (hR : Rl σ τ) (hnext : ∀ ρ' σ' τ', ag ρ' σ' τ' → Rl σ' τ' → Aj (mL N xs) idsA phiL 1272 (locL k) [] ρ') : Aj (mL N xs) idsA phiL 1236 (locL k) [] ρ := by
  obtain ⟨r, σ', τ', e1, e2, hR2⟩ := hE σ τ hR
  refine A_st (x_aload_n dL_law_1236 rfl) ?_
  refine A_st (x_callW [] (c_X6_restore idsC nd_C iC0 iC1 iC2 iC3 _ _ _ e1) sub_C hA.1 dL_law_1237 tw_833 kc_X6_restore (sub_C _ (iC0 0 (Nat.le_of_ble_eq_true rfl) (Nat.le_of_ble_eq_true rfl))) rfl rfl rfl rfl ⟨Nat.le_of_ble_eq_true rfl, Nat.le_of_ble_eq_true rfl⟩ (Nat.le_of_ble_eq_true rfl) rfl) ?_
  refine A_st (x_aload_n dL_law_1240 rfl) ?_
  refine A_st (x_callW [aI r] (c_X7_restore idsM nd_M iM0 _ _ _ e2) sub_M (ag_C hA) dL_law_1241 tw_1069 kc_X7_restore (sub_M _ (iM0 29 (Nat.le_of_ble_eq_true rfl) (Nat.le_of_ble_eq_true rfl))) rfl rfl rfl rfl ⟨Nat.le_of_ble_eq_true rfl, Nat.le_of_ble_eq_true rfl⟩ (Nat.le_of_ble_eq_true rfl) rfl) ?_
  refine A_st (x_icmp_eq_t (tgt := 1272) dL_law_1244 (by decide) rfl) ?_
  exact hnext _ σ' τ' (ag_M hA) hR2
set_option maxRecDepth 100000 in
set_option maxHeartbeats 4000000 in
theorem lk_38 {N : Nat} {xs : Nat → Int32} {Rl : Sg → Sg → Prop} (hE : E_count Rl) {k : Nat} (hin : ∀ q : Int32, 0 ≤ q → q ≤ 3 → inb (nI k + q) N) {ρ σ τ : Sg} (hA : ag ρ σ τ) (hR : Rl σ τ) (hnext : ∀ ρ' σ' τ', ag ρ' σ' τ' → Rl σ' τ' → Aj (mL N xs) idsA phiL 1272 (locL k) [] ρ') : Aj (mL N xs) idsA phiL 1249 (locL k) [] ρ := by
  obtain ⟨r, σ', τ', e1, e2, hR2⟩ := hE (xs (nI k + (1 : Int32)).toNatClampNeg) σ τ hR
  refine A_st (x_aload_n dL_law_1249 rfl) ?_
  refine A_st (x_aload_n dL_law_1250 rfl) ?_
  refine A_st (x_iload_n dL_law_1251 rfl) ?_
  refine A_st (x_iconst (1 : Int32) dL_law_1252 rfl) ?_
  refine A_st (x_iadd dL_law_1253) ?_
  refine A_st (x_sld rfl dL_law_1254 (hin 1 (by decide) (by decide))) ?_
  refine A_st (x_callW [] (c_X6_count idsC nd_C (xs (nI k + (1 : Int32)).toNatClampNeg) iC0 iC1 iC2 iC3 _ _ _ e1) sub_C hA.1 dL_law_1255 tw_558 kc_X6_count (sub_C _ (iC0 0 (Nat.le_of_ble_eq_true rfl) (Nat.le_of_ble_eq_true rfl))) rfl rfl rfl rfl ⟨Nat.le_of_ble_eq_true rfl, Nat.le_of_ble_eq_true rfl⟩ (Nat.le_of_ble_eq_true rfl) rfl) ?_
  refine A_st (x_aload_n dL_law_1258 rfl) ?_
  refine A_st (x_aload_n dL_law_1259 rfl) ?_
  refine A_st (x_iload_n dL_law_1260 rfl) ?_
  refine A_st (x_iconst (1 : Int32) dL_law_1261 rfl) ?_
  refine A_st (x_iadd dL_law_1262) ?_
  refine A_st (x_sld rfl dL_law_1263 (hin 1 (by decide) (by decide))) ?_
  refine A_st (x_callW [aI r] (c_X7_count idsM nd_M (xs (nI k + (1 : Int32)).toNatClampNeg) iM0 _ _ _ e2) sub_M (ag_C hA) dL_law_1264 tw_1350 kc_X7_count (sub_M _ (iM0 29 (Nat.le_of_ble_eq_true rfl) (Nat.le_of_ble_eq_true rfl))) rfl rfl rfl rfl ⟨Nat.le_of_ble_eq_true rfl, Nat.le_of_ble_eq_true rfl⟩ (Nat.le_of_ble_eq_true rfl) rfl) ?_
  refine A_st (x_icmp_eq_t (tgt := 1272) dL_law_1267 (by decide) rfl) ?_
  exact hnext _ σ' τ' (ag_M hA) hR2
set_option maxRecDepth 100000 in
set_option maxHeartbeats 4000000 in
theorem law_sw {N : Nat} {xs : Nat → Int32} {Rl : Sg → Sg → Prop} (hE : El Rl) {k : Nat} (hin : ∀ q : Int32, 0 ≤ q → q ≤ 3 → inb (nI k + q) N) {ρ σ τ : Sg} (hA : ag ρ σ τ) (hR : Rl σ τ) (hnext : ∀ ρ' σ' τ', ag ρ' σ' τ' → Rl σ' τ' → Aj (mL N xs) idsA phiL 1272 (locL k) [] ρ') {x : Int32} : ∀ (j : Nat), j < 39 → x = nI j → Aj (mL N xs) idsA phiL 32 (locL k) [aI x] ρ := by
  intro j h1 h2
  match j, h1, h2 with
  | 0, _, hj => exact A_st (x_tabIn (tgt := 204) (0 : Int32) dL_law_32 (hj.trans rfl) (by decide) (by decide) rfl (by decide)) (lk_0 hE.1 hin hA hR hnext)
  | 1, _, hj => exact A_st (x_tabIn (tgt := 227) (1 : Int32) dL_law_32 (hj.trans rfl) (by decide) (by decide) rfl (by decide)) (lk_1 hE.2.1 hin hA hR hnext)
  | 2, _, hj => exact A_st (x_tabIn (tgt := 240) (2 : Int32) dL_law_32 (hj.trans rfl) (by decide) (by decide) rfl (by decide)) (lk_2 hE.2.2.1 hin hA hR hnext)
  | 3, _, hj => exact A_st (x_tabIn (tgt := 273) (3 : Int32) dL_law_32 (hj.trans rfl) (by decide) (by decide) rfl (by decide)) (lk_3 hE.2.2.2.1 hin hA hR hnext)
  | 4, _, hj => exact A_st (x_tabIn (tgt := 306) (4 : Int32) dL_law_32 (hj.trans rfl) (by decide) (by decide) rfl (by decide)) (lk_4 hE.2.2.2.2.1 hin hA hR hnext)
  | 5, _, hj => exact A_st (x_tabIn (tgt := 339) (5 : Int32) dL_law_32 (hj.trans rfl) (by decide) (by decide) rfl (by decide)) (lk_5 hE.2.2.2.2.2.1 hin hA hR hnext)
  | 6, _, hj => exact A_st (x_tabIn (tgt := 372) (6 : Int32) dL_law_32 (hj.trans rfl) (by decide) (by decide) rfl (by decide)) (lk_6 hE.2.2.2.2.2.2.1 hin hA hR hnext)
  | 7, _, hj => exact A_st (x_tabIn (tgt := 405) (7 : Int32) dL_law_32 (hj.trans rfl) (by decide) (by decide) rfl (by decide)) (lk_7 hE.2.2.2.2.2.2.2.1 hin hA hR hnext)
  | 8, _, hj => exact A_st (x_tabIn (tgt := 438) (8 : Int32) dL_law_32 (hj.trans rfl) (by decide) (by decide) rfl (by decide)) (lk_8 hE.2.2.2.2.2.2.2.2.1 hin hA hR hnext)
  | 9, _, hj => exact A_st (x_tabIn (tgt := 471) (9 : Int32) dL_law_32 (hj.trans rfl) (by decide) (by decide) rfl (by decide)) (lk_9 hE.2.2.2.2.2.2.2.2.2.1 hin hA hR hnext)
  | 10, _, hj => exact A_st (x_tabIn (tgt := 514) (10 : Int32) dL_law_32 (hj.trans rfl) (by decide) (by decide) rfl (by decide)) (lk_10 hE.2.2.2.2.2.2.2.2.2.2.1 hin hA hR hnext)
  | 11, _, hj => exact A_st (x_tabIn (tgt := 537) (11 : Int32) dL_law_32 (hj.trans rfl) (by decide) (by decide) rfl (by decide)) (lk_11 hE.2.2.2.2.2.2.2.2.2.2.2.1 hin hA hR hnext)
  | 12, _, hj => exact A_st (x_tabIn (tgt := 570) (12 : Int32) dL_law_32 (hj.trans rfl) (by decide) (by decide) rfl (by decide)) (lk_12 hE.2.2.2.2.2.2.2.2.2.2.2.2.1 hin hA hR hnext)
  | 13, _, hj => exact A_st (x_tabIn (tgt := 583) (13 : Int32) dL_law_32 (hj.trans rfl) (by decide) (by decide) rfl (by decide)) (lk_13 hE.2.2.2.2.2.2.2.2.2.2.2.2.2.1 hin hA hR hnext)
  | 14, _, hj => exact A_st (x_tabIn (tgt := 596) (14 : Int32) dL_law_32 (hj.trans rfl) (by decide) (by decide) rfl (by decide)) (lk_14 hE.2.2.2.2.2.2.2.2.2.2.2.2.2.2.1 hin hA hR hnext)
  | 15, _, hj => exact A_st (x_tabIn (tgt := 629) (15 : Int32) dL_law_32 (hj.trans rfl) (by decide) (by decide) rfl (by decide)) (lk_15 hE.2.2.2.2.2.2.2.2.2.2.2.2.2.2.2.1 hin hA hR hnext)
  | 16, _, hj => exact A_st (x_tabIn (tgt := 652) (16 : Int32) dL_law_32 (hj.trans rfl) (by decide) (by decide) rfl (by decide)) (lk_16 hE.2.2.2.2.2.2.2.2.2.2.2.2.2.2.2.2.1 hin hA hR hnext)
  | 17, _, hj => exact A_st (x_tabIn (tgt := 685) (17 : Int32) dL_law_32 (hj.trans rfl) (by decide) (by decide) rfl (by decide)) (lk_17 hE.2.2.2.2.2.2.2.2.2.2.2.2.2.2.2.2.2.1 hin hA hR hnext)
  | 18, _, hj => exact A_st (x_tabIn (tgt := 718) (18 : Int32) dL_law_32 (hj.trans rfl) (by decide) (by decide) rfl (by decide)) (lk_18 hE.2.2.2.2.2.2.2.2.2.2.2.2.2.2.2.2.2.2.1 hin hA hR hnext)
  | 19, _, hj => exact A_st (x_tabIn (tgt := 751) (19 : Int32) dL_law_32 (hj.trans rfl) (by decide) (by decide) rfl (by decide)) (lk_19 hE.2.2.2.2.2.2.2.2.2.2.2.2.2.2.2.2.2.2.2.1 hin hA hR hnext)
  | 20, _, hj => exact A_st (x_tabIn (tgt := 784) (20 : Int32) dL_law_32 (hj.trans rfl) (by decide) (by decide) rfl (by decide)) (lk_20 hE.2.2.2.2.2.2.2.2.2.2.2.2.2.2.2.2.2.2.2.2.1 hin hA hR hnext)
  | 21, _, hj => exact A_st (x_tabIn (tgt := 827) (21 : Int32) dL_law_32 (hj.trans rfl) (by decide) (by decide) rfl (by decide)) (lk_21 hE.2.2.2.2.2.2.2.2.2.2.2.2.2.2.2.2.2.2.2.2.2.1 hin hA hR hnext)
  | 22, _, hj => exact A_st (x_tabIn (tgt := 860) (22 : Int32) dL_law_32 (hj.trans rfl) (by decide) (by decide) rfl (by decide)) (lk_22 hE.2.2.2.2.2.2.2.2.2.2.2.2.2.2.2.2.2.2.2.2.2.2.1 hin hA hR hnext)
  | 23, _, hj => exact A_st (x_tabIn (tgt := 873) (23 : Int32) dL_law_32 (hj.trans rfl) (by decide) (by decide) rfl (by decide)) (lk_23 hE.2.2.2.2.2.2.2.2.2.2.2.2.2.2.2.2.2.2.2.2.2.2.2.1 hin hA hR hnext)
  | 24, _, hj => exact A_st (x_tabIn (tgt := 896) (24 : Int32) dL_law_32 (hj.trans rfl) (by decide) (by decide) rfl (by decide)) (lk_24 hE.2.2.2.2.2.2.2.2.2.2.2.2.2.2.2.2.2.2.2.2.2.2.2.2.1 hin hA hR hnext)
  | 25, _, hj => exact A_st (x_tabIn (tgt := 919) (25 : Int32) dL_law_32 (hj.trans rfl) (by decide) (by decide) rfl (by decide)) (lk_25 hE.2.2.2.2.2.2.2.2.2.2.2.2.2.2.2.2.2.2.2.2.2.2.2.2.2.1 hin hA hR hnext)
  | 26, _, hj => exact A_st (x_tabIn (tgt := 942) (26 : Int32) dL_law_32 (hj.trans rfl) (by decide) (by decide) rfl (by decide)) (lk_26 hE.2.2.2.2.2.2.2.2.2.2.2.2.2.2.2.2.2.2.2.2.2.2.2.2.2.2.1 hin hA hR hnext)
  | 27, _, hj => exact A_st (x_tabIn (tgt := 975) (27 : Int32) dL_law_32 (hj.trans rfl) (by decide) (by decide) rfl (by decide)) (lk_27 hE.2.2.2.2.2.2.2.2.2.2.2.2.2.2.2.2.2.2.2.2.2.2.2.2.2.2.2.1 hin hA hR hnext)
  | 28, _, hj => exact A_st (x_tabIn (tgt := 1008) (28 : Int32) dL_law_32 (hj.trans rfl) (by decide) (by decide) rfl (by decide)) (lk_28 hE.2.2.2.2.2.2.2.2.2.2.2.2.2.2.2.2.2.2.2.2.2.2.2.2.2.2.2.2.1 hin hA hR hnext)
  | 29, _, hj => exact A_st (x_tabIn (tgt := 1051) (29 : Int32) dL_law_32 (hj.trans rfl) (by decide) (by decide) rfl (by decide)) (lk_29 hE.2.2.2.2.2.2.2.2.2.2.2.2.2.2.2.2.2.2.2.2.2.2.2.2.2.2.2.2.2.1 hin hA hR hnext)
  | 30, _, hj => exact A_st (x_tabIn (tgt := 1064) (30 : Int32) dL_law_32 (hj.trans rfl) (by decide) (by decide) rfl (by decide)) (lk_30 hE.2.2.2.2.2.2.2.2.2.2.2.2.2.2.2.2.2.2.2.2.2.2.2.2.2.2.2.2.2.2.1 hin hA hR hnext)
  | 31, _, hj => exact A_st (x_tabIn (tgt := 1087) (31 : Int32) dL_law_32 (hj.trans rfl) (by decide) (by decide) rfl (by decide)) (lk_31 hE.2.2.2.2.2.2.2.2.2.2.2.2.2.2.2.2.2.2.2.2.2.2.2.2.2.2.2.2.2.2.2.1 hin hA hR hnext)
  | 32, _, hj => exact A_st (x_tabIn (tgt := 1110) (32 : Int32) dL_law_32 (hj.trans rfl) (by decide) (by decide) rfl (by decide)) (lk_32 hE.2.2.2.2.2.2.2.2.2.2.2.2.2.2.2.2.2.2.2.2.2.2.2.2.2.2.2.2.2.2.2.2.1 hin hA hR hnext)
  | 33, _, hj => exact A_st (x_tabIn (tgt := 1154) (33 : Int32) dL_law_32 (hj.trans rfl) (by decide) (by decide) rfl (by decide)) (lk_33 hE.2.2.2.2.2.2.2.2.2.2.2.2.2.2.2.2.2.2.2.2.2.2.2.2.2.2.2.2.2.2.2.2.2.1 hin hA hR hnext)
  | 34, _, hj => exact A_st (x_tabIn (tgt := 1177) (34 : Int32) dL_law_32 (hj.trans rfl) (by decide) (by decide) rfl (by decide)) (lk_34 hE.2.2.2.2.2.2.2.2.2.2.2.2.2.2.2.2.2.2.2.2.2.2.2.2.2.2.2.2.2.2.2.2.2.2.1 hin hA hR hnext)
  | 35, _, hj => exact A_st (x_tabIn (tgt := 1190) (35 : Int32) dL_law_32 (hj.trans rfl) (by decide) (by decide) rfl (by decide)) (lk_35 hE.2.2.2.2.2.2.2.2.2.2.2.2.2.2.2.2.2.2.2.2.2.2.2.2.2.2.2.2.2.2.2.2.2.2.2.1 hin hA hR hnext)
  | 36, _, hj => exact A_st (x_tabIn (tgt := 1223) (36 : Int32) dL_law_32 (hj.trans rfl) (by decide) (by decide) rfl (by decide)) (lk_36 hE.2.2.2.2.2.2.2.2.2.2.2.2.2.2.2.2.2.2.2.2.2.2.2.2.2.2.2.2.2.2.2.2.2.2.2.2.1 hin hA hR hnext)
  | 37, _, hj => exact A_st (x_tabIn (tgt := 1236) (37 : Int32) dL_law_32 (hj.trans rfl) (by decide) (by decide) rfl (by decide)) (lk_37 hE.2.2.2.2.2.2.2.2.2.2.2.2.2.2.2.2.2.2.2.2.2.2.2.2.2.2.2.2.2.2.2.2.2.2.2.2.2.1 hin hA hR hnext)
  | 38, _, hj => exact A_st (x_tabIn (tgt := 1249) (38 : Int32) dL_law_32 (hj.trans rfl) (by decide) (by decide) rfl (by decide)) (lk_38 hE.2.2.2.2.2.2.2.2.2.2.2.2.2.2.2.2.2.2.2.2.2.2.2.2.2.2.2.2.2.2.2.2.2.2.2.2.2.2 hin hA hR hnext)
  | j + 39, h1, _ => omega
theorem law_in {N k : Nat} (hN : N ≤ 2048) (hk : k ≤ 4096) (h : ¬ (Int32.ofNat N - (4 : Int32) < nI k)) : k + 4 ≤ N := by
  have e1 : (nI N - nI 4).toInt = (N : Int) - 4 := pk_sub_toInt (by omega) (by omega)
  have e2 : (nI k).toInt = (k : Int) := nI_toInt (by omega)
  have h1 : ¬ ((nI N - nI 4).toInt < (nI k).toInt) := fun q => h (Int32.lt_iff_toInt_lt.mpr q)
  rw [e1, e2] at h1
  omega
theorem law_inb {N k : Nat} (hN : N ≤ 2048) (h : k + 4 ≤ N) : ∀ q : Int32, 0 ≤ q → q ≤ 3 → inb (nI k + q) N := by
  intro q h0 h3
  obtain ⟨j, hj, rfl⟩ := nI_of2 (M := 3) (n := 3) (by decide) (Int32.not_lt.mpr h0) h3
  rw [nI_add]
  exact vp_in_nI (by omega) (by omega)
set_option maxRecDepth 100000 in
set_option maxHeartbeats 4000000 in
theorem law_run {N : Nat} {xs : Nat → Int32} (hN : N ≤ 2048) {Rl : Sg → Sg → Prop} (hE : El Rl) : ∀ (n k : Nat), k ≤ 2048 → 2048 < k + n → ∀ (ρ σ τ : Sg), ag ρ σ τ → Rl σ τ → Aj (mL N xs) idsA phiL 18 (locL k) [] ρ := by
  intro n
  induction n with
  | zero => intro k h1 h2; omega
  | succ n ih =>
    intro k h1 h2 ρ σ τ hA hR
    refine A_st (x_iload_n dL_law_18 rfl) ?_
    refine A_st (x_aload_n dL_law_19 rfl) ?_
    refine A_st (x_sln rfl dL_law_20) ?_
    refine A_st (x_iconst (4 : Int32) dL_law_21 rfl) ?_
    refine A_st (x_isub dL_law_22) ?_
    by_cases hc : Int32.ofNat N - (4 : Int32) < nI k
    · refine A_st (x_icmp_gt_t (tgt := 1278) dL_law_23 (by decide) hc) ?_
      refine A_st (x_iconst (1 : Int32) dL_law_1278 rfl) ?_
      exact A_ret (r := some (aI 1)) rfl ⟨dL_law_1279, _, rfl, nar_b (Or.inr rfl)⟩
    · refine A_st (x_icmp_gt_f 1278 dL_law_23 (by decide) hc) ?_
      have h4 := law_in hN (by omega) hc
      have hin := law_inb hN h4
      have hi0 : inb (nI k) N := vp_in_nI (by omega) (by omega)
      refine A_st (x_aload_n dL_law_26 rfl) ?_
      refine A_st (x_iload_n dL_law_27 rfl) ?_
      refine A_st (x_sld rfl dL_law_28 hi0) ?_
      refine A_st (x_bipush (63 : Int32) dL_law_29 rfl) ?_
      refine A_st (x_iand dL_law_31) ?_
      have hnext : ∀ ρ' σ' τ', ag ρ' σ' τ' → Rl σ' τ' → Aj (mL N xs) idsA phiL 1272 (locL k) [] ρ' := by
        intro ρ' σ' τ' hA' hR'
        refine A_st (x_iinc (nI (k + 4)) (locL (k + 4)) dL_law_1272 (Nat.le_of_ble_eq_true rfl) rfl (nI_add k 4) rfl rfl) ?_
        refine A_st (x_goto (tgt := 18) dL_law_1275 (by decide)) ?_
        exact ih (k + 4) (by omega) (by omega) ρ' σ' τ' hA' hR'
      obtain ⟨j, hj64, hj⟩ := pk_andE (xs (nI k).toNatClampNeg) (m := 63) 6 (by decide)
      rcases Nat.lt_or_ge j 39 with hlt | hge
      · exact law_sw hE hin hA hR hnext j hlt hj
      · refine A_st (x_tabOut (tgt := 1272) dL_law_32 (Or.inr ?_) (by decide)) ?_
        · rw [hj, nI_toInt (by omega)]
          omega
        · exact hnext ρ σ τ hA hR
