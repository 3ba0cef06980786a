/-! the law: what stands at each place -/
theorem f_226_0 : oFet 226 0 = some (.new 7, 3) := by decide +kernel
theorem f_226_3 : oFet 226 3 = some (.dup, 1) := by decide +kernel
theorem f_226_4 : oFet 226 4 = some (.invokespecial 9, 3) := by decide +kernel
theorem f_226_7 : oFet 226 7 = some (.astore_n 1, 1) := by decide +kernel
theorem f_226_8 : oFet 226 8 = some (.new 10, 3) := by decide +kernel
theorem f_226_11 : oFet 226 11 = some (.dup, 1) := by decide +kernel
theorem f_226_12 : oFet 226 12 = some (.invokespecial 12, 3) := by decide +kernel
theorem f_226_15 : oFet 226 15 = some (.astore_n 2, 1) := by decide +kernel
theorem f_226_16 : oFet 226 16 = some (.iconst 0, 1) := by decide +kernel
theorem f_226_17 : oFet 226 17 = some (.istore_n 3, 1) := by decide +kernel
theorem f_226_18 : oFet 226 18 = some (.iload_n 3, 1) := by decide +kernel
theorem f_226_19 : oFet 226 19 = some (.aload_n 0, 1) := by decide +kernel
theorem f_226_20 : oFet 226 20 = some (.arraylength, 1) := by decide +kernel
theorem f_226_21 : oFet 226 21 = some (.bipush 6, 2) := by decide +kernel
theorem f_226_23 : oFet 226 23 = some (.isub, 1) := by decide +kernel
theorem f_226_24 : oFet 226 24 = some (.if_icmp .gt 1242, 3) := by decide +kernel
theorem f_226_27 : oFet 226 27 = some (.aload_n 0, 1) := by decide +kernel
theorem f_226_28 : oFet 226 28 = some (.iload_n 3, 1) := by decide +kernel
theorem f_226_29 : oFet 226 29 = some (.iaload, 1) := by decide +kernel
theorem f_226_30 : oFet 226 30 = some (.bipush 63, 2) := by decide +kernel
theorem f_226_32 : oFet 226 32 = some (.iand, 1) := by decide +kernel
theorem f_226_33 : oFet 226 33 = some (.tableswitch 1227 0 36 #[163, 176, 219, 252, 285, 308, 331, 354, 377, 400, 413, 436, 469, 482, 515, 538, 561, 584, 617, 650, 663, 686, 719, 762, 806, 830, 863, 886, 919, 932, 965, 978, 991, 1014, 1057, 1130, 1164], 163) := by decide +kernel
theorem f_226_196 : oFet 226 196 = some (.aload_n 1, 1) := by decide +kernel
theorem f_226_197 : oFet 226 197 = some (.invokevirtual 13, 3) := by decide +kernel
theorem f_226_200 : oFet 226 200 = some (.aload_n 2, 1) := by decide +kernel
theorem f_226_201 : oFet 226 201 = some (.invokevirtual 17, 3) := by decide +kernel
theorem f_226_204 : oFet 226 204 = some (.if_icmp .eq 1056, 3) := by decide +kernel
theorem f_226_207 : oFet 226 207 = some (.iconst 0, 1) := by decide +kernel
theorem f_226_208 : oFet 226 208 = some (.ireturn, 1) := by decide +kernel
theorem f_226_209 : oFet 226 209 = some (.aload_n 1, 1) := by decide +kernel
theorem f_226_210 : oFet 226 210 = some (.aload_n 0, 1) := by decide +kernel
theorem f_226_211 : oFet 226 211 = some (.iload_n 3, 1) := by decide +kernel
theorem f_226_212 : oFet 226 212 = some (.iconst 1, 1) := by decide +kernel
theorem f_226_213 : oFet 226 213 = some (.iadd, 1) := by decide +kernel
theorem f_226_214 : oFet 226 214 = some (.iaload, 1) := by decide +kernel
theorem f_226_215 : oFet 226 215 = some (.aload_n 0, 1) := by decide +kernel
theorem f_226_216 : oFet 226 216 = some (.iload_n 3, 1) := by decide +kernel
theorem f_226_217 : oFet 226 217 = some (.iconst 2, 1) := by decide +kernel
theorem f_226_218 : oFet 226 218 = some (.iadd, 1) := by decide +kernel
theorem f_226_219 : oFet 226 219 = some (.iaload, 1) := by decide +kernel
theorem f_226_220 : oFet 226 220 = some (.aload_n 0, 1) := by decide +kernel
theorem f_226_221 : oFet 226 221 = some (.iload_n 3, 1) := by decide +kernel
theorem f_226_222 : oFet 226 222 = some (.iconst 3, 1) := by decide +kernel
theorem f_226_223 : oFet 226 223 = some (.iadd, 1) := by decide +kernel
theorem f_226_224 : oFet 226 224 = some (.iaload, 1) := by decide +kernel
theorem f_226_225 : oFet 226 225 = some (.invokevirtual 18, 3) := by decide +kernel
theorem f_226_228 : oFet 226 228 = some (.aload_n 2, 1) := by decide +kernel
theorem f_226_229 : oFet 226 229 = some (.aload_n 0, 1) := by decide +kernel
theorem f_226_230 : oFet 226 230 = some (.iload_n 3, 1) := by decide +kernel
theorem f_226_231 : oFet 226 231 = some (.iconst 1, 1) := by decide +kernel
theorem f_226_232 : oFet 226 232 = some (.iadd, 1) := by decide +kernel
theorem f_226_233 : oFet 226 233 = some (.iaload, 1) := by decide +kernel
theorem f_226_234 : oFet 226 234 = some (.aload_n 0, 1) := by decide +kernel
theorem f_226_235 : oFet 226 235 = some (.iload_n 3, 1) := by decide +kernel
theorem f_226_236 : oFet 226 236 = some (.iconst 2, 1) := by decide +kernel
theorem f_226_237 : oFet 226 237 = some (.iadd, 1) := by decide +kernel
theorem f_226_238 : oFet 226 238 = some (.iaload, 1) := by decide +kernel
theorem f_226_239 : oFet 226 239 = some (.aload_n 0, 1) := by decide +kernel
theorem f_226_240 : oFet 226 240 = some (.iload_n 3, 1) := by decide +kernel
theorem f_226_241 : oFet 226 241 = some (.iconst 3, 1) := by decide +kernel
theorem f_226_242 : oFet 226 242 = some (.iadd, 1) := by decide +kernel
theorem f_226_243 : oFet 226 243 = some (.iaload, 1) := by decide +kernel
theorem f_226_244 : oFet 226 244 = some (.invokevirtual 22, 3) := by decide +kernel
theorem f_226_247 : oFet 226 247 = some (.if_icmp .eq 1013, 3) := by decide +kernel
theorem f_226_250 : oFet 226 250 = some (.iconst 0, 1) := by decide +kernel
theorem f_226_251 : oFet 226 251 = some (.ireturn, 1) := by decide +kernel
theorem f_226_252 : oFet 226 252 = some (.aload_n 1, 1) := by decide +kernel
theorem f_226_253 : oFet 226 253 = some (.aload_n 0, 1) := by decide +kernel
theorem f_226_254 : oFet 226 254 = some (.iload_n 3, 1) := by decide +kernel
theorem f_226_255 : oFet 226 255 = some (.iconst 1, 1) := by decide +kernel
theorem f_226_256 : oFet 226 256 = some (.iadd, 1) := by decide +kernel
theorem f_226_257 : oFet 226 257 = some (.iaload, 1) := by decide +kernel
theorem f_226_258 : oFet 226 258 = some (.aload_n 0, 1) := by decide +kernel
theorem f_226_259 : oFet 226 259 = some (.iload_n 3, 1) := by decide +kernel
theorem f_226_260 : oFet 226 260 = some (.iconst 2, 1) := by decide +kernel
theorem f_226_261 : oFet 226 261 = some (.iadd, 1) := by decide +kernel
theorem f_226_262 : oFet 226 262 = some (.iaload, 1) := by decide +kernel
theorem f_226_263 : oFet 226 263 = some (.invokevirtual 23, 3) := by decide +kernel
theorem f_226_266 : oFet 226 266 = some (.aload_n 2, 1) := by decide +kernel
theorem f_226_267 : oFet 226 267 = some (.aload_n 0, 1) := by decide +kernel
theorem f_226_268 : oFet 226 268 = some (.iload_n 3, 1) := by decide +kernel
theorem f_226_269 : oFet 226 269 = some (.iconst 1, 1) := by decide +kernel
theorem f_226_270 : oFet 226 270 = some (.iadd, 1) := by decide +kernel
theorem f_226_271 : oFet 226 271 = some (.iaload, 1) := by decide +kernel
theorem f_226_272 : oFet 226 272 = some (.aload_n 0, 1) := by decide +kernel
theorem f_226_273 : oFet 226 273 = some (.iload_n 3, 1) := by decide +kernel
theorem f_226_274 : oFet 226 274 = some (.iconst 2, 1) := by decide +kernel
theorem f_226_275 : oFet 226 275 = some (.iadd, 1) := by decide +kernel
theorem f_226_276 : oFet 226 276 = some (.iaload, 1) := by decide +kernel
theorem f_226_277 : oFet 226 277 = some (.invokevirtual 27, 3) := by decide +kernel
theorem f_226_280 : oFet 226 280 = some (.if_icmp .eq 980, 3) := by decide +kernel
theorem f_226_283 : oFet 226 283 = some (.iconst 0, 1) := by decide +kernel
theorem f_226_284 : oFet 226 284 = some (.ireturn, 1) := by decide +kernel
theorem f_226_285 : oFet 226 285 = some (.aload_n 1, 1) := by decide +kernel
theorem f_226_286 : oFet 226 286 = some (.aload_n 0, 1) := by decide +kernel
theorem f_226_287 : oFet 226 287 = some (.iload_n 3, 1) := by decide +kernel
theorem f_226_288 : oFet 226 288 = some (.iconst 1, 1) := by decide +kernel
theorem f_226_289 : oFet 226 289 = some (.iadd, 1) := by decide +kernel
theorem f_226_290 : oFet 226 290 = some (.iaload, 1) := by decide +kernel
theorem f_226_291 : oFet 226 291 = some (.aload_n 0, 1) := by decide +kernel
theorem f_226_292 : oFet 226 292 = some (.iload_n 3, 1) := by decide +kernel
theorem f_226_293 : oFet 226 293 = some (.iconst 2, 1) := by decide +kernel
theorem f_226_294 : oFet 226 294 = some (.iadd, 1) := by decide +kernel
theorem f_226_295 : oFet 226 295 = some (.iaload, 1) := by decide +kernel
theorem f_226_296 : oFet 226 296 = some (.invokevirtual 28, 3) := by decide +kernel
theorem f_226_299 : oFet 226 299 = some (.aload_n 2, 1) := by decide +kernel
theorem f_226_300 : oFet 226 300 = some (.aload_n 0, 1) := by decide +kernel
theorem f_226_301 : oFet 226 301 = some (.iload_n 3, 1) := by decide +kernel
theorem f_226_302 : oFet 226 302 = some (.iconst 1, 1) := by decide +kernel
theorem f_226_303 : oFet 226 303 = some (.iadd, 1) := by decide +kernel
theorem f_226_304 : oFet 226 304 = some (.iaload, 1) := by decide +kernel
theorem f_226_305 : oFet 226 305 = some (.aload_n 0, 1) := by decide +kernel
theorem f_226_306 : oFet 226 306 = some (.iload_n 3, 1) := by decide +kernel
theorem f_226_307 : oFet 226 307 = some (.iconst 2, 1) := by decide +kernel
theorem f_226_308 : oFet 226 308 = some (.iadd, 1) := by decide +kernel
theorem f_226_309 : oFet 226 309 = some (.iaload, 1) := by decide +kernel
theorem f_226_310 : oFet 226 310 = some (.invokevirtual 31, 3) := by decide +kernel
theorem f_226_313 : oFet 226 313 = some (.if_icmp .eq 947, 3) := by decide +kernel
theorem f_226_316 : oFet 226 316 = some (.iconst 0, 1) := by decide +kernel
theorem f_226_317 : oFet 226 317 = some (.ireturn, 1) := by decide +kernel
theorem f_226_318 : oFet 226 318 = some (.aload_n 1, 1) := by decide +kernel
theorem f_226_319 : oFet 226 319 = some (.aload_n 0, 1) := by decide +kernel
theorem f_226_320 : oFet 226 320 = some (.iload_n 3, 1) := by decide +kernel
theorem f_226_321 : oFet 226 321 = some (.iconst 1, 1) := by decide +kernel
theorem f_226_322 : oFet 226 322 = some (.iadd, 1) := by decide +kernel
theorem f_226_323 : oFet 226 323 = some (.iaload, 1) := by decide +kernel
theorem f_226_324 : oFet 226 324 = some (.invokevirtual 32, 3) := by decide +kernel
theorem f_226_327 : oFet 226 327 = some (.aload_n 2, 1) := by decide +kernel
theorem f_226_328 : oFet 226 328 = some (.aload_n 0, 1) := by decide +kernel
theorem f_226_329 : oFet 226 329 = some (.iload_n 3, 1) := by decide +kernel
theorem f_226_330 : oFet 226 330 = some (.iconst 1, 1) := by decide +kernel
theorem f_226_331 : oFet 226 331 = some (.iadd, 1) := by decide +kernel
theorem f_226_332 : oFet 226 332 = some (.iaload, 1) := by decide +kernel
theorem f_226_333 : oFet 226 333 = some (.invokevirtual 36, 3) := by decide +kernel
theorem f_226_336 : oFet 226 336 = some (.if_icmp .eq 924, 3) := by decide +kernel
theorem f_226_339 : oFet 226 339 = some (.iconst 0, 1) := by decide +kernel
theorem f_226_340 : oFet 226 340 = some (.ireturn, 1) := by decide +kernel
theorem f_226_341 : oFet 226 341 = some (.aload_n 1, 1) := by decide +kernel
theorem f_226_342 : oFet 226 342 = some (.aload_n 0, 1) := by decide +kernel
theorem f_226_343 : oFet 226 343 = some (.iload_n 3, 1) := by decide +kernel
theorem f_226_344 : oFet 226 344 = some (.iconst 1, 1) := by decide +kernel
theorem f_226_345 : oFet 226 345 = some (.iadd, 1) := by decide +kernel
theorem f_226_346 : oFet 226 346 = some (.iaload, 1) := by decide +kernel
theorem f_226_347 : oFet 226 347 = some (.invokevirtual 37, 3) := by decide +kernel
theorem f_226_350 : oFet 226 350 = some (.aload_n 2, 1) := by decide +kernel
theorem f_226_351 : oFet 226 351 = some (.aload_n 0, 1) := by decide +kernel
theorem f_226_352 : oFet 226 352 = some (.iload_n 3, 1) := by decide +kernel
theorem f_226_353 : oFet 226 353 = some (.iconst 1, 1) := by decide +kernel
theorem f_226_354 : oFet 226 354 = some (.iadd, 1) := by decide +kernel
theorem f_226_355 : oFet 226 355 = some (.iaload, 1) := by decide +kernel
theorem f_226_356 : oFet 226 356 = some (.invokevirtual 40, 3) := by decide +kernel
theorem f_226_359 : oFet 226 359 = some (.if_icmp .eq 901, 3) := by decide +kernel
theorem f_226_362 : oFet 226 362 = some (.iconst 0, 1) := by decide +kernel
theorem f_226_363 : oFet 226 363 = some (.ireturn, 1) := by decide +kernel
theorem f_226_364 : oFet 226 364 = some (.aload_n 1, 1) := by decide +kernel
theorem f_226_365 : oFet 226 365 = some (.aload_n 0, 1) := by decide +kernel
theorem f_226_366 : oFet 226 366 = some (.iload_n 3, 1) := by decide +kernel
theorem f_226_367 : oFet 226 367 = some (.iconst 1, 1) := by decide +kernel
theorem f_226_368 : oFet 226 368 = some (.iadd, 1) := by decide +kernel
theorem f_226_369 : oFet 226 369 = some (.iaload, 1) := by decide +kernel
theorem f_226_370 : oFet 226 370 = some (.invokevirtual 41, 3) := by decide +kernel
theorem f_226_373 : oFet 226 373 = some (.aload_n 2, 1) := by decide +kernel
theorem f_226_374 : oFet 226 374 = some (.aload_n 0, 1) := by decide +kernel
theorem f_226_375 : oFet 226 375 = some (.iload_n 3, 1) := by decide +kernel
theorem f_226_376 : oFet 226 376 = some (.iconst 1, 1) := by decide +kernel
theorem f_226_377 : oFet 226 377 = some (.iadd, 1) := by decide +kernel
theorem f_226_378 : oFet 226 378 = some (.iaload, 1) := by decide +kernel
theorem f_226_379 : oFet 226 379 = some (.invokevirtual 44, 3) := by decide +kernel
theorem f_226_382 : oFet 226 382 = some (.if_icmp .eq 878, 3) := by decide +kernel
theorem f_226_385 : oFet 226 385 = some (.iconst 0, 1) := by decide +kernel
theorem f_226_386 : oFet 226 386 = some (.ireturn, 1) := by decide +kernel
theorem f_226_387 : oFet 226 387 = some (.aload_n 1, 1) := by decide +kernel
theorem f_226_388 : oFet 226 388 = some (.aload_n 0, 1) := by decide +kernel
theorem f_226_389 : oFet 226 389 = some (.iload_n 3, 1) := by decide +kernel
theorem f_226_390 : oFet 226 390 = some (.iconst 1, 1) := by decide +kernel
theorem f_226_391 : oFet 226 391 = some (.iadd, 1) := by decide +kernel
theorem f_226_392 : oFet 226 392 = some (.iaload, 1) := by decide +kernel
theorem f_226_393 : oFet 226 393 = some (.invokevirtual 45, 3) := by decide +kernel
theorem f_226_396 : oFet 226 396 = some (.aload_n 2, 1) := by decide +kernel
theorem f_226_397 : oFet 226 397 = some (.aload_n 0, 1) := by decide +kernel
theorem f_226_398 : oFet 226 398 = some (.iload_n 3, 1) := by decide +kernel
theorem f_226_399 : oFet 226 399 = some (.iconst 1, 1) := by decide +kernel
theorem f_226_400 : oFet 226 400 = some (.iadd, 1) := by decide +kernel
theorem f_226_401 : oFet 226 401 = some (.iaload, 1) := by decide +kernel
theorem f_226_402 : oFet 226 402 = some (.invokevirtual 48, 3) := by decide +kernel
theorem f_226_405 : oFet 226 405 = some (.if_icmp .eq 855, 3) := by decide +kernel
theorem f_226_408 : oFet 226 408 = some (.iconst 0, 1) := by decide +kernel
theorem f_226_409 : oFet 226 409 = some (.ireturn, 1) := by decide +kernel
theorem f_226_410 : oFet 226 410 = some (.aload_n 1, 1) := by decide +kernel
theorem f_226_411 : oFet 226 411 = some (.aload_n 0, 1) := by decide +kernel
theorem f_226_412 : oFet 226 412 = some (.iload_n 3, 1) := by decide +kernel
theorem f_226_413 : oFet 226 413 = some (.iconst 1, 1) := by decide +kernel
theorem f_226_414 : oFet 226 414 = some (.iadd, 1) := by decide +kernel
theorem f_226_415 : oFet 226 415 = some (.iaload, 1) := by decide +kernel
theorem f_226_416 : oFet 226 416 = some (.invokevirtual 49, 3) := by decide +kernel
theorem f_226_419 : oFet 226 419 = some (.aload_n 2, 1) := by decide +kernel
theorem f_226_420 : oFet 226 420 = some (.aload_n 0, 1) := by decide +kernel
theorem f_226_421 : oFet 226 421 = some (.iload_n 3, 1) := by decide +kernel
theorem f_226_422 : oFet 226 422 = some (.iconst 1, 1) := by decide +kernel
theorem f_226_423 : oFet 226 423 = some (.iadd, 1) := by decide +kernel
theorem f_226_424 : oFet 226 424 = some (.iaload, 1) := by decide +kernel
theorem f_226_425 : oFet 226 425 = some (.invokevirtual 52, 3) := by decide +kernel
theorem f_226_428 : oFet 226 428 = some (.if_icmp .eq 832, 3) := by decide +kernel
theorem f_226_431 : oFet 226 431 = some (.iconst 0, 1) := by decide +kernel
theorem f_226_432 : oFet 226 432 = some (.ireturn, 1) := by decide +kernel
theorem f_226_433 : oFet 226 433 = some (.aload_n 1, 1) := by decide +kernel
theorem f_226_434 : oFet 226 434 = some (.invokevirtual 53, 3) := by decide +kernel
theorem f_226_437 : oFet 226 437 = some (.aload_n 2, 1) := by decide +kernel
theorem f_226_438 : oFet 226 438 = some (.invokevirtual 56, 3) := by decide +kernel
theorem f_226_441 : oFet 226 441 = some (.if_icmp .eq 819, 3) := by decide +kernel
theorem f_226_444 : oFet 226 444 = some (.iconst 0, 1) := by decide +kernel
theorem f_226_445 : oFet 226 445 = some (.ireturn, 1) := by decide +kernel
theorem f_226_446 : oFet 226 446 = some (.aload_n 1, 1) := by decide +kernel
theorem f_226_447 : oFet 226 447 = some (.aload_n 0, 1) := by decide +kernel
theorem f_226_448 : oFet 226 448 = some (.iload_n 3, 1) := by decide +kernel
theorem f_226_449 : oFet 226 449 = some (.iconst 1, 1) := by decide +kernel
theorem f_226_450 : oFet 226 450 = some (.iadd, 1) := by decide +kernel
theorem f_226_451 : oFet 226 451 = some (.iaload, 1) := by decide +kernel
theorem f_226_452 : oFet 226 452 = some (.invokevirtual 57, 3) := by decide +kernel
theorem f_226_455 : oFet 226 455 = some (.aload_n 2, 1) := by decide +kernel
theorem f_226_456 : oFet 226 456 = some (.aload_n 0, 1) := by decide +kernel
theorem f_226_457 : oFet 226 457 = some (.iload_n 3, 1) := by decide +kernel
theorem f_226_458 : oFet 226 458 = some (.iconst 1, 1) := by decide +kernel
theorem f_226_459 : oFet 226 459 = some (.iadd, 1) := by decide +kernel
theorem f_226_460 : oFet 226 460 = some (.iaload, 1) := by decide +kernel
theorem f_226_461 : oFet 226 461 = some (.invokevirtual 60, 3) := by decide +kernel
theorem f_226_464 : oFet 226 464 = some (.if_icmp .eq 796, 3) := by decide +kernel
theorem f_226_467 : oFet 226 467 = some (.iconst 0, 1) := by decide +kernel
theorem f_226_468 : oFet 226 468 = some (.ireturn, 1) := by decide +kernel
theorem f_226_469 : oFet 226 469 = some (.aload_n 1, 1) := by decide +kernel
theorem f_226_470 : oFet 226 470 = some (.aload_n 0, 1) := by decide +kernel
theorem f_226_471 : oFet 226 471 = some (.iload_n 3, 1) := by decide +kernel
theorem f_226_472 : oFet 226 472 = some (.iconst 1, 1) := by decide +kernel
theorem f_226_473 : oFet 226 473 = some (.iadd, 1) := by decide +kernel
theorem f_226_474 : oFet 226 474 = some (.iaload, 1) := by decide +kernel
theorem f_226_475 : oFet 226 475 = some (.aload_n 0, 1) := by decide +kernel
theorem f_226_476 : oFet 226 476 = some (.iload_n 3, 1) := by decide +kernel
theorem f_226_477 : oFet 226 477 = some (.iconst 2, 1) := by decide +kernel
theorem f_226_478 : oFet 226 478 = some (.iadd, 1) := by decide +kernel
theorem f_226_479 : oFet 226 479 = some (.iaload, 1) := by decide +kernel
theorem f_226_480 : oFet 226 480 = some (.invokevirtual 61, 3) := by decide +kernel
theorem f_226_483 : oFet 226 483 = some (.aload_n 2, 1) := by decide +kernel
theorem f_226_484 : oFet 226 484 = some (.aload_n 0, 1) := by decide +kernel
theorem f_226_485 : oFet 226 485 = some (.iload_n 3, 1) := by decide +kernel
theorem f_226_486 : oFet 226 486 = some (.iconst 1, 1) := by decide +kernel
theorem f_226_487 : oFet 226 487 = some (.iadd, 1) := by decide +kernel
theorem f_226_488 : oFet 226 488 = some (.iaload, 1) := by decide +kernel
theorem f_226_489 : oFet 226 489 = some (.aload_n 0, 1) := by decide +kernel
theorem f_226_490 : oFet 226 490 = some (.iload_n 3, 1) := by decide +kernel
theorem f_226_491 : oFet 226 491 = some (.iconst 2, 1) := by decide +kernel
theorem f_226_492 : oFet 226 492 = some (.iadd, 1) := by decide +kernel
theorem f_226_493 : oFet 226 493 = some (.iaload, 1) := by decide +kernel
theorem f_226_494 : oFet 226 494 = some (.invokevirtual 64, 3) := by decide +kernel
theorem f_226_497 : oFet 226 497 = some (.if_icmp .eq 763, 3) := by decide +kernel
theorem f_226_500 : oFet 226 500 = some (.iconst 0, 1) := by decide +kernel
theorem f_226_501 : oFet 226 501 = some (.ireturn, 1) := by decide +kernel
theorem f_226_502 : oFet 226 502 = some (.aload_n 1, 1) := by decide +kernel
theorem f_226_503 : oFet 226 503 = some (.invokevirtual 65, 3) := by decide +kernel
theorem f_226_506 : oFet 226 506 = some (.aload_n 2, 1) := by decide +kernel
theorem f_226_507 : oFet 226 507 = some (.invokevirtual 68, 3) := by decide +kernel
theorem f_226_510 : oFet 226 510 = some (.if_icmp .eq 750, 3) := by decide +kernel
theorem f_226_513 : oFet 226 513 = some (.iconst 0, 1) := by decide +kernel
theorem f_226_514 : oFet 226 514 = some (.ireturn, 1) := by decide +kernel
theorem f_226_515 : oFet 226 515 = some (.aload_n 1, 1) := by decide +kernel
theorem f_226_516 : oFet 226 516 = some (.aload_n 0, 1) := by decide +kernel
theorem f_226_517 : oFet 226 517 = some (.iload_n 3, 1) := by decide +kernel
theorem f_226_518 : oFet 226 518 = some (.iconst 1, 1) := by decide +kernel
theorem f_226_519 : oFet 226 519 = some (.iadd, 1) := by decide +kernel
theorem f_226_520 : oFet 226 520 = some (.iaload, 1) := by decide +kernel
theorem f_226_521 : oFet 226 521 = some (.aload_n 0, 1) := by decide +kernel
theorem f_226_522 : oFet 226 522 = some (.iload_n 3, 1) := by decide +kernel
theorem f_226_523 : oFet 226 523 = some (.iconst 2, 1) := by decide +kernel
theorem f_226_524 : oFet 226 524 = some (.iadd, 1) := by decide +kernel
theorem f_226_525 : oFet 226 525 = some (.iaload, 1) := by decide +kernel
theorem f_226_526 : oFet 226 526 = some (.invokevirtual 69, 3) := by decide +kernel
theorem f_226_529 : oFet 226 529 = some (.aload_n 2, 1) := by decide +kernel
theorem f_226_530 : oFet 226 530 = some (.aload_n 0, 1) := by decide +kernel
theorem f_226_531 : oFet 226 531 = some (.iload_n 3, 1) := by decide +kernel
theorem f_226_532 : oFet 226 532 = some (.iconst 1, 1) := by decide +kernel
theorem f_226_533 : oFet 226 533 = some (.iadd, 1) := by decide +kernel
theorem f_226_534 : oFet 226 534 = some (.iaload, 1) := by decide +kernel
theorem f_226_535 : oFet 226 535 = some (.aload_n 0, 1) := by decide +kernel
theorem f_226_536 : oFet 226 536 = some (.iload_n 3, 1) := by decide +kernel
theorem f_226_537 : oFet 226 537 = some (.iconst 2, 1) := by decide +kernel
theorem f_226_538 : oFet 226 538 = some (.iadd, 1) := by decide +kernel
theorem f_226_539 : oFet 226 539 = some (.iaload, 1) := by decide +kernel
theorem f_226_540 : oFet 226 540 = some (.invokevirtual 72, 3) := by decide +kernel
theorem f_226_543 : oFet 226 543 = some (.if_icmp .eq 717, 3) := by decide +kernel
theorem f_226_546 : oFet 226 546 = some (.iconst 0, 1) := by decide +kernel
theorem f_226_547 : oFet 226 547 = some (.ireturn, 1) := by decide +kernel
theorem f_226_548 : oFet 226 548 = some (.aload_n 1, 1) := by decide +kernel
theorem f_226_549 : oFet 226 549 = some (.aload_n 0, 1) := by decide +kernel
theorem f_226_550 : oFet 226 550 = some (.iload_n 3, 1) := by decide +kernel
theorem f_226_551 : oFet 226 551 = some (.iconst 1, 1) := by decide +kernel
theorem f_226_552 : oFet 226 552 = some (.iadd, 1) := by decide +kernel
theorem f_226_553 : oFet 226 553 = some (.iaload, 1) := by decide +kernel
theorem f_226_554 : oFet 226 554 = some (.invokevirtual 73, 3) := by decide +kernel
theorem f_226_557 : oFet 226 557 = some (.aload_n 2, 1) := by decide +kernel
theorem f_226_558 : oFet 226 558 = some (.aload_n 0, 1) := by decide +kernel
theorem f_226_559 : oFet 226 559 = some (.iload_n 3, 1) := by decide +kernel
theorem f_226_560 : oFet 226 560 = some (.iconst 1, 1) := by decide +kernel
theorem f_226_561 : oFet 226 561 = some (.iadd, 1) := by decide +kernel
theorem f_226_562 : oFet 226 562 = some (.iaload, 1) := by decide +kernel
theorem f_226_563 : oFet 226 563 = some (.invokevirtual 76, 3) := by decide +kernel
theorem f_226_566 : oFet 226 566 = some (.if_icmp .eq 694, 3) := by decide +kernel
theorem f_226_569 : oFet 226 569 = some (.iconst 0, 1) := by decide +kernel
theorem f_226_570 : oFet 226 570 = some (.ireturn, 1) := by decide +kernel
theorem f_226_571 : oFet 226 571 = some (.aload_n 1, 1) := by decide +kernel
theorem f_226_572 : oFet 226 572 = some (.aload_n 0, 1) := by decide +kernel
theorem f_226_573 : oFet 226 573 = some (.iload_n 3, 1) := by decide +kernel
theorem f_226_574 : oFet 226 574 = some (.iconst 1, 1) := by decide +kernel
theorem f_226_575 : oFet 226 575 = some (.iadd, 1) := by decide +kernel
theorem f_226_576 : oFet 226 576 = some (.iaload, 1) := by decide +kernel
theorem f_226_577 : oFet 226 577 = some (.invokevirtual 77, 3) := by decide +kernel
theorem f_226_580 : oFet 226 580 = some (.aload_n 2, 1) := by decide +kernel
theorem f_226_581 : oFet 226 581 = some (.aload_n 0, 1) := by decide +kernel
theorem f_226_582 : oFet 226 582 = some (.iload_n 3, 1) := by decide +kernel
theorem f_226_583 : oFet 226 583 = some (.iconst 1, 1) := by decide +kernel
theorem f_226_584 : oFet 226 584 = some (.iadd, 1) := by decide +kernel
theorem f_226_585 : oFet 226 585 = some (.iaload, 1) := by decide +kernel
theorem f_226_586 : oFet 226 586 = some (.invokevirtual 80, 3) := by decide +kernel
theorem f_226_589 : oFet 226 589 = some (.if_icmp .eq 671, 3) := by decide +kernel
theorem f_226_592 : oFet 226 592 = some (.iconst 0, 1) := by decide +kernel
theorem f_226_593 : oFet 226 593 = some (.ireturn, 1) := by decide +kernel
theorem f_226_594 : oFet 226 594 = some (.aload_n 1, 1) := by decide +kernel
theorem f_226_595 : oFet 226 595 = some (.aload_n 0, 1) := by decide +kernel
theorem f_226_596 : oFet 226 596 = some (.iload_n 3, 1) := by decide +kernel
theorem f_226_597 : oFet 226 597 = some (.iconst 1, 1) := by decide +kernel
theorem f_226_598 : oFet 226 598 = some (.iadd, 1) := by decide +kernel
theorem f_226_599 : oFet 226 599 = some (.iaload, 1) := by decide +kernel
theorem f_226_600 : oFet 226 600 = some (.invokevirtual 81, 3) := by decide +kernel
theorem f_226_603 : oFet 226 603 = some (.aload_n 2, 1) := by decide +kernel
theorem f_226_604 : oFet 226 604 = some (.aload_n 0, 1) := by decide +kernel
theorem f_226_605 : oFet 226 605 = some (.iload_n 3, 1) := by decide +kernel
theorem f_226_606 : oFet 226 606 = some (.iconst 1, 1) := by decide +kernel
theorem f_226_607 : oFet 226 607 = some (.iadd, 1) := by decide +kernel
theorem f_226_608 : oFet 226 608 = some (.iaload, 1) := by decide +kernel
theorem f_226_609 : oFet 226 609 = some (.invokevirtual 84, 3) := by decide +kernel
theorem f_226_612 : oFet 226 612 = some (.if_icmp .eq 648, 3) := by decide +kernel
theorem f_226_615 : oFet 226 615 = some (.iconst 0, 1) := by decide +kernel
theorem f_226_616 : oFet 226 616 = some (.ireturn, 1) := by decide +kernel
theorem f_226_617 : oFet 226 617 = some (.aload_n 1, 1) := by decide +kernel
theorem f_226_618 : oFet 226 618 = some (.aload_n 0, 1) := by decide +kernel
theorem f_226_619 : oFet 226 619 = some (.iload_n 3, 1) := by decide +kernel
theorem f_226_620 : oFet 226 620 = some (.iconst 1, 1) := by decide +kernel
theorem f_226_621 : oFet 226 621 = some (.iadd, 1) := by decide +kernel
theorem f_226_622 : oFet 226 622 = some (.iaload, 1) := by decide +kernel
theorem f_226_623 : oFet 226 623 = some (.aload_n 0, 1) := by decide +kernel
theorem f_226_624 : oFet 226 624 = some (.iload_n 3, 1) := by decide +kernel
theorem f_226_625 : oFet 226 625 = some (.iconst 2, 1) := by decide +kernel
theorem f_226_626 : oFet 226 626 = some (.iadd, 1) := by decide +kernel
theorem f_226_627 : oFet 226 627 = some (.iaload, 1) := by decide +kernel
theorem f_226_628 : oFet 226 628 = some (.invokevirtual 85, 3) := by decide +kernel
theorem f_226_631 : oFet 226 631 = some (.aload_n 2, 1) := by decide +kernel
theorem f_226_632 : oFet 226 632 = some (.aload_n 0, 1) := by decide +kernel
theorem f_226_633 : oFet 226 633 = some (.iload_n 3, 1) := by decide +kernel
theorem f_226_634 : oFet 226 634 = some (.iconst 1, 1) := by decide +kernel
theorem f_226_635 : oFet 226 635 = some (.iadd, 1) := by decide +kernel
theorem f_226_636 : oFet 226 636 = some (.iaload, 1) := by decide +kernel
theorem f_226_637 : oFet 226 637 = some (.aload_n 0, 1) := by decide +kernel
theorem f_226_638 : oFet 226 638 = some (.iload_n 3, 1) := by decide +kernel
theorem f_226_639 : oFet 226 639 = some (.iconst 2, 1) := by decide +kernel
theorem f_226_640 : oFet 226 640 = some (.iadd, 1) := by decide +kernel
theorem f_226_641 : oFet 226 641 = some (.iaload, 1) := by decide +kernel
theorem f_226_642 : oFet 226 642 = some (.invokevirtual 88, 3) := by decide +kernel
theorem f_226_645 : oFet 226 645 = some (.if_icmp .eq 615, 3) := by decide +kernel
theorem f_226_648 : oFet 226 648 = some (.iconst 0, 1) := by decide +kernel
theorem f_226_649 : oFet 226 649 = some (.ireturn, 1) := by decide +kernel
theorem f_226_650 : oFet 226 650 = some (.aload_n 1, 1) := by decide +kernel
theorem f_226_651 : oFet 226 651 = some (.aload_n 0, 1) := by decide +kernel
theorem f_226_652 : oFet 226 652 = some (.iload_n 3, 1) := by decide +kernel
theorem f_226_653 : oFet 226 653 = some (.iconst 1, 1) := by decide +kernel
theorem f_226_654 : oFet 226 654 = some (.iadd, 1) := by decide +kernel
theorem f_226_655 : oFet 226 655 = some (.iaload, 1) := by decide +kernel
theorem f_226_656 : oFet 226 656 = some (.aload_n 0, 1) := by decide +kernel
theorem f_226_657 : oFet 226 657 = some (.iload_n 3, 1) := by decide +kernel
theorem f_226_658 : oFet 226 658 = some (.iconst 2, 1) := by decide +kernel
theorem f_226_659 : oFet 226 659 = some (.iadd, 1) := by decide +kernel
theorem f_226_660 : oFet 226 660 = some (.iaload, 1) := by decide +kernel
theorem f_226_661 : oFet 226 661 = some (.invokevirtual 89, 3) := by decide +kernel
theorem f_226_664 : oFet 226 664 = some (.aload_n 2, 1) := by decide +kernel
theorem f_226_665 : oFet 226 665 = some (.aload_n 0, 1) := by decide +kernel
theorem f_226_666 : oFet 226 666 = some (.iload_n 3, 1) := by decide +kernel
theorem f_226_667 : oFet 226 667 = some (.iconst 1, 1) := by decide +kernel
theorem f_226_668 : oFet 226 668 = some (.iadd, 1) := by decide +kernel
theorem f_226_669 : oFet 226 669 = some (.iaload, 1) := by decide +kernel
theorem f_226_670 : oFet 226 670 = some (.aload_n 0, 1) := by decide +kernel
theorem f_226_671 : oFet 226 671 = some (.iload_n 3, 1) := by decide +kernel
theorem f_226_672 : oFet 226 672 = some (.iconst 2, 1) := by decide +kernel
theorem f_226_673 : oFet 226 673 = some (.iadd, 1) := by decide +kernel
theorem f_226_674 : oFet 226 674 = some (.iaload, 1) := by decide +kernel
theorem f_226_675 : oFet 226 675 = some (.invokevirtual 92, 3) := by decide +kernel
theorem f_226_678 : oFet 226 678 = some (.if_icmp .eq 582, 3) := by decide +kernel
theorem f_226_681 : oFet 226 681 = some (.iconst 0, 1) := by decide +kernel
theorem f_226_682 : oFet 226 682 = some (.ireturn, 1) := by decide +kernel
theorem f_226_683 : oFet 226 683 = some (.aload_n 1, 1) := by decide +kernel
theorem f_226_684 : oFet 226 684 = some (.invokevirtual 93, 3) := by decide +kernel
theorem f_226_687 : oFet 226 687 = some (.aload_n 2, 1) := by decide +kernel
theorem f_226_688 : oFet 226 688 = some (.invokevirtual 96, 3) := by decide +kernel
theorem f_226_691 : oFet 226 691 = some (.if_icmp .eq 569, 3) := by decide +kernel
theorem f_226_694 : oFet 226 694 = some (.iconst 0, 1) := by decide +kernel
theorem f_226_695 : oFet 226 695 = some (.ireturn, 1) := by decide +kernel
theorem f_226_696 : oFet 226 696 = some (.aload_n 1, 1) := by decide +kernel
theorem f_226_697 : oFet 226 697 = some (.aload_n 0, 1) := by decide +kernel
theorem f_226_698 : oFet 226 698 = some (.iload_n 3, 1) := by decide +kernel
theorem f_226_699 : oFet 226 699 = some (.iconst 1, 1) := by decide +kernel
theorem f_226_700 : oFet 226 700 = some (.iadd, 1) := by decide +kernel
theorem f_226_701 : oFet 226 701 = some (.iaload, 1) := by decide +kernel
theorem f_226_702 : oFet 226 702 = some (.invokevirtual 97, 3) := by decide +kernel
theorem f_226_705 : oFet 226 705 = some (.aload_n 2, 1) := by decide +kernel
theorem f_226_706 : oFet 226 706 = some (.aload_n 0, 1) := by decide +kernel
theorem f_226_707 : oFet 226 707 = some (.iload_n 3, 1) := by decide +kernel
theorem f_226_708 : oFet 226 708 = some (.iconst 1, 1) := by decide +kernel
theorem f_226_709 : oFet 226 709 = some (.iadd, 1) := by decide +kernel
theorem f_226_710 : oFet 226 710 = some (.iaload, 1) := by decide +kernel
theorem f_226_711 : oFet 226 711 = some (.invokevirtual 100, 3) := by decide +kernel
theorem f_226_714 : oFet 226 714 = some (.if_icmp .eq 546, 3) := by decide +kernel
theorem f_226_717 : oFet 226 717 = some (.iconst 0, 1) := by decide +kernel
theorem f_226_718 : oFet 226 718 = some (.ireturn, 1) := by decide +kernel
theorem f_226_719 : oFet 226 719 = some (.aload_n 1, 1) := by decide +kernel
theorem f_226_720 : oFet 226 720 = some (.aload_n 0, 1) := by decide +kernel
theorem f_226_721 : oFet 226 721 = some (.iload_n 3, 1) := by decide +kernel
theorem f_226_722 : oFet 226 722 = some (.iconst 1, 1) := by decide +kernel
theorem f_226_723 : oFet 226 723 = some (.iadd, 1) := by decide +kernel
theorem f_226_724 : oFet 226 724 = some (.iaload, 1) := by decide +kernel
theorem f_226_725 : oFet 226 725 = some (.aload_n 0, 1) := by decide +kernel
theorem f_226_726 : oFet 226 726 = some (.iload_n 3, 1) := by decide +kernel
theorem f_226_727 : oFet 226 727 = some (.iconst 2, 1) := by decide +kernel
theorem f_226_728 : oFet 226 728 = some (.iadd, 1) := by decide +kernel
theorem f_226_729 : oFet 226 729 = some (.iaload, 1) := by decide +kernel
theorem f_226_730 : oFet 226 730 = some (.invokevirtual 101, 3) := by decide +kernel
theorem f_226_733 : oFet 226 733 = some (.aload_n 2, 1) := by decide +kernel
theorem f_226_734 : oFet 226 734 = some (.aload_n 0, 1) := by decide +kernel
theorem f_226_735 : oFet 226 735 = some (.iload_n 3, 1) := by decide +kernel
theorem f_226_736 : oFet 226 736 = some (.iconst 1, 1) := by decide +kernel
theorem f_226_737 : oFet 226 737 = some (.iadd, 1) := by decide +kernel
theorem f_226_738 : oFet 226 738 = some (.iaload, 1) := by decide +kernel
theorem f_226_739 : oFet 226 739 = some (.aload_n 0, 1) := by decide +kernel
theorem f_226_740 : oFet 226 740 = some (.iload_n 3, 1) := by decide +kernel
theorem f_226_741 : oFet 226 741 = some (.iconst 2, 1) := by decide +kernel
theorem f_226_742 : oFet 226 742 = some (.iadd, 1) := by decide +kernel
theorem f_226_743 : oFet 226 743 = some (.iaload, 1) := by decide +kernel
theorem f_226_744 : oFet 226 744 = some (.invokevirtual 104, 3) := by decide +kernel
theorem f_226_747 : oFet 226 747 = some (.if_icmp .eq 513, 3) := by decide +kernel
theorem f_226_750 : oFet 226 750 = some (.iconst 0, 1) := by decide +kernel
theorem f_226_751 : oFet 226 751 = some (.ireturn, 1) := by decide +kernel
theorem f_226_752 : oFet 226 752 = some (.aload_n 1, 1) := by decide +kernel
theorem f_226_753 : oFet 226 753 = some (.aload_n 0, 1) := by decide +kernel
theorem f_226_754 : oFet 226 754 = some (.iload_n 3, 1) := by decide +kernel
theorem f_226_755 : oFet 226 755 = some (.iconst 1, 1) := by decide +kernel
theorem f_226_756 : oFet 226 756 = some (.iadd, 1) := by decide +kernel
theorem f_226_757 : oFet 226 757 = some (.iaload, 1) := by decide +kernel
theorem f_226_758 : oFet 226 758 = some (.aload_n 0, 1) := by decide +kernel
theorem f_226_759 : oFet 226 759 = some (.iload_n 3, 1) := by decide +kernel
theorem f_226_760 : oFet 226 760 = some (.iconst 2, 1) := by decide +kernel
theorem f_226_761 : oFet 226 761 = some (.iadd, 1) := by decide +kernel
theorem f_226_762 : oFet 226 762 = some (.iaload, 1) := by decide +kernel
theorem f_226_763 : oFet 226 763 = some (.aload_n 0, 1) := by decide +kernel
theorem f_226_764 : oFet 226 764 = some (.iload_n 3, 1) := by decide +kernel
theorem f_226_765 : oFet 226 765 = some (.iconst 3, 1) := by decide +kernel
theorem f_226_766 : oFet 226 766 = some (.iadd, 1) := by decide +kernel
theorem f_226_767 : oFet 226 767 = some (.iaload, 1) := by decide +kernel
theorem f_226_768 : oFet 226 768 = some (.invokevirtual 105, 3) := by decide +kernel
theorem f_226_771 : oFet 226 771 = some (.aload_n 2, 1) := by decide +kernel
theorem f_226_772 : oFet 226 772 = some (.aload_n 0, 1) := by decide +kernel
theorem f_226_773 : oFet 226 773 = some (.iload_n 3, 1) := by decide +kernel
theorem f_226_774 : oFet 226 774 = some (.iconst 1, 1) := by decide +kernel
theorem f_226_775 : oFet 226 775 = some (.iadd, 1) := by decide +kernel
theorem f_226_776 : oFet 226 776 = some (.iaload, 1) := by decide +kernel
theorem f_226_777 : oFet 226 777 = some (.aload_n 0, 1) := by decide +kernel
theorem f_226_778 : oFet 226 778 = some (.iload_n 3, 1) := by decide +kernel
theorem f_226_779 : oFet 226 779 = some (.iconst 2, 1) := by decide +kernel
theorem f_226_780 : oFet 226 780 = some (.iadd, 1) := by decide +kernel
theorem f_226_781 : oFet 226 781 = some (.iaload, 1) := by decide +kernel
theorem f_226_782 : oFet 226 782 = some (.aload_n 0, 1) := by decide +kernel
theorem f_226_783 : oFet 226 783 = some (.iload_n 3, 1) := by decide +kernel
theorem f_226_784 : oFet 226 784 = some (.iconst 3, 1) := by decide +kernel
theorem f_226_785 : oFet 226 785 = some (.iadd, 1) := by decide +kernel
theorem f_226_786 : oFet 226 786 = some (.iaload, 1) := by decide +kernel
theorem f_226_787 : oFet 226 787 = some (.invokevirtual 108, 3) := by decide +kernel
theorem f_226_790 : oFet 226 790 = some (.if_icmp .eq 470, 3) := by decide +kernel
theorem f_226_793 : oFet 226 793 = some (.iconst 0, 1) := by decide +kernel
theorem f_226_794 : oFet 226 794 = some (.ireturn, 1) := by decide +kernel
theorem f_226_795 : oFet 226 795 = some (.aload_n 1, 1) := by decide +kernel
theorem f_226_796 : oFet 226 796 = some (.aload_n 0, 1) := by decide +kernel
theorem f_226_797 : oFet 226 797 = some (.iload_n 3, 1) := by decide +kernel
theorem f_226_798 : oFet 226 798 = some (.iconst 1, 1) := by decide +kernel
theorem f_226_799 : oFet 226 799 = some (.iadd, 1) := by decide +kernel
theorem f_226_800 : oFet 226 800 = some (.iaload, 1) := by decide +kernel
theorem f_226_801 : oFet 226 801 = some (.aload_n 0, 1) := by decide +kernel
theorem f_226_802 : oFet 226 802 = some (.iload_n 3, 1) := by decide +kernel
theorem f_226_803 : oFet 226 803 = some (.iconst 2, 1) := by decide +kernel
theorem f_226_804 : oFet 226 804 = some (.iadd, 1) := by decide +kernel
theorem f_226_805 : oFet 226 805 = some (.iaload, 1) := by decide +kernel
theorem f_226_806 : oFet 226 806 = some (.aload_n 0, 1) := by decide +kernel
theorem f_226_807 : oFet 226 807 = some (.iload_n 3, 1) := by decide +kernel
theorem f_226_808 : oFet 226 808 = some (.iconst 3, 1) := by decide +kernel
theorem f_226_809 : oFet 226 809 = some (.iadd, 1) := by decide +kernel
theorem f_226_810 : oFet 226 810 = some (.iaload, 1) := by decide +kernel
theorem f_226_811 : oFet 226 811 = some (.invokevirtual 109, 3) := by decide +kernel
theorem f_226_814 : oFet 226 814 = some (.aload_n 2, 1) := by decide +kernel
theorem f_226_815 : oFet 226 815 = some (.aload_n 0, 1) := by decide +kernel
theorem f_226_816 : oFet 226 816 = some (.iload_n 3, 1) := by decide +kernel
theorem f_226_817 : oFet 226 817 = some (.iconst 1, 1) := by decide +kernel
theorem f_226_818 : oFet 226 818 = some (.iadd, 1) := by decide +kernel
theorem f_226_819 : oFet 226 819 = some (.iaload, 1) := by decide +kernel
theorem f_226_820 : oFet 226 820 = some (.aload_n 0, 1) := by decide +kernel
theorem f_226_821 : oFet 226 821 = some (.iload_n 3, 1) := by decide +kernel
theorem f_226_822 : oFet 226 822 = some (.iconst 2, 1) := by decide +kernel
theorem f_226_823 : oFet 226 823 = some (.iadd, 1) := by decide +kernel
theorem f_226_824 : oFet 226 824 = some (.iaload, 1) := by decide +kernel
theorem f_226_825 : oFet 226 825 = some (.aload_n 0, 1) := by decide +kernel
theorem f_226_826 : oFet 226 826 = some (.iload_n 3, 1) := by decide +kernel
theorem f_226_827 : oFet 226 827 = some (.iconst 3, 1) := by decide +kernel
theorem f_226_828 : oFet 226 828 = some (.iadd, 1) := by decide +kernel
theorem f_226_829 : oFet 226 829 = some (.iaload, 1) := by decide +kernel
theorem f_226_830 : oFet 226 830 = some (.invokevirtual 113, 3) := by decide +kernel
theorem f_226_833 : oFet 226 833 = some (.lcmp, 1) := by decide +kernel
theorem f_226_834 : oFet 226 834 = some (.ifCond .eq 426, 3) := by decide +kernel
theorem f_226_837 : oFet 226 837 = some (.iconst 0, 1) := by decide +kernel
theorem f_226_838 : oFet 226 838 = some (.ireturn, 1) := by decide +kernel
theorem f_226_839 : oFet 226 839 = some (.aload_n 1, 1) := by decide +kernel
theorem f_226_840 : oFet 226 840 = some (.aload_n 0, 1) := by decide +kernel
theorem f_226_841 : oFet 226 841 = some (.iload_n 3, 1) := by decide +kernel
theorem f_226_842 : oFet 226 842 = some (.iconst 1, 1) := by decide +kernel
theorem f_226_843 : oFet 226 843 = some (.iadd, 1) := by decide +kernel
theorem f_226_844 : oFet 226 844 = some (.iaload, 1) := by decide +kernel
theorem f_226_845 : oFet 226 845 = some (.invokevirtual 114, 3) := by decide +kernel
theorem f_226_848 : oFet 226 848 = some (.aload_n 2, 1) := by decide +kernel
theorem f_226_849 : oFet 226 849 = some (.aload_n 0, 1) := by decide +kernel
theorem f_226_850 : oFet 226 850 = some (.iload_n 3, 1) := by decide +kernel
theorem f_226_851 : oFet 226 851 = some (.iconst 1, 1) := by decide +kernel
theorem f_226_852 : oFet 226 852 = some (.iadd, 1) := by decide +kernel
theorem f_226_853 : oFet 226 853 = some (.iaload, 1) := by decide +kernel
theorem f_226_854 : oFet 226 854 = some (.invokevirtual 118, 3) := by decide +kernel
theorem f_226_857 : oFet 226 857 = some (.lcmp, 1) := by decide +kernel
theorem f_226_858 : oFet 226 858 = some (.ifCond .eq 402, 3) := by decide +kernel
theorem f_226_861 : oFet 226 861 = some (.iconst 0, 1) := by decide +kernel
theorem f_226_862 : oFet 226 862 = some (.ireturn, 1) := by decide +kernel
theorem f_226_863 : oFet 226 863 = some (.aload_n 1, 1) := by decide +kernel
theorem f_226_864 : oFet 226 864 = some (.aload_n 0, 1) := by decide +kernel
theorem f_226_865 : oFet 226 865 = some (.iload_n 3, 1) := by decide +kernel
theorem f_226_866 : oFet 226 866 = some (.iconst 1, 1) := by decide +kernel
theorem f_226_867 : oFet 226 867 = some (.iadd, 1) := by decide +kernel
theorem f_226_868 : oFet 226 868 = some (.iaload, 1) := by decide +kernel
theorem f_226_869 : oFet 226 869 = some (.aload_n 0, 1) := by decide +kernel
theorem f_226_870 : oFet 226 870 = some (.iload_n 3, 1) := by decide +kernel
theorem f_226_871 : oFet 226 871 = some (.iconst 2, 1) := by decide +kernel
theorem f_226_872 : oFet 226 872 = some (.iadd, 1) := by decide +kernel
theorem f_226_873 : oFet 226 873 = some (.iaload, 1) := by decide +kernel
theorem f_226_874 : oFet 226 874 = some (.invokevirtual 119, 3) := by decide +kernel
theorem f_226_877 : oFet 226 877 = some (.aload_n 2, 1) := by decide +kernel
theorem f_226_878 : oFet 226 878 = some (.aload_n 0, 1) := by decide +kernel
theorem f_226_879 : oFet 226 879 = some (.iload_n 3, 1) := by decide +kernel
theorem f_226_880 : oFet 226 880 = some (.iconst 1, 1) := by decide +kernel
theorem f_226_881 : oFet 226 881 = some (.iadd, 1) := by decide +kernel
theorem f_226_882 : oFet 226 882 = some (.iaload, 1) := by decide +kernel
theorem f_226_883 : oFet 226 883 = some (.aload_n 0, 1) := by decide +kernel
theorem f_226_884 : oFet 226 884 = some (.iload_n 3, 1) := by decide +kernel
theorem f_226_885 : oFet 226 885 = some (.iconst 2, 1) := by decide +kernel
theorem f_226_886 : oFet 226 886 = some (.iadd, 1) := by decide +kernel
theorem f_226_887 : oFet 226 887 = some (.iaload, 1) := by decide +kernel
theorem f_226_888 : oFet 226 888 = some (.invokevirtual 122, 3) := by decide +kernel
theorem f_226_891 : oFet 226 891 = some (.if_icmp .eq 369, 3) := by decide +kernel
theorem f_226_894 : oFet 226 894 = some (.iconst 0, 1) := by decide +kernel
theorem f_226_895 : oFet 226 895 = some (.ireturn, 1) := by decide +kernel
theorem f_226_896 : oFet 226 896 = some (.aload_n 1, 1) := by decide +kernel
theorem f_226_897 : oFet 226 897 = some (.aload_n 0, 1) := by decide +kernel
theorem f_226_898 : oFet 226 898 = some (.iload_n 3, 1) := by decide +kernel
theorem f_226_899 : oFet 226 899 = some (.iconst 1, 1) := by decide +kernel
theorem f_226_900 : oFet 226 900 = some (.iadd, 1) := by decide +kernel
theorem f_226_901 : oFet 226 901 = some (.iaload, 1) := by decide +kernel
theorem f_226_902 : oFet 226 902 = some (.invokevirtual 123, 3) := by decide +kernel
theorem f_226_905 : oFet 226 905 = some (.aload_n 2, 1) := by decide +kernel
theorem f_226_906 : oFet 226 906 = some (.aload_n 0, 1) := by decide +kernel
theorem f_226_907 : oFet 226 907 = some (.iload_n 3, 1) := by decide +kernel
theorem f_226_908 : oFet 226 908 = some (.iconst 1, 1) := by decide +kernel
theorem f_226_909 : oFet 226 909 = some (.iadd, 1) := by decide +kernel
theorem f_226_910 : oFet 226 910 = some (.iaload, 1) := by decide +kernel
theorem f_226_911 : oFet 226 911 = some (.invokevirtual 126, 3) := by decide +kernel
theorem f_226_914 : oFet 226 914 = some (.if_icmp .eq 346, 3) := by decide +kernel
theorem f_226_917 : oFet 226 917 = some (.iconst 0, 1) := by decide +kernel
theorem f_226_918 : oFet 226 918 = some (.ireturn, 1) := by decide +kernel
theorem f_226_919 : oFet 226 919 = some (.aload_n 1, 1) := by decide +kernel
theorem f_226_920 : oFet 226 920 = some (.aload_n 0, 1) := by decide +kernel
theorem f_226_921 : oFet 226 921 = some (.iload_n 3, 1) := by decide +kernel
theorem f_226_922 : oFet 226 922 = some (.iconst 1, 1) := by decide +kernel
theorem f_226_923 : oFet 226 923 = some (.iadd, 1) := by decide +kernel
theorem f_226_924 : oFet 226 924 = some (.iaload, 1) := by decide +kernel
theorem f_226_925 : oFet 226 925 = some (.aload_n 0, 1) := by decide +kernel
theorem f_226_926 : oFet 226 926 = some (.iload_n 3, 1) := by decide +kernel
theorem f_226_927 : oFet 226 927 = some (.iconst 2, 1) := by decide +kernel
theorem f_226_928 : oFet 226 928 = some (.iadd, 1) := by decide +kernel
theorem f_226_929 : oFet 226 929 = some (.iaload, 1) := by decide +kernel
theorem f_226_930 : oFet 226 930 = some (.invokevirtual 127, 3) := by decide +kernel
theorem f_226_933 : oFet 226 933 = some (.aload_n 2, 1) := by decide +kernel
theorem f_226_934 : oFet 226 934 = some (.aload_n 0, 1) := by decide +kernel
theorem f_226_935 : oFet 226 935 = some (.iload_n 3, 1) := by decide +kernel
theorem f_226_936 : oFet 226 936 = some (.iconst 1, 1) := by decide +kernel
theorem f_226_937 : oFet 226 937 = some (.iadd, 1) := by decide +kernel
theorem f_226_938 : oFet 226 938 = some (.iaload, 1) := by decide +kernel
theorem f_226_939 : oFet 226 939 = some (.aload_n 0, 1) := by decide +kernel
theorem f_226_940 : oFet 226 940 = some (.iload_n 3, 1) := by decide +kernel
theorem f_226_941 : oFet 226 941 = some (.iconst 2, 1) := by decide +kernel
theorem f_226_942 : oFet 226 942 = some (.iadd, 1) := by decide +kernel
theorem f_226_943 : oFet 226 943 = some (.iaload, 1) := by decide +kernel
theorem f_226_944 : oFet 226 944 = some (.invokevirtual 130, 3) := by decide +kernel
theorem f_226_947 : oFet 226 947 = some (.if_icmp .eq 313, 3) := by decide +kernel
theorem f_226_950 : oFet 226 950 = some (.iconst 0, 1) := by decide +kernel
theorem f_226_951 : oFet 226 951 = some (.ireturn, 1) := by decide +kernel
theorem f_226_952 : oFet 226 952 = some (.aload_n 1, 1) := by decide +kernel
theorem f_226_953 : oFet 226 953 = some (.invokevirtual 131, 3) := by decide +kernel
theorem f_226_956 : oFet 226 956 = some (.aload_n 2, 1) := by decide +kernel
theorem f_226_957 : oFet 226 957 = some (.invokevirtual 134, 3) := by decide +kernel
theorem f_226_960 : oFet 226 960 = some (.if_icmp .eq 300, 3) := by decide +kernel
theorem f_226_963 : oFet 226 963 = some (.iconst 0, 1) := by decide +kernel
theorem f_226_964 : oFet 226 964 = some (.ireturn, 1) := by decide +kernel
theorem f_226_965 : oFet 226 965 = some (.aload_n 1, 1) := by decide +kernel
theorem f_226_966 : oFet 226 966 = some (.aload_n 0, 1) := by decide +kernel
theorem f_226_967 : oFet 226 967 = some (.iload_n 3, 1) := by decide +kernel
theorem f_226_968 : oFet 226 968 = some (.iconst 1, 1) := by decide +kernel
theorem f_226_969 : oFet 226 969 = some (.iadd, 1) := by decide +kernel
theorem f_226_970 : oFet 226 970 = some (.iaload, 1) := by decide +kernel
theorem f_226_971 : oFet 226 971 = some (.aload_n 0, 1) := by decide +kernel
theorem f_226_972 : oFet 226 972 = some (.iload_n 3, 1) := by decide +kernel
theorem f_226_973 : oFet 226 973 = some (.iconst 2, 1) := by decide +kernel
theorem f_226_974 : oFet 226 974 = some (.iadd, 1) := by decide +kernel
theorem f_226_975 : oFet 226 975 = some (.iaload, 1) := by decide +kernel
theorem f_226_976 : oFet 226 976 = some (.invokevirtual 135, 3) := by decide +kernel
theorem f_226_979 : oFet 226 979 = some (.aload_n 2, 1) := by decide +kernel
theorem f_226_980 : oFet 226 980 = some (.aload_n 0, 1) := by decide +kernel
theorem f_226_981 : oFet 226 981 = some (.iload_n 3, 1) := by decide +kernel
theorem f_226_982 : oFet 226 982 = some (.iconst 1, 1) := by decide +kernel
theorem f_226_983 : oFet 226 983 = some (.iadd, 1) := by decide +kernel
theorem f_226_984 : oFet 226 984 = some (.iaload, 1) := by decide +kernel
theorem f_226_985 : oFet 226 985 = some (.aload_n 0, 1) := by decide +kernel
theorem f_226_986 : oFet 226 986 = some (.iload_n 3, 1) := by decide +kernel
theorem f_226_987 : oFet 226 987 = some (.iconst 2, 1) := by decide +kernel
theorem f_226_988 : oFet 226 988 = some (.iadd, 1) := by decide +kernel
theorem f_226_989 : oFet 226 989 = some (.iaload, 1) := by decide +kernel
theorem f_226_990 : oFet 226 990 = some (.invokevirtual 138, 3) := by decide +kernel
theorem f_226_993 : oFet 226 993 = some (.if_icmp .eq 267, 3) := by decide +kernel
theorem f_226_996 : oFet 226 996 = some (.iconst 0, 1) := by decide +kernel
theorem f_226_997 : oFet 226 997 = some (.ireturn, 1) := by decide +kernel
theorem f_226_998 : oFet 226 998 = some (.aload_n 1, 1) := by decide +kernel
theorem f_226_999 : oFet 226 999 = some (.invokevirtual 139, 3) := by decide +kernel
theorem f_226_1002 : oFet 226 1002 = some (.aload_n 2, 1) := by decide +kernel
theorem f_226_1003 : oFet 226 1003 = some (.invokevirtual 142, 3) := by decide +kernel
theorem f_226_1006 : oFet 226 1006 = some (.if_icmp .eq 254, 3) := by decide +kernel
theorem f_226_1009 : oFet 226 1009 = some (.iconst 0, 1) := by decide +kernel
theorem f_226_1010 : oFet 226 1010 = some (.ireturn, 1) := by decide +kernel
theorem f_226_1011 : oFet 226 1011 = some (.aload_n 1, 1) := by decide +kernel
theorem f_226_1012 : oFet 226 1012 = some (.invokevirtual 143, 3) := by decide +kernel
theorem f_226_1015 : oFet 226 1015 = some (.aload_n 2, 1) := by decide +kernel
theorem f_226_1016 : oFet 226 1016 = some (.invokevirtual 146, 3) := by decide +kernel
theorem f_226_1019 : oFet 226 1019 = some (.if_icmp .eq 241, 3) := by decide +kernel
theorem f_226_1022 : oFet 226 1022 = some (.iconst 0, 1) := by decide +kernel
theorem f_226_1023 : oFet 226 1023 = some (.ireturn, 1) := by decide +kernel
theorem f_226_1024 : oFet 226 1024 = some (.aload_n 1, 1) := by decide +kernel
theorem f_226_1025 : oFet 226 1025 = some (.aload_n 0, 1) := by decide +kernel
theorem f_226_1026 : oFet 226 1026 = some (.iload_n 3, 1) := by decide +kernel
theorem f_226_1027 : oFet 226 1027 = some (.iconst 1, 1) := by decide +kernel
theorem f_226_1028 : oFet 226 1028 = some (.iadd, 1) := by decide +kernel
theorem f_226_1029 : oFet 226 1029 = some (.iaload, 1) := by decide +kernel
theorem f_226_1030 : oFet 226 1030 = some (.invokevirtual 147, 3) := by decide +kernel
theorem f_226_1033 : oFet 226 1033 = some (.aload_n 2, 1) := by decide +kernel
theorem f_226_1034 : oFet 226 1034 = some (.aload_n 0, 1) := by decide +kernel
theorem f_226_1035 : oFet 226 1035 = some (.iload_n 3, 1) := by decide +kernel
theorem f_226_1036 : oFet 226 1036 = some (.iconst 1, 1) := by decide +kernel
theorem f_226_1037 : oFet 226 1037 = some (.iadd, 1) := by decide +kernel
theorem f_226_1038 : oFet 226 1038 = some (.iaload, 1) := by decide +kernel
theorem f_226_1039 : oFet 226 1039 = some (.invokevirtual 150, 3) := by decide +kernel
theorem f_226_1042 : oFet 226 1042 = some (.if_icmp .eq 218, 3) := by decide +kernel
theorem f_226_1045 : oFet 226 1045 = some (.iconst 0, 1) := by decide +kernel
theorem f_226_1046 : oFet 226 1046 = some (.ireturn, 1) := by decide +kernel
theorem f_226_1047 : oFet 226 1047 = some (.aload_n 1, 1) := by decide +kernel
theorem f_226_1048 : oFet 226 1048 = some (.aload_n 0, 1) := by decide +kernel
theorem f_226_1049 : oFet 226 1049 = some (.iload_n 3, 1) := by decide +kernel
theorem f_226_1050 : oFet 226 1050 = some (.iconst 1, 1) := by decide +kernel
theorem f_226_1051 : oFet 226 1051 = some (.iadd, 1) := by decide +kernel
theorem f_226_1052 : oFet 226 1052 = some (.iaload, 1) := by decide +kernel
theorem f_226_1053 : oFet 226 1053 = some (.aload_n 0, 1) := by decide +kernel
theorem f_226_1054 : oFet 226 1054 = some (.iload_n 3, 1) := by decide +kernel
theorem f_226_1055 : oFet 226 1055 = some (.iconst 2, 1) := by decide +kernel
theorem f_226_1056 : oFet 226 1056 = some (.iadd, 1) := by decide +kernel
theorem f_226_1057 : oFet 226 1057 = some (.iaload, 1) := by decide +kernel
theorem f_226_1058 : oFet 226 1058 = some (.aload_n 0, 1) := by decide +kernel
theorem f_226_1059 : oFet 226 1059 = some (.iload_n 3, 1) := by decide +kernel
theorem f_226_1060 : oFet 226 1060 = some (.iconst 3, 1) := by decide +kernel
theorem f_226_1061 : oFet 226 1061 = some (.iadd, 1) := by decide +kernel
theorem f_226_1062 : oFet 226 1062 = some (.iaload, 1) := by decide +kernel
theorem f_226_1063 : oFet 226 1063 = some (.invokevirtual 151, 3) := by decide +kernel
theorem f_226_1066 : oFet 226 1066 = some (.aload_n 2, 1) := by decide +kernel
theorem f_226_1067 : oFet 226 1067 = some (.aload_n 0, 1) := by decide +kernel
theorem f_226_1068 : oFet 226 1068 = some (.iload_n 3, 1) := by decide +kernel
theorem f_226_1069 : oFet 226 1069 = some (.iconst 1, 1) := by decide +kernel
theorem f_226_1070 : oFet 226 1070 = some (.iadd, 1) := by decide +kernel
theorem f_226_1071 : oFet 226 1071 = some (.iaload, 1) := by decide +kernel
theorem f_226_1072 : oFet 226 1072 = some (.aload_n 0, 1) := by decide +kernel
theorem f_226_1073 : oFet 226 1073 = some (.iload_n 3, 1) := by decide +kernel
theorem f_226_1074 : oFet 226 1074 = some (.iconst 2, 1) := by decide +kernel
theorem f_226_1075 : oFet 226 1075 = some (.iadd, 1) := by decide +kernel
theorem f_226_1076 : oFet 226 1076 = some (.iaload, 1) := by decide +kernel
theorem f_226_1077 : oFet 226 1077 = some (.aload_n 0, 1) := by decide +kernel
theorem f_226_1078 : oFet 226 1078 = some (.iload_n 3, 1) := by decide +kernel
theorem f_226_1079 : oFet 226 1079 = some (.iconst 3, 1) := by decide +kernel
theorem f_226_1080 : oFet 226 1080 = some (.iadd, 1) := by decide +kernel
theorem f_226_1081 : oFet 226 1081 = some (.iaload, 1) := by decide +kernel
theorem f_226_1082 : oFet 226 1082 = some (.invokevirtual 154, 3) := by decide +kernel
theorem f_226_1085 : oFet 226 1085 = some (.if_icmp .eq 175, 3) := by decide +kernel
theorem f_226_1088 : oFet 226 1088 = some (.iconst 0, 1) := by decide +kernel
theorem f_226_1089 : oFet 226 1089 = some (.ireturn, 1) := by decide +kernel
theorem f_226_1090 : oFet 226 1090 = some (.aload_n 1, 1) := by decide +kernel
theorem f_226_1091 : oFet 226 1091 = some (.aload_n 0, 1) := by decide +kernel
theorem f_226_1092 : oFet 226 1092 = some (.iload_n 3, 1) := by decide +kernel
theorem f_226_1093 : oFet 226 1093 = some (.iconst 1, 1) := by decide +kernel
theorem f_226_1094 : oFet 226 1094 = some (.iadd, 1) := by decide +kernel
theorem f_226_1095 : oFet 226 1095 = some (.iaload, 1) := by decide +kernel
theorem f_226_1096 : oFet 226 1096 = some (.aload_n 0, 1) := by decide +kernel
theorem f_226_1097 : oFet 226 1097 = some (.iload_n 3, 1) := by decide +kernel
theorem f_226_1098 : oFet 226 1098 = some (.iconst 2, 1) := by decide +kernel
theorem f_226_1099 : oFet 226 1099 = some (.iadd, 1) := by decide +kernel
theorem f_226_1100 : oFet 226 1100 = some (.iaload, 1) := by decide +kernel
theorem f_226_1101 : oFet 226 1101 = some (.aload_n 0, 1) := by decide +kernel
theorem f_226_1102 : oFet 226 1102 = some (.iload_n 3, 1) := by decide +kernel
theorem f_226_1103 : oFet 226 1103 = some (.iconst 3, 1) := by decide +kernel
theorem f_226_1104 : oFet 226 1104 = some (.iadd, 1) := by decide +kernel
theorem f_226_1105 : oFet 226 1105 = some (.iaload, 1) := by decide +kernel
theorem f_226_1106 : oFet 226 1106 = some (.i2l, 1) := by decide +kernel
theorem f_226_1107 : oFet 226 1107 = some (.bipush 32, 2) := by decide +kernel
theorem f_226_1109 : oFet 226 1109 = some (.lshl, 1) := by decide +kernel
theorem f_226_1110 : oFet 226 1110 = some (.aload_n 0, 1) := by decide +kernel
theorem f_226_1111 : oFet 226 1111 = some (.iload_n 3, 1) := by decide +kernel
theorem f_226_1112 : oFet 226 1112 = some (.iconst 4, 1) := by decide +kernel
theorem f_226_1113 : oFet 226 1113 = some (.iadd, 1) := by decide +kernel
theorem f_226_1114 : oFet 226 1114 = some (.iaload, 1) := by decide +kernel
theorem f_226_1115 : oFet 226 1115 = some (.i2l, 1) := by decide +kernel
theorem f_226_1116 : oFet 226 1116 = some (.ldc2_w 155, 3) := by decide +kernel
theorem f_226_1119 : oFet 226 1119 = some (.land, 1) := by decide +kernel
theorem f_226_1120 : oFet 226 1120 = some (.lor, 1) := by decide +kernel
theorem f_226_1121 : oFet 226 1121 = some (.invokevirtual 157, 3) := by decide +kernel
theorem f_226_1124 : oFet 226 1124 = some (.aload_n 2, 1) := by decide +kernel
theorem f_226_1125 : oFet 226 1125 = some (.aload_n 0, 1) := by decide +kernel
theorem f_226_1126 : oFet 226 1126 = some (.iload_n 3, 1) := by decide +kernel
theorem f_226_1127 : oFet 226 1127 = some (.iconst 1, 1) := by decide +kernel
theorem f_226_1128 : oFet 226 1128 = some (.iadd, 1) := by decide +kernel
theorem f_226_1129 : oFet 226 1129 = some (.iaload, 1) := by decide +kernel
theorem f_226_1130 : oFet 226 1130 = some (.aload_n 0, 1) := by decide +kernel
theorem f_226_1131 : oFet 226 1131 = some (.iload_n 3, 1) := by decide +kernel
theorem f_226_1132 : oFet 226 1132 = some (.iconst 2, 1) := by decide +kernel
theorem f_226_1133 : oFet 226 1133 = some (.iadd, 1) := by decide +kernel
theorem f_226_1134 : oFet 226 1134 = some (.iaload, 1) := by decide +kernel
theorem f_226_1135 : oFet 226 1135 = some (.aload_n 0, 1) := by decide +kernel
theorem f_226_1136 : oFet 226 1136 = some (.iload_n 3, 1) := by decide +kernel
theorem f_226_1137 : oFet 226 1137 = some (.iconst 3, 1) := by decide +kernel
theorem f_226_1138 : oFet 226 1138 = some (.iadd, 1) := by decide +kernel
theorem f_226_1139 : oFet 226 1139 = some (.iaload, 1) := by decide +kernel
theorem f_226_1140 : oFet 226 1140 = some (.i2l, 1) := by decide +kernel
theorem f_226_1141 : oFet 226 1141 = some (.bipush 32, 2) := by decide +kernel
theorem f_226_1143 : oFet 226 1143 = some (.lshl, 1) := by decide +kernel
theorem f_226_1144 : oFet 226 1144 = some (.aload_n 0, 1) := by decide +kernel
theorem f_226_1145 : oFet 226 1145 = some (.iload_n 3, 1) := by decide +kernel
theorem f_226_1146 : oFet 226 1146 = some (.iconst 4, 1) := by decide +kernel
theorem f_226_1147 : oFet 226 1147 = some (.iadd, 1) := by decide +kernel
theorem f_226_1148 : oFet 226 1148 = some (.iaload, 1) := by decide +kernel
theorem f_226_1149 : oFet 226 1149 = some (.i2l, 1) := by decide +kernel
theorem f_226_1150 : oFet 226 1150 = some (.ldc2_w 155, 3) := by decide +kernel
theorem f_226_1153 : oFet 226 1153 = some (.land, 1) := by decide +kernel
theorem f_226_1154 : oFet 226 1154 = some (.lor, 1) := by decide +kernel
theorem f_226_1155 : oFet 226 1155 = some (.invokevirtual 161, 3) := by decide +kernel
theorem f_226_1158 : oFet 226 1158 = some (.if_icmp .eq 102, 3) := by decide +kernel
theorem f_226_1161 : oFet 226 1161 = some (.iconst 0, 1) := by decide +kernel
theorem f_226_1162 : oFet 226 1162 = some (.ireturn, 1) := by decide +kernel
theorem f_226_1163 : oFet 226 1163 = some (.aload_n 1, 1) := by decide +kernel
theorem f_226_1164 : oFet 226 1164 = some (.aload_n 0, 1) := by decide +kernel
theorem f_226_1165 : oFet 226 1165 = some (.iload_n 3, 1) := by decide +kernel
theorem f_226_1166 : oFet 226 1166 = some (.iconst 1, 1) := by decide +kernel
theorem f_226_1167 : oFet 226 1167 = some (.iadd, 1) := by decide +kernel
theorem f_226_1168 : oFet 226 1168 = some (.iaload, 1) := by decide +kernel
theorem f_226_1169 : oFet 226 1169 = some (.aload_n 0, 1) := by decide +kernel
theorem f_226_1170 : oFet 226 1170 = some (.iload_n 3, 1) := by decide +kernel
theorem f_226_1171 : oFet 226 1171 = some (.iconst 2, 1) := by decide +kernel
theorem f_226_1172 : oFet 226 1172 = some (.iadd, 1) := by decide +kernel
theorem f_226_1173 : oFet 226 1173 = some (.iaload, 1) := by decide +kernel
theorem f_226_1174 : oFet 226 1174 = some (.invokevirtual 162, 3) := by decide +kernel
theorem f_226_1177 : oFet 226 1177 = some (.aload_n 2, 1) := by decide +kernel
theorem f_226_1178 : oFet 226 1178 = some (.aload_n 0, 1) := by decide +kernel
theorem f_226_1179 : oFet 226 1179 = some (.iload_n 3, 1) := by decide +kernel
theorem f_226_1180 : oFet 226 1180 = some (.iconst 1, 1) := by decide +kernel
theorem f_226_1181 : oFet 226 1181 = some (.iadd, 1) := by decide +kernel
theorem f_226_1182 : oFet 226 1182 = some (.iaload, 1) := by decide +kernel
theorem f_226_1183 : oFet 226 1183 = some (.aload_n 0, 1) := by decide +kernel
theorem f_226_1184 : oFet 226 1184 = some (.iload_n 3, 1) := by decide +kernel
theorem f_226_1185 : oFet 226 1185 = some (.iconst 2, 1) := by decide +kernel
theorem f_226_1186 : oFet 226 1186 = some (.iadd, 1) := by decide +kernel
theorem f_226_1187 : oFet 226 1187 = some (.iaload, 1) := by decide +kernel
theorem f_226_1188 : oFet 226 1188 = some (.invokevirtual 166, 3) := by decide +kernel
theorem f_226_1191 : oFet 226 1191 = some (.lcmp, 1) := by decide +kernel
theorem f_226_1192 : oFet 226 1192 = some (.ifCond .eq 68, 3) := by decide +kernel
theorem f_226_1195 : oFet 226 1195 = some (.iconst 0, 1) := by decide +kernel
theorem f_226_1196 : oFet 226 1196 = some (.ireturn, 1) := by decide +kernel
theorem f_226_1197 : oFet 226 1197 = some (.aload_n 1, 1) := by decide +kernel
theorem f_226_1198 : oFet 226 1198 = some (.aload_n 0, 1) := by decide +kernel
theorem f_226_1199 : oFet 226 1199 = some (.iload_n 3, 1) := by decide +kernel
theorem f_226_1200 : oFet 226 1200 = some (.iconst 1, 1) := by decide +kernel
theorem f_226_1201 : oFet 226 1201 = some (.iadd, 1) := by decide +kernel
theorem f_226_1202 : oFet 226 1202 = some (.iaload, 1) := by decide +kernel
theorem f_226_1203 : oFet 226 1203 = some (.aload_n 0, 1) := by decide +kernel
theorem f_226_1204 : oFet 226 1204 = some (.iload_n 3, 1) := by decide +kernel
theorem f_226_1205 : oFet 226 1205 = some (.iconst 2, 1) := by decide +kernel
theorem f_226_1206 : oFet 226 1206 = some (.iadd, 1) := by decide +kernel
theorem f_226_1207 : oFet 226 1207 = some (.iaload, 1) := by decide +kernel
theorem f_226_1208 : oFet 226 1208 = some (.aload_n 0, 1) := by decide +kernel
theorem f_226_1209 : oFet 226 1209 = some (.iload_n 3, 1) := by decide +kernel
theorem f_226_1210 : oFet 226 1210 = some (.iconst 3, 1) := by decide +kernel
theorem f_226_1211 : oFet 226 1211 = some (.iadd, 1) := by decide +kernel
theorem f_226_1212 : oFet 226 1212 = some (.iaload, 1) := by decide +kernel
theorem f_226_1213 : oFet 226 1213 = some (.aload_n 0, 1) := by decide +kernel
theorem f_226_1214 : oFet 226 1214 = some (.iload_n 3, 1) := by decide +kernel
theorem f_226_1215 : oFet 226 1215 = some (.iconst 4, 1) := by decide +kernel
theorem f_226_1216 : oFet 226 1216 = some (.iadd, 1) := by decide +kernel
theorem f_226_1217 : oFet 226 1217 = some (.iaload, 1) := by decide +kernel
theorem f_226_1218 : oFet 226 1218 = some (.aload_n 0, 1) := by decide +kernel
theorem f_226_1219 : oFet 226 1219 = some (.iload_n 3, 1) := by decide +kernel
theorem f_226_1220 : oFet 226 1220 = some (.iconst 5, 1) := by decide +kernel
theorem f_226_1221 : oFet 226 1221 = some (.iadd, 1) := by decide +kernel
theorem f_226_1222 : oFet 226 1222 = some (.iaload, 1) := by decide +kernel
theorem f_226_1223 : oFet 226 1223 = some (.invokevirtual 167, 3) := by decide +kernel
theorem f_226_1226 : oFet 226 1226 = some (.aload_n 2, 1) := by decide +kernel
theorem f_226_1227 : oFet 226 1227 = some (.aload_n 0, 1) := by decide +kernel
theorem f_226_1228 : oFet 226 1228 = some (.iload_n 3, 1) := by decide +kernel
theorem f_226_1229 : oFet 226 1229 = some (.iconst 1, 1) := by decide +kernel
theorem f_226_1230 : oFet 226 1230 = some (.iadd, 1) := by decide +kernel
theorem f_226_1231 : oFet 226 1231 = some (.iaload, 1) := by decide +kernel
theorem f_226_1232 : oFet 226 1232 = some (.aload_n 0, 1) := by decide +kernel
theorem f_226_1233 : oFet 226 1233 = some (.iload_n 3, 1) := by decide +kernel
theorem f_226_1234 : oFet 226 1234 = some (.iconst 2, 1) := by decide +kernel
theorem f_226_1235 : oFet 226 1235 = some (.iadd, 1) := by decide +kernel
theorem f_226_1236 : oFet 226 1236 = some (.iaload, 1) := by decide +kernel
theorem f_226_1237 : oFet 226 1237 = some (.aload_n 0, 1) := by decide +kernel
theorem f_226_1238 : oFet 226 1238 = some (.iload_n 3, 1) := by decide +kernel
theorem f_226_1239 : oFet 226 1239 = some (.iconst 3, 1) := by decide +kernel
theorem f_226_1240 : oFet 226 1240 = some (.iadd, 1) := by decide +kernel
theorem f_226_1241 : oFet 226 1241 = some (.iaload, 1) := by decide +kernel
theorem f_226_1242 : oFet 226 1242 = some (.aload_n 0, 1) := by decide +kernel
theorem f_226_1243 : oFet 226 1243 = some (.iload_n 3, 1) := by decide +kernel
theorem f_226_1244 : oFet 226 1244 = some (.iconst 4, 1) := by decide +kernel
theorem f_226_1245 : oFet 226 1245 = some (.iadd, 1) := by decide +kernel
theorem f_226_1246 : oFet 226 1246 = some (.iaload, 1) := by decide +kernel
theorem f_226_1247 : oFet 226 1247 = some (.aload_n 0, 1) := by decide +kernel
theorem f_226_1248 : oFet 226 1248 = some (.iload_n 3, 1) := by decide +kernel
theorem f_226_1249 : oFet 226 1249 = some (.iconst 5, 1) := by decide +kernel
theorem f_226_1250 : oFet 226 1250 = some (.iadd, 1) := by decide +kernel
theorem f_226_1251 : oFet 226 1251 = some (.iaload, 1) := by decide +kernel
theorem f_226_1252 : oFet 226 1252 = some (.invokevirtual 171, 3) := by decide +kernel
theorem f_226_1255 : oFet 226 1255 = some (.if_icmp .eq 5, 3) := by decide +kernel
theorem f_226_1258 : oFet 226 1258 = some (.iconst 0, 1) := by decide +kernel
theorem f_226_1259 : oFet 226 1259 = some (.ireturn, 1) := by decide +kernel
theorem f_226_1260 : oFet 226 1260 = some (.iinc 3 6, 3) := by decide +kernel
theorem f_226_1263 : oFet 226 1263 = some (.goto (-1245), 3) := by decide +kernel
theorem f_226_1266 : oFet 226 1266 = some (.iconst 1, 1) := by decide +kernel
theorem f_226_1267 : oFet 226 1267 = some (.ireturn, 1) := by decide +kernel

