def cLw : ByteArray := cL_law
theorem dLw_0 : decode cLw 0 = .ok (.new 7, 3) := dL_law_0
theorem dLw_3 : decode cLw 3 = .ok (.dup, 1) := dL_law_3
theorem dLw_4 : decode cLw 4 = .ok (.invokespecial 9, 3) := dL_law_4
theorem dLw_7 : decode cLw 7 = .ok (.astore_n 1, 1) := dL_law_7
theorem dLw_8 : decode cLw 8 = .ok (.new 10, 3) := dL_law_8
theorem dLw_11 : decode cLw 11 = .ok (.dup, 1) := dL_law_11
theorem dLw_12 : decode cLw 12 = .ok (.invokespecial 12, 3) := dL_law_12
theorem dLw_15 : decode cLw 15 = .ok (.astore_n 2, 1) := dL_law_15
theorem dLw_16 : decode cLw 16 = .ok (.iconst 0, 1) := dL_law_16
theorem dLw_17 : decode cLw 17 = .ok (.istore_n 3, 1) := dL_law_17
theorem dLw_18 : decode cLw 18 = .ok (.iload_n 3, 1) := dL_law_18
theorem dLw_19 : decode cLw 19 = .ok (.aload_n 0, 1) := dL_law_19
theorem dLw_20 : decode cLw 20 = .ok (.arraylength, 1) := dL_law_20
theorem dLw_21 : decode cLw 21 = .ok (.bipush 7, 2) := dL_law_21
theorem dLw_23 : decode cLw 23 = .ok (.isub, 1) := dL_law_23
theorem dLw_24 : decode cLw 24 = .ok (.if_icmp .gt 1516, 3) := dL_law_24
theorem dLw_27 : decode cLw 27 = .ok (.aload_n 0, 1) := dL_law_27
theorem dLw_28 : decode cLw 28 = .ok (.iload_n 3, 1) := dL_law_28
theorem dLw_29 : decode cLw 29 = .ok (.iaload, 1) := dL_law_29
theorem dLw_30 : decode cLw 30 = .ok (.bipush 63, 2) := dL_law_30
theorem dLw_32 : decode cLw 32 = .ok (.iand, 1) := dL_law_32
theorem dLw_33 : decode cLw 33 = .ok (.tableswitch 1501 0 38 #[171, 204, 227, 240, 263, 286, 361, 374, 397, 450, 513, 556, 589, 632, 655, 688, 721, 744, 787, 820, 853, 886, 919, 952, 975, 998, 1031, 1054, 1077, 1100, 1153, 1186, 1240, 1253, 1266, 1309, 1352, 1415, 1468], 171) := dL_law_33
theorem dLw_204 : decode cLw 204 = .ok (.aload_n 1, 1) := dL_law_204
theorem dLw_205 : decode cLw 205 = .ok (.aload_n 0, 1) := dL_law_205
theorem dLw_206 : decode cLw 206 = .ok (.iload_n 3, 1) := dL_law_206
theorem dLw_207 : decode cLw 207 = .ok (.iconst 1, 1) := dL_law_207
theorem dLw_208 : decode cLw 208 = .ok (.iadd, 1) := dL_law_208
theorem dLw_209 : decode cLw 209 = .ok (.iaload, 1) := dL_law_209
theorem dLw_210 : decode cLw 210 = .ok (.aload_n 0, 1) := dL_law_210
theorem dLw_211 : decode cLw 211 = .ok (.iload_n 3, 1) := dL_law_211
theorem dLw_212 : decode cLw 212 = .ok (.iconst 2, 1) := dL_law_212
theorem dLw_213 : decode cLw 213 = .ok (.iadd, 1) := dL_law_213
theorem dLw_214 : decode cLw 214 = .ok (.iaload, 1) := dL_law_214
theorem dLw_215 : decode cLw 215 = .ok (.invokevirtual 13, 3) := dL_law_215
theorem dLw_218 : decode cLw 218 = .ok (.aload_n 2, 1) := dL_law_218
theorem dLw_219 : decode cLw 219 = .ok (.aload_n 0, 1) := dL_law_219
theorem dLw_220 : decode cLw 220 = .ok (.iload_n 3, 1) := dL_law_220
theorem dLw_221 : decode cLw 221 = .ok (.iconst 1, 1) := dL_law_221
theorem dLw_222 : decode cLw 222 = .ok (.iadd, 1) := dL_law_222
theorem dLw_223 : decode cLw 223 = .ok (.iaload, 1) := dL_law_223
theorem dLw_224 : decode cLw 224 = .ok (.aload_n 0, 1) := dL_law_224
theorem dLw_225 : decode cLw 225 = .ok (.iload_n 3, 1) := dL_law_225
theorem dLw_226 : decode cLw 226 = .ok (.iconst 2, 1) := dL_law_226
theorem dLw_227 : decode cLw 227 = .ok (.iadd, 1) := dL_law_227
theorem dLw_228 : decode cLw 228 = .ok (.iaload, 1) := dL_law_228
theorem dLw_229 : decode cLw 229 = .ok (.invokevirtual 17, 3) := dL_law_229
theorem dLw_232 : decode cLw 232 = .ok (.if_icmp .eq 1302, 3) := dL_law_232
theorem dLw_235 : decode cLw 235 = .ok (.iconst 0, 1) := dL_law_235
theorem dLw_236 : decode cLw 236 = .ok (.ireturn, 1) := dL_law_236
theorem dLw_237 : decode cLw 237 = .ok (.aload_n 1, 1) := dL_law_237
theorem dLw_238 : decode cLw 238 = .ok (.aload_n 0, 1) := dL_law_238
theorem dLw_239 : decode cLw 239 = .ok (.iload_n 3, 1) := dL_law_239
theorem dLw_240 : decode cLw 240 = .ok (.iconst 1, 1) := dL_law_240
theorem dLw_241 : decode cLw 241 = .ok (.iadd, 1) := dL_law_241
theorem dLw_242 : decode cLw 242 = .ok (.iaload, 1) := dL_law_242
theorem dLw_243 : decode cLw 243 = .ok (.invokevirtual 18, 3) := dL_law_243
theorem dLw_246 : decode cLw 246 = .ok (.aload_n 2, 1) := dL_law_246
theorem dLw_247 : decode cLw 247 = .ok (.aload_n 0, 1) := dL_law_247
theorem dLw_248 : decode cLw 248 = .ok (.iload_n 3, 1) := dL_law_248
theorem dLw_249 : decode cLw 249 = .ok (.iconst 1, 1) := dL_law_249
theorem dLw_250 : decode cLw 250 = .ok (.iadd, 1) := dL_law_250
theorem dLw_251 : decode cLw 251 = .ok (.iaload, 1) := dL_law_251
theorem dLw_252 : decode cLw 252 = .ok (.invokevirtual 22, 3) := dL_law_252
theorem dLw_255 : decode cLw 255 = .ok (.if_icmp .eq 1279, 3) := dL_law_255
theorem dLw_258 : decode cLw 258 = .ok (.iconst 0, 1) := dL_law_258
theorem dLw_259 : decode cLw 259 = .ok (.ireturn, 1) := dL_law_259
theorem dLw_260 : decode cLw 260 = .ok (.aload_n 1, 1) := dL_law_260
theorem dLw_261 : decode cLw 261 = .ok (.invokevirtual 23, 3) := dL_law_261
theorem dLw_264 : decode cLw 264 = .ok (.aload_n 2, 1) := dL_law_264
theorem dLw_265 : decode cLw 265 = .ok (.invokevirtual 27, 3) := dL_law_265
theorem dLw_268 : decode cLw 268 = .ok (.if_icmp .eq 1266, 3) := dL_law_268
theorem dLw_271 : decode cLw 271 = .ok (.iconst 0, 1) := dL_law_271
theorem dLw_272 : decode cLw 272 = .ok (.ireturn, 1) := dL_law_272
theorem dLw_273 : decode cLw 273 = .ok (.aload_n 1, 1) := dL_law_273
theorem dLw_274 : decode cLw 274 = .ok (.aload_n 0, 1) := dL_law_274
theorem dLw_275 : decode cLw 275 = .ok (.iload_n 3, 1) := dL_law_275
theorem dLw_276 : decode cLw 276 = .ok (.iconst 1, 1) := dL_law_276
theorem dLw_277 : decode cLw 277 = .ok (.iadd, 1) := dL_law_277
theorem dLw_278 : decode cLw 278 = .ok (.iaload, 1) := dL_law_278
theorem dLw_279 : decode cLw 279 = .ok (.invokevirtual 28, 3) := dL_law_279
theorem dLw_282 : decode cLw 282 = .ok (.aload_n 2, 1) := dL_law_282
theorem dLw_283 : decode cLw 283 = .ok (.aload_n 0, 1) := dL_law_283
theorem dLw_284 : decode cLw 284 = .ok (.iload_n 3, 1) := dL_law_284
theorem dLw_285 : decode cLw 285 = .ok (.iconst 1, 1) := dL_law_285
theorem dLw_286 : decode cLw 286 = .ok (.iadd, 1) := dL_law_286
theorem dLw_287 : decode cLw 287 = .ok (.iaload, 1) := dL_law_287
theorem dLw_288 : decode cLw 288 = .ok (.invokevirtual 31, 3) := dL_law_288
theorem dLw_291 : decode cLw 291 = .ok (.if_icmp .eq 1243, 3) := dL_law_291
theorem dLw_294 : decode cLw 294 = .ok (.iconst 0, 1) := dL_law_294
theorem dLw_295 : decode cLw 295 = .ok (.ireturn, 1) := dL_law_295
theorem dLw_296 : decode cLw 296 = .ok (.aload_n 1, 1) := dL_law_296
theorem dLw_297 : decode cLw 297 = .ok (.aload_n 0, 1) := dL_law_297
theorem dLw_298 : decode cLw 298 = .ok (.iload_n 3, 1) := dL_law_298
theorem dLw_299 : decode cLw 299 = .ok (.iconst 1, 1) := dL_law_299
theorem dLw_300 : decode cLw 300 = .ok (.iadd, 1) := dL_law_300
theorem dLw_301 : decode cLw 301 = .ok (.iaload, 1) := dL_law_301
theorem dLw_302 : decode cLw 302 = .ok (.invokevirtual 32, 3) := dL_law_302
theorem dLw_305 : decode cLw 305 = .ok (.aload_n 2, 1) := dL_law_305
theorem dLw_306 : decode cLw 306 = .ok (.aload_n 0, 1) := dL_law_306
theorem dLw_307 : decode cLw 307 = .ok (.iload_n 3, 1) := dL_law_307
theorem dLw_308 : decode cLw 308 = .ok (.iconst 1, 1) := dL_law_308
theorem dLw_309 : decode cLw 309 = .ok (.iadd, 1) := dL_law_309
theorem dLw_310 : decode cLw 310 = .ok (.iaload, 1) := dL_law_310
theorem dLw_311 : decode cLw 311 = .ok (.invokevirtual 35, 3) := dL_law_311
theorem dLw_314 : decode cLw 314 = .ok (.if_icmp .eq 1220, 3) := dL_law_314
theorem dLw_317 : decode cLw 317 = .ok (.iconst 0, 1) := dL_law_317
theorem dLw_318 : decode cLw 318 = .ok (.ireturn, 1) := dL_law_318
theorem dLw_319 : decode cLw 319 = .ok (.aload_n 1, 1) := dL_law_319
theorem dLw_320 : decode cLw 320 = .ok (.aload_n 0, 1) := dL_law_320
theorem dLw_321 : decode cLw 321 = .ok (.iload_n 3, 1) := dL_law_321
theorem dLw_322 : decode cLw 322 = .ok (.iconst 1, 1) := dL_law_322
theorem dLw_323 : decode cLw 323 = .ok (.iadd, 1) := dL_law_323
theorem dLw_324 : decode cLw 324 = .ok (.iaload, 1) := dL_law_324
theorem dLw_325 : decode cLw 325 = .ok (.aload_n 0, 1) := dL_law_325
theorem dLw_326 : decode cLw 326 = .ok (.iload_n 3, 1) := dL_law_326
theorem dLw_327 : decode cLw 327 = .ok (.iconst 2, 1) := dL_law_327
theorem dLw_328 : decode cLw 328 = .ok (.iadd, 1) := dL_law_328
theorem dLw_329 : decode cLw 329 = .ok (.iaload, 1) := dL_law_329
theorem dLw_330 : decode cLw 330 = .ok (.aload_n 0, 1) := dL_law_330
theorem dLw_331 : decode cLw 331 = .ok (.iload_n 3, 1) := dL_law_331
theorem dLw_332 : decode cLw 332 = .ok (.iconst 3, 1) := dL_law_332
theorem dLw_333 : decode cLw 333 = .ok (.iadd, 1) := dL_law_333
theorem dLw_334 : decode cLw 334 = .ok (.iaload, 1) := dL_law_334
theorem dLw_335 : decode cLw 335 = .ok (.aload_n 0, 1) := dL_law_335
theorem dLw_336 : decode cLw 336 = .ok (.iload_n 3, 1) := dL_law_336
theorem dLw_337 : decode cLw 337 = .ok (.iconst 4, 1) := dL_law_337
theorem dLw_338 : decode cLw 338 = .ok (.iadd, 1) := dL_law_338
theorem dLw_339 : decode cLw 339 = .ok (.iaload, 1) := dL_law_339
theorem dLw_340 : decode cLw 340 = .ok (.aload_n 0, 1) := dL_law_340
theorem dLw_341 : decode cLw 341 = .ok (.iload_n 3, 1) := dL_law_341
theorem dLw_342 : decode cLw 342 = .ok (.iconst 5, 1) := dL_law_342
theorem dLw_343 : decode cLw 343 = .ok (.iadd, 1) := dL_law_343
theorem dLw_344 : decode cLw 344 = .ok (.iaload, 1) := dL_law_344
theorem dLw_345 : decode cLw 345 = .ok (.aload_n 0, 1) := dL_law_345
theorem dLw_346 : decode cLw 346 = .ok (.iload_n 3, 1) := dL_law_346
theorem dLw_347 : decode cLw 347 = .ok (.bipush 6, 2) := dL_law_347
theorem dLw_349 : decode cLw 349 = .ok (.iadd, 1) := dL_law_349
theorem dLw_350 : decode cLw 350 = .ok (.iaload, 1) := dL_law_350
theorem dLw_351 : decode cLw 351 = .ok (.invokevirtual 36, 3) := dL_law_351
theorem dLw_354 : decode cLw 354 = .ok (.aload_n 2, 1) := dL_law_354
theorem dLw_355 : decode cLw 355 = .ok (.aload_n 0, 1) := dL_law_355
theorem dLw_356 : decode cLw 356 = .ok (.iload_n 3, 1) := dL_law_356
theorem dLw_357 : decode cLw 357 = .ok (.iconst 1, 1) := dL_law_357
theorem dLw_358 : decode cLw 358 = .ok (.iadd, 1) := dL_law_358
theorem dLw_359 : decode cLw 359 = .ok (.iaload, 1) := dL_law_359
theorem dLw_360 : decode cLw 360 = .ok (.aload_n 0, 1) := dL_law_360
theorem dLw_361 : decode cLw 361 = .ok (.iload_n 3, 1) := dL_law_361
theorem dLw_362 : decode cLw 362 = .ok (.iconst 2, 1) := dL_law_362
theorem dLw_363 : decode cLw 363 = .ok (.iadd, 1) := dL_law_363
theorem dLw_364 : decode cLw 364 = .ok (.iaload, 1) := dL_law_364
theorem dLw_365 : decode cLw 365 = .ok (.aload_n 0, 1) := dL_law_365
theorem dLw_366 : decode cLw 366 = .ok (.iload_n 3, 1) := dL_law_366
theorem dLw_367 : decode cLw 367 = .ok (.iconst 3, 1) := dL_law_367
theorem dLw_368 : decode cLw 368 = .ok (.iadd, 1) := dL_law_368
theorem dLw_369 : decode cLw 369 = .ok (.iaload, 1) := dL_law_369
theorem dLw_370 : decode cLw 370 = .ok (.aload_n 0, 1) := dL_law_370
theorem dLw_371 : decode cLw 371 = .ok (.iload_n 3, 1) := dL_law_371
theorem dLw_372 : decode cLw 372 = .ok (.iconst 4, 1) := dL_law_372
theorem dLw_373 : decode cLw 373 = .ok (.iadd, 1) := dL_law_373
theorem dLw_374 : decode cLw 374 = .ok (.iaload, 1) := dL_law_374
theorem dLw_375 : decode cLw 375 = .ok (.aload_n 0, 1) := dL_law_375
theorem dLw_376 : decode cLw 376 = .ok (.iload_n 3, 1) := dL_law_376
theorem dLw_377 : decode cLw 377 = .ok (.iconst 5, 1) := dL_law_377
theorem dLw_378 : decode cLw 378 = .ok (.iadd, 1) := dL_law_378
theorem dLw_379 : decode cLw 379 = .ok (.iaload, 1) := dL_law_379
theorem dLw_380 : decode cLw 380 = .ok (.aload_n 0, 1) := dL_law_380
theorem dLw_381 : decode cLw 381 = .ok (.iload_n 3, 1) := dL_law_381
theorem dLw_382 : decode cLw 382 = .ok (.bipush 6, 2) := dL_law_382
theorem dLw_384 : decode cLw 384 = .ok (.iadd, 1) := dL_law_384
theorem dLw_385 : decode cLw 385 = .ok (.iaload, 1) := dL_law_385
theorem dLw_386 : decode cLw 386 = .ok (.invokevirtual 40, 3) := dL_law_386
theorem dLw_389 : decode cLw 389 = .ok (.if_icmp .eq 1145, 3) := dL_law_389
theorem dLw_392 : decode cLw 392 = .ok (.iconst 0, 1) := dL_law_392
theorem dLw_393 : decode cLw 393 = .ok (.ireturn, 1) := dL_law_393
theorem dLw_394 : decode cLw 394 = .ok (.aload_n 1, 1) := dL_law_394
theorem dLw_395 : decode cLw 395 = .ok (.invokevirtual 41, 3) := dL_law_395
theorem dLw_398 : decode cLw 398 = .ok (.aload_n 2, 1) := dL_law_398
theorem dLw_399 : decode cLw 399 = .ok (.invokevirtual 44, 3) := dL_law_399
theorem dLw_402 : decode cLw 402 = .ok (.if_icmp .eq 1132, 3) := dL_law_402
theorem dLw_405 : decode cLw 405 = .ok (.iconst 0, 1) := dL_law_405
theorem dLw_406 : decode cLw 406 = .ok (.ireturn, 1) := dL_law_406
theorem dLw_407 : decode cLw 407 = .ok (.aload_n 1, 1) := dL_law_407
theorem dLw_408 : decode cLw 408 = .ok (.aload_n 0, 1) := dL_law_408
theorem dLw_409 : decode cLw 409 = .ok (.iload_n 3, 1) := dL_law_409
theorem dLw_410 : decode cLw 410 = .ok (.iconst 1, 1) := dL_law_410
theorem dLw_411 : decode cLw 411 = .ok (.iadd, 1) := dL_law_411
theorem dLw_412 : decode cLw 412 = .ok (.iaload, 1) := dL_law_412
theorem dLw_413 : decode cLw 413 = .ok (.invokevirtual 45, 3) := dL_law_413
theorem dLw_416 : decode cLw 416 = .ok (.aload_n 2, 1) := dL_law_416
theorem dLw_417 : decode cLw 417 = .ok (.aload_n 0, 1) := dL_law_417
theorem dLw_418 : decode cLw 418 = .ok (.iload_n 3, 1) := dL_law_418
theorem dLw_419 : decode cLw 419 = .ok (.iconst 1, 1) := dL_law_419
theorem dLw_420 : decode cLw 420 = .ok (.iadd, 1) := dL_law_420
theorem dLw_421 : decode cLw 421 = .ok (.iaload, 1) := dL_law_421
theorem dLw_422 : decode cLw 422 = .ok (.invokevirtual 48, 3) := dL_law_422
theorem dLw_425 : decode cLw 425 = .ok (.if_icmp .eq 1109, 3) := dL_law_425
theorem dLw_428 : decode cLw 428 = .ok (.iconst 0, 1) := dL_law_428
theorem dLw_429 : decode cLw 429 = .ok (.ireturn, 1) := dL_law_429
theorem dLw_430 : decode cLw 430 = .ok (.aload_n 1, 1) := dL_law_430
theorem dLw_431 : decode cLw 431 = .ok (.aload_n 0, 1) := dL_law_431
theorem dLw_432 : decode cLw 432 = .ok (.iload_n 3, 1) := dL_law_432
theorem dLw_433 : decode cLw 433 = .ok (.iconst 1, 1) := dL_law_433
theorem dLw_434 : decode cLw 434 = .ok (.iadd, 1) := dL_law_434
theorem dLw_435 : decode cLw 435 = .ok (.iaload, 1) := dL_law_435
theorem dLw_436 : decode cLw 436 = .ok (.aload_n 0, 1) := dL_law_436
theorem dLw_437 : decode cLw 437 = .ok (.iload_n 3, 1) := dL_law_437
theorem dLw_438 : decode cLw 438 = .ok (.iconst 2, 1) := dL_law_438
theorem dLw_439 : decode cLw 439 = .ok (.iadd, 1) := dL_law_439
theorem dLw_440 : decode cLw 440 = .ok (.iaload, 1) := dL_law_440
theorem dLw_441 : decode cLw 441 = .ok (.aload_n 0, 1) := dL_law_441
theorem dLw_442 : decode cLw 442 = .ok (.iload_n 3, 1) := dL_law_442
theorem dLw_443 : decode cLw 443 = .ok (.iconst 3, 1) := dL_law_443
theorem dLw_444 : decode cLw 444 = .ok (.iadd, 1) := dL_law_444
theorem dLw_445 : decode cLw 445 = .ok (.iaload, 1) := dL_law_445
theorem dLw_446 : decode cLw 446 = .ok (.aload_n 0, 1) := dL_law_446
theorem dLw_447 : decode cLw 447 = .ok (.iload_n 3, 1) := dL_law_447
theorem dLw_448 : decode cLw 448 = .ok (.iconst 4, 1) := dL_law_448
theorem dLw_449 : decode cLw 449 = .ok (.iadd, 1) := dL_law_449
theorem dLw_450 : decode cLw 450 = .ok (.iaload, 1) := dL_law_450
theorem dLw_451 : decode cLw 451 = .ok (.invokevirtual 49, 3) := dL_law_451
theorem dLw_454 : decode cLw 454 = .ok (.aload_n 2, 1) := dL_law_454
theorem dLw_455 : decode cLw 455 = .ok (.aload_n 0, 1) := dL_law_455
theorem dLw_456 : decode cLw 456 = .ok (.iload_n 3, 1) := dL_law_456
theorem dLw_457 : decode cLw 457 = .ok (.iconst 1, 1) := dL_law_457
theorem dLw_458 : decode cLw 458 = .ok (.iadd, 1) := dL_law_458
theorem dLw_459 : decode cLw 459 = .ok (.iaload, 1) := dL_law_459
theorem dLw_460 : decode cLw 460 = .ok (.aload_n 0, 1) := dL_law_460
theorem dLw_461 : decode cLw 461 = .ok (.iload_n 3, 1) := dL_law_461
theorem dLw_462 : decode cLw 462 = .ok (.iconst 2, 1) := dL_law_462
theorem dLw_463 : decode cLw 463 = .ok (.iadd, 1) := dL_law_463
theorem dLw_464 : decode cLw 464 = .ok (.iaload, 1) := dL_law_464
theorem dLw_465 : decode cLw 465 = .ok (.aload_n 0, 1) := dL_law_465
theorem dLw_466 : decode cLw 466 = .ok (.iload_n 3, 1) := dL_law_466
theorem dLw_467 : decode cLw 467 = .ok (.iconst 3, 1) := dL_law_467
theorem dLw_468 : decode cLw 468 = .ok (.iadd, 1) := dL_law_468
theorem dLw_469 : decode cLw 469 = .ok (.iaload, 1) := dL_law_469
theorem dLw_470 : decode cLw 470 = .ok (.aload_n 0, 1) := dL_law_470
theorem dLw_471 : decode cLw 471 = .ok (.iload_n 3, 1) := dL_law_471
theorem dLw_472 : decode cLw 472 = .ok (.iconst 4, 1) := dL_law_472
theorem dLw_473 : decode cLw 473 = .ok (.iadd, 1) := dL_law_473
theorem dLw_474 : decode cLw 474 = .ok (.iaload, 1) := dL_law_474
theorem dLw_475 : decode cLw 475 = .ok (.invokevirtual 53, 3) := dL_law_475
theorem dLw_478 : decode cLw 478 = .ok (.if_icmp .eq 1056, 3) := dL_law_478
theorem dLw_481 : decode cLw 481 = .ok (.iconst 0, 1) := dL_law_481
theorem dLw_482 : decode cLw 482 = .ok (.ireturn, 1) := dL_law_482
theorem dLw_483 : decode cLw 483 = .ok (.aload_n 1, 1) := dL_law_483
theorem dLw_484 : decode cLw 484 = .ok (.aload_n 0, 1) := dL_law_484
theorem dLw_485 : decode cLw 485 = .ok (.iload_n 3, 1) := dL_law_485
theorem dLw_486 : decode cLw 486 = .ok (.iconst 1, 1) := dL_law_486
theorem dLw_487 : decode cLw 487 = .ok (.iadd, 1) := dL_law_487
theorem dLw_488 : decode cLw 488 = .ok (.iaload, 1) := dL_law_488
theorem dLw_489 : decode cLw 489 = .ok (.aload_n 0, 1) := dL_law_489
theorem dLw_490 : decode cLw 490 = .ok (.iload_n 3, 1) := dL_law_490
theorem dLw_491 : decode cLw 491 = .ok (.iconst 2, 1) := dL_law_491
theorem dLw_492 : decode cLw 492 = .ok (.iadd, 1) := dL_law_492
theorem dLw_493 : decode cLw 493 = .ok (.iaload, 1) := dL_law_493
theorem dLw_494 : decode cLw 494 = .ok (.aload_n 0, 1) := dL_law_494
theorem dLw_495 : decode cLw 495 = .ok (.iload_n 3, 1) := dL_law_495
theorem dLw_496 : decode cLw 496 = .ok (.iconst 3, 1) := dL_law_496
theorem dLw_497 : decode cLw 497 = .ok (.iadd, 1) := dL_law_497
theorem dLw_498 : decode cLw 498 = .ok (.iaload, 1) := dL_law_498
theorem dLw_499 : decode cLw 499 = .ok (.aload_n 0, 1) := dL_law_499
theorem dLw_500 : decode cLw 500 = .ok (.iload_n 3, 1) := dL_law_500
theorem dLw_501 : decode cLw 501 = .ok (.iconst 4, 1) := dL_law_501
theorem dLw_502 : decode cLw 502 = .ok (.iadd, 1) := dL_law_502
theorem dLw_503 : decode cLw 503 = .ok (.iaload, 1) := dL_law_503
theorem dLw_504 : decode cLw 504 = .ok (.aload_n 0, 1) := dL_law_504
theorem dLw_505 : decode cLw 505 = .ok (.iload_n 3, 1) := dL_law_505
theorem dLw_506 : decode cLw 506 = .ok (.iconst 5, 1) := dL_law_506
theorem dLw_507 : decode cLw 507 = .ok (.iadd, 1) := dL_law_507
theorem dLw_508 : decode cLw 508 = .ok (.iaload, 1) := dL_law_508
theorem dLw_509 : decode cLw 509 = .ok (.invokevirtual 54, 3) := dL_law_509
theorem dLw_512 : decode cLw 512 = .ok (.aload_n 2, 1) := dL_law_512
theorem dLw_513 : decode cLw 513 = .ok (.aload_n 0, 1) := dL_law_513
theorem dLw_514 : decode cLw 514 = .ok (.iload_n 3, 1) := dL_law_514
theorem dLw_515 : decode cLw 515 = .ok (.iconst 1, 1) := dL_law_515
theorem dLw_516 : decode cLw 516 = .ok (.iadd, 1) := dL_law_516
theorem dLw_517 : decode cLw 517 = .ok (.iaload, 1) := dL_law_517
theorem dLw_518 : decode cLw 518 = .ok (.aload_n 0, 1) := dL_law_518
theorem dLw_519 : decode cLw 519 = .ok (.iload_n 3, 1) := dL_law_519
theorem dLw_520 : decode cLw 520 = .ok (.iconst 2, 1) := dL_law_520
theorem dLw_521 : decode cLw 521 = .ok (.iadd, 1) := dL_law_521
theorem dLw_522 : decode cLw 522 = .ok (.iaload, 1) := dL_law_522
theorem dLw_523 : decode cLw 523 = .ok (.aload_n 0, 1) := dL_law_523
theorem dLw_524 : decode cLw 524 = .ok (.iload_n 3, 1) := dL_law_524
theorem dLw_525 : decode cLw 525 = .ok (.iconst 3, 1) := dL_law_525
theorem dLw_526 : decode cLw 526 = .ok (.iadd, 1) := dL_law_526
theorem dLw_527 : decode cLw 527 = .ok (.iaload, 1) := dL_law_527
theorem dLw_528 : decode cLw 528 = .ok (.aload_n 0, 1) := dL_law_528
theorem dLw_529 : decode cLw 529 = .ok (.iload_n 3, 1) := dL_law_529
theorem dLw_530 : decode cLw 530 = .ok (.iconst 4, 1) := dL_law_530
theorem dLw_531 : decode cLw 531 = .ok (.iadd, 1) := dL_law_531
theorem dLw_532 : decode cLw 532 = .ok (.iaload, 1) := dL_law_532
theorem dLw_533 : decode cLw 533 = .ok (.aload_n 0, 1) := dL_law_533
theorem dLw_534 : decode cLw 534 = .ok (.iload_n 3, 1) := dL_law_534
theorem dLw_535 : decode cLw 535 = .ok (.iconst 5, 1) := dL_law_535
theorem dLw_536 : decode cLw 536 = .ok (.iadd, 1) := dL_law_536
theorem dLw_537 : decode cLw 537 = .ok (.iaload, 1) := dL_law_537
theorem dLw_538 : decode cLw 538 = .ok (.invokevirtual 58, 3) := dL_law_538
theorem dLw_541 : decode cLw 541 = .ok (.if_icmp .eq 993, 3) := dL_law_541
theorem dLw_544 : decode cLw 544 = .ok (.iconst 0, 1) := dL_law_544
theorem dLw_545 : decode cLw 545 = .ok (.ireturn, 1) := dL_law_545
theorem dLw_546 : decode cLw 546 = .ok (.aload_n 1, 1) := dL_law_546
theorem dLw_547 : decode cLw 547 = .ok (.aload_n 0, 1) := dL_law_547
theorem dLw_548 : decode cLw 548 = .ok (.iload_n 3, 1) := dL_law_548
theorem dLw_549 : decode cLw 549 = .ok (.iconst 1, 1) := dL_law_549
theorem dLw_550 : decode cLw 550 = .ok (.iadd, 1) := dL_law_550
theorem dLw_551 : decode cLw 551 = .ok (.iaload, 1) := dL_law_551
theorem dLw_552 : decode cLw 552 = .ok (.aload_n 0, 1) := dL_law_552
theorem dLw_553 : decode cLw 553 = .ok (.iload_n 3, 1) := dL_law_553
theorem dLw_554 : decode cLw 554 = .ok (.iconst 2, 1) := dL_law_554
theorem dLw_555 : decode cLw 555 = .ok (.iadd, 1) := dL_law_555
theorem dLw_556 : decode cLw 556 = .ok (.iaload, 1) := dL_law_556
theorem dLw_557 : decode cLw 557 = .ok (.aload_n 0, 1) := dL_law_557
theorem dLw_558 : decode cLw 558 = .ok (.iload_n 3, 1) := dL_law_558
theorem dLw_559 : decode cLw 559 = .ok (.iconst 3, 1) := dL_law_559
theorem dLw_560 : decode cLw 560 = .ok (.iadd, 1) := dL_law_560
theorem dLw_561 : decode cLw 561 = .ok (.iaload, 1) := dL_law_561
theorem dLw_562 : decode cLw 562 = .ok (.invokevirtual 59, 3) := dL_law_562
theorem dLw_565 : decode cLw 565 = .ok (.aload_n 2, 1) := dL_law_565
theorem dLw_566 : decode cLw 566 = .ok (.aload_n 0, 1) := dL_law_566
theorem dLw_567 : decode cLw 567 = .ok (.iload_n 3, 1) := dL_law_567
theorem dLw_568 : decode cLw 568 = .ok (.iconst 1, 1) := dL_law_568
theorem dLw_569 : decode cLw 569 = .ok (.iadd, 1) := dL_law_569
theorem dLw_570 : decode cLw 570 = .ok (.iaload, 1) := dL_law_570
theorem dLw_571 : decode cLw 571 = .ok (.aload_n 0, 1) := dL_law_571
theorem dLw_572 : decode cLw 572 = .ok (.iload_n 3, 1) := dL_law_572
theorem dLw_573 : decode cLw 573 = .ok (.iconst 2, 1) := dL_law_573
theorem dLw_574 : decode cLw 574 = .ok (.iadd, 1) := dL_law_574
theorem dLw_575 : decode cLw 575 = .ok (.iaload, 1) := dL_law_575
theorem dLw_576 : decode cLw 576 = .ok (.aload_n 0, 1) := dL_law_576
theorem dLw_577 : decode cLw 577 = .ok (.iload_n 3, 1) := dL_law_577
theorem dLw_578 : decode cLw 578 = .ok (.iconst 3, 1) := dL_law_578
theorem dLw_579 : decode cLw 579 = .ok (.iadd, 1) := dL_law_579
theorem dLw_580 : decode cLw 580 = .ok (.iaload, 1) := dL_law_580
theorem dLw_581 : decode cLw 581 = .ok (.invokevirtual 63, 3) := dL_law_581
theorem dLw_584 : decode cLw 584 = .ok (.if_icmp .eq 950, 3) := dL_law_584
theorem dLw_587 : decode cLw 587 = .ok (.iconst 0, 1) := dL_law_587
theorem dLw_588 : decode cLw 588 = .ok (.ireturn, 1) := dL_law_588
theorem dLw_589 : decode cLw 589 = .ok (.aload_n 1, 1) := dL_law_589
theorem dLw_590 : decode cLw 590 = .ok (.aload_n 0, 1) := dL_law_590
theorem dLw_591 : decode cLw 591 = .ok (.iload_n 3, 1) := dL_law_591
theorem dLw_592 : decode cLw 592 = .ok (.iconst 1, 1) := dL_law_592
theorem dLw_593 : decode cLw 593 = .ok (.iadd, 1) := dL_law_593
theorem dLw_594 : decode cLw 594 = .ok (.iaload, 1) := dL_law_594
theorem dLw_595 : decode cLw 595 = .ok (.aload_n 0, 1) := dL_law_595
theorem dLw_596 : decode cLw 596 = .ok (.iload_n 3, 1) := dL_law_596
theorem dLw_597 : decode cLw 597 = .ok (.iconst 2, 1) := dL_law_597
theorem dLw_598 : decode cLw 598 = .ok (.iadd, 1) := dL_law_598
theorem dLw_599 : decode cLw 599 = .ok (.iaload, 1) := dL_law_599
theorem dLw_600 : decode cLw 600 = .ok (.invokevirtual 64, 3) := dL_law_600
theorem dLw_603 : decode cLw 603 = .ok (.aload_n 2, 1) := dL_law_603
theorem dLw_604 : decode cLw 604 = .ok (.aload_n 0, 1) := dL_law_604
theorem dLw_605 : decode cLw 605 = .ok (.iload_n 3, 1) := dL_law_605
theorem dLw_606 : decode cLw 606 = .ok (.iconst 1, 1) := dL_law_606
theorem dLw_607 : decode cLw 607 = .ok (.iadd, 1) := dL_law_607
theorem dLw_608 : decode cLw 608 = .ok (.iaload, 1) := dL_law_608
theorem dLw_609 : decode cLw 609 = .ok (.aload_n 0, 1) := dL_law_609
theorem dLw_610 : decode cLw 610 = .ok (.iload_n 3, 1) := dL_law_610
theorem dLw_611 : decode cLw 611 = .ok (.iconst 2, 1) := dL_law_611
theorem dLw_612 : decode cLw 612 = .ok (.iadd, 1) := dL_law_612
theorem dLw_613 : decode cLw 613 = .ok (.iaload, 1) := dL_law_613
theorem dLw_614 : decode cLw 614 = .ok (.invokevirtual 67, 3) := dL_law_614
theorem dLw_617 : decode cLw 617 = .ok (.if_icmp .eq 917, 3) := dL_law_617
theorem dLw_620 : decode cLw 620 = .ok (.iconst 0, 1) := dL_law_620
theorem dLw_621 : decode cLw 621 = .ok (.ireturn, 1) := dL_law_621
theorem dLw_622 : decode cLw 622 = .ok (.aload_n 1, 1) := dL_law_622
theorem dLw_623 : decode cLw 623 = .ok (.aload_n 0, 1) := dL_law_623
theorem dLw_624 : decode cLw 624 = .ok (.iload_n 3, 1) := dL_law_624
theorem dLw_625 : decode cLw 625 = .ok (.iconst 1, 1) := dL_law_625
theorem dLw_626 : decode cLw 626 = .ok (.iadd, 1) := dL_law_626
theorem dLw_627 : decode cLw 627 = .ok (.iaload, 1) := dL_law_627
theorem dLw_628 : decode cLw 628 = .ok (.aload_n 0, 1) := dL_law_628
theorem dLw_629 : decode cLw 629 = .ok (.iload_n 3, 1) := dL_law_629
theorem dLw_630 : decode cLw 630 = .ok (.iconst 2, 1) := dL_law_630
theorem dLw_631 : decode cLw 631 = .ok (.iadd, 1) := dL_law_631
theorem dLw_632 : decode cLw 632 = .ok (.iaload, 1) := dL_law_632
theorem dLw_633 : decode cLw 633 = .ok (.aload_n 0, 1) := dL_law_633
theorem dLw_634 : decode cLw 634 = .ok (.iload_n 3, 1) := dL_law_634
theorem dLw_635 : decode cLw 635 = .ok (.iconst 3, 1) := dL_law_635
theorem dLw_636 : decode cLw 636 = .ok (.iadd, 1) := dL_law_636
theorem dLw_637 : decode cLw 637 = .ok (.iaload, 1) := dL_law_637
theorem dLw_638 : decode cLw 638 = .ok (.invokevirtual 68, 3) := dL_law_638
theorem dLw_641 : decode cLw 641 = .ok (.aload_n 2, 1) := dL_law_641
theorem dLw_642 : decode cLw 642 = .ok (.aload_n 0, 1) := dL_law_642
theorem dLw_643 : decode cLw 643 = .ok (.iload_n 3, 1) := dL_law_643
theorem dLw_644 : decode cLw 644 = .ok (.iconst 1, 1) := dL_law_644
theorem dLw_645 : decode cLw 645 = .ok (.iadd, 1) := dL_law_645
theorem dLw_646 : decode cLw 646 = .ok (.iaload, 1) := dL_law_646
theorem dLw_647 : decode cLw 647 = .ok (.aload_n 0, 1) := dL_law_647
theorem dLw_648 : decode cLw 648 = .ok (.iload_n 3, 1) := dL_law_648
theorem dLw_649 : decode cLw 649 = .ok (.iconst 2, 1) := dL_law_649
theorem dLw_650 : decode cLw 650 = .ok (.iadd, 1) := dL_law_650
theorem dLw_651 : decode cLw 651 = .ok (.iaload, 1) := dL_law_651
theorem dLw_652 : decode cLw 652 = .ok (.aload_n 0, 1) := dL_law_652
theorem dLw_653 : decode cLw 653 = .ok (.iload_n 3, 1) := dL_law_653
theorem dLw_654 : decode cLw 654 = .ok (.iconst 3, 1) := dL_law_654
theorem dLw_655 : decode cLw 655 = .ok (.iadd, 1) := dL_law_655
theorem dLw_656 : decode cLw 656 = .ok (.iaload, 1) := dL_law_656
theorem dLw_657 : decode cLw 657 = .ok (.invokevirtual 71, 3) := dL_law_657
theorem dLw_660 : decode cLw 660 = .ok (.if_icmp .eq 874, 3) := dL_law_660
theorem dLw_663 : decode cLw 663 = .ok (.iconst 0, 1) := dL_law_663
theorem dLw_664 : decode cLw 664 = .ok (.ireturn, 1) := dL_law_664
theorem dLw_665 : decode cLw 665 = .ok (.aload_n 1, 1) := dL_law_665
theorem dLw_666 : decode cLw 666 = .ok (.aload_n 0, 1) := dL_law_666
theorem dLw_667 : decode cLw 667 = .ok (.iload_n 3, 1) := dL_law_667
theorem dLw_668 : decode cLw 668 = .ok (.iconst 1, 1) := dL_law_668
theorem dLw_669 : decode cLw 669 = .ok (.iadd, 1) := dL_law_669
theorem dLw_670 : decode cLw 670 = .ok (.iaload, 1) := dL_law_670
theorem dLw_671 : decode cLw 671 = .ok (.invokevirtual 72, 3) := dL_law_671
theorem dLw_674 : decode cLw 674 = .ok (.aload_n 2, 1) := dL_law_674
theorem dLw_675 : decode cLw 675 = .ok (.aload_n 0, 1) := dL_law_675
theorem dLw_676 : decode cLw 676 = .ok (.iload_n 3, 1) := dL_law_676
theorem dLw_677 : decode cLw 677 = .ok (.iconst 1, 1) := dL_law_677
theorem dLw_678 : decode cLw 678 = .ok (.iadd, 1) := dL_law_678
theorem dLw_679 : decode cLw 679 = .ok (.iaload, 1) := dL_law_679
theorem dLw_680 : decode cLw 680 = .ok (.invokevirtual 75, 3) := dL_law_680
theorem dLw_683 : decode cLw 683 = .ok (.if_icmp .eq 851, 3) := dL_law_683
theorem dLw_686 : decode cLw 686 = .ok (.iconst 0, 1) := dL_law_686
theorem dLw_687 : decode cLw 687 = .ok (.ireturn, 1) := dL_law_687
theorem dLw_688 : decode cLw 688 = .ok (.aload_n 1, 1) := dL_law_688
theorem dLw_689 : decode cLw 689 = .ok (.aload_n 0, 1) := dL_law_689
theorem dLw_690 : decode cLw 690 = .ok (.iload_n 3, 1) := dL_law_690
theorem dLw_691 : decode cLw 691 = .ok (.iconst 1, 1) := dL_law_691
theorem dLw_692 : decode cLw 692 = .ok (.iadd, 1) := dL_law_692
theorem dLw_693 : decode cLw 693 = .ok (.iaload, 1) := dL_law_693
theorem dLw_694 : decode cLw 694 = .ok (.aload_n 0, 1) := dL_law_694
theorem dLw_695 : decode cLw 695 = .ok (.iload_n 3, 1) := dL_law_695
theorem dLw_696 : decode cLw 696 = .ok (.iconst 2, 1) := dL_law_696
theorem dLw_697 : decode cLw 697 = .ok (.iadd, 1) := dL_law_697
theorem dLw_698 : decode cLw 698 = .ok (.iaload, 1) := dL_law_698
theorem dLw_699 : decode cLw 699 = .ok (.invokevirtual 76, 3) := dL_law_699
theorem dLw_702 : decode cLw 702 = .ok (.aload_n 2, 1) := dL_law_702
theorem dLw_703 : decode cLw 703 = .ok (.aload_n 0, 1) := dL_law_703
theorem dLw_704 : decode cLw 704 = .ok (.iload_n 3, 1) := dL_law_704
theorem dLw_705 : decode cLw 705 = .ok (.iconst 1, 1) := dL_law_705
theorem dLw_706 : decode cLw 706 = .ok (.iadd, 1) := dL_law_706
theorem dLw_707 : decode cLw 707 = .ok (.iaload, 1) := dL_law_707
theorem dLw_708 : decode cLw 708 = .ok (.aload_n 0, 1) := dL_law_708
theorem dLw_709 : decode cLw 709 = .ok (.iload_n 3, 1) := dL_law_709
theorem dLw_710 : decode cLw 710 = .ok (.iconst 2, 1) := dL_law_710
theorem dLw_711 : decode cLw 711 = .ok (.iadd, 1) := dL_law_711
theorem dLw_712 : decode cLw 712 = .ok (.iaload, 1) := dL_law_712
theorem dLw_713 : decode cLw 713 = .ok (.invokevirtual 79, 3) := dL_law_713
theorem dLw_716 : decode cLw 716 = .ok (.if_icmp .eq 818, 3) := dL_law_716
theorem dLw_719 : decode cLw 719 = .ok (.iconst 0, 1) := dL_law_719
theorem dLw_720 : decode cLw 720 = .ok (.ireturn, 1) := dL_law_720
theorem dLw_721 : decode cLw 721 = .ok (.aload_n 1, 1) := dL_law_721
theorem dLw_722 : decode cLw 722 = .ok (.aload_n 0, 1) := dL_law_722
theorem dLw_723 : decode cLw 723 = .ok (.iload_n 3, 1) := dL_law_723
theorem dLw_724 : decode cLw 724 = .ok (.iconst 1, 1) := dL_law_724
theorem dLw_725 : decode cLw 725 = .ok (.iadd, 1) := dL_law_725
theorem dLw_726 : decode cLw 726 = .ok (.iaload, 1) := dL_law_726
theorem dLw_727 : decode cLw 727 = .ok (.aload_n 0, 1) := dL_law_727
theorem dLw_728 : decode cLw 728 = .ok (.iload_n 3, 1) := dL_law_728
theorem dLw_729 : decode cLw 729 = .ok (.iconst 2, 1) := dL_law_729
theorem dLw_730 : decode cLw 730 = .ok (.iadd, 1) := dL_law_730
theorem dLw_731 : decode cLw 731 = .ok (.iaload, 1) := dL_law_731
theorem dLw_732 : decode cLw 732 = .ok (.invokevirtual 80, 3) := dL_law_732
theorem dLw_735 : decode cLw 735 = .ok (.aload_n 2, 1) := dL_law_735
theorem dLw_736 : decode cLw 736 = .ok (.aload_n 0, 1) := dL_law_736
theorem dLw_737 : decode cLw 737 = .ok (.iload_n 3, 1) := dL_law_737
theorem dLw_738 : decode cLw 738 = .ok (.iconst 1, 1) := dL_law_738
theorem dLw_739 : decode cLw 739 = .ok (.iadd, 1) := dL_law_739
theorem dLw_740 : decode cLw 740 = .ok (.iaload, 1) := dL_law_740
theorem dLw_741 : decode cLw 741 = .ok (.aload_n 0, 1) := dL_law_741
theorem dLw_742 : decode cLw 742 = .ok (.iload_n 3, 1) := dL_law_742
theorem dLw_743 : decode cLw 743 = .ok (.iconst 2, 1) := dL_law_743
theorem dLw_744 : decode cLw 744 = .ok (.iadd, 1) := dL_law_744
theorem dLw_745 : decode cLw 745 = .ok (.iaload, 1) := dL_law_745
theorem dLw_746 : decode cLw 746 = .ok (.invokevirtual 83, 3) := dL_law_746
theorem dLw_749 : decode cLw 749 = .ok (.if_icmp .eq 785, 3) := dL_law_749
theorem dLw_752 : decode cLw 752 = .ok (.iconst 0, 1) := dL_law_752
theorem dLw_753 : decode cLw 753 = .ok (.ireturn, 1) := dL_law_753
theorem dLw_754 : decode cLw 754 = .ok (.aload_n 1, 1) := dL_law_754
theorem dLw_755 : decode cLw 755 = .ok (.aload_n 0, 1) := dL_law_755
theorem dLw_756 : decode cLw 756 = .ok (.iload_n 3, 1) := dL_law_756
theorem dLw_757 : decode cLw 757 = .ok (.iconst 1, 1) := dL_law_757
theorem dLw_758 : decode cLw 758 = .ok (.iadd, 1) := dL_law_758
theorem dLw_759 : decode cLw 759 = .ok (.iaload, 1) := dL_law_759
theorem dLw_760 : decode cLw 760 = .ok (.invokevirtual 84, 3) := dL_law_760
theorem dLw_763 : decode cLw 763 = .ok (.aload_n 2, 1) := dL_law_763
theorem dLw_764 : decode cLw 764 = .ok (.aload_n 0, 1) := dL_law_764
theorem dLw_765 : decode cLw 765 = .ok (.iload_n 3, 1) := dL_law_765
theorem dLw_766 : decode cLw 766 = .ok (.iconst 1, 1) := dL_law_766
theorem dLw_767 : decode cLw 767 = .ok (.iadd, 1) := dL_law_767
theorem dLw_768 : decode cLw 768 = .ok (.iaload, 1) := dL_law_768
theorem dLw_769 : decode cLw 769 = .ok (.invokevirtual 87, 3) := dL_law_769
theorem dLw_772 : decode cLw 772 = .ok (.if_icmp .eq 762, 3) := dL_law_772
theorem dLw_775 : decode cLw 775 = .ok (.iconst 0, 1) := dL_law_775
theorem dLw_776 : decode cLw 776 = .ok (.ireturn, 1) := dL_law_776
theorem dLw_777 : decode cLw 777 = .ok (.aload_n 1, 1) := dL_law_777
theorem dLw_778 : decode cLw 778 = .ok (.aload_n 0, 1) := dL_law_778
theorem dLw_779 : decode cLw 779 = .ok (.iload_n 3, 1) := dL_law_779
theorem dLw_780 : decode cLw 780 = .ok (.iconst 1, 1) := dL_law_780
theorem dLw_781 : decode cLw 781 = .ok (.iadd, 1) := dL_law_781
theorem dLw_782 : decode cLw 782 = .ok (.iaload, 1) := dL_law_782
theorem dLw_783 : decode cLw 783 = .ok (.aload_n 0, 1) := dL_law_783
theorem dLw_784 : decode cLw 784 = .ok (.iload_n 3, 1) := dL_law_784
theorem dLw_785 : decode cLw 785 = .ok (.iconst 2, 1) := dL_law_785
theorem dLw_786 : decode cLw 786 = .ok (.iadd, 1) := dL_law_786
theorem dLw_787 : decode cLw 787 = .ok (.iaload, 1) := dL_law_787
theorem dLw_788 : decode cLw 788 = .ok (.aload_n 0, 1) := dL_law_788
theorem dLw_789 : decode cLw 789 = .ok (.iload_n 3, 1) := dL_law_789
theorem dLw_790 : decode cLw 790 = .ok (.iconst 3, 1) := dL_law_790
theorem dLw_791 : decode cLw 791 = .ok (.iadd, 1) := dL_law_791
theorem dLw_792 : decode cLw 792 = .ok (.iaload, 1) := dL_law_792
theorem dLw_793 : decode cLw 793 = .ok (.invokevirtual 88, 3) := dL_law_793
theorem dLw_796 : decode cLw 796 = .ok (.aload_n 2, 1) := dL_law_796
theorem dLw_797 : decode cLw 797 = .ok (.aload_n 0, 1) := dL_law_797
theorem dLw_798 : decode cLw 798 = .ok (.iload_n 3, 1) := dL_law_798
theorem dLw_799 : decode cLw 799 = .ok (.iconst 1, 1) := dL_law_799
theorem dLw_800 : decode cLw 800 = .ok (.iadd, 1) := dL_law_800
theorem dLw_801 : decode cLw 801 = .ok (.iaload, 1) := dL_law_801
theorem dLw_802 : decode cLw 802 = .ok (.aload_n 0, 1) := dL_law_802
theorem dLw_803 : decode cLw 803 = .ok (.iload_n 3, 1) := dL_law_803
theorem dLw_804 : decode cLw 804 = .ok (.iconst 2, 1) := dL_law_804
theorem dLw_805 : decode cLw 805 = .ok (.iadd, 1) := dL_law_805
theorem dLw_806 : decode cLw 806 = .ok (.iaload, 1) := dL_law_806
theorem dLw_807 : decode cLw 807 = .ok (.aload_n 0, 1) := dL_law_807
theorem dLw_808 : decode cLw 808 = .ok (.iload_n 3, 1) := dL_law_808
theorem dLw_809 : decode cLw 809 = .ok (.iconst 3, 1) := dL_law_809
theorem dLw_810 : decode cLw 810 = .ok (.iadd, 1) := dL_law_810
theorem dLw_811 : decode cLw 811 = .ok (.iaload, 1) := dL_law_811
theorem dLw_812 : decode cLw 812 = .ok (.invokevirtual 91, 3) := dL_law_812
theorem dLw_815 : decode cLw 815 = .ok (.if_icmp .eq 719, 3) := dL_law_815
theorem dLw_818 : decode cLw 818 = .ok (.iconst 0, 1) := dL_law_818
theorem dLw_819 : decode cLw 819 = .ok (.ireturn, 1) := dL_law_819
theorem dLw_820 : decode cLw 820 = .ok (.aload_n 1, 1) := dL_law_820
theorem dLw_821 : decode cLw 821 = .ok (.aload_n 0, 1) := dL_law_821
theorem dLw_822 : decode cLw 822 = .ok (.iload_n 3, 1) := dL_law_822
theorem dLw_823 : decode cLw 823 = .ok (.iconst 1, 1) := dL_law_823
theorem dLw_824 : decode cLw 824 = .ok (.iadd, 1) := dL_law_824
theorem dLw_825 : decode cLw 825 = .ok (.iaload, 1) := dL_law_825
theorem dLw_826 : decode cLw 826 = .ok (.aload_n 0, 1) := dL_law_826
theorem dLw_827 : decode cLw 827 = .ok (.iload_n 3, 1) := dL_law_827
theorem dLw_828 : decode cLw 828 = .ok (.iconst 2, 1) := dL_law_828
theorem dLw_829 : decode cLw 829 = .ok (.iadd, 1) := dL_law_829
theorem dLw_830 : decode cLw 830 = .ok (.iaload, 1) := dL_law_830
theorem dLw_831 : decode cLw 831 = .ok (.invokevirtual 92, 3) := dL_law_831
theorem dLw_834 : decode cLw 834 = .ok (.aload_n 2, 1) := dL_law_834
theorem dLw_835 : decode cLw 835 = .ok (.aload_n 0, 1) := dL_law_835
theorem dLw_836 : decode cLw 836 = .ok (.iload_n 3, 1) := dL_law_836
theorem dLw_837 : decode cLw 837 = .ok (.iconst 1, 1) := dL_law_837
theorem dLw_838 : decode cLw 838 = .ok (.iadd, 1) := dL_law_838
theorem dLw_839 : decode cLw 839 = .ok (.iaload, 1) := dL_law_839
theorem dLw_840 : decode cLw 840 = .ok (.aload_n 0, 1) := dL_law_840
theorem dLw_841 : decode cLw 841 = .ok (.iload_n 3, 1) := dL_law_841
theorem dLw_842 : decode cLw 842 = .ok (.iconst 2, 1) := dL_law_842
theorem dLw_843 : decode cLw 843 = .ok (.iadd, 1) := dL_law_843
theorem dLw_844 : decode cLw 844 = .ok (.iaload, 1) := dL_law_844
theorem dLw_845 : decode cLw 845 = .ok (.invokevirtual 95, 3) := dL_law_845
theorem dLw_848 : decode cLw 848 = .ok (.if_icmp .eq 686, 3) := dL_law_848
theorem dLw_851 : decode cLw 851 = .ok (.iconst 0, 1) := dL_law_851
theorem dLw_852 : decode cLw 852 = .ok (.ireturn, 1) := dL_law_852
theorem dLw_853 : decode cLw 853 = .ok (.aload_n 1, 1) := dL_law_853
theorem dLw_854 : decode cLw 854 = .ok (.aload_n 0, 1) := dL_law_854
theorem dLw_855 : decode cLw 855 = .ok (.iload_n 3, 1) := dL_law_855
theorem dLw_856 : decode cLw 856 = .ok (.iconst 1, 1) := dL_law_856
theorem dLw_857 : decode cLw 857 = .ok (.iadd, 1) := dL_law_857
theorem dLw_858 : decode cLw 858 = .ok (.iaload, 1) := dL_law_858
theorem dLw_859 : decode cLw 859 = .ok (.aload_n 0, 1) := dL_law_859
theorem dLw_860 : decode cLw 860 = .ok (.iload_n 3, 1) := dL_law_860
theorem dLw_861 : decode cLw 861 = .ok (.iconst 2, 1) := dL_law_861
theorem dLw_862 : decode cLw 862 = .ok (.iadd, 1) := dL_law_862
theorem dLw_863 : decode cLw 863 = .ok (.iaload, 1) := dL_law_863
theorem dLw_864 : decode cLw 864 = .ok (.invokevirtual 96, 3) := dL_law_864
theorem dLw_867 : decode cLw 867 = .ok (.aload_n 2, 1) := dL_law_867
theorem dLw_868 : decode cLw 868 = .ok (.aload_n 0, 1) := dL_law_868
theorem dLw_869 : decode cLw 869 = .ok (.iload_n 3, 1) := dL_law_869
theorem dLw_870 : decode cLw 870 = .ok (.iconst 1, 1) := dL_law_870
theorem dLw_871 : decode cLw 871 = .ok (.iadd, 1) := dL_law_871
theorem dLw_872 : decode cLw 872 = .ok (.iaload, 1) := dL_law_872
theorem dLw_873 : decode cLw 873 = .ok (.aload_n 0, 1) := dL_law_873
theorem dLw_874 : decode cLw 874 = .ok (.iload_n 3, 1) := dL_law_874
theorem dLw_875 : decode cLw 875 = .ok (.iconst 2, 1) := dL_law_875
theorem dLw_876 : decode cLw 876 = .ok (.iadd, 1) := dL_law_876
theorem dLw_877 : decode cLw 877 = .ok (.iaload, 1) := dL_law_877
theorem dLw_878 : decode cLw 878 = .ok (.invokevirtual 99, 3) := dL_law_878
theorem dLw_881 : decode cLw 881 = .ok (.if_icmp .eq 653, 3) := dL_law_881
theorem dLw_884 : decode cLw 884 = .ok (.iconst 0, 1) := dL_law_884
theorem dLw_885 : decode cLw 885 = .ok (.ireturn, 1) := dL_law_885
theorem dLw_886 : decode cLw 886 = .ok (.aload_n 1, 1) := dL_law_886
theorem dLw_887 : decode cLw 887 = .ok (.aload_n 0, 1) := dL_law_887
theorem dLw_888 : decode cLw 888 = .ok (.iload_n 3, 1) := dL_law_888
theorem dLw_889 : decode cLw 889 = .ok (.iconst 1, 1) := dL_law_889
theorem dLw_890 : decode cLw 890 = .ok (.iadd, 1) := dL_law_890
theorem dLw_891 : decode cLw 891 = .ok (.iaload, 1) := dL_law_891
theorem dLw_892 : decode cLw 892 = .ok (.aload_n 0, 1) := dL_law_892
theorem dLw_893 : decode cLw 893 = .ok (.iload_n 3, 1) := dL_law_893
theorem dLw_894 : decode cLw 894 = .ok (.iconst 2, 1) := dL_law_894
theorem dLw_895 : decode cLw 895 = .ok (.iadd, 1) := dL_law_895
theorem dLw_896 : decode cLw 896 = .ok (.iaload, 1) := dL_law_896
theorem dLw_897 : decode cLw 897 = .ok (.invokevirtual 100, 3) := dL_law_897
theorem dLw_900 : decode cLw 900 = .ok (.aload_n 2, 1) := dL_law_900
theorem dLw_901 : decode cLw 901 = .ok (.aload_n 0, 1) := dL_law_901
theorem dLw_902 : decode cLw 902 = .ok (.iload_n 3, 1) := dL_law_902
theorem dLw_903 : decode cLw 903 = .ok (.iconst 1, 1) := dL_law_903
theorem dLw_904 : decode cLw 904 = .ok (.iadd, 1) := dL_law_904
theorem dLw_905 : decode cLw 905 = .ok (.iaload, 1) := dL_law_905
theorem dLw_906 : decode cLw 906 = .ok (.aload_n 0, 1) := dL_law_906
theorem dLw_907 : decode cLw 907 = .ok (.iload_n 3, 1) := dL_law_907
theorem dLw_908 : decode cLw 908 = .ok (.iconst 2, 1) := dL_law_908
theorem dLw_909 : decode cLw 909 = .ok (.iadd, 1) := dL_law_909
theorem dLw_910 : decode cLw 910 = .ok (.iaload, 1) := dL_law_910
theorem dLw_911 : decode cLw 911 = .ok (.invokevirtual 103, 3) := dL_law_911
theorem dLw_914 : decode cLw 914 = .ok (.if_icmp .eq 620, 3) := dL_law_914
theorem dLw_917 : decode cLw 917 = .ok (.iconst 0, 1) := dL_law_917
theorem dLw_918 : decode cLw 918 = .ok (.ireturn, 1) := dL_law_918
theorem dLw_919 : decode cLw 919 = .ok (.aload_n 1, 1) := dL_law_919
theorem dLw_920 : decode cLw 920 = .ok (.aload_n 0, 1) := dL_law_920
theorem dLw_921 : decode cLw 921 = .ok (.iload_n 3, 1) := dL_law_921
theorem dLw_922 : decode cLw 922 = .ok (.iconst 1, 1) := dL_law_922
theorem dLw_923 : decode cLw 923 = .ok (.iadd, 1) := dL_law_923
theorem dLw_924 : decode cLw 924 = .ok (.iaload, 1) := dL_law_924
theorem dLw_925 : decode cLw 925 = .ok (.aload_n 0, 1) := dL_law_925
theorem dLw_926 : decode cLw 926 = .ok (.iload_n 3, 1) := dL_law_926
theorem dLw_927 : decode cLw 927 = .ok (.iconst 2, 1) := dL_law_927
theorem dLw_928 : decode cLw 928 = .ok (.iadd, 1) := dL_law_928
theorem dLw_929 : decode cLw 929 = .ok (.iaload, 1) := dL_law_929
theorem dLw_930 : decode cLw 930 = .ok (.invokevirtual 104, 3) := dL_law_930
theorem dLw_933 : decode cLw 933 = .ok (.aload_n 2, 1) := dL_law_933
theorem dLw_934 : decode cLw 934 = .ok (.aload_n 0, 1) := dL_law_934
theorem dLw_935 : decode cLw 935 = .ok (.iload_n 3, 1) := dL_law_935
theorem dLw_936 : decode cLw 936 = .ok (.iconst 1, 1) := dL_law_936
theorem dLw_937 : decode cLw 937 = .ok (.iadd, 1) := dL_law_937
theorem dLw_938 : decode cLw 938 = .ok (.iaload, 1) := dL_law_938
theorem dLw_939 : decode cLw 939 = .ok (.aload_n 0, 1) := dL_law_939
theorem dLw_940 : decode cLw 940 = .ok (.iload_n 3, 1) := dL_law_940
theorem dLw_941 : decode cLw 941 = .ok (.iconst 2, 1) := dL_law_941
theorem dLw_942 : decode cLw 942 = .ok (.iadd, 1) := dL_law_942
theorem dLw_943 : decode cLw 943 = .ok (.iaload, 1) := dL_law_943
theorem dLw_944 : decode cLw 944 = .ok (.invokevirtual 107, 3) := dL_law_944
theorem dLw_947 : decode cLw 947 = .ok (.if_icmp .eq 587, 3) := dL_law_947
theorem dLw_950 : decode cLw 950 = .ok (.iconst 0, 1) := dL_law_950
theorem dLw_951 : decode cLw 951 = .ok (.ireturn, 1) := dL_law_951
theorem dLw_952 : decode cLw 952 = .ok (.aload_n 1, 1) := dL_law_952
theorem dLw_953 : decode cLw 953 = .ok (.aload_n 0, 1) := dL_law_953
theorem dLw_954 : decode cLw 954 = .ok (.iload_n 3, 1) := dL_law_954
theorem dLw_955 : decode cLw 955 = .ok (.iconst 1, 1) := dL_law_955
theorem dLw_956 : decode cLw 956 = .ok (.iadd, 1) := dL_law_956
theorem dLw_957 : decode cLw 957 = .ok (.iaload, 1) := dL_law_957
theorem dLw_958 : decode cLw 958 = .ok (.aload_n 0, 1) := dL_law_958
theorem dLw_959 : decode cLw 959 = .ok (.iload_n 3, 1) := dL_law_959
theorem dLw_960 : decode cLw 960 = .ok (.iconst 2, 1) := dL_law_960
theorem dLw_961 : decode cLw 961 = .ok (.iadd, 1) := dL_law_961
theorem dLw_962 : decode cLw 962 = .ok (.iaload, 1) := dL_law_962
theorem dLw_963 : decode cLw 963 = .ok (.invokevirtual 108, 3) := dL_law_963
theorem dLw_966 : decode cLw 966 = .ok (.aload_n 2, 1) := dL_law_966
theorem dLw_967 : decode cLw 967 = .ok (.aload_n 0, 1) := dL_law_967
theorem dLw_968 : decode cLw 968 = .ok (.iload_n 3, 1) := dL_law_968
theorem dLw_969 : decode cLw 969 = .ok (.iconst 1, 1) := dL_law_969
theorem dLw_970 : decode cLw 970 = .ok (.iadd, 1) := dL_law_970
theorem dLw_971 : decode cLw 971 = .ok (.iaload, 1) := dL_law_971
theorem dLw_972 : decode cLw 972 = .ok (.aload_n 0, 1) := dL_law_972
theorem dLw_973 : decode cLw 973 = .ok (.iload_n 3, 1) := dL_law_973
theorem dLw_974 : decode cLw 974 = .ok (.iconst 2, 1) := dL_law_974
theorem dLw_975 : decode cLw 975 = .ok (.iadd, 1) := dL_law_975
theorem dLw_976 : decode cLw 976 = .ok (.iaload, 1) := dL_law_976
theorem dLw_977 : decode cLw 977 = .ok (.invokevirtual 111, 3) := dL_law_977
theorem dLw_980 : decode cLw 980 = .ok (.if_icmp .eq 554, 3) := dL_law_980
theorem dLw_983 : decode cLw 983 = .ok (.iconst 0, 1) := dL_law_983
theorem dLw_984 : decode cLw 984 = .ok (.ireturn, 1) := dL_law_984
theorem dLw_985 : decode cLw 985 = .ok (.aload_n 1, 1) := dL_law_985
theorem dLw_986 : decode cLw 986 = .ok (.aload_n 0, 1) := dL_law_986
theorem dLw_987 : decode cLw 987 = .ok (.iload_n 3, 1) := dL_law_987
theorem dLw_988 : decode cLw 988 = .ok (.iconst 1, 1) := dL_law_988
theorem dLw_989 : decode cLw 989 = .ok (.iadd, 1) := dL_law_989
theorem dLw_990 : decode cLw 990 = .ok (.iaload, 1) := dL_law_990
theorem dLw_991 : decode cLw 991 = .ok (.invokevirtual 112, 3) := dL_law_991
theorem dLw_994 : decode cLw 994 = .ok (.aload_n 2, 1) := dL_law_994
theorem dLw_995 : decode cLw 995 = .ok (.aload_n 0, 1) := dL_law_995
theorem dLw_996 : decode cLw 996 = .ok (.iload_n 3, 1) := dL_law_996
theorem dLw_997 : decode cLw 997 = .ok (.iconst 1, 1) := dL_law_997
theorem dLw_998 : decode cLw 998 = .ok (.iadd, 1) := dL_law_998
theorem dLw_999 : decode cLw 999 = .ok (.iaload, 1) := dL_law_999
theorem dLw_1000 : decode cLw 1000 = .ok (.invokevirtual 115, 3) := dL_law_1000
theorem dLw_1003 : decode cLw 1003 = .ok (.if_icmp .eq 531, 3) := dL_law_1003
theorem dLw_1006 : decode cLw 1006 = .ok (.iconst 0, 1) := dL_law_1006
theorem dLw_1007 : decode cLw 1007 = .ok (.ireturn, 1) := dL_law_1007
theorem dLw_1008 : decode cLw 1008 = .ok (.aload_n 1, 1) := dL_law_1008
theorem dLw_1009 : decode cLw 1009 = .ok (.aload_n 0, 1) := dL_law_1009
theorem dLw_1010 : decode cLw 1010 = .ok (.iload_n 3, 1) := dL_law_1010
theorem dLw_1011 : decode cLw 1011 = .ok (.iconst 1, 1) := dL_law_1011
theorem dLw_1012 : decode cLw 1012 = .ok (.iadd, 1) := dL_law_1012
theorem dLw_1013 : decode cLw 1013 = .ok (.iaload, 1) := dL_law_1013
theorem dLw_1014 : decode cLw 1014 = .ok (.invokevirtual 116, 3) := dL_law_1014
theorem dLw_1017 : decode cLw 1017 = .ok (.aload_n 2, 1) := dL_law_1017
theorem dLw_1018 : decode cLw 1018 = .ok (.aload_n 0, 1) := dL_law_1018
theorem dLw_1019 : decode cLw 1019 = .ok (.iload_n 3, 1) := dL_law_1019
theorem dLw_1020 : decode cLw 1020 = .ok (.iconst 1, 1) := dL_law_1020
theorem dLw_1021 : decode cLw 1021 = .ok (.iadd, 1) := dL_law_1021
theorem dLw_1022 : decode cLw 1022 = .ok (.iaload, 1) := dL_law_1022
theorem dLw_1023 : decode cLw 1023 = .ok (.invokevirtual 119, 3) := dL_law_1023
theorem dLw_1026 : decode cLw 1026 = .ok (.if_icmp .eq 508, 3) := dL_law_1026
theorem dLw_1029 : decode cLw 1029 = .ok (.iconst 0, 1) := dL_law_1029
theorem dLw_1030 : decode cLw 1030 = .ok (.ireturn, 1) := dL_law_1030
theorem dLw_1031 : decode cLw 1031 = .ok (.aload_n 1, 1) := dL_law_1031
theorem dLw_1032 : decode cLw 1032 = .ok (.aload_n 0, 1) := dL_law_1032
theorem dLw_1033 : decode cLw 1033 = .ok (.iload_n 3, 1) := dL_law_1033
theorem dLw_1034 : decode cLw 1034 = .ok (.iconst 1, 1) := dL_law_1034
theorem dLw_1035 : decode cLw 1035 = .ok (.iadd, 1) := dL_law_1035
theorem dLw_1036 : decode cLw 1036 = .ok (.iaload, 1) := dL_law_1036
theorem dLw_1037 : decode cLw 1037 = .ok (.aload_n 0, 1) := dL_law_1037
theorem dLw_1038 : decode cLw 1038 = .ok (.iload_n 3, 1) := dL_law_1038
theorem dLw_1039 : decode cLw 1039 = .ok (.iconst 2, 1) := dL_law_1039
theorem dLw_1040 : decode cLw 1040 = .ok (.iadd, 1) := dL_law_1040
theorem dLw_1041 : decode cLw 1041 = .ok (.iaload, 1) := dL_law_1041
theorem dLw_1042 : decode cLw 1042 = .ok (.invokevirtual 120, 3) := dL_law_1042
theorem dLw_1045 : decode cLw 1045 = .ok (.aload_n 2, 1) := dL_law_1045
theorem dLw_1046 : decode cLw 1046 = .ok (.aload_n 0, 1) := dL_law_1046
theorem dLw_1047 : decode cLw 1047 = .ok (.iload_n 3, 1) := dL_law_1047
theorem dLw_1048 : decode cLw 1048 = .ok (.iconst 1, 1) := dL_law_1048
theorem dLw_1049 : decode cLw 1049 = .ok (.iadd, 1) := dL_law_1049
theorem dLw_1050 : decode cLw 1050 = .ok (.iaload, 1) := dL_law_1050
theorem dLw_1051 : decode cLw 1051 = .ok (.aload_n 0, 1) := dL_law_1051
theorem dLw_1052 : decode cLw 1052 = .ok (.iload_n 3, 1) := dL_law_1052
theorem dLw_1053 : decode cLw 1053 = .ok (.iconst 2, 1) := dL_law_1053
theorem dLw_1054 : decode cLw 1054 = .ok (.iadd, 1) := dL_law_1054
theorem dLw_1055 : decode cLw 1055 = .ok (.iaload, 1) := dL_law_1055
theorem dLw_1056 : decode cLw 1056 = .ok (.invokevirtual 123, 3) := dL_law_1056
theorem dLw_1059 : decode cLw 1059 = .ok (.if_icmp .eq 475, 3) := dL_law_1059
theorem dLw_1062 : decode cLw 1062 = .ok (.iconst 0, 1) := dL_law_1062
theorem dLw_1063 : decode cLw 1063 = .ok (.ireturn, 1) := dL_law_1063
theorem dLw_1064 : decode cLw 1064 = .ok (.aload_n 1, 1) := dL_law_1064
theorem dLw_1065 : decode cLw 1065 = .ok (.aload_n 0, 1) := dL_law_1065
theorem dLw_1066 : decode cLw 1066 = .ok (.iload_n 3, 1) := dL_law_1066
theorem dLw_1067 : decode cLw 1067 = .ok (.iconst 1, 1) := dL_law_1067
theorem dLw_1068 : decode cLw 1068 = .ok (.iadd, 1) := dL_law_1068
theorem dLw_1069 : decode cLw 1069 = .ok (.iaload, 1) := dL_law_1069
theorem dLw_1070 : decode cLw 1070 = .ok (.invokevirtual 124, 3) := dL_law_1070
theorem dLw_1073 : decode cLw 1073 = .ok (.aload_n 2, 1) := dL_law_1073
theorem dLw_1074 : decode cLw 1074 = .ok (.aload_n 0, 1) := dL_law_1074
theorem dLw_1075 : decode cLw 1075 = .ok (.iload_n 3, 1) := dL_law_1075
theorem dLw_1076 : decode cLw 1076 = .ok (.iconst 1, 1) := dL_law_1076
theorem dLw_1077 : decode cLw 1077 = .ok (.iadd, 1) := dL_law_1077
theorem dLw_1078 : decode cLw 1078 = .ok (.iaload, 1) := dL_law_1078
theorem dLw_1079 : decode cLw 1079 = .ok (.invokevirtual 127, 3) := dL_law_1079
theorem dLw_1082 : decode cLw 1082 = .ok (.if_icmp .eq 452, 3) := dL_law_1082
theorem dLw_1085 : decode cLw 1085 = .ok (.iconst 0, 1) := dL_law_1085
theorem dLw_1086 : decode cLw 1086 = .ok (.ireturn, 1) := dL_law_1086
theorem dLw_1087 : decode cLw 1087 = .ok (.aload_n 1, 1) := dL_law_1087
theorem dLw_1088 : decode cLw 1088 = .ok (.aload_n 0, 1) := dL_law_1088
theorem dLw_1089 : decode cLw 1089 = .ok (.iload_n 3, 1) := dL_law_1089
theorem dLw_1090 : decode cLw 1090 = .ok (.iconst 1, 1) := dL_law_1090
theorem dLw_1091 : decode cLw 1091 = .ok (.iadd, 1) := dL_law_1091
theorem dLw_1092 : decode cLw 1092 = .ok (.iaload, 1) := dL_law_1092
theorem dLw_1093 : decode cLw 1093 = .ok (.invokevirtual 128, 3) := dL_law_1093
theorem dLw_1096 : decode cLw 1096 = .ok (.aload_n 2, 1) := dL_law_1096
theorem dLw_1097 : decode cLw 1097 = .ok (.aload_n 0, 1) := dL_law_1097
theorem dLw_1098 : decode cLw 1098 = .ok (.iload_n 3, 1) := dL_law_1098
theorem dLw_1099 : decode cLw 1099 = .ok (.iconst 1, 1) := dL_law_1099
theorem dLw_1100 : decode cLw 1100 = .ok (.iadd, 1) := dL_law_1100
theorem dLw_1101 : decode cLw 1101 = .ok (.iaload, 1) := dL_law_1101
theorem dLw_1102 : decode cLw 1102 = .ok (.invokevirtual 131, 3) := dL_law_1102
theorem dLw_1105 : decode cLw 1105 = .ok (.if_icmp .eq 429, 3) := dL_law_1105
theorem dLw_1108 : decode cLw 1108 = .ok (.iconst 0, 1) := dL_law_1108
theorem dLw_1109 : decode cLw 1109 = .ok (.ireturn, 1) := dL_law_1109
theorem dLw_1110 : decode cLw 1110 = .ok (.aload_n 1, 1) := dL_law_1110
theorem dLw_1111 : decode cLw 1111 = .ok (.aload_n 0, 1) := dL_law_1111
theorem dLw_1112 : decode cLw 1112 = .ok (.iload_n 3, 1) := dL_law_1112
theorem dLw_1113 : decode cLw 1113 = .ok (.iconst 1, 1) := dL_law_1113
theorem dLw_1114 : decode cLw 1114 = .ok (.iadd, 1) := dL_law_1114
theorem dLw_1115 : decode cLw 1115 = .ok (.iaload, 1) := dL_law_1115
theorem dLw_1116 : decode cLw 1116 = .ok (.invokevirtual 132, 3) := dL_law_1116
theorem dLw_1119 : decode cLw 1119 = .ok (.aload_n 2, 1) := dL_law_1119
theorem dLw_1120 : decode cLw 1120 = .ok (.aload_n 0, 1) := dL_law_1120
theorem dLw_1121 : decode cLw 1121 = .ok (.iload_n 3, 1) := dL_law_1121
theorem dLw_1122 : decode cLw 1122 = .ok (.iconst 1, 1) := dL_law_1122
theorem dLw_1123 : decode cLw 1123 = .ok (.iadd, 1) := dL_law_1123
theorem dLw_1124 : decode cLw 1124 = .ok (.iaload, 1) := dL_law_1124
theorem dLw_1125 : decode cLw 1125 = .ok (.invokevirtual 135, 3) := dL_law_1125
theorem dLw_1128 : decode cLw 1128 = .ok (.if_icmp .eq 406, 3) := dL_law_1128
theorem dLw_1131 : decode cLw 1131 = .ok (.iconst 0, 1) := dL_law_1131
theorem dLw_1132 : decode cLw 1132 = .ok (.ireturn, 1) := dL_law_1132
theorem dLw_1133 : decode cLw 1133 = .ok (.aload_n 1, 1) := dL_law_1133
theorem dLw_1134 : decode cLw 1134 = .ok (.aload_n 0, 1) := dL_law_1134
theorem dLw_1135 : decode cLw 1135 = .ok (.iload_n 3, 1) := dL_law_1135
theorem dLw_1136 : decode cLw 1136 = .ok (.iconst 1, 1) := dL_law_1136
theorem dLw_1137 : decode cLw 1137 = .ok (.iadd, 1) := dL_law_1137
theorem dLw_1138 : decode cLw 1138 = .ok (.iaload, 1) := dL_law_1138
theorem dLw_1139 : decode cLw 1139 = .ok (.aload_n 0, 1) := dL_law_1139
theorem dLw_1140 : decode cLw 1140 = .ok (.iload_n 3, 1) := dL_law_1140
theorem dLw_1141 : decode cLw 1141 = .ok (.iconst 2, 1) := dL_law_1141
theorem dLw_1142 : decode cLw 1142 = .ok (.iadd, 1) := dL_law_1142
theorem dLw_1143 : decode cLw 1143 = .ok (.iaload, 1) := dL_law_1143
theorem dLw_1144 : decode cLw 1144 = .ok (.aload_n 0, 1) := dL_law_1144
theorem dLw_1145 : decode cLw 1145 = .ok (.iload_n 3, 1) := dL_law_1145
theorem dLw_1146 : decode cLw 1146 = .ok (.iconst 3, 1) := dL_law_1146
theorem dLw_1147 : decode cLw 1147 = .ok (.iadd, 1) := dL_law_1147
theorem dLw_1148 : decode cLw 1148 = .ok (.iaload, 1) := dL_law_1148
theorem dLw_1149 : decode cLw 1149 = .ok (.aload_n 0, 1) := dL_law_1149
theorem dLw_1150 : decode cLw 1150 = .ok (.iload_n 3, 1) := dL_law_1150
theorem dLw_1151 : decode cLw 1151 = .ok (.iconst 4, 1) := dL_law_1151
theorem dLw_1152 : decode cLw 1152 = .ok (.iadd, 1) := dL_law_1152
theorem dLw_1153 : decode cLw 1153 = .ok (.iaload, 1) := dL_law_1153
theorem dLw_1154 : decode cLw 1154 = .ok (.invokevirtual 136, 3) := dL_law_1154
theorem dLw_1157 : decode cLw 1157 = .ok (.aload_n 2, 1) := dL_law_1157
theorem dLw_1158 : decode cLw 1158 = .ok (.aload_n 0, 1) := dL_law_1158
theorem dLw_1159 : decode cLw 1159 = .ok (.iload_n 3, 1) := dL_law_1159
theorem dLw_1160 : decode cLw 1160 = .ok (.iconst 1, 1) := dL_law_1160
theorem dLw_1161 : decode cLw 1161 = .ok (.iadd, 1) := dL_law_1161
theorem dLw_1162 : decode cLw 1162 = .ok (.iaload, 1) := dL_law_1162
theorem dLw_1163 : decode cLw 1163 = .ok (.aload_n 0, 1) := dL_law_1163
theorem dLw_1164 : decode cLw 1164 = .ok (.iload_n 3, 1) := dL_law_1164
theorem dLw_1165 : decode cLw 1165 = .ok (.iconst 2, 1) := dL_law_1165
theorem dLw_1166 : decode cLw 1166 = .ok (.iadd, 1) := dL_law_1166
theorem dLw_1167 : decode cLw 1167 = .ok (.iaload, 1) := dL_law_1167
theorem dLw_1168 : decode cLw 1168 = .ok (.aload_n 0, 1) := dL_law_1168
theorem dLw_1169 : decode cLw 1169 = .ok (.iload_n 3, 1) := dL_law_1169
theorem dLw_1170 : decode cLw 1170 = .ok (.iconst 3, 1) := dL_law_1170
theorem dLw_1171 : decode cLw 1171 = .ok (.iadd, 1) := dL_law_1171
theorem dLw_1172 : decode cLw 1172 = .ok (.iaload, 1) := dL_law_1172
theorem dLw_1173 : decode cLw 1173 = .ok (.aload_n 0, 1) := dL_law_1173
theorem dLw_1174 : decode cLw 1174 = .ok (.iload_n 3, 1) := dL_law_1174
theorem dLw_1175 : decode cLw 1175 = .ok (.iconst 4, 1) := dL_law_1175
theorem dLw_1176 : decode cLw 1176 = .ok (.iadd, 1) := dL_law_1176
theorem dLw_1177 : decode cLw 1177 = .ok (.iaload, 1) := dL_law_1177
theorem dLw_1178 : decode cLw 1178 = .ok (.invokevirtual 139, 3) := dL_law_1178
theorem dLw_1181 : decode cLw 1181 = .ok (.if_icmp .eq 353, 3) := dL_law_1181
theorem dLw_1184 : decode cLw 1184 = .ok (.iconst 0, 1) := dL_law_1184
theorem dLw_1185 : decode cLw 1185 = .ok (.ireturn, 1) := dL_law_1185
theorem dLw_1186 : decode cLw 1186 = .ok (.aload_n 1, 1) := dL_law_1186
theorem dLw_1187 : decode cLw 1187 = .ok (.aload_n 0, 1) := dL_law_1187
theorem dLw_1188 : decode cLw 1188 = .ok (.iload_n 3, 1) := dL_law_1188
theorem dLw_1189 : decode cLw 1189 = .ok (.iconst 1, 1) := dL_law_1189
theorem dLw_1190 : decode cLw 1190 = .ok (.iadd, 1) := dL_law_1190
theorem dLw_1191 : decode cLw 1191 = .ok (.iaload, 1) := dL_law_1191
theorem dLw_1192 : decode cLw 1192 = .ok (.aload_n 0, 1) := dL_law_1192
theorem dLw_1193 : decode cLw 1193 = .ok (.iload_n 3, 1) := dL_law_1193
theorem dLw_1194 : decode cLw 1194 = .ok (.iconst 2, 1) := dL_law_1194
theorem dLw_1195 : decode cLw 1195 = .ok (.iadd, 1) := dL_law_1195
theorem dLw_1196 : decode cLw 1196 = .ok (.iaload, 1) := dL_law_1196
theorem dLw_1197 : decode cLw 1197 = .ok (.invokevirtual 140, 3) := dL_law_1197
theorem dLw_1200 : decode cLw 1200 = .ok (.aload_n 2, 1) := dL_law_1200
theorem dLw_1201 : decode cLw 1201 = .ok (.aload_n 0, 1) := dL_law_1201
theorem dLw_1202 : decode cLw 1202 = .ok (.iload_n 3, 1) := dL_law_1202
theorem dLw_1203 : decode cLw 1203 = .ok (.iconst 1, 1) := dL_law_1203
theorem dLw_1204 : decode cLw 1204 = .ok (.iadd, 1) := dL_law_1204
theorem dLw_1205 : decode cLw 1205 = .ok (.iaload, 1) := dL_law_1205
theorem dLw_1206 : decode cLw 1206 = .ok (.aload_n 0, 1) := dL_law_1206
theorem dLw_1207 : decode cLw 1207 = .ok (.iload_n 3, 1) := dL_law_1207
theorem dLw_1208 : decode cLw 1208 = .ok (.iconst 2, 1) := dL_law_1208
theorem dLw_1209 : decode cLw 1209 = .ok (.iadd, 1) := dL_law_1209
theorem dLw_1210 : decode cLw 1210 = .ok (.iaload, 1) := dL_law_1210
theorem dLw_1211 : decode cLw 1211 = .ok (.invokevirtual 143, 3) := dL_law_1211
theorem dLw_1214 : decode cLw 1214 = .ok (.if_icmp .eq 320, 3) := dL_law_1214
theorem dLw_1217 : decode cLw 1217 = .ok (.iconst 0, 1) := dL_law_1217
theorem dLw_1218 : decode cLw 1218 = .ok (.ireturn, 1) := dL_law_1218
theorem dLw_1219 : decode cLw 1219 = .ok (.aload_n 1, 1) := dL_law_1219
theorem dLw_1220 : decode cLw 1220 = .ok (.aload_n 0, 1) := dL_law_1220
theorem dLw_1221 : decode cLw 1221 = .ok (.iload_n 3, 1) := dL_law_1221
theorem dLw_1222 : decode cLw 1222 = .ok (.iconst 1, 1) := dL_law_1222
theorem dLw_1223 : decode cLw 1223 = .ok (.iadd, 1) := dL_law_1223
theorem dLw_1224 : decode cLw 1224 = .ok (.iaload, 1) := dL_law_1224
theorem dLw_1225 : decode cLw 1225 = .ok (.aload_n 0, 1) := dL_law_1225
theorem dLw_1226 : decode cLw 1226 = .ok (.iload_n 3, 1) := dL_law_1226
theorem dLw_1227 : decode cLw 1227 = .ok (.iconst 2, 1) := dL_law_1227
theorem dLw_1228 : decode cLw 1228 = .ok (.iadd, 1) := dL_law_1228
theorem dLw_1229 : decode cLw 1229 = .ok (.iaload, 1) := dL_law_1229
theorem dLw_1230 : decode cLw 1230 = .ok (.aload_n 0, 1) := dL_law_1230
theorem dLw_1231 : decode cLw 1231 = .ok (.iload_n 3, 1) := dL_law_1231
theorem dLw_1232 : decode cLw 1232 = .ok (.iconst 3, 1) := dL_law_1232
theorem dLw_1233 : decode cLw 1233 = .ok (.iadd, 1) := dL_law_1233
theorem dLw_1234 : decode cLw 1234 = .ok (.iaload, 1) := dL_law_1234
theorem dLw_1235 : decode cLw 1235 = .ok (.aload_n 0, 1) := dL_law_1235
theorem dLw_1236 : decode cLw 1236 = .ok (.iload_n 3, 1) := dL_law_1236
theorem dLw_1237 : decode cLw 1237 = .ok (.iconst 4, 1) := dL_law_1237
theorem dLw_1238 : decode cLw 1238 = .ok (.iadd, 1) := dL_law_1238
theorem dLw_1239 : decode cLw 1239 = .ok (.iaload, 1) := dL_law_1239
theorem dLw_1240 : decode cLw 1240 = .ok (.invokevirtual 144, 3) := dL_law_1240
theorem dLw_1243 : decode cLw 1243 = .ok (.aload_n 2, 1) := dL_law_1243
theorem dLw_1244 : decode cLw 1244 = .ok (.aload_n 0, 1) := dL_law_1244
theorem dLw_1245 : decode cLw 1245 = .ok (.iload_n 3, 1) := dL_law_1245
theorem dLw_1246 : decode cLw 1246 = .ok (.iconst 1, 1) := dL_law_1246
theorem dLw_1247 : decode cLw 1247 = .ok (.iadd, 1) := dL_law_1247
theorem dLw_1248 : decode cLw 1248 = .ok (.iaload, 1) := dL_law_1248
theorem dLw_1249 : decode cLw 1249 = .ok (.aload_n 0, 1) := dL_law_1249
theorem dLw_1250 : decode cLw 1250 = .ok (.iload_n 3, 1) := dL_law_1250
theorem dLw_1251 : decode cLw 1251 = .ok (.iconst 2, 1) := dL_law_1251
theorem dLw_1252 : decode cLw 1252 = .ok (.iadd, 1) := dL_law_1252
theorem dLw_1253 : decode cLw 1253 = .ok (.iaload, 1) := dL_law_1253
theorem dLw_1254 : decode cLw 1254 = .ok (.aload_n 0, 1) := dL_law_1254
theorem dLw_1255 : decode cLw 1255 = .ok (.iload_n 3, 1) := dL_law_1255
theorem dLw_1256 : decode cLw 1256 = .ok (.iconst 3, 1) := dL_law_1256
theorem dLw_1257 : decode cLw 1257 = .ok (.iadd, 1) := dL_law_1257
theorem dLw_1258 : decode cLw 1258 = .ok (.iaload, 1) := dL_law_1258
theorem dLw_1259 : decode cLw 1259 = .ok (.aload_n 0, 1) := dL_law_1259
theorem dLw_1260 : decode cLw 1260 = .ok (.iload_n 3, 1) := dL_law_1260
theorem dLw_1261 : decode cLw 1261 = .ok (.iconst 4, 1) := dL_law_1261
theorem dLw_1262 : decode cLw 1262 = .ok (.iadd, 1) := dL_law_1262
theorem dLw_1263 : decode cLw 1263 = .ok (.iaload, 1) := dL_law_1263
theorem dLw_1264 : decode cLw 1264 = .ok (.invokevirtual 148, 3) := dL_law_1264
theorem dLw_1267 : decode cLw 1267 = .ok (.lcmp, 1) := dL_law_1267
theorem dLw_1268 : decode cLw 1268 = .ok (.ifCond .eq 266, 3) := dL_law_1268
theorem dLw_1271 : decode cLw 1271 = .ok (.iconst 0, 1) := dL_law_1271
theorem dLw_1272 : decode cLw 1272 = .ok (.ireturn, 1) := dL_law_1272
theorem dLw_1273 : decode cLw 1273 = .ok (.aload_n 1, 1) := dL_law_1273
theorem dLw_1274 : decode cLw 1274 = .ok (.invokevirtual 149, 3) := dL_law_1274
theorem dLw_1277 : decode cLw 1277 = .ok (.aload_n 2, 1) := dL_law_1277
theorem dLw_1278 : decode cLw 1278 = .ok (.invokevirtual 152, 3) := dL_law_1278
theorem dLw_1281 : decode cLw 1281 = .ok (.if_icmp .eq 253, 3) := dL_law_1281
theorem dLw_1284 : decode cLw 1284 = .ok (.iconst 0, 1) := dL_law_1284
theorem dLw_1285 : decode cLw 1285 = .ok (.ireturn, 1) := dL_law_1285
theorem dLw_1286 : decode cLw 1286 = .ok (.aload_n 1, 1) := dL_law_1286
theorem dLw_1287 : decode cLw 1287 = .ok (.invokevirtual 153, 3) := dL_law_1287
theorem dLw_1290 : decode cLw 1290 = .ok (.aload_n 2, 1) := dL_law_1290
theorem dLw_1291 : decode cLw 1291 = .ok (.invokevirtual 156, 3) := dL_law_1291
theorem dLw_1294 : decode cLw 1294 = .ok (.if_icmp .eq 240, 3) := dL_law_1294
theorem dLw_1297 : decode cLw 1297 = .ok (.iconst 0, 1) := dL_law_1297
theorem dLw_1298 : decode cLw 1298 = .ok (.ireturn, 1) := dL_law_1298
theorem dLw_1299 : decode cLw 1299 = .ok (.aload_n 1, 1) := dL_law_1299
theorem dLw_1300 : decode cLw 1300 = .ok (.aload_n 0, 1) := dL_law_1300
theorem dLw_1301 : decode cLw 1301 = .ok (.iload_n 3, 1) := dL_law_1301
theorem dLw_1302 : decode cLw 1302 = .ok (.iconst 1, 1) := dL_law_1302
theorem dLw_1303 : decode cLw 1303 = .ok (.iadd, 1) := dL_law_1303
theorem dLw_1304 : decode cLw 1304 = .ok (.iaload, 1) := dL_law_1304
theorem dLw_1305 : decode cLw 1305 = .ok (.aload_n 0, 1) := dL_law_1305
theorem dLw_1306 : decode cLw 1306 = .ok (.iload_n 3, 1) := dL_law_1306
theorem dLw_1307 : decode cLw 1307 = .ok (.iconst 2, 1) := dL_law_1307
theorem dLw_1308 : decode cLw 1308 = .ok (.iadd, 1) := dL_law_1308
theorem dLw_1309 : decode cLw 1309 = .ok (.iaload, 1) := dL_law_1309
theorem dLw_1310 : decode cLw 1310 = .ok (.aload_n 0, 1) := dL_law_1310
theorem dLw_1311 : decode cLw 1311 = .ok (.iload_n 3, 1) := dL_law_1311
theorem dLw_1312 : decode cLw 1312 = .ok (.iconst 3, 1) := dL_law_1312
theorem dLw_1313 : decode cLw 1313 = .ok (.iadd, 1) := dL_law_1313
theorem dLw_1314 : decode cLw 1314 = .ok (.iaload, 1) := dL_law_1314
theorem dLw_1315 : decode cLw 1315 = .ok (.invokevirtual 157, 3) := dL_law_1315
theorem dLw_1318 : decode cLw 1318 = .ok (.aload_n 2, 1) := dL_law_1318
theorem dLw_1319 : decode cLw 1319 = .ok (.aload_n 0, 1) := dL_law_1319
theorem dLw_1320 : decode cLw 1320 = .ok (.iload_n 3, 1) := dL_law_1320
theorem dLw_1321 : decode cLw 1321 = .ok (.iconst 1, 1) := dL_law_1321
theorem dLw_1322 : decode cLw 1322 = .ok (.iadd, 1) := dL_law_1322
theorem dLw_1323 : decode cLw 1323 = .ok (.iaload, 1) := dL_law_1323
theorem dLw_1324 : decode cLw 1324 = .ok (.aload_n 0, 1) := dL_law_1324
theorem dLw_1325 : decode cLw 1325 = .ok (.iload_n 3, 1) := dL_law_1325
theorem dLw_1326 : decode cLw 1326 = .ok (.iconst 2, 1) := dL_law_1326
theorem dLw_1327 : decode cLw 1327 = .ok (.iadd, 1) := dL_law_1327
theorem dLw_1328 : decode cLw 1328 = .ok (.iaload, 1) := dL_law_1328
theorem dLw_1329 : decode cLw 1329 = .ok (.aload_n 0, 1) := dL_law_1329
theorem dLw_1330 : decode cLw 1330 = .ok (.iload_n 3, 1) := dL_law_1330
theorem dLw_1331 : decode cLw 1331 = .ok (.iconst 3, 1) := dL_law_1331
theorem dLw_1332 : decode cLw 1332 = .ok (.iadd, 1) := dL_law_1332
theorem dLw_1333 : decode cLw 1333 = .ok (.iaload, 1) := dL_law_1333
theorem dLw_1334 : decode cLw 1334 = .ok (.invokevirtual 160, 3) := dL_law_1334
theorem dLw_1337 : decode cLw 1337 = .ok (.if_icmp .eq 197, 3) := dL_law_1337
theorem dLw_1340 : decode cLw 1340 = .ok (.iconst 0, 1) := dL_law_1340
theorem dLw_1341 : decode cLw 1341 = .ok (.ireturn, 1) := dL_law_1341
theorem dLw_1342 : decode cLw 1342 = .ok (.aload_n 1, 1) := dL_law_1342
theorem dLw_1343 : decode cLw 1343 = .ok (.aload_n 0, 1) := dL_law_1343
theorem dLw_1344 : decode cLw 1344 = .ok (.iload_n 3, 1) := dL_law_1344
theorem dLw_1345 : decode cLw 1345 = .ok (.iconst 1, 1) := dL_law_1345
theorem dLw_1346 : decode cLw 1346 = .ok (.iadd, 1) := dL_law_1346
theorem dLw_1347 : decode cLw 1347 = .ok (.iaload, 1) := dL_law_1347
theorem dLw_1348 : decode cLw 1348 = .ok (.aload_n 0, 1) := dL_law_1348
theorem dLw_1349 : decode cLw 1349 = .ok (.iload_n 3, 1) := dL_law_1349
theorem dLw_1350 : decode cLw 1350 = .ok (.iconst 2, 1) := dL_law_1350
theorem dLw_1351 : decode cLw 1351 = .ok (.iadd, 1) := dL_law_1351
theorem dLw_1352 : decode cLw 1352 = .ok (.iaload, 1) := dL_law_1352
theorem dLw_1353 : decode cLw 1353 = .ok (.aload_n 0, 1) := dL_law_1353
theorem dLw_1354 : decode cLw 1354 = .ok (.iload_n 3, 1) := dL_law_1354
theorem dLw_1355 : decode cLw 1355 = .ok (.iconst 3, 1) := dL_law_1355
theorem dLw_1356 : decode cLw 1356 = .ok (.iadd, 1) := dL_law_1356
theorem dLw_1357 : decode cLw 1357 = .ok (.iaload, 1) := dL_law_1357
theorem dLw_1358 : decode cLw 1358 = .ok (.invokevirtual 161, 3) := dL_law_1358
theorem dLw_1361 : decode cLw 1361 = .ok (.aload_n 2, 1) := dL_law_1361
theorem dLw_1362 : decode cLw 1362 = .ok (.aload_n 0, 1) := dL_law_1362
theorem dLw_1363 : decode cLw 1363 = .ok (.iload_n 3, 1) := dL_law_1363
theorem dLw_1364 : decode cLw 1364 = .ok (.iconst 1, 1) := dL_law_1364
theorem dLw_1365 : decode cLw 1365 = .ok (.iadd, 1) := dL_law_1365
theorem dLw_1366 : decode cLw 1366 = .ok (.iaload, 1) := dL_law_1366
theorem dLw_1367 : decode cLw 1367 = .ok (.aload_n 0, 1) := dL_law_1367
theorem dLw_1368 : decode cLw 1368 = .ok (.iload_n 3, 1) := dL_law_1368
theorem dLw_1369 : decode cLw 1369 = .ok (.iconst 2, 1) := dL_law_1369
theorem dLw_1370 : decode cLw 1370 = .ok (.iadd, 1) := dL_law_1370
theorem dLw_1371 : decode cLw 1371 = .ok (.iaload, 1) := dL_law_1371
theorem dLw_1372 : decode cLw 1372 = .ok (.aload_n 0, 1) := dL_law_1372
theorem dLw_1373 : decode cLw 1373 = .ok (.iload_n 3, 1) := dL_law_1373
theorem dLw_1374 : decode cLw 1374 = .ok (.iconst 3, 1) := dL_law_1374
theorem dLw_1375 : decode cLw 1375 = .ok (.iadd, 1) := dL_law_1375
theorem dLw_1376 : decode cLw 1376 = .ok (.iaload, 1) := dL_law_1376
theorem dLw_1377 : decode cLw 1377 = .ok (.invokevirtual 164, 3) := dL_law_1377
theorem dLw_1380 : decode cLw 1380 = .ok (.if_icmp .eq 154, 3) := dL_law_1380
theorem dLw_1383 : decode cLw 1383 = .ok (.iconst 0, 1) := dL_law_1383
theorem dLw_1384 : decode cLw 1384 = .ok (.ireturn, 1) := dL_law_1384
theorem dLw_1385 : decode cLw 1385 = .ok (.aload_n 1, 1) := dL_law_1385
theorem dLw_1386 : decode cLw 1386 = .ok (.aload_n 0, 1) := dL_law_1386
theorem dLw_1387 : decode cLw 1387 = .ok (.iload_n 3, 1) := dL_law_1387
theorem dLw_1388 : decode cLw 1388 = .ok (.iconst 1, 1) := dL_law_1388
theorem dLw_1389 : decode cLw 1389 = .ok (.iadd, 1) := dL_law_1389
theorem dLw_1390 : decode cLw 1390 = .ok (.iaload, 1) := dL_law_1390
theorem dLw_1391 : decode cLw 1391 = .ok (.aload_n 0, 1) := dL_law_1391
theorem dLw_1392 : decode cLw 1392 = .ok (.iload_n 3, 1) := dL_law_1392
theorem dLw_1393 : decode cLw 1393 = .ok (.iconst 2, 1) := dL_law_1393
theorem dLw_1394 : decode cLw 1394 = .ok (.iadd, 1) := dL_law_1394
theorem dLw_1395 : decode cLw 1395 = .ok (.iaload, 1) := dL_law_1395
theorem dLw_1396 : decode cLw 1396 = .ok (.aload_n 0, 1) := dL_law_1396
theorem dLw_1397 : decode cLw 1397 = .ok (.iload_n 3, 1) := dL_law_1397
theorem dLw_1398 : decode cLw 1398 = .ok (.iconst 3, 1) := dL_law_1398
theorem dLw_1399 : decode cLw 1399 = .ok (.iadd, 1) := dL_law_1399
theorem dLw_1400 : decode cLw 1400 = .ok (.iaload, 1) := dL_law_1400
theorem dLw_1401 : decode cLw 1401 = .ok (.aload_n 0, 1) := dL_law_1401
theorem dLw_1402 : decode cLw 1402 = .ok (.iload_n 3, 1) := dL_law_1402
theorem dLw_1403 : decode cLw 1403 = .ok (.iconst 4, 1) := dL_law_1403
theorem dLw_1404 : decode cLw 1404 = .ok (.iadd, 1) := dL_law_1404
theorem dLw_1405 : decode cLw 1405 = .ok (.iaload, 1) := dL_law_1405
theorem dLw_1406 : decode cLw 1406 = .ok (.aload_n 0, 1) := dL_law_1406
theorem dLw_1407 : decode cLw 1407 = .ok (.iload_n 3, 1) := dL_law_1407
theorem dLw_1408 : decode cLw 1408 = .ok (.iconst 5, 1) := dL_law_1408
theorem dLw_1409 : decode cLw 1409 = .ok (.iadd, 1) := dL_law_1409
theorem dLw_1410 : decode cLw 1410 = .ok (.iaload, 1) := dL_law_1410
theorem dLw_1411 : decode cLw 1411 = .ok (.invokevirtual 165, 3) := dL_law_1411
theorem dLw_1414 : decode cLw 1414 = .ok (.aload_n 2, 1) := dL_law_1414
theorem dLw_1415 : decode cLw 1415 = .ok (.aload_n 0, 1) := dL_law_1415
theorem dLw_1416 : decode cLw 1416 = .ok (.iload_n 3, 1) := dL_law_1416
theorem dLw_1417 : decode cLw 1417 = .ok (.iconst 1, 1) := dL_law_1417
theorem dLw_1418 : decode cLw 1418 = .ok (.iadd, 1) := dL_law_1418
theorem dLw_1419 : decode cLw 1419 = .ok (.iaload, 1) := dL_law_1419
theorem dLw_1420 : decode cLw 1420 = .ok (.aload_n 0, 1) := dL_law_1420
theorem dLw_1421 : decode cLw 1421 = .ok (.iload_n 3, 1) := dL_law_1421
theorem dLw_1422 : decode cLw 1422 = .ok (.iconst 2, 1) := dL_law_1422
theorem dLw_1423 : decode cLw 1423 = .ok (.iadd, 1) := dL_law_1423
theorem dLw_1424 : decode cLw 1424 = .ok (.iaload, 1) := dL_law_1424
theorem dLw_1425 : decode cLw 1425 = .ok (.aload_n 0, 1) := dL_law_1425
theorem dLw_1426 : decode cLw 1426 = .ok (.iload_n 3, 1) := dL_law_1426
theorem dLw_1427 : decode cLw 1427 = .ok (.iconst 3, 1) := dL_law_1427
theorem dLw_1428 : decode cLw 1428 = .ok (.iadd, 1) := dL_law_1428
theorem dLw_1429 : decode cLw 1429 = .ok (.iaload, 1) := dL_law_1429
theorem dLw_1430 : decode cLw 1430 = .ok (.aload_n 0, 1) := dL_law_1430
theorem dLw_1431 : decode cLw 1431 = .ok (.iload_n 3, 1) := dL_law_1431
theorem dLw_1432 : decode cLw 1432 = .ok (.iconst 4, 1) := dL_law_1432
theorem dLw_1433 : decode cLw 1433 = .ok (.iadd, 1) := dL_law_1433
theorem dLw_1434 : decode cLw 1434 = .ok (.iaload, 1) := dL_law_1434
theorem dLw_1435 : decode cLw 1435 = .ok (.aload_n 0, 1) := dL_law_1435
theorem dLw_1436 : decode cLw 1436 = .ok (.iload_n 3, 1) := dL_law_1436
theorem dLw_1437 : decode cLw 1437 = .ok (.iconst 5, 1) := dL_law_1437
theorem dLw_1438 : decode cLw 1438 = .ok (.iadd, 1) := dL_law_1438
theorem dLw_1439 : decode cLw 1439 = .ok (.iaload, 1) := dL_law_1439
theorem dLw_1440 : decode cLw 1440 = .ok (.invokevirtual 168, 3) := dL_law_1440
theorem dLw_1443 : decode cLw 1443 = .ok (.if_icmp .eq 91, 3) := dL_law_1443
theorem dLw_1446 : decode cLw 1446 = .ok (.iconst 0, 1) := dL_law_1446
theorem dLw_1447 : decode cLw 1447 = .ok (.ireturn, 1) := dL_law_1447
theorem dLw_1448 : decode cLw 1448 = .ok (.aload_n 1, 1) := dL_law_1448
theorem dLw_1449 : decode cLw 1449 = .ok (.aload_n 0, 1) := dL_law_1449
theorem dLw_1450 : decode cLw 1450 = .ok (.iload_n 3, 1) := dL_law_1450
theorem dLw_1451 : decode cLw 1451 = .ok (.iconst 1, 1) := dL_law_1451
theorem dLw_1452 : decode cLw 1452 = .ok (.iadd, 1) := dL_law_1452
theorem dLw_1453 : decode cLw 1453 = .ok (.iaload, 1) := dL_law_1453
theorem dLw_1454 : decode cLw 1454 = .ok (.aload_n 0, 1) := dL_law_1454
theorem dLw_1455 : decode cLw 1455 = .ok (.iload_n 3, 1) := dL_law_1455
theorem dLw_1456 : decode cLw 1456 = .ok (.iconst 2, 1) := dL_law_1456
theorem dLw_1457 : decode cLw 1457 = .ok (.iadd, 1) := dL_law_1457
theorem dLw_1458 : decode cLw 1458 = .ok (.iaload, 1) := dL_law_1458
theorem dLw_1459 : decode cLw 1459 = .ok (.aload_n 0, 1) := dL_law_1459
theorem dLw_1460 : decode cLw 1460 = .ok (.iload_n 3, 1) := dL_law_1460
theorem dLw_1461 : decode cLw 1461 = .ok (.iconst 3, 1) := dL_law_1461
theorem dLw_1462 : decode cLw 1462 = .ok (.iadd, 1) := dL_law_1462
theorem dLw_1463 : decode cLw 1463 = .ok (.iaload, 1) := dL_law_1463
theorem dLw_1464 : decode cLw 1464 = .ok (.aload_n 0, 1) := dL_law_1464
theorem dLw_1465 : decode cLw 1465 = .ok (.iload_n 3, 1) := dL_law_1465
theorem dLw_1466 : decode cLw 1466 = .ok (.iconst 4, 1) := dL_law_1466
theorem dLw_1467 : decode cLw 1467 = .ok (.iadd, 1) := dL_law_1467
theorem dLw_1468 : decode cLw 1468 = .ok (.iaload, 1) := dL_law_1468
theorem dLw_1469 : decode cLw 1469 = .ok (.invokevirtual 169, 3) := dL_law_1469
theorem dLw_1472 : decode cLw 1472 = .ok (.aload_n 2, 1) := dL_law_1472
theorem dLw_1473 : decode cLw 1473 = .ok (.aload_n 0, 1) := dL_law_1473
theorem dLw_1474 : decode cLw 1474 = .ok (.iload_n 3, 1) := dL_law_1474
theorem dLw_1475 : decode cLw 1475 = .ok (.iconst 1, 1) := dL_law_1475
theorem dLw_1476 : decode cLw 1476 = .ok (.iadd, 1) := dL_law_1476
theorem dLw_1477 : decode cLw 1477 = .ok (.iaload, 1) := dL_law_1477
theorem dLw_1478 : decode cLw 1478 = .ok (.aload_n 0, 1) := dL_law_1478
theorem dLw_1479 : decode cLw 1479 = .ok (.iload_n 3, 1) := dL_law_1479
theorem dLw_1480 : decode cLw 1480 = .ok (.iconst 2, 1) := dL_law_1480
theorem dLw_1481 : decode cLw 1481 = .ok (.iadd, 1) := dL_law_1481
theorem dLw_1482 : decode cLw 1482 = .ok (.iaload, 1) := dL_law_1482
theorem dLw_1483 : decode cLw 1483 = .ok (.aload_n 0, 1) := dL_law_1483
theorem dLw_1484 : decode cLw 1484 = .ok (.iload_n 3, 1) := dL_law_1484
theorem dLw_1485 : decode cLw 1485 = .ok (.iconst 3, 1) := dL_law_1485
theorem dLw_1486 : decode cLw 1486 = .ok (.iadd, 1) := dL_law_1486
theorem dLw_1487 : decode cLw 1487 = .ok (.iaload, 1) := dL_law_1487
theorem dLw_1488 : decode cLw 1488 = .ok (.aload_n 0, 1) := dL_law_1488
theorem dLw_1489 : decode cLw 1489 = .ok (.iload_n 3, 1) := dL_law_1489
theorem dLw_1490 : decode cLw 1490 = .ok (.iconst 4, 1) := dL_law_1490
theorem dLw_1491 : decode cLw 1491 = .ok (.iadd, 1) := dL_law_1491
theorem dLw_1492 : decode cLw 1492 = .ok (.iaload, 1) := dL_law_1492
theorem dLw_1493 : decode cLw 1493 = .ok (.invokevirtual 172, 3) := dL_law_1493
theorem dLw_1496 : decode cLw 1496 = .ok (.if_icmp .eq 38, 3) := dL_law_1496
theorem dLw_1499 : decode cLw 1499 = .ok (.iconst 0, 1) := dL_law_1499
theorem dLw_1500 : decode cLw 1500 = .ok (.ireturn, 1) := dL_law_1500
theorem dLw_1501 : decode cLw 1501 = .ok (.aload_n 1, 1) := dL_law_1501
theorem dLw_1502 : decode cLw 1502 = .ok (.aload_n 0, 1) := dL_law_1502
theorem dLw_1503 : decode cLw 1503 = .ok (.iload_n 3, 1) := dL_law_1503
theorem dLw_1504 : decode cLw 1504 = .ok (.iconst 1, 1) := dL_law_1504
theorem dLw_1505 : decode cLw 1505 = .ok (.iadd, 1) := dL_law_1505
theorem dLw_1506 : decode cLw 1506 = .ok (.iaload, 1) := dL_law_1506
theorem dLw_1507 : decode cLw 1507 = .ok (.aload_n 0, 1) := dL_law_1507
theorem dLw_1508 : decode cLw 1508 = .ok (.iload_n 3, 1) := dL_law_1508
theorem dLw_1509 : decode cLw 1509 = .ok (.iconst 2, 1) := dL_law_1509
theorem dLw_1510 : decode cLw 1510 = .ok (.iadd, 1) := dL_law_1510
theorem dLw_1511 : decode cLw 1511 = .ok (.iaload, 1) := dL_law_1511
theorem dLw_1512 : decode cLw 1512 = .ok (.invokevirtual 173, 3) := dL_law_1512
theorem dLw_1515 : decode cLw 1515 = .ok (.aload_n 2, 1) := dL_law_1515
theorem dLw_1516 : decode cLw 1516 = .ok (.aload_n 0, 1) := dL_law_1516
theorem dLw_1517 : decode cLw 1517 = .ok (.iload_n 3, 1) := dL_law_1517
theorem dLw_1518 : decode cLw 1518 = .ok (.iconst 1, 1) := dL_law_1518
theorem dLw_1519 : decode cLw 1519 = .ok (.iadd, 1) := dL_law_1519
theorem dLw_1520 : decode cLw 1520 = .ok (.iaload, 1) := dL_law_1520
theorem dLw_1521 : decode cLw 1521 = .ok (.aload_n 0, 1) := dL_law_1521
theorem dLw_1522 : decode cLw 1522 = .ok (.iload_n 3, 1) := dL_law_1522
theorem dLw_1523 : decode cLw 1523 = .ok (.iconst 2, 1) := dL_law_1523
theorem dLw_1524 : decode cLw 1524 = .ok (.iadd, 1) := dL_law_1524
theorem dLw_1525 : decode cLw 1525 = .ok (.iaload, 1) := dL_law_1525
theorem dLw_1526 : decode cLw 1526 = .ok (.invokevirtual 176, 3) := dL_law_1526
theorem dLw_1529 : decode cLw 1529 = .ok (.if_icmp .eq 5, 3) := dL_law_1529
theorem dLw_1532 : decode cLw 1532 = .ok (.iconst 0, 1) := dL_law_1532
theorem dLw_1533 : decode cLw 1533 = .ok (.ireturn, 1) := dL_law_1533
theorem dLw_1534 : decode cLw 1534 = .ok (.iinc 3 7, 3) := dL_law_1534
theorem dLw_1537 : decode cLw 1537 = .ok (.goto (-1519), 3) := dL_law_1537
theorem dLw_1540 : decode cLw 1540 = .ok (.iconst 1, 1) := dL_law_1540
theorem dLw_1541 : decode cLw 1541 = .ok (.ireturn, 1) := dL_law_1541
theorem xtab {x : Int32} {n : Nat} (h : ∀ k, k < n → ¬ x.toInt = (k : Int)) : x.toInt < 0 ∨ (n : Int) - 1 < x.toInt := by
  by_cases h0 : x.toInt < 0
  · exact Or.inl h0
  · by_cases h1 : x.toInt.toNat < n
    · exact absurd (show x.toInt = ((x.toInt.toNat : Nat) : Int) by omega) (h _ h1)
    · exact Or.inr (by omega)
theorem kL_173 : xLnk RL 173 m_X10_taken 2 1 := ⟨⟨q969, q1, by decide +kernel, by decide⟩, Or.inl q966, ⟨q967, q968⟩⟩
theorem kL_176 : xLnk RL 176 m_X11_taken 2 1 := ⟨⟨q1487, q17, by decide +kernel, by decide⟩, Or.inl q1484, ⟨q1485, q1486⟩⟩
theorem kL_169 : xLnk RL 169 m_X10_cartsBy 4 1 := ⟨⟨q964, q1, by decide +kernel, by decide⟩, Or.inl q961, ⟨q962, q963⟩⟩
theorem kL_172 : xLnk RL 172 m_X11_cartsBy 4 1 := ⟨⟨q1482, q17, by decide +kernel, by decide⟩, Or.inl q1479, ⟨q1480, q1481⟩⟩
theorem kL_165 : xLnk RL 165 m_X10_copy 5 1 := ⟨⟨q955, q1, by decide +kernel, by decide⟩, Or.inl q952, ⟨q953, q954⟩⟩
theorem kL_168 : xLnk RL 168 m_X11_copy 5 1 := ⟨⟨q1478, q17, by decide +kernel, by decide⟩, Or.inl q1475, ⟨q1476, q1477⟩⟩
theorem kL_161 : xLnk RL 161 m_X10_cell 3 1 := ⟨⟨q951, q1, by decide +kernel, by decide⟩, Or.inl q948, ⟨q949, q950⟩⟩
theorem kL_164 : xLnk RL 164 m_X11_cell 3 1 := ⟨⟨q1474, q17, by decide +kernel, by decide⟩, Or.inl q1471, ⟨q1472, q1473⟩⟩
theorem kL_157 : xLnk RL 157 m_X10_sheet 3 1 := ⟨⟨q947, q1, by decide +kernel, by decide⟩, Or.inl q944, ⟨q945, q946⟩⟩
theorem kL_160 : xLnk RL 160 m_X11_sheet 3 1 := ⟨⟨q1470, q17, by decide +kernel, by decide⟩, Or.inl q1467, ⟨q1468, q1469⟩⟩
theorem kL_153 : xLnk RL 153 m_X10_back 0 1 := ⟨⟨q938, q1, by decide +kernel, by decide⟩, Or.inl q935, ⟨q936, q937⟩⟩
theorem kL_156 : xLnk RL 156 m_X11_back 0 1 := ⟨⟨q1466, q17, by decide +kernel, by decide⟩, Or.inl q1463, ⟨q1464, q1465⟩⟩
theorem kL_149 : xLnk RL 149 m_X10_image 0 1 := ⟨⟨q929, q1, by decide +kernel, by decide⟩, Or.inl q926, ⟨q927, q928⟩⟩
theorem kL_152 : xLnk RL 152 m_X11_image 0 1 := ⟨⟨q1462, q17, by decide +kernel, by decide⟩, Or.inl q1459, ⟨q1460, q1461⟩⟩
theorem kL_144 : xLnk RL 144 m_X10_odds 4 1 := ⟨⟨q921, q1, by decide +kernel, by decide⟩, Or.inl q918, ⟨q919, q920⟩⟩
theorem kL_148 : xLnk RL 148 m_X11_odds 4 1 := ⟨⟨q1454, q17, by decide +kernel, by decide⟩, Or.inl q1451, ⟨q1452, q1453⟩⟩
theorem kL_140 : xLnk RL 140 m_X10_drawn 2 1 := ⟨⟨q902, q1, by decide +kernel, by decide⟩, Or.inl q899, ⟨q900, q901⟩⟩
theorem kL_143 : xLnk RL 143 m_X11_drawn 2 1 := ⟨⟨q1442, q17, by decide +kernel, by decide⟩, Or.inl q1439, ⟨q1440, q1441⟩⟩
theorem kL_136 : xLnk RL 136 m_X10_lost 4 1 := ⟨⟨q895, q1, by decide +kernel, by decide⟩, Or.inl q892, ⟨q893, q894⟩⟩
theorem kL_139 : xLnk RL 139 m_X11_lost 4 1 := ⟨⟨q1438, q17, by decide +kernel, by decide⟩, Or.inl q1435, ⟨q1436, q1437⟩⟩
theorem kL_132 : xLnk RL 132 m_X10_film 1 1 := ⟨⟨q882, q1, by decide +kernel, by decide⟩, Or.inl q879, ⟨q880, q881⟩⟩
theorem kL_135 : xLnk RL 135 m_X11_film 1 1 := ⟨⟨q1430, q17, by decide +kernel, by decide⟩, Or.inl q1427, ⟨q1428, q1429⟩⟩
theorem kL_128 : xLnk RL 128 m_X10_laws 1 1 := ⟨⟨q874, q1, by decide +kernel, by decide⟩, Or.inl q871, ⟨q872, q873⟩⟩
theorem kL_131 : xLnk RL 131 m_X11_laws 1 1 := ⟨⟨q1422, q17, by decide +kernel, by decide⟩, Or.inl q1419, ⟨q1420, q1421⟩⟩
theorem kL_124 : xLnk RL 124 m_X10_judge 1 1 := ⟨⟨q859, q1, by decide +kernel, by decide⟩, Or.inl q856, ⟨q857, q858⟩⟩
theorem kL_127 : xLnk RL 127 m_X11_judge 1 1 := ⟨⟨q1410, q17, by decide +kernel, by decide⟩, Or.inl q1407, ⟨q1408, q1409⟩⟩
theorem kL_120 : xLnk RL 120 m_X10_bring 2 1 := ⟨⟨q855, q1, by decide +kernel, by decide⟩, Or.inl q852, ⟨q853, q854⟩⟩
theorem kL_123 : xLnk RL 123 m_X11_bring 2 1 := ⟨⟨q1406, q17, by decide +kernel, by decide⟩, Or.inl q1403, ⟨q1404, q1405⟩⟩
theorem kL_116 : xLnk RL 116 m_X10_gain 1 1 := ⟨⟨q850, q1, by decide +kernel, by decide⟩, Or.inl q847, ⟨q848, q849⟩⟩
theorem kL_119 : xLnk RL 119 m_X11_gain 1 1 := ⟨⟨q1402, q17, by decide +kernel, by decide⟩, Or.inl q1399, ⟨q1400, q1401⟩⟩
theorem kL_112 : xLnk RL 112 m_X10_hold 1 1 := ⟨⟨q846, q1, by decide +kernel, by decide⟩, Or.inl q843, ⟨q844, q845⟩⟩
theorem kL_115 : xLnk RL 115 m_X11_hold 1 1 := ⟨⟨q1394, q17, by decide +kernel, by decide⟩, Or.inl q1391, ⟨q1392, q1393⟩⟩
theorem kL_108 : xLnk RL 108 m_X10_goes 2 1 := ⟨⟨q830, q1, by decide +kernel, by decide⟩, Or.inl q827, ⟨q828, q829⟩⟩
theorem kL_111 : xLnk RL 111 m_X11_goes 2 1 := ⟨⟨q1390, q17, by decide +kernel, by decide⟩, Or.inl q1387, ⟨q1388, q1389⟩⟩
theorem kL_104 : xLnk RL 104 m_X10_dusk 2 1 := ⟨⟨q802, q1, by decide +kernel, by decide⟩, Or.inl q799, ⟨q800, q801⟩⟩
theorem kL_107 : xLnk RL 107 m_X11_dusk 2 1 := ⟨⟨q1378, q17, by decide +kernel, by decide⟩, Or.inl q1375, ⟨q1376, q1377⟩⟩
theorem kL_100 : xLnk RL 100 m_X10_best 2 1 := ⟨⟨q791, q1, by decide +kernel, by decide⟩, Or.inl q788, ⟨q789, q790⟩⟩
theorem kL_103 : xLnk RL 103 m_X11_best 2 1 := ⟨⟨q1367, q17, by decide +kernel, by decide⟩, Or.inl q1364, ⟨q1365, q1366⟩⟩
theorem kL_96 : xLnk RL 96 m_X10_against 2 1 := ⟨⟨q779, q1, by decide +kernel, by decide⟩, Or.inl q776, ⟨q777, q778⟩⟩
theorem kL_99 : xLnk RL 99 m_X11_against 2 1 := ⟨⟨q1363, q17, by decide +kernel, by decide⟩, Or.inl q1360, ⟨q1361, q1362⟩⟩
theorem kL_92 : xLnk RL 92 m_X10_pairs 2 1 := ⟨⟨q742, q1, by decide +kernel, by decide⟩, Or.inl q739, ⟨q740, q741⟩⟩
theorem kL_95 : xLnk RL 95 m_X11_pairs 2 1 := ⟨⟨q1346, q17, by decide +kernel, by decide⟩, Or.inl q1343, ⟨q1344, q1345⟩⟩
theorem kL_88 : xLnk RL 88 m_X10_scales 3 1 := ⟨⟨q680, q1, by decide +kernel, by decide⟩, Or.inl q677, ⟨q678, q679⟩⟩
theorem kL_91 : xLnk RL 91 m_X11_scales 3 1 := ⟨⟨q1327, q17, by decide +kernel, by decide⟩, Or.inl q1324, ⟨q1325, q1326⟩⟩
theorem kL_84 : xLnk RL 84 m_X10_falsely 1 1 := ⟨⟨q668, q1, by decide +kernel, by decide⟩, Or.inl q665, ⟨q666, q667⟩⟩
theorem kL_87 : xLnk RL 87 m_X11_falsely 1 1 := ⟨⟨q1323, q17, by decide +kernel, by decide⟩, Or.inl q1320, ⟨q1321, q1322⟩⟩
theorem kL_80 : xLnk RL 80 m_X10_own 2 1 := ⟨⟨q659, q1, by decide +kernel, by decide⟩, Or.inl q656, ⟨q657, q658⟩⟩
theorem kL_83 : xLnk RL 83 m_X11_own 2 1 := ⟨⟨q1319, q17, by decide +kernel, by decide⟩, Or.inl q1316, ⟨q1317, q1318⟩⟩
theorem kL_76 : xLnk RL 76 m_X10_makings 2 1 := ⟨⟨q650, q1, by decide +kernel, by decide⟩, Or.inl q647, ⟨q648, q649⟩⟩
theorem kL_79 : xLnk RL 79 m_X11_makings 2 1 := ⟨⟨q1315, q17, by decide +kernel, by decide⟩, Or.inl q1312, ⟨q1313, q1314⟩⟩
theorem kL_72 : xLnk RL 72 m_X10_make 1 1 := ⟨⟨q639, q1, by decide +kernel, by decide⟩, Or.inl q636, ⟨q637, q638⟩⟩
theorem kL_75 : xLnk RL 75 m_X11_make 1 1 := ⟨⟨q1300, q17, by decide +kernel, by decide⟩, Or.inl q1297, ⟨q1298, q1299⟩⟩
theorem kL_68 : xLnk RL 68 m_X10_at 3 1 := ⟨⟨q618, q1, by decide +kernel, by decide⟩, Or.inl q615, ⟨q616, q617⟩⟩
theorem kL_71 : xLnk RL 71 m_X11_at 3 1 := ⟨⟨q1281, q17, by decide +kernel, by decide⟩, Or.inl q1278, ⟨q1279, q1280⟩⟩
theorem kL_64 : xLnk RL 64 m_X10_cartTold 2 1 := ⟨⟨q614, q1, by decide +kernel, by decide⟩, Or.inl q611, ⟨q612, q613⟩⟩
theorem kL_67 : xLnk RL 67 m_X11_cartTold 2 1 := ⟨⟨q1277, q17, by decide +kernel, by decide⟩, Or.inl q1274, ⟨q1275, q1276⟩⟩
theorem kL_59 : xLnk RL 59 m_X10_set 3 1 := ⟨⟨q599, q1, by decide +kernel, by decide⟩, Or.inl q596, ⟨q597, q598⟩⟩
theorem kL_63 : xLnk RL 63 m_X11_set 3 1 := ⟨⟨q1269, q17, by decide +kernel, by decide⟩, Or.inl q1266, ⟨q1267, q1268⟩⟩
theorem kL_54 : xLnk RL 54 m_X10_cart 5 1 := ⟨⟨q595, q1, by decide +kernel, by decide⟩, Or.inl q592, ⟨q593, q594⟩⟩
theorem kL_58 : xLnk RL 58 m_X11_cart 5 1 := ⟨⟨q1265, q17, by decide +kernel, by decide⟩, Or.inl q1262, ⟨q1263, q1264⟩⟩
theorem kL_49 : xLnk RL 49 m_X10_asks 4 1 := ⟨⟨q573, q1, by decide +kernel, by decide⟩, Or.inl q570, ⟨q571, q572⟩⟩
theorem kL_53 : xLnk RL 53 m_X11_asks 4 1 := ⟨⟨q1246, q17, by decide +kernel, by decide⟩, Or.inl q1243, ⟨q1244, q1245⟩⟩
theorem kL_45 : xLnk RL 45 m_X10_force 1 1 := ⟨⟨q569, q1, by decide +kernel, by decide⟩, Or.inl q566, ⟨q567, q568⟩⟩
theorem kL_48 : xLnk RL 48 m_X11_force 1 1 := ⟨⟨q1242, q17, by decide +kernel, by decide⟩, Or.inl q1239, ⟨q1240, q1241⟩⟩
theorem kL_41 : xLnk RL 41 m_X10_text 0 1 := ⟨⟨q565, q1, by decide +kernel, by decide⟩, Or.inl q562, ⟨q563, q564⟩⟩
theorem kL_44 : xLnk RL 44 m_X11_text 0 1 := ⟨⟨q983, q17, by decide +kernel, by decide⟩, Or.inl q1238, ⟨q981, q982⟩⟩
theorem kL_36 : xLnk RL 36 m_X10_feed 6 1 := ⟨⟨q558, q1, by decide +kernel, by decide⟩, Or.inl q555, ⟨q556, q557⟩⟩
theorem kL_40 : xLnk RL 40 m_X11_feed 6 1 := ⟨⟨q1234, q17, by decide +kernel, by decide⟩, Or.inl q1231, ⟨q1232, q1233⟩⟩
theorem kL_32 : xLnk RL 32 m_X10_count 1 1 := ⟨⟨q554, q1, by decide +kernel, by decide⟩, Or.inl q551, ⟨q552, q553⟩⟩
theorem kL_35 : xLnk RL 35 m_X11_count 1 1 := ⟨⟨q1230, q17, by decide +kernel, by decide⟩, Or.inl q1227, ⟨q1228, q1229⟩⟩
theorem kL_28 : xLnk RL 28 m_X10_stoneTold 1 1 := ⟨⟨q550, q1, by decide +kernel, by decide⟩, Or.inl q547, ⟨q548, q549⟩⟩
theorem kL_31 : xLnk RL 31 m_X11_stoneTold 1 1 := ⟨⟨q1226, q17, by decide +kernel, by decide⟩, Or.inl q1223, ⟨q1224, q1225⟩⟩
theorem kL_23 : xLnk RL 23 m_X10_sell 0 1 := ⟨⟨q546, q1, by decide +kernel, by decide⟩, Or.inl q543, ⟨q544, q545⟩⟩
theorem kL_27 : xLnk RL 27 m_X11_sell 0 1 := ⟨⟨q1222, q17, by decide +kernel, by decide⟩, Or.inl q1219, ⟨q1220, q1221⟩⟩
theorem kL_18 : xLnk RL 18 m_X10_stone 1 1 := ⟨⟨q541, q1, by decide +kernel, by decide⟩, Or.inl q538, ⟨q539, q540⟩⟩
theorem kL_22 : xLnk RL 22 m_X11_stone 1 1 := ⟨⟨q1218, q17, by decide +kernel, by decide⟩, Or.inl q1215, ⟨q1216, q1217⟩⟩
theorem kL_13 : xLnk RL 13 m_X10_scale 2 1 := ⟨⟨q534, q1, by decide +kernel, by decide⟩, Or.inl q531, ⟨q532, q533⟩⟩
theorem kL_17 : xLnk RL 17 m_X11_scale 2 1 := ⟨⟨q1214, q17, by decide +kernel, by decide⟩, Or.inl q1211, ⟨q1212, q1213⟩⟩
theorem kL_9 : xLnk RL 9 m_X10_init 0 2 := ⟨⟨q24, q1, by decide +kernel, by decide⟩, Or.inl q22, ⟨q23, rfl, rfl⟩⟩
theorem kL_12 : xLnk RL 12 m_X11_init 0 2 := ⟨⟨q978, q17, by decide +kernel, by decide⟩, Or.inl q976, ⟨q977, rfl, rfl⟩⟩
