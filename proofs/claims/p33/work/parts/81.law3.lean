theorem dL_law_0 : decode code 0 = .ok (.new 7, 3) := by decide +kernel
theorem dL_law_3 : decode code 3 = .ok (.dup, 1) := by decide +kernel
theorem dL_law_4 : decode code 4 = .ok (.invokespecial 9, 3) := by decide +kernel
theorem dL_law_7 : decode code 7 = .ok (.astore_n 1, 1) := by decide +kernel
theorem dL_law_8 : decode code 8 = .ok (.new 10, 3) := by decide +kernel
theorem dL_law_11 : decode code 11 = .ok (.dup, 1) := by decide +kernel
theorem dL_law_12 : decode code 12 = .ok (.invokespecial 12, 3) := by decide +kernel
theorem dL_law_15 : decode code 15 = .ok (.astore_n 2, 1) := by decide +kernel
theorem dL_law_16 : decode code 16 = .ok (.iconst 0, 1) := by decide +kernel
theorem dL_law_17 : decode code 17 = .ok (.istore_n 3, 1) := by decide +kernel
theorem dL_law_18 : decode code 18 = .ok (.iload_n 3, 1) := by decide +kernel
theorem dL_law_19 : decode code 19 = .ok (.aload_n 0, 1) := by decide +kernel
theorem dL_law_20 : decode code 20 = .ok (.arraylength, 1) := by decide +kernel
theorem dL_law_21 : decode code 21 = .ok (.iconst 5, 1) := by decide +kernel
theorem dL_law_22 : decode code 22 = .ok (.isub, 1) := by decide +kernel
theorem dL_law_23 : decode code 23 = .ok (.if_icmp .gt 1296, 3) := by decide +kernel
theorem dL_law_26 : decode code 26 = .ok (.aload_n 0, 1) := by decide +kernel
theorem dL_law_27 : decode code 27 = .ok (.iload_n 3, 1) := by decide +kernel
theorem dL_law_28 : decode code 28 = .ok (.iaload, 1) := by decide +kernel
theorem dL_law_29 : decode code 29 = .ok (.bipush 63, 2) := by decide +kernel
theorem dL_law_31 : decode code 31 = .ok (.iand, 1) := by decide +kernel
theorem dL_law_32 : decode code 32 = .ok (.tableswitch 1281 0 34 #[156, 199, 242, 265, 288, 321, 354, 387, 420, 453, 496, 529, 572, 605, 628, 651, 664, 697, 740, 763, 816, 859, 902, 935, 968, 1011, 1044, 1087, 1140, 1163, 1176, 1209, 1222, 1245, 1268], 156) := by decide +kernel
theorem dL_law_188 : decode code 188 = .ok (.aload_n 1, 1) := by decide +kernel
theorem dL_law_189 : decode code 189 = .ok (.aload_n 0, 1) := by decide +kernel
theorem dL_law_190 : decode code 190 = .ok (.iload_n 3, 1) := by decide +kernel
theorem dL_law_191 : decode code 191 = .ok (.iconst 1, 1) := by decide +kernel
theorem dL_law_192 : decode code 192 = .ok (.iadd, 1) := by decide +kernel
theorem dL_law_193 : decode code 193 = .ok (.iaload, 1) := by decide +kernel
theorem dL_law_194 : decode code 194 = .ok (.aload_n 0, 1) := by decide +kernel
theorem dL_law_195 : decode code 195 = .ok (.iload_n 3, 1) := by decide +kernel
theorem dL_law_196 : decode code 196 = .ok (.iconst 2, 1) := by decide +kernel
theorem dL_law_197 : decode code 197 = .ok (.iadd, 1) := by decide +kernel
theorem dL_law_198 : decode code 198 = .ok (.iaload, 1) := by decide +kernel
theorem dL_law_199 : decode code 199 = .ok (.aload_n 0, 1) := by decide +kernel
theorem dL_law_200 : decode code 200 = .ok (.iload_n 3, 1) := by decide +kernel
theorem dL_law_201 : decode code 201 = .ok (.iconst 3, 1) := by decide +kernel
theorem dL_law_202 : decode code 202 = .ok (.iadd, 1) := by decide +kernel
theorem dL_law_203 : decode code 203 = .ok (.iaload, 1) := by decide +kernel
theorem dL_law_204 : decode code 204 = .ok (.invokevirtual 13, 3) := by decide +kernel
theorem dL_law_207 : decode code 207 = .ok (.pop, 1) := by decide +kernel
theorem dL_law_208 : decode code 208 = .ok (.aload_n 2, 1) := by decide +kernel
theorem dL_law_209 : decode code 209 = .ok (.aload_n 0, 1) := by decide +kernel
theorem dL_law_210 : decode code 210 = .ok (.iload_n 3, 1) := by decide +kernel
theorem dL_law_211 : decode code 211 = .ok (.iconst 1, 1) := by decide +kernel
theorem dL_law_212 : decode code 212 = .ok (.iadd, 1) := by decide +kernel
theorem dL_law_213 : decode code 213 = .ok (.iaload, 1) := by decide +kernel
theorem dL_law_214 : decode code 214 = .ok (.aload_n 0, 1) := by decide +kernel
theorem dL_law_215 : decode code 215 = .ok (.iload_n 3, 1) := by decide +kernel
theorem dL_law_216 : decode code 216 = .ok (.iconst 2, 1) := by decide +kernel
theorem dL_law_217 : decode code 217 = .ok (.iadd, 1) := by decide +kernel
theorem dL_law_218 : decode code 218 = .ok (.iaload, 1) := by decide +kernel
theorem dL_law_219 : decode code 219 = .ok (.aload_n 0, 1) := by decide +kernel
theorem dL_law_220 : decode code 220 = .ok (.iload_n 3, 1) := by decide +kernel
theorem dL_law_221 : decode code 221 = .ok (.iconst 3, 1) := by decide +kernel
theorem dL_law_222 : decode code 222 = .ok (.iadd, 1) := by decide +kernel
theorem dL_law_223 : decode code 223 = .ok (.iaload, 1) := by decide +kernel
theorem dL_law_224 : decode code 224 = .ok (.invokevirtual 17, 3) := by decide +kernel
theorem dL_law_227 : decode code 227 = .ok (.pop, 1) := by decide +kernel
theorem dL_law_228 : decode code 228 = .ok (.goto 1085, 3) := by decide +kernel
theorem dL_law_231 : decode code 231 = .ok (.aload_n 1, 1) := by decide +kernel
theorem dL_law_232 : decode code 232 = .ok (.aload_n 0, 1) := by decide +kernel
theorem dL_law_233 : decode code 233 = .ok (.iload_n 3, 1) := by decide +kernel
theorem dL_law_234 : decode code 234 = .ok (.iconst 1, 1) := by decide +kernel
theorem dL_law_235 : decode code 235 = .ok (.iadd, 1) := by decide +kernel
theorem dL_law_236 : decode code 236 = .ok (.iaload, 1) := by decide +kernel
theorem dL_law_237 : decode code 237 = .ok (.aload_n 0, 1) := by decide +kernel
theorem dL_law_238 : decode code 238 = .ok (.iload_n 3, 1) := by decide +kernel
theorem dL_law_239 : decode code 239 = .ok (.iconst 2, 1) := by decide +kernel
theorem dL_law_240 : decode code 240 = .ok (.iadd, 1) := by decide +kernel
theorem dL_law_241 : decode code 241 = .ok (.iaload, 1) := by decide +kernel
theorem dL_law_242 : decode code 242 = .ok (.aload_n 0, 1) := by decide +kernel
theorem dL_law_243 : decode code 243 = .ok (.iload_n 3, 1) := by decide +kernel
theorem dL_law_244 : decode code 244 = .ok (.iconst 3, 1) := by decide +kernel
theorem dL_law_245 : decode code 245 = .ok (.iadd, 1) := by decide +kernel
theorem dL_law_246 : decode code 246 = .ok (.iaload, 1) := by decide +kernel
theorem dL_law_247 : decode code 247 = .ok (.invokevirtual 18, 3) := by decide +kernel
theorem dL_law_250 : decode code 250 = .ok (.pop, 1) := by decide +kernel
theorem dL_law_251 : decode code 251 = .ok (.aload_n 2, 1) := by decide +kernel
theorem dL_law_252 : decode code 252 = .ok (.aload_n 0, 1) := by decide +kernel
theorem dL_law_253 : decode code 253 = .ok (.iload_n 3, 1) := by decide +kernel
theorem dL_law_254 : decode code 254 = .ok (.iconst 1, 1) := by decide +kernel
theorem dL_law_255 : decode code 255 = .ok (.iadd, 1) := by decide +kernel
theorem dL_law_256 : decode code 256 = .ok (.iaload, 1) := by decide +kernel
theorem dL_law_257 : decode code 257 = .ok (.aload_n 0, 1) := by decide +kernel
theorem dL_law_258 : decode code 258 = .ok (.iload_n 3, 1) := by decide +kernel
theorem dL_law_259 : decode code 259 = .ok (.iconst 2, 1) := by decide +kernel
theorem dL_law_260 : decode code 260 = .ok (.iadd, 1) := by decide +kernel
theorem dL_law_261 : decode code 261 = .ok (.iaload, 1) := by decide +kernel
theorem dL_law_262 : decode code 262 = .ok (.aload_n 0, 1) := by decide +kernel
theorem dL_law_263 : decode code 263 = .ok (.iload_n 3, 1) := by decide +kernel
theorem dL_law_264 : decode code 264 = .ok (.iconst 3, 1) := by decide +kernel
theorem dL_law_265 : decode code 265 = .ok (.iadd, 1) := by decide +kernel
theorem dL_law_266 : decode code 266 = .ok (.iaload, 1) := by decide +kernel
theorem dL_law_267 : decode code 267 = .ok (.invokevirtual 21, 3) := by decide +kernel
theorem dL_law_270 : decode code 270 = .ok (.pop, 1) := by decide +kernel
theorem dL_law_271 : decode code 271 = .ok (.goto 1042, 3) := by decide +kernel
theorem dL_law_274 : decode code 274 = .ok (.aload_n 1, 1) := by decide +kernel
theorem dL_law_275 : decode code 275 = .ok (.aload_n 0, 1) := by decide +kernel
theorem dL_law_276 : decode code 276 = .ok (.iload_n 3, 1) := by decide +kernel
theorem dL_law_277 : decode code 277 = .ok (.iconst 1, 1) := by decide +kernel
theorem dL_law_278 : decode code 278 = .ok (.iadd, 1) := by decide +kernel
theorem dL_law_279 : decode code 279 = .ok (.iaload, 1) := by decide +kernel
theorem dL_law_280 : decode code 280 = .ok (.invokevirtual 22, 3) := by decide +kernel
theorem dL_law_283 : decode code 283 = .ok (.pop, 1) := by decide +kernel
theorem dL_law_284 : decode code 284 = .ok (.aload_n 2, 1) := by decide +kernel
theorem dL_law_285 : decode code 285 = .ok (.aload_n 0, 1) := by decide +kernel
theorem dL_law_286 : decode code 286 = .ok (.iload_n 3, 1) := by decide +kernel
theorem dL_law_287 : decode code 287 = .ok (.iconst 1, 1) := by decide +kernel
theorem dL_law_288 : decode code 288 = .ok (.iadd, 1) := by decide +kernel
theorem dL_law_289 : decode code 289 = .ok (.iaload, 1) := by decide +kernel
theorem dL_law_290 : decode code 290 = .ok (.invokevirtual 26, 3) := by decide +kernel
theorem dL_law_293 : decode code 293 = .ok (.pop, 1) := by decide +kernel
theorem dL_law_294 : decode code 294 = .ok (.goto 1019, 3) := by decide +kernel
theorem dL_law_297 : decode code 297 = .ok (.aload_n 1, 1) := by decide +kernel
theorem dL_law_298 : decode code 298 = .ok (.aload_n 0, 1) := by decide +kernel
theorem dL_law_299 : decode code 299 = .ok (.iload_n 3, 1) := by decide +kernel
theorem dL_law_300 : decode code 300 = .ok (.iconst 1, 1) := by decide +kernel
theorem dL_law_301 : decode code 301 = .ok (.iadd, 1) := by decide +kernel
theorem dL_law_302 : decode code 302 = .ok (.iaload, 1) := by decide +kernel
theorem dL_law_303 : decode code 303 = .ok (.invokevirtual 27, 3) := by decide +kernel
theorem dL_law_306 : decode code 306 = .ok (.pop, 1) := by decide +kernel
theorem dL_law_307 : decode code 307 = .ok (.aload_n 2, 1) := by decide +kernel
theorem dL_law_308 : decode code 308 = .ok (.aload_n 0, 1) := by decide +kernel
theorem dL_law_309 : decode code 309 = .ok (.iload_n 3, 1) := by decide +kernel
theorem dL_law_310 : decode code 310 = .ok (.iconst 1, 1) := by decide +kernel
theorem dL_law_311 : decode code 311 = .ok (.iadd, 1) := by decide +kernel
theorem dL_law_312 : decode code 312 = .ok (.iaload, 1) := by decide +kernel
theorem dL_law_313 : decode code 313 = .ok (.invokevirtual 30, 3) := by decide +kernel
theorem dL_law_316 : decode code 316 = .ok (.pop, 1) := by decide +kernel
theorem dL_law_317 : decode code 317 = .ok (.goto 996, 3) := by decide +kernel
theorem dL_law_320 : decode code 320 = .ok (.aload_n 1, 1) := by decide +kernel
theorem dL_law_321 : decode code 321 = .ok (.aload_n 0, 1) := by decide +kernel
theorem dL_law_322 : decode code 322 = .ok (.iload_n 3, 1) := by decide +kernel
theorem dL_law_323 : decode code 323 = .ok (.iconst 1, 1) := by decide +kernel
theorem dL_law_324 : decode code 324 = .ok (.iadd, 1) := by decide +kernel
theorem dL_law_325 : decode code 325 = .ok (.iaload, 1) := by decide +kernel
theorem dL_law_326 : decode code 326 = .ok (.aload_n 0, 1) := by decide +kernel
theorem dL_law_327 : decode code 327 = .ok (.iload_n 3, 1) := by decide +kernel
theorem dL_law_328 : decode code 328 = .ok (.iconst 2, 1) := by decide +kernel
theorem dL_law_329 : decode code 329 = .ok (.iadd, 1) := by decide +kernel
theorem dL_law_330 : decode code 330 = .ok (.iaload, 1) := by decide +kernel
theorem dL_law_331 : decode code 331 = .ok (.invokevirtual 31, 3) := by decide +kernel
theorem dL_law_334 : decode code 334 = .ok (.pop, 1) := by decide +kernel
theorem dL_law_335 : decode code 335 = .ok (.aload_n 2, 1) := by decide +kernel
theorem dL_law_336 : decode code 336 = .ok (.aload_n 0, 1) := by decide +kernel
theorem dL_law_337 : decode code 337 = .ok (.iload_n 3, 1) := by decide +kernel
theorem dL_law_338 : decode code 338 = .ok (.iconst 1, 1) := by decide +kernel
theorem dL_law_339 : decode code 339 = .ok (.iadd, 1) := by decide +kernel
theorem dL_law_340 : decode code 340 = .ok (.iaload, 1) := by decide +kernel
theorem dL_law_341 : decode code 341 = .ok (.aload_n 0, 1) := by decide +kernel
theorem dL_law_342 : decode code 342 = .ok (.iload_n 3, 1) := by decide +kernel
theorem dL_law_343 : decode code 343 = .ok (.iconst 2, 1) := by decide +kernel
theorem dL_law_344 : decode code 344 = .ok (.iadd, 1) := by decide +kernel
theorem dL_law_345 : decode code 345 = .ok (.iaload, 1) := by decide +kernel
theorem dL_law_346 : decode code 346 = .ok (.invokevirtual 35, 3) := by decide +kernel
theorem dL_law_349 : decode code 349 = .ok (.pop, 1) := by decide +kernel
theorem dL_law_350 : decode code 350 = .ok (.goto 963, 3) := by decide +kernel
theorem dL_law_353 : decode code 353 = .ok (.aload_n 1, 1) := by decide +kernel
theorem dL_law_354 : decode code 354 = .ok (.aload_n 0, 1) := by decide +kernel
theorem dL_law_355 : decode code 355 = .ok (.iload_n 3, 1) := by decide +kernel
theorem dL_law_356 : decode code 356 = .ok (.iconst 1, 1) := by decide +kernel
theorem dL_law_357 : decode code 357 = .ok (.iadd, 1) := by decide +kernel
theorem dL_law_358 : decode code 358 = .ok (.iaload, 1) := by decide +kernel
theorem dL_law_359 : decode code 359 = .ok (.aload_n 0, 1) := by decide +kernel
theorem dL_law_360 : decode code 360 = .ok (.iload_n 3, 1) := by decide +kernel
theorem dL_law_361 : decode code 361 = .ok (.iconst 2, 1) := by decide +kernel
theorem dL_law_362 : decode code 362 = .ok (.iadd, 1) := by decide +kernel
theorem dL_law_363 : decode code 363 = .ok (.iaload, 1) := by decide +kernel
theorem dL_law_364 : decode code 364 = .ok (.invokevirtual 36, 3) := by decide +kernel
theorem dL_law_367 : decode code 367 = .ok (.pop, 1) := by decide +kernel
theorem dL_law_368 : decode code 368 = .ok (.aload_n 2, 1) := by decide +kernel
theorem dL_law_369 : decode code 369 = .ok (.aload_n 0, 1) := by decide +kernel
theorem dL_law_370 : decode code 370 = .ok (.iload_n 3, 1) := by decide +kernel
theorem dL_law_371 : decode code 371 = .ok (.iconst 1, 1) := by decide +kernel
theorem dL_law_372 : decode code 372 = .ok (.iadd, 1) := by decide +kernel
theorem dL_law_373 : decode code 373 = .ok (.iaload, 1) := by decide +kernel
theorem dL_law_374 : decode code 374 = .ok (.aload_n 0, 1) := by decide +kernel
theorem dL_law_375 : decode code 375 = .ok (.iload_n 3, 1) := by decide +kernel
theorem dL_law_376 : decode code 376 = .ok (.iconst 2, 1) := by decide +kernel
theorem dL_law_377 : decode code 377 = .ok (.iadd, 1) := by decide +kernel
theorem dL_law_378 : decode code 378 = .ok (.iaload, 1) := by decide +kernel
theorem dL_law_379 : decode code 379 = .ok (.invokevirtual 39, 3) := by decide +kernel
theorem dL_law_382 : decode code 382 = .ok (.pop, 1) := by decide +kernel
theorem dL_law_383 : decode code 383 = .ok (.goto 930, 3) := by decide +kernel
theorem dL_law_386 : decode code 386 = .ok (.aload_n 1, 1) := by decide +kernel
theorem dL_law_387 : decode code 387 = .ok (.aload_n 0, 1) := by decide +kernel
theorem dL_law_388 : decode code 388 = .ok (.iload_n 3, 1) := by decide +kernel
theorem dL_law_389 : decode code 389 = .ok (.iconst 1, 1) := by decide +kernel
theorem dL_law_390 : decode code 390 = .ok (.iadd, 1) := by decide +kernel
theorem dL_law_391 : decode code 391 = .ok (.iaload, 1) := by decide +kernel
theorem dL_law_392 : decode code 392 = .ok (.aload_n 0, 1) := by decide +kernel
theorem dL_law_393 : decode code 393 = .ok (.iload_n 3, 1) := by decide +kernel
theorem dL_law_394 : decode code 394 = .ok (.iconst 2, 1) := by decide +kernel
theorem dL_law_395 : decode code 395 = .ok (.iadd, 1) := by decide +kernel
theorem dL_law_396 : decode code 396 = .ok (.iaload, 1) := by decide +kernel
theorem dL_law_397 : decode code 397 = .ok (.invokevirtual 40, 3) := by decide +kernel
theorem dL_law_400 : decode code 400 = .ok (.pop, 1) := by decide +kernel
theorem dL_law_401 : decode code 401 = .ok (.aload_n 2, 1) := by decide +kernel
theorem dL_law_402 : decode code 402 = .ok (.aload_n 0, 1) := by decide +kernel
theorem dL_law_403 : decode code 403 = .ok (.iload_n 3, 1) := by decide +kernel
theorem dL_law_404 : decode code 404 = .ok (.iconst 1, 1) := by decide +kernel
theorem dL_law_405 : decode code 405 = .ok (.iadd, 1) := by decide +kernel
theorem dL_law_406 : decode code 406 = .ok (.iaload, 1) := by decide +kernel
theorem dL_law_407 : decode code 407 = .ok (.aload_n 0, 1) := by decide +kernel
theorem dL_law_408 : decode code 408 = .ok (.iload_n 3, 1) := by decide +kernel
theorem dL_law_409 : decode code 409 = .ok (.iconst 2, 1) := by decide +kernel
theorem dL_law_410 : decode code 410 = .ok (.iadd, 1) := by decide +kernel
theorem dL_law_411 : decode code 411 = .ok (.iaload, 1) := by decide +kernel
theorem dL_law_412 : decode code 412 = .ok (.invokevirtual 43, 3) := by decide +kernel
theorem dL_law_415 : decode code 415 = .ok (.pop, 1) := by decide +kernel
theorem dL_law_416 : decode code 416 = .ok (.goto 897, 3) := by decide +kernel
theorem dL_law_419 : decode code 419 = .ok (.aload_n 1, 1) := by decide +kernel
theorem dL_law_420 : decode code 420 = .ok (.aload_n 0, 1) := by decide +kernel
theorem dL_law_421 : decode code 421 = .ok (.iload_n 3, 1) := by decide +kernel
theorem dL_law_422 : decode code 422 = .ok (.iconst 1, 1) := by decide +kernel
theorem dL_law_423 : decode code 423 = .ok (.iadd, 1) := by decide +kernel
theorem dL_law_424 : decode code 424 = .ok (.iaload, 1) := by decide +kernel
theorem dL_law_425 : decode code 425 = .ok (.aload_n 0, 1) := by decide +kernel
theorem dL_law_426 : decode code 426 = .ok (.iload_n 3, 1) := by decide +kernel
theorem dL_law_427 : decode code 427 = .ok (.iconst 2, 1) := by decide +kernel
theorem dL_law_428 : decode code 428 = .ok (.iadd, 1) := by decide +kernel
theorem dL_law_429 : decode code 429 = .ok (.iaload, 1) := by decide +kernel
theorem dL_law_430 : decode code 430 = .ok (.invokevirtual 44, 3) := by decide +kernel
theorem dL_law_433 : decode code 433 = .ok (.pop, 1) := by decide +kernel
theorem dL_law_434 : decode code 434 = .ok (.aload_n 2, 1) := by decide +kernel
theorem dL_law_435 : decode code 435 = .ok (.aload_n 0, 1) := by decide +kernel
theorem dL_law_436 : decode code 436 = .ok (.iload_n 3, 1) := by decide +kernel
theorem dL_law_437 : decode code 437 = .ok (.iconst 1, 1) := by decide +kernel
theorem dL_law_438 : decode code 438 = .ok (.iadd, 1) := by decide +kernel
theorem dL_law_439 : decode code 439 = .ok (.iaload, 1) := by decide +kernel
theorem dL_law_440 : decode code 440 = .ok (.aload_n 0, 1) := by decide +kernel
theorem dL_law_441 : decode code 441 = .ok (.iload_n 3, 1) := by decide +kernel
theorem dL_law_442 : decode code 442 = .ok (.iconst 2, 1) := by decide +kernel
theorem dL_law_443 : decode code 443 = .ok (.iadd, 1) := by decide +kernel
theorem dL_law_444 : decode code 444 = .ok (.iaload, 1) := by decide +kernel
theorem dL_law_445 : decode code 445 = .ok (.invokevirtual 47, 3) := by decide +kernel
theorem dL_law_448 : decode code 448 = .ok (.pop, 1) := by decide +kernel
theorem dL_law_449 : decode code 449 = .ok (.goto 864, 3) := by decide +kernel
theorem dL_law_452 : decode code 452 = .ok (.aload_n 1, 1) := by decide +kernel
theorem dL_law_453 : decode code 453 = .ok (.aload_n 0, 1) := by decide +kernel
theorem dL_law_454 : decode code 454 = .ok (.iload_n 3, 1) := by decide +kernel
theorem dL_law_455 : decode code 455 = .ok (.iconst 1, 1) := by decide +kernel
theorem dL_law_456 : decode code 456 = .ok (.iadd, 1) := by decide +kernel
theorem dL_law_457 : decode code 457 = .ok (.iaload, 1) := by decide +kernel
theorem dL_law_458 : decode code 458 = .ok (.aload_n 0, 1) := by decide +kernel
theorem dL_law_459 : decode code 459 = .ok (.iload_n 3, 1) := by decide +kernel
theorem dL_law_460 : decode code 460 = .ok (.iconst 2, 1) := by decide +kernel
theorem dL_law_461 : decode code 461 = .ok (.iadd, 1) := by decide +kernel
theorem dL_law_462 : decode code 462 = .ok (.iaload, 1) := by decide +kernel
theorem dL_law_463 : decode code 463 = .ok (.invokevirtual 48, 3) := by decide +kernel
theorem dL_law_466 : decode code 466 = .ok (.pop, 1) := by decide +kernel
theorem dL_law_467 : decode code 467 = .ok (.aload_n 2, 1) := by decide +kernel
theorem dL_law_468 : decode code 468 = .ok (.aload_n 0, 1) := by decide +kernel
theorem dL_law_469 : decode code 469 = .ok (.iload_n 3, 1) := by decide +kernel
theorem dL_law_470 : decode code 470 = .ok (.iconst 1, 1) := by decide +kernel
theorem dL_law_471 : decode code 471 = .ok (.iadd, 1) := by decide +kernel
theorem dL_law_472 : decode code 472 = .ok (.iaload, 1) := by decide +kernel
theorem dL_law_473 : decode code 473 = .ok (.aload_n 0, 1) := by decide +kernel
theorem dL_law_474 : decode code 474 = .ok (.iload_n 3, 1) := by decide +kernel
theorem dL_law_475 : decode code 475 = .ok (.iconst 2, 1) := by decide +kernel
theorem dL_law_476 : decode code 476 = .ok (.iadd, 1) := by decide +kernel
theorem dL_law_477 : decode code 477 = .ok (.iaload, 1) := by decide +kernel
theorem dL_law_478 : decode code 478 = .ok (.invokevirtual 51, 3) := by decide +kernel
theorem dL_law_481 : decode code 481 = .ok (.pop, 1) := by decide +kernel
theorem dL_law_482 : decode code 482 = .ok (.goto 831, 3) := by decide +kernel
theorem dL_law_485 : decode code 485 = .ok (.aload_n 1, 1) := by decide +kernel
theorem dL_law_486 : decode code 486 = .ok (.aload_n 0, 1) := by decide +kernel
theorem dL_law_487 : decode code 487 = .ok (.iload_n 3, 1) := by decide +kernel
theorem dL_law_488 : decode code 488 = .ok (.iconst 1, 1) := by decide +kernel
theorem dL_law_489 : decode code 489 = .ok (.iadd, 1) := by decide +kernel
theorem dL_law_490 : decode code 490 = .ok (.iaload, 1) := by decide +kernel
theorem dL_law_491 : decode code 491 = .ok (.aload_n 0, 1) := by decide +kernel
theorem dL_law_492 : decode code 492 = .ok (.iload_n 3, 1) := by decide +kernel
theorem dL_law_493 : decode code 493 = .ok (.iconst 2, 1) := by decide +kernel
theorem dL_law_494 : decode code 494 = .ok (.iadd, 1) := by decide +kernel
theorem dL_law_495 : decode code 495 = .ok (.iaload, 1) := by decide +kernel
theorem dL_law_496 : decode code 496 = .ok (.aload_n 0, 1) := by decide +kernel
theorem dL_law_497 : decode code 497 = .ok (.iload_n 3, 1) := by decide +kernel
theorem dL_law_498 : decode code 498 = .ok (.iconst 3, 1) := by decide +kernel
theorem dL_law_499 : decode code 499 = .ok (.iadd, 1) := by decide +kernel
theorem dL_law_500 : decode code 500 = .ok (.iaload, 1) := by decide +kernel
theorem dL_law_501 : decode code 501 = .ok (.invokevirtual 52, 3) := by decide +kernel
theorem dL_law_504 : decode code 504 = .ok (.pop, 1) := by decide +kernel
theorem dL_law_505 : decode code 505 = .ok (.aload_n 2, 1) := by decide +kernel
theorem dL_law_506 : decode code 506 = .ok (.aload_n 0, 1) := by decide +kernel
theorem dL_law_507 : decode code 507 = .ok (.iload_n 3, 1) := by decide +kernel
theorem dL_law_508 : decode code 508 = .ok (.iconst 1, 1) := by decide +kernel
theorem dL_law_509 : decode code 509 = .ok (.iadd, 1) := by decide +kernel
theorem dL_law_510 : decode code 510 = .ok (.iaload, 1) := by decide +kernel
theorem dL_law_511 : decode code 511 = .ok (.aload_n 0, 1) := by decide +kernel
theorem dL_law_512 : decode code 512 = .ok (.iload_n 3, 1) := by decide +kernel
theorem dL_law_513 : decode code 513 = .ok (.iconst 2, 1) := by decide +kernel
theorem dL_law_514 : decode code 514 = .ok (.iadd, 1) := by decide +kernel
theorem dL_law_515 : decode code 515 = .ok (.iaload, 1) := by decide +kernel
theorem dL_law_516 : decode code 516 = .ok (.aload_n 0, 1) := by decide +kernel
theorem dL_law_517 : decode code 517 = .ok (.iload_n 3, 1) := by decide +kernel
theorem dL_law_518 : decode code 518 = .ok (.iconst 3, 1) := by decide +kernel
theorem dL_law_519 : decode code 519 = .ok (.iadd, 1) := by decide +kernel
theorem dL_law_520 : decode code 520 = .ok (.iaload, 1) := by decide +kernel
theorem dL_law_521 : decode code 521 = .ok (.invokevirtual 55, 3) := by decide +kernel
theorem dL_law_524 : decode code 524 = .ok (.pop, 1) := by decide +kernel
theorem dL_law_525 : decode code 525 = .ok (.goto 788, 3) := by decide +kernel
theorem dL_law_528 : decode code 528 = .ok (.aload_n 1, 1) := by decide +kernel
theorem dL_law_529 : decode code 529 = .ok (.aload_n 0, 1) := by decide +kernel
theorem dL_law_530 : decode code 530 = .ok (.iload_n 3, 1) := by decide +kernel
theorem dL_law_531 : decode code 531 = .ok (.iconst 1, 1) := by decide +kernel
theorem dL_law_532 : decode code 532 = .ok (.iadd, 1) := by decide +kernel
theorem dL_law_533 : decode code 533 = .ok (.iaload, 1) := by decide +kernel
theorem dL_law_534 : decode code 534 = .ok (.aload_n 0, 1) := by decide +kernel
theorem dL_law_535 : decode code 535 = .ok (.iload_n 3, 1) := by decide +kernel
theorem dL_law_536 : decode code 536 = .ok (.iconst 2, 1) := by decide +kernel
theorem dL_law_537 : decode code 537 = .ok (.iadd, 1) := by decide +kernel
theorem dL_law_538 : decode code 538 = .ok (.iaload, 1) := by decide +kernel
theorem dL_law_539 : decode code 539 = .ok (.invokevirtual 56, 3) := by decide +kernel
theorem dL_law_542 : decode code 542 = .ok (.pop, 1) := by decide +kernel
theorem dL_law_543 : decode code 543 = .ok (.aload_n 2, 1) := by decide +kernel
theorem dL_law_544 : decode code 544 = .ok (.aload_n 0, 1) := by decide +kernel
theorem dL_law_545 : decode code 545 = .ok (.iload_n 3, 1) := by decide +kernel
theorem dL_law_546 : decode code 546 = .ok (.iconst 1, 1) := by decide +kernel
theorem dL_law_547 : decode code 547 = .ok (.iadd, 1) := by decide +kernel
theorem dL_law_548 : decode code 548 = .ok (.iaload, 1) := by decide +kernel
theorem dL_law_549 : decode code 549 = .ok (.aload_n 0, 1) := by decide +kernel
theorem dL_law_550 : decode code 550 = .ok (.iload_n 3, 1) := by decide +kernel
theorem dL_law_551 : decode code 551 = .ok (.iconst 2, 1) := by decide +kernel
theorem dL_law_552 : decode code 552 = .ok (.iadd, 1) := by decide +kernel
theorem dL_law_553 : decode code 553 = .ok (.iaload, 1) := by decide +kernel
theorem dL_law_554 : decode code 554 = .ok (.invokevirtual 59, 3) := by decide +kernel
theorem dL_law_557 : decode code 557 = .ok (.pop, 1) := by decide +kernel
theorem dL_law_558 : decode code 558 = .ok (.goto 755, 3) := by decide +kernel
theorem dL_law_561 : decode code 561 = .ok (.aload_n 1, 1) := by decide +kernel
theorem dL_law_562 : decode code 562 = .ok (.aload_n 0, 1) := by decide +kernel
theorem dL_law_563 : decode code 563 = .ok (.iload_n 3, 1) := by decide +kernel
theorem dL_law_564 : decode code 564 = .ok (.iconst 1, 1) := by decide +kernel
theorem dL_law_565 : decode code 565 = .ok (.iadd, 1) := by decide +kernel
theorem dL_law_566 : decode code 566 = .ok (.iaload, 1) := by decide +kernel
theorem dL_law_567 : decode code 567 = .ok (.aload_n 0, 1) := by decide +kernel
theorem dL_law_568 : decode code 568 = .ok (.iload_n 3, 1) := by decide +kernel
theorem dL_law_569 : decode code 569 = .ok (.iconst 2, 1) := by decide +kernel
theorem dL_law_570 : decode code 570 = .ok (.iadd, 1) := by decide +kernel
theorem dL_law_571 : decode code 571 = .ok (.iaload, 1) := by decide +kernel
theorem dL_law_572 : decode code 572 = .ok (.aload_n 0, 1) := by decide +kernel
theorem dL_law_573 : decode code 573 = .ok (.iload_n 3, 1) := by decide +kernel
theorem dL_law_574 : decode code 574 = .ok (.iconst 3, 1) := by decide +kernel
theorem dL_law_575 : decode code 575 = .ok (.iadd, 1) := by decide +kernel
theorem dL_law_576 : decode code 576 = .ok (.iaload, 1) := by decide +kernel
theorem dL_law_577 : decode code 577 = .ok (.invokevirtual 60, 3) := by decide +kernel
theorem dL_law_580 : decode code 580 = .ok (.pop, 1) := by decide +kernel
theorem dL_law_581 : decode code 581 = .ok (.aload_n 2, 1) := by decide +kernel
theorem dL_law_582 : decode code 582 = .ok (.aload_n 0, 1) := by decide +kernel
theorem dL_law_583 : decode code 583 = .ok (.iload_n 3, 1) := by decide +kernel
theorem dL_law_584 : decode code 584 = .ok (.iconst 1, 1) := by decide +kernel
theorem dL_law_585 : decode code 585 = .ok (.iadd, 1) := by decide +kernel
theorem dL_law_586 : decode code 586 = .ok (.iaload, 1) := by decide +kernel
theorem dL_law_587 : decode code 587 = .ok (.aload_n 0, 1) := by decide +kernel
theorem dL_law_588 : decode code 588 = .ok (.iload_n 3, 1) := by decide +kernel
theorem dL_law_589 : decode code 589 = .ok (.iconst 2, 1) := by decide +kernel
theorem dL_law_590 : decode code 590 = .ok (.iadd, 1) := by decide +kernel
theorem dL_law_591 : decode code 591 = .ok (.iaload, 1) := by decide +kernel
theorem dL_law_592 : decode code 592 = .ok (.aload_n 0, 1) := by decide +kernel
theorem dL_law_593 : decode code 593 = .ok (.iload_n 3, 1) := by decide +kernel
theorem dL_law_594 : decode code 594 = .ok (.iconst 3, 1) := by decide +kernel
theorem dL_law_595 : decode code 595 = .ok (.iadd, 1) := by decide +kernel
theorem dL_law_596 : decode code 596 = .ok (.iaload, 1) := by decide +kernel
theorem dL_law_597 : decode code 597 = .ok (.invokevirtual 63, 3) := by decide +kernel
theorem dL_law_600 : decode code 600 = .ok (.pop, 1) := by decide +kernel
theorem dL_law_601 : decode code 601 = .ok (.goto 712, 3) := by decide +kernel
theorem dL_law_604 : decode code 604 = .ok (.aload_n 1, 1) := by decide +kernel
theorem dL_law_605 : decode code 605 = .ok (.aload_n 0, 1) := by decide +kernel
theorem dL_law_606 : decode code 606 = .ok (.iload_n 3, 1) := by decide +kernel
theorem dL_law_607 : decode code 607 = .ok (.iconst 1, 1) := by decide +kernel
theorem dL_law_608 : decode code 608 = .ok (.iadd, 1) := by decide +kernel
theorem dL_law_609 : decode code 609 = .ok (.iaload, 1) := by decide +kernel
theorem dL_law_610 : decode code 610 = .ok (.aload_n 0, 1) := by decide +kernel
theorem dL_law_611 : decode code 611 = .ok (.iload_n 3, 1) := by decide +kernel
theorem dL_law_612 : decode code 612 = .ok (.iconst 2, 1) := by decide +kernel
theorem dL_law_613 : decode code 613 = .ok (.iadd, 1) := by decide +kernel
theorem dL_law_614 : decode code 614 = .ok (.iaload, 1) := by decide +kernel
theorem dL_law_615 : decode code 615 = .ok (.invokevirtual 64, 3) := by decide +kernel
theorem dL_law_618 : decode code 618 = .ok (.pop, 1) := by decide +kernel
theorem dL_law_619 : decode code 619 = .ok (.aload_n 2, 1) := by decide +kernel
theorem dL_law_620 : decode code 620 = .ok (.aload_n 0, 1) := by decide +kernel
theorem dL_law_621 : decode code 621 = .ok (.iload_n 3, 1) := by decide +kernel
theorem dL_law_622 : decode code 622 = .ok (.iconst 1, 1) := by decide +kernel
theorem dL_law_623 : decode code 623 = .ok (.iadd, 1) := by decide +kernel
theorem dL_law_624 : decode code 624 = .ok (.iaload, 1) := by decide +kernel
theorem dL_law_625 : decode code 625 = .ok (.aload_n 0, 1) := by decide +kernel
theorem dL_law_626 : decode code 626 = .ok (.iload_n 3, 1) := by decide +kernel
theorem dL_law_627 : decode code 627 = .ok (.iconst 2, 1) := by decide +kernel
theorem dL_law_628 : decode code 628 = .ok (.iadd, 1) := by decide +kernel
theorem dL_law_629 : decode code 629 = .ok (.iaload, 1) := by decide +kernel
theorem dL_law_630 : decode code 630 = .ok (.invokevirtual 67, 3) := by decide +kernel
theorem dL_law_633 : decode code 633 = .ok (.pop, 1) := by decide +kernel
theorem dL_law_634 : decode code 634 = .ok (.goto 679, 3) := by decide +kernel
theorem dL_law_637 : decode code 637 = .ok (.aload_n 1, 1) := by decide +kernel
theorem dL_law_638 : decode code 638 = .ok (.aload_n 0, 1) := by decide +kernel
theorem dL_law_639 : decode code 639 = .ok (.iload_n 3, 1) := by decide +kernel
theorem dL_law_640 : decode code 640 = .ok (.iconst 1, 1) := by decide +kernel
theorem dL_law_641 : decode code 641 = .ok (.iadd, 1) := by decide +kernel
theorem dL_law_642 : decode code 642 = .ok (.iaload, 1) := by decide +kernel
theorem dL_law_643 : decode code 643 = .ok (.invokevirtual 68, 3) := by decide +kernel
theorem dL_law_646 : decode code 646 = .ok (.pop, 1) := by decide +kernel
theorem dL_law_647 : decode code 647 = .ok (.aload_n 2, 1) := by decide +kernel
theorem dL_law_648 : decode code 648 = .ok (.aload_n 0, 1) := by decide +kernel
theorem dL_law_649 : decode code 649 = .ok (.iload_n 3, 1) := by decide +kernel
theorem dL_law_650 : decode code 650 = .ok (.iconst 1, 1) := by decide +kernel
theorem dL_law_651 : decode code 651 = .ok (.iadd, 1) := by decide +kernel
theorem dL_law_652 : decode code 652 = .ok (.iaload, 1) := by decide +kernel
theorem dL_law_653 : decode code 653 = .ok (.invokevirtual 71, 3) := by decide +kernel
theorem dL_law_656 : decode code 656 = .ok (.pop, 1) := by decide +kernel
theorem dL_law_657 : decode code 657 = .ok (.goto 656, 3) := by decide +kernel
theorem dL_law_660 : decode code 660 = .ok (.aload_n 1, 1) := by decide +kernel
theorem dL_law_661 : decode code 661 = .ok (.aload_n 0, 1) := by decide +kernel
theorem dL_law_662 : decode code 662 = .ok (.iload_n 3, 1) := by decide +kernel
theorem dL_law_663 : decode code 663 = .ok (.iconst 1, 1) := by decide +kernel
theorem dL_law_664 : decode code 664 = .ok (.iadd, 1) := by decide +kernel
theorem dL_law_665 : decode code 665 = .ok (.iaload, 1) := by decide +kernel
theorem dL_law_666 : decode code 666 = .ok (.invokevirtual 72, 3) := by decide +kernel
theorem dL_law_669 : decode code 669 = .ok (.pop, 1) := by decide +kernel
theorem dL_law_670 : decode code 670 = .ok (.aload_n 2, 1) := by decide +kernel
theorem dL_law_671 : decode code 671 = .ok (.aload_n 0, 1) := by decide +kernel
theorem dL_law_672 : decode code 672 = .ok (.iload_n 3, 1) := by decide +kernel
theorem dL_law_673 : decode code 673 = .ok (.iconst 1, 1) := by decide +kernel
theorem dL_law_674 : decode code 674 = .ok (.iadd, 1) := by decide +kernel
theorem dL_law_675 : decode code 675 = .ok (.iaload, 1) := by decide +kernel
theorem dL_law_676 : decode code 676 = .ok (.invokevirtual 75, 3) := by decide +kernel
theorem dL_law_679 : decode code 679 = .ok (.pop, 1) := by decide +kernel
theorem dL_law_680 : decode code 680 = .ok (.goto 633, 3) := by decide +kernel
theorem dL_law_683 : decode code 683 = .ok (.aload_n 1, 1) := by decide +kernel
theorem dL_law_684 : decode code 684 = .ok (.invokevirtual 76, 3) := by decide +kernel
theorem dL_law_687 : decode code 687 = .ok (.pop, 1) := by decide +kernel
theorem dL_law_688 : decode code 688 = .ok (.aload_n 2, 1) := by decide +kernel
theorem dL_law_689 : decode code 689 = .ok (.invokevirtual 80, 3) := by decide +kernel
theorem dL_law_692 : decode code 692 = .ok (.pop, 1) := by decide +kernel
theorem dL_law_693 : decode code 693 = .ok (.goto 620, 3) := by decide +kernel
theorem dL_law_696 : decode code 696 = .ok (.aload_n 1, 1) := by decide +kernel
theorem dL_law_697 : decode code 697 = .ok (.aload_n 0, 1) := by decide +kernel
theorem dL_law_698 : decode code 698 = .ok (.iload_n 3, 1) := by decide +kernel
theorem dL_law_699 : decode code 699 = .ok (.iconst 1, 1) := by decide +kernel
theorem dL_law_700 : decode code 700 = .ok (.iadd, 1) := by decide +kernel
theorem dL_law_701 : decode code 701 = .ok (.iaload, 1) := by decide +kernel
theorem dL_law_702 : decode code 702 = .ok (.aload_n 0, 1) := by decide +kernel
theorem dL_law_703 : decode code 703 = .ok (.iload_n 3, 1) := by decide +kernel
theorem dL_law_704 : decode code 704 = .ok (.iconst 2, 1) := by decide +kernel
theorem dL_law_705 : decode code 705 = .ok (.iadd, 1) := by decide +kernel
theorem dL_law_706 : decode code 706 = .ok (.iaload, 1) := by decide +kernel
theorem dL_law_707 : decode code 707 = .ok (.invokevirtual 81, 3) := by decide +kernel
theorem dL_law_710 : decode code 710 = .ok (.pop2, 1) := by decide +kernel
theorem dL_law_711 : decode code 711 = .ok (.aload_n 2, 1) := by decide +kernel
theorem dL_law_712 : decode code 712 = .ok (.aload_n 0, 1) := by decide +kernel
theorem dL_law_713 : decode code 713 = .ok (.iload_n 3, 1) := by decide +kernel
theorem dL_law_714 : decode code 714 = .ok (.iconst 1, 1) := by decide +kernel
theorem dL_law_715 : decode code 715 = .ok (.iadd, 1) := by decide +kernel
theorem dL_law_716 : decode code 716 = .ok (.iaload, 1) := by decide +kernel
theorem dL_law_717 : decode code 717 = .ok (.aload_n 0, 1) := by decide +kernel
theorem dL_law_718 : decode code 718 = .ok (.iload_n 3, 1) := by decide +kernel
theorem dL_law_719 : decode code 719 = .ok (.iconst 2, 1) := by decide +kernel
theorem dL_law_720 : decode code 720 = .ok (.iadd, 1) := by decide +kernel
theorem dL_law_721 : decode code 721 = .ok (.iaload, 1) := by decide +kernel
theorem dL_law_722 : decode code 722 = .ok (.invokevirtual 85, 3) := by decide +kernel
theorem dL_law_725 : decode code 725 = .ok (.pop2, 1) := by decide +kernel
theorem dL_law_726 : decode code 726 = .ok (.goto 587, 3) := by decide +kernel
theorem dL_law_729 : decode code 729 = .ok (.aload_n 1, 1) := by decide +kernel
theorem dL_law_730 : decode code 730 = .ok (.aload_n 0, 1) := by decide +kernel
theorem dL_law_731 : decode code 731 = .ok (.iload_n 3, 1) := by decide +kernel
theorem dL_law_732 : decode code 732 = .ok (.iconst 1, 1) := by decide +kernel
theorem dL_law_733 : decode code 733 = .ok (.iadd, 1) := by decide +kernel
theorem dL_law_734 : decode code 734 = .ok (.iaload, 1) := by decide +kernel
theorem dL_law_735 : decode code 735 = .ok (.aload_n 0, 1) := by decide +kernel
theorem dL_law_736 : decode code 736 = .ok (.iload_n 3, 1) := by decide +kernel
theorem dL_law_737 : decode code 737 = .ok (.iconst 2, 1) := by decide +kernel
theorem dL_law_738 : decode code 738 = .ok (.iadd, 1) := by decide +kernel
theorem dL_law_739 : decode code 739 = .ok (.iaload, 1) := by decide +kernel
theorem dL_law_740 : decode code 740 = .ok (.aload_n 0, 1) := by decide +kernel
theorem dL_law_741 : decode code 741 = .ok (.iload_n 3, 1) := by decide +kernel
theorem dL_law_742 : decode code 742 = .ok (.iconst 3, 1) := by decide +kernel
theorem dL_law_743 : decode code 743 = .ok (.iadd, 1) := by decide +kernel
theorem dL_law_744 : decode code 744 = .ok (.iaload, 1) := by decide +kernel
theorem dL_law_745 : decode code 745 = .ok (.invokevirtual 86, 3) := by decide +kernel
theorem dL_law_748 : decode code 748 = .ok (.pop2, 1) := by decide +kernel
theorem dL_law_749 : decode code 749 = .ok (.aload_n 2, 1) := by decide +kernel
theorem dL_law_750 : decode code 750 = .ok (.aload_n 0, 1) := by decide +kernel
theorem dL_law_751 : decode code 751 = .ok (.iload_n 3, 1) := by decide +kernel
theorem dL_law_752 : decode code 752 = .ok (.iconst 1, 1) := by decide +kernel
theorem dL_law_753 : decode code 753 = .ok (.iadd, 1) := by decide +kernel
theorem dL_law_754 : decode code 754 = .ok (.iaload, 1) := by decide +kernel
theorem dL_law_755 : decode code 755 = .ok (.aload_n 0, 1) := by decide +kernel
theorem dL_law_756 : decode code 756 = .ok (.iload_n 3, 1) := by decide +kernel
theorem dL_law_757 : decode code 757 = .ok (.iconst 2, 1) := by decide +kernel
theorem dL_law_758 : decode code 758 = .ok (.iadd, 1) := by decide +kernel
theorem dL_law_759 : decode code 759 = .ok (.iaload, 1) := by decide +kernel
theorem dL_law_760 : decode code 760 = .ok (.aload_n 0, 1) := by decide +kernel
theorem dL_law_761 : decode code 761 = .ok (.iload_n 3, 1) := by decide +kernel
theorem dL_law_762 : decode code 762 = .ok (.iconst 3, 1) := by decide +kernel
theorem dL_law_763 : decode code 763 = .ok (.iadd, 1) := by decide +kernel
theorem dL_law_764 : decode code 764 = .ok (.iaload, 1) := by decide +kernel
theorem dL_law_765 : decode code 765 = .ok (.invokevirtual 90, 3) := by decide +kernel
theorem dL_law_768 : decode code 768 = .ok (.pop2, 1) := by decide +kernel
theorem dL_law_769 : decode code 769 = .ok (.goto 544, 3) := by decide +kernel
theorem dL_law_772 : decode code 772 = .ok (.aload_n 1, 1) := by decide +kernel
theorem dL_law_773 : decode code 773 = .ok (.aload_n 0, 1) := by decide +kernel
theorem dL_law_774 : decode code 774 = .ok (.iload_n 3, 1) := by decide +kernel
theorem dL_law_775 : decode code 775 = .ok (.iconst 1, 1) := by decide +kernel
theorem dL_law_776 : decode code 776 = .ok (.iadd, 1) := by decide +kernel
theorem dL_law_777 : decode code 777 = .ok (.iaload, 1) := by decide +kernel
theorem dL_law_778 : decode code 778 = .ok (.invokevirtual 91, 3) := by decide +kernel
theorem dL_law_781 : decode code 781 = .ok (.pop2, 1) := by decide +kernel
theorem dL_law_782 : decode code 782 = .ok (.aload_n 2, 1) := by decide +kernel
theorem dL_law_783 : decode code 783 = .ok (.aload_n 0, 1) := by decide +kernel
theorem dL_law_784 : decode code 784 = .ok (.iload_n 3, 1) := by decide +kernel
theorem dL_law_785 : decode code 785 = .ok (.iconst 1, 1) := by decide +kernel
theorem dL_law_786 : decode code 786 = .ok (.iadd, 1) := by decide +kernel
theorem dL_law_787 : decode code 787 = .ok (.iaload, 1) := by decide +kernel
theorem dL_law_788 : decode code 788 = .ok (.invokevirtual 95, 3) := by decide +kernel
theorem dL_law_791 : decode code 791 = .ok (.pop2, 1) := by decide +kernel
theorem dL_law_792 : decode code 792 = .ok (.goto 521, 3) := by decide +kernel
theorem dL_law_795 : decode code 795 = .ok (.aload_n 1, 1) := by decide +kernel
theorem dL_law_796 : decode code 796 = .ok (.aload_n 0, 1) := by decide +kernel
theorem dL_law_797 : decode code 797 = .ok (.iload_n 3, 1) := by decide +kernel
theorem dL_law_798 : decode code 798 = .ok (.iconst 1, 1) := by decide +kernel
theorem dL_law_799 : decode code 799 = .ok (.iadd, 1) := by decide +kernel
theorem dL_law_800 : decode code 800 = .ok (.iaload, 1) := by decide +kernel
theorem dL_law_801 : decode code 801 = .ok (.aload_n 0, 1) := by decide +kernel
theorem dL_law_802 : decode code 802 = .ok (.iload_n 3, 1) := by decide +kernel
theorem dL_law_803 : decode code 803 = .ok (.iconst 2, 1) := by decide +kernel
theorem dL_law_804 : decode code 804 = .ok (.iadd, 1) := by decide +kernel
theorem dL_law_805 : decode code 805 = .ok (.iaload, 1) := by decide +kernel
theorem dL_law_806 : decode code 806 = .ok (.aload_n 0, 1) := by decide +kernel
theorem dL_law_807 : decode code 807 = .ok (.iload_n 3, 1) := by decide +kernel
theorem dL_law_808 : decode code 808 = .ok (.iconst 3, 1) := by decide +kernel
theorem dL_law_809 : decode code 809 = .ok (.iadd, 1) := by decide +kernel
theorem dL_law_810 : decode code 810 = .ok (.iaload, 1) := by decide +kernel
theorem dL_law_811 : decode code 811 = .ok (.aload_n 0, 1) := by decide +kernel
theorem dL_law_812 : decode code 812 = .ok (.iload_n 3, 1) := by decide +kernel
theorem dL_law_813 : decode code 813 = .ok (.iconst 4, 1) := by decide +kernel
theorem dL_law_814 : decode code 814 = .ok (.iadd, 1) := by decide +kernel
theorem dL_law_815 : decode code 815 = .ok (.iaload, 1) := by decide +kernel
theorem dL_law_816 : decode code 816 = .ok (.invokevirtual 96, 3) := by decide +kernel
theorem dL_law_819 : decode code 819 = .ok (.pop2, 1) := by decide +kernel
theorem dL_law_820 : decode code 820 = .ok (.aload_n 2, 1) := by decide +kernel
theorem dL_law_821 : decode code 821 = .ok (.aload_n 0, 1) := by decide +kernel
theorem dL_law_822 : decode code 822 = .ok (.iload_n 3, 1) := by decide +kernel
theorem dL_law_823 : decode code 823 = .ok (.iconst 1, 1) := by decide +kernel
theorem dL_law_824 : decode code 824 = .ok (.iadd, 1) := by decide +kernel
theorem dL_law_825 : decode code 825 = .ok (.iaload, 1) := by decide +kernel
theorem dL_law_826 : decode code 826 = .ok (.aload_n 0, 1) := by decide +kernel
theorem dL_law_827 : decode code 827 = .ok (.iload_n 3, 1) := by decide +kernel
theorem dL_law_828 : decode code 828 = .ok (.iconst 2, 1) := by decide +kernel
theorem dL_law_829 : decode code 829 = .ok (.iadd, 1) := by decide +kernel
theorem dL_law_830 : decode code 830 = .ok (.iaload, 1) := by decide +kernel
theorem dL_law_831 : decode code 831 = .ok (.aload_n 0, 1) := by decide +kernel
theorem dL_law_832 : decode code 832 = .ok (.iload_n 3, 1) := by decide +kernel
theorem dL_law_833 : decode code 833 = .ok (.iconst 3, 1) := by decide +kernel
theorem dL_law_834 : decode code 834 = .ok (.iadd, 1) := by decide +kernel
theorem dL_law_835 : decode code 835 = .ok (.iaload, 1) := by decide +kernel
theorem dL_law_836 : decode code 836 = .ok (.aload_n 0, 1) := by decide +kernel
theorem dL_law_837 : decode code 837 = .ok (.iload_n 3, 1) := by decide +kernel
theorem dL_law_838 : decode code 838 = .ok (.iconst 4, 1) := by decide +kernel
theorem dL_law_839 : decode code 839 = .ok (.iadd, 1) := by decide +kernel
theorem dL_law_840 : decode code 840 = .ok (.iaload, 1) := by decide +kernel
theorem dL_law_841 : decode code 841 = .ok (.invokevirtual 100, 3) := by decide +kernel
theorem dL_law_844 : decode code 844 = .ok (.pop2, 1) := by decide +kernel
theorem dL_law_845 : decode code 845 = .ok (.goto 468, 3) := by decide +kernel
theorem dL_law_848 : decode code 848 = .ok (.aload_n 1, 1) := by decide +kernel
theorem dL_law_849 : decode code 849 = .ok (.aload_n 0, 1) := by decide +kernel
theorem dL_law_850 : decode code 850 = .ok (.iload_n 3, 1) := by decide +kernel
theorem dL_law_851 : decode code 851 = .ok (.iconst 1, 1) := by decide +kernel
theorem dL_law_852 : decode code 852 = .ok (.iadd, 1) := by decide +kernel
theorem dL_law_853 : decode code 853 = .ok (.iaload, 1) := by decide +kernel
theorem dL_law_854 : decode code 854 = .ok (.aload_n 0, 1) := by decide +kernel
theorem dL_law_855 : decode code 855 = .ok (.iload_n 3, 1) := by decide +kernel
theorem dL_law_856 : decode code 856 = .ok (.iconst 2, 1) := by decide +kernel
theorem dL_law_857 : decode code 857 = .ok (.iadd, 1) := by decide +kernel
theorem dL_law_858 : decode code 858 = .ok (.iaload, 1) := by decide +kernel
theorem dL_law_859 : decode code 859 = .ok (.aload_n 0, 1) := by decide +kernel
theorem dL_law_860 : decode code 860 = .ok (.iload_n 3, 1) := by decide +kernel
theorem dL_law_861 : decode code 861 = .ok (.iconst 3, 1) := by decide +kernel
theorem dL_law_862 : decode code 862 = .ok (.iadd, 1) := by decide +kernel
theorem dL_law_863 : decode code 863 = .ok (.iaload, 1) := by decide +kernel
theorem dL_law_864 : decode code 864 = .ok (.invokevirtual 101, 3) := by decide +kernel
theorem dL_law_867 : decode code 867 = .ok (.pop2, 1) := by decide +kernel
theorem dL_law_868 : decode code 868 = .ok (.aload_n 2, 1) := by decide +kernel
theorem dL_law_869 : decode code 869 = .ok (.aload_n 0, 1) := by decide +kernel
theorem dL_law_870 : decode code 870 = .ok (.iload_n 3, 1) := by decide +kernel
theorem dL_law_871 : decode code 871 = .ok (.iconst 1, 1) := by decide +kernel
theorem dL_law_872 : decode code 872 = .ok (.iadd, 1) := by decide +kernel
theorem dL_law_873 : decode code 873 = .ok (.iaload, 1) := by decide +kernel
theorem dL_law_874 : decode code 874 = .ok (.aload_n 0, 1) := by decide +kernel
theorem dL_law_875 : decode code 875 = .ok (.iload_n 3, 1) := by decide +kernel
theorem dL_law_876 : decode code 876 = .ok (.iconst 2, 1) := by decide +kernel
theorem dL_law_877 : decode code 877 = .ok (.iadd, 1) := by decide +kernel
theorem dL_law_878 : decode code 878 = .ok (.iaload, 1) := by decide +kernel
theorem dL_law_879 : decode code 879 = .ok (.aload_n 0, 1) := by decide +kernel
theorem dL_law_880 : decode code 880 = .ok (.iload_n 3, 1) := by decide +kernel
theorem dL_law_881 : decode code 881 = .ok (.iconst 3, 1) := by decide +kernel
theorem dL_law_882 : decode code 882 = .ok (.iadd, 1) := by decide +kernel
theorem dL_law_883 : decode code 883 = .ok (.iaload, 1) := by decide +kernel
theorem dL_law_884 : decode code 884 = .ok (.invokevirtual 104, 3) := by decide +kernel
theorem dL_law_887 : decode code 887 = .ok (.pop2, 1) := by decide +kernel
theorem dL_law_888 : decode code 888 = .ok (.goto 425, 3) := by decide +kernel
theorem dL_law_891 : decode code 891 = .ok (.aload_n 1, 1) := by decide +kernel
theorem dL_law_892 : decode code 892 = .ok (.aload_n 0, 1) := by decide +kernel
theorem dL_law_893 : decode code 893 = .ok (.iload_n 3, 1) := by decide +kernel
theorem dL_law_894 : decode code 894 = .ok (.iconst 1, 1) := by decide +kernel
theorem dL_law_895 : decode code 895 = .ok (.iadd, 1) := by decide +kernel
theorem dL_law_896 : decode code 896 = .ok (.iaload, 1) := by decide +kernel
theorem dL_law_897 : decode code 897 = .ok (.aload_n 0, 1) := by decide +kernel
theorem dL_law_898 : decode code 898 = .ok (.iload_n 3, 1) := by decide +kernel
theorem dL_law_899 : decode code 899 = .ok (.iconst 2, 1) := by decide +kernel
theorem dL_law_900 : decode code 900 = .ok (.iadd, 1) := by decide +kernel
theorem dL_law_901 : decode code 901 = .ok (.iaload, 1) := by decide +kernel
theorem dL_law_902 : decode code 902 = .ok (.aload_n 0, 1) := by decide +kernel
theorem dL_law_903 : decode code 903 = .ok (.iload_n 3, 1) := by decide +kernel
theorem dL_law_904 : decode code 904 = .ok (.iconst 3, 1) := by decide +kernel
theorem dL_law_905 : decode code 905 = .ok (.iadd, 1) := by decide +kernel
theorem dL_law_906 : decode code 906 = .ok (.iaload, 1) := by decide +kernel
theorem dL_law_907 : decode code 907 = .ok (.invokevirtual 105, 3) := by decide +kernel
theorem dL_law_910 : decode code 910 = .ok (.pop2, 1) := by decide +kernel
theorem dL_law_911 : decode code 911 = .ok (.aload_n 2, 1) := by decide +kernel
theorem dL_law_912 : decode code 912 = .ok (.aload_n 0, 1) := by decide +kernel
theorem dL_law_913 : decode code 913 = .ok (.iload_n 3, 1) := by decide +kernel
theorem dL_law_914 : decode code 914 = .ok (.iconst 1, 1) := by decide +kernel
theorem dL_law_915 : decode code 915 = .ok (.iadd, 1) := by decide +kernel
theorem dL_law_916 : decode code 916 = .ok (.iaload, 1) := by decide +kernel
theorem dL_law_917 : decode code 917 = .ok (.aload_n 0, 1) := by decide +kernel
theorem dL_law_918 : decode code 918 = .ok (.iload_n 3, 1) := by decide +kernel
theorem dL_law_919 : decode code 919 = .ok (.iconst 2, 1) := by decide +kernel
theorem dL_law_920 : decode code 920 = .ok (.iadd, 1) := by decide +kernel
theorem dL_law_921 : decode code 921 = .ok (.iaload, 1) := by decide +kernel
theorem dL_law_922 : decode code 922 = .ok (.aload_n 0, 1) := by decide +kernel
theorem dL_law_923 : decode code 923 = .ok (.iload_n 3, 1) := by decide +kernel
theorem dL_law_924 : decode code 924 = .ok (.iconst 3, 1) := by decide +kernel
theorem dL_law_925 : decode code 925 = .ok (.iadd, 1) := by decide +kernel
theorem dL_law_926 : decode code 926 = .ok (.iaload, 1) := by decide +kernel
theorem dL_law_927 : decode code 927 = .ok (.invokevirtual 108, 3) := by decide +kernel
theorem dL_law_930 : decode code 930 = .ok (.pop2, 1) := by decide +kernel
theorem dL_law_931 : decode code 931 = .ok (.goto 382, 3) := by decide +kernel
theorem dL_law_934 : decode code 934 = .ok (.aload_n 1, 1) := by decide +kernel
theorem dL_law_935 : decode code 935 = .ok (.aload_n 0, 1) := by decide +kernel
theorem dL_law_936 : decode code 936 = .ok (.iload_n 3, 1) := by decide +kernel
theorem dL_law_937 : decode code 937 = .ok (.iconst 1, 1) := by decide +kernel
theorem dL_law_938 : decode code 938 = .ok (.iadd, 1) := by decide +kernel
theorem dL_law_939 : decode code 939 = .ok (.iaload, 1) := by decide +kernel
theorem dL_law_940 : decode code 940 = .ok (.aload_n 0, 1) := by decide +kernel
theorem dL_law_941 : decode code 941 = .ok (.iload_n 3, 1) := by decide +kernel
theorem dL_law_942 : decode code 942 = .ok (.iconst 2, 1) := by decide +kernel
theorem dL_law_943 : decode code 943 = .ok (.iadd, 1) := by decide +kernel
theorem dL_law_944 : decode code 944 = .ok (.iaload, 1) := by decide +kernel
theorem dL_law_945 : decode code 945 = .ok (.invokevirtual 109, 3) := by decide +kernel
theorem dL_law_948 : decode code 948 = .ok (.pop2, 1) := by decide +kernel
theorem dL_law_949 : decode code 949 = .ok (.aload_n 2, 1) := by decide +kernel
theorem dL_law_950 : decode code 950 = .ok (.aload_n 0, 1) := by decide +kernel
theorem dL_law_951 : decode code 951 = .ok (.iload_n 3, 1) := by decide +kernel
theorem dL_law_952 : decode code 952 = .ok (.iconst 1, 1) := by decide +kernel
theorem dL_law_953 : decode code 953 = .ok (.iadd, 1) := by decide +kernel
theorem dL_law_954 : decode code 954 = .ok (.iaload, 1) := by decide +kernel
theorem dL_law_955 : decode code 955 = .ok (.aload_n 0, 1) := by decide +kernel
theorem dL_law_956 : decode code 956 = .ok (.iload_n 3, 1) := by decide +kernel
theorem dL_law_957 : decode code 957 = .ok (.iconst 2, 1) := by decide +kernel
theorem dL_law_958 : decode code 958 = .ok (.iadd, 1) := by decide +kernel
theorem dL_law_959 : decode code 959 = .ok (.iaload, 1) := by decide +kernel
theorem dL_law_960 : decode code 960 = .ok (.invokevirtual 112, 3) := by decide +kernel
theorem dL_law_963 : decode code 963 = .ok (.pop2, 1) := by decide +kernel
theorem dL_law_964 : decode code 964 = .ok (.goto 349, 3) := by decide +kernel
theorem dL_law_967 : decode code 967 = .ok (.aload_n 1, 1) := by decide +kernel
theorem dL_law_968 : decode code 968 = .ok (.aload_n 0, 1) := by decide +kernel
theorem dL_law_969 : decode code 969 = .ok (.iload_n 3, 1) := by decide +kernel
theorem dL_law_970 : decode code 970 = .ok (.iconst 1, 1) := by decide +kernel
theorem dL_law_971 : decode code 971 = .ok (.iadd, 1) := by decide +kernel
theorem dL_law_972 : decode code 972 = .ok (.iaload, 1) := by decide +kernel
theorem dL_law_973 : decode code 973 = .ok (.aload_n 0, 1) := by decide +kernel
theorem dL_law_974 : decode code 974 = .ok (.iload_n 3, 1) := by decide +kernel
theorem dL_law_975 : decode code 975 = .ok (.iconst 2, 1) := by decide +kernel
theorem dL_law_976 : decode code 976 = .ok (.iadd, 1) := by decide +kernel
theorem dL_law_977 : decode code 977 = .ok (.iaload, 1) := by decide +kernel
theorem dL_law_978 : decode code 978 = .ok (.invokevirtual 113, 3) := by decide +kernel
theorem dL_law_981 : decode code 981 = .ok (.pop2, 1) := by decide +kernel
theorem dL_law_982 : decode code 982 = .ok (.aload_n 2, 1) := by decide +kernel
theorem dL_law_983 : decode code 983 = .ok (.aload_n 0, 1) := by decide +kernel
theorem dL_law_984 : decode code 984 = .ok (.iload_n 3, 1) := by decide +kernel
theorem dL_law_985 : decode code 985 = .ok (.iconst 1, 1) := by decide +kernel
theorem dL_law_986 : decode code 986 = .ok (.iadd, 1) := by decide +kernel
theorem dL_law_987 : decode code 987 = .ok (.iaload, 1) := by decide +kernel
theorem dL_law_988 : decode code 988 = .ok (.aload_n 0, 1) := by decide +kernel
theorem dL_law_989 : decode code 989 = .ok (.iload_n 3, 1) := by decide +kernel
theorem dL_law_990 : decode code 990 = .ok (.iconst 2, 1) := by decide +kernel
theorem dL_law_991 : decode code 991 = .ok (.iadd, 1) := by decide +kernel
theorem dL_law_992 : decode code 992 = .ok (.iaload, 1) := by decide +kernel
theorem dL_law_993 : decode code 993 = .ok (.invokevirtual 116, 3) := by decide +kernel
theorem dL_law_996 : decode code 996 = .ok (.pop2, 1) := by decide +kernel
theorem dL_law_997 : decode code 997 = .ok (.goto 316, 3) := by decide +kernel
theorem dL_law_1000 : decode code 1000 = .ok (.aload_n 1, 1) := by decide +kernel
theorem dL_law_1001 : decode code 1001 = .ok (.aload_n 0, 1) := by decide +kernel
theorem dL_law_1002 : decode code 1002 = .ok (.iload_n 3, 1) := by decide +kernel
theorem dL_law_1003 : decode code 1003 = .ok (.iconst 1, 1) := by decide +kernel
theorem dL_law_1004 : decode code 1004 = .ok (.iadd, 1) := by decide +kernel
theorem dL_law_1005 : decode code 1005 = .ok (.iaload, 1) := by decide +kernel
theorem dL_law_1006 : decode code 1006 = .ok (.aload_n 0, 1) := by decide +kernel
theorem dL_law_1007 : decode code 1007 = .ok (.iload_n 3, 1) := by decide +kernel
theorem dL_law_1008 : decode code 1008 = .ok (.iconst 2, 1) := by decide +kernel
theorem dL_law_1009 : decode code 1009 = .ok (.iadd, 1) := by decide +kernel
theorem dL_law_1010 : decode code 1010 = .ok (.iaload, 1) := by decide +kernel
theorem dL_law_1011 : decode code 1011 = .ok (.aload_n 0, 1) := by decide +kernel
theorem dL_law_1012 : decode code 1012 = .ok (.iload_n 3, 1) := by decide +kernel
theorem dL_law_1013 : decode code 1013 = .ok (.iconst 3, 1) := by decide +kernel
theorem dL_law_1014 : decode code 1014 = .ok (.iadd, 1) := by decide +kernel
theorem dL_law_1015 : decode code 1015 = .ok (.iaload, 1) := by decide +kernel
theorem dL_law_1016 : decode code 1016 = .ok (.invokevirtual 117, 3) := by decide +kernel
theorem dL_law_1019 : decode code 1019 = .ok (.pop2, 1) := by decide +kernel
theorem dL_law_1020 : decode code 1020 = .ok (.aload_n 2, 1) := by decide +kernel
theorem dL_law_1021 : decode code 1021 = .ok (.aload_n 0, 1) := by decide +kernel
theorem dL_law_1022 : decode code 1022 = .ok (.iload_n 3, 1) := by decide +kernel
theorem dL_law_1023 : decode code 1023 = .ok (.iconst 1, 1) := by decide +kernel
theorem dL_law_1024 : decode code 1024 = .ok (.iadd, 1) := by decide +kernel
theorem dL_law_1025 : decode code 1025 = .ok (.iaload, 1) := by decide +kernel
theorem dL_law_1026 : decode code 1026 = .ok (.aload_n 0, 1) := by decide +kernel
theorem dL_law_1027 : decode code 1027 = .ok (.iload_n 3, 1) := by decide +kernel
theorem dL_law_1028 : decode code 1028 = .ok (.iconst 2, 1) := by decide +kernel
theorem dL_law_1029 : decode code 1029 = .ok (.iadd, 1) := by decide +kernel
theorem dL_law_1030 : decode code 1030 = .ok (.iaload, 1) := by decide +kernel
theorem dL_law_1031 : decode code 1031 = .ok (.aload_n 0, 1) := by decide +kernel
theorem dL_law_1032 : decode code 1032 = .ok (.iload_n 3, 1) := by decide +kernel
theorem dL_law_1033 : decode code 1033 = .ok (.iconst 3, 1) := by decide +kernel
theorem dL_law_1034 : decode code 1034 = .ok (.iadd, 1) := by decide +kernel
theorem dL_law_1035 : decode code 1035 = .ok (.iaload, 1) := by decide +kernel
theorem dL_law_1036 : decode code 1036 = .ok (.invokevirtual 120, 3) := by decide +kernel
theorem dL_law_1039 : decode code 1039 = .ok (.pop2, 1) := by decide +kernel
theorem dL_law_1040 : decode code 1040 = .ok (.goto 273, 3) := by decide +kernel
theorem dL_law_1043 : decode code 1043 = .ok (.aload_n 1, 1) := by decide +kernel
theorem dL_law_1044 : decode code 1044 = .ok (.aload_n 0, 1) := by decide +kernel
theorem dL_law_1045 : decode code 1045 = .ok (.iload_n 3, 1) := by decide +kernel
theorem dL_law_1046 : decode code 1046 = .ok (.iconst 1, 1) := by decide +kernel
theorem dL_law_1047 : decode code 1047 = .ok (.iadd, 1) := by decide +kernel
theorem dL_law_1048 : decode code 1048 = .ok (.iaload, 1) := by decide +kernel
theorem dL_law_1049 : decode code 1049 = .ok (.aload_n 0, 1) := by decide +kernel
theorem dL_law_1050 : decode code 1050 = .ok (.iload_n 3, 1) := by decide +kernel
theorem dL_law_1051 : decode code 1051 = .ok (.iconst 2, 1) := by decide +kernel
theorem dL_law_1052 : decode code 1052 = .ok (.iadd, 1) := by decide +kernel
theorem dL_law_1053 : decode code 1053 = .ok (.iaload, 1) := by decide +kernel
theorem dL_law_1054 : decode code 1054 = .ok (.invokevirtual 121, 3) := by decide +kernel
theorem dL_law_1057 : decode code 1057 = .ok (.pop, 1) := by decide +kernel
theorem dL_law_1058 : decode code 1058 = .ok (.aload_n 2, 1) := by decide +kernel
theorem dL_law_1059 : decode code 1059 = .ok (.aload_n 0, 1) := by decide +kernel
theorem dL_law_1060 : decode code 1060 = .ok (.iload_n 3, 1) := by decide +kernel
theorem dL_law_1061 : decode code 1061 = .ok (.iconst 1, 1) := by decide +kernel
theorem dL_law_1062 : decode code 1062 = .ok (.iadd, 1) := by decide +kernel
theorem dL_law_1063 : decode code 1063 = .ok (.iaload, 1) := by decide +kernel
theorem dL_law_1064 : decode code 1064 = .ok (.aload_n 0, 1) := by decide +kernel
theorem dL_law_1065 : decode code 1065 = .ok (.iload_n 3, 1) := by decide +kernel
theorem dL_law_1066 : decode code 1066 = .ok (.iconst 2, 1) := by decide +kernel
theorem dL_law_1067 : decode code 1067 = .ok (.iadd, 1) := by decide +kernel
theorem dL_law_1068 : decode code 1068 = .ok (.iaload, 1) := by decide +kernel
theorem dL_law_1069 : decode code 1069 = .ok (.invokevirtual 124, 3) := by decide +kernel
theorem dL_law_1072 : decode code 1072 = .ok (.pop, 1) := by decide +kernel
theorem dL_law_1073 : decode code 1073 = .ok (.goto 240, 3) := by decide +kernel
theorem dL_law_1076 : decode code 1076 = .ok (.aload_n 1, 1) := by decide +kernel
theorem dL_law_1077 : decode code 1077 = .ok (.aload_n 0, 1) := by decide +kernel
theorem dL_law_1078 : decode code 1078 = .ok (.iload_n 3, 1) := by decide +kernel
theorem dL_law_1079 : decode code 1079 = .ok (.iconst 1, 1) := by decide +kernel
theorem dL_law_1080 : decode code 1080 = .ok (.iadd, 1) := by decide +kernel
theorem dL_law_1081 : decode code 1081 = .ok (.iaload, 1) := by decide +kernel
theorem dL_law_1082 : decode code 1082 = .ok (.aload_n 0, 1) := by decide +kernel
theorem dL_law_1083 : decode code 1083 = .ok (.iload_n 3, 1) := by decide +kernel
theorem dL_law_1084 : decode code 1084 = .ok (.iconst 2, 1) := by decide +kernel
theorem dL_law_1085 : decode code 1085 = .ok (.iadd, 1) := by decide +kernel
theorem dL_law_1086 : decode code 1086 = .ok (.iaload, 1) := by decide +kernel
theorem dL_law_1087 : decode code 1087 = .ok (.aload_n 0, 1) := by decide +kernel
theorem dL_law_1088 : decode code 1088 = .ok (.iload_n 3, 1) := by decide +kernel
theorem dL_law_1089 : decode code 1089 = .ok (.iconst 3, 1) := by decide +kernel
theorem dL_law_1090 : decode code 1090 = .ok (.iadd, 1) := by decide +kernel
theorem dL_law_1091 : decode code 1091 = .ok (.iaload, 1) := by decide +kernel
theorem dL_law_1092 : decode code 1092 = .ok (.invokevirtual 125, 3) := by decide +kernel
theorem dL_law_1095 : decode code 1095 = .ok (.pop2, 1) := by decide +kernel
theorem dL_law_1096 : decode code 1096 = .ok (.aload_n 2, 1) := by decide +kernel
theorem dL_law_1097 : decode code 1097 = .ok (.aload_n 0, 1) := by decide +kernel
theorem dL_law_1098 : decode code 1098 = .ok (.iload_n 3, 1) := by decide +kernel
theorem dL_law_1099 : decode code 1099 = .ok (.iconst 1, 1) := by decide +kernel
theorem dL_law_1100 : decode code 1100 = .ok (.iadd, 1) := by decide +kernel
theorem dL_law_1101 : decode code 1101 = .ok (.iaload, 1) := by decide +kernel
theorem dL_law_1102 : decode code 1102 = .ok (.aload_n 0, 1) := by decide +kernel
theorem dL_law_1103 : decode code 1103 = .ok (.iload_n 3, 1) := by decide +kernel
theorem dL_law_1104 : decode code 1104 = .ok (.iconst 2, 1) := by decide +kernel
theorem dL_law_1105 : decode code 1105 = .ok (.iadd, 1) := by decide +kernel
theorem dL_law_1106 : decode code 1106 = .ok (.iaload, 1) := by decide +kernel
theorem dL_law_1107 : decode code 1107 = .ok (.aload_n 0, 1) := by decide +kernel
theorem dL_law_1108 : decode code 1108 = .ok (.iload_n 3, 1) := by decide +kernel
theorem dL_law_1109 : decode code 1109 = .ok (.iconst 3, 1) := by decide +kernel
theorem dL_law_1110 : decode code 1110 = .ok (.iadd, 1) := by decide +kernel
theorem dL_law_1111 : decode code 1111 = .ok (.iaload, 1) := by decide +kernel
theorem dL_law_1112 : decode code 1112 = .ok (.invokevirtual 128, 3) := by decide +kernel
theorem dL_law_1115 : decode code 1115 = .ok (.pop2, 1) := by decide +kernel
theorem dL_law_1116 : decode code 1116 = .ok (.goto 197, 3) := by decide +kernel
theorem dL_law_1119 : decode code 1119 = .ok (.aload_n 1, 1) := by decide +kernel
theorem dL_law_1120 : decode code 1120 = .ok (.aload_n 0, 1) := by decide +kernel
theorem dL_law_1121 : decode code 1121 = .ok (.iload_n 3, 1) := by decide +kernel
theorem dL_law_1122 : decode code 1122 = .ok (.iconst 1, 1) := by decide +kernel
theorem dL_law_1123 : decode code 1123 = .ok (.iadd, 1) := by decide +kernel
theorem dL_law_1124 : decode code 1124 = .ok (.iaload, 1) := by decide +kernel
theorem dL_law_1125 : decode code 1125 = .ok (.i2l, 1) := by decide +kernel
theorem dL_law_1126 : decode code 1126 = .ok (.bipush 32, 2) := by decide +kernel
theorem dL_law_1128 : decode code 1128 = .ok (.lshl, 1) := by decide +kernel
theorem dL_law_1129 : decode code 1129 = .ok (.aload_n 0, 1) := by decide +kernel
theorem dL_law_1130 : decode code 1130 = .ok (.iload_n 3, 1) := by decide +kernel
theorem dL_law_1131 : decode code 1131 = .ok (.iconst 2, 1) := by decide +kernel
theorem dL_law_1132 : decode code 1132 = .ok (.iadd, 1) := by decide +kernel
theorem dL_law_1133 : decode code 1133 = .ok (.iaload, 1) := by decide +kernel
theorem dL_law_1134 : decode code 1134 = .ok (.i2l, 1) := by decide +kernel
theorem dL_law_1135 : decode code 1135 = .ok (.ldc2_w 129, 3) := by decide +kernel
theorem dL_law_1138 : decode code 1138 = .ok (.land, 1) := by decide +kernel
theorem dL_law_1139 : decode code 1139 = .ok (.lor, 1) := by decide +kernel
theorem dL_law_1140 : decode code 1140 = .ok (.invokevirtual 131, 3) := by decide +kernel
theorem dL_law_1143 : decode code 1143 = .ok (.pop, 1) := by decide +kernel
theorem dL_law_1144 : decode code 1144 = .ok (.aload_n 2, 1) := by decide +kernel
theorem dL_law_1145 : decode code 1145 = .ok (.aload_n 0, 1) := by decide +kernel
theorem dL_law_1146 : decode code 1146 = .ok (.iload_n 3, 1) := by decide +kernel
theorem dL_law_1147 : decode code 1147 = .ok (.iconst 1, 1) := by decide +kernel
theorem dL_law_1148 : decode code 1148 = .ok (.iadd, 1) := by decide +kernel
theorem dL_law_1149 : decode code 1149 = .ok (.iaload, 1) := by decide +kernel
theorem dL_law_1150 : decode code 1150 = .ok (.i2l, 1) := by decide +kernel
theorem dL_law_1151 : decode code 1151 = .ok (.bipush 32, 2) := by decide +kernel
theorem dL_law_1153 : decode code 1153 = .ok (.lshl, 1) := by decide +kernel
theorem dL_law_1154 : decode code 1154 = .ok (.aload_n 0, 1) := by decide +kernel
theorem dL_law_1155 : decode code 1155 = .ok (.iload_n 3, 1) := by decide +kernel
theorem dL_law_1156 : decode code 1156 = .ok (.iconst 2, 1) := by decide +kernel
theorem dL_law_1157 : decode code 1157 = .ok (.iadd, 1) := by decide +kernel
theorem dL_law_1158 : decode code 1158 = .ok (.iaload, 1) := by decide +kernel
theorem dL_law_1159 : decode code 1159 = .ok (.i2l, 1) := by decide +kernel
theorem dL_law_1160 : decode code 1160 = .ok (.ldc2_w 129, 3) := by decide +kernel
theorem dL_law_1163 : decode code 1163 = .ok (.land, 1) := by decide +kernel
theorem dL_law_1164 : decode code 1164 = .ok (.lor, 1) := by decide +kernel
theorem dL_law_1165 : decode code 1165 = .ok (.invokevirtual 135, 3) := by decide +kernel
theorem dL_law_1168 : decode code 1168 = .ok (.pop, 1) := by decide +kernel
theorem dL_law_1169 : decode code 1169 = .ok (.goto 144, 3) := by decide +kernel
theorem dL_law_1172 : decode code 1172 = .ok (.aload_n 1, 1) := by decide +kernel
theorem dL_law_1173 : decode code 1173 = .ok (.aload_n 0, 1) := by decide +kernel
theorem dL_law_1174 : decode code 1174 = .ok (.iload_n 3, 1) := by decide +kernel
theorem dL_law_1175 : decode code 1175 = .ok (.iconst 1, 1) := by decide +kernel
theorem dL_law_1176 : decode code 1176 = .ok (.iadd, 1) := by decide +kernel
theorem dL_law_1177 : decode code 1177 = .ok (.iaload, 1) := by decide +kernel
theorem dL_law_1178 : decode code 1178 = .ok (.invokevirtual 136, 3) := by decide +kernel
theorem dL_law_1181 : decode code 1181 = .ok (.pop, 1) := by decide +kernel
theorem dL_law_1182 : decode code 1182 = .ok (.aload_n 2, 1) := by decide +kernel
theorem dL_law_1183 : decode code 1183 = .ok (.aload_n 0, 1) := by decide +kernel
theorem dL_law_1184 : decode code 1184 = .ok (.iload_n 3, 1) := by decide +kernel
theorem dL_law_1185 : decode code 1185 = .ok (.iconst 1, 1) := by decide +kernel
theorem dL_law_1186 : decode code 1186 = .ok (.iadd, 1) := by decide +kernel
theorem dL_law_1187 : decode code 1187 = .ok (.iaload, 1) := by decide +kernel
theorem dL_law_1188 : decode code 1188 = .ok (.invokevirtual 139, 3) := by decide +kernel
theorem dL_law_1191 : decode code 1191 = .ok (.pop, 1) := by decide +kernel
theorem dL_law_1192 : decode code 1192 = .ok (.goto 121, 3) := by decide +kernel
theorem dL_law_1195 : decode code 1195 = .ok (.aload_n 1, 1) := by decide +kernel
theorem dL_law_1196 : decode code 1196 = .ok (.invokevirtual 140, 3) := by decide +kernel
theorem dL_law_1199 : decode code 1199 = .ok (.pop, 1) := by decide +kernel
theorem dL_law_1200 : decode code 1200 = .ok (.aload_n 2, 1) := by decide +kernel
theorem dL_law_1201 : decode code 1201 = .ok (.invokevirtual 143, 3) := by decide +kernel
theorem dL_law_1204 : decode code 1204 = .ok (.pop, 1) := by decide +kernel
theorem dL_law_1205 : decode code 1205 = .ok (.goto 108, 3) := by decide +kernel
theorem dL_law_1208 : decode code 1208 = .ok (.aload_n 1, 1) := by decide +kernel
theorem dL_law_1209 : decode code 1209 = .ok (.aload_n 0, 1) := by decide +kernel
theorem dL_law_1210 : decode code 1210 = .ok (.iload_n 3, 1) := by decide +kernel
theorem dL_law_1211 : decode code 1211 = .ok (.iconst 1, 1) := by decide +kernel
theorem dL_law_1212 : decode code 1212 = .ok (.iadd, 1) := by decide +kernel
theorem dL_law_1213 : decode code 1213 = .ok (.iaload, 1) := by decide +kernel
theorem dL_law_1214 : decode code 1214 = .ok (.aload_n 0, 1) := by decide +kernel
theorem dL_law_1215 : decode code 1215 = .ok (.iload_n 3, 1) := by decide +kernel
theorem dL_law_1216 : decode code 1216 = .ok (.iconst 2, 1) := by decide +kernel
theorem dL_law_1217 : decode code 1217 = .ok (.iadd, 1) := by decide +kernel
theorem dL_law_1218 : decode code 1218 = .ok (.iaload, 1) := by decide +kernel
theorem dL_law_1219 : decode code 1219 = .ok (.invokevirtual 144, 3) := by decide +kernel
theorem dL_law_1222 : decode code 1222 = .ok (.pop2, 1) := by decide +kernel
theorem dL_law_1223 : decode code 1223 = .ok (.aload_n 2, 1) := by decide +kernel
theorem dL_law_1224 : decode code 1224 = .ok (.aload_n 0, 1) := by decide +kernel
theorem dL_law_1225 : decode code 1225 = .ok (.iload_n 3, 1) := by decide +kernel
theorem dL_law_1226 : decode code 1226 = .ok (.iconst 1, 1) := by decide +kernel
theorem dL_law_1227 : decode code 1227 = .ok (.iadd, 1) := by decide +kernel
theorem dL_law_1228 : decode code 1228 = .ok (.iaload, 1) := by decide +kernel
theorem dL_law_1229 : decode code 1229 = .ok (.aload_n 0, 1) := by decide +kernel
theorem dL_law_1230 : decode code 1230 = .ok (.iload_n 3, 1) := by decide +kernel
theorem dL_law_1231 : decode code 1231 = .ok (.iconst 2, 1) := by decide +kernel
theorem dL_law_1232 : decode code 1232 = .ok (.iadd, 1) := by decide +kernel
theorem dL_law_1233 : decode code 1233 = .ok (.iaload, 1) := by decide +kernel
theorem dL_law_1234 : decode code 1234 = .ok (.invokevirtual 147, 3) := by decide +kernel
theorem dL_law_1237 : decode code 1237 = .ok (.pop2, 1) := by decide +kernel
theorem dL_law_1238 : decode code 1238 = .ok (.goto 75, 3) := by decide +kernel
theorem dL_law_1241 : decode code 1241 = .ok (.aload_n 1, 1) := by decide +kernel
theorem dL_law_1242 : decode code 1242 = .ok (.invokevirtual 148, 3) := by decide +kernel
theorem dL_law_1245 : decode code 1245 = .ok (.aload_n 2, 1) := by decide +kernel
theorem dL_law_1246 : decode code 1246 = .ok (.invokevirtual 151, 3) := by decide +kernel
theorem dL_law_1249 : decode code 1249 = .ok (.if_icmp .eq 64, 3) := by decide +kernel
theorem dL_law_1252 : decode code 1252 = .ok (.iconst 0, 1) := by decide +kernel
theorem dL_law_1253 : decode code 1253 = .ok (.ireturn, 1) := by decide +kernel
theorem dL_law_1254 : decode code 1254 = .ok (.aload_n 1, 1) := by decide +kernel
theorem dL_law_1255 : decode code 1255 = .ok (.aload_n 0, 1) := by decide +kernel
theorem dL_law_1256 : decode code 1256 = .ok (.iload_n 3, 1) := by decide +kernel
theorem dL_law_1257 : decode code 1257 = .ok (.iconst 1, 1) := by decide +kernel
theorem dL_law_1258 : decode code 1258 = .ok (.iadd, 1) := by decide +kernel
theorem dL_law_1259 : decode code 1259 = .ok (.iaload, 1) := by decide +kernel
theorem dL_law_1260 : decode code 1260 = .ok (.invokevirtual 152, 3) := by decide +kernel
theorem dL_law_1263 : decode code 1263 = .ok (.pop, 1) := by decide +kernel
theorem dL_law_1264 : decode code 1264 = .ok (.aload_n 2, 1) := by decide +kernel
theorem dL_law_1265 : decode code 1265 = .ok (.aload_n 0, 1) := by decide +kernel
theorem dL_law_1266 : decode code 1266 = .ok (.iload_n 3, 1) := by decide +kernel
theorem dL_law_1267 : decode code 1267 = .ok (.iconst 1, 1) := by decide +kernel
theorem dL_law_1268 : decode code 1268 = .ok (.iadd, 1) := by decide +kernel
theorem dL_law_1269 : decode code 1269 = .ok (.iaload, 1) := by decide +kernel
theorem dL_law_1270 : decode code 1270 = .ok (.invokevirtual 155, 3) := by decide +kernel
theorem dL_law_1273 : decode code 1273 = .ok (.pop, 1) := by decide +kernel
theorem dL_law_1274 : decode code 1274 = .ok (.goto 39, 3) := by decide +kernel
theorem dL_law_1277 : decode code 1277 = .ok (.aload_n 1, 1) := by decide +kernel
theorem dL_law_1278 : decode code 1278 = .ok (.aload_n 0, 1) := by decide +kernel
theorem dL_law_1279 : decode code 1279 = .ok (.iload_n 3, 1) := by decide +kernel
theorem dL_law_1280 : decode code 1280 = .ok (.iconst 1, 1) := by decide +kernel
theorem dL_law_1281 : decode code 1281 = .ok (.iadd, 1) := by decide +kernel
theorem dL_law_1282 : decode code 1282 = .ok (.iaload, 1) := by decide +kernel
theorem dL_law_1283 : decode code 1283 = .ok (.invokevirtual 156, 3) := by decide +kernel
theorem dL_law_1286 : decode code 1286 = .ok (.pop, 1) := by decide +kernel
theorem dL_law_1287 : decode code 1287 = .ok (.aload_n 2, 1) := by decide +kernel
theorem dL_law_1288 : decode code 1288 = .ok (.aload_n 0, 1) := by decide +kernel
theorem dL_law_1289 : decode code 1289 = .ok (.iload_n 3, 1) := by decide +kernel
theorem dL_law_1290 : decode code 1290 = .ok (.iconst 1, 1) := by decide +kernel
theorem dL_law_1291 : decode code 1291 = .ok (.iadd, 1) := by decide +kernel
theorem dL_law_1292 : decode code 1292 = .ok (.iaload, 1) := by decide +kernel
theorem dL_law_1293 : decode code 1293 = .ok (.invokevirtual 159, 3) := by decide +kernel
theorem dL_law_1296 : decode code 1296 = .ok (.pop, 1) := by decide +kernel
theorem dL_law_1297 : decode code 1297 = .ok (.goto 16, 3) := by decide +kernel
theorem dL_law_1300 : decode code 1300 = .ok (.aload_n 1, 1) := by decide +kernel
theorem dL_law_1301 : decode code 1301 = .ok (.invokevirtual 160, 3) := by decide +kernel
theorem dL_law_1304 : decode code 1304 = .ok (.pop, 1) := by decide +kernel
theorem dL_law_1305 : decode code 1305 = .ok (.aload_n 2, 1) := by decide +kernel
theorem dL_law_1306 : decode code 1306 = .ok (.invokevirtual 163, 3) := by decide +kernel
theorem dL_law_1309 : decode code 1309 = .ok (.pop, 1) := by decide +kernel
theorem dL_law_1310 : decode code 1310 = .ok (.goto 3, 3) := by decide +kernel
theorem dL_law_1313 : decode code 1313 = .ok (.iinc 3 5, 3) := by decide +kernel
theorem dL_law_1316 : decode code 1316 = .ok (.goto (-1298), 3) := by decide +kernel
theorem dL_law_1319 : decode code 1319 = .ok (.iconst 1, 1) := by decide +kernel
theorem dL_law_1320 : decode code 1320 = .ok (.ireturn, 1) := by decide +kernel
section LW
variable {p : Program} {e : Env} {s : State} {m : MethodId} {below : List Frame} {meth : Method} {c : Code} {l : Launch} {b L : Nat} {xs : Nat → Int32} {D : va_G} {cy : Nat → ClassId} {ν : Nat → Int}
/-- the law's world: the cells h from the script's heap's end on -/
def lwR (s : State) (D : va_G) (cy : Nat → ClassId) (ν : Nat → Int) (h : zH) (H : Heap) (locs : List Loc) : Prop := H.size = s.heap.size + h.length ∧ va_P D vwCl (zws ν s.heap.size cy s.heap.size h) H ∧ va_S (fun q : Nat => s.heap.size ≤ q) s.heap H locs
theorem lw_ld (C0 : lw_At p s m meth c b L xs) {h : zH} {H : Heap} {locs : List Loc} (hr : lwR s D cy ν h H locs) {pc i k : Nat} {n : Int} {Ls : Array Slot} {lv : List (Nat × Value)} {rest : List Value} {cells slots : Nat} (hl : Ls[0]? = some (.val (.ref b)) ∧ Ls[3]? = some (.val (.int (nI i)))) (hn : Int32.ofInt n = nI k) (hk : i + k < L) (hL : L < 2 ^ 31)
    (d0 : decode code pc = .ok (.aload_n 0, 1)) (d1 : decode code (pc + 1) = .ok (.iload_n 3, 1)) (d2 : decode code (pc + 2) = .ok (.iconst n, 1)) (d3 : decode code (pc + 3) = .ok (.iadd, 1)) (d4 : decode code (pc + 4) = .ok (.iaload, 1)) (kk : W p l e room_1 s m #[Value.ref b] below meth c H locs cells slots (lw_Z below #[Value.ref b] s) (F0 m (pc + 5) Ls (.int (xs (i + k)) :: rest))) : W p l e room_1 s m #[Value.ref b] below meth c H locs cells slots (lw_Z below #[Value.ref b] s) (F0 m pc Ls rest) := by
  obtain ⟨hx, hb, hr0, hml, hown, hts, hX, hbl, hlocks, hgv⟩ := C0
  refine lv_aload_n hx hb d0 rfl hl.1 ?_
  refine lv_iload_n hx hb d1 rfl hl.2 ?_
  refine lv_iconst (v := nI k) hx hb d2 hn ?_
  refine lv_iadd hx hb d3 ?_
  rw [nI_add]
  refine va_sld (A := fun q : Nat => s.heap.size ≤ q) hx hb hX hbl (Nat.not_le.mpr hbl) hr.2.2 (vp_in_nI hk hL) d4 ?_
  rw [nI_clamp (Nat.lt_trans hk hL)]
  exact kk
theorem lw_callV (C0 : lw_At p s m meth c b L xs) (hK : va_K D vwCl (zty cy) s) {h h' : zH} {H : Heap} {locs : List Loc} (hr : lwR s D cy ν h H locs) {pc a ix y ci : Nat} {q : zM} {r : Option zV} {as fs : List zV} {Ls : Array Slot} {rest : List Value} {call : zCall} (hc : zCO l D cy ν s.heap.size 8 call) (hq : zm y = some q) (hex : call y ((4, (a : Int)) :: as) h = some (r, h')) (hw : ∀ w ∈ ([.methodLink R_law ix q.1, .instanceMethod q.1, .selects q.1.cls q.1 q.1] : List Cond), w ∈ lw_tbl) (hcell : h[a]? = some (.inl (ci, fs))) (hci : zR ci = q.1.cls) (hn : as.length = q.2.2.2.2.2.1) (hLs : Ls.size = 4) (hrest : (rest.map fun v => v.category).sum ≤ 8) (hz1 : h'.length ≤ 93552) (hz2 : zsl h' ≤ 8821594) (hdg : decode code pc = .ok (.invokevirtual ix, 3))
    (kk : ∀ (H1 : Heap) (locs1 : List Loc), lwR s D cy ν h' H1 locs1 → W p l e room_1 s m #[Value.ref b] below meth c H1 locs1 h'.length (zsl h') (lw_Z below #[Value.ref b] s) (F0 m (pc + 3) Ls ((r.map (zg ν s.heap.size)).toList ++ rest))) : W p l e room_1 s m #[Value.ref b] below meth c H locs h.length (zsl h) (lw_Z below #[Value.ref b] s) (F0 m pc Ls ((as.map (zg ν s.heap.size)).reverse ++ .ref (s.heap.size + a) :: rest)) := by
  obtain ⟨hx, hb, hr0, hml, hown, hts, hX, hbl, hlocks, hgv⟩ := C0
  obtain ⟨hH, hP, hS⟩ := hr
  obtain ⟨⟨mo1, mo2⟩, hM⟩ := hc y _ h r h' q hq hex
  obtain ⟨cb, w1, w2, w3, w4⟩ := zcallB (R := room_1) (d := 8) (h := h) (h' := h') (zm_ok y q hq) hts (by decide) (by decide)
  obtain ⟨r1, hr1, hre⟩ := hP a _ (zws_at hcell)
  obtain ⟨ty, -, -, -, hzR, -⟩ := zcls_ok ci r1 hr1
  have hcn : q.1.cls = r1.1 := by rw [← hci]; exact hzR
  have hrecv : ∃ cellB : Cell, H[s.heap.size + a]? = some cellB ∧ cellB.vm.isStatics = false ∧ s.vm.findClass q.1.cls = some cellB.cls := by rw [hcn]; exact va_recv hK hP hr1 (zws_at hcell)
  have hpre : PreV s H q.1.cls (s.heap.size + a) (zPc D cy ν s.heap.size ((4, (a : Int)) :: as) h) (as.map (zg ν s.heap.size)) := ⟨zPc_blind, hrecv, fun U hU hW => ⟨rfl, by rw [hU]; exact hH, by rw [hU]; exact hP, zGd.warm hW hK hts⟩⟩
  have hst : (as.map (zg ν s.heap.size)).reverse ++ .ref (s.heap.size + a) :: rest = (as.map (zg ν s.heap.size)).reverse ++ .ref (s.heap.size + a) :: rest := rfl
  have hfit : h.length + (h'.length - h.length) ≤ room_1.cells ∧ zsl h + (zsl h' - zsl h) ≤ room_1.slots := ⟨by show _ ≤ 93552; omega, by show _ ≤ 8821594; omega⟩
  have hrun := va_runV (l := l) (e := e) (below := below) (meth := meth) (locs := locs) (cells := h.length) (slots := zsl h) (g := F0 m pc Ls ((as.map (zg ν s.heap.size)).reverse ++ .ref (s.heap.size + a) :: rest)) (As := as.map (zg ν s.heap.size)) (rest := rest) ⟨hx, hb, hml, hown, hts⟩ hM ⟨⟨cb.1, cb.2.1, cb.2.2.1, cb.2.2.2.1, cb.2.2.2.2.1, cb.2.2.2.2.2, w1, w2, w3, w4, hts _ (hw _ (by simp))⟩, hts _ (hw _ (by simp)), hts _ (hw _ (by simp))⟩ hpre rfl ((List.length_map _).trans hn) hLs hst (lv_room hrest) hdg hfit
  refine zcallW hrun hS (fun H1 locs1 g1 g2 g3 => ?_)
  rw [show h.length + (h'.length - h.length) = h'.length by omega, show zsl h + (zsl h' - zsl h) = zsl h' by omega]
  exact kk H1 locs1 ⟨g1, g2, g3⟩
theorem lw_callI (C0 : lw_At p s m meth c b L xs) (hK : va_K D vwCl (zty cy) s) {h h' : zH} {H : Heap} {locs : List Loc} (hr : lwR s D cy ν h H locs) {pc a ix y : Nat} {q : zM} {Ls : Array Slot} {rest : List Value} {call : zCall} (hc : zCO l D cy ν s.heap.size 8 call) (hq : zm y = some q) (hex : call y [(4, (a : Int))] h = some (none, h')) (hw : ∀ w ∈ ([.methodLink R_law ix q.1, .instanceMethod q.1] : List Cond), w ∈ lw_tbl) (hname : q.1.name = "<init>") (hret : q.2.2.2.1 = none) (hn : 0 = q.2.2.2.2.2.1) (hLs : Ls.size = 4) (hrest : (rest.map fun v => v.category).sum ≤ 8) (hz1 : h'.length ≤ 93552) (hz2 : zsl h' ≤ 8821594) (hdg : decode code pc = .ok (.invokespecial ix, 3))
    (kk : ∀ (H1 : Heap) (locs1 : List Loc), lwR s D cy ν h' H1 locs1 → W p l e room_1 s m #[Value.ref b] below meth c H1 locs1 h'.length (zsl h') (lw_Z below #[Value.ref b] s) (F0 m (pc + 3) Ls rest)) : W p l e room_1 s m #[Value.ref b] below meth c H locs h.length (zsl h) (lw_Z below #[Value.ref b] s) (F0 m pc Ls (.ref (s.heap.size + a) :: rest)) := by
  obtain ⟨hx, hb, hr0, hml, hown, hts, hX, hbl, hlocks, hgv⟩ := C0
  obtain ⟨hH, hP, hS⟩ := hr
  obtain ⟨⟨mo1, mo2⟩, hM⟩ := hc y _ h none h' q hq hex
  obtain ⟨cb, w1, w2, w3, w4⟩ := zcallB (R := room_1) (d := 8) (h := h) (h' := h') (zm_ok y q hq) hts (by decide) (by decide)
  rw [hret] at cb w1 hM
  have hpre : PreS s H (zPc D cy ν s.heap.size [(4, (a : Int))] h) (.ref (s.heap.size + a) :: []) := ⟨zPc_blind, fun U hU hW => ⟨rfl, by rw [hU]; exact hH, by rw [hU]; exact hP, zGd.warm hW hK hts⟩⟩
  have hfit : h.length + (h'.length - h.length) ≤ room_1.cells ∧ zsl h + (zsl h' - zsl h) ≤ room_1.slots := ⟨by show _ ≤ 93552; omega, by show _ ≤ 8821594; omega⟩
  have hrun := va_runI (l := l) (e := e) (below := below) (meth := meth) (locs := locs) (cells := h.length) (slots := zsl h) (g := F0 m pc Ls (.ref (s.heap.size + a) :: rest)) (As := []) (rest := rest) ⟨hx, hb, hml, hown, hts⟩ hM ⟨⟨cb.1, cb.2.1, cb.2.2.1, cb.2.2.2.1, cb.2.2.2.2.1, cb.2.2.2.2.2, w1, w2, w3, w4, hts _ (hw _ (by simp))⟩, hname, hts _ (hw _ (by simp))⟩ hpre rfl hn hLs rfl (lv_room hrest) hdg hfit
  refine zcallW hrun hS (fun H1 locs1 g1 g2 g3 => ?_)
  rw [show h.length + (h'.length - h.length) = h'.length by omega, show zsl h + (zsl h' - zsl h) = zsl h' by omega]
  exact kk H1 locs1 ⟨g1, g2, g3⟩
theorem lw_new (C0 : lw_At p s m meth c b L xs) (hK : va_K D vwCl (zty cy) s) {h : zH} {H : Heap} {locs : List Loc} (hr : lwR s D cy ν h H locs) {pc ix ci : Nat} {q : vw_C} {Ls : Array Slot} {rest : List Value} (hq : vwCl[ci]? = some q) (hlink : Cond.classLink R_law ix q.1 ∈ lw_tbl) (hz1 : h.length + 1 ≤ 93552) (hz2 : zsl h + q.2.2 ≤ 8821594) (hdg : decode code pc = .ok (.new ix, 3))
    (kk : ∀ (H1 : Heap), lwR s D cy ν (h ++ [.inl (ci, zdfs (zkinds ci))]) H1 locs → W p l e room_1 s m #[Value.ref b] below meth c H1 locs (h ++ [(Sum.inl (ci, zdfs (zkinds ci)) : zC)]).length (zsl (h ++ [(Sum.inl (ci, zdfs (zkinds ci)) : zC)])) (lw_Z below #[Value.ref b] s) (F0 m (pc + 3) Ls (.ref (s.heap.size + h.length) :: rest))) : W p l e room_1 s m #[Value.ref b] below meth c H locs h.length (zsl h) (lw_Z below #[Value.ref b] s) (F0 m pc Ls rest) := by
  obtain ⟨hx, hb, hr0, hml, hown, hts, hX, hbl, hlocks, hgv⟩ := C0
  obtain ⟨hH, hP, hS⟩ := hr
  obtain ⟨CC, TT, N⟩ := q
  obtain ⟨ty, hin, hty, hnm, hzR, hfl, hlen, hle, hinst, hinit⟩ := zcls_ok ci _ hq
  dsimp only at hin hty hnm hzR hfl hlen hinst hinit hlink hz2
  have hsz : zsz (.inl (ci, zdfs (zkinds ci))) = N := by simp [zsz, zdfs, hlen]
  have hKn := hK.1 ci _ hq
  refine W.newcK hx hb hown (hts _ hlink) (hts _ hinst) (hts _ hinit) rfl hdg hz1 hz2 hKn.2.1 rfl fun H1 kC hkC e1 z1 o1 => ?_
  obtain ⟨g1, g2, g3⟩ := zpush (c1 := .inl (ci, zdfs (zkinds ci))) hH hP hS ⟨_, hq, (u_born ty hts hin hKn hkC e1 hty).to (zdfs_ok (fun k hk => (hfl k hk).2.2) hle)⟩ z1 o1
  refine W.cs (cells' := (h ++ [(Sum.inl (ci, zdfs (zkinds ci)) : zC)]).length) (slots' := zsl (h ++ [(Sum.inl (ci, zdfs (zkinds ci)) : zC)])) (by rw [List.length_append]; rfl) (by rw [zsl_app, hsz]) ?_
  rw [hH]
  exact kk H1 ⟨g1, g2, g3⟩
end LW
