/-! THE LAW: its loop, laid by wip/whole/gen_law.py -/
theorem dL_0 : decode code 0 = .ok (.new 7, 3) := by decide +kernel
theorem dL_3 : decode code 3 = .ok (.dup, 1) := by decide +kernel
theorem dL_4 : decode code 4 = .ok (.invokespecial 9, 3) := by decide +kernel
theorem dL_7 : decode code 7 = .ok (.astore_n 1, 1) := by decide +kernel
theorem dL_8 : decode code 8 = .ok (.new 10, 3) := by decide +kernel
theorem dL_11 : decode code 11 = .ok (.dup, 1) := by decide +kernel
theorem dL_12 : decode code 12 = .ok (.invokespecial 12, 3) := by decide +kernel
theorem dL_15 : decode code 15 = .ok (.astore_n 2, 1) := by decide +kernel
theorem dL_16 : decode code 16 = .ok (.iconst 0, 1) := by decide +kernel
theorem dL_17 : decode code 17 = .ok (.istore_n 3, 1) := by decide +kernel
theorem dL_18 : decode code 18 = .ok (.iload_n 3, 1) := by decide +kernel
theorem dL_19 : decode code 19 = .ok (.aload_n 0, 1) := by decide +kernel
theorem dL_20 : decode code 20 = .ok (.arraylength, 1) := by decide +kernel
theorem dL_21 : decode code 21 = .ok (.iconst 4, 1) := by decide +kernel
theorem dL_22 : decode code 22 = .ok (.isub, 1) := by decide +kernel
theorem dL_23 : decode code 23 = .ok (.if_icmp .gt 1026, 3) := by decide +kernel
theorem dL_26 : decode code 26 = .ok (.aload_n 0, 1) := by decide +kernel
theorem dL_27 : decode code 27 = .ok (.iload_n 3, 1) := by decide +kernel
theorem dL_28 : decode code 28 = .ok (.iaload, 1) := by decide +kernel
theorem dL_29 : decode code 29 = .ok (.bipush 31, 2) := by decide +kernel
theorem dL_31 : decode code 31 = .ok (.iand, 1) := by decide +kernel
theorem dL_32 : decode code 32 = .ok (.tableswitch 1011 0 30 #[140, 173, 196, 219, 242, 275, 308, 351, 384, 407, 456, 489, 502, 545, 570, 583, 596, 609, 622, 635, 668, 701, 734, 757, 800, 833, 866, 899, 932, 965, 988], 140) := by decide +kernel
theorem dL_172 : decode code 172 = .ok (.aload_n 1, 1) := by decide +kernel
theorem dL_173 : decode code 173 = .ok (.aload_n 0, 1) := by decide +kernel
theorem dL_174 : decode code 174 = .ok (.iload_n 3, 1) := by decide +kernel
theorem dL_175 : decode code 175 = .ok (.iconst 1, 1) := by decide +kernel
theorem dL_176 : decode code 176 = .ok (.iadd, 1) := by decide +kernel
theorem dL_177 : decode code 177 = .ok (.iaload, 1) := by decide +kernel
theorem dL_178 : decode code 178 = .ok (.aload_n 0, 1) := by decide +kernel
theorem dL_179 : decode code 179 = .ok (.iload_n 3, 1) := by decide +kernel
theorem dL_180 : decode code 180 = .ok (.iconst 2, 1) := by decide +kernel
theorem dL_181 : decode code 181 = .ok (.iadd, 1) := by decide +kernel
theorem dL_182 : decode code 182 = .ok (.iaload, 1) := by decide +kernel
theorem dL_183 : decode code 183 = .ok (.invokevirtual 13, 3) := by decide +kernel
theorem dL_186 : decode code 186 = .ok (.aload_n 2, 1) := by decide +kernel
theorem dL_187 : decode code 187 = .ok (.aload_n 0, 1) := by decide +kernel
theorem dL_188 : decode code 188 = .ok (.iload_n 3, 1) := by decide +kernel
theorem dL_189 : decode code 189 = .ok (.iconst 1, 1) := by decide +kernel
theorem dL_190 : decode code 190 = .ok (.iadd, 1) := by decide +kernel
theorem dL_191 : decode code 191 = .ok (.iaload, 1) := by decide +kernel
theorem dL_192 : decode code 192 = .ok (.aload_n 0, 1) := by decide +kernel
theorem dL_193 : decode code 193 = .ok (.iload_n 3, 1) := by decide +kernel
theorem dL_194 : decode code 194 = .ok (.iconst 2, 1) := by decide +kernel
theorem dL_195 : decode code 195 = .ok (.iadd, 1) := by decide +kernel
theorem dL_196 : decode code 196 = .ok (.iaload, 1) := by decide +kernel
theorem dL_197 : decode code 197 = .ok (.invokevirtual 17, 3) := by decide +kernel
theorem dL_200 : decode code 200 = .ok (.if_icmp .eq 843, 3) := by decide +kernel
theorem dL_203 : decode code 203 = .ok (.iconst 0, 1) := by decide +kernel
theorem dL_204 : decode code 204 = .ok (.ireturn, 1) := by decide +kernel
theorem dL_205 : decode code 205 = .ok (.aload_n 1, 1) := by decide +kernel
theorem dL_206 : decode code 206 = .ok (.aload_n 0, 1) := by decide +kernel
theorem dL_207 : decode code 207 = .ok (.iload_n 3, 1) := by decide +kernel
theorem dL_208 : decode code 208 = .ok (.iconst 1, 1) := by decide +kernel
theorem dL_209 : decode code 209 = .ok (.iadd, 1) := by decide +kernel
theorem dL_210 : decode code 210 = .ok (.iaload, 1) := by decide +kernel
theorem dL_211 : decode code 211 = .ok (.invokevirtual 18, 3) := by decide +kernel
theorem dL_214 : decode code 214 = .ok (.aload_n 2, 1) := by decide +kernel
theorem dL_215 : decode code 215 = .ok (.aload_n 0, 1) := by decide +kernel
theorem dL_216 : decode code 216 = .ok (.iload_n 3, 1) := by decide +kernel
theorem dL_217 : decode code 217 = .ok (.iconst 1, 1) := by decide +kernel
theorem dL_218 : decode code 218 = .ok (.iadd, 1) := by decide +kernel
theorem dL_219 : decode code 219 = .ok (.iaload, 1) := by decide +kernel
theorem dL_220 : decode code 220 = .ok (.invokevirtual 22, 3) := by decide +kernel
theorem dL_223 : decode code 223 = .ok (.if_icmp .eq 820, 3) := by decide +kernel
theorem dL_226 : decode code 226 = .ok (.iconst 0, 1) := by decide +kernel
theorem dL_227 : decode code 227 = .ok (.ireturn, 1) := by decide +kernel
theorem dL_228 : decode code 228 = .ok (.aload_n 1, 1) := by decide +kernel
theorem dL_229 : decode code 229 = .ok (.aload_n 0, 1) := by decide +kernel
theorem dL_230 : decode code 230 = .ok (.iload_n 3, 1) := by decide +kernel
theorem dL_231 : decode code 231 = .ok (.iconst 1, 1) := by decide +kernel
theorem dL_232 : decode code 232 = .ok (.iadd, 1) := by decide +kernel
theorem dL_233 : decode code 233 = .ok (.iaload, 1) := by decide +kernel
theorem dL_234 : decode code 234 = .ok (.invokevirtual 23, 3) := by decide +kernel
theorem dL_237 : decode code 237 = .ok (.aload_n 2, 1) := by decide +kernel
theorem dL_238 : decode code 238 = .ok (.aload_n 0, 1) := by decide +kernel
theorem dL_239 : decode code 239 = .ok (.iload_n 3, 1) := by decide +kernel
theorem dL_240 : decode code 240 = .ok (.iconst 1, 1) := by decide +kernel
theorem dL_241 : decode code 241 = .ok (.iadd, 1) := by decide +kernel
theorem dL_242 : decode code 242 = .ok (.iaload, 1) := by decide +kernel
theorem dL_243 : decode code 243 = .ok (.invokevirtual 26, 3) := by decide +kernel
theorem dL_246 : decode code 246 = .ok (.if_icmp .eq 797, 3) := by decide +kernel
theorem dL_249 : decode code 249 = .ok (.iconst 0, 1) := by decide +kernel
theorem dL_250 : decode code 250 = .ok (.ireturn, 1) := by decide +kernel
theorem dL_251 : decode code 251 = .ok (.aload_n 1, 1) := by decide +kernel
theorem dL_252 : decode code 252 = .ok (.aload_n 0, 1) := by decide +kernel
theorem dL_253 : decode code 253 = .ok (.iload_n 3, 1) := by decide +kernel
theorem dL_254 : decode code 254 = .ok (.iconst 1, 1) := by decide +kernel
theorem dL_255 : decode code 255 = .ok (.iadd, 1) := by decide +kernel
theorem dL_256 : decode code 256 = .ok (.iaload, 1) := by decide +kernel
theorem dL_257 : decode code 257 = .ok (.invokevirtual 27, 3) := by decide +kernel
theorem dL_260 : decode code 260 = .ok (.aload_n 2, 1) := by decide +kernel
theorem dL_261 : decode code 261 = .ok (.aload_n 0, 1) := by decide +kernel
theorem dL_262 : decode code 262 = .ok (.iload_n 3, 1) := by decide +kernel
theorem dL_263 : decode code 263 = .ok (.iconst 1, 1) := by decide +kernel
theorem dL_264 : decode code 264 = .ok (.iadd, 1) := by decide +kernel
theorem dL_265 : decode code 265 = .ok (.iaload, 1) := by decide +kernel
theorem dL_266 : decode code 266 = .ok (.invokevirtual 30, 3) := by decide +kernel
theorem dL_269 : decode code 269 = .ok (.if_icmp .eq 774, 3) := by decide +kernel
theorem dL_272 : decode code 272 = .ok (.iconst 0, 1) := by decide +kernel
theorem dL_273 : decode code 273 = .ok (.ireturn, 1) := by decide +kernel
theorem dL_274 : decode code 274 = .ok (.aload_n 1, 1) := by decide +kernel
theorem dL_275 : decode code 275 = .ok (.aload_n 0, 1) := by decide +kernel
theorem dL_276 : decode code 276 = .ok (.iload_n 3, 1) := by decide +kernel
theorem dL_277 : decode code 277 = .ok (.iconst 1, 1) := by decide +kernel
theorem dL_278 : decode code 278 = .ok (.iadd, 1) := by decide +kernel
theorem dL_279 : decode code 279 = .ok (.iaload, 1) := by decide +kernel
theorem dL_280 : decode code 280 = .ok (.aload_n 0, 1) := by decide +kernel
theorem dL_281 : decode code 281 = .ok (.iload_n 3, 1) := by decide +kernel
theorem dL_282 : decode code 282 = .ok (.iconst 2, 1) := by decide +kernel
theorem dL_283 : decode code 283 = .ok (.iadd, 1) := by decide +kernel
theorem dL_284 : decode code 284 = .ok (.iaload, 1) := by decide +kernel
theorem dL_285 : decode code 285 = .ok (.invokevirtual 31, 3) := by decide +kernel
theorem dL_288 : decode code 288 = .ok (.aload_n 2, 1) := by decide +kernel
theorem dL_289 : decode code 289 = .ok (.aload_n 0, 1) := by decide +kernel
theorem dL_290 : decode code 290 = .ok (.iload_n 3, 1) := by decide +kernel
theorem dL_291 : decode code 291 = .ok (.iconst 1, 1) := by decide +kernel
theorem dL_292 : decode code 292 = .ok (.iadd, 1) := by decide +kernel
theorem dL_293 : decode code 293 = .ok (.iaload, 1) := by decide +kernel
theorem dL_294 : decode code 294 = .ok (.aload_n 0, 1) := by decide +kernel
theorem dL_295 : decode code 295 = .ok (.iload_n 3, 1) := by decide +kernel
theorem dL_296 : decode code 296 = .ok (.iconst 2, 1) := by decide +kernel
theorem dL_297 : decode code 297 = .ok (.iadd, 1) := by decide +kernel
theorem dL_298 : decode code 298 = .ok (.iaload, 1) := by decide +kernel
theorem dL_299 : decode code 299 = .ok (.invokevirtual 34, 3) := by decide +kernel
theorem dL_302 : decode code 302 = .ok (.if_icmp .eq 741, 3) := by decide +kernel
theorem dL_305 : decode code 305 = .ok (.iconst 0, 1) := by decide +kernel
theorem dL_306 : decode code 306 = .ok (.ireturn, 1) := by decide +kernel
theorem dL_307 : decode code 307 = .ok (.aload_n 1, 1) := by decide +kernel
theorem dL_308 : decode code 308 = .ok (.aload_n 0, 1) := by decide +kernel
theorem dL_309 : decode code 309 = .ok (.iload_n 3, 1) := by decide +kernel
theorem dL_310 : decode code 310 = .ok (.iconst 1, 1) := by decide +kernel
theorem dL_311 : decode code 311 = .ok (.iadd, 1) := by decide +kernel
theorem dL_312 : decode code 312 = .ok (.iaload, 1) := by decide +kernel
theorem dL_313 : decode code 313 = .ok (.aload_n 0, 1) := by decide +kernel
theorem dL_314 : decode code 314 = .ok (.iload_n 3, 1) := by decide +kernel
theorem dL_315 : decode code 315 = .ok (.iconst 2, 1) := by decide +kernel
theorem dL_316 : decode code 316 = .ok (.iadd, 1) := by decide +kernel
theorem dL_317 : decode code 317 = .ok (.iaload, 1) := by decide +kernel
theorem dL_318 : decode code 318 = .ok (.invokevirtual 35, 3) := by decide +kernel
theorem dL_321 : decode code 321 = .ok (.aload_n 2, 1) := by decide +kernel
theorem dL_322 : decode code 322 = .ok (.aload_n 0, 1) := by decide +kernel
theorem dL_323 : decode code 323 = .ok (.iload_n 3, 1) := by decide +kernel
theorem dL_324 : decode code 324 = .ok (.iconst 1, 1) := by decide +kernel
theorem dL_325 : decode code 325 = .ok (.iadd, 1) := by decide +kernel
theorem dL_326 : decode code 326 = .ok (.iaload, 1) := by decide +kernel
theorem dL_327 : decode code 327 = .ok (.aload_n 0, 1) := by decide +kernel
theorem dL_328 : decode code 328 = .ok (.iload_n 3, 1) := by decide +kernel
theorem dL_329 : decode code 329 = .ok (.iconst 2, 1) := by decide +kernel
theorem dL_330 : decode code 330 = .ok (.iadd, 1) := by decide +kernel
theorem dL_331 : decode code 331 = .ok (.iaload, 1) := by decide +kernel
theorem dL_332 : decode code 332 = .ok (.invokevirtual 38, 3) := by decide +kernel
theorem dL_335 : decode code 335 = .ok (.if_icmp .eq 708, 3) := by decide +kernel
theorem dL_338 : decode code 338 = .ok (.iconst 0, 1) := by decide +kernel
theorem dL_339 : decode code 339 = .ok (.ireturn, 1) := by decide +kernel
theorem dL_340 : decode code 340 = .ok (.aload_n 1, 1) := by decide +kernel
theorem dL_341 : decode code 341 = .ok (.aload_n 0, 1) := by decide +kernel
theorem dL_342 : decode code 342 = .ok (.iload_n 3, 1) := by decide +kernel
theorem dL_343 : decode code 343 = .ok (.iconst 1, 1) := by decide +kernel
theorem dL_344 : decode code 344 = .ok (.iadd, 1) := by decide +kernel
theorem dL_345 : decode code 345 = .ok (.iaload, 1) := by decide +kernel
theorem dL_346 : decode code 346 = .ok (.aload_n 0, 1) := by decide +kernel
theorem dL_347 : decode code 347 = .ok (.iload_n 3, 1) := by decide +kernel
theorem dL_348 : decode code 348 = .ok (.iconst 2, 1) := by decide +kernel
theorem dL_349 : decode code 349 = .ok (.iadd, 1) := by decide +kernel
theorem dL_350 : decode code 350 = .ok (.iaload, 1) := by decide +kernel
theorem dL_351 : decode code 351 = .ok (.aload_n 0, 1) := by decide +kernel
theorem dL_352 : decode code 352 = .ok (.iload_n 3, 1) := by decide +kernel
theorem dL_353 : decode code 353 = .ok (.iconst 3, 1) := by decide +kernel
theorem dL_354 : decode code 354 = .ok (.iadd, 1) := by decide +kernel
theorem dL_355 : decode code 355 = .ok (.iaload, 1) := by decide +kernel
theorem dL_356 : decode code 356 = .ok (.invokevirtual 39, 3) := by decide +kernel
theorem dL_359 : decode code 359 = .ok (.aload_n 2, 1) := by decide +kernel
theorem dL_360 : decode code 360 = .ok (.aload_n 0, 1) := by decide +kernel
theorem dL_361 : decode code 361 = .ok (.iload_n 3, 1) := by decide +kernel
theorem dL_362 : decode code 362 = .ok (.iconst 1, 1) := by decide +kernel
theorem dL_363 : decode code 363 = .ok (.iadd, 1) := by decide +kernel
theorem dL_364 : decode code 364 = .ok (.iaload, 1) := by decide +kernel
theorem dL_365 : decode code 365 = .ok (.aload_n 0, 1) := by decide +kernel
theorem dL_366 : decode code 366 = .ok (.iload_n 3, 1) := by decide +kernel
theorem dL_367 : decode code 367 = .ok (.iconst 2, 1) := by decide +kernel
theorem dL_368 : decode code 368 = .ok (.iadd, 1) := by decide +kernel
theorem dL_369 : decode code 369 = .ok (.iaload, 1) := by decide +kernel
theorem dL_370 : decode code 370 = .ok (.aload_n 0, 1) := by decide +kernel
theorem dL_371 : decode code 371 = .ok (.iload_n 3, 1) := by decide +kernel
theorem dL_372 : decode code 372 = .ok (.iconst 3, 1) := by decide +kernel
theorem dL_373 : decode code 373 = .ok (.iadd, 1) := by decide +kernel
theorem dL_374 : decode code 374 = .ok (.iaload, 1) := by decide +kernel
theorem dL_375 : decode code 375 = .ok (.invokevirtual 43, 3) := by decide +kernel
theorem dL_378 : decode code 378 = .ok (.if_icmp .eq 665, 3) := by decide +kernel
theorem dL_381 : decode code 381 = .ok (.iconst 0, 1) := by decide +kernel
theorem dL_382 : decode code 382 = .ok (.ireturn, 1) := by decide +kernel
theorem dL_383 : decode code 383 = .ok (.aload_n 1, 1) := by decide +kernel
theorem dL_384 : decode code 384 = .ok (.aload_n 0, 1) := by decide +kernel
theorem dL_385 : decode code 385 = .ok (.iload_n 3, 1) := by decide +kernel
theorem dL_386 : decode code 386 = .ok (.iconst 1, 1) := by decide +kernel
theorem dL_387 : decode code 387 = .ok (.iadd, 1) := by decide +kernel
theorem dL_388 : decode code 388 = .ok (.iaload, 1) := by decide +kernel
theorem dL_389 : decode code 389 = .ok (.aload_n 0, 1) := by decide +kernel
theorem dL_390 : decode code 390 = .ok (.iload_n 3, 1) := by decide +kernel
theorem dL_391 : decode code 391 = .ok (.iconst 2, 1) := by decide +kernel
theorem dL_392 : decode code 392 = .ok (.iadd, 1) := by decide +kernel
theorem dL_393 : decode code 393 = .ok (.iaload, 1) := by decide +kernel
theorem dL_394 : decode code 394 = .ok (.invokevirtual 44, 3) := by decide +kernel
theorem dL_397 : decode code 397 = .ok (.aload_n 2, 1) := by decide +kernel
theorem dL_398 : decode code 398 = .ok (.aload_n 0, 1) := by decide +kernel
theorem dL_399 : decode code 399 = .ok (.iload_n 3, 1) := by decide +kernel
theorem dL_400 : decode code 400 = .ok (.iconst 1, 1) := by decide +kernel
theorem dL_401 : decode code 401 = .ok (.iadd, 1) := by decide +kernel
theorem dL_402 : decode code 402 = .ok (.iaload, 1) := by decide +kernel
theorem dL_403 : decode code 403 = .ok (.aload_n 0, 1) := by decide +kernel
theorem dL_404 : decode code 404 = .ok (.iload_n 3, 1) := by decide +kernel
theorem dL_405 : decode code 405 = .ok (.iconst 2, 1) := by decide +kernel
theorem dL_406 : decode code 406 = .ok (.iadd, 1) := by decide +kernel
theorem dL_407 : decode code 407 = .ok (.iaload, 1) := by decide +kernel
theorem dL_408 : decode code 408 = .ok (.invokevirtual 47, 3) := by decide +kernel
theorem dL_411 : decode code 411 = .ok (.if_icmp .eq 632, 3) := by decide +kernel
theorem dL_414 : decode code 414 = .ok (.iconst 0, 1) := by decide +kernel
theorem dL_415 : decode code 415 = .ok (.ireturn, 1) := by decide +kernel
theorem dL_416 : decode code 416 = .ok (.aload_n 1, 1) := by decide +kernel
theorem dL_417 : decode code 417 = .ok (.aload_n 0, 1) := by decide +kernel
theorem dL_418 : decode code 418 = .ok (.iload_n 3, 1) := by decide +kernel
theorem dL_419 : decode code 419 = .ok (.iconst 1, 1) := by decide +kernel
theorem dL_420 : decode code 420 = .ok (.iadd, 1) := by decide +kernel
theorem dL_421 : decode code 421 = .ok (.iaload, 1) := by decide +kernel
theorem dL_422 : decode code 422 = .ok (.invokevirtual 48, 3) := by decide +kernel
theorem dL_425 : decode code 425 = .ok (.aload_n 2, 1) := by decide +kernel
theorem dL_426 : decode code 426 = .ok (.aload_n 0, 1) := by decide +kernel
theorem dL_427 : decode code 427 = .ok (.iload_n 3, 1) := by decide +kernel
theorem dL_428 : decode code 428 = .ok (.iconst 1, 1) := by decide +kernel
theorem dL_429 : decode code 429 = .ok (.iadd, 1) := by decide +kernel
theorem dL_430 : decode code 430 = .ok (.iaload, 1) := by decide +kernel
theorem dL_431 : decode code 431 = .ok (.invokevirtual 51, 3) := by decide +kernel
theorem dL_434 : decode code 434 = .ok (.if_icmp .eq 609, 3) := by decide +kernel
theorem dL_437 : decode code 437 = .ok (.iconst 0, 1) := by decide +kernel
theorem dL_438 : decode code 438 = .ok (.ireturn, 1) := by decide +kernel
theorem dL_439 : decode code 439 = .ok (.aload_n 1, 1) := by decide +kernel
theorem dL_440 : decode code 440 = .ok (.aload_n 0, 1) := by decide +kernel
theorem dL_441 : decode code 441 = .ok (.iload_n 3, 1) := by decide +kernel
theorem dL_442 : decode code 442 = .ok (.iconst 1, 1) := by decide +kernel
theorem dL_443 : decode code 443 = .ok (.iadd, 1) := by decide +kernel
theorem dL_444 : decode code 444 = .ok (.iaload, 1) := by decide +kernel
theorem dL_445 : decode code 445 = .ok (.aload_n 0, 1) := by decide +kernel
theorem dL_446 : decode code 446 = .ok (.iload_n 3, 1) := by decide +kernel
theorem dL_447 : decode code 447 = .ok (.iconst 2, 1) := by decide +kernel
theorem dL_448 : decode code 448 = .ok (.iadd, 1) := by decide +kernel
theorem dL_449 : decode code 449 = .ok (.iaload, 1) := by decide +kernel
theorem dL_450 : decode code 450 = .ok (.ifCond .eq 7, 3) := by decide +kernel
theorem dL_453 : decode code 453 = .ok (.iconst 1, 1) := by decide +kernel
theorem dL_454 : decode code 454 = .ok (.goto 4, 3) := by decide +kernel
theorem dL_457 : decode code 457 = .ok (.iconst 0, 1) := by decide +kernel
theorem dL_458 : decode code 458 = .ok (.invokevirtual 52, 3) := by decide +kernel
theorem dL_461 : decode code 461 = .ok (.aload_n 2, 1) := by decide +kernel
theorem dL_462 : decode code 462 = .ok (.aload_n 0, 1) := by decide +kernel
theorem dL_463 : decode code 463 = .ok (.iload_n 3, 1) := by decide +kernel
theorem dL_464 : decode code 464 = .ok (.iconst 1, 1) := by decide +kernel
theorem dL_465 : decode code 465 = .ok (.iadd, 1) := by decide +kernel
theorem dL_466 : decode code 466 = .ok (.iaload, 1) := by decide +kernel
theorem dL_467 : decode code 467 = .ok (.aload_n 0, 1) := by decide +kernel
theorem dL_468 : decode code 468 = .ok (.iload_n 3, 1) := by decide +kernel
theorem dL_469 : decode code 469 = .ok (.iconst 2, 1) := by decide +kernel
theorem dL_470 : decode code 470 = .ok (.iadd, 1) := by decide +kernel
theorem dL_471 : decode code 471 = .ok (.iaload, 1) := by decide +kernel
theorem dL_472 : decode code 472 = .ok (.ifCond .eq 7, 3) := by decide +kernel
theorem dL_475 : decode code 475 = .ok (.iconst 1, 1) := by decide +kernel
theorem dL_476 : decode code 476 = .ok (.goto 4, 3) := by decide +kernel
theorem dL_479 : decode code 479 = .ok (.iconst 0, 1) := by decide +kernel
theorem dL_480 : decode code 480 = .ok (.invokevirtual 56, 3) := by decide +kernel
theorem dL_483 : decode code 483 = .ok (.if_icmp .eq 560, 3) := by decide +kernel
theorem dL_486 : decode code 486 = .ok (.iconst 0, 1) := by decide +kernel
theorem dL_487 : decode code 487 = .ok (.ireturn, 1) := by decide +kernel
theorem dL_488 : decode code 488 = .ok (.aload_n 1, 1) := by decide +kernel
theorem dL_489 : decode code 489 = .ok (.aload_n 0, 1) := by decide +kernel
theorem dL_490 : decode code 490 = .ok (.iload_n 3, 1) := by decide +kernel
theorem dL_491 : decode code 491 = .ok (.iconst 1, 1) := by decide +kernel
theorem dL_492 : decode code 492 = .ok (.iadd, 1) := by decide +kernel
theorem dL_493 : decode code 493 = .ok (.iaload, 1) := by decide +kernel
theorem dL_494 : decode code 494 = .ok (.aload_n 0, 1) := by decide +kernel
theorem dL_495 : decode code 495 = .ok (.iload_n 3, 1) := by decide +kernel
theorem dL_496 : decode code 496 = .ok (.iconst 2, 1) := by decide +kernel
theorem dL_497 : decode code 497 = .ok (.iadd, 1) := by decide +kernel
theorem dL_498 : decode code 498 = .ok (.iaload, 1) := by decide +kernel
theorem dL_499 : decode code 499 = .ok (.invokevirtual 57, 3) := by decide +kernel
theorem dL_502 : decode code 502 = .ok (.aload_n 2, 1) := by decide +kernel
theorem dL_503 : decode code 503 = .ok (.aload_n 0, 1) := by decide +kernel
theorem dL_504 : decode code 504 = .ok (.iload_n 3, 1) := by decide +kernel
theorem dL_505 : decode code 505 = .ok (.iconst 1, 1) := by decide +kernel
theorem dL_506 : decode code 506 = .ok (.iadd, 1) := by decide +kernel
theorem dL_507 : decode code 507 = .ok (.iaload, 1) := by decide +kernel
theorem dL_508 : decode code 508 = .ok (.aload_n 0, 1) := by decide +kernel
theorem dL_509 : decode code 509 = .ok (.iload_n 3, 1) := by decide +kernel
theorem dL_510 : decode code 510 = .ok (.iconst 2, 1) := by decide +kernel
theorem dL_511 : decode code 511 = .ok (.iadd, 1) := by decide +kernel
theorem dL_512 : decode code 512 = .ok (.iaload, 1) := by decide +kernel
theorem dL_513 : decode code 513 = .ok (.invokevirtual 60, 3) := by decide +kernel
theorem dL_516 : decode code 516 = .ok (.if_icmp .eq 527, 3) := by decide +kernel
theorem dL_519 : decode code 519 = .ok (.iconst 0, 1) := by decide +kernel
theorem dL_520 : decode code 520 = .ok (.ireturn, 1) := by decide +kernel
theorem dL_521 : decode code 521 = .ok (.aload_n 1, 1) := by decide +kernel
theorem dL_522 : decode code 522 = .ok (.invokevirtual 61, 3) := by decide +kernel
theorem dL_525 : decode code 525 = .ok (.aload_n 2, 1) := by decide +kernel
theorem dL_526 : decode code 526 = .ok (.invokevirtual 65, 3) := by decide +kernel
theorem dL_529 : decode code 529 = .ok (.if_icmp .eq 514, 3) := by decide +kernel
theorem dL_532 : decode code 532 = .ok (.iconst 0, 1) := by decide +kernel
theorem dL_533 : decode code 533 = .ok (.ireturn, 1) := by decide +kernel
theorem dL_534 : decode code 534 = .ok (.aload_n 1, 1) := by decide +kernel
theorem dL_535 : decode code 535 = .ok (.aload_n 0, 1) := by decide +kernel
theorem dL_536 : decode code 536 = .ok (.iload_n 3, 1) := by decide +kernel
theorem dL_537 : decode code 537 = .ok (.iconst 1, 1) := by decide +kernel
theorem dL_538 : decode code 538 = .ok (.iadd, 1) := by decide +kernel
theorem dL_539 : decode code 539 = .ok (.iaload, 1) := by decide +kernel
theorem dL_540 : decode code 540 = .ok (.aload_n 0, 1) := by decide +kernel
theorem dL_541 : decode code 541 = .ok (.iload_n 3, 1) := by decide +kernel
theorem dL_542 : decode code 542 = .ok (.iconst 2, 1) := by decide +kernel
theorem dL_543 : decode code 543 = .ok (.iadd, 1) := by decide +kernel
theorem dL_544 : decode code 544 = .ok (.iaload, 1) := by decide +kernel
theorem dL_545 : decode code 545 = .ok (.aload_n 0, 1) := by decide +kernel
theorem dL_546 : decode code 546 = .ok (.iload_n 3, 1) := by decide +kernel
theorem dL_547 : decode code 547 = .ok (.iconst 3, 1) := by decide +kernel
theorem dL_548 : decode code 548 = .ok (.iadd, 1) := by decide +kernel
theorem dL_549 : decode code 549 = .ok (.iaload, 1) := by decide +kernel
theorem dL_550 : decode code 550 = .ok (.invokevirtual 66, 3) := by decide +kernel
theorem dL_553 : decode code 553 = .ok (.aload_n 2, 1) := by decide +kernel
theorem dL_554 : decode code 554 = .ok (.aload_n 0, 1) := by decide +kernel
theorem dL_555 : decode code 555 = .ok (.iload_n 3, 1) := by decide +kernel
theorem dL_556 : decode code 556 = .ok (.iconst 1, 1) := by decide +kernel
theorem dL_557 : decode code 557 = .ok (.iadd, 1) := by decide +kernel
theorem dL_558 : decode code 558 = .ok (.iaload, 1) := by decide +kernel
theorem dL_559 : decode code 559 = .ok (.aload_n 0, 1) := by decide +kernel
theorem dL_560 : decode code 560 = .ok (.iload_n 3, 1) := by decide +kernel
theorem dL_561 : decode code 561 = .ok (.iconst 2, 1) := by decide +kernel
theorem dL_562 : decode code 562 = .ok (.iadd, 1) := by decide +kernel
theorem dL_563 : decode code 563 = .ok (.iaload, 1) := by decide +kernel
theorem dL_564 : decode code 564 = .ok (.aload_n 0, 1) := by decide +kernel
theorem dL_565 : decode code 565 = .ok (.iload_n 3, 1) := by decide +kernel
theorem dL_566 : decode code 566 = .ok (.iconst 3, 1) := by decide +kernel
theorem dL_567 : decode code 567 = .ok (.iadd, 1) := by decide +kernel
theorem dL_568 : decode code 568 = .ok (.iaload, 1) := by decide +kernel
theorem dL_569 : decode code 569 = .ok (.invokevirtual 69, 3) := by decide +kernel
theorem dL_572 : decode code 572 = .ok (.if_icmp .eq 471, 3) := by decide +kernel
theorem dL_575 : decode code 575 = .ok (.iconst 0, 1) := by decide +kernel
theorem dL_576 : decode code 576 = .ok (.ireturn, 1) := by decide +kernel
theorem dL_577 : decode code 577 = .ok (.aload_n 1, 1) := by decide +kernel
theorem dL_578 : decode code 578 = .ok (.aload_n 0, 1) := by decide +kernel
theorem dL_579 : decode code 579 = .ok (.iload_n 3, 1) := by decide +kernel
theorem dL_580 : decode code 580 = .ok (.iconst 1, 1) := by decide +kernel
theorem dL_581 : decode code 581 = .ok (.iadd, 1) := by decide +kernel
theorem dL_582 : decode code 582 = .ok (.iaload, 1) := by decide +kernel
theorem dL_583 : decode code 583 = .ok (.i2c, 1) := by decide +kernel
theorem dL_584 : decode code 584 = .ok (.invokevirtual 70, 3) := by decide +kernel
theorem dL_587 : decode code 587 = .ok (.aload_n 2, 1) := by decide +kernel
theorem dL_588 : decode code 588 = .ok (.aload_n 0, 1) := by decide +kernel
theorem dL_589 : decode code 589 = .ok (.iload_n 3, 1) := by decide +kernel
theorem dL_590 : decode code 590 = .ok (.iconst 1, 1) := by decide +kernel
theorem dL_591 : decode code 591 = .ok (.iadd, 1) := by decide +kernel
theorem dL_592 : decode code 592 = .ok (.iaload, 1) := by decide +kernel
theorem dL_593 : decode code 593 = .ok (.i2c, 1) := by decide +kernel
theorem dL_594 : decode code 594 = .ok (.invokevirtual 74, 3) := by decide +kernel
theorem dL_597 : decode code 597 = .ok (.if_icmp .eq 446, 3) := by decide +kernel
theorem dL_600 : decode code 600 = .ok (.iconst 0, 1) := by decide +kernel
theorem dL_601 : decode code 601 = .ok (.ireturn, 1) := by decide +kernel
theorem dL_602 : decode code 602 = .ok (.aload_n 1, 1) := by decide +kernel
theorem dL_603 : decode code 603 = .ok (.invokevirtual 75, 3) := by decide +kernel
theorem dL_606 : decode code 606 = .ok (.aload_n 2, 1) := by decide +kernel
theorem dL_607 : decode code 607 = .ok (.invokevirtual 78, 3) := by decide +kernel
theorem dL_610 : decode code 610 = .ok (.if_icmp .eq 433, 3) := by decide +kernel
theorem dL_613 : decode code 613 = .ok (.iconst 0, 1) := by decide +kernel
theorem dL_614 : decode code 614 = .ok (.ireturn, 1) := by decide +kernel
theorem dL_615 : decode code 615 = .ok (.aload_n 1, 1) := by decide +kernel
theorem dL_616 : decode code 616 = .ok (.invokevirtual 79, 3) := by decide +kernel
theorem dL_619 : decode code 619 = .ok (.aload_n 2, 1) := by decide +kernel
theorem dL_620 : decode code 620 = .ok (.invokevirtual 82, 3) := by decide +kernel
theorem dL_623 : decode code 623 = .ok (.if_icmp .eq 420, 3) := by decide +kernel
theorem dL_626 : decode code 626 = .ok (.iconst 0, 1) := by decide +kernel
theorem dL_627 : decode code 627 = .ok (.ireturn, 1) := by decide +kernel
theorem dL_628 : decode code 628 = .ok (.aload_n 1, 1) := by decide +kernel
theorem dL_629 : decode code 629 = .ok (.invokevirtual 83, 3) := by decide +kernel
theorem dL_632 : decode code 632 = .ok (.aload_n 2, 1) := by decide +kernel
theorem dL_633 : decode code 633 = .ok (.invokevirtual 86, 3) := by decide +kernel
theorem dL_636 : decode code 636 = .ok (.if_icmp .eq 407, 3) := by decide +kernel
theorem dL_639 : decode code 639 = .ok (.iconst 0, 1) := by decide +kernel
theorem dL_640 : decode code 640 = .ok (.ireturn, 1) := by decide +kernel
theorem dL_641 : decode code 641 = .ok (.aload_n 1, 1) := by decide +kernel
theorem dL_642 : decode code 642 = .ok (.invokevirtual 87, 3) := by decide +kernel
theorem dL_645 : decode code 645 = .ok (.aload_n 2, 1) := by decide +kernel
theorem dL_646 : decode code 646 = .ok (.invokevirtual 90, 3) := by decide +kernel
theorem dL_649 : decode code 649 = .ok (.if_icmp .eq 394, 3) := by decide +kernel
theorem dL_652 : decode code 652 = .ok (.iconst 0, 1) := by decide +kernel
theorem dL_653 : decode code 653 = .ok (.ireturn, 1) := by decide +kernel
theorem dL_654 : decode code 654 = .ok (.aload_n 1, 1) := by decide +kernel
theorem dL_655 : decode code 655 = .ok (.invokevirtual 91, 3) := by decide +kernel
theorem dL_658 : decode code 658 = .ok (.aload_n 2, 1) := by decide +kernel
theorem dL_659 : decode code 659 = .ok (.invokevirtual 94, 3) := by decide +kernel
theorem dL_662 : decode code 662 = .ok (.if_icmp .eq 381, 3) := by decide +kernel
theorem dL_665 : decode code 665 = .ok (.iconst 0, 1) := by decide +kernel
theorem dL_666 : decode code 666 = .ok (.ireturn, 1) := by decide +kernel
theorem dL_667 : decode code 667 = .ok (.aload_n 1, 1) := by decide +kernel
theorem dL_668 : decode code 668 = .ok (.aload_n 0, 1) := by decide +kernel
theorem dL_669 : decode code 669 = .ok (.iload_n 3, 1) := by decide +kernel
theorem dL_670 : decode code 670 = .ok (.iconst 1, 1) := by decide +kernel
theorem dL_671 : decode code 671 = .ok (.iadd, 1) := by decide +kernel
theorem dL_672 : decode code 672 = .ok (.iaload, 1) := by decide +kernel
theorem dL_673 : decode code 673 = .ok (.aload_n 0, 1) := by decide +kernel
theorem dL_674 : decode code 674 = .ok (.iload_n 3, 1) := by decide +kernel
theorem dL_675 : decode code 675 = .ok (.iconst 2, 1) := by decide +kernel
theorem dL_676 : decode code 676 = .ok (.iadd, 1) := by decide +kernel
theorem dL_677 : decode code 677 = .ok (.iaload, 1) := by decide +kernel
theorem dL_678 : decode code 678 = .ok (.invokevirtual 95, 3) := by decide +kernel
theorem dL_681 : decode code 681 = .ok (.aload_n 2, 1) := by decide +kernel
theorem dL_682 : decode code 682 = .ok (.aload_n 0, 1) := by decide +kernel
theorem dL_683 : decode code 683 = .ok (.iload_n 3, 1) := by decide +kernel
theorem dL_684 : decode code 684 = .ok (.iconst 1, 1) := by decide +kernel
theorem dL_685 : decode code 685 = .ok (.iadd, 1) := by decide +kernel
theorem dL_686 : decode code 686 = .ok (.iaload, 1) := by decide +kernel
theorem dL_687 : decode code 687 = .ok (.aload_n 0, 1) := by decide +kernel
theorem dL_688 : decode code 688 = .ok (.iload_n 3, 1) := by decide +kernel
theorem dL_689 : decode code 689 = .ok (.iconst 2, 1) := by decide +kernel
theorem dL_690 : decode code 690 = .ok (.iadd, 1) := by decide +kernel
theorem dL_691 : decode code 691 = .ok (.iaload, 1) := by decide +kernel
theorem dL_692 : decode code 692 = .ok (.invokevirtual 98, 3) := by decide +kernel
theorem dL_695 : decode code 695 = .ok (.if_icmp .eq 348, 3) := by decide +kernel
theorem dL_698 : decode code 698 = .ok (.iconst 0, 1) := by decide +kernel
theorem dL_699 : decode code 699 = .ok (.ireturn, 1) := by decide +kernel
theorem dL_700 : decode code 700 = .ok (.aload_n 1, 1) := by decide +kernel
theorem dL_701 : decode code 701 = .ok (.aload_n 0, 1) := by decide +kernel
theorem dL_702 : decode code 702 = .ok (.iload_n 3, 1) := by decide +kernel
theorem dL_703 : decode code 703 = .ok (.iconst 1, 1) := by decide +kernel
theorem dL_704 : decode code 704 = .ok (.iadd, 1) := by decide +kernel
theorem dL_705 : decode code 705 = .ok (.iaload, 1) := by decide +kernel
theorem dL_706 : decode code 706 = .ok (.aload_n 0, 1) := by decide +kernel
theorem dL_707 : decode code 707 = .ok (.iload_n 3, 1) := by decide +kernel
theorem dL_708 : decode code 708 = .ok (.iconst 2, 1) := by decide +kernel
theorem dL_709 : decode code 709 = .ok (.iadd, 1) := by decide +kernel
theorem dL_710 : decode code 710 = .ok (.iaload, 1) := by decide +kernel
theorem dL_711 : decode code 711 = .ok (.invokevirtual 99, 3) := by decide +kernel
theorem dL_714 : decode code 714 = .ok (.aload_n 2, 1) := by decide +kernel
theorem dL_715 : decode code 715 = .ok (.aload_n 0, 1) := by decide +kernel
theorem dL_716 : decode code 716 = .ok (.iload_n 3, 1) := by decide +kernel
theorem dL_717 : decode code 717 = .ok (.iconst 1, 1) := by decide +kernel
theorem dL_718 : decode code 718 = .ok (.iadd, 1) := by decide +kernel
theorem dL_719 : decode code 719 = .ok (.iaload, 1) := by decide +kernel
theorem dL_720 : decode code 720 = .ok (.aload_n 0, 1) := by decide +kernel
theorem dL_721 : decode code 721 = .ok (.iload_n 3, 1) := by decide +kernel
theorem dL_722 : decode code 722 = .ok (.iconst 2, 1) := by decide +kernel
theorem dL_723 : decode code 723 = .ok (.iadd, 1) := by decide +kernel
theorem dL_724 : decode code 724 = .ok (.iaload, 1) := by decide +kernel
theorem dL_725 : decode code 725 = .ok (.invokevirtual 102, 3) := by decide +kernel
theorem dL_728 : decode code 728 = .ok (.if_icmp .eq 315, 3) := by decide +kernel
theorem dL_731 : decode code 731 = .ok (.iconst 0, 1) := by decide +kernel
theorem dL_732 : decode code 732 = .ok (.ireturn, 1) := by decide +kernel
theorem dL_733 : decode code 733 = .ok (.aload_n 1, 1) := by decide +kernel
theorem dL_734 : decode code 734 = .ok (.aload_n 0, 1) := by decide +kernel
theorem dL_735 : decode code 735 = .ok (.iload_n 3, 1) := by decide +kernel
theorem dL_736 : decode code 736 = .ok (.iconst 1, 1) := by decide +kernel
theorem dL_737 : decode code 737 = .ok (.iadd, 1) := by decide +kernel
theorem dL_738 : decode code 738 = .ok (.iaload, 1) := by decide +kernel
theorem dL_739 : decode code 739 = .ok (.aload_n 0, 1) := by decide +kernel
theorem dL_740 : decode code 740 = .ok (.iload_n 3, 1) := by decide +kernel
theorem dL_741 : decode code 741 = .ok (.iconst 2, 1) := by decide +kernel
theorem dL_742 : decode code 742 = .ok (.iadd, 1) := by decide +kernel
theorem dL_743 : decode code 743 = .ok (.iaload, 1) := by decide +kernel
theorem dL_744 : decode code 744 = .ok (.invokevirtual 103, 3) := by decide +kernel
theorem dL_747 : decode code 747 = .ok (.aload_n 2, 1) := by decide +kernel
theorem dL_748 : decode code 748 = .ok (.aload_n 0, 1) := by decide +kernel
theorem dL_749 : decode code 749 = .ok (.iload_n 3, 1) := by decide +kernel
theorem dL_750 : decode code 750 = .ok (.iconst 1, 1) := by decide +kernel
theorem dL_751 : decode code 751 = .ok (.iadd, 1) := by decide +kernel
theorem dL_752 : decode code 752 = .ok (.iaload, 1) := by decide +kernel
theorem dL_753 : decode code 753 = .ok (.aload_n 0, 1) := by decide +kernel
theorem dL_754 : decode code 754 = .ok (.iload_n 3, 1) := by decide +kernel
theorem dL_755 : decode code 755 = .ok (.iconst 2, 1) := by decide +kernel
theorem dL_756 : decode code 756 = .ok (.iadd, 1) := by decide +kernel
theorem dL_757 : decode code 757 = .ok (.iaload, 1) := by decide +kernel
theorem dL_758 : decode code 758 = .ok (.invokevirtual 106, 3) := by decide +kernel
theorem dL_761 : decode code 761 = .ok (.if_icmp .eq 282, 3) := by decide +kernel
theorem dL_764 : decode code 764 = .ok (.iconst 0, 1) := by decide +kernel
theorem dL_765 : decode code 765 = .ok (.ireturn, 1) := by decide +kernel
theorem dL_766 : decode code 766 = .ok (.aload_n 1, 1) := by decide +kernel
theorem dL_767 : decode code 767 = .ok (.aload_n 0, 1) := by decide +kernel
theorem dL_768 : decode code 768 = .ok (.iload_n 3, 1) := by decide +kernel
theorem dL_769 : decode code 769 = .ok (.iconst 1, 1) := by decide +kernel
theorem dL_770 : decode code 770 = .ok (.iadd, 1) := by decide +kernel
theorem dL_771 : decode code 771 = .ok (.iaload, 1) := by decide +kernel
theorem dL_772 : decode code 772 = .ok (.invokevirtual 107, 3) := by decide +kernel
theorem dL_775 : decode code 775 = .ok (.aload_n 2, 1) := by decide +kernel
theorem dL_776 : decode code 776 = .ok (.aload_n 0, 1) := by decide +kernel
theorem dL_777 : decode code 777 = .ok (.iload_n 3, 1) := by decide +kernel
theorem dL_778 : decode code 778 = .ok (.iconst 1, 1) := by decide +kernel
theorem dL_779 : decode code 779 = .ok (.iadd, 1) := by decide +kernel
theorem dL_780 : decode code 780 = .ok (.iaload, 1) := by decide +kernel
theorem dL_781 : decode code 781 = .ok (.invokevirtual 110, 3) := by decide +kernel
theorem dL_784 : decode code 784 = .ok (.if_icmp .eq 259, 3) := by decide +kernel
theorem dL_787 : decode code 787 = .ok (.iconst 0, 1) := by decide +kernel
theorem dL_788 : decode code 788 = .ok (.ireturn, 1) := by decide +kernel
theorem dL_789 : decode code 789 = .ok (.aload_n 1, 1) := by decide +kernel
theorem dL_790 : decode code 790 = .ok (.aload_n 0, 1) := by decide +kernel
theorem dL_791 : decode code 791 = .ok (.iload_n 3, 1) := by decide +kernel
theorem dL_792 : decode code 792 = .ok (.iconst 1, 1) := by decide +kernel
theorem dL_793 : decode code 793 = .ok (.iadd, 1) := by decide +kernel
theorem dL_794 : decode code 794 = .ok (.iaload, 1) := by decide +kernel
theorem dL_795 : decode code 795 = .ok (.aload_n 0, 1) := by decide +kernel
theorem dL_796 : decode code 796 = .ok (.iload_n 3, 1) := by decide +kernel
theorem dL_797 : decode code 797 = .ok (.iconst 2, 1) := by decide +kernel
theorem dL_798 : decode code 798 = .ok (.iadd, 1) := by decide +kernel
theorem dL_799 : decode code 799 = .ok (.iaload, 1) := by decide +kernel
theorem dL_800 : decode code 800 = .ok (.aload_n 0, 1) := by decide +kernel
theorem dL_801 : decode code 801 = .ok (.iload_n 3, 1) := by decide +kernel
theorem dL_802 : decode code 802 = .ok (.iconst 3, 1) := by decide +kernel
theorem dL_803 : decode code 803 = .ok (.iadd, 1) := by decide +kernel
theorem dL_804 : decode code 804 = .ok (.iaload, 1) := by decide +kernel
theorem dL_805 : decode code 805 = .ok (.invokevirtual 111, 3) := by decide +kernel
theorem dL_808 : decode code 808 = .ok (.aload_n 2, 1) := by decide +kernel
theorem dL_809 : decode code 809 = .ok (.aload_n 0, 1) := by decide +kernel
theorem dL_810 : decode code 810 = .ok (.iload_n 3, 1) := by decide +kernel
theorem dL_811 : decode code 811 = .ok (.iconst 1, 1) := by decide +kernel
theorem dL_812 : decode code 812 = .ok (.iadd, 1) := by decide +kernel
theorem dL_813 : decode code 813 = .ok (.iaload, 1) := by decide +kernel
theorem dL_814 : decode code 814 = .ok (.aload_n 0, 1) := by decide +kernel
theorem dL_815 : decode code 815 = .ok (.iload_n 3, 1) := by decide +kernel
theorem dL_816 : decode code 816 = .ok (.iconst 2, 1) := by decide +kernel
theorem dL_817 : decode code 817 = .ok (.iadd, 1) := by decide +kernel
theorem dL_818 : decode code 818 = .ok (.iaload, 1) := by decide +kernel
theorem dL_819 : decode code 819 = .ok (.aload_n 0, 1) := by decide +kernel
theorem dL_820 : decode code 820 = .ok (.iload_n 3, 1) := by decide +kernel
theorem dL_821 : decode code 821 = .ok (.iconst 3, 1) := by decide +kernel
theorem dL_822 : decode code 822 = .ok (.iadd, 1) := by decide +kernel
theorem dL_823 : decode code 823 = .ok (.iaload, 1) := by decide +kernel
theorem dL_824 : decode code 824 = .ok (.invokevirtual 114, 3) := by decide +kernel
theorem dL_827 : decode code 827 = .ok (.if_icmp .eq 216, 3) := by decide +kernel
theorem dL_830 : decode code 830 = .ok (.iconst 0, 1) := by decide +kernel
theorem dL_831 : decode code 831 = .ok (.ireturn, 1) := by decide +kernel
theorem dL_832 : decode code 832 = .ok (.aload_n 1, 1) := by decide +kernel
theorem dL_833 : decode code 833 = .ok (.aload_n 0, 1) := by decide +kernel
theorem dL_834 : decode code 834 = .ok (.iload_n 3, 1) := by decide +kernel
theorem dL_835 : decode code 835 = .ok (.iconst 1, 1) := by decide +kernel
theorem dL_836 : decode code 836 = .ok (.iadd, 1) := by decide +kernel
theorem dL_837 : decode code 837 = .ok (.iaload, 1) := by decide +kernel
theorem dL_838 : decode code 838 = .ok (.aload_n 0, 1) := by decide +kernel
theorem dL_839 : decode code 839 = .ok (.iload_n 3, 1) := by decide +kernel
theorem dL_840 : decode code 840 = .ok (.iconst 2, 1) := by decide +kernel
theorem dL_841 : decode code 841 = .ok (.iadd, 1) := by decide +kernel
theorem dL_842 : decode code 842 = .ok (.iaload, 1) := by decide +kernel
theorem dL_843 : decode code 843 = .ok (.invokevirtual 115, 3) := by decide +kernel
theorem dL_846 : decode code 846 = .ok (.aload_n 2, 1) := by decide +kernel
theorem dL_847 : decode code 847 = .ok (.aload_n 0, 1) := by decide +kernel
theorem dL_848 : decode code 848 = .ok (.iload_n 3, 1) := by decide +kernel
theorem dL_849 : decode code 849 = .ok (.iconst 1, 1) := by decide +kernel
theorem dL_850 : decode code 850 = .ok (.iadd, 1) := by decide +kernel
theorem dL_851 : decode code 851 = .ok (.iaload, 1) := by decide +kernel
theorem dL_852 : decode code 852 = .ok (.aload_n 0, 1) := by decide +kernel
theorem dL_853 : decode code 853 = .ok (.iload_n 3, 1) := by decide +kernel
theorem dL_854 : decode code 854 = .ok (.iconst 2, 1) := by decide +kernel
theorem dL_855 : decode code 855 = .ok (.iadd, 1) := by decide +kernel
theorem dL_856 : decode code 856 = .ok (.iaload, 1) := by decide +kernel
theorem dL_857 : decode code 857 = .ok (.invokevirtual 118, 3) := by decide +kernel
theorem dL_860 : decode code 860 = .ok (.if_icmp .eq 183, 3) := by decide +kernel
theorem dL_863 : decode code 863 = .ok (.iconst 0, 1) := by decide +kernel
theorem dL_864 : decode code 864 = .ok (.ireturn, 1) := by decide +kernel
theorem dL_865 : decode code 865 = .ok (.aload_n 1, 1) := by decide +kernel
theorem dL_866 : decode code 866 = .ok (.aload_n 0, 1) := by decide +kernel
theorem dL_867 : decode code 867 = .ok (.iload_n 3, 1) := by decide +kernel
theorem dL_868 : decode code 868 = .ok (.iconst 1, 1) := by decide +kernel
theorem dL_869 : decode code 869 = .ok (.iadd, 1) := by decide +kernel
theorem dL_870 : decode code 870 = .ok (.iaload, 1) := by decide +kernel
theorem dL_871 : decode code 871 = .ok (.aload_n 0, 1) := by decide +kernel
theorem dL_872 : decode code 872 = .ok (.iload_n 3, 1) := by decide +kernel
theorem dL_873 : decode code 873 = .ok (.iconst 2, 1) := by decide +kernel
theorem dL_874 : decode code 874 = .ok (.iadd, 1) := by decide +kernel
theorem dL_875 : decode code 875 = .ok (.iaload, 1) := by decide +kernel
theorem dL_876 : decode code 876 = .ok (.invokevirtual 119, 3) := by decide +kernel
theorem dL_879 : decode code 879 = .ok (.aload_n 2, 1) := by decide +kernel
theorem dL_880 : decode code 880 = .ok (.aload_n 0, 1) := by decide +kernel
theorem dL_881 : decode code 881 = .ok (.iload_n 3, 1) := by decide +kernel
theorem dL_882 : decode code 882 = .ok (.iconst 1, 1) := by decide +kernel
theorem dL_883 : decode code 883 = .ok (.iadd, 1) := by decide +kernel
theorem dL_884 : decode code 884 = .ok (.iaload, 1) := by decide +kernel
theorem dL_885 : decode code 885 = .ok (.aload_n 0, 1) := by decide +kernel
theorem dL_886 : decode code 886 = .ok (.iload_n 3, 1) := by decide +kernel
theorem dL_887 : decode code 887 = .ok (.iconst 2, 1) := by decide +kernel
theorem dL_888 : decode code 888 = .ok (.iadd, 1) := by decide +kernel
theorem dL_889 : decode code 889 = .ok (.iaload, 1) := by decide +kernel
theorem dL_890 : decode code 890 = .ok (.invokevirtual 122, 3) := by decide +kernel
theorem dL_893 : decode code 893 = .ok (.if_icmp .eq 150, 3) := by decide +kernel
theorem dL_896 : decode code 896 = .ok (.iconst 0, 1) := by decide +kernel
theorem dL_897 : decode code 897 = .ok (.ireturn, 1) := by decide +kernel
theorem dL_898 : decode code 898 = .ok (.aload_n 1, 1) := by decide +kernel
theorem dL_899 : decode code 899 = .ok (.aload_n 0, 1) := by decide +kernel
theorem dL_900 : decode code 900 = .ok (.iload_n 3, 1) := by decide +kernel
theorem dL_901 : decode code 901 = .ok (.iconst 1, 1) := by decide +kernel
theorem dL_902 : decode code 902 = .ok (.iadd, 1) := by decide +kernel
theorem dL_903 : decode code 903 = .ok (.iaload, 1) := by decide +kernel
theorem dL_904 : decode code 904 = .ok (.aload_n 0, 1) := by decide +kernel
theorem dL_905 : decode code 905 = .ok (.iload_n 3, 1) := by decide +kernel
theorem dL_906 : decode code 906 = .ok (.iconst 2, 1) := by decide +kernel
theorem dL_907 : decode code 907 = .ok (.iadd, 1) := by decide +kernel
theorem dL_908 : decode code 908 = .ok (.iaload, 1) := by decide +kernel
theorem dL_909 : decode code 909 = .ok (.invokevirtual 123, 3) := by decide +kernel
theorem dL_912 : decode code 912 = .ok (.aload_n 2, 1) := by decide +kernel
theorem dL_913 : decode code 913 = .ok (.aload_n 0, 1) := by decide +kernel
theorem dL_914 : decode code 914 = .ok (.iload_n 3, 1) := by decide +kernel
theorem dL_915 : decode code 915 = .ok (.iconst 1, 1) := by decide +kernel
theorem dL_916 : decode code 916 = .ok (.iadd, 1) := by decide +kernel
theorem dL_917 : decode code 917 = .ok (.iaload, 1) := by decide +kernel
theorem dL_918 : decode code 918 = .ok (.aload_n 0, 1) := by decide +kernel
theorem dL_919 : decode code 919 = .ok (.iload_n 3, 1) := by decide +kernel
theorem dL_920 : decode code 920 = .ok (.iconst 2, 1) := by decide +kernel
theorem dL_921 : decode code 921 = .ok (.iadd, 1) := by decide +kernel
theorem dL_922 : decode code 922 = .ok (.iaload, 1) := by decide +kernel
theorem dL_923 : decode code 923 = .ok (.invokevirtual 126, 3) := by decide +kernel
theorem dL_926 : decode code 926 = .ok (.if_icmp .eq 117, 3) := by decide +kernel
theorem dL_929 : decode code 929 = .ok (.iconst 0, 1) := by decide +kernel
theorem dL_930 : decode code 930 = .ok (.ireturn, 1) := by decide +kernel
theorem dL_931 : decode code 931 = .ok (.aload_n 1, 1) := by decide +kernel
theorem dL_932 : decode code 932 = .ok (.aload_n 0, 1) := by decide +kernel
theorem dL_933 : decode code 933 = .ok (.iload_n 3, 1) := by decide +kernel
theorem dL_934 : decode code 934 = .ok (.iconst 1, 1) := by decide +kernel
theorem dL_935 : decode code 935 = .ok (.iadd, 1) := by decide +kernel
theorem dL_936 : decode code 936 = .ok (.iaload, 1) := by decide +kernel
theorem dL_937 : decode code 937 = .ok (.aload_n 0, 1) := by decide +kernel
theorem dL_938 : decode code 938 = .ok (.iload_n 3, 1) := by decide +kernel
theorem dL_939 : decode code 939 = .ok (.iconst 2, 1) := by decide +kernel
theorem dL_940 : decode code 940 = .ok (.iadd, 1) := by decide +kernel
theorem dL_941 : decode code 941 = .ok (.iaload, 1) := by decide +kernel
theorem dL_942 : decode code 942 = .ok (.invokevirtual 127, 3) := by decide +kernel
theorem dL_945 : decode code 945 = .ok (.aload_n 2, 1) := by decide +kernel
theorem dL_946 : decode code 946 = .ok (.aload_n 0, 1) := by decide +kernel
theorem dL_947 : decode code 947 = .ok (.iload_n 3, 1) := by decide +kernel
theorem dL_948 : decode code 948 = .ok (.iconst 1, 1) := by decide +kernel
theorem dL_949 : decode code 949 = .ok (.iadd, 1) := by decide +kernel
theorem dL_950 : decode code 950 = .ok (.iaload, 1) := by decide +kernel
theorem dL_951 : decode code 951 = .ok (.aload_n 0, 1) := by decide +kernel
theorem dL_952 : decode code 952 = .ok (.iload_n 3, 1) := by decide +kernel
theorem dL_953 : decode code 953 = .ok (.iconst 2, 1) := by decide +kernel
theorem dL_954 : decode code 954 = .ok (.iadd, 1) := by decide +kernel
theorem dL_955 : decode code 955 = .ok (.iaload, 1) := by decide +kernel
theorem dL_956 : decode code 956 = .ok (.invokevirtual 130, 3) := by decide +kernel
theorem dL_959 : decode code 959 = .ok (.if_icmp .eq 84, 3) := by decide +kernel
theorem dL_962 : decode code 962 = .ok (.iconst 0, 1) := by decide +kernel
theorem dL_963 : decode code 963 = .ok (.ireturn, 1) := by decide +kernel
theorem dL_964 : decode code 964 = .ok (.aload_n 1, 1) := by decide +kernel
theorem dL_965 : decode code 965 = .ok (.aload_n 0, 1) := by decide +kernel
theorem dL_966 : decode code 966 = .ok (.iload_n 3, 1) := by decide +kernel
theorem dL_967 : decode code 967 = .ok (.iconst 1, 1) := by decide +kernel
theorem dL_968 : decode code 968 = .ok (.iadd, 1) := by decide +kernel
theorem dL_969 : decode code 969 = .ok (.iaload, 1) := by decide +kernel
theorem dL_970 : decode code 970 = .ok (.aload_n 0, 1) := by decide +kernel
theorem dL_971 : decode code 971 = .ok (.iload_n 3, 1) := by decide +kernel
theorem dL_972 : decode code 972 = .ok (.iconst 2, 1) := by decide +kernel
theorem dL_973 : decode code 973 = .ok (.iadd, 1) := by decide +kernel
theorem dL_974 : decode code 974 = .ok (.iaload, 1) := by decide +kernel
theorem dL_975 : decode code 975 = .ok (.invokevirtual 131, 3) := by decide +kernel
theorem dL_978 : decode code 978 = .ok (.aload_n 2, 1) := by decide +kernel
theorem dL_979 : decode code 979 = .ok (.aload_n 0, 1) := by decide +kernel
theorem dL_980 : decode code 980 = .ok (.iload_n 3, 1) := by decide +kernel
theorem dL_981 : decode code 981 = .ok (.iconst 1, 1) := by decide +kernel
theorem dL_982 : decode code 982 = .ok (.iadd, 1) := by decide +kernel
theorem dL_983 : decode code 983 = .ok (.iaload, 1) := by decide +kernel
theorem dL_984 : decode code 984 = .ok (.aload_n 0, 1) := by decide +kernel
theorem dL_985 : decode code 985 = .ok (.iload_n 3, 1) := by decide +kernel
theorem dL_986 : decode code 986 = .ok (.iconst 2, 1) := by decide +kernel
theorem dL_987 : decode code 987 = .ok (.iadd, 1) := by decide +kernel
theorem dL_988 : decode code 988 = .ok (.iaload, 1) := by decide +kernel
theorem dL_989 : decode code 989 = .ok (.invokevirtual 134, 3) := by decide +kernel
theorem dL_992 : decode code 992 = .ok (.if_icmp .eq 51, 3) := by decide +kernel
theorem dL_995 : decode code 995 = .ok (.iconst 0, 1) := by decide +kernel
theorem dL_996 : decode code 996 = .ok (.ireturn, 1) := by decide +kernel
theorem dL_997 : decode code 997 = .ok (.aload_n 1, 1) := by decide +kernel
theorem dL_998 : decode code 998 = .ok (.aload_n 0, 1) := by decide +kernel
theorem dL_999 : decode code 999 = .ok (.iload_n 3, 1) := by decide +kernel
theorem dL_1000 : decode code 1000 = .ok (.iconst 1, 1) := by decide +kernel
theorem dL_1001 : decode code 1001 = .ok (.iadd, 1) := by decide +kernel
theorem dL_1002 : decode code 1002 = .ok (.iaload, 1) := by decide +kernel
theorem dL_1003 : decode code 1003 = .ok (.invokevirtual 135, 3) := by decide +kernel
theorem dL_1006 : decode code 1006 = .ok (.aload_n 2, 1) := by decide +kernel
theorem dL_1007 : decode code 1007 = .ok (.aload_n 0, 1) := by decide +kernel
theorem dL_1008 : decode code 1008 = .ok (.iload_n 3, 1) := by decide +kernel
theorem dL_1009 : decode code 1009 = .ok (.iconst 1, 1) := by decide +kernel
theorem dL_1010 : decode code 1010 = .ok (.iadd, 1) := by decide +kernel
theorem dL_1011 : decode code 1011 = .ok (.iaload, 1) := by decide +kernel
theorem dL_1012 : decode code 1012 = .ok (.invokevirtual 138, 3) := by decide +kernel
theorem dL_1015 : decode code 1015 = .ok (.if_icmp .eq 28, 3) := by decide +kernel
theorem dL_1018 : decode code 1018 = .ok (.iconst 0, 1) := by decide +kernel
theorem dL_1019 : decode code 1019 = .ok (.ireturn, 1) := by decide +kernel
theorem dL_1020 : decode code 1020 = .ok (.aload_n 1, 1) := by decide +kernel
theorem dL_1021 : decode code 1021 = .ok (.aload_n 0, 1) := by decide +kernel
theorem dL_1022 : decode code 1022 = .ok (.iload_n 3, 1) := by decide +kernel
theorem dL_1023 : decode code 1023 = .ok (.iconst 1, 1) := by decide +kernel
theorem dL_1024 : decode code 1024 = .ok (.iadd, 1) := by decide +kernel
theorem dL_1025 : decode code 1025 = .ok (.iaload, 1) := by decide +kernel
theorem dL_1026 : decode code 1026 = .ok (.invokevirtual 139, 3) := by decide +kernel
theorem dL_1029 : decode code 1029 = .ok (.aload_n 2, 1) := by decide +kernel
theorem dL_1030 : decode code 1030 = .ok (.aload_n 0, 1) := by decide +kernel
theorem dL_1031 : decode code 1031 = .ok (.iload_n 3, 1) := by decide +kernel
theorem dL_1032 : decode code 1032 = .ok (.iconst 1, 1) := by decide +kernel
theorem dL_1033 : decode code 1033 = .ok (.iadd, 1) := by decide +kernel
theorem dL_1034 : decode code 1034 = .ok (.iaload, 1) := by decide +kernel
theorem dL_1035 : decode code 1035 = .ok (.invokevirtual 142, 3) := by decide +kernel
theorem dL_1038 : decode code 1038 = .ok (.if_icmp .eq 5, 3) := by decide +kernel
theorem dL_1041 : decode code 1041 = .ok (.iconst 0, 1) := by decide +kernel
theorem dL_1042 : decode code 1042 = .ok (.ireturn, 1) := by decide +kernel
theorem dL_1043 : decode code 1043 = .ok (.iinc 3 4, 3) := by decide +kernel
theorem dL_1046 : decode code 1046 = .ok (.goto (-1028), 3) := by decide +kernel
theorem dL_1049 : decode code 1049 = .ok (.iconst 1, 1) := by decide +kernel
theorem dL_1050 : decode code 1050 = .ok (.ireturn, 1) := by decide +kernel
abbrev mL : MT := (room_1, wsL_law, code, 4, RL, ret)
/-- what stays true of the law's start: the script; the two objects lie behind it -/
def EL (X : XT) (b L : Nat) (xs : Nat → Int32) : State → Array Value → Prop := fun s args => args = #[Value.ref b] ∧ va_X b L xs s s.heap ∧ b < s.heap.size ∧ ∀ i, i < 339 → s.heap.size ≤ xad X i
def QL : List Frame → Array Value → State → State → Prop := fun below args s => lw_Z below args s
theorem L2_1 : L2 1 := ⟨by decide +kernel, by unfold L6; decide +kernel, by unfold L0 L4; decide +kernel, by decide +kernel, by unfold L7; decide +kernel, by unfold L5; decide +kernel⟩
theorem L2_53 : L2 53 := ⟨by decide +kernel, by unfold L6; decide +kernel, by unfold L0 L4; decide +kernel, by decide +kernel, by unfold L7; decide +kernel, by unfold L5; decide +kernel⟩
theorem L2_107 : L2 107 := ⟨by decide +kernel, by unfold L6; decide +kernel, by unfold L0 L4; decide +kernel, by decide +kernel, by unfold L7; decide +kernel, by unfold L5; decide +kernel⟩
theorem L2_159 : L2 159 := ⟨by decide +kernel, by unfold L6; decide +kernel, by unfold L0 L4; decide +kernel, by decide +kernel, by unfold L7; decide +kernel, by unfold L5; decide +kernel⟩
theorem L2_211 : L2 211 := ⟨by decide +kernel, by unfold L6; decide +kernel, by unfold L0 L4; decide +kernel, by decide +kernel, by unfold L7; decide +kernel, by unfold L5; decide +kernel⟩
theorem L2_263 : L2 263 := ⟨by decide +kernel, by unfold L6; decide +kernel, by unfold L0 L4; decide +kernel, by decide +kernel, by unfold L7; decide +kernel, by unfold L5; decide +kernel⟩
theorem L3_105 : L3 (0 + 105) := by
  refine ⟨by decide +kernel, by decide +kernel, fun j hj => ?_⟩
  rcases (by omega : j = 0 ∨ j = 1 ∨ j = 2 ∨ j = 3) with rfl | rfl | rfl | rfl
  · exact L2_107
  · exact L2_159
  · exact L2_211
  · exact L2_263
theorem L8_0 : L8 0 := ⟨by decide +kernel, L2_1, L2_53, L3_105, by unfold L1; decide +kernel, by unfold L0 L4; decide +kernel, by unfold L5; decide +kernel⟩
theorem L9_334 : L9 334 := by
  unfold L9
  decide +kernel
section
variable {X : XT} {l : Launch} {b L : Nat} {xs : Nat → Int32} {kc ks : Nat} {pc : Nat} {σ : Mem} {lv : List (Nat × Value)} {st : List Value}
theorem EL.off {s : State} {args : Array Value} (h : EL X b L xs s args) : ¬ XA X b := fun ⟨i, hi, e⟩ => by
  have := h.2.2.2 i hi
  have := h.2.2.1
  omega
theorem k_sld {i : Int32} (hin : vp_in i L) (d : decode code pc = .ok (.iaload, 1)) (k : WG X l mL (EL X b L xs) kc ks QL (pc + 1) σ lv (.int (xs i.toNatClampNeg) :: st)) : WG X l mL (EL X b L xs) kc ks QL pc σ lv (.int i :: .ref b :: st) := fun p e s m args below meth c H locs ls C a1 a2 a3 hP hS hl => va_sld C.1.1 C.1.2.1 a3.2.1 a3.2.2.1 a3.off hS hin d (k p e s m args below meth c H locs ls C a1 a2 a3 hP hS hl)
theorem k_slen (d : decode code pc = .ok (.arraylength, 1)) (k : WG X l mL (EL X b L xs) kc ks QL (pc + 1) σ lv (.int (nI L) :: st)) : WG X l mL (EL X b L xs) kc ks QL pc σ lv (.ref b :: st) := fun p e s m args below meth c H locs ls C a1 a2 a3 hP hS hl => va_slen C.1.1 C.1.2.1 a3.2.1 a3.2.2.1 a3.off hS d (k p e s m args below meth c H locs ls C a1 a2 a3 hP hS hl)
theorem k_lend (hk : kc ≤ 600000 ∧ ks ≤ 7302249) (d : decode code pc = .ok (.ireturn, 1)) : WG X l mL (EL X b L xs) kc ks QL pc σ lv [.int 1] := fun p e s m args below meth c H locs ls C a1 a2 a3 hP hS hl => by
  obtain ⟨rfl, -, -, h4⟩ := a3
  refine W.widen hk.1 hk.2 ?_
  have k0 := lw_ret (b := b) (m := m) (s := s) (l := l) (e := e) (below := below) (H := H) (ls := ls) C.1.1 C.1.2.1 a1 a2 d
  have k1 := W.forget (L := locs) (fun q hq => by
    obtain ⟨i, hi, e⟩ := hS.2.2 q hq
    rw [e]
    exact h4 i hi) k0
  rw [List.nil_append] at k1
  exact k1
/-- the law's locals at the loop -/
abbrev lvL (X : XT) (b i : Nat) : List (Nat × Value) := [(0, .ref b), (1, .ref (xad X 0)), (2, .ref (xad X 334)), (3, .int (nI i))]
theorem in_sc {i k : Nat} (hi : i + 4 ≤ L) (hk : k < 4) (hL : L ≤ 2048) : vp_in (nI i + nI k) L := by
  rw [nI_A]
  exact fun q => q.elim (nI_pos (by omega)) (fun q2 => by rw [nI_c (by omega)] at q2; omega)
theorem k_same {x : Int32} {off : Int} {tgt : Nat} (d : decode code pc = .ok (.if_icmp .eq off, 3)) (ht : (pc : Int) + off = (tgt : Int)) (k : WG X l mL (EL X b L xs) kc ks QL tgt σ lv st) : WG X l mL (EL X b L xs) kc ks QL pc σ lv (.int x :: .int x :: st) := k_icmp_eq (A := some ()) (B := none) (z := ()) d ht (if_pos rfl) (fun _ => k) (fun h => by cases h)
end
theorem lc_0 (l : Launch) {X : XT} (hX : XD X) {b L i n kc ks : Nat} {xs : Nat → Int32} {σ : Mem} {S : SS} (hk : kc ≤ 600000 ∧ ks ≤ 7302249) (hL : L ≤ 2048) (hi : i + 4 ≤ L) (hn : n < 1000000) (h : Both n σ S) (k : ∀ σ' S', Both (n + 1) σ' S' → WG X l mL (EL X b L xs) kc ks QL 1043 σ' (lvL X b i) []) : WG X l mL (EL X b L xs) kc ks QL 172 σ (lvL X b i) [] := by
  refine k_aload_n (q := 1) dL_172 rfl rfl ?_
  refine k_aload_n (q := 0) dL_173 rfl rfl ?_
  refine k_iload_n (q := 3) dL_174 rfl rfl ?_
  refine k_iconst (v := nI 1) dL_175 (by decide) ?_
  refine k_iadd dL_176 ?_
  refine k_sld (in_sc hi (by omega) hL) dL_177 ?_
  refine k_aload_n (q := 0) dL_178 rfl rfl ?_
  refine k_iload_n (q := 3) dL_179 rfl rfl ?_
  refine k_iconst (v := nI 2) dL_180 (by decide) ?_
  refine k_iadd dL_181 ?_
  refine k_sld (in_sc hi (by omega) hL) dL_182 ?_
  have hb := both_addScene (g := 100000) (by omega) h hn (xs (nI i + nI 1).toNatClampNeg) (xs (nI i + nI 2).toNatClampNeg)
  obtain ⟨r, σ1, σ2, S', e1, e2, hB⟩ := hb
  refine k_cv (q := (RX8, TX8, 7)) (As := [.int (xs (nI i + nI 1).toNatClampNeg), .int (xs (nI i + nI 2).toNatClampNeg)]) 2 (cm_X8_addScene l hX 100000 σ 0 L8_0 (xs (nI i + nI 1).toNatClampNeg) (xs (nI i + nI 2).toNatClampNeg) e1) gL_law_X8_addScene rfl ⟨rfl, rfl⟩ hd_X8_addScene ⟨Nat.le_of_ble_eq_true rfl, Nat.le_of_ble_eq_true rfl⟩ hk (lay_lt L8_0.1 (by decide)) (ce_of L8_0.1) rfl rfl (Nat.le_of_ble_eq_true rfl) rfl dL_183 ?_
  refine k_aload_n (q := 2) dL_186 rfl rfl ?_
  refine k_aload_n (q := 0) dL_187 rfl rfl ?_
  refine k_iload_n (q := 3) dL_188 rfl rfl ?_
  refine k_iconst (v := nI 1) dL_189 (by decide) ?_
  refine k_iadd dL_190 ?_
  refine k_sld (in_sc hi (by omega) hL) dL_191 ?_
  refine k_aload_n (q := 0) dL_192 rfl rfl ?_
  refine k_iload_n (q := 3) dL_193 rfl rfl ?_
  refine k_iconst (v := nI 2) dL_194 (by decide) ?_
  refine k_iadd dL_195 ?_
  refine k_sld (in_sc hi (by omega) hL) dL_196 ?_
  refine k_cv (q := (RX9, TX9, 12)) (As := [.int (xs (nI i + nI 1).toNatClampNeg), .int (xs (nI i + nI 2).toNatClampNeg)]) 2 (cm_X9_addScene l hX 100000 σ1 334 L9_334 (xs (nI i + nI 1).toNatClampNeg) (xs (nI i + nI 2).toNatClampNeg) e2) gL_law_X9_addScene rfl ⟨rfl, rfl⟩ hd_X9_addScene ⟨Nat.le_of_ble_eq_true rfl, Nat.le_of_ble_eq_true rfl⟩ hk (lay_lt L9_334.1 (by decide)) (ce_of L9_334.1) rfl rfl (Nat.le_of_ble_eq_true rfl) rfl dL_197 ?_
  exact k_same (tgt := 1043) dL_200 (by decide) (k _ _ hB)
theorem lc_1 (l : Launch) {X : XT} (hX : XD X) {b L i n kc ks : Nat} {xs : Nat → Int32} {σ : Mem} {S : SS} (hk : kc ≤ 600000 ∧ ks ≤ 7302249) (hL : L ≤ 2048) (hi : i + 4 ≤ L) (hn : n < 1000000) (h : Both n σ S) (k : ∀ σ' S', Both (n + 1) σ' S' → WG X l mL (EL X b L xs) kc ks QL 1043 σ' (lvL X b i) []) : WG X l mL (EL X b L xs) kc ks QL 205 σ (lvL X b i) [] := by
  refine k_aload_n (q := 1) dL_205 rfl rfl ?_
  refine k_aload_n (q := 0) dL_206 rfl rfl ?_
  refine k_iload_n (q := 3) dL_207 rfl rfl ?_
  refine k_iconst (v := nI 1) dL_208 (by decide) ?_
  refine k_iadd dL_209 ?_
  refine k_sld (in_sc hi (by omega) hL) dL_210 ?_
  have hb := both_cut (g := 100000) (by omega) h hn (xs (nI i + nI 1).toNatClampNeg)
  obtain ⟨r, σ1, σ2, S', e1, e2, hB⟩ := hb
  refine k_cv (q := (RX8, TX8, 7)) (As := [.int (xs (nI i + nI 1).toNatClampNeg)]) 1 (cm_X8_cut l hX 100000 σ 0 L8_0 (xs (nI i + nI 1).toNatClampNeg) e1) gL_law_X8_cut rfl ⟨rfl, rfl⟩ hd_X8_cut ⟨Nat.le_of_ble_eq_true rfl, Nat.le_of_ble_eq_true rfl⟩ hk (lay_lt L8_0.1 (by decide)) (ce_of L8_0.1) rfl rfl (Nat.le_of_ble_eq_true rfl) rfl dL_211 ?_
  refine k_aload_n (q := 2) dL_214 rfl rfl ?_
  refine k_aload_n (q := 0) dL_215 rfl rfl ?_
  refine k_iload_n (q := 3) dL_216 rfl rfl ?_
  refine k_iconst (v := nI 1) dL_217 (by decide) ?_
  refine k_iadd dL_218 ?_
  refine k_sld (in_sc hi (by omega) hL) dL_219 ?_
  refine k_cv (q := (RX9, TX9, 12)) (As := [.int (xs (nI i + nI 1).toNatClampNeg)]) 1 (cm_X9_cut l hX 100000 σ1 334 L9_334 (xs (nI i + nI 1).toNatClampNeg) e2) gL_law_X9_cut rfl ⟨rfl, rfl⟩ hd_X9_cut ⟨Nat.le_of_ble_eq_true rfl, Nat.le_of_ble_eq_true rfl⟩ hk (lay_lt L9_334.1 (by decide)) (ce_of L9_334.1) rfl rfl (Nat.le_of_ble_eq_true rfl) rfl dL_220 ?_
  exact k_same (tgt := 1043) dL_223 (by decide) (k _ _ hB)
theorem lc_2 (l : Launch) {X : XT} (hX : XD X) {b L i n kc ks : Nat} {xs : Nat → Int32} {σ : Mem} {S : SS} (hk : kc ≤ 600000 ∧ ks ≤ 7302249) (hL : L ≤ 2048) (hi : i + 4 ≤ L) (hn : n < 1000000) (h : Both n σ S) (k : ∀ σ' S', Both (n + 1) σ' S' → WG X l mL (EL X b L xs) kc ks QL 1043 σ' (lvL X b i) []) : WG X l mL (EL X b L xs) kc ks QL 228 σ (lvL X b i) [] := by
  refine k_aload_n (q := 1) dL_228 rfl rfl ?_
  refine k_aload_n (q := 0) dL_229 rfl rfl ?_
  refine k_iload_n (q := 3) dL_230 rfl rfl ?_
  refine k_iconst (v := nI 1) dL_231 (by decide) ?_
  refine k_iadd dL_232 ?_
  refine k_sld (in_sc hi (by omega) hL) dL_233 ?_
  have hb := both_join (g := 100000) (by omega) h hn (xs (nI i + nI 1).toNatClampNeg)
  obtain ⟨r, σ1, σ2, S', e1, e2, hB⟩ := hb
  refine k_cv (q := (RX8, TX8, 7)) (As := [.int (xs (nI i + nI 1).toNatClampNeg)]) 1 (cm_X8_join l hX 100000 σ 0 L8_0 (xs (nI i + nI 1).toNatClampNeg) e1) gL_law_X8_join rfl ⟨rfl, rfl⟩ hd_X8_join ⟨Nat.le_of_ble_eq_true rfl, Nat.le_of_ble_eq_true rfl⟩ hk (lay_lt L8_0.1 (by decide)) (ce_of L8_0.1) rfl rfl (Nat.le_of_ble_eq_true rfl) rfl dL_234 ?_
  refine k_aload_n (q := 2) dL_237 rfl rfl ?_
  refine k_aload_n (q := 0) dL_238 rfl rfl ?_
  refine k_iload_n (q := 3) dL_239 rfl rfl ?_
  refine k_iconst (v := nI 1) dL_240 (by decide) ?_
  refine k_iadd dL_241 ?_
  refine k_sld (in_sc hi (by omega) hL) dL_242 ?_
  refine k_cv (q := (RX9, TX9, 12)) (As := [.int (xs (nI i + nI 1).toNatClampNeg)]) 1 (cm_X9_join l hX 100000 σ1 334 L9_334 (xs (nI i + nI 1).toNatClampNeg) e2) gL_law_X9_join rfl ⟨rfl, rfl⟩ hd_X9_join ⟨Nat.le_of_ble_eq_true rfl, Nat.le_of_ble_eq_true rfl⟩ hk (lay_lt L9_334.1 (by decide)) (ce_of L9_334.1) rfl rfl (Nat.le_of_ble_eq_true rfl) rfl dL_243 ?_
  exact k_same (tgt := 1043) dL_246 (by decide) (k _ _ hB)
theorem lc_3 (l : Launch) {X : XT} (hX : XD X) {b L i n kc ks : Nat} {xs : Nat → Int32} {σ : Mem} {S : SS} (hk : kc ≤ 600000 ∧ ks ≤ 7302249) (hL : L ≤ 2048) (hi : i + 4 ≤ L) (hn : n < 1000000) (h : Both n σ S) (k : ∀ σ' S', Both (n + 1) σ' S' → WG X l mL (EL X b L xs) kc ks QL 1043 σ' (lvL X b i) []) : WG X l mL (EL X b L xs) kc ks QL 251 σ (lvL X b i) [] := by
  refine k_aload_n (q := 1) dL_251 rfl rfl ?_
  refine k_aload_n (q := 0) dL_252 rfl rfl ?_
  refine k_iload_n (q := 3) dL_253 rfl rfl ?_
  refine k_iconst (v := nI 1) dL_254 (by decide) ?_
  refine k_iadd dL_255 ?_
  refine k_sld (in_sc hi (by omega) hL) dL_256 ?_
  have hb := both_takeOut (g := 100000) (by omega) h hn (xs (nI i + nI 1).toNatClampNeg)
  obtain ⟨r, σ1, σ2, S', e1, e2, hB⟩ := hb
  refine k_cv (q := (RX8, TX8, 7)) (As := [.int (xs (nI i + nI 1).toNatClampNeg)]) 1 (cm_X8_takeOut l hX 100000 σ 0 L8_0 (xs (nI i + nI 1).toNatClampNeg) e1) gL_law_X8_takeOut rfl ⟨rfl, rfl⟩ hd_X8_takeOut ⟨Nat.le_of_ble_eq_true rfl, Nat.le_of_ble_eq_true rfl⟩ hk (lay_lt L8_0.1 (by decide)) (ce_of L8_0.1) rfl rfl (Nat.le_of_ble_eq_true rfl) rfl dL_257 ?_
  refine k_aload_n (q := 2) dL_260 rfl rfl ?_
  refine k_aload_n (q := 0) dL_261 rfl rfl ?_
  refine k_iload_n (q := 3) dL_262 rfl rfl ?_
  refine k_iconst (v := nI 1) dL_263 (by decide) ?_
  refine k_iadd dL_264 ?_
  refine k_sld (in_sc hi (by omega) hL) dL_265 ?_
  refine k_cv (q := (RX9, TX9, 12)) (As := [.int (xs (nI i + nI 1).toNatClampNeg)]) 1 (cm_X9_takeOut l hX 100000 σ1 334 L9_334 (xs (nI i + nI 1).toNatClampNeg) e2) gL_law_X9_takeOut rfl ⟨rfl, rfl⟩ hd_X9_takeOut ⟨Nat.le_of_ble_eq_true rfl, Nat.le_of_ble_eq_true rfl⟩ hk (lay_lt L9_334.1 (by decide)) (ce_of L9_334.1) rfl rfl (Nat.le_of_ble_eq_true rfl) rfl dL_266 ?_
  exact k_same (tgt := 1043) dL_269 (by decide) (k _ _ hB)
theorem lc_4 (l : Launch) {X : XT} (hX : XD X) {b L i n kc ks : Nat} {xs : Nat → Int32} {σ : Mem} {S : SS} (hk : kc ≤ 600000 ∧ ks ≤ 7302249) (hL : L ≤ 2048) (hi : i + 4 ≤ L) (hn : n < 1000000) (h : Both n σ S) (k : ∀ σ' S', Both (n + 1) σ' S' → WG X l mL (EL X b L xs) kc ks QL 1043 σ' (lvL X b i) []) : WG X l mL (EL X b L xs) kc ks QL 274 σ (lvL X b i) [] := by
  refine k_aload_n (q := 1) dL_274 rfl rfl ?_
  refine k_aload_n (q := 0) dL_275 rfl rfl ?_
  refine k_iload_n (q := 3) dL_276 rfl rfl ?_
  refine k_iconst (v := nI 1) dL_277 (by decide) ?_
  refine k_iadd dL_278 ?_
  refine k_sld (in_sc hi (by omega) hL) dL_279 ?_
  refine k_aload_n (q := 0) dL_280 rfl rfl ?_
  refine k_iload_n (q := 3) dL_281 rfl rfl ?_
  refine k_iconst (v := nI 2) dL_282 (by decide) ?_
  refine k_iadd dL_283 ?_
  refine k_sld (in_sc hi (by omega) hL) dL_284 ?_
  have hb := both_putIn (g := 100000) (by omega) h hn (xs (nI i + nI 1).toNatClampNeg) (xs (nI i + nI 2).toNatClampNeg)
  obtain ⟨r, σ1, σ2, S', e1, e2, hB⟩ := hb
  refine k_cv (q := (RX8, TX8, 7)) (As := [.int (xs (nI i + nI 1).toNatClampNeg), .int (xs (nI i + nI 2).toNatClampNeg)]) 2 (cm_X8_putIn l hX 100000 σ 0 L8_0 (xs (nI i + nI 1).toNatClampNeg) (xs (nI i + nI 2).toNatClampNeg) e1) gL_law_X8_putIn rfl ⟨rfl, rfl⟩ hd_X8_putIn ⟨Nat.le_of_ble_eq_true rfl, Nat.le_of_ble_eq_true rfl⟩ hk (lay_lt L8_0.1 (by decide)) (ce_of L8_0.1) rfl rfl (Nat.le_of_ble_eq_true rfl) rfl dL_285 ?_
  refine k_aload_n (q := 2) dL_288 rfl rfl ?_
  refine k_aload_n (q := 0) dL_289 rfl rfl ?_
  refine k_iload_n (q := 3) dL_290 rfl rfl ?_
  refine k_iconst (v := nI 1) dL_291 (by decide) ?_
  refine k_iadd dL_292 ?_
  refine k_sld (in_sc hi (by omega) hL) dL_293 ?_
  refine k_aload_n (q := 0) dL_294 rfl rfl ?_
  refine k_iload_n (q := 3) dL_295 rfl rfl ?_
  refine k_iconst (v := nI 2) dL_296 (by decide) ?_
  refine k_iadd dL_297 ?_
  refine k_sld (in_sc hi (by omega) hL) dL_298 ?_
  refine k_cv (q := (RX9, TX9, 12)) (As := [.int (xs (nI i + nI 1).toNatClampNeg), .int (xs (nI i + nI 2).toNatClampNeg)]) 2 (cm_X9_putIn l hX 100000 σ1 334 L9_334 (xs (nI i + nI 1).toNatClampNeg) (xs (nI i + nI 2).toNatClampNeg) e2) gL_law_X9_putIn rfl ⟨rfl, rfl⟩ hd_X9_putIn ⟨Nat.le_of_ble_eq_true rfl, Nat.le_of_ble_eq_true rfl⟩ hk (lay_lt L9_334.1 (by decide)) (ce_of L9_334.1) rfl rfl (Nat.le_of_ble_eq_true rfl) rfl dL_299 ?_
  exact k_same (tgt := 1043) dL_302 (by decide) (k _ _ hB)
theorem lc_5 (l : Launch) {X : XT} (hX : XD X) {b L i n kc ks : Nat} {xs : Nat → Int32} {σ : Mem} {S : SS} (hk : kc ≤ 600000 ∧ ks ≤ 7302249) (hL : L ≤ 2048) (hi : i + 4 ≤ L) (hn : n < 1000000) (h : Both n σ S) (k : ∀ σ' S', Both (n + 1) σ' S' → WG X l mL (EL X b L xs) kc ks QL 1043 σ' (lvL X b i) []) : WG X l mL (EL X b L xs) kc ks QL 307 σ (lvL X b i) [] := by
  refine k_aload_n (q := 1) dL_307 rfl rfl ?_
  refine k_aload_n (q := 0) dL_308 rfl rfl ?_
  refine k_iload_n (q := 3) dL_309 rfl rfl ?_
  refine k_iconst (v := nI 1) dL_310 (by decide) ?_
  refine k_iadd dL_311 ?_
  refine k_sld (in_sc hi (by omega) hL) dL_312 ?_
  refine k_aload_n (q := 0) dL_313 rfl rfl ?_
  refine k_iload_n (q := 3) dL_314 rfl rfl ?_
  refine k_iconst (v := nI 2) dL_315 (by decide) ?_
  refine k_iadd dL_316 ?_
  refine k_sld (in_sc hi (by omega) hL) dL_317 ?_
  have hb := both_move (g := 100000) (by omega) h hn (xs (nI i + nI 1).toNatClampNeg) (xs (nI i + nI 2).toNatClampNeg)
  obtain ⟨r, σ1, σ2, S', e1, e2, hB⟩ := hb
  refine k_cv (q := (RX8, TX8, 7)) (As := [.int (xs (nI i + nI 1).toNatClampNeg), .int (xs (nI i + nI 2).toNatClampNeg)]) 2 (cm_X8_move l hX 100000 σ 0 L8_0 (xs (nI i + nI 1).toNatClampNeg) (xs (nI i + nI 2).toNatClampNeg) e1) gL_law_X8_move rfl ⟨rfl, rfl⟩ hd_X8_move ⟨Nat.le_of_ble_eq_true rfl, Nat.le_of_ble_eq_true rfl⟩ hk (lay_lt L8_0.1 (by decide)) (ce_of L8_0.1) rfl rfl (Nat.le_of_ble_eq_true rfl) rfl dL_318 ?_
  refine k_aload_n (q := 2) dL_321 rfl rfl ?_
  refine k_aload_n (q := 0) dL_322 rfl rfl ?_
  refine k_iload_n (q := 3) dL_323 rfl rfl ?_
  refine k_iconst (v := nI 1) dL_324 (by decide) ?_
  refine k_iadd dL_325 ?_
  refine k_sld (in_sc hi (by omega) hL) dL_326 ?_
  refine k_aload_n (q := 0) dL_327 rfl rfl ?_
  refine k_iload_n (q := 3) dL_328 rfl rfl ?_
  refine k_iconst (v := nI 2) dL_329 (by decide) ?_
  refine k_iadd dL_330 ?_
  refine k_sld (in_sc hi (by omega) hL) dL_331 ?_
  refine k_cv (q := (RX9, TX9, 12)) (As := [.int (xs (nI i + nI 1).toNatClampNeg), .int (xs (nI i + nI 2).toNatClampNeg)]) 2 (cm_X9_move l hX 100000 σ1 334 L9_334 (xs (nI i + nI 1).toNatClampNeg) (xs (nI i + nI 2).toNatClampNeg) e2) gL_law_X9_move rfl ⟨rfl, rfl⟩ hd_X9_move ⟨Nat.le_of_ble_eq_true rfl, Nat.le_of_ble_eq_true rfl⟩ hk (lay_lt L9_334.1 (by decide)) (ce_of L9_334.1) rfl rfl (Nat.le_of_ble_eq_true rfl) rfl dL_332 ?_
  exact k_same (tgt := 1043) dL_335 (by decide) (k _ _ hB)
theorem lc_6 (l : Launch) {X : XT} (hX : XD X) {b L i n kc ks : Nat} {xs : Nat → Int32} {σ : Mem} {S : SS} (hk : kc ≤ 600000 ∧ ks ≤ 7302249) (hL : L ≤ 2048) (hi : i + 4 ≤ L) (hn : n < 1000000) (h : Both n σ S) (k : ∀ σ' S', Both (n + 1) σ' S' → WG X l mL (EL X b L xs) kc ks QL 1043 σ' (lvL X b i) []) : WG X l mL (EL X b L xs) kc ks QL 340 σ (lvL X b i) [] := by
  refine k_aload_n (q := 1) dL_340 rfl rfl ?_
  refine k_aload_n (q := 0) dL_341 rfl rfl ?_
  refine k_iload_n (q := 3) dL_342 rfl rfl ?_
  refine k_iconst (v := nI 1) dL_343 (by decide) ?_
  refine k_iadd dL_344 ?_
  refine k_sld (in_sc hi (by omega) hL) dL_345 ?_
  refine k_aload_n (q := 0) dL_346 rfl rfl ?_
  refine k_iload_n (q := 3) dL_347 rfl rfl ?_
  refine k_iconst (v := nI 2) dL_348 (by decide) ?_
  refine k_iadd dL_349 ?_
  refine k_sld (in_sc hi (by omega) hL) dL_350 ?_
  refine k_aload_n (q := 0) dL_351 rfl rfl ?_
  refine k_iload_n (q := 3) dL_352 rfl rfl ?_
  refine k_iconst (v := nI 3) dL_353 (by decide) ?_
  refine k_iadd dL_354 ?_
  refine k_sld (in_sc hi (by omega) hL) dL_355 ?_
  have hb := both_tear (g := 100000) (by omega) h hn (xs (nI i + nI 1).toNatClampNeg) (xs (nI i + nI 2).toNatClampNeg) (xs (nI i + nI 3).toNatClampNeg)
  obtain ⟨r, σ1, σ2, S', e1, e2, hB⟩ := hb
  refine k_cv (q := (RX8, TX8, 7)) (As := [.int (xs (nI i + nI 1).toNatClampNeg), .int (xs (nI i + nI 2).toNatClampNeg), .int (xs (nI i + nI 3).toNatClampNeg)]) 3 (cm_X8_tear l hX 100000 σ 0 L8_0 (xs (nI i + nI 1).toNatClampNeg) (xs (nI i + nI 2).toNatClampNeg) (xs (nI i + nI 3).toNatClampNeg) e1) gL_law_X8_tear rfl ⟨rfl, rfl⟩ hd_X8_tear ⟨Nat.le_of_ble_eq_true rfl, Nat.le_of_ble_eq_true rfl⟩ hk (lay_lt L8_0.1 (by decide)) (ce_of L8_0.1) rfl rfl (Nat.le_of_ble_eq_true rfl) rfl dL_356 ?_
  refine k_aload_n (q := 2) dL_359 rfl rfl ?_
  refine k_aload_n (q := 0) dL_360 rfl rfl ?_
  refine k_iload_n (q := 3) dL_361 rfl rfl ?_
  refine k_iconst (v := nI 1) dL_362 (by decide) ?_
  refine k_iadd dL_363 ?_
  refine k_sld (in_sc hi (by omega) hL) dL_364 ?_
  refine k_aload_n (q := 0) dL_365 rfl rfl ?_
  refine k_iload_n (q := 3) dL_366 rfl rfl ?_
  refine k_iconst (v := nI 2) dL_367 (by decide) ?_
  refine k_iadd dL_368 ?_
  refine k_sld (in_sc hi (by omega) hL) dL_369 ?_
  refine k_aload_n (q := 0) dL_370 rfl rfl ?_
  refine k_iload_n (q := 3) dL_371 rfl rfl ?_
  refine k_iconst (v := nI 3) dL_372 (by decide) ?_
  refine k_iadd dL_373 ?_
  refine k_sld (in_sc hi (by omega) hL) dL_374 ?_
  refine k_cv (q := (RX9, TX9, 12)) (As := [.int (xs (nI i + nI 1).toNatClampNeg), .int (xs (nI i + nI 2).toNatClampNeg), .int (xs (nI i + nI 3).toNatClampNeg)]) 3 (cm_X9_tear l hX 100000 σ1 334 L9_334 (xs (nI i + nI 1).toNatClampNeg) (xs (nI i + nI 2).toNatClampNeg) (xs (nI i + nI 3).toNatClampNeg) e2) gL_law_X9_tear rfl ⟨rfl, rfl⟩ hd_X9_tear ⟨Nat.le_of_ble_eq_true rfl, Nat.le_of_ble_eq_true rfl⟩ hk (lay_lt L9_334.1 (by decide)) (ce_of L9_334.1) rfl rfl (Nat.le_of_ble_eq_true rfl) rfl dL_375 ?_
  exact k_same (tgt := 1043) dL_378 (by decide) (k _ _ hB)
theorem lc_7 (l : Launch) {X : XT} (hX : XD X) {b L i n kc ks : Nat} {xs : Nat → Int32} {σ : Mem} {S : SS} (hk : kc ≤ 600000 ∧ ks ≤ 7302249) (hL : L ≤ 2048) (hi : i + 4 ≤ L) (hn : n < 1000000) (h : Both n σ S) (k : ∀ σ' S', Both (n + 1) σ' S' → WG X l mL (EL X b L xs) kc ks QL 1043 σ' (lvL X b i) []) : WG X l mL (EL X b L xs) kc ks QL 383 σ (lvL X b i) [] := by
  refine k_aload_n (q := 1) dL_383 rfl rfl ?_
  refine k_aload_n (q := 0) dL_384 rfl rfl ?_
  refine k_iload_n (q := 3) dL_385 rfl rfl ?_
  refine k_iconst (v := nI 1) dL_386 (by decide) ?_
  refine k_iadd dL_387 ?_
  refine k_sld (in_sc hi (by omega) hL) dL_388 ?_
  refine k_aload_n (q := 0) dL_389 rfl rfl ?_
  refine k_iload_n (q := 3) dL_390 rfl rfl ?_
  refine k_iconst (v := nI 2) dL_391 (by decide) ?_
  refine k_iadd dL_392 ?_
  refine k_sld (in_sc hi (by omega) hL) dL_393 ?_
  have hb := both_patch (g := 100000) (by omega) h hn (xs (nI i + nI 1).toNatClampNeg) (xs (nI i + nI 2).toNatClampNeg)
  obtain ⟨r, σ1, σ2, S', e1, e2, hB⟩ := hb
  refine k_cv (q := (RX8, TX8, 7)) (As := [.int (xs (nI i + nI 1).toNatClampNeg), .int (xs (nI i + nI 2).toNatClampNeg)]) 2 (cm_X8_patch l hX 100000 σ 0 L8_0 (xs (nI i + nI 1).toNatClampNeg) (xs (nI i + nI 2).toNatClampNeg) e1) gL_law_X8_patch rfl ⟨rfl, rfl⟩ hd_X8_patch ⟨Nat.le_of_ble_eq_true rfl, Nat.le_of_ble_eq_true rfl⟩ hk (lay_lt L8_0.1 (by decide)) (ce_of L8_0.1) rfl rfl (Nat.le_of_ble_eq_true rfl) rfl dL_394 ?_
  refine k_aload_n (q := 2) dL_397 rfl rfl ?_
  refine k_aload_n (q := 0) dL_398 rfl rfl ?_
  refine k_iload_n (q := 3) dL_399 rfl rfl ?_
  refine k_iconst (v := nI 1) dL_400 (by decide) ?_
  refine k_iadd dL_401 ?_
  refine k_sld (in_sc hi (by omega) hL) dL_402 ?_
  refine k_aload_n (q := 0) dL_403 rfl rfl ?_
  refine k_iload_n (q := 3) dL_404 rfl rfl ?_
  refine k_iconst (v := nI 2) dL_405 (by decide) ?_
  refine k_iadd dL_406 ?_
  refine k_sld (in_sc hi (by omega) hL) dL_407 ?_
  refine k_cv (q := (RX9, TX9, 12)) (As := [.int (xs (nI i + nI 1).toNatClampNeg), .int (xs (nI i + nI 2).toNatClampNeg)]) 2 (cm_X9_patch l hX 100000 σ1 334 L9_334 (xs (nI i + nI 1).toNatClampNeg) (xs (nI i + nI 2).toNatClampNeg) e2) gL_law_X9_patch rfl ⟨rfl, rfl⟩ hd_X9_patch ⟨Nat.le_of_ble_eq_true rfl, Nat.le_of_ble_eq_true rfl⟩ hk (lay_lt L9_334.1 (by decide)) (ce_of L9_334.1) rfl rfl (Nat.le_of_ble_eq_true rfl) rfl dL_408 ?_
  exact k_same (tgt := 1043) dL_411 (by decide) (k _ _ hB)
theorem lc_8 (l : Launch) {X : XT} (hX : XD X) {b L i n kc ks : Nat} {xs : Nat → Int32} {σ : Mem} {S : SS} (hk : kc ≤ 600000 ∧ ks ≤ 7302249) (hL : L ≤ 2048) (hi : i + 4 ≤ L) (hn : n < 1000000) (h : Both n σ S) (k : ∀ σ' S', Both (n + 1) σ' S' → WG X l mL (EL X b L xs) kc ks QL 1043 σ' (lvL X b i) []) : WG X l mL (EL X b L xs) kc ks QL 416 σ (lvL X b i) [] := by
  refine k_aload_n (q := 1) dL_416 rfl rfl ?_
  refine k_aload_n (q := 0) dL_417 rfl rfl ?_
  refine k_iload_n (q := 3) dL_418 rfl rfl ?_
  refine k_iconst (v := nI 1) dL_419 (by decide) ?_
  refine k_iadd dL_420 ?_
  refine k_sld (in_sc hi (by omega) hL) dL_421 ?_
  have hb := both_splice (g := 100000) (by omega) h hn (xs (nI i + nI 1).toNatClampNeg)
  obtain ⟨r, σ1, σ2, S', e1, e2, hB⟩ := hb
  refine k_cv (q := (RX8, TX8, 7)) (As := [.int (xs (nI i + nI 1).toNatClampNeg)]) 1 (cm_X8_splice l hX 100000 σ 0 L8_0 (xs (nI i + nI 1).toNatClampNeg) e1) gL_law_X8_splice rfl ⟨rfl, rfl⟩ hd_X8_splice ⟨Nat.le_of_ble_eq_true rfl, Nat.le_of_ble_eq_true rfl⟩ hk (lay_lt L8_0.1 (by decide)) (ce_of L8_0.1) rfl rfl (Nat.le_of_ble_eq_true rfl) rfl dL_422 ?_
  refine k_aload_n (q := 2) dL_425 rfl rfl ?_
  refine k_aload_n (q := 0) dL_426 rfl rfl ?_
  refine k_iload_n (q := 3) dL_427 rfl rfl ?_
  refine k_iconst (v := nI 1) dL_428 (by decide) ?_
  refine k_iadd dL_429 ?_
  refine k_sld (in_sc hi (by omega) hL) dL_430 ?_
  refine k_cv (q := (RX9, TX9, 12)) (As := [.int (xs (nI i + nI 1).toNatClampNeg)]) 1 (cm_X9_splice l hX 100000 σ1 334 L9_334 (xs (nI i + nI 1).toNatClampNeg) e2) gL_law_X9_splice rfl ⟨rfl, rfl⟩ hd_X9_splice ⟨Nat.le_of_ble_eq_true rfl, Nat.le_of_ble_eq_true rfl⟩ hk (lay_lt L9_334.1 (by decide)) (ce_of L9_334.1) rfl rfl (Nat.le_of_ble_eq_true rfl) rfl dL_431 ?_
  exact k_same (tgt := 1043) dL_434 (by decide) (k _ _ hB)
theorem lc_9 (l : Launch) {X : XT} (hX : XD X) {b L i n kc ks : Nat} {xs : Nat → Int32} {σ : Mem} {S : SS} (hk : kc ≤ 600000 ∧ ks ≤ 7302249) (hL : L ≤ 2048) (hi : i + 4 ≤ L) (hn : n < 1000000) (h : Both n σ S) (k : ∀ σ' S', Both (n + 1) σ' S' → WG X l mL (EL X b L xs) kc ks QL 1043 σ' (lvL X b i) []) : WG X l mL (EL X b L xs) kc ks QL 439 σ (lvL X b i) [] := by
  refine k_aload_n (q := 1) dL_439 rfl rfl ?_
  refine k_aload_n (q := 0) dL_440 rfl rfl ?_
  refine k_iload_n (q := 3) dL_441 rfl rfl ?_
  refine k_iconst (v := nI 1) dL_442 (by decide) ?_
  refine k_iadd dL_443 ?_
  refine k_sld (in_sc hi (by omega) hL) dL_444 ?_
  refine k_aload_n (q := 0) dL_445 rfl rfl ?_
  refine k_iload_n (q := 3) dL_446 rfl rfl ?_
  refine k_iconst (v := nI 2) dL_447 (by decide) ?_
  refine k_iadd dL_448 ?_
  refine k_sld (in_sc hi (by omega) hL) dL_449 ?_
  by_cases hc : xs (nI i + nI 2).toNatClampNeg = 0
  · have hb := both_dislike (g := 100000) (by omega) h hn (xs (nI i + nI 1).toNatClampNeg) false
    refine k_if_eq (tgt := 457) (A := some ()) (B := none) (z := ()) dL_450 (by decide) (if_pos hc) (fun _ => ?_) (fun z => by cases z)
    refine k_iconst (v := nI 0) dL_457 (by decide) ?_
    obtain ⟨r, σ1, σ2, S', e1, e2, hB⟩ := hb
    refine k_cv (q := (RX8, TX8, 7)) (As := [.int (xs (nI i + nI 1).toNatClampNeg), .int (nI 0)]) 2 (cm_X8_dislike l hX 100000 σ 0 L8_0 (xs (nI i + nI 1).toNatClampNeg) (nI 0) e1) gL_law_X8_dislike rfl ⟨rfl, rfl⟩ hd_X8_dislike ⟨Nat.le_of_ble_eq_true rfl, Nat.le_of_ble_eq_true rfl⟩ hk (lay_lt L8_0.1 (by decide)) (ce_of L8_0.1) rfl rfl (Nat.le_of_ble_eq_true rfl) rfl dL_458 ?_
    refine k_aload_n (q := 2) dL_461 rfl rfl ?_
    refine k_aload_n (q := 0) dL_462 rfl rfl ?_
    refine k_iload_n (q := 3) dL_463 rfl rfl ?_
    refine k_iconst (v := nI 1) dL_464 (by decide) ?_
    refine k_iadd dL_465 ?_
    refine k_sld (in_sc hi (by omega) hL) dL_466 ?_
    refine k_aload_n (q := 0) dL_467 rfl rfl ?_
    refine k_iload_n (q := 3) dL_468 rfl rfl ?_
    refine k_iconst (v := nI 2) dL_469 (by decide) ?_
    refine k_iadd dL_470 ?_
    refine k_sld (in_sc hi (by omega) hL) dL_471 ?_
    refine k_if_eq (tgt := 479) (A := some ()) (B := none) (z := ()) dL_472 (by decide) (if_pos hc) (fun _ => ?_) (fun z => by cases z)
    refine k_iconst (v := nI 0) dL_479 (by decide) ?_
    refine k_cv (q := (RX9, TX9, 12)) (As := [.int (xs (nI i + nI 1).toNatClampNeg), .int (nI 0)]) 2 (cm_X9_dislike l hX 100000 σ1 334 L9_334 (xs (nI i + nI 1).toNatClampNeg) (nI 0) e2) gL_law_X9_dislike rfl ⟨rfl, rfl⟩ hd_X9_dislike ⟨Nat.le_of_ble_eq_true rfl, Nat.le_of_ble_eq_true rfl⟩ hk (lay_lt L9_334.1 (by decide)) (ce_of L9_334.1) rfl rfl (Nat.le_of_ble_eq_true rfl) rfl dL_480 ?_
    exact k_same (tgt := 1043) dL_483 (by decide) (k _ _ hB)
  · have hb := both_dislike (g := 100000) (by omega) h hn (xs (nI i + nI 1).toNatClampNeg) true
    refine k_if_eq (tgt := 457) (A := none) (B := some ()) (z := ()) dL_450 (by decide) (if_neg hc) (fun z => by cases z) (fun _ => ?_)
    refine k_iconst (v := nI 1) dL_453 (by decide) ?_
    refine k_goto (tgt := 458) dL_454 (by decide) ?_
    obtain ⟨r, σ1, σ2, S', e1, e2, hB⟩ := hb
    refine k_cv (q := (RX8, TX8, 7)) (As := [.int (xs (nI i + nI 1).toNatClampNeg), .int (nI 1)]) 2 (cm_X8_dislike l hX 100000 σ 0 L8_0 (xs (nI i + nI 1).toNatClampNeg) (nI 1) e1) gL_law_X8_dislike rfl ⟨rfl, rfl⟩ hd_X8_dislike ⟨Nat.le_of_ble_eq_true rfl, Nat.le_of_ble_eq_true rfl⟩ hk (lay_lt L8_0.1 (by decide)) (ce_of L8_0.1) rfl rfl (Nat.le_of_ble_eq_true rfl) rfl dL_458 ?_
    refine k_aload_n (q := 2) dL_461 rfl rfl ?_
    refine k_aload_n (q := 0) dL_462 rfl rfl ?_
    refine k_iload_n (q := 3) dL_463 rfl rfl ?_
    refine k_iconst (v := nI 1) dL_464 (by decide) ?_
    refine k_iadd dL_465 ?_
    refine k_sld (in_sc hi (by omega) hL) dL_466 ?_
    refine k_aload_n (q := 0) dL_467 rfl rfl ?_
    refine k_iload_n (q := 3) dL_468 rfl rfl ?_
    refine k_iconst (v := nI 2) dL_469 (by decide) ?_
    refine k_iadd dL_470 ?_
    refine k_sld (in_sc hi (by omega) hL) dL_471 ?_
    refine k_if_eq (tgt := 479) (A := none) (B := some ()) (z := ()) dL_472 (by decide) (if_neg hc) (fun z => by cases z) (fun _ => ?_)
    refine k_iconst (v := nI 1) dL_475 (by decide) ?_
    refine k_goto (tgt := 480) dL_476 (by decide) ?_
    refine k_cv (q := (RX9, TX9, 12)) (As := [.int (xs (nI i + nI 1).toNatClampNeg), .int (nI 1)]) 2 (cm_X9_dislike l hX 100000 σ1 334 L9_334 (xs (nI i + nI 1).toNatClampNeg) (nI 1) e2) gL_law_X9_dislike rfl ⟨rfl, rfl⟩ hd_X9_dislike ⟨Nat.le_of_ble_eq_true rfl, Nat.le_of_ble_eq_true rfl⟩ hk (lay_lt L9_334.1 (by decide)) (ce_of L9_334.1) rfl rfl (Nat.le_of_ble_eq_true rfl) rfl dL_480 ?_
    exact k_same (tgt := 1043) dL_483 (by decide) (k _ _ hB)
theorem lc_10 (l : Launch) {X : XT} (hX : XD X) {b L i n kc ks : Nat} {xs : Nat → Int32} {σ : Mem} {S : SS} (hk : kc ≤ 600000 ∧ ks ≤ 7302249) (hL : L ≤ 2048) (hi : i + 4 ≤ L) (hn : n < 1000000) (h : Both n σ S) (k : ∀ σ' S', Both (n + 1) σ' S' → WG X l mL (EL X b L xs) kc ks QL 1043 σ' (lvL X b i) []) : WG X l mL (EL X b L xs) kc ks QL 488 σ (lvL X b i) [] := by
  refine k_aload_n (q := 1) dL_488 rfl rfl ?_
  refine k_aload_n (q := 0) dL_489 rfl rfl ?_
  refine k_iload_n (q := 3) dL_490 rfl rfl ?_
  refine k_iconst (v := nI 1) dL_491 (by decide) ?_
  refine k_iadd dL_492 ?_
  refine k_sld (in_sc hi (by omega) hL) dL_493 ?_
  refine k_aload_n (q := 0) dL_494 rfl rfl ?_
  refine k_iload_n (q := 3) dL_495 rfl rfl ?_
  refine k_iconst (v := nI 2) dL_496 (by decide) ?_
  refine k_iadd dL_497 ?_
  refine k_sld (in_sc hi (by omega) hL) dL_498 ?_
  have hb := both_set (g := 100000) (by omega) h hn (xs (nI i + nI 1).toNatClampNeg) (xs (nI i + nI 2).toNatClampNeg)
  obtain ⟨r, σ1, σ2, S', e1, e2, hB⟩ := hb
  refine k_cv (q := (RX8, TX8, 7)) (As := [.int (xs (nI i + nI 1).toNatClampNeg), .int (xs (nI i + nI 2).toNatClampNeg)]) 2 (cm_X8_set l hX 100000 σ 0 L8_0 (xs (nI i + nI 1).toNatClampNeg) (xs (nI i + nI 2).toNatClampNeg) e1) gL_law_X8_set rfl ⟨rfl, rfl⟩ hd_X8_set ⟨Nat.le_of_ble_eq_true rfl, Nat.le_of_ble_eq_true rfl⟩ hk (lay_lt L8_0.1 (by decide)) (ce_of L8_0.1) rfl rfl (Nat.le_of_ble_eq_true rfl) rfl dL_499 ?_
  refine k_aload_n (q := 2) dL_502 rfl rfl ?_
  refine k_aload_n (q := 0) dL_503 rfl rfl ?_
  refine k_iload_n (q := 3) dL_504 rfl rfl ?_
  refine k_iconst (v := nI 1) dL_505 (by decide) ?_
  refine k_iadd dL_506 ?_
  refine k_sld (in_sc hi (by omega) hL) dL_507 ?_
  refine k_aload_n (q := 0) dL_508 rfl rfl ?_
  refine k_iload_n (q := 3) dL_509 rfl rfl ?_
  refine k_iconst (v := nI 2) dL_510 (by decide) ?_
  refine k_iadd dL_511 ?_
  refine k_sld (in_sc hi (by omega) hL) dL_512 ?_
  refine k_cv (q := (RX9, TX9, 12)) (As := [.int (xs (nI i + nI 1).toNatClampNeg), .int (xs (nI i + nI 2).toNatClampNeg)]) 2 (cm_X9_set l hX 100000 σ1 334 L9_334 (xs (nI i + nI 1).toNatClampNeg) (xs (nI i + nI 2).toNatClampNeg) e2) gL_law_X9_set rfl ⟨rfl, rfl⟩ hd_X9_set ⟨Nat.le_of_ble_eq_true rfl, Nat.le_of_ble_eq_true rfl⟩ hk (lay_lt L9_334.1 (by decide)) (ce_of L9_334.1) rfl rfl (Nat.le_of_ble_eq_true rfl) rfl dL_513 ?_
  exact k_same (tgt := 1043) dL_516 (by decide) (k _ _ hB)
theorem lc_11 (l : Launch) {X : XT} (hX : XD X) {b L i n kc ks : Nat} {xs : Nat → Int32} {σ : Mem} {S : SS} (hk : kc ≤ 600000 ∧ ks ≤ 7302249) (hL : L ≤ 2048) (hi : i + 4 ≤ L) (hn : n < 1000000) (h : Both n σ S) (k : ∀ σ' S', Both (n + 1) σ' S' → WG X l mL (EL X b L xs) kc ks QL 1043 σ' (lvL X b i) []) : WG X l mL (EL X b L xs) kc ks QL 521 σ (lvL X b i) [] := by
  refine k_aload_n (q := 1) dL_521 rfl rfl ?_
  have hb := both_run (g := 100000) (by omega) h hn 
  obtain ⟨r, σ1, σ2, S', e1, e2, hB⟩ := hb
  refine k_cv (q := (RX8, TX8, 7)) (As := []) 0 (cm_X8_run l hX 100000 σ 0 L8_0 e1) gL_law_X8_run rfl ⟨rfl, rfl⟩ hd_X8_run ⟨Nat.le_of_ble_eq_true rfl, Nat.le_of_ble_eq_true rfl⟩ hk (lay_lt L8_0.1 (by decide)) (ce_of L8_0.1) rfl rfl (Nat.le_of_ble_eq_true rfl) rfl dL_522 ?_
  refine k_aload_n (q := 2) dL_525 rfl rfl ?_
  refine k_cv (q := (RX9, TX9, 12)) (As := []) 0 (cm_X9_run l hX 100000 σ1 334 L9_334 e2) gL_law_X9_run rfl ⟨rfl, rfl⟩ hd_X9_run ⟨Nat.le_of_ble_eq_true rfl, Nat.le_of_ble_eq_true rfl⟩ hk (lay_lt L9_334.1 (by decide)) (ce_of L9_334.1) rfl rfl (Nat.le_of_ble_eq_true rfl) rfl dL_526 ?_
  exact k_same (tgt := 1043) dL_529 (by decide) (k _ _ hB)
theorem lc_12 (l : Launch) {X : XT} (hX : XD X) {b L i n kc ks : Nat} {xs : Nat → Int32} {σ : Mem} {S : SS} (hk : kc ≤ 600000 ∧ ks ≤ 7302249) (hL : L ≤ 2048) (hi : i + 4 ≤ L) (hn : n < 1000000) (h : Both n σ S) (k : ∀ σ' S', Both (n + 1) σ' S' → WG X l mL (EL X b L xs) kc ks QL 1043 σ' (lvL X b i) []) : WG X l mL (EL X b L xs) kc ks QL 534 σ (lvL X b i) [] := by
  refine k_aload_n (q := 1) dL_534 rfl rfl ?_
  refine k_aload_n (q := 0) dL_535 rfl rfl ?_
  refine k_iload_n (q := 3) dL_536 rfl rfl ?_
  refine k_iconst (v := nI 1) dL_537 (by decide) ?_
  refine k_iadd dL_538 ?_
  refine k_sld (in_sc hi (by omega) hL) dL_539 ?_
  refine k_aload_n (q := 0) dL_540 rfl rfl ?_
  refine k_iload_n (q := 3) dL_541 rfl rfl ?_
  refine k_iconst (v := nI 2) dL_542 (by decide) ?_
  refine k_iadd dL_543 ?_
  refine k_sld (in_sc hi (by omega) hL) dL_544 ?_
  refine k_aload_n (q := 0) dL_545 rfl rfl ?_
  refine k_iload_n (q := 3) dL_546 rfl rfl ?_
  refine k_iconst (v := nI 3) dL_547 (by decide) ?_
  refine k_iadd dL_548 ?_
  refine k_sld (in_sc hi (by omega) hL) dL_549 ?_
  have hb := both_addWitness (g := 100000) (by omega) h hn (xs (nI i + nI 1).toNatClampNeg) (xs (nI i + nI 2).toNatClampNeg) (xs (nI i + nI 3).toNatClampNeg)
  obtain ⟨r, σ1, σ2, S', e1, e2, hB⟩ := hb
  refine k_cv (q := (RX8, TX8, 7)) (As := [.int (xs (nI i + nI 1).toNatClampNeg), .int (xs (nI i + nI 2).toNatClampNeg), .int (xs (nI i + nI 3).toNatClampNeg)]) 3 (cm_X8_addWitness l hX 100000 σ 0 L8_0 (xs (nI i + nI 1).toNatClampNeg) (xs (nI i + nI 2).toNatClampNeg) (xs (nI i + nI 3).toNatClampNeg) e1) gL_law_X8_addWitness rfl ⟨rfl, rfl⟩ hd_X8_addWitness ⟨Nat.le_of_ble_eq_true rfl, Nat.le_of_ble_eq_true rfl⟩ hk (lay_lt L8_0.1 (by decide)) (ce_of L8_0.1) rfl rfl (Nat.le_of_ble_eq_true rfl) rfl dL_550 ?_
  refine k_aload_n (q := 2) dL_553 rfl rfl ?_
  refine k_aload_n (q := 0) dL_554 rfl rfl ?_
  refine k_iload_n (q := 3) dL_555 rfl rfl ?_
  refine k_iconst (v := nI 1) dL_556 (by decide) ?_
  refine k_iadd dL_557 ?_
  refine k_sld (in_sc hi (by omega) hL) dL_558 ?_
  refine k_aload_n (q := 0) dL_559 rfl rfl ?_
  refine k_iload_n (q := 3) dL_560 rfl rfl ?_
  refine k_iconst (v := nI 2) dL_561 (by decide) ?_
  refine k_iadd dL_562 ?_
  refine k_sld (in_sc hi (by omega) hL) dL_563 ?_
  refine k_aload_n (q := 0) dL_564 rfl rfl ?_
  refine k_iload_n (q := 3) dL_565 rfl rfl ?_
  refine k_iconst (v := nI 3) dL_566 (by decide) ?_
  refine k_iadd dL_567 ?_
  refine k_sld (in_sc hi (by omega) hL) dL_568 ?_
  refine k_cv (q := (RX9, TX9, 12)) (As := [.int (xs (nI i + nI 1).toNatClampNeg), .int (xs (nI i + nI 2).toNatClampNeg), .int (xs (nI i + nI 3).toNatClampNeg)]) 3 (cm_X9_addWitness l hX 100000 σ1 334 L9_334 (xs (nI i + nI 1).toNatClampNeg) (xs (nI i + nI 2).toNatClampNeg) (xs (nI i + nI 3).toNatClampNeg) e2) gL_law_X9_addWitness rfl ⟨rfl, rfl⟩ hd_X9_addWitness ⟨Nat.le_of_ble_eq_true rfl, Nat.le_of_ble_eq_true rfl⟩ hk (lay_lt L9_334.1 (by decide)) (ce_of L9_334.1) rfl rfl (Nat.le_of_ble_eq_true rfl) rfl dL_569 ?_
  exact k_same (tgt := 1043) dL_572 (by decide) (k _ _ hB)
theorem lc_13 (l : Launch) {X : XT} (hX : XD X) {b L i n kc ks : Nat} {xs : Nat → Int32} {σ : Mem} {S : SS} (hk : kc ≤ 600000 ∧ ks ≤ 7302249) (hL : L ≤ 2048) (hi : i + 4 ≤ L) (hn : n < 1000000) (h : Both n σ S) (k : ∀ σ' S', Both (n + 1) σ' S' → WG X l mL (EL X b L xs) kc ks QL 1043 σ' (lvL X b i) []) : WG X l mL (EL X b L xs) kc ks QL 577 σ (lvL X b i) [] := by
  refine k_aload_n (q := 1) dL_577 rfl rfl ?_
  refine k_aload_n (q := 0) dL_578 rfl rfl ?_
  refine k_iload_n (q := 3) dL_579 rfl rfl ?_
  refine k_iconst (v := nI 1) dL_580 (by decide) ?_
  refine k_iadd dL_581 ?_
  refine k_sld (in_sc hi (by omega) hL) dL_582 ?_
  refine k_i2c dL_583 ?_
  have hb := both_type (g := 100000) h (((xs (nI i + nI 1).toNatClampNeg)).toUInt32 % 65536).toInt32 (pk_vc _)
  obtain ⟨r, σ1, σ2, S', e1, e2, hB⟩ := hb
  refine k_cv (q := (RX8, TX8, 7)) (As := [.int (((xs (nI i + nI 1).toNatClampNeg)).toUInt32 % 65536).toInt32]) 1 (cm_X8_type l hX 100000 σ 0 L8_0 (((xs (nI i + nI 1).toNatClampNeg)).toUInt32 % 65536).toInt32 e1) gL_law_X8_type rfl ⟨rfl, rfl⟩ hd_X8_type ⟨Nat.le_of_ble_eq_true rfl, Nat.le_of_ble_eq_true rfl⟩ hk (lay_lt L8_0.1 (by decide)) (ce_of L8_0.1) rfl rfl (Nat.le_of_ble_eq_true rfl) rfl dL_584 ?_
  refine k_aload_n (q := 2) dL_587 rfl rfl ?_
  refine k_aload_n (q := 0) dL_588 rfl rfl ?_
  refine k_iload_n (q := 3) dL_589 rfl rfl ?_
  refine k_iconst (v := nI 1) dL_590 (by decide) ?_
  refine k_iadd dL_591 ?_
  refine k_sld (in_sc hi (by omega) hL) dL_592 ?_
  refine k_i2c dL_593 ?_
  refine k_cv (q := (RX9, TX9, 12)) (As := [.int (((xs (nI i + nI 1).toNatClampNeg)).toUInt32 % 65536).toInt32]) 1 (cm_X9_type l hX 100000 σ1 334 L9_334 (((xs (nI i + nI 1).toNatClampNeg)).toUInt32 % 65536).toInt32 e2) gL_law_X9_type rfl ⟨rfl, rfl⟩ hd_X9_type ⟨Nat.le_of_ble_eq_true rfl, Nat.le_of_ble_eq_true rfl⟩ hk (lay_lt L9_334.1 (by decide)) (ce_of L9_334.1) rfl rfl (Nat.le_of_ble_eq_true rfl) rfl dL_594 ?_
  exact k_same (tgt := 1043) dL_597 (by decide) (k _ _ hB)
theorem lc_14 (l : Launch) {X : XT} (hX : XD X) {b L i n kc ks : Nat} {xs : Nat → Int32} {σ : Mem} {S : SS} (hk : kc ≤ 600000 ∧ ks ≤ 7302249) (hL : L ≤ 2048) (hi : i + 4 ≤ L) (hn : n < 1000000) (h : Both n σ S) (k : ∀ σ' S', Both (n + 1) σ' S' → WG X l mL (EL X b L xs) kc ks QL 1043 σ' (lvL X b i) []) : WG X l mL (EL X b L xs) kc ks QL 602 σ (lvL X b i) [] := by
  refine k_aload_n (q := 1) dL_602 rfl rfl ?_
  have hb := both_clearText (g := 100000) (by omega) h hn 
  obtain ⟨r, σ1, σ2, S', e1, e2, hB⟩ := hb
  refine k_cv (q := (RX8, TX8, 7)) (As := []) 0 (cm_X8_clearText l hX 100000 σ 0 L8_0 e1) gL_law_X8_clearText rfl ⟨rfl, rfl⟩ hd_X8_clearText ⟨Nat.le_of_ble_eq_true rfl, Nat.le_of_ble_eq_true rfl⟩ hk (lay_lt L8_0.1 (by decide)) (ce_of L8_0.1) rfl rfl (Nat.le_of_ble_eq_true rfl) rfl dL_603 ?_
  refine k_aload_n (q := 2) dL_606 rfl rfl ?_
  refine k_cv (q := (RX9, TX9, 12)) (As := []) 0 (cm_X9_clearText l hX 100000 σ1 334 L9_334 e2) gL_law_X9_clearText rfl ⟨rfl, rfl⟩ hd_X9_clearText ⟨Nat.le_of_ble_eq_true rfl, Nat.le_of_ble_eq_true rfl⟩ hk (lay_lt L9_334.1 (by decide)) (ce_of L9_334.1) rfl rfl (Nat.le_of_ble_eq_true rfl) rfl dL_607 ?_
  exact k_same (tgt := 1043) dL_610 (by decide) (k _ _ hB)
theorem lc_15 (l : Launch) {X : XT} (hX : XD X) {b L i n kc ks : Nat} {xs : Nat → Int32} {σ : Mem} {S : SS} (hk : kc ≤ 600000 ∧ ks ≤ 7302249) (hL : L ≤ 2048) (hi : i + 4 ≤ L) (hn : n < 1000000) (h : Both n σ S) (k : ∀ σ' S', Both (n + 1) σ' S' → WG X l mL (EL X b L xs) kc ks QL 1043 σ' (lvL X b i) []) : WG X l mL (EL X b L xs) kc ks QL 615 σ (lvL X b i) [] := by
  refine k_aload_n (q := 1) dL_615 rfl rfl ?_
  have hb := both_edit (g := 100000) (by omega) h hn 
  obtain ⟨r, σ1, σ2, S', e1, e2, hB⟩ := hb
  refine k_cv (q := (RX8, TX8, 7)) (As := []) 0 (cm_X8_edit l hX 100000 σ 0 L8_0 e1) gL_law_X8_edit rfl ⟨rfl, rfl⟩ hd_X8_edit ⟨Nat.le_of_ble_eq_true rfl, Nat.le_of_ble_eq_true rfl⟩ hk (lay_lt L8_0.1 (by decide)) (ce_of L8_0.1) rfl rfl (Nat.le_of_ble_eq_true rfl) rfl dL_616 ?_
  refine k_aload_n (q := 2) dL_619 rfl rfl ?_
  refine k_cv (q := (RX9, TX9, 12)) (As := []) 0 (cm_X9_edit l hX 100000 σ1 334 L9_334 e2) gL_law_X9_edit rfl ⟨rfl, rfl⟩ hd_X9_edit ⟨Nat.le_of_ble_eq_true rfl, Nat.le_of_ble_eq_true rfl⟩ hk (lay_lt L9_334.1 (by decide)) (ce_of L9_334.1) rfl rfl (Nat.le_of_ble_eq_true rfl) rfl dL_620 ?_
  exact k_same (tgt := 1043) dL_623 (by decide) (k _ _ hB)
theorem lc_16 (l : Launch) {X : XT} (hX : XD X) {b L i n kc ks : Nat} {xs : Nat → Int32} {σ : Mem} {S : SS} (hk : kc ≤ 600000 ∧ ks ≤ 7302249) (hL : L ≤ 2048) (hi : i + 4 ≤ L) (hn : n < 1000000) (h : Both n σ S) (k : ∀ σ' S', Both (n + 1) σ' S' → WG X l mL (EL X b L xs) kc ks QL 1043 σ' (lvL X b i) []) : WG X l mL (EL X b L xs) kc ks QL 628 σ (lvL X b i) [] := by
  refine k_aload_n (q := 1) dL_628 rfl rfl ?_
  have hb := both_undo (g := 100000) (by omega) h hn 
  obtain ⟨r, σ1, σ2, S', e1, e2, hB⟩ := hb
  refine k_cv (q := (RX8, TX8, 7)) (As := []) 0 (cm_X8_undo l hX 100000 σ 0 L8_0 e1) gL_law_X8_undo rfl ⟨rfl, rfl⟩ hd_X8_undo ⟨Nat.le_of_ble_eq_true rfl, Nat.le_of_ble_eq_true rfl⟩ hk (lay_lt L8_0.1 (by decide)) (ce_of L8_0.1) rfl rfl (Nat.le_of_ble_eq_true rfl) rfl dL_629 ?_
  refine k_aload_n (q := 2) dL_632 rfl rfl ?_
  refine k_cv (q := (RX9, TX9, 12)) (As := []) 0 (cm_X9_undo l hX 100000 σ1 334 L9_334 e2) gL_law_X9_undo rfl ⟨rfl, rfl⟩ hd_X9_undo ⟨Nat.le_of_ble_eq_true rfl, Nat.le_of_ble_eq_true rfl⟩ hk (lay_lt L9_334.1 (by decide)) (ce_of L9_334.1) rfl rfl (Nat.le_of_ble_eq_true rfl) rfl dL_633 ?_
  exact k_same (tgt := 1043) dL_636 (by decide) (k _ _ hB)
theorem lc_17 (l : Launch) {X : XT} (hX : XD X) {b L i n kc ks : Nat} {xs : Nat → Int32} {σ : Mem} {S : SS} (hk : kc ≤ 600000 ∧ ks ≤ 7302249) (hL : L ≤ 2048) (hi : i + 4 ≤ L) (hn : n < 1000000) (h : Both n σ S) (k : ∀ σ' S', Both (n + 1) σ' S' → WG X l mL (EL X b L xs) kc ks QL 1043 σ' (lvL X b i) []) : WG X l mL (EL X b L xs) kc ks QL 641 σ (lvL X b i) [] := by
  refine k_aload_n (q := 1) dL_641 rfl rfl ?_
  have hb := both_keep (g := 100000) (by omega) h hn 
  obtain ⟨r, σ1, σ2, S', e1, e2, hB⟩ := hb
  refine k_cv (q := (RX8, TX8, 7)) (As := []) 0 (cm_X8_keep l hX 100000 σ 0 L8_0 e1) gL_law_X8_keep rfl ⟨rfl, rfl⟩ hd_X8_keep ⟨Nat.le_of_ble_eq_true rfl, Nat.le_of_ble_eq_true rfl⟩ hk (lay_lt L8_0.1 (by decide)) (ce_of L8_0.1) rfl rfl (Nat.le_of_ble_eq_true rfl) rfl dL_642 ?_
  refine k_aload_n (q := 2) dL_645 rfl rfl ?_
  refine k_cv (q := (RX9, TX9, 12)) (As := []) 0 (cm_X9_keep l hX 100000 σ1 334 L9_334 e2) gL_law_X9_keep rfl ⟨rfl, rfl⟩ hd_X9_keep ⟨Nat.le_of_ble_eq_true rfl, Nat.le_of_ble_eq_true rfl⟩ hk (lay_lt L9_334.1 (by decide)) (ce_of L9_334.1) rfl rfl (Nat.le_of_ble_eq_true rfl) rfl dL_646 ?_
  exact k_same (tgt := 1043) dL_649 (by decide) (k _ _ hB)
theorem lc_18 (l : Launch) {X : XT} (hX : XD X) {b L i n kc ks : Nat} {xs : Nat → Int32} {σ : Mem} {S : SS} (hk : kc ≤ 600000 ∧ ks ≤ 7302249) (hL : L ≤ 2048) (hi : i + 4 ≤ L) (hn : n < 1000000) (h : Both n σ S) (k : ∀ σ' S', Both (n + 1) σ' S' → WG X l mL (EL X b L xs) kc ks QL 1043 σ' (lvL X b i) []) : WG X l mL (EL X b L xs) kc ks QL 654 σ (lvL X b i) [] := by
  refine k_aload_n (q := 1) dL_654 rfl rfl ?_
  have hb := both_restore (g := 100000) (by omega) h hn 
  obtain ⟨r, σ1, σ2, S', e1, e2, hB⟩ := hb
  refine k_cv (q := (RX8, TX8, 7)) (As := []) 0 (cm_X8_restore l hX 100000 σ 0 L8_0 e1) gL_law_X8_restore rfl ⟨rfl, rfl⟩ hd_X8_restore ⟨Nat.le_of_ble_eq_true rfl, Nat.le_of_ble_eq_true rfl⟩ hk (lay_lt L8_0.1 (by decide)) (ce_of L8_0.1) rfl rfl (Nat.le_of_ble_eq_true rfl) rfl dL_655 ?_
  refine k_aload_n (q := 2) dL_658 rfl rfl ?_
  refine k_cv (q := (RX9, TX9, 12)) (As := []) 0 (cm_X9_restore l hX 100000 σ1 334 L9_334 e2) gL_law_X9_restore rfl ⟨rfl, rfl⟩ hd_X9_restore ⟨Nat.le_of_ble_eq_true rfl, Nat.le_of_ble_eq_true rfl⟩ hk (lay_lt L9_334.1 (by decide)) (ce_of L9_334.1) rfl rfl (Nat.le_of_ble_eq_true rfl) rfl dL_659 ?_
  exact k_same (tgt := 1043) dL_662 (by decide) (k _ _ hB)
theorem lc_19 (l : Launch) {X : XT} (hX : XD X) {b L i n kc ks : Nat} {xs : Nat → Int32} {σ : Mem} {S : SS} (hk : kc ≤ 600000 ∧ ks ≤ 7302249) (hL : L ≤ 2048) (hi : i + 4 ≤ L) (hn : n < 1000000) (h : Both n σ S) (k : ∀ σ' S', Both (n + 1) σ' S' → WG X l mL (EL X b L xs) kc ks QL 1043 σ' (lvL X b i) []) : WG X l mL (EL X b L xs) kc ks QL 667 σ (lvL X b i) [] := by
  refine k_aload_n (q := 1) dL_667 rfl rfl ?_
  refine k_aload_n (q := 0) dL_668 rfl rfl ?_
  refine k_iload_n (q := 3) dL_669 rfl rfl ?_
  refine k_iconst (v := nI 1) dL_670 (by decide) ?_
  refine k_iadd dL_671 ?_
  refine k_sld (in_sc hi (by omega) hL) dL_672 ?_
  refine k_aload_n (q := 0) dL_673 rfl rfl ?_
  refine k_iload_n (q := 3) dL_674 rfl rfl ?_
  refine k_iconst (v := nI 2) dL_675 (by decide) ?_
  refine k_iadd dL_676 ?_
  refine k_sld (in_sc hi (by omega) hL) dL_677 ?_
  have hb := both_scene (g := 100000) (by omega) h hn (xs (nI i + nI 1).toNatClampNeg) (xs (nI i + nI 2).toNatClampNeg)
  obtain ⟨r, e1, e2⟩ := hb
  refine k_cv (q := (RX8, TX8, 7)) (As := [.int (xs (nI i + nI 1).toNatClampNeg), .int (xs (nI i + nI 2).toNatClampNeg)]) 2 (cm_X8_scene l hX 100000 σ 0 L8_0 (xs (nI i + nI 1).toNatClampNeg) (xs (nI i + nI 2).toNatClampNeg) e1) gL_law_X8_scene rfl ⟨rfl, rfl⟩ hd_X8_scene ⟨Nat.le_of_ble_eq_true rfl, Nat.le_of_ble_eq_true rfl⟩ hk (lay_lt L8_0.1 (by decide)) (ce_of L8_0.1) rfl rfl (Nat.le_of_ble_eq_true rfl) rfl dL_678 ?_
  refine k_aload_n (q := 2) dL_681 rfl rfl ?_
  refine k_aload_n (q := 0) dL_682 rfl rfl ?_
  refine k_iload_n (q := 3) dL_683 rfl rfl ?_
  refine k_iconst (v := nI 1) dL_684 (by decide) ?_
  refine k_iadd dL_685 ?_
  refine k_sld (in_sc hi (by omega) hL) dL_686 ?_
  refine k_aload_n (q := 0) dL_687 rfl rfl ?_
  refine k_iload_n (q := 3) dL_688 rfl rfl ?_
  refine k_iconst (v := nI 2) dL_689 (by decide) ?_
  refine k_iadd dL_690 ?_
  refine k_sld (in_sc hi (by omega) hL) dL_691 ?_
  refine k_cv (q := (RX9, TX9, 12)) (As := [.int (xs (nI i + nI 1).toNatClampNeg), .int (xs (nI i + nI 2).toNatClampNeg)]) 2 (cm_X9_scene l hX 100000 σ 334 L9_334 (xs (nI i + nI 1).toNatClampNeg) (xs (nI i + nI 2).toNatClampNeg) e2) gL_law_X9_scene rfl ⟨rfl, rfl⟩ hd_X9_scene ⟨Nat.le_of_ble_eq_true rfl, Nat.le_of_ble_eq_true rfl⟩ hk (lay_lt L9_334.1 (by decide)) (ce_of L9_334.1) rfl rfl (Nat.le_of_ble_eq_true rfl) rfl dL_692 ?_
  exact k_same (tgt := 1043) dL_695 (by decide) (k _ _ ⟨h.1, h.2.1, h.2.2.mono (Nat.le_succ n)⟩)
theorem lc_20 (l : Launch) {X : XT} (hX : XD X) {b L i n kc ks : Nat} {xs : Nat → Int32} {σ : Mem} {S : SS} (hk : kc ≤ 600000 ∧ ks ≤ 7302249) (hL : L ≤ 2048) (hi : i + 4 ≤ L) (hn : n < 1000000) (h : Both n σ S) (k : ∀ σ' S', Both (n + 1) σ' S' → WG X l mL (EL X b L xs) kc ks QL 1043 σ' (lvL X b i) []) : WG X l mL (EL X b L xs) kc ks QL 700 σ (lvL X b i) [] := by
  refine k_aload_n (q := 1) dL_700 rfl rfl ?_
  refine k_aload_n (q := 0) dL_701 rfl rfl ?_
  refine k_iload_n (q := 3) dL_702 rfl rfl ?_
  refine k_iconst (v := nI 1) dL_703 (by decide) ?_
  refine k_iadd dL_704 ?_
  refine k_sld (in_sc hi (by omega) hL) dL_705 ?_
  refine k_aload_n (q := 0) dL_706 rfl rfl ?_
  refine k_iload_n (q := 3) dL_707 rfl rfl ?_
  refine k_iconst (v := nI 2) dL_708 (by decide) ?_
  refine k_iadd dL_709 ?_
  refine k_sld (in_sc hi (by omega) hL) dL_710 ?_
  have hb := both_piece (g := 100000) (by omega) h hn (xs (nI i + nI 1).toNatClampNeg) (xs (nI i + nI 2).toNatClampNeg)
  obtain ⟨r, e1, e2⟩ := hb
  refine k_cv (q := (RX8, TX8, 7)) (As := [.int (xs (nI i + nI 1).toNatClampNeg), .int (xs (nI i + nI 2).toNatClampNeg)]) 2 (cm_X8_piece l hX 100000 σ 0 L8_0 (xs (nI i + nI 1).toNatClampNeg) (xs (nI i + nI 2).toNatClampNeg) e1) gL_law_X8_piece rfl ⟨rfl, rfl⟩ hd_X8_piece ⟨Nat.le_of_ble_eq_true rfl, Nat.le_of_ble_eq_true rfl⟩ hk (lay_lt L8_0.1 (by decide)) (ce_of L8_0.1) rfl rfl (Nat.le_of_ble_eq_true rfl) rfl dL_711 ?_
  refine k_aload_n (q := 2) dL_714 rfl rfl ?_
  refine k_aload_n (q := 0) dL_715 rfl rfl ?_
  refine k_iload_n (q := 3) dL_716 rfl rfl ?_
  refine k_iconst (v := nI 1) dL_717 (by decide) ?_
  refine k_iadd dL_718 ?_
  refine k_sld (in_sc hi (by omega) hL) dL_719 ?_
  refine k_aload_n (q := 0) dL_720 rfl rfl ?_
  refine k_iload_n (q := 3) dL_721 rfl rfl ?_
  refine k_iconst (v := nI 2) dL_722 (by decide) ?_
  refine k_iadd dL_723 ?_
  refine k_sld (in_sc hi (by omega) hL) dL_724 ?_
  refine k_cv (q := (RX9, TX9, 12)) (As := [.int (xs (nI i + nI 1).toNatClampNeg), .int (xs (nI i + nI 2).toNatClampNeg)]) 2 (cm_X9_piece l hX 100000 σ 334 L9_334 (xs (nI i + nI 1).toNatClampNeg) (xs (nI i + nI 2).toNatClampNeg) e2) gL_law_X9_piece rfl ⟨rfl, rfl⟩ hd_X9_piece ⟨Nat.le_of_ble_eq_true rfl, Nat.le_of_ble_eq_true rfl⟩ hk (lay_lt L9_334.1 (by decide)) (ce_of L9_334.1) rfl rfl (Nat.le_of_ble_eq_true rfl) rfl dL_725 ?_
  exact k_same (tgt := 1043) dL_728 (by decide) (k _ _ ⟨h.1, h.2.1, h.2.2.mono (Nat.le_succ n)⟩)
theorem lc_21 (l : Launch) {X : XT} (hX : XD X) {b L i n kc ks : Nat} {xs : Nat → Int32} {σ : Mem} {S : SS} (hk : kc ≤ 600000 ∧ ks ≤ 7302249) (hL : L ≤ 2048) (hi : i + 4 ≤ L) (hn : n < 1000000) (h : Both n σ S) (k : ∀ σ' S', Both (n + 1) σ' S' → WG X l mL (EL X b L xs) kc ks QL 1043 σ' (lvL X b i) []) : WG X l mL (EL X b L xs) kc ks QL 733 σ (lvL X b i) [] := by
  refine k_aload_n (q := 1) dL_733 rfl rfl ?_
  refine k_aload_n (q := 0) dL_734 rfl rfl ?_
  refine k_iload_n (q := 3) dL_735 rfl rfl ?_
  refine k_iconst (v := nI 1) dL_736 (by decide) ?_
  refine k_iadd dL_737 ?_
  refine k_sld (in_sc hi (by omega) hL) dL_738 ?_
  refine k_aload_n (q := 0) dL_739 rfl rfl ?_
  refine k_iload_n (q := 3) dL_740 rfl rfl ?_
  refine k_iconst (v := nI 2) dL_741 (by decide) ?_
  refine k_iadd dL_742 ?_
  refine k_sld (in_sc hi (by omega) hL) dL_743 ?_
  have hb := both_canned (g := 100000) (by omega) h hn (xs (nI i + nI 1).toNatClampNeg) (xs (nI i + nI 2).toNatClampNeg)
  obtain ⟨r, e1, e2⟩ := hb
  refine k_cv (q := (RX8, TX8, 7)) (As := [.int (xs (nI i + nI 1).toNatClampNeg), .int (xs (nI i + nI 2).toNatClampNeg)]) 2 (cm_X8_canned l hX 100000 σ 0 L8_0 (xs (nI i + nI 1).toNatClampNeg) (xs (nI i + nI 2).toNatClampNeg) e1) gL_law_X8_canned rfl ⟨rfl, rfl⟩ hd_X8_canned ⟨Nat.le_of_ble_eq_true rfl, Nat.le_of_ble_eq_true rfl⟩ hk (lay_lt L8_0.1 (by decide)) (ce_of L8_0.1) rfl rfl (Nat.le_of_ble_eq_true rfl) rfl dL_744 ?_
  refine k_aload_n (q := 2) dL_747 rfl rfl ?_
  refine k_aload_n (q := 0) dL_748 rfl rfl ?_
  refine k_iload_n (q := 3) dL_749 rfl rfl ?_
  refine k_iconst (v := nI 1) dL_750 (by decide) ?_
  refine k_iadd dL_751 ?_
  refine k_sld (in_sc hi (by omega) hL) dL_752 ?_
  refine k_aload_n (q := 0) dL_753 rfl rfl ?_
  refine k_iload_n (q := 3) dL_754 rfl rfl ?_
  refine k_iconst (v := nI 2) dL_755 (by decide) ?_
  refine k_iadd dL_756 ?_
  refine k_sld (in_sc hi (by omega) hL) dL_757 ?_
  refine k_cv (q := (RX9, TX9, 12)) (As := [.int (xs (nI i + nI 1).toNatClampNeg), .int (xs (nI i + nI 2).toNatClampNeg)]) 2 (cm_X9_canned l hX 100000 σ 334 L9_334 (xs (nI i + nI 1).toNatClampNeg) (xs (nI i + nI 2).toNatClampNeg) e2) gL_law_X9_canned rfl ⟨rfl, rfl⟩ hd_X9_canned ⟨Nat.le_of_ble_eq_true rfl, Nat.le_of_ble_eq_true rfl⟩ hk (lay_lt L9_334.1 (by decide)) (ce_of L9_334.1) rfl rfl (Nat.le_of_ble_eq_true rfl) rfl dL_758 ?_
  exact k_same (tgt := 1043) dL_761 (by decide) (k _ _ ⟨h.1, h.2.1, h.2.2.mono (Nat.le_succ n)⟩)
theorem lc_22 (l : Launch) {X : XT} (hX : XD X) {b L i n kc ks : Nat} {xs : Nat → Int32} {σ : Mem} {S : SS} (hk : kc ≤ 600000 ∧ ks ≤ 7302249) (hL : L ≤ 2048) (hi : i + 4 ≤ L) (hn : n < 1000000) (h : Both n σ S) (k : ∀ σ' S', Both (n + 1) σ' S' → WG X l mL (EL X b L xs) kc ks QL 1043 σ' (lvL X b i) []) : WG X l mL (EL X b L xs) kc ks QL 766 σ (lvL X b i) [] := by
  refine k_aload_n (q := 1) dL_766 rfl rfl ?_
  refine k_aload_n (q := 0) dL_767 rfl rfl ?_
  refine k_iload_n (q := 3) dL_768 rfl rfl ?_
  refine k_iconst (v := nI 1) dL_769 (by decide) ?_
  refine k_iadd dL_770 ?_
  refine k_sld (in_sc hi (by omega) hL) dL_771 ?_
  have hb := both_frameAt (g := 100000) (by omega) h hn (xs (nI i + nI 1).toNatClampNeg)
  obtain ⟨r, e1, e2⟩ := hb
  refine k_cv (q := (RX8, TX8, 7)) (As := [.int (xs (nI i + nI 1).toNatClampNeg)]) 1 (cm_X8_frameAt l hX 100000 σ 0 L8_0 (xs (nI i + nI 1).toNatClampNeg) e1) gL_law_X8_frameAt rfl ⟨rfl, rfl⟩ hd_X8_frameAt ⟨Nat.le_of_ble_eq_true rfl, Nat.le_of_ble_eq_true rfl⟩ hk (lay_lt L8_0.1 (by decide)) (ce_of L8_0.1) rfl rfl (Nat.le_of_ble_eq_true rfl) rfl dL_772 ?_
  refine k_aload_n (q := 2) dL_775 rfl rfl ?_
  refine k_aload_n (q := 0) dL_776 rfl rfl ?_
  refine k_iload_n (q := 3) dL_777 rfl rfl ?_
  refine k_iconst (v := nI 1) dL_778 (by decide) ?_
  refine k_iadd dL_779 ?_
  refine k_sld (in_sc hi (by omega) hL) dL_780 ?_
  refine k_cv (q := (RX9, TX9, 12)) (As := [.int (xs (nI i + nI 1).toNatClampNeg)]) 1 (cm_X9_frameAt l hX 100000 σ 334 L9_334 (xs (nI i + nI 1).toNatClampNeg) e2) gL_law_X9_frameAt rfl ⟨rfl, rfl⟩ hd_X9_frameAt ⟨Nat.le_of_ble_eq_true rfl, Nat.le_of_ble_eq_true rfl⟩ hk (lay_lt L9_334.1 (by decide)) (ce_of L9_334.1) rfl rfl (Nat.le_of_ble_eq_true rfl) rfl dL_781 ?_
  exact k_same (tgt := 1043) dL_784 (by decide) (k _ _ ⟨h.1, h.2.1, h.2.2.mono (Nat.le_succ n)⟩)
theorem lc_23 (l : Launch) {X : XT} (hX : XD X) {b L i n kc ks : Nat} {xs : Nat → Int32} {σ : Mem} {S : SS} (hk : kc ≤ 600000 ∧ ks ≤ 7302249) (hL : L ≤ 2048) (hi : i + 4 ≤ L) (hn : n < 1000000) (h : Both n σ S) (k : ∀ σ' S', Both (n + 1) σ' S' → WG X l mL (EL X b L xs) kc ks QL 1043 σ' (lvL X b i) []) : WG X l mL (EL X b L xs) kc ks QL 789 σ (lvL X b i) [] := by
  refine k_aload_n (q := 1) dL_789 rfl rfl ?_
  refine k_aload_n (q := 0) dL_790 rfl rfl ?_
  refine k_iload_n (q := 3) dL_791 rfl rfl ?_
  refine k_iconst (v := nI 1) dL_792 (by decide) ?_
  refine k_iadd dL_793 ?_
  refine k_sld (in_sc hi (by omega) hL) dL_794 ?_
  refine k_aload_n (q := 0) dL_795 rfl rfl ?_
  refine k_iload_n (q := 3) dL_796 rfl rfl ?_
  refine k_iconst (v := nI 2) dL_797 (by decide) ?_
  refine k_iadd dL_798 ?_
  refine k_sld (in_sc hi (by omega) hL) dL_799 ?_
  refine k_aload_n (q := 0) dL_800 rfl rfl ?_
  refine k_iload_n (q := 3) dL_801 rfl rfl ?_
  refine k_iconst (v := nI 3) dL_802 (by decide) ?_
  refine k_iadd dL_803 ?_
  refine k_sld (in_sc hi (by omega) hL) dL_804 ?_
  have hb := both_frame (g := 100000) (by omega) h hn (xs (nI i + nI 1).toNatClampNeg) (xs (nI i + nI 2).toNatClampNeg) (xs (nI i + nI 3).toNatClampNeg)
  obtain ⟨r, e1, e2⟩ := hb
  refine k_cv (q := (RX8, TX8, 7)) (As := [.int (xs (nI i + nI 1).toNatClampNeg), .int (xs (nI i + nI 2).toNatClampNeg), .int (xs (nI i + nI 3).toNatClampNeg)]) 3 (cm_X8_frame l hX 100000 σ 0 L8_0 (xs (nI i + nI 1).toNatClampNeg) (xs (nI i + nI 2).toNatClampNeg) (xs (nI i + nI 3).toNatClampNeg) e1) gL_law_X8_frame rfl ⟨rfl, rfl⟩ hd_X8_frame ⟨Nat.le_of_ble_eq_true rfl, Nat.le_of_ble_eq_true rfl⟩ hk (lay_lt L8_0.1 (by decide)) (ce_of L8_0.1) rfl rfl (Nat.le_of_ble_eq_true rfl) rfl dL_805 ?_
  refine k_aload_n (q := 2) dL_808 rfl rfl ?_
  refine k_aload_n (q := 0) dL_809 rfl rfl ?_
  refine k_iload_n (q := 3) dL_810 rfl rfl ?_
  refine k_iconst (v := nI 1) dL_811 (by decide) ?_
  refine k_iadd dL_812 ?_
  refine k_sld (in_sc hi (by omega) hL) dL_813 ?_
  refine k_aload_n (q := 0) dL_814 rfl rfl ?_
  refine k_iload_n (q := 3) dL_815 rfl rfl ?_
  refine k_iconst (v := nI 2) dL_816 (by decide) ?_
  refine k_iadd dL_817 ?_
  refine k_sld (in_sc hi (by omega) hL) dL_818 ?_
  refine k_aload_n (q := 0) dL_819 rfl rfl ?_
  refine k_iload_n (q := 3) dL_820 rfl rfl ?_
  refine k_iconst (v := nI 3) dL_821 (by decide) ?_
  refine k_iadd dL_822 ?_
  refine k_sld (in_sc hi (by omega) hL) dL_823 ?_
  refine k_cv (q := (RX9, TX9, 12)) (As := [.int (xs (nI i + nI 1).toNatClampNeg), .int (xs (nI i + nI 2).toNatClampNeg), .int (xs (nI i + nI 3).toNatClampNeg)]) 3 (cm_X9_frame l hX 100000 σ 334 L9_334 (xs (nI i + nI 1).toNatClampNeg) (xs (nI i + nI 2).toNatClampNeg) (xs (nI i + nI 3).toNatClampNeg) e2) gL_law_X9_frame rfl ⟨rfl, rfl⟩ hd_X9_frame ⟨Nat.le_of_ble_eq_true rfl, Nat.le_of_ble_eq_true rfl⟩ hk (lay_lt L9_334.1 (by decide)) (ce_of L9_334.1) rfl rfl (Nat.le_of_ble_eq_true rfl) rfl dL_824 ?_
  exact k_same (tgt := 1043) dL_827 (by decide) (k _ _ ⟨h.1, h.2.1, h.2.2.mono (Nat.le_succ n)⟩)
theorem lc_24 (l : Launch) {X : XT} (hX : XD X) {b L i n kc ks : Nat} {xs : Nat → Int32} {σ : Mem} {S : SS} (hk : kc ≤ 600000 ∧ ks ≤ 7302249) (hL : L ≤ 2048) (hi : i + 4 ≤ L) (hn : n < 1000000) (h : Both n σ S) (k : ∀ σ' S', Both (n + 1) σ' S' → WG X l mL (EL X b L xs) kc ks QL 1043 σ' (lvL X b i) []) : WG X l mL (EL X b L xs) kc ks QL 832 σ (lvL X b i) [] := by
  refine k_aload_n (q := 1) dL_832 rfl rfl ?_
  refine k_aload_n (q := 0) dL_833 rfl rfl ?_
  refine k_iload_n (q := 3) dL_834 rfl rfl ?_
  refine k_iconst (v := nI 1) dL_835 (by decide) ?_
  refine k_iadd dL_836 ?_
  refine k_sld (in_sc hi (by omega) hL) dL_837 ?_
  refine k_aload_n (q := 0) dL_838 rfl rfl ?_
  refine k_iload_n (q := 3) dL_839 rfl rfl ?_
  refine k_iconst (v := nI 2) dL_840 (by decide) ?_
  refine k_iadd dL_841 ?_
  refine k_sld (in_sc hi (by omega) hL) dL_842 ?_
  have hb := both_show (g := 100000) (by omega) h hn (xs (nI i + nI 1).toNatClampNeg) (xs (nI i + nI 2).toNatClampNeg)
  obtain ⟨r, e1, e2⟩ := hb
  refine k_cv (q := (RX8, TX8, 7)) (As := [.int (xs (nI i + nI 1).toNatClampNeg), .int (xs (nI i + nI 2).toNatClampNeg)]) 2 (cm_X8_show l hX 100000 σ 0 L8_0 (xs (nI i + nI 1).toNatClampNeg) (xs (nI i + nI 2).toNatClampNeg) e1) gL_law_X8_show rfl ⟨rfl, rfl⟩ hd_X8_show ⟨Nat.le_of_ble_eq_true rfl, Nat.le_of_ble_eq_true rfl⟩ hk (lay_lt L8_0.1 (by decide)) (ce_of L8_0.1) rfl rfl (Nat.le_of_ble_eq_true rfl) rfl dL_843 ?_
  refine k_aload_n (q := 2) dL_846 rfl rfl ?_
  refine k_aload_n (q := 0) dL_847 rfl rfl ?_
  refine k_iload_n (q := 3) dL_848 rfl rfl ?_
  refine k_iconst (v := nI 1) dL_849 (by decide) ?_
  refine k_iadd dL_850 ?_
  refine k_sld (in_sc hi (by omega) hL) dL_851 ?_
  refine k_aload_n (q := 0) dL_852 rfl rfl ?_
  refine k_iload_n (q := 3) dL_853 rfl rfl ?_
  refine k_iconst (v := nI 2) dL_854 (by decide) ?_
  refine k_iadd dL_855 ?_
  refine k_sld (in_sc hi (by omega) hL) dL_856 ?_
  refine k_cv (q := (RX9, TX9, 12)) (As := [.int (xs (nI i + nI 1).toNatClampNeg), .int (xs (nI i + nI 2).toNatClampNeg)]) 2 (cm_X9_show l hX 100000 σ 334 L9_334 (xs (nI i + nI 1).toNatClampNeg) (xs (nI i + nI 2).toNatClampNeg) e2) gL_law_X9_show rfl ⟨rfl, rfl⟩ hd_X9_show ⟨Nat.le_of_ble_eq_true rfl, Nat.le_of_ble_eq_true rfl⟩ hk (lay_lt L9_334.1 (by decide)) (ce_of L9_334.1) rfl rfl (Nat.le_of_ble_eq_true rfl) rfl dL_857 ?_
  exact k_same (tgt := 1043) dL_860 (by decide) (k _ _ ⟨h.1, h.2.1, h.2.2.mono (Nat.le_succ n)⟩)
theorem lc_25 (l : Launch) {X : XT} (hX : XD X) {b L i n kc ks : Nat} {xs : Nat → Int32} {σ : Mem} {S : SS} (hk : kc ≤ 600000 ∧ ks ≤ 7302249) (hL : L ≤ 2048) (hi : i + 4 ≤ L) (hn : n < 1000000) (h : Both n σ S) (k : ∀ σ' S', Both (n + 1) σ' S' → WG X l mL (EL X b L xs) kc ks QL 1043 σ' (lvL X b i) []) : WG X l mL (EL X b L xs) kc ks QL 865 σ (lvL X b i) [] := by
  refine k_aload_n (q := 1) dL_865 rfl rfl ?_
  refine k_aload_n (q := 0) dL_866 rfl rfl ?_
  refine k_iload_n (q := 3) dL_867 rfl rfl ?_
  refine k_iconst (v := nI 1) dL_868 (by decide) ?_
  refine k_iadd dL_869 ?_
  refine k_sld (in_sc hi (by omega) hL) dL_870 ?_
  refine k_aload_n (q := 0) dL_871 rfl rfl ?_
  refine k_iload_n (q := 3) dL_872 rfl rfl ?_
  refine k_iconst (v := nI 2) dL_873 (by decide) ?_
  refine k_iadd dL_874 ?_
  refine k_sld (in_sc hi (by omega) hL) dL_875 ?_
  have hb := both_seen (g := 100000) (by omega) h hn (xs (nI i + nI 1).toNatClampNeg) (xs (nI i + nI 2).toNatClampNeg)
  obtain ⟨r, e1, e2⟩ := hb
  refine k_cv (q := (RX8, TX8, 7)) (As := [.int (xs (nI i + nI 1).toNatClampNeg), .int (xs (nI i + nI 2).toNatClampNeg)]) 2 (cm_X8_seen l hX 100000 σ 0 L8_0 (xs (nI i + nI 1).toNatClampNeg) (xs (nI i + nI 2).toNatClampNeg) e1) gL_law_X8_seen rfl ⟨rfl, rfl⟩ hd_X8_seen ⟨Nat.le_of_ble_eq_true rfl, Nat.le_of_ble_eq_true rfl⟩ hk (lay_lt L8_0.1 (by decide)) (ce_of L8_0.1) rfl rfl (Nat.le_of_ble_eq_true rfl) rfl dL_876 ?_
  refine k_aload_n (q := 2) dL_879 rfl rfl ?_
  refine k_aload_n (q := 0) dL_880 rfl rfl ?_
  refine k_iload_n (q := 3) dL_881 rfl rfl ?_
  refine k_iconst (v := nI 1) dL_882 (by decide) ?_
  refine k_iadd dL_883 ?_
  refine k_sld (in_sc hi (by omega) hL) dL_884 ?_
  refine k_aload_n (q := 0) dL_885 rfl rfl ?_
  refine k_iload_n (q := 3) dL_886 rfl rfl ?_
  refine k_iconst (v := nI 2) dL_887 (by decide) ?_
  refine k_iadd dL_888 ?_
  refine k_sld (in_sc hi (by omega) hL) dL_889 ?_
  refine k_cv (q := (RX9, TX9, 12)) (As := [.int (xs (nI i + nI 1).toNatClampNeg), .int (xs (nI i + nI 2).toNatClampNeg)]) 2 (cm_X9_seen l hX 100000 σ 334 L9_334 (xs (nI i + nI 1).toNatClampNeg) (xs (nI i + nI 2).toNatClampNeg) e2) gL_law_X9_seen rfl ⟨rfl, rfl⟩ hd_X9_seen ⟨Nat.le_of_ble_eq_true rfl, Nat.le_of_ble_eq_true rfl⟩ hk (lay_lt L9_334.1 (by decide)) (ce_of L9_334.1) rfl rfl (Nat.le_of_ble_eq_true rfl) rfl dL_890 ?_
  exact k_same (tgt := 1043) dL_893 (by decide) (k _ _ ⟨h.1, h.2.1, h.2.2.mono (Nat.le_succ n)⟩)
theorem lc_26 (l : Launch) {X : XT} (hX : XD X) {b L i n kc ks : Nat} {xs : Nat → Int32} {σ : Mem} {S : SS} (hk : kc ≤ 600000 ∧ ks ≤ 7302249) (hL : L ≤ 2048) (hi : i + 4 ≤ L) (hn : n < 1000000) (h : Both n σ S) (k : ∀ σ' S', Both (n + 1) σ' S' → WG X l mL (EL X b L xs) kc ks QL 1043 σ' (lvL X b i) []) : WG X l mL (EL X b L xs) kc ks QL 898 σ (lvL X b i) [] := by
  refine k_aload_n (q := 1) dL_898 rfl rfl ?_
  refine k_aload_n (q := 0) dL_899 rfl rfl ?_
  refine k_iload_n (q := 3) dL_900 rfl rfl ?_
  refine k_iconst (v := nI 1) dL_901 (by decide) ?_
  refine k_iadd dL_902 ?_
  refine k_sld (in_sc hi (by omega) hL) dL_903 ?_
  refine k_aload_n (q := 0) dL_904 rfl rfl ?_
  refine k_iload_n (q := 3) dL_905 rfl rfl ?_
  refine k_iconst (v := nI 2) dL_906 (by decide) ?_
  refine k_iadd dL_907 ?_
  refine k_sld (in_sc hi (by omega) hL) dL_908 ?_
  have hb := both_witness (g := 100000) (by omega) h hn (xs (nI i + nI 1).toNatClampNeg) (xs (nI i + nI 2).toNatClampNeg)
  obtain ⟨r, e1, e2⟩ := hb
  refine k_cv (q := (RX8, TX8, 7)) (As := [.int (xs (nI i + nI 1).toNatClampNeg), .int (xs (nI i + nI 2).toNatClampNeg)]) 2 (cm_X8_witness l hX 100000 σ 0 L8_0 (xs (nI i + nI 1).toNatClampNeg) (xs (nI i + nI 2).toNatClampNeg) e1) gL_law_X8_witness rfl ⟨rfl, rfl⟩ hd_X8_witness ⟨Nat.le_of_ble_eq_true rfl, Nat.le_of_ble_eq_true rfl⟩ hk (lay_lt L8_0.1 (by decide)) (ce_of L8_0.1) rfl rfl (Nat.le_of_ble_eq_true rfl) rfl dL_909 ?_
  refine k_aload_n (q := 2) dL_912 rfl rfl ?_
  refine k_aload_n (q := 0) dL_913 rfl rfl ?_
  refine k_iload_n (q := 3) dL_914 rfl rfl ?_
  refine k_iconst (v := nI 1) dL_915 (by decide) ?_
  refine k_iadd dL_916 ?_
  refine k_sld (in_sc hi (by omega) hL) dL_917 ?_
  refine k_aload_n (q := 0) dL_918 rfl rfl ?_
  refine k_iload_n (q := 3) dL_919 rfl rfl ?_
  refine k_iconst (v := nI 2) dL_920 (by decide) ?_
  refine k_iadd dL_921 ?_
  refine k_sld (in_sc hi (by omega) hL) dL_922 ?_
  refine k_cv (q := (RX9, TX9, 12)) (As := [.int (xs (nI i + nI 1).toNatClampNeg), .int (xs (nI i + nI 2).toNatClampNeg)]) 2 (cm_X9_witness l hX 100000 σ 334 L9_334 (xs (nI i + nI 1).toNatClampNeg) (xs (nI i + nI 2).toNatClampNeg) e2) gL_law_X9_witness rfl ⟨rfl, rfl⟩ hd_X9_witness ⟨Nat.le_of_ble_eq_true rfl, Nat.le_of_ble_eq_true rfl⟩ hk (lay_lt L9_334.1 (by decide)) (ce_of L9_334.1) rfl rfl (Nat.le_of_ble_eq_true rfl) rfl dL_923 ?_
  exact k_same (tgt := 1043) dL_926 (by decide) (k _ _ ⟨h.1, h.2.1, h.2.2.mono (Nat.le_succ n)⟩)
theorem lc_27 (l : Launch) {X : XT} (hX : XD X) {b L i n kc ks : Nat} {xs : Nat → Int32} {σ : Mem} {S : SS} (hk : kc ≤ 600000 ∧ ks ≤ 7302249) (hL : L ≤ 2048) (hi : i + 4 ≤ L) (hn : n < 1000000) (h : Both n σ S) (k : ∀ σ' S', Both (n + 1) σ' S' → WG X l mL (EL X b L xs) kc ks QL 1043 σ' (lvL X b i) []) : WG X l mL (EL X b L xs) kc ks QL 931 σ (lvL X b i) [] := by
  refine k_aload_n (q := 1) dL_931 rfl rfl ?_
  refine k_aload_n (q := 0) dL_932 rfl rfl ?_
  refine k_iload_n (q := 3) dL_933 rfl rfl ?_
  refine k_iconst (v := nI 1) dL_934 (by decide) ?_
  refine k_iadd dL_935 ?_
  refine k_sld (in_sc hi (by omega) hL) dL_936 ?_
  refine k_aload_n (q := 0) dL_937 rfl rfl ?_
  refine k_iload_n (q := 3) dL_938 rfl rfl ?_
  refine k_iconst (v := nI 2) dL_939 (by decide) ?_
  refine k_iadd dL_940 ?_
  refine k_sld (in_sc hi (by omega) hL) dL_941 ?_
  have hb := both_saw (g := 100000) (by omega) h hn (xs (nI i + nI 1).toNatClampNeg) (xs (nI i + nI 2).toNatClampNeg)
  obtain ⟨r, e1, e2⟩ := hb
  refine k_cv (q := (RX8, TX8, 7)) (As := [.int (xs (nI i + nI 1).toNatClampNeg), .int (xs (nI i + nI 2).toNatClampNeg)]) 2 (cm_X8_saw l hX 100000 σ 0 L8_0 (xs (nI i + nI 1).toNatClampNeg) (xs (nI i + nI 2).toNatClampNeg) e1) gL_law_X8_saw rfl ⟨rfl, rfl⟩ hd_X8_saw ⟨Nat.le_of_ble_eq_true rfl, Nat.le_of_ble_eq_true rfl⟩ hk (lay_lt L8_0.1 (by decide)) (ce_of L8_0.1) rfl rfl (Nat.le_of_ble_eq_true rfl) rfl dL_942 ?_
  refine k_aload_n (q := 2) dL_945 rfl rfl ?_
  refine k_aload_n (q := 0) dL_946 rfl rfl ?_
  refine k_iload_n (q := 3) dL_947 rfl rfl ?_
  refine k_iconst (v := nI 1) dL_948 (by decide) ?_
  refine k_iadd dL_949 ?_
  refine k_sld (in_sc hi (by omega) hL) dL_950 ?_
  refine k_aload_n (q := 0) dL_951 rfl rfl ?_
  refine k_iload_n (q := 3) dL_952 rfl rfl ?_
  refine k_iconst (v := nI 2) dL_953 (by decide) ?_
  refine k_iadd dL_954 ?_
  refine k_sld (in_sc hi (by omega) hL) dL_955 ?_
  refine k_cv (q := (RX9, TX9, 12)) (As := [.int (xs (nI i + nI 1).toNatClampNeg), .int (xs (nI i + nI 2).toNatClampNeg)]) 2 (cm_X9_saw l hX 100000 σ 334 L9_334 (xs (nI i + nI 1).toNatClampNeg) (xs (nI i + nI 2).toNatClampNeg) e2) gL_law_X9_saw rfl ⟨rfl, rfl⟩ hd_X9_saw ⟨Nat.le_of_ble_eq_true rfl, Nat.le_of_ble_eq_true rfl⟩ hk (lay_lt L9_334.1 (by decide)) (ce_of L9_334.1) rfl rfl (Nat.le_of_ble_eq_true rfl) rfl dL_956 ?_
  exact k_same (tgt := 1043) dL_959 (by decide) (k _ _ ⟨h.1, h.2.1, h.2.2.mono (Nat.le_succ n)⟩)
theorem lc_28 (l : Launch) {X : XT} (hX : XD X) {b L i n kc ks : Nat} {xs : Nat → Int32} {σ : Mem} {S : SS} (hk : kc ≤ 600000 ∧ ks ≤ 7302249) (hL : L ≤ 2048) (hi : i + 4 ≤ L) (hn : n < 1000000) (h : Both n σ S) (k : ∀ σ' S', Both (n + 1) σ' S' → WG X l mL (EL X b L xs) kc ks QL 1043 σ' (lvL X b i) []) : WG X l mL (EL X b L xs) kc ks QL 964 σ (lvL X b i) [] := by
  refine k_aload_n (q := 1) dL_964 rfl rfl ?_
  refine k_aload_n (q := 0) dL_965 rfl rfl ?_
  refine k_iload_n (q := 3) dL_966 rfl rfl ?_
  refine k_iconst (v := nI 1) dL_967 (by decide) ?_
  refine k_iadd dL_968 ?_
  refine k_sld (in_sc hi (by omega) hL) dL_969 ?_
  refine k_aload_n (q := 0) dL_970 rfl rfl ?_
  refine k_iload_n (q := 3) dL_971 rfl rfl ?_
  refine k_iconst (v := nI 2) dL_972 (by decide) ?_
  refine k_iadd dL_973 ?_
  refine k_sld (in_sc hi (by omega) hL) dL_974 ?_
  have hb := both_differ (g := 100000) (by omega) h hn (xs (nI i + nI 1).toNatClampNeg) (xs (nI i + nI 2).toNatClampNeg)
  obtain ⟨r, e1, e2⟩ := hb
  refine k_cv (q := (RX8, TX8, 7)) (As := [.int (xs (nI i + nI 1).toNatClampNeg), .int (xs (nI i + nI 2).toNatClampNeg)]) 2 (cm_X8_differ l hX 100000 σ 0 L8_0 (xs (nI i + nI 1).toNatClampNeg) (xs (nI i + nI 2).toNatClampNeg) e1) gL_law_X8_differ rfl ⟨rfl, rfl⟩ hd_X8_differ ⟨Nat.le_of_ble_eq_true rfl, Nat.le_of_ble_eq_true rfl⟩ hk (lay_lt L8_0.1 (by decide)) (ce_of L8_0.1) rfl rfl (Nat.le_of_ble_eq_true rfl) rfl dL_975 ?_
  refine k_aload_n (q := 2) dL_978 rfl rfl ?_
  refine k_aload_n (q := 0) dL_979 rfl rfl ?_
  refine k_iload_n (q := 3) dL_980 rfl rfl ?_
  refine k_iconst (v := nI 1) dL_981 (by decide) ?_
  refine k_iadd dL_982 ?_
  refine k_sld (in_sc hi (by omega) hL) dL_983 ?_
  refine k_aload_n (q := 0) dL_984 rfl rfl ?_
  refine k_iload_n (q := 3) dL_985 rfl rfl ?_
  refine k_iconst (v := nI 2) dL_986 (by decide) ?_
  refine k_iadd dL_987 ?_
  refine k_sld (in_sc hi (by omega) hL) dL_988 ?_
  refine k_cv (q := (RX9, TX9, 12)) (As := [.int (xs (nI i + nI 1).toNatClampNeg), .int (xs (nI i + nI 2).toNatClampNeg)]) 2 (cm_X9_differ l hX 100000 σ 334 L9_334 (xs (nI i + nI 1).toNatClampNeg) (xs (nI i + nI 2).toNatClampNeg) e2) gL_law_X9_differ rfl ⟨rfl, rfl⟩ hd_X9_differ ⟨Nat.le_of_ble_eq_true rfl, Nat.le_of_ble_eq_true rfl⟩ hk (lay_lt L9_334.1 (by decide)) (ce_of L9_334.1) rfl rfl (Nat.le_of_ble_eq_true rfl) rfl dL_989 ?_
  exact k_same (tgt := 1043) dL_992 (by decide) (k _ _ ⟨h.1, h.2.1, h.2.2.mono (Nat.le_succ n)⟩)
theorem lc_29 (l : Launch) {X : XT} (hX : XD X) {b L i n kc ks : Nat} {xs : Nat → Int32} {σ : Mem} {S : SS} (hk : kc ≤ 600000 ∧ ks ≤ 7302249) (hL : L ≤ 2048) (hi : i + 4 ≤ L) (hn : n < 1000000) (h : Both n σ S) (k : ∀ σ' S', Both (n + 1) σ' S' → WG X l mL (EL X b L xs) kc ks QL 1043 σ' (lvL X b i) []) : WG X l mL (EL X b L xs) kc ks QL 997 σ (lvL X b i) [] := by
  refine k_aload_n (q := 1) dL_997 rfl rfl ?_
  refine k_aload_n (q := 0) dL_998 rfl rfl ?_
  refine k_iload_n (q := 3) dL_999 rfl rfl ?_
  refine k_iconst (v := nI 1) dL_1000 (by decide) ?_
  refine k_iadd dL_1001 ?_
  refine k_sld (in_sc hi (by omega) hL) dL_1002 ?_
  have hb := both_next (g := 100000) (by omega) h hn (xs (nI i + nI 1).toNatClampNeg)
  obtain ⟨r, σ1, σ2, S', e1, e2, hB⟩ := hb
  refine k_cv (q := (RX8, TX8, 7)) (As := [.int (xs (nI i + nI 1).toNatClampNeg)]) 1 (cm_X8_next l hX 100000 σ 0 L8_0 (xs (nI i + nI 1).toNatClampNeg) e1) gL_law_X8_next rfl ⟨rfl, rfl⟩ hd_X8_next ⟨Nat.le_of_ble_eq_true rfl, Nat.le_of_ble_eq_true rfl⟩ hk (lay_lt L8_0.1 (by decide)) (ce_of L8_0.1) rfl rfl (Nat.le_of_ble_eq_true rfl) rfl dL_1003 ?_
  refine k_aload_n (q := 2) dL_1006 rfl rfl ?_
  refine k_aload_n (q := 0) dL_1007 rfl rfl ?_
  refine k_iload_n (q := 3) dL_1008 rfl rfl ?_
  refine k_iconst (v := nI 1) dL_1009 (by decide) ?_
  refine k_iadd dL_1010 ?_
  refine k_sld (in_sc hi (by omega) hL) dL_1011 ?_
  refine k_cv (q := (RX9, TX9, 12)) (As := [.int (xs (nI i + nI 1).toNatClampNeg)]) 1 (cm_X9_next l hX 100000 σ1 334 L9_334 (xs (nI i + nI 1).toNatClampNeg) e2) gL_law_X9_next rfl ⟨rfl, rfl⟩ hd_X9_next ⟨Nat.le_of_ble_eq_true rfl, Nat.le_of_ble_eq_true rfl⟩ hk (lay_lt L9_334.1 (by decide)) (ce_of L9_334.1) rfl rfl (Nat.le_of_ble_eq_true rfl) rfl dL_1012 ?_
  exact k_same (tgt := 1043) dL_1015 (by decide) (k _ _ hB)
theorem lc_30 (l : Launch) {X : XT} (hX : XD X) {b L i n kc ks : Nat} {xs : Nat → Int32} {σ : Mem} {S : SS} (hk : kc ≤ 600000 ∧ ks ≤ 7302249) (hL : L ≤ 2048) (hi : i + 4 ≤ L) (hn : n < 1000000) (h : Both n σ S) (k : ∀ σ' S', Both (n + 1) σ' S' → WG X l mL (EL X b L xs) kc ks QL 1043 σ' (lvL X b i) []) : WG X l mL (EL X b L xs) kc ks QL 1020 σ (lvL X b i) [] := by
  refine k_aload_n (q := 1) dL_1020 rfl rfl ?_
  refine k_aload_n (q := 0) dL_1021 rfl rfl ?_
  refine k_iload_n (q := 3) dL_1022 rfl rfl ?_
  refine k_iconst (v := nI 1) dL_1023 (by decide) ?_
  refine k_iadd dL_1024 ?_
  refine k_sld (in_sc hi (by omega) hL) dL_1025 ?_
  have hb := both_count (g := 100000) (by omega) h hn (xs (nI i + nI 1).toNatClampNeg)
  obtain ⟨r, e1, e2⟩ := hb
  refine k_cv (q := (RX8, TX8, 7)) (As := [.int (xs (nI i + nI 1).toNatClampNeg)]) 1 (cm_X8_count l hX 100000 σ 0 L8_0 (xs (nI i + nI 1).toNatClampNeg) e1) gL_law_X8_count rfl ⟨rfl, rfl⟩ hd_X8_count ⟨Nat.le_of_ble_eq_true rfl, Nat.le_of_ble_eq_true rfl⟩ hk (lay_lt L8_0.1 (by decide)) (ce_of L8_0.1) rfl rfl (Nat.le_of_ble_eq_true rfl) rfl dL_1026 ?_
  refine k_aload_n (q := 2) dL_1029 rfl rfl ?_
  refine k_aload_n (q := 0) dL_1030 rfl rfl ?_
  refine k_iload_n (q := 3) dL_1031 rfl rfl ?_
  refine k_iconst (v := nI 1) dL_1032 (by decide) ?_
  refine k_iadd dL_1033 ?_
  refine k_sld (in_sc hi (by omega) hL) dL_1034 ?_
  refine k_cv (q := (RX9, TX9, 12)) (As := [.int (xs (nI i + nI 1).toNatClampNeg)]) 1 (cm_X9_count l hX 100000 σ 334 L9_334 (xs (nI i + nI 1).toNatClampNeg) e2) gL_law_X9_count rfl ⟨rfl, rfl⟩ hd_X9_count ⟨Nat.le_of_ble_eq_true rfl, Nat.le_of_ble_eq_true rfl⟩ hk (lay_lt L9_334.1 (by decide)) (ce_of L9_334.1) rfl rfl (Nat.le_of_ble_eq_true rfl) rfl dL_1035 ?_
  exact k_same (tgt := 1043) dL_1038 (by decide) (k _ _ ⟨h.1, h.2.1, h.2.2.mono (Nat.le_succ n)⟩)
theorem lp_on {i L : Nat} (h : i + 4 ≤ L) (hL : L ≤ 2048) : ¬ nI L - nI 4 < nI i := by
  rw [nI_S (by omega)]
  exact fun z => by have := (nI_LT (by omega) (by omega)).1 z; omega
theorem lp_end {i L : Nat} (h : L < i + 4) (hL : L ≤ 2048) (hi : i < 1000000) : nI L - nI 4 < nI i := by
  by_cases c : 4 ≤ L
  · rw [nI_S c]; exact (nI_LT (by omega) (by omega)).2 (by omega)
  · obtain h1 | h1 | h1 | h1 : L = 0 ∨ L = 1 ∨ L = 2 ∨ L = 3 := by omega
    all_goals
      rw [Int32.lt_iff_toInt_lt, nI_toInt (by omega), h1]
      have : ∀ k, k < 4 → (nI k - nI 4).toInt < 0 := by decide
      have := this _ (by omega : L < 4)
      rw [h1] at this
      omega
/-- one step of the loop's body -/
theorem lc_all (l : Launch) {X : XT} (hX : XD X) {b L i n kc ks : Nat} {xs : Nat → Int32} {σ : Mem} {S : SS} (hk : kc ≤ 600000 ∧ ks ≤ 7302249) (hL : L ≤ 2048) (hi : i + 4 ≤ L) (hn : n < 1000000) (h : Both n σ S) (k : ∀ σ' S', Both (n + 1) σ' S' → WG X l mL (EL X b L xs) kc ks QL 1043 σ' (lvL X b i) []) : WG X l mL (EL X b L xs) kc ks QL 26 σ (lvL X b i) [] := by
  refine k_aload_n (q := 0) dL_26 rfl rfl ?_
  refine k_iload_n (q := 3) dL_27 rfl rfl ?_
  refine k_sld (fun q => q.elim (nI_pos (by omega)) (fun q2 => by rw [nI_c (by omega)] at q2; omega)) dL_28 ?_
  refine k_bipush (v := nI 31) dL_29 (by decide) ?_
  refine k_iand dL_31 ?_
  obtain ⟨c, hc, e⟩ := pk_andE (xs (nI i).toNatClampNeg) (m := nI 31) 5 (by decide)
  rw [e]
  rcases (by omega : c = 0 ∨ c = 1 ∨ c = 2 ∨ c = 3 ∨ c = 4 ∨ c = 5 ∨ c = 6 ∨ c = 7 ∨ c = 8 ∨ c = 9 ∨ c = 10 ∨ c = 11 ∨ c = 12 ∨ c = 13 ∨ c = 14 ∨ c = 15 ∨ c = 16 ∨ c = 17 ∨ c = 18 ∨ c = 19 ∨ c = 20 ∨ c = 21 ∨ c = 22 ∨ c = 23 ∨ c = 24 ∨ c = 25 ∨ c = 26 ∨ c = 27 ∨ c = 28 ∨ c = 29 ∨ c = 30 ∨ c = 31) with rfl | rfl | rfl | rfl | rfl | rfl | rfl | rfl | rfl | rfl | rfl | rfl | rfl | rfl | rfl | rfl | rfl | rfl | rfl | rfl | rfl | rfl | rfl | rfl | rfl | rfl | rfl | rfl | rfl | rfl | rfl | rfl
  · exact k_tabIn (tgt := 172) (off := 140) dL_32 (by decide) (by decide) (by decide +kernel) (by decide) (lc_0 l hX hk hL hi hn h k)
  · exact k_tabIn (tgt := 205) (off := 173) dL_32 (by decide) (by decide) (by decide +kernel) (by decide) (lc_1 l hX hk hL hi hn h k)
  · exact k_tabIn (tgt := 228) (off := 196) dL_32 (by decide) (by decide) (by decide +kernel) (by decide) (lc_2 l hX hk hL hi hn h k)
  · exact k_tabIn (tgt := 251) (off := 219) dL_32 (by decide) (by decide) (by decide +kernel) (by decide) (lc_3 l hX hk hL hi hn h k)
  · exact k_tabIn (tgt := 274) (off := 242) dL_32 (by decide) (by decide) (by decide +kernel) (by decide) (lc_4 l hX hk hL hi hn h k)
  · exact k_tabIn (tgt := 307) (off := 275) dL_32 (by decide) (by decide) (by decide +kernel) (by decide) (lc_5 l hX hk hL hi hn h k)
  · exact k_tabIn (tgt := 340) (off := 308) dL_32 (by decide) (by decide) (by decide +kernel) (by decide) (lc_6 l hX hk hL hi hn h k)
  · exact k_tabIn (tgt := 383) (off := 351) dL_32 (by decide) (by decide) (by decide +kernel) (by decide) (lc_7 l hX hk hL hi hn h k)
  · exact k_tabIn (tgt := 416) (off := 384) dL_32 (by decide) (by decide) (by decide +kernel) (by decide) (lc_8 l hX hk hL hi hn h k)
  · exact k_tabIn (tgt := 439) (off := 407) dL_32 (by decide) (by decide) (by decide +kernel) (by decide) (lc_9 l hX hk hL hi hn h k)
  · exact k_tabIn (tgt := 488) (off := 456) dL_32 (by decide) (by decide) (by decide +kernel) (by decide) (lc_10 l hX hk hL hi hn h k)
  · exact k_tabIn (tgt := 521) (off := 489) dL_32 (by decide) (by decide) (by decide +kernel) (by decide) (lc_11 l hX hk hL hi hn h k)
  · exact k_tabIn (tgt := 534) (off := 502) dL_32 (by decide) (by decide) (by decide +kernel) (by decide) (lc_12 l hX hk hL hi hn h k)
  · exact k_tabIn (tgt := 577) (off := 545) dL_32 (by decide) (by decide) (by decide +kernel) (by decide) (lc_13 l hX hk hL hi hn h k)
  · exact k_tabIn (tgt := 602) (off := 570) dL_32 (by decide) (by decide) (by decide +kernel) (by decide) (lc_14 l hX hk hL hi hn h k)
  · exact k_tabIn (tgt := 615) (off := 583) dL_32 (by decide) (by decide) (by decide +kernel) (by decide) (lc_15 l hX hk hL hi hn h k)
  · exact k_tabIn (tgt := 628) (off := 596) dL_32 (by decide) (by decide) (by decide +kernel) (by decide) (lc_16 l hX hk hL hi hn h k)
  · exact k_tabIn (tgt := 641) (off := 609) dL_32 (by decide) (by decide) (by decide +kernel) (by decide) (lc_17 l hX hk hL hi hn h k)
  · exact k_tabIn (tgt := 654) (off := 622) dL_32 (by decide) (by decide) (by decide +kernel) (by decide) (lc_18 l hX hk hL hi hn h k)
  · exact k_tabIn (tgt := 667) (off := 635) dL_32 (by decide) (by decide) (by decide +kernel) (by decide) (lc_19 l hX hk hL hi hn h k)
  · exact k_tabIn (tgt := 700) (off := 668) dL_32 (by decide) (by decide) (by decide +kernel) (by decide) (lc_20 l hX hk hL hi hn h k)
  · exact k_tabIn (tgt := 733) (off := 701) dL_32 (by decide) (by decide) (by decide +kernel) (by decide) (lc_21 l hX hk hL hi hn h k)
  · exact k_tabIn (tgt := 766) (off := 734) dL_32 (by decide) (by decide) (by decide +kernel) (by decide) (lc_22 l hX hk hL hi hn h k)
  · exact k_tabIn (tgt := 789) (off := 757) dL_32 (by decide) (by decide) (by decide +kernel) (by decide) (lc_23 l hX hk hL hi hn h k)
  · exact k_tabIn (tgt := 832) (off := 800) dL_32 (by decide) (by decide) (by decide +kernel) (by decide) (lc_24 l hX hk hL hi hn h k)
  · exact k_tabIn (tgt := 865) (off := 833) dL_32 (by decide) (by decide) (by decide +kernel) (by decide) (lc_25 l hX hk hL hi hn h k)
  · exact k_tabIn (tgt := 898) (off := 866) dL_32 (by decide) (by decide) (by decide +kernel) (by decide) (lc_26 l hX hk hL hi hn h k)
  · exact k_tabIn (tgt := 931) (off := 899) dL_32 (by decide) (by decide) (by decide +kernel) (by decide) (lc_27 l hX hk hL hi hn h k)
  · exact k_tabIn (tgt := 964) (off := 932) dL_32 (by decide) (by decide) (by decide +kernel) (by decide) (lc_28 l hX hk hL hi hn h k)
  · exact k_tabIn (tgt := 997) (off := 965) dL_32 (by decide) (by decide) (by decide +kernel) (by decide) (lc_29 l hX hk hL hi hn h k)
  · exact k_tabIn (tgt := 1020) (off := 988) dL_32 (by decide) (by decide) (by decide +kernel) (by decide) (lc_30 l hX hk hL hi hn h k)
  · exact k_tabOut (tgt := 1043) dL_32 (Or.inr (by decide)) (by decide) (k _ _ ⟨h.1, h.2.1, h.2.2.mono (Nat.le_succ n)⟩)
theorem lc_loop (l : Launch) {X : XT} (hX : XD X) {b L kc ks : Nat} {xs : Nat → Int32} (hk : kc ≤ 600000 ∧ ks ≤ 7302249) (hL : L ≤ 2048) : ∀ f i n σ S, L < i + f → i ≤ L + 4 → n + f < 1000000 → Both n σ S → WG X l mL (EL X b L xs) kc ks QL 18 σ (lvL X b i) [] := by
  intro f
  induction f with
  | zero =>
    intro i n σ S h1 h2 h3 h
    refine k_iload_n (q := 3) dL_18 rfl rfl ?_
    refine k_aload_n (q := 0) dL_19 rfl rfl ?_
    refine k_slen dL_20 ?_
    refine k_iconst (v := nI 4) dL_21 (by decide) ?_
    refine k_isub dL_22 ?_
    refine k_icmp_gt (tgt := 1049) (A := some ()) (B := none) (z := ()) dL_23 (by decide) (if_pos (lp_end (by omega) hL (by omega))) (fun _ => ?_) (fun z => by cases z)
    refine k_iconst (v := 1) dL_1049 (by decide) ?_
    exact k_lend hk dL_1050
  | succ f ih =>
    intro i n σ S h1 h2 h3 h
    refine k_iload_n (q := 3) dL_18 rfl rfl ?_
    refine k_aload_n (q := 0) dL_19 rfl rfl ?_
    refine k_slen dL_20 ?_
    refine k_iconst (v := nI 4) dL_21 (by decide) ?_
    refine k_isub dL_22 ?_
    by_cases c : i + 4 ≤ L
    · refine k_icmp_gt (tgt := 1049) (A := none) (B := some ()) (z := ()) dL_23 (by decide) (if_neg (lp_on c hL)) (fun z => by cases z) (fun _ => ?_)
      refine lc_all l hX hk hL c (by omega) h (fun σ' S' h' => ?_)
      refine k_iinc (q := 3) (v := nI (i + 4)) (lv' := [(3, .int (nI (i + 4))), (0, .ref b), (1, .ref (xad X 0)), (2, .ref (xad X 334))]) dL_1043 rfl (nI_A) (by decide) rfl ?_
      refine k_goto (tgt := 18) dL_1046 (by decide) ?_
      refine k_sub (ks' := [1, 2, 3, 0]) rfl ?_
      exact ih (i + 4) (n + 1) σ' S' (by omega) (by omega) (by omega) h'
    · refine k_icmp_gt (tgt := 1049) (A := some ()) (B := none) (z := ()) dL_23 (by decide) (if_pos (lp_end (by omega) hL (by omega))) (fun _ => ?_) (fun z => by cases z)
      refine k_iconst (v := 1) dL_1049 (by decide) ?_
      exact k_lend hk dL_1050
