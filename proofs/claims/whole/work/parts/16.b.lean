/-! ===== the law: words and decoded rows ===== -/
theorem dL_0 : decode code 0 = .ok (.new 7, 3) := by decide +kernel
theorem dL_3 : decode code 3 = .ok (.dup, 1) := by decide +kernel
theorem dL_4 : decode code 4 = .ok (.invokespecial 9, 3) := by decide +kernel
theorem dL_7 : decode code 7 = .ok (.astore_n 1, 1) := by decide +kernel
theorem dL_8 : decode code 8 = .ok (.new 10, 3) := by decide +kernel
theorem dL_11 : decode code 11 = .ok (.dup, 1) := by decide +kernel
theorem dL_12 : decode code 12 = .ok (.invokespecial 12, 3) := by decide +kernel
theorem dL_15 : decode code 15 = .ok (.astore_n 2, 1) := by decide +kernel
theorem dL_16 : decode code 16 = .ok (.iconst 0, 1) := by decide +kernel
theorem dL_17 : decode code 17 = .ok (.istore_n 3, 1) := by decide +kernel
theorem dL_18 : decode code 18 = .ok (.iload_n 3, 1) := by decide +kernel
theorem dL_19 : decode code 19 = .ok (.aload_n 0, 1) := by decide +kernel
theorem dL_20 : decode code 20 = .ok (.arraylength, 1) := by decide +kernel
theorem dL_21 : decode code 21 = .ok (.iconst 5, 1) := by decide +kernel
theorem dL_22 : decode code 22 = .ok (.isub, 1) := by decide +kernel
theorem dL_23 : decode code 23 = .ok (.if_icmp .gt 867, 3) := by decide +kernel
theorem dL_26 : decode code 26 = .ok (.aload_n 0, 1) := by decide +kernel
theorem dL_27 : decode code 27 = .ok (.iload_n 3, 1) := by decide +kernel
theorem dL_28 : decode code 28 = .ok (.iaload, 1) := by decide +kernel
theorem dL_29 : decode code 29 = .ok (.bipush 31, 2) := by decide +kernel
theorem dL_31 : decode code 31 = .ok (.iand, 1) := by decide +kernel
theorem dL_32 : decode code 32 = .ok (.tableswitch 852 0 28 #[132, 155, 168, 201, 234, 267, 290, 323, 367, 390, 413, 426, 439, 462, 475, 508, 531, 544, 598, 631, 654, 687, 710, 734, 747, 760, 803, 816, 829], 132) := by decide +kernel
theorem dL_164 : decode code 164 = .ok (.aload_n 1, 1) := by decide +kernel
theorem dL_165 : decode code 165 = .ok (.aload_n 0, 1) := by decide +kernel
theorem dL_166 : decode code 166 = .ok (.iload_n 3, 1) := by decide +kernel
theorem dL_167 : decode code 167 = .ok (.iconst 1, 1) := by decide +kernel
theorem dL_168 : decode code 168 = .ok (.iadd, 1) := by decide +kernel
theorem dL_169 : decode code 169 = .ok (.iaload, 1) := by decide +kernel
theorem dL_170 : decode code 170 = .ok (.invokevirtual 13, 3) := by decide +kernel
theorem dL_173 : decode code 173 = .ok (.aload_n 2, 1) := by decide +kernel
theorem dL_174 : decode code 174 = .ok (.aload_n 0, 1) := by decide +kernel
theorem dL_175 : decode code 175 = .ok (.iload_n 3, 1) := by decide +kernel
theorem dL_176 : decode code 176 = .ok (.iconst 1, 1) := by decide +kernel
theorem dL_177 : decode code 177 = .ok (.iadd, 1) := by decide +kernel
theorem dL_178 : decode code 178 = .ok (.iaload, 1) := by decide +kernel
theorem dL_179 : decode code 179 = .ok (.invokevirtual 17, 3) := by decide +kernel
theorem dL_182 : decode code 182 = .ok (.if_icmp .eq 702, 3) := by decide +kernel
theorem dL_185 : decode code 185 = .ok (.iconst 0, 1) := by decide +kernel
theorem dL_186 : decode code 186 = .ok (.ireturn, 1) := by decide +kernel
theorem dL_187 : decode code 187 = .ok (.aload_n 1, 1) := by decide +kernel
theorem dL_188 : decode code 188 = .ok (.invokevirtual 18, 3) := by decide +kernel
theorem dL_191 : decode code 191 = .ok (.aload_n 2, 1) := by decide +kernel
theorem dL_192 : decode code 192 = .ok (.invokevirtual 22, 3) := by decide +kernel
theorem dL_195 : decode code 195 = .ok (.if_icmp .eq 689, 3) := by decide +kernel
theorem dL_198 : decode code 198 = .ok (.iconst 0, 1) := by decide +kernel
theorem dL_199 : decode code 199 = .ok (.ireturn, 1) := by decide +kernel
theorem dL_200 : decode code 200 = .ok (.aload_n 1, 1) := by decide +kernel
theorem dL_201 : decode code 201 = .ok (.aload_n 0, 1) := by decide +kernel
theorem dL_202 : decode code 202 = .ok (.iload_n 3, 1) := by decide +kernel
theorem dL_203 : decode code 203 = .ok (.iconst 1, 1) := by decide +kernel
theorem dL_204 : decode code 204 = .ok (.iadd, 1) := by decide +kernel
theorem dL_205 : decode code 205 = .ok (.iaload, 1) := by decide +kernel
theorem dL_206 : decode code 206 = .ok (.aload_n 0, 1) := by decide +kernel
theorem dL_207 : decode code 207 = .ok (.iload_n 3, 1) := by decide +kernel
theorem dL_208 : decode code 208 = .ok (.iconst 2, 1) := by decide +kernel
theorem dL_209 : decode code 209 = .ok (.iadd, 1) := by decide +kernel
theorem dL_210 : decode code 210 = .ok (.iaload, 1) := by decide +kernel
theorem dL_211 : decode code 211 = .ok (.invokevirtual 23, 3) := by decide +kernel
theorem dL_214 : decode code 214 = .ok (.aload_n 2, 1) := by decide +kernel
theorem dL_215 : decode code 215 = .ok (.aload_n 0, 1) := by decide +kernel
theorem dL_216 : decode code 216 = .ok (.iload_n 3, 1) := by decide +kernel
theorem dL_217 : decode code 217 = .ok (.iconst 1, 1) := by decide +kernel
theorem dL_218 : decode code 218 = .ok (.iadd, 1) := by decide +kernel
theorem dL_219 : decode code 219 = .ok (.iaload, 1) := by decide +kernel
theorem dL_220 : decode code 220 = .ok (.aload_n 0, 1) := by decide +kernel
theorem dL_221 : decode code 221 = .ok (.iload_n 3, 1) := by decide +kernel
theorem dL_222 : decode code 222 = .ok (.iconst 2, 1) := by decide +kernel
theorem dL_223 : decode code 223 = .ok (.iadd, 1) := by decide +kernel
theorem dL_224 : decode code 224 = .ok (.iaload, 1) := by decide +kernel
theorem dL_225 : decode code 225 = .ok (.invokevirtual 27, 3) := by decide +kernel
theorem dL_228 : decode code 228 = .ok (.if_icmp .eq 656, 3) := by decide +kernel
theorem dL_231 : decode code 231 = .ok (.iconst 0, 1) := by decide +kernel
theorem dL_232 : decode code 232 = .ok (.ireturn, 1) := by decide +kernel
theorem dL_233 : decode code 233 = .ok (.aload_n 1, 1) := by decide +kernel
theorem dL_234 : decode code 234 = .ok (.aload_n 0, 1) := by decide +kernel
theorem dL_235 : decode code 235 = .ok (.iload_n 3, 1) := by decide +kernel
theorem dL_236 : decode code 236 = .ok (.iconst 1, 1) := by decide +kernel
theorem dL_237 : decode code 237 = .ok (.iadd, 1) := by decide +kernel
theorem dL_238 : decode code 238 = .ok (.iaload, 1) := by decide +kernel
theorem dL_239 : decode code 239 = .ok (.aload_n 0, 1) := by decide +kernel
theorem dL_240 : decode code 240 = .ok (.iload_n 3, 1) := by decide +kernel
theorem dL_241 : decode code 241 = .ok (.iconst 2, 1) := by decide +kernel
theorem dL_242 : decode code 242 = .ok (.iadd, 1) := by decide +kernel
theorem dL_243 : decode code 243 = .ok (.iaload, 1) := by decide +kernel
theorem dL_244 : decode code 244 = .ok (.invokevirtual 28, 3) := by decide +kernel
theorem dL_247 : decode code 247 = .ok (.aload_n 2, 1) := by decide +kernel
theorem dL_248 : decode code 248 = .ok (.aload_n 0, 1) := by decide +kernel
theorem dL_249 : decode code 249 = .ok (.iload_n 3, 1) := by decide +kernel
theorem dL_250 : decode code 250 = .ok (.iconst 1, 1) := by decide +kernel
theorem dL_251 : decode code 251 = .ok (.iadd, 1) := by decide +kernel
theorem dL_252 : decode code 252 = .ok (.iaload, 1) := by decide +kernel
theorem dL_253 : decode code 253 = .ok (.aload_n 0, 1) := by decide +kernel
theorem dL_254 : decode code 254 = .ok (.iload_n 3, 1) := by decide +kernel
theorem dL_255 : decode code 255 = .ok (.iconst 2, 1) := by decide +kernel
theorem dL_256 : decode code 256 = .ok (.iadd, 1) := by decide +kernel
theorem dL_257 : decode code 257 = .ok (.iaload, 1) := by decide +kernel
theorem dL_258 : decode code 258 = .ok (.invokevirtual 31, 3) := by decide +kernel
theorem dL_261 : decode code 261 = .ok (.if_icmp .eq 623, 3) := by decide +kernel
theorem dL_264 : decode code 264 = .ok (.iconst 0, 1) := by decide +kernel
theorem dL_265 : decode code 265 = .ok (.ireturn, 1) := by decide +kernel
theorem dL_266 : decode code 266 = .ok (.aload_n 1, 1) := by decide +kernel
theorem dL_267 : decode code 267 = .ok (.aload_n 0, 1) := by decide +kernel
theorem dL_268 : decode code 268 = .ok (.iload_n 3, 1) := by decide +kernel
theorem dL_269 : decode code 269 = .ok (.iconst 1, 1) := by decide +kernel
theorem dL_270 : decode code 270 = .ok (.iadd, 1) := by decide +kernel
theorem dL_271 : decode code 271 = .ok (.iaload, 1) := by decide +kernel
theorem dL_272 : decode code 272 = .ok (.aload_n 0, 1) := by decide +kernel
theorem dL_273 : decode code 273 = .ok (.iload_n 3, 1) := by decide +kernel
theorem dL_274 : decode code 274 = .ok (.iconst 2, 1) := by decide +kernel
theorem dL_275 : decode code 275 = .ok (.iadd, 1) := by decide +kernel
theorem dL_276 : decode code 276 = .ok (.iaload, 1) := by decide +kernel
theorem dL_277 : decode code 277 = .ok (.invokevirtual 32, 3) := by decide +kernel
theorem dL_280 : decode code 280 = .ok (.aload_n 2, 1) := by decide +kernel
theorem dL_281 : decode code 281 = .ok (.aload_n 0, 1) := by decide +kernel
theorem dL_282 : decode code 282 = .ok (.iload_n 3, 1) := by decide +kernel
theorem dL_283 : decode code 283 = .ok (.iconst 1, 1) := by decide +kernel
theorem dL_284 : decode code 284 = .ok (.iadd, 1) := by decide +kernel
theorem dL_285 : decode code 285 = .ok (.iaload, 1) := by decide +kernel
theorem dL_286 : decode code 286 = .ok (.aload_n 0, 1) := by decide +kernel
theorem dL_287 : decode code 287 = .ok (.iload_n 3, 1) := by decide +kernel
theorem dL_288 : decode code 288 = .ok (.iconst 2, 1) := by decide +kernel
theorem dL_289 : decode code 289 = .ok (.iadd, 1) := by decide +kernel
theorem dL_290 : decode code 290 = .ok (.iaload, 1) := by decide +kernel
theorem dL_291 : decode code 291 = .ok (.invokevirtual 35, 3) := by decide +kernel
theorem dL_294 : decode code 294 = .ok (.if_icmp .eq 590, 3) := by decide +kernel
theorem dL_297 : decode code 297 = .ok (.iconst 0, 1) := by decide +kernel
theorem dL_298 : decode code 298 = .ok (.ireturn, 1) := by decide +kernel
theorem dL_299 : decode code 299 = .ok (.aload_n 1, 1) := by decide +kernel
theorem dL_300 : decode code 300 = .ok (.aload_n 0, 1) := by decide +kernel
theorem dL_301 : decode code 301 = .ok (.iload_n 3, 1) := by decide +kernel
theorem dL_302 : decode code 302 = .ok (.iconst 1, 1) := by decide +kernel
theorem dL_303 : decode code 303 = .ok (.iadd, 1) := by decide +kernel
theorem dL_304 : decode code 304 = .ok (.iaload, 1) := by decide +kernel
theorem dL_305 : decode code 305 = .ok (.invokevirtual 36, 3) := by decide +kernel
theorem dL_308 : decode code 308 = .ok (.aload_n 2, 1) := by decide +kernel
theorem dL_309 : decode code 309 = .ok (.aload_n 0, 1) := by decide +kernel
theorem dL_310 : decode code 310 = .ok (.iload_n 3, 1) := by decide +kernel
theorem dL_311 : decode code 311 = .ok (.iconst 1, 1) := by decide +kernel
theorem dL_312 : decode code 312 = .ok (.iadd, 1) := by decide +kernel
theorem dL_313 : decode code 313 = .ok (.iaload, 1) := by decide +kernel
theorem dL_314 : decode code 314 = .ok (.invokevirtual 39, 3) := by decide +kernel
theorem dL_317 : decode code 317 = .ok (.if_icmp .eq 567, 3) := by decide +kernel
theorem dL_320 : decode code 320 = .ok (.iconst 0, 1) := by decide +kernel
theorem dL_321 : decode code 321 = .ok (.ireturn, 1) := by decide +kernel
theorem dL_322 : decode code 322 = .ok (.aload_n 1, 1) := by decide +kernel
theorem dL_323 : decode code 323 = .ok (.aload_n 0, 1) := by decide +kernel
theorem dL_324 : decode code 324 = .ok (.iload_n 3, 1) := by decide +kernel
theorem dL_325 : decode code 325 = .ok (.iconst 1, 1) := by decide +kernel
theorem dL_326 : decode code 326 = .ok (.iadd, 1) := by decide +kernel
theorem dL_327 : decode code 327 = .ok (.iaload, 1) := by decide +kernel
theorem dL_328 : decode code 328 = .ok (.aload_n 0, 1) := by decide +kernel
theorem dL_329 : decode code 329 = .ok (.iload_n 3, 1) := by decide +kernel
theorem dL_330 : decode code 330 = .ok (.iconst 2, 1) := by decide +kernel
theorem dL_331 : decode code 331 = .ok (.iadd, 1) := by decide +kernel
theorem dL_332 : decode code 332 = .ok (.iaload, 1) := by decide +kernel
theorem dL_333 : decode code 333 = .ok (.invokevirtual 40, 3) := by decide +kernel
theorem dL_336 : decode code 336 = .ok (.aload_n 2, 1) := by decide +kernel
theorem dL_337 : decode code 337 = .ok (.aload_n 0, 1) := by decide +kernel
theorem dL_338 : decode code 338 = .ok (.iload_n 3, 1) := by decide +kernel
theorem dL_339 : decode code 339 = .ok (.iconst 1, 1) := by decide +kernel
theorem dL_340 : decode code 340 = .ok (.iadd, 1) := by decide +kernel
theorem dL_341 : decode code 341 = .ok (.iaload, 1) := by decide +kernel
theorem dL_342 : decode code 342 = .ok (.aload_n 0, 1) := by decide +kernel
theorem dL_343 : decode code 343 = .ok (.iload_n 3, 1) := by decide +kernel
theorem dL_344 : decode code 344 = .ok (.iconst 2, 1) := by decide +kernel
theorem dL_345 : decode code 345 = .ok (.iadd, 1) := by decide +kernel
theorem dL_346 : decode code 346 = .ok (.iaload, 1) := by decide +kernel
theorem dL_347 : decode code 347 = .ok (.invokevirtual 43, 3) := by decide +kernel
theorem dL_350 : decode code 350 = .ok (.if_icmp .eq 534, 3) := by decide +kernel
theorem dL_353 : decode code 353 = .ok (.iconst 0, 1) := by decide +kernel
theorem dL_354 : decode code 354 = .ok (.ireturn, 1) := by decide +kernel
theorem dL_355 : decode code 355 = .ok (.aload_n 1, 1) := by decide +kernel
theorem dL_356 : decode code 356 = .ok (.aload_n 0, 1) := by decide +kernel
theorem dL_357 : decode code 357 = .ok (.iload_n 3, 1) := by decide +kernel
theorem dL_358 : decode code 358 = .ok (.iconst 1, 1) := by decide +kernel
theorem dL_359 : decode code 359 = .ok (.iadd, 1) := by decide +kernel
theorem dL_360 : decode code 360 = .ok (.iaload, 1) := by decide +kernel
theorem dL_361 : decode code 361 = .ok (.aload_n 0, 1) := by decide +kernel
theorem dL_362 : decode code 362 = .ok (.iload_n 3, 1) := by decide +kernel
theorem dL_363 : decode code 363 = .ok (.iconst 2, 1) := by decide +kernel
theorem dL_364 : decode code 364 = .ok (.iadd, 1) := by decide +kernel
theorem dL_365 : decode code 365 = .ok (.iaload, 1) := by decide +kernel
theorem dL_366 : decode code 366 = .ok (.aload_n 0, 1) := by decide +kernel
theorem dL_367 : decode code 367 = .ok (.iload_n 3, 1) := by decide +kernel
theorem dL_368 : decode code 368 = .ok (.iconst 3, 1) := by decide +kernel
theorem dL_369 : decode code 369 = .ok (.iadd, 1) := by decide +kernel
theorem dL_370 : decode code 370 = .ok (.iaload, 1) := by decide +kernel
theorem dL_371 : decode code 371 = .ok (.invokevirtual 44, 3) := by decide +kernel
theorem dL_374 : decode code 374 = .ok (.aload_n 2, 1) := by decide +kernel
theorem dL_375 : decode code 375 = .ok (.aload_n 0, 1) := by decide +kernel
theorem dL_376 : decode code 376 = .ok (.iload_n 3, 1) := by decide +kernel
theorem dL_377 : decode code 377 = .ok (.iconst 1, 1) := by decide +kernel
theorem dL_378 : decode code 378 = .ok (.iadd, 1) := by decide +kernel
theorem dL_379 : decode code 379 = .ok (.iaload, 1) := by decide +kernel
theorem dL_380 : decode code 380 = .ok (.aload_n 0, 1) := by decide +kernel
theorem dL_381 : decode code 381 = .ok (.iload_n 3, 1) := by decide +kernel
theorem dL_382 : decode code 382 = .ok (.iconst 2, 1) := by decide +kernel
theorem dL_383 : decode code 383 = .ok (.iadd, 1) := by decide +kernel
theorem dL_384 : decode code 384 = .ok (.iaload, 1) := by decide +kernel
theorem dL_385 : decode code 385 = .ok (.aload_n 0, 1) := by decide +kernel
theorem dL_386 : decode code 386 = .ok (.iload_n 3, 1) := by decide +kernel
theorem dL_387 : decode code 387 = .ok (.iconst 3, 1) := by decide +kernel
theorem dL_388 : decode code 388 = .ok (.iadd, 1) := by decide +kernel
theorem dL_389 : decode code 389 = .ok (.iaload, 1) := by decide +kernel
theorem dL_390 : decode code 390 = .ok (.invokevirtual 48, 3) := by decide +kernel
theorem dL_393 : decode code 393 = .ok (.lcmp, 1) := by decide +kernel
theorem dL_394 : decode code 394 = .ok (.ifCond .eq 490, 3) := by decide +kernel
theorem dL_397 : decode code 397 = .ok (.iconst 0, 1) := by decide +kernel
theorem dL_398 : decode code 398 = .ok (.ireturn, 1) := by decide +kernel
theorem dL_399 : decode code 399 = .ok (.aload_n 1, 1) := by decide +kernel
theorem dL_400 : decode code 400 = .ok (.aload_n 0, 1) := by decide +kernel
theorem dL_401 : decode code 401 = .ok (.iload_n 3, 1) := by decide +kernel
theorem dL_402 : decode code 402 = .ok (.iconst 1, 1) := by decide +kernel
theorem dL_403 : decode code 403 = .ok (.iadd, 1) := by decide +kernel
theorem dL_404 : decode code 404 = .ok (.iaload, 1) := by decide +kernel
theorem dL_405 : decode code 405 = .ok (.invokevirtual 49, 3) := by decide +kernel
theorem dL_408 : decode code 408 = .ok (.aload_n 2, 1) := by decide +kernel
theorem dL_409 : decode code 409 = .ok (.aload_n 0, 1) := by decide +kernel
theorem dL_410 : decode code 410 = .ok (.iload_n 3, 1) := by decide +kernel
theorem dL_411 : decode code 411 = .ok (.iconst 1, 1) := by decide +kernel
theorem dL_412 : decode code 412 = .ok (.iadd, 1) := by decide +kernel
theorem dL_413 : decode code 413 = .ok (.iaload, 1) := by decide +kernel
theorem dL_414 : decode code 414 = .ok (.invokevirtual 52, 3) := by decide +kernel
theorem dL_417 : decode code 417 = .ok (.if_icmp .eq 467, 3) := by decide +kernel
theorem dL_420 : decode code 420 = .ok (.iconst 0, 1) := by decide +kernel
theorem dL_421 : decode code 421 = .ok (.ireturn, 1) := by decide +kernel
theorem dL_422 : decode code 422 = .ok (.aload_n 1, 1) := by decide +kernel
theorem dL_423 : decode code 423 = .ok (.aload_n 0, 1) := by decide +kernel
theorem dL_424 : decode code 424 = .ok (.iload_n 3, 1) := by decide +kernel
theorem dL_425 : decode code 425 = .ok (.iconst 1, 1) := by decide +kernel
theorem dL_426 : decode code 426 = .ok (.iadd, 1) := by decide +kernel
theorem dL_427 : decode code 427 = .ok (.iaload, 1) := by decide +kernel
theorem dL_428 : decode code 428 = .ok (.invokevirtual 53, 3) := by decide +kernel
theorem dL_431 : decode code 431 = .ok (.aload_n 2, 1) := by decide +kernel
theorem dL_432 : decode code 432 = .ok (.aload_n 0, 1) := by decide +kernel
theorem dL_433 : decode code 433 = .ok (.iload_n 3, 1) := by decide +kernel
theorem dL_434 : decode code 434 = .ok (.iconst 1, 1) := by decide +kernel
theorem dL_435 : decode code 435 = .ok (.iadd, 1) := by decide +kernel
theorem dL_436 : decode code 436 = .ok (.iaload, 1) := by decide +kernel
theorem dL_437 : decode code 437 = .ok (.invokevirtual 56, 3) := by decide +kernel
theorem dL_440 : decode code 440 = .ok (.if_icmp .eq 444, 3) := by decide +kernel
theorem dL_443 : decode code 443 = .ok (.iconst 0, 1) := by decide +kernel
theorem dL_444 : decode code 444 = .ok (.ireturn, 1) := by decide +kernel
theorem dL_445 : decode code 445 = .ok (.aload_n 1, 1) := by decide +kernel
theorem dL_446 : decode code 446 = .ok (.invokevirtual 57, 3) := by decide +kernel
theorem dL_449 : decode code 449 = .ok (.aload_n 2, 1) := by decide +kernel
theorem dL_450 : decode code 450 = .ok (.invokevirtual 60, 3) := by decide +kernel
theorem dL_453 : decode code 453 = .ok (.if_icmp .eq 431, 3) := by decide +kernel
theorem dL_456 : decode code 456 = .ok (.iconst 0, 1) := by decide +kernel
theorem dL_457 : decode code 457 = .ok (.ireturn, 1) := by decide +kernel
theorem dL_458 : decode code 458 = .ok (.aload_n 1, 1) := by decide +kernel
theorem dL_459 : decode code 459 = .ok (.invokevirtual 61, 3) := by decide +kernel
theorem dL_462 : decode code 462 = .ok (.aload_n 2, 1) := by decide +kernel
theorem dL_463 : decode code 463 = .ok (.invokevirtual 64, 3) := by decide +kernel
theorem dL_466 : decode code 466 = .ok (.if_icmp .eq 418, 3) := by decide +kernel
theorem dL_469 : decode code 469 = .ok (.iconst 0, 1) := by decide +kernel
theorem dL_470 : decode code 470 = .ok (.ireturn, 1) := by decide +kernel
theorem dL_471 : decode code 471 = .ok (.aload_n 1, 1) := by decide +kernel
theorem dL_472 : decode code 472 = .ok (.aload_n 0, 1) := by decide +kernel
theorem dL_473 : decode code 473 = .ok (.iload_n 3, 1) := by decide +kernel
theorem dL_474 : decode code 474 = .ok (.iconst 1, 1) := by decide +kernel
theorem dL_475 : decode code 475 = .ok (.iadd, 1) := by decide +kernel
theorem dL_476 : decode code 476 = .ok (.iaload, 1) := by decide +kernel
theorem dL_477 : decode code 477 = .ok (.invokevirtual 65, 3) := by decide +kernel
theorem dL_480 : decode code 480 = .ok (.aload_n 2, 1) := by decide +kernel
theorem dL_481 : decode code 481 = .ok (.aload_n 0, 1) := by decide +kernel
theorem dL_482 : decode code 482 = .ok (.iload_n 3, 1) := by decide +kernel
theorem dL_483 : decode code 483 = .ok (.iconst 1, 1) := by decide +kernel
theorem dL_484 : decode code 484 = .ok (.iadd, 1) := by decide +kernel
theorem dL_485 : decode code 485 = .ok (.iaload, 1) := by decide +kernel
theorem dL_486 : decode code 486 = .ok (.invokevirtual 68, 3) := by decide +kernel
theorem dL_489 : decode code 489 = .ok (.if_icmp .eq 395, 3) := by decide +kernel
theorem dL_492 : decode code 492 = .ok (.iconst 0, 1) := by decide +kernel
theorem dL_493 : decode code 493 = .ok (.ireturn, 1) := by decide +kernel
theorem dL_494 : decode code 494 = .ok (.aload_n 1, 1) := by decide +kernel
theorem dL_495 : decode code 495 = .ok (.invokevirtual 69, 3) := by decide +kernel
theorem dL_498 : decode code 498 = .ok (.aload_n 2, 1) := by decide +kernel
theorem dL_499 : decode code 499 = .ok (.invokevirtual 72, 3) := by decide +kernel
theorem dL_502 : decode code 502 = .ok (.if_icmp .eq 382, 3) := by decide +kernel
theorem dL_505 : decode code 505 = .ok (.iconst 0, 1) := by decide +kernel
theorem dL_506 : decode code 506 = .ok (.ireturn, 1) := by decide +kernel
theorem dL_507 : decode code 507 = .ok (.aload_n 1, 1) := by decide +kernel
theorem dL_508 : decode code 508 = .ok (.aload_n 0, 1) := by decide +kernel
theorem dL_509 : decode code 509 = .ok (.iload_n 3, 1) := by decide +kernel
theorem dL_510 : decode code 510 = .ok (.iconst 1, 1) := by decide +kernel
theorem dL_511 : decode code 511 = .ok (.iadd, 1) := by decide +kernel
theorem dL_512 : decode code 512 = .ok (.iaload, 1) := by decide +kernel
theorem dL_513 : decode code 513 = .ok (.aload_n 0, 1) := by decide +kernel
theorem dL_514 : decode code 514 = .ok (.iload_n 3, 1) := by decide +kernel
theorem dL_515 : decode code 515 = .ok (.iconst 2, 1) := by decide +kernel
theorem dL_516 : decode code 516 = .ok (.iadd, 1) := by decide +kernel
theorem dL_517 : decode code 517 = .ok (.iaload, 1) := by decide +kernel
theorem dL_518 : decode code 518 = .ok (.invokevirtual 73, 3) := by decide +kernel
theorem dL_521 : decode code 521 = .ok (.aload_n 2, 1) := by decide +kernel
theorem dL_522 : decode code 522 = .ok (.aload_n 0, 1) := by decide +kernel
theorem dL_523 : decode code 523 = .ok (.iload_n 3, 1) := by decide +kernel
theorem dL_524 : decode code 524 = .ok (.iconst 1, 1) := by decide +kernel
theorem dL_525 : decode code 525 = .ok (.iadd, 1) := by decide +kernel
theorem dL_526 : decode code 526 = .ok (.iaload, 1) := by decide +kernel
theorem dL_527 : decode code 527 = .ok (.aload_n 0, 1) := by decide +kernel
theorem dL_528 : decode code 528 = .ok (.iload_n 3, 1) := by decide +kernel
theorem dL_529 : decode code 529 = .ok (.iconst 2, 1) := by decide +kernel
theorem dL_530 : decode code 530 = .ok (.iadd, 1) := by decide +kernel
theorem dL_531 : decode code 531 = .ok (.iaload, 1) := by decide +kernel
theorem dL_532 : decode code 532 = .ok (.invokevirtual 76, 3) := by decide +kernel
theorem dL_535 : decode code 535 = .ok (.if_icmp .eq 349, 3) := by decide +kernel
theorem dL_538 : decode code 538 = .ok (.iconst 0, 1) := by decide +kernel
theorem dL_539 : decode code 539 = .ok (.ireturn, 1) := by decide +kernel
theorem dL_540 : decode code 540 = .ok (.aload_n 1, 1) := by decide +kernel
theorem dL_541 : decode code 541 = .ok (.aload_n 0, 1) := by decide +kernel
theorem dL_542 : decode code 542 = .ok (.iload_n 3, 1) := by decide +kernel
theorem dL_543 : decode code 543 = .ok (.iconst 1, 1) := by decide +kernel
theorem dL_544 : decode code 544 = .ok (.iadd, 1) := by decide +kernel
theorem dL_545 : decode code 545 = .ok (.iaload, 1) := by decide +kernel
theorem dL_546 : decode code 546 = .ok (.invokevirtual 77, 3) := by decide +kernel
theorem dL_549 : decode code 549 = .ok (.aload_n 2, 1) := by decide +kernel
theorem dL_550 : decode code 550 = .ok (.aload_n 0, 1) := by decide +kernel
theorem dL_551 : decode code 551 = .ok (.iload_n 3, 1) := by decide +kernel
theorem dL_552 : decode code 552 = .ok (.iconst 1, 1) := by decide +kernel
theorem dL_553 : decode code 553 = .ok (.iadd, 1) := by decide +kernel
theorem dL_554 : decode code 554 = .ok (.iaload, 1) := by decide +kernel
theorem dL_555 : decode code 555 = .ok (.invokevirtual 80, 3) := by decide +kernel
theorem dL_558 : decode code 558 = .ok (.if_icmp .eq 326, 3) := by decide +kernel
theorem dL_561 : decode code 561 = .ok (.iconst 0, 1) := by decide +kernel
theorem dL_562 : decode code 562 = .ok (.ireturn, 1) := by decide +kernel
theorem dL_563 : decode code 563 = .ok (.aload_n 1, 1) := by decide +kernel
theorem dL_564 : decode code 564 = .ok (.invokevirtual 81, 3) := by decide +kernel
theorem dL_567 : decode code 567 = .ok (.aload_n 2, 1) := by decide +kernel
theorem dL_568 : decode code 568 = .ok (.invokevirtual 84, 3) := by decide +kernel
theorem dL_571 : decode code 571 = .ok (.if_icmp .eq 313, 3) := by decide +kernel
theorem dL_574 : decode code 574 = .ok (.iconst 0, 1) := by decide +kernel
theorem dL_575 : decode code 575 = .ok (.ireturn, 1) := by decide +kernel
theorem dL_576 : decode code 576 = .ok (.aload_n 1, 1) := by decide +kernel
theorem dL_577 : decode code 577 = .ok (.aload_n 0, 1) := by decide +kernel
theorem dL_578 : decode code 578 = .ok (.iload_n 3, 1) := by decide +kernel
theorem dL_579 : decode code 579 = .ok (.iconst 1, 1) := by decide +kernel
theorem dL_580 : decode code 580 = .ok (.iadd, 1) := by decide +kernel
theorem dL_581 : decode code 581 = .ok (.iaload, 1) := by decide +kernel
theorem dL_582 : decode code 582 = .ok (.aload_n 0, 1) := by decide +kernel
theorem dL_583 : decode code 583 = .ok (.iload_n 3, 1) := by decide +kernel
theorem dL_584 : decode code 584 = .ok (.iconst 2, 1) := by decide +kernel
theorem dL_585 : decode code 585 = .ok (.iadd, 1) := by decide +kernel
theorem dL_586 : decode code 586 = .ok (.iaload, 1) := by decide +kernel
theorem dL_587 : decode code 587 = .ok (.aload_n 0, 1) := by decide +kernel
theorem dL_588 : decode code 588 = .ok (.iload_n 3, 1) := by decide +kernel
theorem dL_589 : decode code 589 = .ok (.iconst 3, 1) := by decide +kernel
theorem dL_590 : decode code 590 = .ok (.iadd, 1) := by decide +kernel
theorem dL_591 : decode code 591 = .ok (.iaload, 1) := by decide +kernel
theorem dL_592 : decode code 592 = .ok (.aload_n 0, 1) := by decide +kernel
theorem dL_593 : decode code 593 = .ok (.iload_n 3, 1) := by decide +kernel
theorem dL_594 : decode code 594 = .ok (.iconst 4, 1) := by decide +kernel
theorem dL_595 : decode code 595 = .ok (.iadd, 1) := by decide +kernel
theorem dL_596 : decode code 596 = .ok (.iaload, 1) := by decide +kernel
theorem dL_597 : decode code 597 = .ok (.invokevirtual 85, 3) := by decide +kernel
theorem dL_600 : decode code 600 = .ok (.aload_n 2, 1) := by decide +kernel
theorem dL_601 : decode code 601 = .ok (.aload_n 0, 1) := by decide +kernel
theorem dL_602 : decode code 602 = .ok (.iload_n 3, 1) := by decide +kernel
theorem dL_603 : decode code 603 = .ok (.iconst 1, 1) := by decide +kernel
theorem dL_604 : decode code 604 = .ok (.iadd, 1) := by decide +kernel
theorem dL_605 : decode code 605 = .ok (.iaload, 1) := by decide +kernel
theorem dL_606 : decode code 606 = .ok (.aload_n 0, 1) := by decide +kernel
theorem dL_607 : decode code 607 = .ok (.iload_n 3, 1) := by decide +kernel
theorem dL_608 : decode code 608 = .ok (.iconst 2, 1) := by decide +kernel
theorem dL_609 : decode code 609 = .ok (.iadd, 1) := by decide +kernel
theorem dL_610 : decode code 610 = .ok (.iaload, 1) := by decide +kernel
theorem dL_611 : decode code 611 = .ok (.aload_n 0, 1) := by decide +kernel
theorem dL_612 : decode code 612 = .ok (.iload_n 3, 1) := by decide +kernel
theorem dL_613 : decode code 613 = .ok (.iconst 3, 1) := by decide +kernel
theorem dL_614 : decode code 614 = .ok (.iadd, 1) := by decide +kernel
theorem dL_615 : decode code 615 = .ok (.iaload, 1) := by decide +kernel
theorem dL_616 : decode code 616 = .ok (.aload_n 0, 1) := by decide +kernel
theorem dL_617 : decode code 617 = .ok (.iload_n 3, 1) := by decide +kernel
theorem dL_618 : decode code 618 = .ok (.iconst 4, 1) := by decide +kernel
theorem dL_619 : decode code 619 = .ok (.iadd, 1) := by decide +kernel
theorem dL_620 : decode code 620 = .ok (.iaload, 1) := by decide +kernel
theorem dL_621 : decode code 621 = .ok (.invokevirtual 89, 3) := by decide +kernel
theorem dL_624 : decode code 624 = .ok (.lcmp, 1) := by decide +kernel
theorem dL_625 : decode code 625 = .ok (.ifCond .eq 259, 3) := by decide +kernel
theorem dL_628 : decode code 628 = .ok (.iconst 0, 1) := by decide +kernel
theorem dL_629 : decode code 629 = .ok (.ireturn, 1) := by decide +kernel
theorem dL_630 : decode code 630 = .ok (.aload_n 1, 1) := by decide +kernel
theorem dL_631 : decode code 631 = .ok (.aload_n 0, 1) := by decide +kernel
theorem dL_632 : decode code 632 = .ok (.iload_n 3, 1) := by decide +kernel
theorem dL_633 : decode code 633 = .ok (.iconst 1, 1) := by decide +kernel
theorem dL_634 : decode code 634 = .ok (.iadd, 1) := by decide +kernel
theorem dL_635 : decode code 635 = .ok (.iaload, 1) := by decide +kernel
theorem dL_636 : decode code 636 = .ok (.aload_n 0, 1) := by decide +kernel
theorem dL_637 : decode code 637 = .ok (.iload_n 3, 1) := by decide +kernel
theorem dL_638 : decode code 638 = .ok (.iconst 2, 1) := by decide +kernel
theorem dL_639 : decode code 639 = .ok (.iadd, 1) := by decide +kernel
theorem dL_640 : decode code 640 = .ok (.iaload, 1) := by decide +kernel
theorem dL_641 : decode code 641 = .ok (.invokevirtual 90, 3) := by decide +kernel
theorem dL_644 : decode code 644 = .ok (.aload_n 2, 1) := by decide +kernel
theorem dL_645 : decode code 645 = .ok (.aload_n 0, 1) := by decide +kernel
theorem dL_646 : decode code 646 = .ok (.iload_n 3, 1) := by decide +kernel
theorem dL_647 : decode code 647 = .ok (.iconst 1, 1) := by decide +kernel
theorem dL_648 : decode code 648 = .ok (.iadd, 1) := by decide +kernel
theorem dL_649 : decode code 649 = .ok (.iaload, 1) := by decide +kernel
theorem dL_650 : decode code 650 = .ok (.aload_n 0, 1) := by decide +kernel
theorem dL_651 : decode code 651 = .ok (.iload_n 3, 1) := by decide +kernel
theorem dL_652 : decode code 652 = .ok (.iconst 2, 1) := by decide +kernel
theorem dL_653 : decode code 653 = .ok (.iadd, 1) := by decide +kernel
theorem dL_654 : decode code 654 = .ok (.iaload, 1) := by decide +kernel
theorem dL_655 : decode code 655 = .ok (.invokevirtual 93, 3) := by decide +kernel
theorem dL_658 : decode code 658 = .ok (.if_icmp .eq 226, 3) := by decide +kernel
theorem dL_661 : decode code 661 = .ok (.iconst 0, 1) := by decide +kernel
theorem dL_662 : decode code 662 = .ok (.ireturn, 1) := by decide +kernel
theorem dL_663 : decode code 663 = .ok (.aload_n 1, 1) := by decide +kernel
theorem dL_664 : decode code 664 = .ok (.aload_n 0, 1) := by decide +kernel
theorem dL_665 : decode code 665 = .ok (.iload_n 3, 1) := by decide +kernel
theorem dL_666 : decode code 666 = .ok (.iconst 1, 1) := by decide +kernel
theorem dL_667 : decode code 667 = .ok (.iadd, 1) := by decide +kernel
theorem dL_668 : decode code 668 = .ok (.iaload, 1) := by decide +kernel
theorem dL_669 : decode code 669 = .ok (.invokevirtual 94, 3) := by decide +kernel
theorem dL_672 : decode code 672 = .ok (.aload_n 2, 1) := by decide +kernel
theorem dL_673 : decode code 673 = .ok (.aload_n 0, 1) := by decide +kernel
theorem dL_674 : decode code 674 = .ok (.iload_n 3, 1) := by decide +kernel
theorem dL_675 : decode code 675 = .ok (.iconst 1, 1) := by decide +kernel
theorem dL_676 : decode code 676 = .ok (.iadd, 1) := by decide +kernel
theorem dL_677 : decode code 677 = .ok (.iaload, 1) := by decide +kernel
theorem dL_678 : decode code 678 = .ok (.invokevirtual 97, 3) := by decide +kernel
theorem dL_681 : decode code 681 = .ok (.if_icmp .eq 203, 3) := by decide +kernel
theorem dL_684 : decode code 684 = .ok (.iconst 0, 1) := by decide +kernel
theorem dL_685 : decode code 685 = .ok (.ireturn, 1) := by decide +kernel
theorem dL_686 : decode code 686 = .ok (.aload_n 1, 1) := by decide +kernel
theorem dL_687 : decode code 687 = .ok (.aload_n 0, 1) := by decide +kernel
theorem dL_688 : decode code 688 = .ok (.iload_n 3, 1) := by decide +kernel
theorem dL_689 : decode code 689 = .ok (.iconst 1, 1) := by decide +kernel
theorem dL_690 : decode code 690 = .ok (.iadd, 1) := by decide +kernel
theorem dL_691 : decode code 691 = .ok (.iaload, 1) := by decide +kernel
theorem dL_692 : decode code 692 = .ok (.aload_n 0, 1) := by decide +kernel
theorem dL_693 : decode code 693 = .ok (.iload_n 3, 1) := by decide +kernel
theorem dL_694 : decode code 694 = .ok (.iconst 2, 1) := by decide +kernel
theorem dL_695 : decode code 695 = .ok (.iadd, 1) := by decide +kernel
theorem dL_696 : decode code 696 = .ok (.iaload, 1) := by decide +kernel
theorem dL_697 : decode code 697 = .ok (.invokevirtual 98, 3) := by decide +kernel
theorem dL_700 : decode code 700 = .ok (.aload_n 2, 1) := by decide +kernel
theorem dL_701 : decode code 701 = .ok (.aload_n 0, 1) := by decide +kernel
theorem dL_702 : decode code 702 = .ok (.iload_n 3, 1) := by decide +kernel
theorem dL_703 : decode code 703 = .ok (.iconst 1, 1) := by decide +kernel
theorem dL_704 : decode code 704 = .ok (.iadd, 1) := by decide +kernel
theorem dL_705 : decode code 705 = .ok (.iaload, 1) := by decide +kernel
theorem dL_706 : decode code 706 = .ok (.aload_n 0, 1) := by decide +kernel
theorem dL_707 : decode code 707 = .ok (.iload_n 3, 1) := by decide +kernel
theorem dL_708 : decode code 708 = .ok (.iconst 2, 1) := by decide +kernel
theorem dL_709 : decode code 709 = .ok (.iadd, 1) := by decide +kernel
theorem dL_710 : decode code 710 = .ok (.iaload, 1) := by decide +kernel
theorem dL_711 : decode code 711 = .ok (.invokevirtual 101, 3) := by decide +kernel
theorem dL_714 : decode code 714 = .ok (.if_icmp .eq 170, 3) := by decide +kernel
theorem dL_717 : decode code 717 = .ok (.iconst 0, 1) := by decide +kernel
theorem dL_718 : decode code 718 = .ok (.ireturn, 1) := by decide +kernel
theorem dL_719 : decode code 719 = .ok (.aload_n 1, 1) := by decide +kernel
theorem dL_720 : decode code 720 = .ok (.aload_n 0, 1) := by decide +kernel
theorem dL_721 : decode code 721 = .ok (.iload_n 3, 1) := by decide +kernel
theorem dL_722 : decode code 722 = .ok (.iconst 1, 1) := by decide +kernel
theorem dL_723 : decode code 723 = .ok (.iadd, 1) := by decide +kernel
theorem dL_724 : decode code 724 = .ok (.iaload, 1) := by decide +kernel
theorem dL_725 : decode code 725 = .ok (.invokevirtual 102, 3) := by decide +kernel
theorem dL_728 : decode code 728 = .ok (.aload_n 2, 1) := by decide +kernel
theorem dL_729 : decode code 729 = .ok (.aload_n 0, 1) := by decide +kernel
theorem dL_730 : decode code 730 = .ok (.iload_n 3, 1) := by decide +kernel
theorem dL_731 : decode code 731 = .ok (.iconst 1, 1) := by decide +kernel
theorem dL_732 : decode code 732 = .ok (.iadd, 1) := by decide +kernel
theorem dL_733 : decode code 733 = .ok (.iaload, 1) := by decide +kernel
theorem dL_734 : decode code 734 = .ok (.invokevirtual 105, 3) := by decide +kernel
theorem dL_737 : decode code 737 = .ok (.if_icmp .eq 147, 3) := by decide +kernel
theorem dL_740 : decode code 740 = .ok (.iconst 0, 1) := by decide +kernel
theorem dL_741 : decode code 741 = .ok (.ireturn, 1) := by decide +kernel
theorem dL_742 : decode code 742 = .ok (.aload_n 1, 1) := by decide +kernel
theorem dL_743 : decode code 743 = .ok (.aload_n 0, 1) := by decide +kernel
theorem dL_744 : decode code 744 = .ok (.iload_n 3, 1) := by decide +kernel
theorem dL_745 : decode code 745 = .ok (.iconst 1, 1) := by decide +kernel
theorem dL_746 : decode code 746 = .ok (.iadd, 1) := by decide +kernel
theorem dL_747 : decode code 747 = .ok (.iaload, 1) := by decide +kernel
theorem dL_748 : decode code 748 = .ok (.invokevirtual 106, 3) := by decide +kernel
theorem dL_751 : decode code 751 = .ok (.aload_n 2, 1) := by decide +kernel
theorem dL_752 : decode code 752 = .ok (.aload_n 0, 1) := by decide +kernel
theorem dL_753 : decode code 753 = .ok (.iload_n 3, 1) := by decide +kernel
theorem dL_754 : decode code 754 = .ok (.iconst 1, 1) := by decide +kernel
theorem dL_755 : decode code 755 = .ok (.iadd, 1) := by decide +kernel
theorem dL_756 : decode code 756 = .ok (.iaload, 1) := by decide +kernel
theorem dL_757 : decode code 757 = .ok (.invokevirtual 110, 3) := by decide +kernel
theorem dL_760 : decode code 760 = .ok (.lcmp, 1) := by decide +kernel
theorem dL_761 : decode code 761 = .ok (.ifCond .eq 123, 3) := by decide +kernel
theorem dL_764 : decode code 764 = .ok (.iconst 0, 1) := by decide +kernel
theorem dL_765 : decode code 765 = .ok (.ireturn, 1) := by decide +kernel
theorem dL_766 : decode code 766 = .ok (.aload_n 1, 1) := by decide +kernel
theorem dL_767 : decode code 767 = .ok (.invokevirtual 111, 3) := by decide +kernel
theorem dL_770 : decode code 770 = .ok (.aload_n 2, 1) := by decide +kernel
theorem dL_771 : decode code 771 = .ok (.invokevirtual 114, 3) := by decide +kernel
theorem dL_774 : decode code 774 = .ok (.if_icmp .eq 110, 3) := by decide +kernel
theorem dL_777 : decode code 777 = .ok (.iconst 0, 1) := by decide +kernel
theorem dL_778 : decode code 778 = .ok (.ireturn, 1) := by decide +kernel
theorem dL_779 : decode code 779 = .ok (.aload_n 1, 1) := by decide +kernel
theorem dL_780 : decode code 780 = .ok (.invokevirtual 115, 3) := by decide +kernel
theorem dL_783 : decode code 783 = .ok (.aload_n 2, 1) := by decide +kernel
theorem dL_784 : decode code 784 = .ok (.invokevirtual 118, 3) := by decide +kernel
theorem dL_787 : decode code 787 = .ok (.if_icmp .eq 97, 3) := by decide +kernel
theorem dL_790 : decode code 790 = .ok (.iconst 0, 1) := by decide +kernel
theorem dL_791 : decode code 791 = .ok (.ireturn, 1) := by decide +kernel
theorem dL_792 : decode code 792 = .ok (.aload_n 1, 1) := by decide +kernel
theorem dL_793 : decode code 793 = .ok (.aload_n 0, 1) := by decide +kernel
theorem dL_794 : decode code 794 = .ok (.iload_n 3, 1) := by decide +kernel
theorem dL_795 : decode code 795 = .ok (.iconst 1, 1) := by decide +kernel
theorem dL_796 : decode code 796 = .ok (.iadd, 1) := by decide +kernel
theorem dL_797 : decode code 797 = .ok (.iaload, 1) := by decide +kernel
theorem dL_798 : decode code 798 = .ok (.aload_n 0, 1) := by decide +kernel
theorem dL_799 : decode code 799 = .ok (.iload_n 3, 1) := by decide +kernel
theorem dL_800 : decode code 800 = .ok (.iconst 2, 1) := by decide +kernel
theorem dL_801 : decode code 801 = .ok (.iadd, 1) := by decide +kernel
theorem dL_802 : decode code 802 = .ok (.iaload, 1) := by decide +kernel
theorem dL_803 : decode code 803 = .ok (.aload_n 0, 1) := by decide +kernel
theorem dL_804 : decode code 804 = .ok (.iload_n 3, 1) := by decide +kernel
theorem dL_805 : decode code 805 = .ok (.iconst 3, 1) := by decide +kernel
theorem dL_806 : decode code 806 = .ok (.iadd, 1) := by decide +kernel
theorem dL_807 : decode code 807 = .ok (.iaload, 1) := by decide +kernel
theorem dL_808 : decode code 808 = .ok (.invokevirtual 119, 3) := by decide +kernel
theorem dL_811 : decode code 811 = .ok (.aload_n 2, 1) := by decide +kernel
theorem dL_812 : decode code 812 = .ok (.aload_n 0, 1) := by decide +kernel
theorem dL_813 : decode code 813 = .ok (.iload_n 3, 1) := by decide +kernel
theorem dL_814 : decode code 814 = .ok (.iconst 1, 1) := by decide +kernel
theorem dL_815 : decode code 815 = .ok (.iadd, 1) := by decide +kernel
theorem dL_816 : decode code 816 = .ok (.iaload, 1) := by decide +kernel
theorem dL_817 : decode code 817 = .ok (.aload_n 0, 1) := by decide +kernel
theorem dL_818 : decode code 818 = .ok (.iload_n 3, 1) := by decide +kernel
theorem dL_819 : decode code 819 = .ok (.iconst 2, 1) := by decide +kernel
theorem dL_820 : decode code 820 = .ok (.iadd, 1) := by decide +kernel
theorem dL_821 : decode code 821 = .ok (.iaload, 1) := by decide +kernel
theorem dL_822 : decode code 822 = .ok (.aload_n 0, 1) := by decide +kernel
theorem dL_823 : decode code 823 = .ok (.iload_n 3, 1) := by decide +kernel
theorem dL_824 : decode code 824 = .ok (.iconst 3, 1) := by decide +kernel
theorem dL_825 : decode code 825 = .ok (.iadd, 1) := by decide +kernel
theorem dL_826 : decode code 826 = .ok (.iaload, 1) := by decide +kernel
theorem dL_827 : decode code 827 = .ok (.invokevirtual 123, 3) := by decide +kernel
theorem dL_830 : decode code 830 = .ok (.if_icmp .eq 54, 3) := by decide +kernel
theorem dL_833 : decode code 833 = .ok (.iconst 0, 1) := by decide +kernel
theorem dL_834 : decode code 834 = .ok (.ireturn, 1) := by decide +kernel
theorem dL_835 : decode code 835 = .ok (.aload_n 1, 1) := by decide +kernel
theorem dL_836 : decode code 836 = .ok (.invokevirtual 124, 3) := by decide +kernel
theorem dL_839 : decode code 839 = .ok (.aload_n 2, 1) := by decide +kernel
theorem dL_840 : decode code 840 = .ok (.invokevirtual 127, 3) := by decide +kernel
theorem dL_843 : decode code 843 = .ok (.if_icmp .eq 41, 3) := by decide +kernel
theorem dL_846 : decode code 846 = .ok (.iconst 0, 1) := by decide +kernel
theorem dL_847 : decode code 847 = .ok (.ireturn, 1) := by decide +kernel
theorem dL_848 : decode code 848 = .ok (.aload_n 1, 1) := by decide +kernel
theorem dL_849 : decode code 849 = .ok (.invokevirtual 128, 3) := by decide +kernel
theorem dL_852 : decode code 852 = .ok (.aload_n 2, 1) := by decide +kernel
theorem dL_853 : decode code 853 = .ok (.invokevirtual 131, 3) := by decide +kernel
theorem dL_856 : decode code 856 = .ok (.if_icmp .eq 28, 3) := by decide +kernel
theorem dL_859 : decode code 859 = .ok (.iconst 0, 1) := by decide +kernel
theorem dL_860 : decode code 860 = .ok (.ireturn, 1) := by decide +kernel
theorem dL_861 : decode code 861 = .ok (.aload_n 1, 1) := by decide +kernel
theorem dL_862 : decode code 862 = .ok (.aload_n 0, 1) := by decide +kernel
theorem dL_863 : decode code 863 = .ok (.iload_n 3, 1) := by decide +kernel
theorem dL_864 : decode code 864 = .ok (.iconst 1, 1) := by decide +kernel
theorem dL_865 : decode code 865 = .ok (.iadd, 1) := by decide +kernel
theorem dL_866 : decode code 866 = .ok (.iaload, 1) := by decide +kernel
theorem dL_867 : decode code 867 = .ok (.invokevirtual 132, 3) := by decide +kernel
theorem dL_870 : decode code 870 = .ok (.aload_n 2, 1) := by decide +kernel
theorem dL_871 : decode code 871 = .ok (.aload_n 0, 1) := by decide +kernel
theorem dL_872 : decode code 872 = .ok (.iload_n 3, 1) := by decide +kernel
theorem dL_873 : decode code 873 = .ok (.iconst 1, 1) := by decide +kernel
theorem dL_874 : decode code 874 = .ok (.iadd, 1) := by decide +kernel
theorem dL_875 : decode code 875 = .ok (.iaload, 1) := by decide +kernel
theorem dL_876 : decode code 876 = .ok (.invokevirtual 135, 3) := by decide +kernel
theorem dL_879 : decode code 879 = .ok (.if_icmp .eq 5, 3) := by decide +kernel
theorem dL_882 : decode code 882 = .ok (.iconst 0, 1) := by decide +kernel
theorem dL_883 : decode code 883 = .ok (.ireturn, 1) := by decide +kernel
theorem dL_884 : decode code 884 = .ok (.iinc 3 5, 3) := by decide +kernel
theorem dL_887 : decode code 887 = .ok (.goto (-869), 3) := by decide +kernel
theorem dL_890 : decode code 890 = .ok (.iconst 1, 1) := by decide +kernel
theorem dL_891 : decode code 891 = .ok (.ireturn, 1) := by decide +kernel
theorem moX4_letter : Mv yX4_letter kX4_letter 1 := ⟨⟨tb_in 221 (by decide +kernel) rfl, tb_in 87 (by decide +kernel) rfl, ⟨by decide, by decide⟩, by decide +kernel⟩, tb_in 219 (by decide +kernel) rfl, tb_in 220 (by decide +kernel) rfl⟩
theorem lnL_13 : Cond.methodLink RL 13 yX4_letter ∈ TB := tb_in 218 (by decide +kernel) rfl
theorem moX5_letter : Mv yX5_letter kX5_letter 1 := ⟨⟨tb_in 769 (by decide +kernel) rfl, tb_in 92 (by decide +kernel) rfl, ⟨by decide, by decide⟩, by decide +kernel⟩, tb_in 767 (by decide +kernel) rfl, tb_in 768 (by decide +kernel) rfl⟩
theorem lnL_17 : Cond.methodLink RL 17 yX5_letter ∈ TB := tb_in 766 (by decide +kernel) rfl
theorem moX4_line : Mv yX4_line kX4_line 0 := ⟨⟨tb_in 233 (by decide +kernel) rfl, tb_in 87 (by decide +kernel) rfl, ⟨by decide, by decide⟩, by decide +kernel⟩, tb_in 231 (by decide +kernel) rfl, tb_in 232 (by decide +kernel) rfl⟩
theorem lnL_18 : Cond.methodLink RL 18 yX4_line ∈ TB := tb_in 230 (by decide +kernel) rfl
theorem moX5_line : Mv yX5_line kX5_line 0 := ⟨⟨tb_in 780 (by decide +kernel) rfl, tb_in 92 (by decide +kernel) rfl, ⟨by decide, by decide⟩, by decide +kernel⟩, tb_in 778 (by decide +kernel) rfl, tb_in 779 (by decide +kernel) rfl⟩
theorem lnL_22 : Cond.methodLink RL 22 yX5_line ∈ TB := tb_in 777 (by decide +kernel) rfl
theorem moX4_station : Mv yX4_station kX4_station 2 := ⟨⟨tb_in 378 (by decide +kernel) rfl, tb_in 87 (by decide +kernel) rfl, ⟨by decide, by decide⟩, by decide +kernel⟩, tb_in 376 (by decide +kernel) rfl, tb_in 377 (by decide +kernel) rfl⟩
theorem lnL_23 : Cond.methodLink RL 23 yX4_station ∈ TB := tb_in 375 (by decide +kernel) rfl
theorem moX5_station : Mv yX5_station kX5_station 2 := ⟨⟨tb_in 838 (by decide +kernel) rfl, tb_in 92 (by decide +kernel) rfl, ⟨by decide, by decide⟩, by decide +kernel⟩, tb_in 836 (by decide +kernel) rfl, tb_in 837 (by decide +kernel) rfl⟩
theorem lnL_27 : Cond.methodLink RL 27 yX5_station ∈ TB := tb_in 835 (by decide +kernel) rfl
theorem moX4_name : Mv yX4_name kX4_name 2 := ⟨⟨tb_in 408 (by decide +kernel) rfl, tb_in 87 (by decide +kernel) rfl, ⟨by decide, by decide⟩, by decide +kernel⟩, tb_in 406 (by decide +kernel) rfl, tb_in 407 (by decide +kernel) rfl⟩
theorem lnL_28 : Cond.methodLink RL 28 yX4_name ∈ TB := tb_in 405 (by decide +kernel) rfl
theorem moX5_name : Mv yX5_name kX5_name 2 := ⟨⟨tb_in 861 (by decide +kernel) rfl, tb_in 92 (by decide +kernel) rfl, ⟨by decide, by decide⟩, by decide +kernel⟩, tb_in 859 (by decide +kernel) rfl, tb_in 860 (by decide +kernel) rfl⟩
theorem lnL_31 : Cond.methodLink RL 31 yX5_name ∈ TB := tb_in 858 (by decide +kernel) rfl
theorem moX4_kind : Mv yX4_kind kX4_kind 2 := ⟨⟨tb_in 412 (by decide +kernel) rfl, tb_in 87 (by decide +kernel) rfl, ⟨by decide, by decide⟩, by decide +kernel⟩, tb_in 410 (by decide +kernel) rfl, tb_in 411 (by decide +kernel) rfl⟩
theorem lnL_32 : Cond.methodLink RL 32 yX4_kind ∈ TB := tb_in 409 (by decide +kernel) rfl
theorem moX5_kind : Mv yX5_kind kX5_kind 2 := ⟨⟨tb_in 865 (by decide +kernel) rfl, tb_in 92 (by decide +kernel) rfl, ⟨by decide, by decide⟩, by decide +kernel⟩, tb_in 863 (by decide +kernel) rfl, tb_in 864 (by decide +kernel) rfl⟩
theorem lnL_35 : Cond.methodLink RL 35 yX5_kind ∈ TB := tb_in 862 (by decide +kernel) rfl
theorem moX4_form : Mv yX4_form kX4_form 1 := ⟨⟨tb_in 416 (by decide +kernel) rfl, tb_in 87 (by decide +kernel) rfl, ⟨by decide, by decide⟩, by decide +kernel⟩, tb_in 414 (by decide +kernel) rfl, tb_in 415 (by decide +kernel) rfl⟩
theorem lnL_36 : Cond.methodLink RL 36 yX4_form ∈ TB := tb_in 413 (by decide +kernel) rfl
theorem moX5_form : Mv yX5_form kX5_form 1 := ⟨⟨tb_in 869 (by decide +kernel) rfl, tb_in 92 (by decide +kernel) rfl, ⟨by decide, by decide⟩, by decide +kernel⟩, tb_in 867 (by decide +kernel) rfl, tb_in 868 (by decide +kernel) rfl⟩
theorem lnL_39 : Cond.methodLink RL 39 yX5_form ∈ TB := tb_in 866 (by decide +kernel) rfl
theorem moX4_few : Mv yX4_few kX4_few 2 := ⟨⟨tb_in 423 (by decide +kernel) rfl, tb_in 87 (by decide +kernel) rfl, ⟨by decide, by decide⟩, by decide +kernel⟩, tb_in 421 (by decide +kernel) rfl, tb_in 422 (by decide +kernel) rfl⟩
theorem lnL_40 : Cond.methodLink RL 40 yX4_few ∈ TB := tb_in 420 (by decide +kernel) rfl
theorem moX5_few : Mv yX5_few kX5_few 2 := ⟨⟨tb_in 873 (by decide +kernel) rfl, tb_in 92 (by decide +kernel) rfl, ⟨by decide, by decide⟩, by decide +kernel⟩, tb_in 871 (by decide +kernel) rfl, tb_in 872 (by decide +kernel) rfl⟩
theorem lnL_43 : Cond.methodLink RL 43 yX5_few ∈ TB := tb_in 870 (by decide +kernel) rfl
theorem moX4_ways : Mv yX4_ways kX4_ways 3 := ⟨⟨tb_in 444 (by decide +kernel) rfl, tb_in 87 (by decide +kernel) rfl, ⟨by decide, by decide⟩, by decide +kernel⟩, tb_in 442 (by decide +kernel) rfl, tb_in 443 (by decide +kernel) rfl⟩
theorem lnL_44 : Cond.methodLink RL 44 yX4_ways ∈ TB := tb_in 441 (by decide +kernel) rfl
theorem moX5_ways : Mv yX5_ways kX5_ways 3 := ⟨⟨tb_in 881 (by decide +kernel) rfl, tb_in 92 (by decide +kernel) rfl, ⟨by decide, by decide⟩, by decide +kernel⟩, tb_in 879 (by decide +kernel) rfl, tb_in 880 (by decide +kernel) rfl⟩
theorem lnL_48 : Cond.methodLink RL 48 yX5_ways ∈ TB := tb_in 878 (by decide +kernel) rfl
theorem moX4_whither : Mv yX4_whither kX4_whither 1 := ⟨⟨tb_in 473 (by decide +kernel) rfl, tb_in 87 (by decide +kernel) rfl, ⟨by decide, by decide⟩, by decide +kernel⟩, tb_in 471 (by decide +kernel) rfl, tb_in 472 (by decide +kernel) rfl⟩
theorem lnL_49 : Cond.methodLink RL 49 yX4_whither ∈ TB := tb_in 470 (by decide +kernel) rfl
theorem moX5_whither : Mv yX5_whither kX5_whither 1 := ⟨⟨tb_in 902 (by decide +kernel) rfl, tb_in 92 (by decide +kernel) rfl, ⟨by decide, by decide⟩, by decide +kernel⟩, tb_in 900 (by decide +kernel) rfl, tb_in 901 (by decide +kernel) rfl⟩
theorem lnL_52 : Cond.methodLink RL 52 yX5_whither ∈ TB := tb_in 899 (by decide +kernel) rfl
theorem moX4_whence : Mv yX4_whence kX4_whence 1 := ⟨⟨tb_in 477 (by decide +kernel) rfl, tb_in 87 (by decide +kernel) rfl, ⟨by decide, by decide⟩, by decide +kernel⟩, tb_in 475 (by decide +kernel) rfl, tb_in 476 (by decide +kernel) rfl⟩
theorem lnL_53 : Cond.methodLink RL 53 yX4_whence ∈ TB := tb_in 474 (by decide +kernel) rfl
theorem moX5_whence : Mv yX5_whence kX5_whence 1 := ⟨⟨tb_in 910 (by decide +kernel) rfl, tb_in 92 (by decide +kernel) rfl, ⟨by decide, by decide⟩, by decide +kernel⟩, tb_in 908 (by decide +kernel) rfl, tb_in 909 (by decide +kernel) rfl⟩
theorem lnL_56 : Cond.methodLink RL 56 yX5_whence ∈ TB := tb_in 907 (by decide +kernel) rfl
theorem moX4_blind : Mv yX4_blind kX4_blind 0 := ⟨⟨tb_in 485 (by decide +kernel) rfl, tb_in 87 (by decide +kernel) rfl, ⟨by decide, by decide⟩, by decide +kernel⟩, tb_in 483 (by decide +kernel) rfl, tb_in 484 (by decide +kernel) rfl⟩
theorem lnL_57 : Cond.methodLink RL 57 yX4_blind ∈ TB := tb_in 482 (by decide +kernel) rfl
theorem moX5_blind : Mv yX5_blind kX5_blind 0 := ⟨⟨tb_in 918 (by decide +kernel) rfl, tb_in 92 (by decide +kernel) rfl, ⟨by decide, by decide⟩, by decide +kernel⟩, tb_in 916 (by decide +kernel) rfl, tb_in 917 (by decide +kernel) rfl⟩
theorem lnL_60 : Cond.methodLink RL 60 yX5_blind ∈ TB := tb_in 915 (by decide +kernel) rfl
theorem moX4_dead : Mv yX4_dead kX4_dead 0 := ⟨⟨tb_in 493 (by decide +kernel) rfl, tb_in 87 (by decide +kernel) rfl, ⟨by decide, by decide⟩, by decide +kernel⟩, tb_in 491 (by decide +kernel) rfl, tb_in 492 (by decide +kernel) rfl⟩
theorem lnL_61 : Cond.methodLink RL 61 yX4_dead ∈ TB := tb_in 490 (by decide +kernel) rfl
theorem moX5_dead : Mv yX5_dead kX5_dead 0 := ⟨⟨tb_in 922 (by decide +kernel) rfl, tb_in 92 (by decide +kernel) rfl, ⟨by decide, by decide⟩, by decide +kernel⟩, tb_in 920 (by decide +kernel) rfl, tb_in 921 (by decide +kernel) rfl⟩
theorem lnL_64 : Cond.methodLink RL 64 yX5_dead ∈ TB := tb_in 919 (by decide +kernel) rfl
theorem moX4_parts : Mv yX4_parts kX4_parts 1 := ⟨⟨tb_in 501 (by decide +kernel) rfl, tb_in 87 (by decide +kernel) rfl, ⟨by decide, by decide⟩, by decide +kernel⟩, tb_in 499 (by decide +kernel) rfl, tb_in 500 (by decide +kernel) rfl⟩
theorem lnL_65 : Cond.methodLink RL 65 yX4_parts ∈ TB := tb_in 498 (by decide +kernel) rfl
theorem moX5_parts : Mv yX5_parts kX5_parts 1 := ⟨⟨tb_in 926 (by decide +kernel) rfl, tb_in 92 (by decide +kernel) rfl, ⟨by decide, by decide⟩, by decide +kernel⟩, tb_in 924 (by decide +kernel) rfl, tb_in 925 (by decide +kernel) rfl⟩
theorem lnL_68 : Cond.methodLink RL 68 yX5_parts ∈ TB := tb_in 923 (by decide +kernel) rfl
theorem moX4_never : Mv yX4_never kX4_never 0 := ⟨⟨tb_in 515 (by decide +kernel) rfl, tb_in 87 (by decide +kernel) rfl, ⟨by decide, by decide⟩, by decide +kernel⟩, tb_in 513 (by decide +kernel) rfl, tb_in 514 (by decide +kernel) rfl⟩
theorem lnL_69 : Cond.methodLink RL 69 yX4_never ∈ TB := tb_in 512 (by decide +kernel) rfl
theorem moX5_never : Mv yX5_never kX5_never 0 := ⟨⟨tb_in 930 (by decide +kernel) rfl, tb_in 92 (by decide +kernel) rfl, ⟨by decide, by decide⟩, by decide +kernel⟩, tb_in 928 (by decide +kernel) rfl, tb_in 929 (by decide +kernel) rfl⟩
theorem lnL_72 : Cond.methodLink RL 72 yX5_never ∈ TB := tb_in 927 (by decide +kernel) rfl
theorem moX4_more : Mv yX4_more kX4_more 2 := ⟨⟨tb_in 533 (by decide +kernel) rfl, tb_in 87 (by decide +kernel) rfl, ⟨by decide, by decide⟩, by decide +kernel⟩, tb_in 531 (by decide +kernel) rfl, tb_in 532 (by decide +kernel) rfl⟩
theorem lnL_73 : Cond.methodLink RL 73 yX4_more ∈ TB := tb_in 530 (by decide +kernel) rfl
theorem moX5_more : Mv yX5_more kX5_more 2 := ⟨⟨tb_in 938 (by decide +kernel) rfl, tb_in 92 (by decide +kernel) rfl, ⟨by decide, by decide⟩, by decide +kernel⟩, tb_in 936 (by decide +kernel) rfl, tb_in 937 (by decide +kernel) rfl⟩
theorem lnL_76 : Cond.methodLink RL 76 yX5_more ∈ TB := tb_in 935 (by decide +kernel) rfl
theorem moX4_worst : Mv yX4_worst kX4_worst 1 := ⟨⟨tb_in 546 (by decide +kernel) rfl, tb_in 87 (by decide +kernel) rfl, ⟨by decide, by decide⟩, by decide +kernel⟩, tb_in 544 (by decide +kernel) rfl, tb_in 545 (by decide +kernel) rfl⟩
theorem lnL_77 : Cond.methodLink RL 77 yX4_worst ∈ TB := tb_in 543 (by decide +kernel) rfl
theorem moX5_worst : Mv yX5_worst kX5_worst 1 := ⟨⟨tb_in 955 (by decide +kernel) rfl, tb_in 92 (by decide +kernel) rfl, ⟨by decide, by decide⟩, by decide +kernel⟩, tb_in 953 (by decide +kernel) rfl, tb_in 954 (by decide +kernel) rfl⟩
theorem lnL_80 : Cond.methodLink RL 80 yX5_worst ∈ TB := tb_in 952 (by decide +kernel) rfl
theorem moX4_changed : Mv yX4_changed kX4_changed 0 := ⟨⟨tb_in 550 (by decide +kernel) rfl, tb_in 87 (by decide +kernel) rfl, ⟨by decide, by decide⟩, by decide +kernel⟩, tb_in 548 (by decide +kernel) rfl, tb_in 549 (by decide +kernel) rfl⟩
theorem lnL_81 : Cond.methodLink RL 81 yX4_changed ∈ TB := tb_in 547 (by decide +kernel) rfl
theorem moX5_changed : Mv yX5_changed kX5_changed 0 := ⟨⟨tb_in 959 (by decide +kernel) rfl, tb_in 92 (by decide +kernel) rfl, ⟨by decide, by decide⟩, by decide +kernel⟩, tb_in 957 (by decide +kernel) rfl, tb_in 958 (by decide +kernel) rfl⟩
theorem lnL_84 : Cond.methodLink RL 84 yX5_changed ∈ TB := tb_in 956 (by decide +kernel) rfl
theorem moX4_luck : Mv yX4_luck kX4_luck 4 := ⟨⟨tb_in 562 (by decide +kernel) rfl, tb_in 87 (by decide +kernel) rfl, ⟨by decide, by decide⟩, by decide +kernel⟩, tb_in 560 (by decide +kernel) rfl, tb_in 561 (by decide +kernel) rfl⟩
theorem lnL_85 : Cond.methodLink RL 85 yX4_luck ∈ TB := tb_in 559 (by decide +kernel) rfl
theorem moX5_luck : Mv yX5_luck kX5_luck 4 := ⟨⟨tb_in 963 (by decide +kernel) rfl, tb_in 92 (by decide +kernel) rfl, ⟨by decide, by decide⟩, by decide +kernel⟩, tb_in 961 (by decide +kernel) rfl, tb_in 962 (by decide +kernel) rfl⟩
theorem lnL_89 : Cond.methodLink RL 89 yX5_luck ∈ TB := tb_in 960 (by decide +kernel) rfl
theorem moX4_putIn : Mv yX4_putIn kX4_putIn 2 := ⟨⟨tb_in 576 (by decide +kernel) rfl, tb_in 87 (by decide +kernel) rfl, ⟨by decide, by decide⟩, by decide +kernel⟩, tb_in 574 (by decide +kernel) rfl, tb_in 575 (by decide +kernel) rfl⟩
theorem lnL_90 : Cond.methodLink RL 90 yX4_putIn ∈ TB := tb_in 573 (by decide +kernel) rfl
theorem moX5_putIn : Mv yX5_putIn kX5_putIn 2 := ⟨⟨tb_in 970 (by decide +kernel) rfl, tb_in 92 (by decide +kernel) rfl, ⟨by decide, by decide⟩, by decide +kernel⟩, tb_in 968 (by decide +kernel) rfl, tb_in 969 (by decide +kernel) rfl⟩
theorem lnL_93 : Cond.methodLink RL 93 yX5_putIn ∈ TB := tb_in 967 (by decide +kernel) rfl
theorem moX4_shut : Mv yX4_shut kX4_shut 1 := ⟨⟨tb_in 588 (by decide +kernel) rfl, tb_in 87 (by decide +kernel) rfl, ⟨by decide, by decide⟩, by decide +kernel⟩, tb_in 586 (by decide +kernel) rfl, tb_in 587 (by decide +kernel) rfl⟩
theorem lnL_94 : Cond.methodLink RL 94 yX4_shut ∈ TB := tb_in 585 (by decide +kernel) rfl
theorem moX5_shut : Mv yX5_shut kX5_shut 1 := ⟨⟨tb_in 982 (by decide +kernel) rfl, tb_in 92 (by decide +kernel) rfl, ⟨by decide, by decide⟩, by decide +kernel⟩, tb_in 980 (by decide +kernel) rfl, tb_in 981 (by decide +kernel) rfl⟩
theorem lnL_97 : Cond.methodLink RL 97 yX5_shut ∈ TB := tb_in 979 (by decide +kernel) rfl
theorem moX4_alike : Mv yX4_alike kX4_alike 2 := ⟨⟨tb_in 596 (by decide +kernel) rfl, tb_in 87 (by decide +kernel) rfl, ⟨by decide, by decide⟩, by decide +kernel⟩, tb_in 594 (by decide +kernel) rfl, tb_in 595 (by decide +kernel) rfl⟩
theorem lnL_98 : Cond.methodLink RL 98 yX4_alike ∈ TB := tb_in 593 (by decide +kernel) rfl
theorem moX5_alike : Mv yX5_alike kX5_alike 2 := ⟨⟨tb_in 986 (by decide +kernel) rfl, tb_in 92 (by decide +kernel) rfl, ⟨by decide, by decide⟩, by decide +kernel⟩, tb_in 984 (by decide +kernel) rfl, tb_in 985 (by decide +kernel) rfl⟩
theorem lnL_101 : Cond.methodLink RL 101 yX5_alike ∈ TB := tb_in 983 (by decide +kernel) rfl
theorem moX4_row : Mv yX4_row kX4_row 1 := ⟨⟨tb_in 600 (by decide +kernel) rfl, tb_in 87 (by decide +kernel) rfl, ⟨by decide, by decide⟩, by decide +kernel⟩, tb_in 598 (by decide +kernel) rfl, tb_in 599 (by decide +kernel) rfl⟩
theorem lnL_102 : Cond.methodLink RL 102 yX4_row ∈ TB := tb_in 597 (by decide +kernel) rfl
theorem moX5_row : Mv yX5_row kX5_row 1 := ⟨⟨tb_in 990 (by decide +kernel) rfl, tb_in 92 (by decide +kernel) rfl, ⟨by decide, by decide⟩, by decide +kernel⟩, tb_in 988 (by decide +kernel) rfl, tb_in 989 (by decide +kernel) rfl⟩
theorem lnL_105 : Cond.methodLink RL 105 yX5_row ∈ TB := tb_in 987 (by decide +kernel) rfl
theorem moX4_gotOn : Mv yX4_gotOn kX4_gotOn 1 := ⟨⟨tb_in 608 (by decide +kernel) rfl, tb_in 87 (by decide +kernel) rfl, ⟨by decide, by decide⟩, by decide +kernel⟩, tb_in 606 (by decide +kernel) rfl, tb_in 607 (by decide +kernel) rfl⟩
theorem lnL_106 : Cond.methodLink RL 106 yX4_gotOn ∈ TB := tb_in 605 (by decide +kernel) rfl
theorem moX5_gotOn : Mv yX5_gotOn kX5_gotOn 1 := ⟨⟨tb_in 994 (by decide +kernel) rfl, tb_in 92 (by decide +kernel) rfl, ⟨by decide, by decide⟩, by decide +kernel⟩, tb_in 992 (by decide +kernel) rfl, tb_in 993 (by decide +kernel) rfl⟩
theorem lnL_110 : Cond.methodLink RL 110 yX5_gotOn ∈ TB := tb_in 991 (by decide +kernel) rfl
theorem moX4_misspelt : Mv yX4_misspelt kX4_misspelt 0 := ⟨⟨tb_in 636 (by decide +kernel) rfl, tb_in 87 (by decide +kernel) rfl, ⟨by decide, by decide⟩, by decide +kernel⟩, tb_in 634 (by decide +kernel) rfl, tb_in 635 (by decide +kernel) rfl⟩
theorem lnL_111 : Cond.methodLink RL 111 yX4_misspelt ∈ TB := tb_in 633 (by decide +kernel) rfl
theorem moX5_misspelt : Mv yX5_misspelt kX5_misspelt 0 := ⟨⟨tb_in 1006 (by decide +kernel) rfl, tb_in 92 (by decide +kernel) rfl, ⟨by decide, by decide⟩, by decide +kernel⟩, tb_in 1004 (by decide +kernel) rfl, tb_in 1005 (by decide +kernel) rfl⟩
theorem lnL_114 : Cond.methodLink RL 114 yX5_misspelt ∈ TB := tb_in 1003 (by decide +kernel) rfl
theorem moX4_judge : Mv yX4_judge kX4_judge 0 := ⟨⟨tb_in 649 (by decide +kernel) rfl, tb_in 87 (by decide +kernel) rfl, ⟨by decide, by decide⟩, by decide +kernel⟩, tb_in 647 (by decide +kernel) rfl, tb_in 648 (by decide +kernel) rfl⟩
theorem lnL_115 : Cond.methodLink RL 115 yX4_judge ∈ TB := tb_in 646 (by decide +kernel) rfl
theorem moX5_judge : Mv yX5_judge kX5_judge 0 := ⟨⟨tb_in 1014 (by decide +kernel) rfl, tb_in 92 (by decide +kernel) rfl, ⟨by decide, by decide⟩, by decide +kernel⟩, tb_in 1012 (by decide +kernel) rfl, tb_in 1013 (by decide +kernel) rfl⟩
theorem lnL_118 : Cond.methodLink RL 118 yX5_judge ∈ TB := tb_in 1011 (by decide +kernel) rfl
theorem moX4_seeds : Mv yX4_seeds kX4_seeds 3 := ⟨⟨tb_in 658 (by decide +kernel) rfl, tb_in 87 (by decide +kernel) rfl, ⟨by decide, by decide⟩, by decide +kernel⟩, tb_in 656 (by decide +kernel) rfl, tb_in 657 (by decide +kernel) rfl⟩
theorem lnL_119 : Cond.methodLink RL 119 yX4_seeds ∈ TB := tb_in 655 (by decide +kernel) rfl
theorem moX5_seeds : Mv yX5_seeds kX5_seeds 3 := ⟨⟨tb_in 1018 (by decide +kernel) rfl, tb_in 92 (by decide +kernel) rfl, ⟨by decide, by decide⟩, by decide +kernel⟩, tb_in 1016 (by decide +kernel) rfl, tb_in 1017 (by decide +kernel) rfl⟩
theorem lnL_123 : Cond.methodLink RL 123 yX5_seeds ∈ TB := tb_in 1015 (by decide +kernel) rfl
theorem moX4_image : Mv yX4_image kX4_image 0 := ⟨⟨tb_in 673 (by decide +kernel) rfl, tb_in 87 (by decide +kernel) rfl, ⟨by decide, by decide⟩, by decide +kernel⟩, tb_in 671 (by decide +kernel) rfl, tb_in 672 (by decide +kernel) rfl⟩
theorem lnL_124 : Cond.methodLink RL 124 yX4_image ∈ TB := tb_in 670 (by decide +kernel) rfl
theorem moX5_image : Mv yX5_image kX5_image 0 := ⟨⟨tb_in 830 (by decide +kernel) rfl, tb_in 92 (by decide +kernel) rfl, ⟨by decide, by decide⟩, by decide +kernel⟩, tb_in 828 (by decide +kernel) rfl, tb_in 829 (by decide +kernel) rfl⟩
theorem lnL_127 : Cond.methodLink RL 127 yX5_image ∈ TB := tb_in 827 (by decide +kernel) rfl
theorem moX4_on : Mv yX4_on kX4_on 0 := ⟨⟨tb_in 677 (by decide +kernel) rfl, tb_in 87 (by decide +kernel) rfl, ⟨by decide, by decide⟩, by decide +kernel⟩, tb_in 675 (by decide +kernel) rfl, tb_in 676 (by decide +kernel) rfl⟩
theorem lnL_128 : Cond.methodLink RL 128 yX4_on ∈ TB := tb_in 674 (by decide +kernel) rfl
theorem moX5_on : Mv yX5_on kX5_on 0 := ⟨⟨tb_in 834 (by decide +kernel) rfl, tb_in 92 (by decide +kernel) rfl, ⟨by decide, by decide⟩, by decide +kernel⟩, tb_in 832 (by decide +kernel) rfl, tb_in 833 (by decide +kernel) rfl⟩
theorem lnL_131 : Cond.methodLink RL 131 yX5_on ∈ TB := tb_in 831 (by decide +kernel) rfl
theorem moX4_count : Mv yX4_count kX4_count 1 := ⟨⟨tb_in 681 (by decide +kernel) rfl, tb_in 87 (by decide +kernel) rfl, ⟨by decide, by decide⟩, by decide +kernel⟩, tb_in 679 (by decide +kernel) rfl, tb_in 680 (by decide +kernel) rfl⟩
theorem lnL_132 : Cond.methodLink RL 132 yX4_count ∈ TB := tb_in 678 (by decide +kernel) rfl
theorem moX5_count : Mv yX5_count kX5_count 1 := ⟨⟨tb_in 1025 (by decide +kernel) rfl, tb_in 92 (by decide +kernel) rfl, ⟨by decide, by decide⟩, by decide +kernel⟩, tb_in 1023 (by decide +kernel) rfl, tb_in 1024 (by decide +kernel) rfl⟩
theorem lnL_135 : Cond.methodLink RL 135 yX5_count ∈ TB := tb_in 1022 (by decide +kernel) rfl
