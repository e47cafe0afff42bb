/-! ===== printed by wip/whole/gen5.py: the law's rows ===== -/
theorem dL_306 : decode code 306 = .ok (.iconst 2, 1) := by decide +kernel
theorem dL_307 : decode code 307 = .ok (.iadd, 1) := by decide +kernel
theorem dL_308 : decode code 308 = .ok (.iaload, 1) := by decide +kernel
theorem dL_309 : decode code 309 = .ok (.invokevirtual 41, 3) := by decide +kernel
theorem dL_312 : decode code 312 = .ok (.aload_n 2, 1) := by decide +kernel
theorem dL_313 : decode code 313 = .ok (.aload_n 0, 1) := by decide +kernel
theorem dL_314 : decode code 314 = .ok (.iload_n 3, 1) := by decide +kernel
theorem dL_315 : decode code 315 = .ok (.iconst 1, 1) := by decide +kernel
theorem dL_316 : decode code 316 = .ok (.iadd, 1) := by decide +kernel
theorem dL_317 : decode code 317 = .ok (.iaload, 1) := by decide +kernel
theorem dL_318 : decode code 318 = .ok (.aload_n 0, 1) := by decide +kernel
theorem dL_319 : decode code 319 = .ok (.iload_n 3, 1) := by decide +kernel
theorem dL_320 : decode code 320 = .ok (.iconst 2, 1) := by decide +kernel
theorem dL_321 : decode code 321 = .ok (.iadd, 1) := by decide +kernel
theorem dL_322 : decode code 322 = .ok (.iaload, 1) := by decide +kernel
theorem dL_323 : decode code 323 = .ok (.invokevirtual 44, 3) := by decide +kernel
theorem dL_326 : decode code 326 = .ok (.if_icmp .eq 459, 3) := by decide +kernel
theorem dL_331 : decode code 331 = .ok (.aload_n 1, 1) := by decide +kernel
theorem dL_332 : decode code 332 = .ok (.aload_n 0, 1) := by decide +kernel
theorem dL_333 : decode code 333 = .ok (.iload_n 3, 1) := by decide +kernel
theorem dL_334 : decode code 334 = .ok (.iconst 1, 1) := by decide +kernel
theorem dL_335 : decode code 335 = .ok (.iadd, 1) := by decide +kernel
theorem dL_336 : decode code 336 = .ok (.iaload, 1) := by decide +kernel
theorem dL_337 : decode code 337 = .ok (.invokevirtual 45, 3) := by decide +kernel
theorem dL_340 : decode code 340 = .ok (.aload_n 2, 1) := by decide +kernel
theorem dL_341 : decode code 341 = .ok (.aload_n 0, 1) := by decide +kernel
theorem dL_342 : decode code 342 = .ok (.iload_n 3, 1) := by decide +kernel
theorem dL_343 : decode code 343 = .ok (.iconst 1, 1) := by decide +kernel
theorem dL_344 : decode code 344 = .ok (.iadd, 1) := by decide +kernel
theorem dL_345 : decode code 345 = .ok (.iaload, 1) := by decide +kernel
theorem dL_346 : decode code 346 = .ok (.invokevirtual 48, 3) := by decide +kernel
theorem dL_349 : decode code 349 = .ok (.if_icmp .eq 436, 3) := by decide +kernel
theorem dL_354 : decode code 354 = .ok (.aload_n 1, 1) := by decide +kernel
theorem dL_355 : decode code 355 = .ok (.invokevirtual 49, 3) := by decide +kernel
theorem dL_358 : decode code 358 = .ok (.aload_n 2, 1) := by decide +kernel
theorem dL_359 : decode code 359 = .ok (.invokevirtual 52, 3) := by decide +kernel
theorem dL_362 : decode code 362 = .ok (.if_icmp .eq 423, 3) := by decide +kernel
theorem dL_367 : decode code 367 = .ok (.aload_n 1, 1) := by decide +kernel
theorem dL_368 : decode code 368 = .ok (.aload_n 0, 1) := by decide +kernel
theorem dL_369 : decode code 369 = .ok (.iload_n 3, 1) := by decide +kernel
theorem dL_370 : decode code 370 = .ok (.iconst 1, 1) := by decide +kernel
theorem dL_371 : decode code 371 = .ok (.iadd, 1) := by decide +kernel
theorem dL_372 : decode code 372 = .ok (.iaload, 1) := by decide +kernel
theorem dL_373 : decode code 373 = .ok (.invokevirtual 53, 3) := by decide +kernel
theorem dL_376 : decode code 376 = .ok (.aload_n 2, 1) := by decide +kernel
theorem dL_377 : decode code 377 = .ok (.aload_n 0, 1) := by decide +kernel
theorem dL_378 : decode code 378 = .ok (.iload_n 3, 1) := by decide +kernel
theorem dL_379 : decode code 379 = .ok (.iconst 1, 1) := by decide +kernel
theorem dL_380 : decode code 380 = .ok (.iadd, 1) := by decide +kernel
theorem dL_381 : decode code 381 = .ok (.iaload, 1) := by decide +kernel
theorem dL_382 : decode code 382 = .ok (.invokevirtual 56, 3) := by decide +kernel
theorem dL_385 : decode code 385 = .ok (.if_icmp .eq 400, 3) := by decide +kernel
theorem dL_390 : decode code 390 = .ok (.aload_n 1, 1) := by decide +kernel
theorem dL_391 : decode code 391 = .ok (.aload_n 0, 1) := by decide +kernel
theorem dL_392 : decode code 392 = .ok (.iload_n 3, 1) := by decide +kernel
theorem dL_393 : decode code 393 = .ok (.iconst 1, 1) := by decide +kernel
theorem dL_394 : decode code 394 = .ok (.iadd, 1) := by decide +kernel
theorem dL_395 : decode code 395 = .ok (.iaload, 1) := by decide +kernel
theorem dL_396 : decode code 396 = .ok (.invokevirtual 57, 3) := by decide +kernel
theorem dL_399 : decode code 399 = .ok (.aload_n 2, 1) := by decide +kernel
