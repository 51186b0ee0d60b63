/-! the law's instructions -/
theorem dw_283 : decode code 283 = .ok (.aload_n 0, 1) := by decide +kernel
theorem dw_284 : decode code 284 = .ok (.iload 4, 2) := by decide +kernel
theorem dw_286 : decode code 286 = .ok (.iconst 1, 1) := by decide +kernel
theorem dw_287 : decode code 287 = .ok (.iadd, 1) := by decide +kernel
theorem dw_288 : decode code 288 = .ok (.iaload, 1) := by decide +kernel
theorem dw_289 : decode code 289 = .ok (.invokevirtual 64, 3) := by decide +kernel
theorem dw_292 : decode code 292 = .ok (.if_icmp .eq 223, 3) := by decide +kernel
theorem dw_295 : decode code 295 = .ok (.iconst 0, 1) := by decide +kernel
theorem dw_296 : decode code 296 = .ok (.ireturn, 1) := by decide +kernel
theorem dw_297 : decode code 297 = .ok (.aload_n 1, 1) := by decide +kernel
theorem dw_298 : decode code 298 = .ok (.invokevirtual 65, 3) := by decide +kernel
theorem dw_301 : decode code 301 = .ok (.aload_n 2, 1) := by decide +kernel
theorem dw_302 : decode code 302 = .ok (.invokevirtual 68, 3) := by decide +kernel
theorem dw_305 : decode code 305 = .ok (.if_icmp .eq 210, 3) := by decide +kernel
theorem dw_308 : decode code 308 = .ok (.iconst 0, 1) := by decide +kernel
theorem dw_309 : decode code 309 = .ok (.ireturn, 1) := by decide +kernel
theorem dw_310 : decode code 310 = .ok (.aload_n 1, 1) := by decide +kernel
theorem dw_311 : decode code 311 = .ok (.aload_n 0, 1) := by decide +kernel
theorem dw_312 : decode code 312 = .ok (.iload 4, 2) := by decide +kernel
theorem dw_314 : decode code 314 = .ok (.iconst 1, 1) := by decide +kernel
theorem dw_315 : decode code 315 = .ok (.iadd, 1) := by decide +kernel
theorem dw_316 : decode code 316 = .ok (.iaload, 1) := by decide +kernel
theorem dw_317 : decode code 317 = .ok (.aload_n 0, 1) := by decide +kernel
theorem dw_318 : decode code 318 = .ok (.iload 4, 2) := by decide +kernel
theorem dw_320 : decode code 320 = .ok (.iconst 2, 1) := by decide +kernel
theorem dw_321 : decode code 321 = .ok (.iadd, 1) := by decide +kernel
theorem dw_322 : decode code 322 = .ok (.iaload, 1) := by decide +kernel
theorem dw_323 : decode code 323 = .ok (.aload_n 3, 1) := by decide +kernel
theorem dw_324 : decode code 324 = .ok (.invokestatic 69, 3) := by decide +kernel
theorem dw_327 : decode code 327 = .ok (.istore 5, 2) := by decide +kernel
theorem dw_329 : decode code 329 = .ok (.aload_n 2, 1) := by decide +kernel
theorem dw_330 : decode code 330 = .ok (.aload_n 0, 1) := by decide +kernel
theorem dw_331 : decode code 331 = .ok (.iload 4, 2) := by decide +kernel
theorem dw_333 : decode code 333 = .ok (.iconst 1, 1) := by decide +kernel
theorem dw_334 : decode code 334 = .ok (.iadd, 1) := by decide +kernel
theorem dw_335 : decode code 335 = .ok (.iaload, 1) := by decide +kernel
theorem dw_336 : decode code 336 = .ok (.aload_n 0, 1) := by decide +kernel
theorem dw_337 : decode code 337 = .ok (.iload 4, 2) := by decide +kernel
theorem dw_339 : decode code 339 = .ok (.iconst 2, 1) := by decide +kernel
theorem dw_340 : decode code 340 = .ok (.iadd, 1) := by decide +kernel
theorem dw_341 : decode code 341 = .ok (.iaload, 1) := by decide +kernel
theorem dw_342 : decode code 342 = .ok (.invokevirtual 72, 3) := by decide +kernel
theorem dw_345 : decode code 345 = .ok (.istore 6, 2) := by decide +kernel
theorem dw_347 : decode code 347 = .ok (.aload_n 2, 1) := by decide +kernel
theorem dw_348 : decode code 348 = .ok (.invokevirtual 50, 3) := by decide +kernel
theorem dw_351 : decode code 351 = .ok (.iload 5, 2) := by decide +kernel
theorem dw_353 : decode code 353 = .ok (.if_icmp .eq 5, 3) := by decide +kernel
theorem dw_356 : decode code 356 = .ok (.iconst 0, 1) := by decide +kernel
theorem dw_357 : decode code 357 = .ok (.ireturn, 1) := by decide +kernel
theorem dw_358 : decode code 358 = .ok (.iload 5, 2) := by decide +kernel
