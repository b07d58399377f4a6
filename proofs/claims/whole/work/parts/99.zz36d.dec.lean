/-! THE LAW: its instructions, 4 -/
theorem dl_283 : decode code 283 = .ok (.iconst 0, 1) := by decide +kernel
theorem dl_284 : decode code 284 = .ok (.ireturn, 1) := by decide +kernel
theorem dl_285 : decode code 285 = .ok (.goto 179, 3) := by decide +kernel
theorem dl_288 : decode code 288 = .ok (.aload_n 1, 1) := by decide +kernel
theorem dl_289 : decode code 289 = .ok (.aload_n 0, 1) := by decide +kernel
theorem dl_290 : decode code 290 = .ok (.iload 4, 2) := by decide +kernel
theorem dl_292 : decode code 292 = .ok (.iconst 1, 1) := by decide +kernel
theorem dl_293 : decode code 293 = .ok (.iadd, 1) := by decide +kernel
theorem dl_294 : decode code 294 = .ok (.iaload, 1) := by decide +kernel
theorem dl_295 : decode code 295 = .ok (.aload_n 0, 1) := by decide +kernel
theorem dl_296 : decode code 296 = .ok (.iload 4, 2) := by decide +kernel
theorem dl_298 : decode code 298 = .ok (.iconst 2, 1) := by decide +kernel
theorem dl_299 : decode code 299 = .ok (.iadd, 1) := by decide +kernel
theorem dl_300 : decode code 300 = .ok (.iaload, 1) := by decide +kernel
theorem dl_301 : decode code 301 = .ok (.aload_n 0, 1) := by decide +kernel
theorem dl_302 : decode code 302 = .ok (.iload 4, 2) := by decide +kernel
theorem dl_304 : decode code 304 = .ok (.iconst 3, 1) := by decide +kernel
theorem dl_305 : decode code 305 = .ok (.iadd, 1) := by decide +kernel
theorem dl_306 : decode code 306 = .ok (.iaload, 1) := by decide +kernel
theorem dl_307 : decode code 307 = .ok (.aload_n 0, 1) := by decide +kernel
theorem dl_308 : decode code 308 = .ok (.iload 4, 2) := by decide +kernel
theorem dl_310 : decode code 310 = .ok (.iconst 4, 1) := by decide +kernel
theorem dl_311 : decode code 311 = .ok (.iadd, 1) := by decide +kernel
theorem dl_312 : decode code 312 = .ok (.iaload, 1) := by decide +kernel
theorem dl_313 : decode code 313 = .ok (.aload_n 3, 1) := by decide +kernel
theorem dl_314 : decode code 314 = .ok (.invokestatic 70, 3) := by decide +kernel
theorem dl_317 : decode code 317 = .ok (.istore 5, 2) := by decide +kernel
theorem dl_319 : decode code 319 = .ok (.aload_n 2, 1) := by decide +kernel
theorem dl_320 : decode code 320 = .ok (.aload_n 0, 1) := by decide +kernel
theorem dl_321 : decode code 321 = .ok (.iload 4, 2) := by decide +kernel
theorem dl_323 : decode code 323 = .ok (.iconst 1, 1) := by decide +kernel
theorem dl_324 : decode code 324 = .ok (.iadd, 1) := by decide +kernel
theorem dl_325 : decode code 325 = .ok (.iaload, 1) := by decide +kernel
theorem dl_326 : decode code 326 = .ok (.aload_n 0, 1) := by decide +kernel
theorem dl_327 : decode code 327 = .ok (.iload 4, 2) := by decide +kernel
theorem dl_329 : decode code 329 = .ok (.iconst 2, 1) := by decide +kernel
theorem dl_330 : decode code 330 = .ok (.iadd, 1) := by decide +kernel
theorem dl_331 : decode code 331 = .ok (.iaload, 1) := by decide +kernel
theorem dl_332 : decode code 332 = .ok (.aload_n 0, 1) := by decide +kernel
theorem dl_333 : decode code 333 = .ok (.iload 4, 2) := by decide +kernel
theorem dl_335 : decode code 335 = .ok (.iconst 3, 1) := by decide +kernel
theorem dl_336 : decode code 336 = .ok (.iadd, 1) := by decide +kernel
theorem dl_337 : decode code 337 = .ok (.iaload, 1) := by decide +kernel
theorem dl_338 : decode code 338 = .ok (.aload_n 0, 1) := by decide +kernel
theorem dl_339 : decode code 339 = .ok (.iload 4, 2) := by decide +kernel
theorem dl_341 : decode code 341 = .ok (.iconst 4, 1) := by decide +kernel
theorem dl_342 : decode code 342 = .ok (.iadd, 1) := by decide +kernel
theorem dl_343 : decode code 343 = .ok (.iaload, 1) := by decide +kernel
theorem dl_344 : decode code 344 = .ok (.invokevirtual 73, 3) := by decide +kernel
theorem dl_347 : decode code 347 = .ok (.istore 6, 2) := by decide +kernel
