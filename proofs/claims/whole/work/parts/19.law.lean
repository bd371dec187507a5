/-! the law: by program (wip/whole/genlaw.py) -/
theorem dL_law_0 : decode cL_law 0 = .ok (.new 8, 3) := by decide +kernel
theorem dL_law_3 : decode cL_law 3 = .ok (.dup, 1) := by decide +kernel
theorem dL_law_4 : decode cL_law 4 = .ok (.invokespecial 98, 3) := by decide +kernel
theorem dL_law_7 : decode cL_law 7 = .ok (.astore_n 1, 1) := by decide +kernel
theorem dL_law_8 : decode cL_law 8 = .ok (.new 99, 3) := by decide +kernel
theorem dL_law_11 : decode cL_law 11 = .ok (.dup, 1) := by decide +kernel
theorem dL_law_12 : decode cL_law 12 = .ok (.invokespecial 101, 3) := by decide +kernel
theorem dL_law_15 : decode cL_law 15 = .ok (.astore_n 2, 1) := by decide +kernel
theorem dL_law_16 : decode cL_law 16 = .ok (.iconst 1, 1) := by decide +kernel
theorem dL_law_17 : decode cL_law 17 = .ok (.newarray .long, 2) := by decide +kernel
theorem dL_law_19 : decode cL_law 19 = .ok (.astore_n 3, 1) := by decide +kernel
theorem dL_law_20 : decode cL_law 20 = .ok (.iconst 0, 1) := by decide +kernel
theorem dL_law_21 : decode cL_law 21 = .ok (.istore 4, 2) := by decide +kernel
theorem dL_law_23 : decode cL_law 23 = .ok (.iload 4, 2) := by decide +kernel
theorem dL_law_25 : decode cL_law 25 = .ok (.aload_n 0, 1) := by decide +kernel
theorem dL_law_26 : decode cL_law 26 = .ok (.arraylength, 1) := by decide +kernel
theorem dL_law_27 : decode cL_law 27 = .ok (.bipush 6, 2) := by decide +kernel
theorem dL_law_29 : decode cL_law 29 = .ok (.isub, 1) := by decide +kernel
theorem dL_law_30 : decode cL_law 30 = .ok (.if_icmp .gt 1871, 3) := by decide +kernel
theorem dL_law_33 : decode cL_law 33 = .ok (.aload_n 0, 1) := by decide +kernel
theorem dL_law_34 : decode cL_law 34 = .ok (.iload 4, 2) := by decide +kernel
theorem dL_law_36 : decode cL_law 36 = .ok (.iaload, 1) := by decide +kernel
theorem dL_law_37 : decode cL_law 37 = .ok (.bipush 31, 2) := by decide +kernel
theorem dL_law_39 : decode cL_law 39 = .ok (.iand, 1) := by decide +kernel
theorem dL_law_40 : decode cL_law 40 = .ok (.tableswitch 1855 0 27 #[128, 184, 197, 301, 409, 501, 593, 685, 753, 809, 877, 933, 989, 1045, 1058, 1121, 1184, 1247, 1315, 1383, 1446, 1509, 1522, 1606, 1650, 1663, 1719, 1787], 128) := by decide +kernel
theorem dL_law_168 : decode cL_law 168 = .ok (.aload_n 1, 1) := by decide +kernel
theorem dL_law_169 : decode cL_law 169 = .ok (.aload_n 0, 1) := by decide +kernel
theorem dL_law_170 : decode cL_law 170 = .ok (.iload 4, 2) := by decide +kernel
theorem dL_law_172 : decode cL_law 172 = .ok (.iconst 1, 1) := by decide +kernel
theorem dL_law_173 : decode cL_law 173 = .ok (.iadd, 1) := by decide +kernel
theorem dL_law_174 : decode cL_law 174 = .ok (.iaload, 1) := by decide +kernel
theorem dL_law_175 : decode cL_law 175 = .ok (.aload_n 3, 1) := by decide +kernel
theorem dL_law_176 : decode cL_law 176 = .ok (.invokestatic 102, 3) := by decide +kernel
theorem dL_law_179 : decode cL_law 179 = .ok (.istore 5, 2) := by decide +kernel
theorem dL_law_181 : decode cL_law 181 = .ok (.aload_n 2, 1) := by decide +kernel
theorem dL_law_182 : decode cL_law 182 = .ok (.aload_n 0, 1) := by decide +kernel
theorem dL_law_183 : decode cL_law 183 = .ok (.iload 4, 2) := by decide +kernel
theorem dL_law_185 : decode cL_law 185 = .ok (.iconst 1, 1) := by decide +kernel
theorem dL_law_186 : decode cL_law 186 = .ok (.iadd, 1) := by decide +kernel
theorem dL_law_187 : decode cL_law 187 = .ok (.iaload, 1) := by decide +kernel
theorem dL_law_188 : decode cL_law 188 = .ok (.invokevirtual 107, 3) := by decide +kernel
theorem dL_law_191 : decode cL_law 191 = .ok (.istore 6, 2) := by decide +kernel
theorem dL_law_193 : decode cL_law 193 = .ok (.aload_n 2, 1) := by decide +kernel
theorem dL_law_194 : decode cL_law 194 = .ok (.invokevirtual 108, 3) := by decide +kernel
theorem dL_law_197 : decode cL_law 197 = .ok (.iload 5, 2) := by decide +kernel
theorem dL_law_199 : decode cL_law 199 = .ok (.if_icmp .eq 5, 3) := by decide +kernel
theorem dL_law_202 : decode cL_law 202 = .ok (.iconst 0, 1) := by decide +kernel
theorem dL_law_203 : decode cL_law 203 = .ok (.ireturn, 1) := by decide +kernel
theorem dL_law_204 : decode cL_law 204 = .ok (.iload 5, 2) := by decide +kernel
theorem dL_law_206 : decode cL_law 206 = .ok (.ifCond .ne 15, 3) := by decide +kernel
theorem dL_law_209 : decode cL_law 209 = .ok (.aload_n 3, 1) := by decide +kernel
theorem dL_law_210 : decode cL_law 210 = .ok (.iconst 0, 1) := by decide +kernel
theorem dL_law_211 : decode cL_law 211 = .ok (.laload, 1) := by decide +kernel
theorem dL_law_212 : decode cL_law 212 = .ok (.iload 6, 2) := by decide +kernel
theorem dL_law_214 : decode cL_law 214 = .ok (.i2l, 1) := by decide +kernel
theorem dL_law_215 : decode cL_law 215 = .ok (.lcmp, 1) := by decide +kernel
theorem dL_law_216 : decode cL_law 216 = .ok (.ifCond .eq 5, 3) := by decide +kernel
theorem dL_law_219 : decode cL_law 219 = .ok (.iconst 0, 1) := by decide +kernel
theorem dL_law_220 : decode cL_law 220 = .ok (.ireturn, 1) := by decide +kernel
theorem dL_law_221 : decode cL_law 221 = .ok (.goto 1674, 3) := by decide +kernel
theorem dL_law_224 : decode cL_law 224 = .ok (.aload_n 1, 1) := by decide +kernel
theorem dL_law_225 : decode cL_law 225 = .ok (.invokevirtual 111, 3) := by decide +kernel
theorem dL_law_228 : decode cL_law 228 = .ok (.aload_n 2, 1) := by decide +kernel
theorem dL_law_229 : decode cL_law 229 = .ok (.invokevirtual 114, 3) := by decide +kernel
theorem dL_law_232 : decode cL_law 232 = .ok (.if_icmp .eq 1663, 3) := by decide +kernel
theorem dL_law_235 : decode cL_law 235 = .ok (.iconst 0, 1) := by decide +kernel
theorem dL_law_236 : decode cL_law 236 = .ok (.ireturn, 1) := by decide +kernel
theorem dL_law_237 : decode cL_law 237 = .ok (.aload_n 1, 1) := by decide +kernel
theorem dL_law_238 : decode cL_law 238 = .ok (.aload_n 0, 1) := by decide +kernel
theorem dL_law_239 : decode cL_law 239 = .ok (.iload 4, 2) := by decide +kernel
theorem dL_law_241 : decode cL_law 241 = .ok (.iconst 1, 1) := by decide +kernel
theorem dL_law_242 : decode cL_law 242 = .ok (.iadd, 1) := by decide +kernel
theorem dL_law_243 : decode cL_law 243 = .ok (.iaload, 1) := by decide +kernel
theorem dL_law_244 : decode cL_law 244 = .ok (.aload_n 0, 1) := by decide +kernel
theorem dL_law_245 : decode cL_law 245 = .ok (.iload 4, 2) := by decide +kernel
theorem dL_law_247 : decode cL_law 247 = .ok (.iconst 2, 1) := by decide +kernel
theorem dL_law_248 : decode cL_law 248 = .ok (.iadd, 1) := by decide +kernel
theorem dL_law_249 : decode cL_law 249 = .ok (.iaload, 1) := by decide +kernel
theorem dL_law_250 : decode cL_law 250 = .ok (.aload_n 0, 1) := by decide +kernel
theorem dL_law_251 : decode cL_law 251 = .ok (.iload 4, 2) := by decide +kernel
theorem dL_law_253 : decode cL_law 253 = .ok (.iconst 3, 1) := by decide +kernel
theorem dL_law_254 : decode cL_law 254 = .ok (.iadd, 1) := by decide +kernel
theorem dL_law_255 : decode cL_law 255 = .ok (.iaload, 1) := by decide +kernel
theorem dL_law_256 : decode cL_law 256 = .ok (.aload_n 0, 1) := by decide +kernel
theorem dL_law_257 : decode cL_law 257 = .ok (.iload 4, 2) := by decide +kernel
theorem dL_law_259 : decode cL_law 259 = .ok (.iconst 4, 1) := by decide +kernel
theorem dL_law_260 : decode cL_law 260 = .ok (.iadd, 1) := by decide +kernel
theorem dL_law_261 : decode cL_law 261 = .ok (.iaload, 1) := by decide +kernel
theorem dL_law_262 : decode cL_law 262 = .ok (.aload_n 0, 1) := by decide +kernel
theorem dL_law_263 : decode cL_law 263 = .ok (.iload 4, 2) := by decide +kernel
theorem dL_law_265 : decode cL_law 265 = .ok (.iconst 5, 1) := by decide +kernel
theorem dL_law_266 : decode cL_law 266 = .ok (.iadd, 1) := by decide +kernel
theorem dL_law_267 : decode cL_law 267 = .ok (.iaload, 1) := by decide +kernel
theorem dL_law_268 : decode cL_law 268 = .ok (.aload_n 3, 1) := by decide +kernel
theorem dL_law_269 : decode cL_law 269 = .ok (.invokestatic 115, 3) := by decide +kernel
theorem dL_law_272 : decode cL_law 272 = .ok (.istore 5, 2) := by decide +kernel
theorem dL_law_274 : decode cL_law 274 = .ok (.aload_n 2, 1) := by decide +kernel
theorem dL_law_275 : decode cL_law 275 = .ok (.aload_n 0, 1) := by decide +kernel
theorem dL_law_276 : decode cL_law 276 = .ok (.iload 4, 2) := by decide +kernel
theorem dL_law_278 : decode cL_law 278 = .ok (.iconst 1, 1) := by decide +kernel
theorem dL_law_279 : decode cL_law 279 = .ok (.iadd, 1) := by decide +kernel
theorem dL_law_280 : decode cL_law 280 = .ok (.iaload, 1) := by decide +kernel
theorem dL_law_281 : decode cL_law 281 = .ok (.aload_n 0, 1) := by decide +kernel
theorem dL_law_282 : decode cL_law 282 = .ok (.iload 4, 2) := by decide +kernel
theorem dL_law_284 : decode cL_law 284 = .ok (.iconst 2, 1) := by decide +kernel
theorem dL_law_285 : decode cL_law 285 = .ok (.iadd, 1) := by decide +kernel
theorem dL_law_286 : decode cL_law 286 = .ok (.iaload, 1) := by decide +kernel
theorem dL_law_287 : decode cL_law 287 = .ok (.aload_n 0, 1) := by decide +kernel
theorem dL_law_288 : decode cL_law 288 = .ok (.iload 4, 2) := by decide +kernel
theorem dL_law_290 : decode cL_law 290 = .ok (.iconst 3, 1) := by decide +kernel
theorem dL_law_291 : decode cL_law 291 = .ok (.iadd, 1) := by decide +kernel
theorem dL_law_292 : decode cL_law 292 = .ok (.iaload, 1) := by decide +kernel
theorem dL_law_293 : decode cL_law 293 = .ok (.aload_n 0, 1) := by decide +kernel
theorem dL_law_294 : decode cL_law 294 = .ok (.iload 4, 2) := by decide +kernel
theorem dL_law_296 : decode cL_law 296 = .ok (.iconst 4, 1) := by decide +kernel
theorem dL_law_297 : decode cL_law 297 = .ok (.iadd, 1) := by decide +kernel
theorem dL_law_298 : decode cL_law 298 = .ok (.iaload, 1) := by decide +kernel
theorem dL_law_299 : decode cL_law 299 = .ok (.aload_n 0, 1) := by decide +kernel
theorem dL_law_300 : decode cL_law 300 = .ok (.iload 4, 2) := by decide +kernel
theorem dL_law_302 : decode cL_law 302 = .ok (.iconst 5, 1) := by decide +kernel
theorem dL_law_303 : decode cL_law 303 = .ok (.iadd, 1) := by decide +kernel
theorem dL_law_304 : decode cL_law 304 = .ok (.iaload, 1) := by decide +kernel
theorem dL_law_305 : decode cL_law 305 = .ok (.invokevirtual 118, 3) := by decide +kernel
theorem dL_law_308 : decode cL_law 308 = .ok (.istore 6, 2) := by decide +kernel
theorem dL_law_310 : decode cL_law 310 = .ok (.aload_n 2, 1) := by decide +kernel
theorem dL_law_311 : decode cL_law 311 = .ok (.invokevirtual 108, 3) := by decide +kernel
theorem dL_law_314 : decode cL_law 314 = .ok (.iload 5, 2) := by decide +kernel
theorem dL_law_316 : decode cL_law 316 = .ok (.if_icmp .eq 5, 3) := by decide +kernel
theorem dL_law_319 : decode cL_law 319 = .ok (.iconst 0, 1) := by decide +kernel
theorem dL_law_320 : decode cL_law 320 = .ok (.ireturn, 1) := by decide +kernel
theorem dL_law_321 : decode cL_law 321 = .ok (.iload 5, 2) := by decide +kernel
theorem dL_law_323 : decode cL_law 323 = .ok (.ifCond .ne 15, 3) := by decide +kernel
theorem dL_law_326 : decode cL_law 326 = .ok (.aload_n 3, 1) := by decide +kernel
theorem dL_law_327 : decode cL_law 327 = .ok (.iconst 0, 1) := by decide +kernel
theorem dL_law_328 : decode cL_law 328 = .ok (.laload, 1) := by decide +kernel
theorem dL_law_329 : decode cL_law 329 = .ok (.iload 6, 2) := by decide +kernel
theorem dL_law_331 : decode cL_law 331 = .ok (.i2l, 1) := by decide +kernel
theorem dL_law_332 : decode cL_law 332 = .ok (.lcmp, 1) := by decide +kernel
theorem dL_law_333 : decode cL_law 333 = .ok (.ifCond .eq 5, 3) := by decide +kernel
theorem dL_law_336 : decode cL_law 336 = .ok (.iconst 0, 1) := by decide +kernel
theorem dL_law_337 : decode cL_law 337 = .ok (.ireturn, 1) := by decide +kernel
theorem dL_law_338 : decode cL_law 338 = .ok (.goto 1557, 3) := by decide +kernel
theorem dL_law_341 : decode cL_law 341 = .ok (.aload_n 1, 1) := by decide +kernel
theorem dL_law_342 : decode cL_law 342 = .ok (.aload_n 0, 1) := by decide +kernel
theorem dL_law_343 : decode cL_law 343 = .ok (.iload 4, 2) := by decide +kernel
theorem dL_law_345 : decode cL_law 345 = .ok (.iconst 1, 1) := by decide +kernel
theorem dL_law_346 : decode cL_law 346 = .ok (.iadd, 1) := by decide +kernel
theorem dL_law_347 : decode cL_law 347 = .ok (.iaload, 1) := by decide +kernel
theorem dL_law_348 : decode cL_law 348 = .ok (.aload_n 0, 1) := by decide +kernel
theorem dL_law_349 : decode cL_law 349 = .ok (.iload 4, 2) := by decide +kernel
theorem dL_law_351 : decode cL_law 351 = .ok (.iconst 2, 1) := by decide +kernel
theorem dL_law_352 : decode cL_law 352 = .ok (.iadd, 1) := by decide +kernel
theorem dL_law_353 : decode cL_law 353 = .ok (.iaload, 1) := by decide +kernel
theorem dL_law_354 : decode cL_law 354 = .ok (.aload_n 0, 1) := by decide +kernel
theorem dL_law_355 : decode cL_law 355 = .ok (.iload 4, 2) := by decide +kernel
theorem dL_law_357 : decode cL_law 357 = .ok (.iconst 3, 1) := by decide +kernel
theorem dL_law_358 : decode cL_law 358 = .ok (.iadd, 1) := by decide +kernel
theorem dL_law_359 : decode cL_law 359 = .ok (.iaload, 1) := by decide +kernel
theorem dL_law_360 : decode cL_law 360 = .ok (.aload_n 0, 1) := by decide +kernel
theorem dL_law_361 : decode cL_law 361 = .ok (.iload 4, 2) := by decide +kernel
theorem dL_law_363 : decode cL_law 363 = .ok (.iconst 4, 1) := by decide +kernel
theorem dL_law_364 : decode cL_law 364 = .ok (.iadd, 1) := by decide +kernel
theorem dL_law_365 : decode cL_law 365 = .ok (.iaload, 1) := by decide +kernel
theorem dL_law_366 : decode cL_law 366 = .ok (.ifCond .eq 7, 3) := by decide +kernel
theorem dL_law_369 : decode cL_law 369 = .ok (.iconst 1, 1) := by decide +kernel
theorem dL_law_370 : decode cL_law 370 = .ok (.goto 4, 3) := by decide +kernel
theorem dL_law_373 : decode cL_law 373 = .ok (.iconst 0, 1) := by decide +kernel
theorem dL_law_374 : decode cL_law 374 = .ok (.aload_n 3, 1) := by decide +kernel
theorem dL_law_375 : decode cL_law 375 = .ok (.invokestatic 119, 3) := by decide +kernel
theorem dL_law_378 : decode cL_law 378 = .ok (.istore 5, 2) := by decide +kernel
theorem dL_law_380 : decode cL_law 380 = .ok (.aload_n 2, 1) := by decide +kernel
theorem dL_law_381 : decode cL_law 381 = .ok (.aload_n 0, 1) := by decide +kernel
theorem dL_law_382 : decode cL_law 382 = .ok (.iload 4, 2) := by decide +kernel
theorem dL_law_384 : decode cL_law 384 = .ok (.iconst 1, 1) := by decide +kernel
theorem dL_law_385 : decode cL_law 385 = .ok (.iadd, 1) := by decide +kernel
theorem dL_law_386 : decode cL_law 386 = .ok (.iaload, 1) := by decide +kernel
theorem dL_law_387 : decode cL_law 387 = .ok (.aload_n 0, 1) := by decide +kernel
theorem dL_law_388 : decode cL_law 388 = .ok (.iload 4, 2) := by decide +kernel
theorem dL_law_390 : decode cL_law 390 = .ok (.iconst 2, 1) := by decide +kernel
theorem dL_law_391 : decode cL_law 391 = .ok (.iadd, 1) := by decide +kernel
theorem dL_law_392 : decode cL_law 392 = .ok (.iaload, 1) := by decide +kernel
theorem dL_law_393 : decode cL_law 393 = .ok (.aload_n 0, 1) := by decide +kernel
theorem dL_law_394 : decode cL_law 394 = .ok (.iload 4, 2) := by decide +kernel
theorem dL_law_396 : decode cL_law 396 = .ok (.iconst 3, 1) := by decide +kernel
theorem dL_law_397 : decode cL_law 397 = .ok (.iadd, 1) := by decide +kernel
theorem dL_law_398 : decode cL_law 398 = .ok (.iaload, 1) := by decide +kernel
theorem dL_law_399 : decode cL_law 399 = .ok (.aload_n 0, 1) := by decide +kernel
theorem dL_law_400 : decode cL_law 400 = .ok (.iload 4, 2) := by decide +kernel
theorem dL_law_402 : decode cL_law 402 = .ok (.iconst 4, 1) := by decide +kernel
theorem dL_law_403 : decode cL_law 403 = .ok (.iadd, 1) := by decide +kernel
theorem dL_law_404 : decode cL_law 404 = .ok (.iaload, 1) := by decide +kernel
theorem dL_law_405 : decode cL_law 405 = .ok (.ifCond .eq 7, 3) := by decide +kernel
theorem dL_law_408 : decode cL_law 408 = .ok (.iconst 1, 1) := by decide +kernel
theorem dL_law_409 : decode cL_law 409 = .ok (.goto 4, 3) := by decide +kernel
theorem dL_law_412 : decode cL_law 412 = .ok (.iconst 0, 1) := by decide +kernel
theorem dL_law_413 : decode cL_law 413 = .ok (.invokevirtual 122, 3) := by decide +kernel
theorem dL_law_416 : decode cL_law 416 = .ok (.istore 6, 2) := by decide +kernel
theorem dL_law_418 : decode cL_law 418 = .ok (.aload_n 2, 1) := by decide +kernel
theorem dL_law_419 : decode cL_law 419 = .ok (.invokevirtual 108, 3) := by decide +kernel
theorem dL_law_422 : decode cL_law 422 = .ok (.iload 5, 2) := by decide +kernel
theorem dL_law_424 : decode cL_law 424 = .ok (.if_icmp .eq 5, 3) := by decide +kernel
theorem dL_law_427 : decode cL_law 427 = .ok (.iconst 0, 1) := by decide +kernel
theorem dL_law_428 : decode cL_law 428 = .ok (.ireturn, 1) := by decide +kernel
theorem dL_law_429 : decode cL_law 429 = .ok (.iload 5, 2) := by decide +kernel
theorem dL_law_431 : decode cL_law 431 = .ok (.ifCond .ne 15, 3) := by decide +kernel
theorem dL_law_434 : decode cL_law 434 = .ok (.aload_n 3, 1) := by decide +kernel
theorem dL_law_435 : decode cL_law 435 = .ok (.iconst 0, 1) := by decide +kernel
theorem dL_law_436 : decode cL_law 436 = .ok (.laload, 1) := by decide +kernel
theorem dL_law_437 : decode cL_law 437 = .ok (.iload 6, 2) := by decide +kernel
theorem dL_law_439 : decode cL_law 439 = .ok (.i2l, 1) := by decide +kernel
theorem dL_law_440 : decode cL_law 440 = .ok (.lcmp, 1) := by decide +kernel
theorem dL_law_441 : decode cL_law 441 = .ok (.ifCond .eq 5, 3) := by decide +kernel
theorem dL_law_444 : decode cL_law 444 = .ok (.iconst 0, 1) := by decide +kernel
theorem dL_law_445 : decode cL_law 445 = .ok (.ireturn, 1) := by decide +kernel
theorem dL_law_446 : decode cL_law 446 = .ok (.goto 1449, 3) := by decide +kernel
theorem dL_law_449 : decode cL_law 449 = .ok (.aload_n 1, 1) := by decide +kernel
theorem dL_law_450 : decode cL_law 450 = .ok (.aload_n 0, 1) := by decide +kernel
theorem dL_law_451 : decode cL_law 451 = .ok (.iload 4, 2) := by decide +kernel
theorem dL_law_453 : decode cL_law 453 = .ok (.iconst 1, 1) := by decide +kernel
theorem dL_law_454 : decode cL_law 454 = .ok (.iadd, 1) := by decide +kernel
theorem dL_law_455 : decode cL_law 455 = .ok (.iaload, 1) := by decide +kernel
theorem dL_law_456 : decode cL_law 456 = .ok (.aload_n 0, 1) := by decide +kernel
theorem dL_law_457 : decode cL_law 457 = .ok (.iload 4, 2) := by decide +kernel
theorem dL_law_459 : decode cL_law 459 = .ok (.iconst 2, 1) := by decide +kernel
theorem dL_law_460 : decode cL_law 460 = .ok (.iadd, 1) := by decide +kernel
theorem dL_law_461 : decode cL_law 461 = .ok (.iaload, 1) := by decide +kernel
theorem dL_law_462 : decode cL_law 462 = .ok (.aload_n 0, 1) := by decide +kernel
theorem dL_law_463 : decode cL_law 463 = .ok (.iload 4, 2) := by decide +kernel
theorem dL_law_465 : decode cL_law 465 = .ok (.iconst 3, 1) := by decide +kernel
theorem dL_law_466 : decode cL_law 466 = .ok (.iadd, 1) := by decide +kernel
theorem dL_law_467 : decode cL_law 467 = .ok (.iaload, 1) := by decide +kernel
theorem dL_law_468 : decode cL_law 468 = .ok (.aload_n 0, 1) := by decide +kernel
theorem dL_law_469 : decode cL_law 469 = .ok (.iload 4, 2) := by decide +kernel
theorem dL_law_471 : decode cL_law 471 = .ok (.iconst 4, 1) := by decide +kernel
theorem dL_law_472 : decode cL_law 472 = .ok (.iadd, 1) := by decide +kernel
theorem dL_law_473 : decode cL_law 473 = .ok (.iaload, 1) := by decide +kernel
theorem dL_law_474 : decode cL_law 474 = .ok (.aload_n 3, 1) := by decide +kernel
theorem dL_law_475 : decode cL_law 475 = .ok (.invokestatic 123, 3) := by decide +kernel
theorem dL_law_478 : decode cL_law 478 = .ok (.istore 5, 2) := by decide +kernel
theorem dL_law_480 : decode cL_law 480 = .ok (.aload_n 2, 1) := by decide +kernel
theorem dL_law_481 : decode cL_law 481 = .ok (.aload_n 0, 1) := by decide +kernel
theorem dL_law_482 : decode cL_law 482 = .ok (.iload 4, 2) := by decide +kernel
theorem dL_law_484 : decode cL_law 484 = .ok (.iconst 1, 1) := by decide +kernel
theorem dL_law_485 : decode cL_law 485 = .ok (.iadd, 1) := by decide +kernel
theorem dL_law_486 : decode cL_law 486 = .ok (.iaload, 1) := by decide +kernel
theorem dL_law_487 : decode cL_law 487 = .ok (.aload_n 0, 1) := by decide +kernel
theorem dL_law_488 : decode cL_law 488 = .ok (.iload 4, 2) := by decide +kernel
theorem dL_law_490 : decode cL_law 490 = .ok (.iconst 2, 1) := by decide +kernel
theorem dL_law_491 : decode cL_law 491 = .ok (.iadd, 1) := by decide +kernel
theorem dL_law_492 : decode cL_law 492 = .ok (.iaload, 1) := by decide +kernel
theorem dL_law_493 : decode cL_law 493 = .ok (.aload_n 0, 1) := by decide +kernel
theorem dL_law_494 : decode cL_law 494 = .ok (.iload 4, 2) := by decide +kernel
theorem dL_law_496 : decode cL_law 496 = .ok (.iconst 3, 1) := by decide +kernel
theorem dL_law_497 : decode cL_law 497 = .ok (.iadd, 1) := by decide +kernel
theorem dL_law_498 : decode cL_law 498 = .ok (.iaload, 1) := by decide +kernel
theorem dL_law_499 : decode cL_law 499 = .ok (.aload_n 0, 1) := by decide +kernel
theorem dL_law_500 : decode cL_law 500 = .ok (.iload 4, 2) := by decide +kernel
theorem dL_law_502 : decode cL_law 502 = .ok (.iconst 4, 1) := by decide +kernel
theorem dL_law_503 : decode cL_law 503 = .ok (.iadd, 1) := by decide +kernel
theorem dL_law_504 : decode cL_law 504 = .ok (.iaload, 1) := by decide +kernel
theorem dL_law_505 : decode cL_law 505 = .ok (.invokevirtual 126, 3) := by decide +kernel
theorem dL_law_508 : decode cL_law 508 = .ok (.istore 6, 2) := by decide +kernel
theorem dL_law_510 : decode cL_law 510 = .ok (.aload_n 2, 1) := by decide +kernel
theorem dL_law_511 : decode cL_law 511 = .ok (.invokevirtual 108, 3) := by decide +kernel
theorem dL_law_514 : decode cL_law 514 = .ok (.iload 5, 2) := by decide +kernel
theorem dL_law_516 : decode cL_law 516 = .ok (.if_icmp .eq 5, 3) := by decide +kernel
theorem dL_law_519 : decode cL_law 519 = .ok (.iconst 0, 1) := by decide +kernel
theorem dL_law_520 : decode cL_law 520 = .ok (.ireturn, 1) := by decide +kernel
theorem dL_law_521 : decode cL_law 521 = .ok (.iload 5, 2) := by decide +kernel
theorem dL_law_523 : decode cL_law 523 = .ok (.ifCond .ne 15, 3) := by decide +kernel
theorem dL_law_526 : decode cL_law 526 = .ok (.aload_n 3, 1) := by decide +kernel
theorem dL_law_527 : decode cL_law 527 = .ok (.iconst 0, 1) := by decide +kernel
theorem dL_law_528 : decode cL_law 528 = .ok (.laload, 1) := by decide +kernel
theorem dL_law_529 : decode cL_law 529 = .ok (.iload 6, 2) := by decide +kernel
theorem dL_law_531 : decode cL_law 531 = .ok (.i2l, 1) := by decide +kernel
theorem dL_law_532 : decode cL_law 532 = .ok (.lcmp, 1) := by decide +kernel
theorem dL_law_533 : decode cL_law 533 = .ok (.ifCond .eq 5, 3) := by decide +kernel
theorem dL_law_536 : decode cL_law 536 = .ok (.iconst 0, 1) := by decide +kernel
theorem dL_law_537 : decode cL_law 537 = .ok (.ireturn, 1) := by decide +kernel
theorem dL_law_538 : decode cL_law 538 = .ok (.goto 1357, 3) := by decide +kernel
theorem dL_law_541 : decode cL_law 541 = .ok (.aload_n 1, 1) := by decide +kernel
theorem dL_law_542 : decode cL_law 542 = .ok (.aload_n 0, 1) := by decide +kernel
theorem dL_law_543 : decode cL_law 543 = .ok (.iload 4, 2) := by decide +kernel
theorem dL_law_545 : decode cL_law 545 = .ok (.iconst 1, 1) := by decide +kernel
theorem dL_law_546 : decode cL_law 546 = .ok (.iadd, 1) := by decide +kernel
theorem dL_law_547 : decode cL_law 547 = .ok (.iaload, 1) := by decide +kernel
theorem dL_law_548 : decode cL_law 548 = .ok (.aload_n 0, 1) := by decide +kernel
theorem dL_law_549 : decode cL_law 549 = .ok (.iload 4, 2) := by decide +kernel
theorem dL_law_551 : decode cL_law 551 = .ok (.iconst 2, 1) := by decide +kernel
theorem dL_law_552 : decode cL_law 552 = .ok (.iadd, 1) := by decide +kernel
theorem dL_law_553 : decode cL_law 553 = .ok (.iaload, 1) := by decide +kernel
theorem dL_law_554 : decode cL_law 554 = .ok (.aload_n 0, 1) := by decide +kernel
theorem dL_law_555 : decode cL_law 555 = .ok (.iload 4, 2) := by decide +kernel
theorem dL_law_557 : decode cL_law 557 = .ok (.iconst 3, 1) := by decide +kernel
theorem dL_law_558 : decode cL_law 558 = .ok (.iadd, 1) := by decide +kernel
theorem dL_law_559 : decode cL_law 559 = .ok (.iaload, 1) := by decide +kernel
theorem dL_law_560 : decode cL_law 560 = .ok (.aload_n 0, 1) := by decide +kernel
theorem dL_law_561 : decode cL_law 561 = .ok (.iload 4, 2) := by decide +kernel
theorem dL_law_563 : decode cL_law 563 = .ok (.iconst 4, 1) := by decide +kernel
theorem dL_law_564 : decode cL_law 564 = .ok (.iadd, 1) := by decide +kernel
theorem dL_law_565 : decode cL_law 565 = .ok (.iaload, 1) := by decide +kernel
theorem dL_law_566 : decode cL_law 566 = .ok (.aload_n 3, 1) := by decide +kernel
theorem dL_law_567 : decode cL_law 567 = .ok (.invokestatic 127, 3) := by decide +kernel
theorem dL_law_570 : decode cL_law 570 = .ok (.istore 5, 2) := by decide +kernel
theorem dL_law_572 : decode cL_law 572 = .ok (.aload_n 2, 1) := by decide +kernel
theorem dL_law_573 : decode cL_law 573 = .ok (.aload_n 0, 1) := by decide +kernel
theorem dL_law_574 : decode cL_law 574 = .ok (.iload 4, 2) := by decide +kernel
theorem dL_law_576 : decode cL_law 576 = .ok (.iconst 1, 1) := by decide +kernel
theorem dL_law_577 : decode cL_law 577 = .ok (.iadd, 1) := by decide +kernel
theorem dL_law_578 : decode cL_law 578 = .ok (.iaload, 1) := by decide +kernel
theorem dL_law_579 : decode cL_law 579 = .ok (.aload_n 0, 1) := by decide +kernel
theorem dL_law_580 : decode cL_law 580 = .ok (.iload 4, 2) := by decide +kernel
theorem dL_law_582 : decode cL_law 582 = .ok (.iconst 2, 1) := by decide +kernel
theorem dL_law_583 : decode cL_law 583 = .ok (.iadd, 1) := by decide +kernel
theorem dL_law_584 : decode cL_law 584 = .ok (.iaload, 1) := by decide +kernel
theorem dL_law_585 : decode cL_law 585 = .ok (.aload_n 0, 1) := by decide +kernel
theorem dL_law_586 : decode cL_law 586 = .ok (.iload 4, 2) := by decide +kernel
theorem dL_law_588 : decode cL_law 588 = .ok (.iconst 3, 1) := by decide +kernel
theorem dL_law_589 : decode cL_law 589 = .ok (.iadd, 1) := by decide +kernel
theorem dL_law_590 : decode cL_law 590 = .ok (.iaload, 1) := by decide +kernel
theorem dL_law_591 : decode cL_law 591 = .ok (.aload_n 0, 1) := by decide +kernel
theorem dL_law_592 : decode cL_law 592 = .ok (.iload 4, 2) := by decide +kernel
theorem dL_law_594 : decode cL_law 594 = .ok (.iconst 4, 1) := by decide +kernel
theorem dL_law_595 : decode cL_law 595 = .ok (.iadd, 1) := by decide +kernel
theorem dL_law_596 : decode cL_law 596 = .ok (.iaload, 1) := by decide +kernel
theorem dL_law_597 : decode cL_law 597 = .ok (.invokevirtual 129, 3) := by decide +kernel
theorem dL_law_600 : decode cL_law 600 = .ok (.istore 6, 2) := by decide +kernel
theorem dL_law_602 : decode cL_law 602 = .ok (.aload_n 2, 1) := by decide +kernel
theorem dL_law_603 : decode cL_law 603 = .ok (.invokevirtual 108, 3) := by decide +kernel
theorem dL_law_606 : decode cL_law 606 = .ok (.iload 5, 2) := by decide +kernel
theorem dL_law_608 : decode cL_law 608 = .ok (.if_icmp .eq 5, 3) := by decide +kernel
theorem dL_law_611 : decode cL_law 611 = .ok (.iconst 0, 1) := by decide +kernel
theorem dL_law_612 : decode cL_law 612 = .ok (.ireturn, 1) := by decide +kernel
theorem dL_law_613 : decode cL_law 613 = .ok (.iload 5, 2) := by decide +kernel
theorem dL_law_615 : decode cL_law 615 = .ok (.ifCond .ne 15, 3) := by decide +kernel
theorem dL_law_618 : decode cL_law 618 = .ok (.aload_n 3, 1) := by decide +kernel
theorem dL_law_619 : decode cL_law 619 = .ok (.iconst 0, 1) := by decide +kernel
theorem dL_law_620 : decode cL_law 620 = .ok (.laload, 1) := by decide +kernel
theorem dL_law_621 : decode cL_law 621 = .ok (.iload 6, 2) := by decide +kernel
theorem dL_law_623 : decode cL_law 623 = .ok (.i2l, 1) := by decide +kernel
theorem dL_law_624 : decode cL_law 624 = .ok (.lcmp, 1) := by decide +kernel
theorem dL_law_625 : decode cL_law 625 = .ok (.ifCond .eq 5, 3) := by decide +kernel
theorem dL_law_628 : decode cL_law 628 = .ok (.iconst 0, 1) := by decide +kernel
theorem dL_law_629 : decode cL_law 629 = .ok (.ireturn, 1) := by decide +kernel
theorem dL_law_630 : decode cL_law 630 = .ok (.goto 1265, 3) := by decide +kernel
theorem dL_law_633 : decode cL_law 633 = .ok (.aload_n 1, 1) := by decide +kernel
theorem dL_law_634 : decode cL_law 634 = .ok (.aload_n 0, 1) := by decide +kernel
theorem dL_law_635 : decode cL_law 635 = .ok (.iload 4, 2) := by decide +kernel
theorem dL_law_637 : decode cL_law 637 = .ok (.iconst 1, 1) := by decide +kernel
theorem dL_law_638 : decode cL_law 638 = .ok (.iadd, 1) := by decide +kernel
theorem dL_law_639 : decode cL_law 639 = .ok (.iaload, 1) := by decide +kernel
theorem dL_law_640 : decode cL_law 640 = .ok (.aload_n 0, 1) := by decide +kernel
theorem dL_law_641 : decode cL_law 641 = .ok (.iload 4, 2) := by decide +kernel
theorem dL_law_643 : decode cL_law 643 = .ok (.iconst 2, 1) := by decide +kernel
theorem dL_law_644 : decode cL_law 644 = .ok (.iadd, 1) := by decide +kernel
theorem dL_law_645 : decode cL_law 645 = .ok (.iaload, 1) := by decide +kernel
theorem dL_law_646 : decode cL_law 646 = .ok (.aload_n 0, 1) := by decide +kernel
theorem dL_law_647 : decode cL_law 647 = .ok (.iload 4, 2) := by decide +kernel
theorem dL_law_649 : decode cL_law 649 = .ok (.iconst 3, 1) := by decide +kernel
theorem dL_law_650 : decode cL_law 650 = .ok (.iadd, 1) := by decide +kernel
theorem dL_law_651 : decode cL_law 651 = .ok (.iaload, 1) := by decide +kernel
theorem dL_law_652 : decode cL_law 652 = .ok (.aload_n 0, 1) := by decide +kernel
theorem dL_law_653 : decode cL_law 653 = .ok (.iload 4, 2) := by decide +kernel
theorem dL_law_655 : decode cL_law 655 = .ok (.iconst 4, 1) := by decide +kernel
theorem dL_law_656 : decode cL_law 656 = .ok (.iadd, 1) := by decide +kernel
theorem dL_law_657 : decode cL_law 657 = .ok (.iaload, 1) := by decide +kernel
theorem dL_law_658 : decode cL_law 658 = .ok (.aload_n 3, 1) := by decide +kernel
theorem dL_law_659 : decode cL_law 659 = .ok (.invokestatic 130, 3) := by decide +kernel
theorem dL_law_662 : decode cL_law 662 = .ok (.istore 5, 2) := by decide +kernel
theorem dL_law_664 : decode cL_law 664 = .ok (.aload_n 2, 1) := by decide +kernel
theorem dL_law_665 : decode cL_law 665 = .ok (.aload_n 0, 1) := by decide +kernel
theorem dL_law_666 : decode cL_law 666 = .ok (.iload 4, 2) := by decide +kernel
theorem dL_law_668 : decode cL_law 668 = .ok (.iconst 1, 1) := by decide +kernel
theorem dL_law_669 : decode cL_law 669 = .ok (.iadd, 1) := by decide +kernel
theorem dL_law_670 : decode cL_law 670 = .ok (.iaload, 1) := by decide +kernel
theorem dL_law_671 : decode cL_law 671 = .ok (.aload_n 0, 1) := by decide +kernel
theorem dL_law_672 : decode cL_law 672 = .ok (.iload 4, 2) := by decide +kernel
theorem dL_law_674 : decode cL_law 674 = .ok (.iconst 2, 1) := by decide +kernel
theorem dL_law_675 : decode cL_law 675 = .ok (.iadd, 1) := by decide +kernel
theorem dL_law_676 : decode cL_law 676 = .ok (.iaload, 1) := by decide +kernel
theorem dL_law_677 : decode cL_law 677 = .ok (.aload_n 0, 1) := by decide +kernel
theorem dL_law_678 : decode cL_law 678 = .ok (.iload 4, 2) := by decide +kernel
theorem dL_law_680 : decode cL_law 680 = .ok (.iconst 3, 1) := by decide +kernel
theorem dL_law_681 : decode cL_law 681 = .ok (.iadd, 1) := by decide +kernel
theorem dL_law_682 : decode cL_law 682 = .ok (.iaload, 1) := by decide +kernel
theorem dL_law_683 : decode cL_law 683 = .ok (.aload_n 0, 1) := by decide +kernel
theorem dL_law_684 : decode cL_law 684 = .ok (.iload 4, 2) := by decide +kernel
theorem dL_law_686 : decode cL_law 686 = .ok (.iconst 4, 1) := by decide +kernel
theorem dL_law_687 : decode cL_law 687 = .ok (.iadd, 1) := by decide +kernel
theorem dL_law_688 : decode cL_law 688 = .ok (.iaload, 1) := by decide +kernel
theorem dL_law_689 : decode cL_law 689 = .ok (.invokevirtual 132, 3) := by decide +kernel
theorem dL_law_692 : decode cL_law 692 = .ok (.istore 6, 2) := by decide +kernel
theorem dL_law_694 : decode cL_law 694 = .ok (.aload_n 2, 1) := by decide +kernel
theorem dL_law_695 : decode cL_law 695 = .ok (.invokevirtual 108, 3) := by decide +kernel
theorem dL_law_698 : decode cL_law 698 = .ok (.iload 5, 2) := by decide +kernel
theorem dL_law_700 : decode cL_law 700 = .ok (.if_icmp .eq 5, 3) := by decide +kernel
theorem dL_law_703 : decode cL_law 703 = .ok (.iconst 0, 1) := by decide +kernel
theorem dL_law_704 : decode cL_law 704 = .ok (.ireturn, 1) := by decide +kernel
theorem dL_law_705 : decode cL_law 705 = .ok (.iload 5, 2) := by decide +kernel
theorem dL_law_707 : decode cL_law 707 = .ok (.ifCond .ne 15, 3) := by decide +kernel
theorem dL_law_710 : decode cL_law 710 = .ok (.aload_n 3, 1) := by decide +kernel
theorem dL_law_711 : decode cL_law 711 = .ok (.iconst 0, 1) := by decide +kernel
theorem dL_law_712 : decode cL_law 712 = .ok (.laload, 1) := by decide +kernel
theorem dL_law_713 : decode cL_law 713 = .ok (.iload 6, 2) := by decide +kernel
theorem dL_law_715 : decode cL_law 715 = .ok (.i2l, 1) := by decide +kernel
theorem dL_law_716 : decode cL_law 716 = .ok (.lcmp, 1) := by decide +kernel
theorem dL_law_717 : decode cL_law 717 = .ok (.ifCond .eq 5, 3) := by decide +kernel
theorem dL_law_720 : decode cL_law 720 = .ok (.iconst 0, 1) := by decide +kernel
theorem dL_law_721 : decode cL_law 721 = .ok (.ireturn, 1) := by decide +kernel
theorem dL_law_722 : decode cL_law 722 = .ok (.goto 1173, 3) := by decide +kernel
theorem dL_law_725 : decode cL_law 725 = .ok (.aload_n 1, 1) := by decide +kernel
theorem dL_law_726 : decode cL_law 726 = .ok (.aload_n 0, 1) := by decide +kernel
theorem dL_law_727 : decode cL_law 727 = .ok (.iload 4, 2) := by decide +kernel
theorem dL_law_729 : decode cL_law 729 = .ok (.iconst 1, 1) := by decide +kernel
theorem dL_law_730 : decode cL_law 730 = .ok (.iadd, 1) := by decide +kernel
theorem dL_law_731 : decode cL_law 731 = .ok (.iaload, 1) := by decide +kernel
theorem dL_law_732 : decode cL_law 732 = .ok (.aload_n 0, 1) := by decide +kernel
theorem dL_law_733 : decode cL_law 733 = .ok (.iload 4, 2) := by decide +kernel
theorem dL_law_735 : decode cL_law 735 = .ok (.iconst 2, 1) := by decide +kernel
theorem dL_law_736 : decode cL_law 736 = .ok (.iadd, 1) := by decide +kernel
theorem dL_law_737 : decode cL_law 737 = .ok (.iaload, 1) := by decide +kernel
theorem dL_law_738 : decode cL_law 738 = .ok (.aload_n 3, 1) := by decide +kernel
theorem dL_law_739 : decode cL_law 739 = .ok (.invokestatic 133, 3) := by decide +kernel
theorem dL_law_742 : decode cL_law 742 = .ok (.istore 5, 2) := by decide +kernel
theorem dL_law_744 : decode cL_law 744 = .ok (.aload_n 2, 1) := by decide +kernel
theorem dL_law_745 : decode cL_law 745 = .ok (.aload_n 0, 1) := by decide +kernel
theorem dL_law_746 : decode cL_law 746 = .ok (.iload 4, 2) := by decide +kernel
theorem dL_law_748 : decode cL_law 748 = .ok (.iconst 1, 1) := by decide +kernel
theorem dL_law_749 : decode cL_law 749 = .ok (.iadd, 1) := by decide +kernel
theorem dL_law_750 : decode cL_law 750 = .ok (.iaload, 1) := by decide +kernel
theorem dL_law_751 : decode cL_law 751 = .ok (.aload_n 0, 1) := by decide +kernel
theorem dL_law_752 : decode cL_law 752 = .ok (.iload 4, 2) := by decide +kernel
theorem dL_law_754 : decode cL_law 754 = .ok (.iconst 2, 1) := by decide +kernel
theorem dL_law_755 : decode cL_law 755 = .ok (.iadd, 1) := by decide +kernel
theorem dL_law_756 : decode cL_law 756 = .ok (.iaload, 1) := by decide +kernel
theorem dL_law_757 : decode cL_law 757 = .ok (.invokevirtual 136, 3) := by decide +kernel
theorem dL_law_760 : decode cL_law 760 = .ok (.istore 6, 2) := by decide +kernel
theorem dL_law_762 : decode cL_law 762 = .ok (.aload_n 2, 1) := by decide +kernel
theorem dL_law_763 : decode cL_law 763 = .ok (.invokevirtual 108, 3) := by decide +kernel
theorem dL_law_766 : decode cL_law 766 = .ok (.iload 5, 2) := by decide +kernel
theorem dL_law_768 : decode cL_law 768 = .ok (.if_icmp .eq 5, 3) := by decide +kernel
theorem dL_law_771 : decode cL_law 771 = .ok (.iconst 0, 1) := by decide +kernel
theorem dL_law_772 : decode cL_law 772 = .ok (.ireturn, 1) := by decide +kernel
theorem dL_law_773 : decode cL_law 773 = .ok (.iload 5, 2) := by decide +kernel
theorem dL_law_775 : decode cL_law 775 = .ok (.ifCond .ne 15, 3) := by decide +kernel
theorem dL_law_778 : decode cL_law 778 = .ok (.aload_n 3, 1) := by decide +kernel
theorem dL_law_779 : decode cL_law 779 = .ok (.iconst 0, 1) := by decide +kernel
theorem dL_law_780 : decode cL_law 780 = .ok (.laload, 1) := by decide +kernel
theorem dL_law_781 : decode cL_law 781 = .ok (.iload 6, 2) := by decide +kernel
theorem dL_law_783 : decode cL_law 783 = .ok (.i2l, 1) := by decide +kernel
theorem dL_law_784 : decode cL_law 784 = .ok (.lcmp, 1) := by decide +kernel
theorem dL_law_785 : decode cL_law 785 = .ok (.ifCond .eq 5, 3) := by decide +kernel
theorem dL_law_788 : decode cL_law 788 = .ok (.iconst 0, 1) := by decide +kernel
theorem dL_law_789 : decode cL_law 789 = .ok (.ireturn, 1) := by decide +kernel
theorem dL_law_790 : decode cL_law 790 = .ok (.goto 1105, 3) := by decide +kernel
theorem dL_law_793 : decode cL_law 793 = .ok (.aload_n 1, 1) := by decide +kernel
theorem dL_law_794 : decode cL_law 794 = .ok (.aload_n 0, 1) := by decide +kernel
theorem dL_law_795 : decode cL_law 795 = .ok (.iload 4, 2) := by decide +kernel
theorem dL_law_797 : decode cL_law 797 = .ok (.iconst 1, 1) := by decide +kernel
theorem dL_law_798 : decode cL_law 798 = .ok (.iadd, 1) := by decide +kernel
theorem dL_law_799 : decode cL_law 799 = .ok (.iaload, 1) := by decide +kernel
theorem dL_law_800 : decode cL_law 800 = .ok (.aload_n 3, 1) := by decide +kernel
theorem dL_law_801 : decode cL_law 801 = .ok (.invokestatic 137, 3) := by decide +kernel
theorem dL_law_804 : decode cL_law 804 = .ok (.istore 5, 2) := by decide +kernel
theorem dL_law_806 : decode cL_law 806 = .ok (.aload_n 2, 1) := by decide +kernel
theorem dL_law_807 : decode cL_law 807 = .ok (.aload_n 0, 1) := by decide +kernel
theorem dL_law_808 : decode cL_law 808 = .ok (.iload 4, 2) := by decide +kernel
theorem dL_law_810 : decode cL_law 810 = .ok (.iconst 1, 1) := by decide +kernel
theorem dL_law_811 : decode cL_law 811 = .ok (.iadd, 1) := by decide +kernel
theorem dL_law_812 : decode cL_law 812 = .ok (.iaload, 1) := by decide +kernel
theorem dL_law_813 : decode cL_law 813 = .ok (.invokevirtual 139, 3) := by decide +kernel
theorem dL_law_816 : decode cL_law 816 = .ok (.istore 6, 2) := by decide +kernel
theorem dL_law_818 : decode cL_law 818 = .ok (.aload_n 2, 1) := by decide +kernel
theorem dL_law_819 : decode cL_law 819 = .ok (.invokevirtual 108, 3) := by decide +kernel
theorem dL_law_822 : decode cL_law 822 = .ok (.iload 5, 2) := by decide +kernel
theorem dL_law_824 : decode cL_law 824 = .ok (.if_icmp .eq 5, 3) := by decide +kernel
theorem dL_law_827 : decode cL_law 827 = .ok (.iconst 0, 1) := by decide +kernel
theorem dL_law_828 : decode cL_law 828 = .ok (.ireturn, 1) := by decide +kernel
theorem dL_law_829 : decode cL_law 829 = .ok (.iload 5, 2) := by decide +kernel
theorem dL_law_831 : decode cL_law 831 = .ok (.ifCond .ne 15, 3) := by decide +kernel
theorem dL_law_834 : decode cL_law 834 = .ok (.aload_n 3, 1) := by decide +kernel
theorem dL_law_835 : decode cL_law 835 = .ok (.iconst 0, 1) := by decide +kernel
theorem dL_law_836 : decode cL_law 836 = .ok (.laload, 1) := by decide +kernel
theorem dL_law_837 : decode cL_law 837 = .ok (.iload 6, 2) := by decide +kernel
theorem dL_law_839 : decode cL_law 839 = .ok (.i2l, 1) := by decide +kernel
theorem dL_law_840 : decode cL_law 840 = .ok (.lcmp, 1) := by decide +kernel
theorem dL_law_841 : decode cL_law 841 = .ok (.ifCond .eq 5, 3) := by decide +kernel
theorem dL_law_844 : decode cL_law 844 = .ok (.iconst 0, 1) := by decide +kernel
theorem dL_law_845 : decode cL_law 845 = .ok (.ireturn, 1) := by decide +kernel
theorem dL_law_846 : decode cL_law 846 = .ok (.goto 1049, 3) := by decide +kernel
theorem dL_law_849 : decode cL_law 849 = .ok (.aload_n 1, 1) := by decide +kernel
theorem dL_law_850 : decode cL_law 850 = .ok (.aload_n 0, 1) := by decide +kernel
theorem dL_law_851 : decode cL_law 851 = .ok (.iload 4, 2) := by decide +kernel
theorem dL_law_853 : decode cL_law 853 = .ok (.iconst 1, 1) := by decide +kernel
theorem dL_law_854 : decode cL_law 854 = .ok (.iadd, 1) := by decide +kernel
theorem dL_law_855 : decode cL_law 855 = .ok (.iaload, 1) := by decide +kernel
theorem dL_law_856 : decode cL_law 856 = .ok (.aload_n 0, 1) := by decide +kernel
theorem dL_law_857 : decode cL_law 857 = .ok (.iload 4, 2) := by decide +kernel
theorem dL_law_859 : decode cL_law 859 = .ok (.iconst 2, 1) := by decide +kernel
theorem dL_law_860 : decode cL_law 860 = .ok (.iadd, 1) := by decide +kernel
theorem dL_law_861 : decode cL_law 861 = .ok (.iaload, 1) := by decide +kernel
theorem dL_law_862 : decode cL_law 862 = .ok (.aload_n 3, 1) := by decide +kernel
theorem dL_law_863 : decode cL_law 863 = .ok (.invokestatic 140, 3) := by decide +kernel
theorem dL_law_866 : decode cL_law 866 = .ok (.istore 5, 2) := by decide +kernel
theorem dL_law_868 : decode cL_law 868 = .ok (.aload_n 2, 1) := by decide +kernel
theorem dL_law_869 : decode cL_law 869 = .ok (.aload_n 0, 1) := by decide +kernel
theorem dL_law_870 : decode cL_law 870 = .ok (.iload 4, 2) := by decide +kernel
theorem dL_law_872 : decode cL_law 872 = .ok (.iconst 1, 1) := by decide +kernel
theorem dL_law_873 : decode cL_law 873 = .ok (.iadd, 1) := by decide +kernel
theorem dL_law_874 : decode cL_law 874 = .ok (.iaload, 1) := by decide +kernel
theorem dL_law_875 : decode cL_law 875 = .ok (.aload_n 0, 1) := by decide +kernel
theorem dL_law_876 : decode cL_law 876 = .ok (.iload 4, 2) := by decide +kernel
theorem dL_law_878 : decode cL_law 878 = .ok (.iconst 2, 1) := by decide +kernel
theorem dL_law_879 : decode cL_law 879 = .ok (.iadd, 1) := by decide +kernel
theorem dL_law_880 : decode cL_law 880 = .ok (.iaload, 1) := by decide +kernel
theorem dL_law_881 : decode cL_law 881 = .ok (.invokevirtual 142, 3) := by decide +kernel
theorem dL_law_884 : decode cL_law 884 = .ok (.istore 6, 2) := by decide +kernel
theorem dL_law_886 : decode cL_law 886 = .ok (.aload_n 2, 1) := by decide +kernel
theorem dL_law_887 : decode cL_law 887 = .ok (.invokevirtual 108, 3) := by decide +kernel
theorem dL_law_890 : decode cL_law 890 = .ok (.iload 5, 2) := by decide +kernel
theorem dL_law_892 : decode cL_law 892 = .ok (.if_icmp .eq 5, 3) := by decide +kernel
theorem dL_law_895 : decode cL_law 895 = .ok (.iconst 0, 1) := by decide +kernel
theorem dL_law_896 : decode cL_law 896 = .ok (.ireturn, 1) := by decide +kernel
theorem dL_law_897 : decode cL_law 897 = .ok (.iload 5, 2) := by decide +kernel
theorem dL_law_899 : decode cL_law 899 = .ok (.ifCond .ne 15, 3) := by decide +kernel
theorem dL_law_902 : decode cL_law 902 = .ok (.aload_n 3, 1) := by decide +kernel
theorem dL_law_903 : decode cL_law 903 = .ok (.iconst 0, 1) := by decide +kernel
theorem dL_law_904 : decode cL_law 904 = .ok (.laload, 1) := by decide +kernel
theorem dL_law_905 : decode cL_law 905 = .ok (.iload 6, 2) := by decide +kernel
theorem dL_law_907 : decode cL_law 907 = .ok (.i2l, 1) := by decide +kernel
theorem dL_law_908 : decode cL_law 908 = .ok (.lcmp, 1) := by decide +kernel
theorem dL_law_909 : decode cL_law 909 = .ok (.ifCond .eq 5, 3) := by decide +kernel
theorem dL_law_912 : decode cL_law 912 = .ok (.iconst 0, 1) := by decide +kernel
theorem dL_law_913 : decode cL_law 913 = .ok (.ireturn, 1) := by decide +kernel
theorem dL_law_914 : decode cL_law 914 = .ok (.goto 981, 3) := by decide +kernel
theorem dL_law_917 : decode cL_law 917 = .ok (.aload_n 1, 1) := by decide +kernel
theorem dL_law_918 : decode cL_law 918 = .ok (.aload_n 0, 1) := by decide +kernel
theorem dL_law_919 : decode cL_law 919 = .ok (.iload 4, 2) := by decide +kernel
theorem dL_law_921 : decode cL_law 921 = .ok (.iconst 1, 1) := by decide +kernel
theorem dL_law_922 : decode cL_law 922 = .ok (.iadd, 1) := by decide +kernel
theorem dL_law_923 : decode cL_law 923 = .ok (.iaload, 1) := by decide +kernel
theorem dL_law_924 : decode cL_law 924 = .ok (.aload_n 3, 1) := by decide +kernel
theorem dL_law_925 : decode cL_law 925 = .ok (.invokestatic 143, 3) := by decide +kernel
theorem dL_law_928 : decode cL_law 928 = .ok (.istore 5, 2) := by decide +kernel
theorem dL_law_930 : decode cL_law 930 = .ok (.aload_n 2, 1) := by decide +kernel
theorem dL_law_931 : decode cL_law 931 = .ok (.aload_n 0, 1) := by decide +kernel
theorem dL_law_932 : decode cL_law 932 = .ok (.iload 4, 2) := by decide +kernel
theorem dL_law_934 : decode cL_law 934 = .ok (.iconst 1, 1) := by decide +kernel
theorem dL_law_935 : decode cL_law 935 = .ok (.iadd, 1) := by decide +kernel
theorem dL_law_936 : decode cL_law 936 = .ok (.iaload, 1) := by decide +kernel
theorem dL_law_937 : decode cL_law 937 = .ok (.invokevirtual 145, 3) := by decide +kernel
theorem dL_law_940 : decode cL_law 940 = .ok (.istore 6, 2) := by decide +kernel
theorem dL_law_942 : decode cL_law 942 = .ok (.aload_n 2, 1) := by decide +kernel
theorem dL_law_943 : decode cL_law 943 = .ok (.invokevirtual 108, 3) := by decide +kernel
theorem dL_law_946 : decode cL_law 946 = .ok (.iload 5, 2) := by decide +kernel
theorem dL_law_948 : decode cL_law 948 = .ok (.if_icmp .eq 5, 3) := by decide +kernel
theorem dL_law_951 : decode cL_law 951 = .ok (.iconst 0, 1) := by decide +kernel
theorem dL_law_952 : decode cL_law 952 = .ok (.ireturn, 1) := by decide +kernel
theorem dL_law_953 : decode cL_law 953 = .ok (.iload 5, 2) := by decide +kernel
theorem dL_law_955 : decode cL_law 955 = .ok (.ifCond .ne 15, 3) := by decide +kernel
theorem dL_law_958 : decode cL_law 958 = .ok (.aload_n 3, 1) := by decide +kernel
theorem dL_law_959 : decode cL_law 959 = .ok (.iconst 0, 1) := by decide +kernel
theorem dL_law_960 : decode cL_law 960 = .ok (.laload, 1) := by decide +kernel
theorem dL_law_961 : decode cL_law 961 = .ok (.iload 6, 2) := by decide +kernel
theorem dL_law_963 : decode cL_law 963 = .ok (.i2l, 1) := by decide +kernel
theorem dL_law_964 : decode cL_law 964 = .ok (.lcmp, 1) := by decide +kernel
theorem dL_law_965 : decode cL_law 965 = .ok (.ifCond .eq 5, 3) := by decide +kernel
theorem dL_law_968 : decode cL_law 968 = .ok (.iconst 0, 1) := by decide +kernel
theorem dL_law_969 : decode cL_law 969 = .ok (.ireturn, 1) := by decide +kernel
theorem dL_law_970 : decode cL_law 970 = .ok (.goto 925, 3) := by decide +kernel
theorem dL_law_973 : decode cL_law 973 = .ok (.aload_n 1, 1) := by decide +kernel
theorem dL_law_974 : decode cL_law 974 = .ok (.aload_n 0, 1) := by decide +kernel
theorem dL_law_975 : decode cL_law 975 = .ok (.iload 4, 2) := by decide +kernel
theorem dL_law_977 : decode cL_law 977 = .ok (.iconst 1, 1) := by decide +kernel
theorem dL_law_978 : decode cL_law 978 = .ok (.iadd, 1) := by decide +kernel
theorem dL_law_979 : decode cL_law 979 = .ok (.iaload, 1) := by decide +kernel
theorem dL_law_980 : decode cL_law 980 = .ok (.aload_n 3, 1) := by decide +kernel
theorem dL_law_981 : decode cL_law 981 = .ok (.invokestatic 146, 3) := by decide +kernel
theorem dL_law_984 : decode cL_law 984 = .ok (.istore 5, 2) := by decide +kernel
theorem dL_law_986 : decode cL_law 986 = .ok (.aload_n 2, 1) := by decide +kernel
theorem dL_law_987 : decode cL_law 987 = .ok (.aload_n 0, 1) := by decide +kernel
theorem dL_law_988 : decode cL_law 988 = .ok (.iload 4, 2) := by decide +kernel
theorem dL_law_990 : decode cL_law 990 = .ok (.iconst 1, 1) := by decide +kernel
theorem dL_law_991 : decode cL_law 991 = .ok (.iadd, 1) := by decide +kernel
theorem dL_law_992 : decode cL_law 992 = .ok (.iaload, 1) := by decide +kernel
theorem dL_law_993 : decode cL_law 993 = .ok (.invokevirtual 148, 3) := by decide +kernel
theorem dL_law_996 : decode cL_law 996 = .ok (.istore 6, 2) := by decide +kernel
theorem dL_law_998 : decode cL_law 998 = .ok (.aload_n 2, 1) := by decide +kernel
theorem dL_law_999 : decode cL_law 999 = .ok (.invokevirtual 108, 3) := by decide +kernel
theorem dL_law_1002 : decode cL_law 1002 = .ok (.iload 5, 2) := by decide +kernel
theorem dL_law_1004 : decode cL_law 1004 = .ok (.if_icmp .eq 5, 3) := by decide +kernel
theorem dL_law_1007 : decode cL_law 1007 = .ok (.iconst 0, 1) := by decide +kernel
theorem dL_law_1008 : decode cL_law 1008 = .ok (.ireturn, 1) := by decide +kernel
theorem dL_law_1009 : decode cL_law 1009 = .ok (.iload 5, 2) := by decide +kernel
theorem dL_law_1011 : decode cL_law 1011 = .ok (.ifCond .ne 15, 3) := by decide +kernel
theorem dL_law_1014 : decode cL_law 1014 = .ok (.aload_n 3, 1) := by decide +kernel
theorem dL_law_1015 : decode cL_law 1015 = .ok (.iconst 0, 1) := by decide +kernel
theorem dL_law_1016 : decode cL_law 1016 = .ok (.laload, 1) := by decide +kernel
theorem dL_law_1017 : decode cL_law 1017 = .ok (.iload 6, 2) := by decide +kernel
theorem dL_law_1019 : decode cL_law 1019 = .ok (.i2l, 1) := by decide +kernel
theorem dL_law_1020 : decode cL_law 1020 = .ok (.lcmp, 1) := by decide +kernel
theorem dL_law_1021 : decode cL_law 1021 = .ok (.ifCond .eq 5, 3) := by decide +kernel
theorem dL_law_1024 : decode cL_law 1024 = .ok (.iconst 0, 1) := by decide +kernel
theorem dL_law_1025 : decode cL_law 1025 = .ok (.ireturn, 1) := by decide +kernel
theorem dL_law_1026 : decode cL_law 1026 = .ok (.goto 869, 3) := by decide +kernel
theorem dL_law_1029 : decode cL_law 1029 = .ok (.aload_n 1, 1) := by decide +kernel
theorem dL_law_1030 : decode cL_law 1030 = .ok (.aload_n 0, 1) := by decide +kernel
theorem dL_law_1031 : decode cL_law 1031 = .ok (.iload 4, 2) := by decide +kernel
theorem dL_law_1033 : decode cL_law 1033 = .ok (.iconst 1, 1) := by decide +kernel
theorem dL_law_1034 : decode cL_law 1034 = .ok (.iadd, 1) := by decide +kernel
theorem dL_law_1035 : decode cL_law 1035 = .ok (.iaload, 1) := by decide +kernel
theorem dL_law_1036 : decode cL_law 1036 = .ok (.aload_n 3, 1) := by decide +kernel
theorem dL_law_1037 : decode cL_law 1037 = .ok (.invokestatic 149, 3) := by decide +kernel
theorem dL_law_1040 : decode cL_law 1040 = .ok (.istore 5, 2) := by decide +kernel
theorem dL_law_1042 : decode cL_law 1042 = .ok (.aload_n 2, 1) := by decide +kernel
theorem dL_law_1043 : decode cL_law 1043 = .ok (.aload_n 0, 1) := by decide +kernel
theorem dL_law_1044 : decode cL_law 1044 = .ok (.iload 4, 2) := by decide +kernel
theorem dL_law_1046 : decode cL_law 1046 = .ok (.iconst 1, 1) := by decide +kernel
theorem dL_law_1047 : decode cL_law 1047 = .ok (.iadd, 1) := by decide +kernel
theorem dL_law_1048 : decode cL_law 1048 = .ok (.iaload, 1) := by decide +kernel
theorem dL_law_1049 : decode cL_law 1049 = .ok (.invokevirtual 151, 3) := by decide +kernel
theorem dL_law_1052 : decode cL_law 1052 = .ok (.istore 6, 2) := by decide +kernel
theorem dL_law_1054 : decode cL_law 1054 = .ok (.aload_n 2, 1) := by decide +kernel
theorem dL_law_1055 : decode cL_law 1055 = .ok (.invokevirtual 108, 3) := by decide +kernel
theorem dL_law_1058 : decode cL_law 1058 = .ok (.iload 5, 2) := by decide +kernel
theorem dL_law_1060 : decode cL_law 1060 = .ok (.if_icmp .eq 5, 3) := by decide +kernel
theorem dL_law_1063 : decode cL_law 1063 = .ok (.iconst 0, 1) := by decide +kernel
theorem dL_law_1064 : decode cL_law 1064 = .ok (.ireturn, 1) := by decide +kernel
theorem dL_law_1065 : decode cL_law 1065 = .ok (.iload 5, 2) := by decide +kernel
theorem dL_law_1067 : decode cL_law 1067 = .ok (.ifCond .ne 15, 3) := by decide +kernel
theorem dL_law_1070 : decode cL_law 1070 = .ok (.aload_n 3, 1) := by decide +kernel
theorem dL_law_1071 : decode cL_law 1071 = .ok (.iconst 0, 1) := by decide +kernel
theorem dL_law_1072 : decode cL_law 1072 = .ok (.laload, 1) := by decide +kernel
theorem dL_law_1073 : decode cL_law 1073 = .ok (.iload 6, 2) := by decide +kernel
theorem dL_law_1075 : decode cL_law 1075 = .ok (.i2l, 1) := by decide +kernel
theorem dL_law_1076 : decode cL_law 1076 = .ok (.lcmp, 1) := by decide +kernel
theorem dL_law_1077 : decode cL_law 1077 = .ok (.ifCond .eq 5, 3) := by decide +kernel
theorem dL_law_1080 : decode cL_law 1080 = .ok (.iconst 0, 1) := by decide +kernel
theorem dL_law_1081 : decode cL_law 1081 = .ok (.ireturn, 1) := by decide +kernel
theorem dL_law_1082 : decode cL_law 1082 = .ok (.goto 813, 3) := by decide +kernel
theorem dL_law_1085 : decode cL_law 1085 = .ok (.aload_n 1, 1) := by decide +kernel
theorem dL_law_1086 : decode cL_law 1086 = .ok (.invokevirtual 152, 3) := by decide +kernel
theorem dL_law_1089 : decode cL_law 1089 = .ok (.aload_n 2, 1) := by decide +kernel
theorem dL_law_1090 : decode cL_law 1090 = .ok (.invokevirtual 155, 3) := by decide +kernel
theorem dL_law_1093 : decode cL_law 1093 = .ok (.if_icmp .eq 802, 3) := by decide +kernel
theorem dL_law_1096 : decode cL_law 1096 = .ok (.iconst 0, 1) := by decide +kernel
theorem dL_law_1097 : decode cL_law 1097 = .ok (.ireturn, 1) := by decide +kernel
theorem dL_law_1098 : decode cL_law 1098 = .ok (.aload_n 1, 1) := by decide +kernel
theorem dL_law_1099 : decode cL_law 1099 = .ok (.aload_n 0, 1) := by decide +kernel
theorem dL_law_1100 : decode cL_law 1100 = .ok (.iload 4, 2) := by decide +kernel
theorem dL_law_1102 : decode cL_law 1102 = .ok (.iconst 1, 1) := by decide +kernel
theorem dL_law_1103 : decode cL_law 1103 = .ok (.iadd, 1) := by decide +kernel
theorem dL_law_1104 : decode cL_law 1104 = .ok (.iaload, 1) := by decide +kernel
theorem dL_law_1105 : decode cL_law 1105 = .ok (.aload_n 3, 1) := by decide +kernel
theorem dL_law_1106 : decode cL_law 1106 = .ok (.invokestatic 156, 3) := by decide +kernel
theorem dL_law_1109 : decode cL_law 1109 = .ok (.istore 5, 2) := by decide +kernel
theorem dL_law_1111 : decode cL_law 1111 = .ok (.aload_n 2, 1) := by decide +kernel
theorem dL_law_1112 : decode cL_law 1112 = .ok (.aload_n 0, 1) := by decide +kernel
theorem dL_law_1113 : decode cL_law 1113 = .ok (.iload 4, 2) := by decide +kernel
theorem dL_law_1115 : decode cL_law 1115 = .ok (.iconst 1, 1) := by decide +kernel
theorem dL_law_1116 : decode cL_law 1116 = .ok (.iadd, 1) := by decide +kernel
theorem dL_law_1117 : decode cL_law 1117 = .ok (.iaload, 1) := by decide +kernel
theorem dL_law_1118 : decode cL_law 1118 = .ok (.invokevirtual 158, 3) := by decide +kernel
theorem dL_law_1121 : decode cL_law 1121 = .ok (.istore 6, 2) := by decide +kernel
theorem dL_law_1123 : decode cL_law 1123 = .ok (.aload_n 2, 1) := by decide +kernel
theorem dL_law_1124 : decode cL_law 1124 = .ok (.invokevirtual 108, 3) := by decide +kernel
theorem dL_law_1127 : decode cL_law 1127 = .ok (.iload 5, 2) := by decide +kernel
theorem dL_law_1129 : decode cL_law 1129 = .ok (.if_icmp .eq 5, 3) := by decide +kernel
theorem dL_law_1132 : decode cL_law 1132 = .ok (.iconst 0, 1) := by decide +kernel
theorem dL_law_1133 : decode cL_law 1133 = .ok (.ireturn, 1) := by decide +kernel
theorem dL_law_1134 : decode cL_law 1134 = .ok (.iload 5, 2) := by decide +kernel
theorem dL_law_1136 : decode cL_law 1136 = .ok (.ifCond .ne 22, 3) := by decide +kernel
theorem dL_law_1139 : decode cL_law 1139 = .ok (.aload_n 3, 1) := by decide +kernel
theorem dL_law_1140 : decode cL_law 1140 = .ok (.iconst 0, 1) := by decide +kernel
theorem dL_law_1141 : decode cL_law 1141 = .ok (.laload, 1) := by decide +kernel
theorem dL_law_1142 : decode cL_law 1142 = .ok (.iload 6, 2) := by decide +kernel
theorem dL_law_1144 : decode cL_law 1144 = .ok (.ifCond .eq 7, 3) := by decide +kernel
theorem dL_law_1147 : decode cL_law 1147 = .ok (.lconst 1, 1) := by decide +kernel
theorem dL_law_1148 : decode cL_law 1148 = .ok (.goto 4, 3) := by decide +kernel
theorem dL_law_1151 : decode cL_law 1151 = .ok (.lconst 0, 1) := by decide +kernel
theorem dL_law_1152 : decode cL_law 1152 = .ok (.lcmp, 1) := by decide +kernel
theorem dL_law_1153 : decode cL_law 1153 = .ok (.ifCond .eq 5, 3) := by decide +kernel
theorem dL_law_1156 : decode cL_law 1156 = .ok (.iconst 0, 1) := by decide +kernel
theorem dL_law_1157 : decode cL_law 1157 = .ok (.ireturn, 1) := by decide +kernel
theorem dL_law_1158 : decode cL_law 1158 = .ok (.goto 737, 3) := by decide +kernel
theorem dL_law_1161 : decode cL_law 1161 = .ok (.aload_n 1, 1) := by decide +kernel
theorem dL_law_1162 : decode cL_law 1162 = .ok (.aload_n 0, 1) := by decide +kernel
theorem dL_law_1163 : decode cL_law 1163 = .ok (.iload 4, 2) := by decide +kernel
theorem dL_law_1165 : decode cL_law 1165 = .ok (.iconst 1, 1) := by decide +kernel
theorem dL_law_1166 : decode cL_law 1166 = .ok (.iadd, 1) := by decide +kernel
theorem dL_law_1167 : decode cL_law 1167 = .ok (.iaload, 1) := by decide +kernel
theorem dL_law_1168 : decode cL_law 1168 = .ok (.aload_n 3, 1) := by decide +kernel
theorem dL_law_1169 : decode cL_law 1169 = .ok (.invokestatic 159, 3) := by decide +kernel
theorem dL_law_1172 : decode cL_law 1172 = .ok (.istore 5, 2) := by decide +kernel
theorem dL_law_1174 : decode cL_law 1174 = .ok (.aload_n 2, 1) := by decide +kernel
theorem dL_law_1175 : decode cL_law 1175 = .ok (.aload_n 0, 1) := by decide +kernel
theorem dL_law_1176 : decode cL_law 1176 = .ok (.iload 4, 2) := by decide +kernel
theorem dL_law_1178 : decode cL_law 1178 = .ok (.iconst 1, 1) := by decide +kernel
theorem dL_law_1179 : decode cL_law 1179 = .ok (.iadd, 1) := by decide +kernel
theorem dL_law_1180 : decode cL_law 1180 = .ok (.iaload, 1) := by decide +kernel
theorem dL_law_1181 : decode cL_law 1181 = .ok (.invokevirtual 161, 3) := by decide +kernel
theorem dL_law_1184 : decode cL_law 1184 = .ok (.istore 6, 2) := by decide +kernel
theorem dL_law_1186 : decode cL_law 1186 = .ok (.aload_n 2, 1) := by decide +kernel
theorem dL_law_1187 : decode cL_law 1187 = .ok (.invokevirtual 108, 3) := by decide +kernel
theorem dL_law_1190 : decode cL_law 1190 = .ok (.iload 5, 2) := by decide +kernel
theorem dL_law_1192 : decode cL_law 1192 = .ok (.if_icmp .eq 5, 3) := by decide +kernel
theorem dL_law_1195 : decode cL_law 1195 = .ok (.iconst 0, 1) := by decide +kernel
theorem dL_law_1196 : decode cL_law 1196 = .ok (.ireturn, 1) := by decide +kernel
theorem dL_law_1197 : decode cL_law 1197 = .ok (.iload 5, 2) := by decide +kernel
theorem dL_law_1199 : decode cL_law 1199 = .ok (.ifCond .ne 22, 3) := by decide +kernel
theorem dL_law_1202 : decode cL_law 1202 = .ok (.aload_n 3, 1) := by decide +kernel
theorem dL_law_1203 : decode cL_law 1203 = .ok (.iconst 0, 1) := by decide +kernel
theorem dL_law_1204 : decode cL_law 1204 = .ok (.laload, 1) := by decide +kernel
theorem dL_law_1205 : decode cL_law 1205 = .ok (.iload 6, 2) := by decide +kernel
theorem dL_law_1207 : decode cL_law 1207 = .ok (.ifCond .eq 7, 3) := by decide +kernel
theorem dL_law_1210 : decode cL_law 1210 = .ok (.lconst 1, 1) := by decide +kernel
theorem dL_law_1211 : decode cL_law 1211 = .ok (.goto 4, 3) := by decide +kernel
theorem dL_law_1214 : decode cL_law 1214 = .ok (.lconst 0, 1) := by decide +kernel
theorem dL_law_1215 : decode cL_law 1215 = .ok (.lcmp, 1) := by decide +kernel
theorem dL_law_1216 : decode cL_law 1216 = .ok (.ifCond .eq 5, 3) := by decide +kernel
theorem dL_law_1219 : decode cL_law 1219 = .ok (.iconst 0, 1) := by decide +kernel
theorem dL_law_1220 : decode cL_law 1220 = .ok (.ireturn, 1) := by decide +kernel
theorem dL_law_1221 : decode cL_law 1221 = .ok (.goto 674, 3) := by decide +kernel
theorem dL_law_1224 : decode cL_law 1224 = .ok (.aload_n 1, 1) := by decide +kernel
theorem dL_law_1225 : decode cL_law 1225 = .ok (.aload_n 0, 1) := by decide +kernel
theorem dL_law_1226 : decode cL_law 1226 = .ok (.iload 4, 2) := by decide +kernel
theorem dL_law_1228 : decode cL_law 1228 = .ok (.iconst 1, 1) := by decide +kernel
theorem dL_law_1229 : decode cL_law 1229 = .ok (.iadd, 1) := by decide +kernel
theorem dL_law_1230 : decode cL_law 1230 = .ok (.iaload, 1) := by decide +kernel
theorem dL_law_1231 : decode cL_law 1231 = .ok (.aload_n 3, 1) := by decide +kernel
theorem dL_law_1232 : decode cL_law 1232 = .ok (.invokestatic 162, 3) := by decide +kernel
theorem dL_law_1235 : decode cL_law 1235 = .ok (.istore 5, 2) := by decide +kernel
theorem dL_law_1237 : decode cL_law 1237 = .ok (.aload_n 2, 1) := by decide +kernel
theorem dL_law_1238 : decode cL_law 1238 = .ok (.aload_n 0, 1) := by decide +kernel
theorem dL_law_1239 : decode cL_law 1239 = .ok (.iload 4, 2) := by decide +kernel
theorem dL_law_1241 : decode cL_law 1241 = .ok (.iconst 1, 1) := by decide +kernel
theorem dL_law_1242 : decode cL_law 1242 = .ok (.iadd, 1) := by decide +kernel
theorem dL_law_1243 : decode cL_law 1243 = .ok (.iaload, 1) := by decide +kernel
theorem dL_law_1244 : decode cL_law 1244 = .ok (.invokevirtual 164, 3) := by decide +kernel
theorem dL_law_1247 : decode cL_law 1247 = .ok (.istore 6, 2) := by decide +kernel
theorem dL_law_1249 : decode cL_law 1249 = .ok (.aload_n 2, 1) := by decide +kernel
theorem dL_law_1250 : decode cL_law 1250 = .ok (.invokevirtual 108, 3) := by decide +kernel
theorem dL_law_1253 : decode cL_law 1253 = .ok (.iload 5, 2) := by decide +kernel
theorem dL_law_1255 : decode cL_law 1255 = .ok (.if_icmp .eq 5, 3) := by decide +kernel
theorem dL_law_1258 : decode cL_law 1258 = .ok (.iconst 0, 1) := by decide +kernel
theorem dL_law_1259 : decode cL_law 1259 = .ok (.ireturn, 1) := by decide +kernel
theorem dL_law_1260 : decode cL_law 1260 = .ok (.iload 5, 2) := by decide +kernel
theorem dL_law_1262 : decode cL_law 1262 = .ok (.ifCond .ne 22, 3) := by decide +kernel
theorem dL_law_1265 : decode cL_law 1265 = .ok (.aload_n 3, 1) := by decide +kernel
theorem dL_law_1266 : decode cL_law 1266 = .ok (.iconst 0, 1) := by decide +kernel
theorem dL_law_1267 : decode cL_law 1267 = .ok (.laload, 1) := by decide +kernel
theorem dL_law_1268 : decode cL_law 1268 = .ok (.iload 6, 2) := by decide +kernel
theorem dL_law_1270 : decode cL_law 1270 = .ok (.ifCond .eq 7, 3) := by decide +kernel
theorem dL_law_1273 : decode cL_law 1273 = .ok (.lconst 1, 1) := by decide +kernel
theorem dL_law_1274 : decode cL_law 1274 = .ok (.goto 4, 3) := by decide +kernel
theorem dL_law_1277 : decode cL_law 1277 = .ok (.lconst 0, 1) := by decide +kernel
theorem dL_law_1278 : decode cL_law 1278 = .ok (.lcmp, 1) := by decide +kernel
theorem dL_law_1279 : decode cL_law 1279 = .ok (.ifCond .eq 5, 3) := by decide +kernel
theorem dL_law_1282 : decode cL_law 1282 = .ok (.iconst 0, 1) := by decide +kernel
theorem dL_law_1283 : decode cL_law 1283 = .ok (.ireturn, 1) := by decide +kernel
theorem dL_law_1284 : decode cL_law 1284 = .ok (.goto 611, 3) := by decide +kernel
theorem dL_law_1287 : decode cL_law 1287 = .ok (.aload_n 1, 1) := by decide +kernel
theorem dL_law_1288 : decode cL_law 1288 = .ok (.aload_n 0, 1) := by decide +kernel
theorem dL_law_1289 : decode cL_law 1289 = .ok (.iload 4, 2) := by decide +kernel
theorem dL_law_1291 : decode cL_law 1291 = .ok (.iconst 1, 1) := by decide +kernel
theorem dL_law_1292 : decode cL_law 1292 = .ok (.iadd, 1) := by decide +kernel
theorem dL_law_1293 : decode cL_law 1293 = .ok (.iaload, 1) := by decide +kernel
theorem dL_law_1294 : decode cL_law 1294 = .ok (.aload_n 0, 1) := by decide +kernel
theorem dL_law_1295 : decode cL_law 1295 = .ok (.iload 4, 2) := by decide +kernel
theorem dL_law_1297 : decode cL_law 1297 = .ok (.iconst 2, 1) := by decide +kernel
theorem dL_law_1298 : decode cL_law 1298 = .ok (.iadd, 1) := by decide +kernel
theorem dL_law_1299 : decode cL_law 1299 = .ok (.iaload, 1) := by decide +kernel
theorem dL_law_1300 : decode cL_law 1300 = .ok (.aload_n 3, 1) := by decide +kernel
theorem dL_law_1301 : decode cL_law 1301 = .ok (.invokestatic 165, 3) := by decide +kernel
theorem dL_law_1304 : decode cL_law 1304 = .ok (.istore 5, 2) := by decide +kernel
theorem dL_law_1306 : decode cL_law 1306 = .ok (.aload_n 2, 1) := by decide +kernel
theorem dL_law_1307 : decode cL_law 1307 = .ok (.aload_n 0, 1) := by decide +kernel
theorem dL_law_1308 : decode cL_law 1308 = .ok (.iload 4, 2) := by decide +kernel
theorem dL_law_1310 : decode cL_law 1310 = .ok (.iconst 1, 1) := by decide +kernel
theorem dL_law_1311 : decode cL_law 1311 = .ok (.iadd, 1) := by decide +kernel
theorem dL_law_1312 : decode cL_law 1312 = .ok (.iaload, 1) := by decide +kernel
theorem dL_law_1313 : decode cL_law 1313 = .ok (.aload_n 0, 1) := by decide +kernel
theorem dL_law_1314 : decode cL_law 1314 = .ok (.iload 4, 2) := by decide +kernel
theorem dL_law_1316 : decode cL_law 1316 = .ok (.iconst 2, 1) := by decide +kernel
theorem dL_law_1317 : decode cL_law 1317 = .ok (.iadd, 1) := by decide +kernel
theorem dL_law_1318 : decode cL_law 1318 = .ok (.iaload, 1) := by decide +kernel
theorem dL_law_1319 : decode cL_law 1319 = .ok (.invokevirtual 167, 3) := by decide +kernel
theorem dL_law_1322 : decode cL_law 1322 = .ok (.istore 6, 2) := by decide +kernel
theorem dL_law_1324 : decode cL_law 1324 = .ok (.aload_n 2, 1) := by decide +kernel
theorem dL_law_1325 : decode cL_law 1325 = .ok (.invokevirtual 108, 3) := by decide +kernel
theorem dL_law_1328 : decode cL_law 1328 = .ok (.iload 5, 2) := by decide +kernel
theorem dL_law_1330 : decode cL_law 1330 = .ok (.if_icmp .eq 5, 3) := by decide +kernel
theorem dL_law_1333 : decode cL_law 1333 = .ok (.iconst 0, 1) := by decide +kernel
theorem dL_law_1334 : decode cL_law 1334 = .ok (.ireturn, 1) := by decide +kernel
theorem dL_law_1335 : decode cL_law 1335 = .ok (.iload 5, 2) := by decide +kernel
theorem dL_law_1337 : decode cL_law 1337 = .ok (.ifCond .ne 15, 3) := by decide +kernel
theorem dL_law_1340 : decode cL_law 1340 = .ok (.aload_n 3, 1) := by decide +kernel
theorem dL_law_1341 : decode cL_law 1341 = .ok (.iconst 0, 1) := by decide +kernel
theorem dL_law_1342 : decode cL_law 1342 = .ok (.laload, 1) := by decide +kernel
theorem dL_law_1343 : decode cL_law 1343 = .ok (.iload 6, 2) := by decide +kernel
theorem dL_law_1345 : decode cL_law 1345 = .ok (.i2l, 1) := by decide +kernel
theorem dL_law_1346 : decode cL_law 1346 = .ok (.lcmp, 1) := by decide +kernel
theorem dL_law_1347 : decode cL_law 1347 = .ok (.ifCond .eq 5, 3) := by decide +kernel
theorem dL_law_1350 : decode cL_law 1350 = .ok (.iconst 0, 1) := by decide +kernel
theorem dL_law_1351 : decode cL_law 1351 = .ok (.ireturn, 1) := by decide +kernel
theorem dL_law_1352 : decode cL_law 1352 = .ok (.goto 543, 3) := by decide +kernel
theorem dL_law_1355 : decode cL_law 1355 = .ok (.aload_n 1, 1) := by decide +kernel
theorem dL_law_1356 : decode cL_law 1356 = .ok (.aload_n 0, 1) := by decide +kernel
theorem dL_law_1357 : decode cL_law 1357 = .ok (.iload 4, 2) := by decide +kernel
theorem dL_law_1359 : decode cL_law 1359 = .ok (.iconst 1, 1) := by decide +kernel
theorem dL_law_1360 : decode cL_law 1360 = .ok (.iadd, 1) := by decide +kernel
theorem dL_law_1361 : decode cL_law 1361 = .ok (.iaload, 1) := by decide +kernel
theorem dL_law_1362 : decode cL_law 1362 = .ok (.aload_n 0, 1) := by decide +kernel
theorem dL_law_1363 : decode cL_law 1363 = .ok (.iload 4, 2) := by decide +kernel
theorem dL_law_1365 : decode cL_law 1365 = .ok (.iconst 2, 1) := by decide +kernel
theorem dL_law_1366 : decode cL_law 1366 = .ok (.iadd, 1) := by decide +kernel
theorem dL_law_1367 : decode cL_law 1367 = .ok (.iaload, 1) := by decide +kernel
theorem dL_law_1368 : decode cL_law 1368 = .ok (.aload_n 3, 1) := by decide +kernel
theorem dL_law_1369 : decode cL_law 1369 = .ok (.invokestatic 168, 3) := by decide +kernel
theorem dL_law_1372 : decode cL_law 1372 = .ok (.istore 5, 2) := by decide +kernel
theorem dL_law_1374 : decode cL_law 1374 = .ok (.aload_n 2, 1) := by decide +kernel
theorem dL_law_1375 : decode cL_law 1375 = .ok (.aload_n 0, 1) := by decide +kernel
theorem dL_law_1376 : decode cL_law 1376 = .ok (.iload 4, 2) := by decide +kernel
theorem dL_law_1378 : decode cL_law 1378 = .ok (.iconst 1, 1) := by decide +kernel
theorem dL_law_1379 : decode cL_law 1379 = .ok (.iadd, 1) := by decide +kernel
theorem dL_law_1380 : decode cL_law 1380 = .ok (.iaload, 1) := by decide +kernel
theorem dL_law_1381 : decode cL_law 1381 = .ok (.aload_n 0, 1) := by decide +kernel
theorem dL_law_1382 : decode cL_law 1382 = .ok (.iload 4, 2) := by decide +kernel
theorem dL_law_1384 : decode cL_law 1384 = .ok (.iconst 2, 1) := by decide +kernel
theorem dL_law_1385 : decode cL_law 1385 = .ok (.iadd, 1) := by decide +kernel
theorem dL_law_1386 : decode cL_law 1386 = .ok (.iaload, 1) := by decide +kernel
theorem dL_law_1387 : decode cL_law 1387 = .ok (.invokevirtual 170, 3) := by decide +kernel
theorem dL_law_1390 : decode cL_law 1390 = .ok (.istore 6, 2) := by decide +kernel
theorem dL_law_1392 : decode cL_law 1392 = .ok (.aload_n 2, 1) := by decide +kernel
theorem dL_law_1393 : decode cL_law 1393 = .ok (.invokevirtual 108, 3) := by decide +kernel
theorem dL_law_1396 : decode cL_law 1396 = .ok (.iload 5, 2) := by decide +kernel
theorem dL_law_1398 : decode cL_law 1398 = .ok (.if_icmp .eq 5, 3) := by decide +kernel
theorem dL_law_1401 : decode cL_law 1401 = .ok (.iconst 0, 1) := by decide +kernel
theorem dL_law_1402 : decode cL_law 1402 = .ok (.ireturn, 1) := by decide +kernel
theorem dL_law_1403 : decode cL_law 1403 = .ok (.iload 5, 2) := by decide +kernel
theorem dL_law_1405 : decode cL_law 1405 = .ok (.ifCond .ne 15, 3) := by decide +kernel
theorem dL_law_1408 : decode cL_law 1408 = .ok (.aload_n 3, 1) := by decide +kernel
theorem dL_law_1409 : decode cL_law 1409 = .ok (.iconst 0, 1) := by decide +kernel
theorem dL_law_1410 : decode cL_law 1410 = .ok (.laload, 1) := by decide +kernel
theorem dL_law_1411 : decode cL_law 1411 = .ok (.iload 6, 2) := by decide +kernel
theorem dL_law_1413 : decode cL_law 1413 = .ok (.i2l, 1) := by decide +kernel
theorem dL_law_1414 : decode cL_law 1414 = .ok (.lcmp, 1) := by decide +kernel
theorem dL_law_1415 : decode cL_law 1415 = .ok (.ifCond .eq 5, 3) := by decide +kernel
theorem dL_law_1418 : decode cL_law 1418 = .ok (.iconst 0, 1) := by decide +kernel
theorem dL_law_1419 : decode cL_law 1419 = .ok (.ireturn, 1) := by decide +kernel
theorem dL_law_1420 : decode cL_law 1420 = .ok (.goto 475, 3) := by decide +kernel
theorem dL_law_1423 : decode cL_law 1423 = .ok (.aload_n 1, 1) := by decide +kernel
theorem dL_law_1424 : decode cL_law 1424 = .ok (.aload_n 0, 1) := by decide +kernel
theorem dL_law_1425 : decode cL_law 1425 = .ok (.iload 4, 2) := by decide +kernel
theorem dL_law_1427 : decode cL_law 1427 = .ok (.iconst 1, 1) := by decide +kernel
theorem dL_law_1428 : decode cL_law 1428 = .ok (.iadd, 1) := by decide +kernel
theorem dL_law_1429 : decode cL_law 1429 = .ok (.iaload, 1) := by decide +kernel
theorem dL_law_1430 : decode cL_law 1430 = .ok (.aload_n 3, 1) := by decide +kernel
theorem dL_law_1431 : decode cL_law 1431 = .ok (.invokestatic 171, 3) := by decide +kernel
theorem dL_law_1434 : decode cL_law 1434 = .ok (.istore 5, 2) := by decide +kernel
theorem dL_law_1436 : decode cL_law 1436 = .ok (.aload_n 2, 1) := by decide +kernel
theorem dL_law_1437 : decode cL_law 1437 = .ok (.aload_n 0, 1) := by decide +kernel
theorem dL_law_1438 : decode cL_law 1438 = .ok (.iload 4, 2) := by decide +kernel
theorem dL_law_1440 : decode cL_law 1440 = .ok (.iconst 1, 1) := by decide +kernel
theorem dL_law_1441 : decode cL_law 1441 = .ok (.iadd, 1) := by decide +kernel
theorem dL_law_1442 : decode cL_law 1442 = .ok (.iaload, 1) := by decide +kernel
theorem dL_law_1443 : decode cL_law 1443 = .ok (.invokevirtual 173, 3) := by decide +kernel
theorem dL_law_1446 : decode cL_law 1446 = .ok (.istore 6, 2) := by decide +kernel
theorem dL_law_1448 : decode cL_law 1448 = .ok (.aload_n 2, 1) := by decide +kernel
theorem dL_law_1449 : decode cL_law 1449 = .ok (.invokevirtual 108, 3) := by decide +kernel
theorem dL_law_1452 : decode cL_law 1452 = .ok (.iload 5, 2) := by decide +kernel
theorem dL_law_1454 : decode cL_law 1454 = .ok (.if_icmp .eq 5, 3) := by decide +kernel
theorem dL_law_1457 : decode cL_law 1457 = .ok (.iconst 0, 1) := by decide +kernel
theorem dL_law_1458 : decode cL_law 1458 = .ok (.ireturn, 1) := by decide +kernel
theorem dL_law_1459 : decode cL_law 1459 = .ok (.iload 5, 2) := by decide +kernel
theorem dL_law_1461 : decode cL_law 1461 = .ok (.ifCond .ne 22, 3) := by decide +kernel
theorem dL_law_1464 : decode cL_law 1464 = .ok (.aload_n 3, 1) := by decide +kernel
theorem dL_law_1465 : decode cL_law 1465 = .ok (.iconst 0, 1) := by decide +kernel
theorem dL_law_1466 : decode cL_law 1466 = .ok (.laload, 1) := by decide +kernel
theorem dL_law_1467 : decode cL_law 1467 = .ok (.iload 6, 2) := by decide +kernel
theorem dL_law_1469 : decode cL_law 1469 = .ok (.ifCond .eq 7, 3) := by decide +kernel
theorem dL_law_1472 : decode cL_law 1472 = .ok (.lconst 1, 1) := by decide +kernel
theorem dL_law_1473 : decode cL_law 1473 = .ok (.goto 4, 3) := by decide +kernel
theorem dL_law_1476 : decode cL_law 1476 = .ok (.lconst 0, 1) := by decide +kernel
theorem dL_law_1477 : decode cL_law 1477 = .ok (.lcmp, 1) := by decide +kernel
theorem dL_law_1478 : decode cL_law 1478 = .ok (.ifCond .eq 5, 3) := by decide +kernel
theorem dL_law_1481 : decode cL_law 1481 = .ok (.iconst 0, 1) := by decide +kernel
theorem dL_law_1482 : decode cL_law 1482 = .ok (.ireturn, 1) := by decide +kernel
theorem dL_law_1483 : decode cL_law 1483 = .ok (.goto 412, 3) := by decide +kernel
theorem dL_law_1486 : decode cL_law 1486 = .ok (.aload_n 1, 1) := by decide +kernel
theorem dL_law_1487 : decode cL_law 1487 = .ok (.aload_n 0, 1) := by decide +kernel
theorem dL_law_1488 : decode cL_law 1488 = .ok (.iload 4, 2) := by decide +kernel
theorem dL_law_1490 : decode cL_law 1490 = .ok (.iconst 1, 1) := by decide +kernel
theorem dL_law_1491 : decode cL_law 1491 = .ok (.iadd, 1) := by decide +kernel
theorem dL_law_1492 : decode cL_law 1492 = .ok (.iaload, 1) := by decide +kernel
theorem dL_law_1493 : decode cL_law 1493 = .ok (.aload_n 3, 1) := by decide +kernel
theorem dL_law_1494 : decode cL_law 1494 = .ok (.invokestatic 174, 3) := by decide +kernel
theorem dL_law_1497 : decode cL_law 1497 = .ok (.istore 5, 2) := by decide +kernel
theorem dL_law_1499 : decode cL_law 1499 = .ok (.aload_n 2, 1) := by decide +kernel
theorem dL_law_1500 : decode cL_law 1500 = .ok (.aload_n 0, 1) := by decide +kernel
theorem dL_law_1501 : decode cL_law 1501 = .ok (.iload 4, 2) := by decide +kernel
theorem dL_law_1503 : decode cL_law 1503 = .ok (.iconst 1, 1) := by decide +kernel
theorem dL_law_1504 : decode cL_law 1504 = .ok (.iadd, 1) := by decide +kernel
theorem dL_law_1505 : decode cL_law 1505 = .ok (.iaload, 1) := by decide +kernel
theorem dL_law_1506 : decode cL_law 1506 = .ok (.invokevirtual 176, 3) := by decide +kernel
theorem dL_law_1509 : decode cL_law 1509 = .ok (.istore 6, 2) := by decide +kernel
theorem dL_law_1511 : decode cL_law 1511 = .ok (.aload_n 2, 1) := by decide +kernel
theorem dL_law_1512 : decode cL_law 1512 = .ok (.invokevirtual 108, 3) := by decide +kernel
theorem dL_law_1515 : decode cL_law 1515 = .ok (.iload 5, 2) := by decide +kernel
theorem dL_law_1517 : decode cL_law 1517 = .ok (.if_icmp .eq 5, 3) := by decide +kernel
theorem dL_law_1520 : decode cL_law 1520 = .ok (.iconst 0, 1) := by decide +kernel
theorem dL_law_1521 : decode cL_law 1521 = .ok (.ireturn, 1) := by decide +kernel
theorem dL_law_1522 : decode cL_law 1522 = .ok (.iload 5, 2) := by decide +kernel
theorem dL_law_1524 : decode cL_law 1524 = .ok (.ifCond .ne 22, 3) := by decide +kernel
theorem dL_law_1527 : decode cL_law 1527 = .ok (.aload_n 3, 1) := by decide +kernel
theorem dL_law_1528 : decode cL_law 1528 = .ok (.iconst 0, 1) := by decide +kernel
theorem dL_law_1529 : decode cL_law 1529 = .ok (.laload, 1) := by decide +kernel
theorem dL_law_1530 : decode cL_law 1530 = .ok (.iload 6, 2) := by decide +kernel
theorem dL_law_1532 : decode cL_law 1532 = .ok (.ifCond .eq 7, 3) := by decide +kernel
theorem dL_law_1535 : decode cL_law 1535 = .ok (.lconst 1, 1) := by decide +kernel
theorem dL_law_1536 : decode cL_law 1536 = .ok (.goto 4, 3) := by decide +kernel
theorem dL_law_1539 : decode cL_law 1539 = .ok (.lconst 0, 1) := by decide +kernel
theorem dL_law_1540 : decode cL_law 1540 = .ok (.lcmp, 1) := by decide +kernel
theorem dL_law_1541 : decode cL_law 1541 = .ok (.ifCond .eq 5, 3) := by decide +kernel
theorem dL_law_1544 : decode cL_law 1544 = .ok (.iconst 0, 1) := by decide +kernel
theorem dL_law_1545 : decode cL_law 1545 = .ok (.ireturn, 1) := by decide +kernel
theorem dL_law_1546 : decode cL_law 1546 = .ok (.goto 349, 3) := by decide +kernel
theorem dL_law_1549 : decode cL_law 1549 = .ok (.aload_n 1, 1) := by decide +kernel
theorem dL_law_1550 : decode cL_law 1550 = .ok (.invokevirtual 177, 3) := by decide +kernel
theorem dL_law_1553 : decode cL_law 1553 = .ok (.aload_n 2, 1) := by decide +kernel
theorem dL_law_1554 : decode cL_law 1554 = .ok (.invokevirtual 180, 3) := by decide +kernel
theorem dL_law_1557 : decode cL_law 1557 = .ok (.if_icmp .eq 338, 3) := by decide +kernel
theorem dL_law_1560 : decode cL_law 1560 = .ok (.iconst 0, 1) := by decide +kernel
theorem dL_law_1561 : decode cL_law 1561 = .ok (.ireturn, 1) := by decide +kernel
theorem dL_law_1562 : decode cL_law 1562 = .ok (.aload_n 1, 1) := by decide +kernel
theorem dL_law_1563 : decode cL_law 1563 = .ok (.aload_n 0, 1) := by decide +kernel
theorem dL_law_1564 : decode cL_law 1564 = .ok (.iload 4, 2) := by decide +kernel
theorem dL_law_1566 : decode cL_law 1566 = .ok (.iconst 1, 1) := by decide +kernel
theorem dL_law_1567 : decode cL_law 1567 = .ok (.iadd, 1) := by decide +kernel
theorem dL_law_1568 : decode cL_law 1568 = .ok (.iaload, 1) := by decide +kernel
theorem dL_law_1569 : decode cL_law 1569 = .ok (.aload_n 0, 1) := by decide +kernel
theorem dL_law_1570 : decode cL_law 1570 = .ok (.iload 4, 2) := by decide +kernel
theorem dL_law_1572 : decode cL_law 1572 = .ok (.iconst 2, 1) := by decide +kernel
theorem dL_law_1573 : decode cL_law 1573 = .ok (.iadd, 1) := by decide +kernel
theorem dL_law_1574 : decode cL_law 1574 = .ok (.iaload, 1) := by decide +kernel
theorem dL_law_1575 : decode cL_law 1575 = .ok (.ifCond .eq 7, 3) := by decide +kernel
theorem dL_law_1578 : decode cL_law 1578 = .ok (.iconst 1, 1) := by decide +kernel
theorem dL_law_1579 : decode cL_law 1579 = .ok (.goto 4, 3) := by decide +kernel
theorem dL_law_1582 : decode cL_law 1582 = .ok (.iconst 0, 1) := by decide +kernel
theorem dL_law_1583 : decode cL_law 1583 = .ok (.aload_n 3, 1) := by decide +kernel
theorem dL_law_1584 : decode cL_law 1584 = .ok (.invokestatic 181, 3) := by decide +kernel
theorem dL_law_1587 : decode cL_law 1587 = .ok (.istore 5, 2) := by decide +kernel
theorem dL_law_1589 : decode cL_law 1589 = .ok (.aload_n 2, 1) := by decide +kernel
theorem dL_law_1590 : decode cL_law 1590 = .ok (.aload_n 0, 1) := by decide +kernel
theorem dL_law_1591 : decode cL_law 1591 = .ok (.iload 4, 2) := by decide +kernel
theorem dL_law_1593 : decode cL_law 1593 = .ok (.iconst 1, 1) := by decide +kernel
theorem dL_law_1594 : decode cL_law 1594 = .ok (.iadd, 1) := by decide +kernel
theorem dL_law_1595 : decode cL_law 1595 = .ok (.iaload, 1) := by decide +kernel
theorem dL_law_1596 : decode cL_law 1596 = .ok (.aload_n 0, 1) := by decide +kernel
theorem dL_law_1597 : decode cL_law 1597 = .ok (.iload 4, 2) := by decide +kernel
theorem dL_law_1599 : decode cL_law 1599 = .ok (.iconst 2, 1) := by decide +kernel
theorem dL_law_1600 : decode cL_law 1600 = .ok (.iadd, 1) := by decide +kernel
theorem dL_law_1601 : decode cL_law 1601 = .ok (.iaload, 1) := by decide +kernel
theorem dL_law_1602 : decode cL_law 1602 = .ok (.ifCond .eq 7, 3) := by decide +kernel
theorem dL_law_1605 : decode cL_law 1605 = .ok (.iconst 1, 1) := by decide +kernel
theorem dL_law_1606 : decode cL_law 1606 = .ok (.goto 4, 3) := by decide +kernel
theorem dL_law_1609 : decode cL_law 1609 = .ok (.iconst 0, 1) := by decide +kernel
theorem dL_law_1610 : decode cL_law 1610 = .ok (.invokevirtual 184, 3) := by decide +kernel
theorem dL_law_1613 : decode cL_law 1613 = .ok (.istore 6, 2) := by decide +kernel
theorem dL_law_1615 : decode cL_law 1615 = .ok (.aload_n 2, 1) := by decide +kernel
theorem dL_law_1616 : decode cL_law 1616 = .ok (.invokevirtual 108, 3) := by decide +kernel
theorem dL_law_1619 : decode cL_law 1619 = .ok (.iload 5, 2) := by decide +kernel
theorem dL_law_1621 : decode cL_law 1621 = .ok (.if_icmp .eq 5, 3) := by decide +kernel
theorem dL_law_1624 : decode cL_law 1624 = .ok (.iconst 0, 1) := by decide +kernel
theorem dL_law_1625 : decode cL_law 1625 = .ok (.ireturn, 1) := by decide +kernel
theorem dL_law_1626 : decode cL_law 1626 = .ok (.iload 5, 2) := by decide +kernel
theorem dL_law_1628 : decode cL_law 1628 = .ok (.ifCond .ne 15, 3) := by decide +kernel
theorem dL_law_1631 : decode cL_law 1631 = .ok (.aload_n 3, 1) := by decide +kernel
theorem dL_law_1632 : decode cL_law 1632 = .ok (.iconst 0, 1) := by decide +kernel
theorem dL_law_1633 : decode cL_law 1633 = .ok (.laload, 1) := by decide +kernel
theorem dL_law_1634 : decode cL_law 1634 = .ok (.iload 6, 2) := by decide +kernel
theorem dL_law_1636 : decode cL_law 1636 = .ok (.i2l, 1) := by decide +kernel
theorem dL_law_1637 : decode cL_law 1637 = .ok (.lcmp, 1) := by decide +kernel
theorem dL_law_1638 : decode cL_law 1638 = .ok (.ifCond .eq 5, 3) := by decide +kernel
theorem dL_law_1641 : decode cL_law 1641 = .ok (.iconst 0, 1) := by decide +kernel
theorem dL_law_1642 : decode cL_law 1642 = .ok (.ireturn, 1) := by decide +kernel
theorem dL_law_1643 : decode cL_law 1643 = .ok (.goto 252, 3) := by decide +kernel
theorem dL_law_1646 : decode cL_law 1646 = .ok (.aload_n 1, 1) := by decide +kernel
theorem dL_law_1647 : decode cL_law 1647 = .ok (.aload_n 3, 1) := by decide +kernel
theorem dL_law_1648 : decode cL_law 1648 = .ok (.invokestatic 185, 3) := by decide +kernel
theorem dL_law_1651 : decode cL_law 1651 = .ok (.istore 5, 2) := by decide +kernel
theorem dL_law_1653 : decode cL_law 1653 = .ok (.aload_n 2, 1) := by decide +kernel
theorem dL_law_1654 : decode cL_law 1654 = .ok (.invokevirtual 188, 3) := by decide +kernel
theorem dL_law_1657 : decode cL_law 1657 = .ok (.istore 6, 2) := by decide +kernel
theorem dL_law_1659 : decode cL_law 1659 = .ok (.aload_n 2, 1) := by decide +kernel
theorem dL_law_1660 : decode cL_law 1660 = .ok (.invokevirtual 108, 3) := by decide +kernel
theorem dL_law_1663 : decode cL_law 1663 = .ok (.iload 5, 2) := by decide +kernel
theorem dL_law_1665 : decode cL_law 1665 = .ok (.if_icmp .eq 5, 3) := by decide +kernel
theorem dL_law_1668 : decode cL_law 1668 = .ok (.iconst 0, 1) := by decide +kernel
theorem dL_law_1669 : decode cL_law 1669 = .ok (.ireturn, 1) := by decide +kernel
theorem dL_law_1670 : decode cL_law 1670 = .ok (.iload 5, 2) := by decide +kernel
theorem dL_law_1672 : decode cL_law 1672 = .ok (.ifCond .ne 15, 3) := by decide +kernel
theorem dL_law_1675 : decode cL_law 1675 = .ok (.aload_n 3, 1) := by decide +kernel
theorem dL_law_1676 : decode cL_law 1676 = .ok (.iconst 0, 1) := by decide +kernel
theorem dL_law_1677 : decode cL_law 1677 = .ok (.laload, 1) := by decide +kernel
theorem dL_law_1678 : decode cL_law 1678 = .ok (.iload 6, 2) := by decide +kernel
theorem dL_law_1680 : decode cL_law 1680 = .ok (.i2l, 1) := by decide +kernel
theorem dL_law_1681 : decode cL_law 1681 = .ok (.lcmp, 1) := by decide +kernel
theorem dL_law_1682 : decode cL_law 1682 = .ok (.ifCond .eq 5, 3) := by decide +kernel
theorem dL_law_1685 : decode cL_law 1685 = .ok (.iconst 0, 1) := by decide +kernel
theorem dL_law_1686 : decode cL_law 1686 = .ok (.ireturn, 1) := by decide +kernel
theorem dL_law_1687 : decode cL_law 1687 = .ok (.goto 208, 3) := by decide +kernel
theorem dL_law_1690 : decode cL_law 1690 = .ok (.aload_n 1, 1) := by decide +kernel
theorem dL_law_1691 : decode cL_law 1691 = .ok (.invokevirtual 189, 3) := by decide +kernel
theorem dL_law_1694 : decode cL_law 1694 = .ok (.aload_n 2, 1) := by decide +kernel
theorem dL_law_1695 : decode cL_law 1695 = .ok (.invokevirtual 192, 3) := by decide +kernel
theorem dL_law_1698 : decode cL_law 1698 = .ok (.if_icmp .eq 197, 3) := by decide +kernel
theorem dL_law_1701 : decode cL_law 1701 = .ok (.iconst 0, 1) := by decide +kernel
theorem dL_law_1702 : decode cL_law 1702 = .ok (.ireturn, 1) := by decide +kernel
theorem dL_law_1703 : decode cL_law 1703 = .ok (.aload_n 1, 1) := by decide +kernel
theorem dL_law_1704 : decode cL_law 1704 = .ok (.aload_n 0, 1) := by decide +kernel
theorem dL_law_1705 : decode cL_law 1705 = .ok (.iload 4, 2) := by decide +kernel
theorem dL_law_1707 : decode cL_law 1707 = .ok (.iconst 1, 1) := by decide +kernel
theorem dL_law_1708 : decode cL_law 1708 = .ok (.iadd, 1) := by decide +kernel
theorem dL_law_1709 : decode cL_law 1709 = .ok (.iaload, 1) := by decide +kernel
theorem dL_law_1710 : decode cL_law 1710 = .ok (.aload_n 3, 1) := by decide +kernel
theorem dL_law_1711 : decode cL_law 1711 = .ok (.invokestatic 193, 3) := by decide +kernel
theorem dL_law_1714 : decode cL_law 1714 = .ok (.istore 5, 2) := by decide +kernel
theorem dL_law_1716 : decode cL_law 1716 = .ok (.aload_n 2, 1) := by decide +kernel
theorem dL_law_1717 : decode cL_law 1717 = .ok (.aload_n 0, 1) := by decide +kernel
theorem dL_law_1718 : decode cL_law 1718 = .ok (.iload 4, 2) := by decide +kernel
theorem dL_law_1720 : decode cL_law 1720 = .ok (.iconst 1, 1) := by decide +kernel
theorem dL_law_1721 : decode cL_law 1721 = .ok (.iadd, 1) := by decide +kernel
theorem dL_law_1722 : decode cL_law 1722 = .ok (.iaload, 1) := by decide +kernel
theorem dL_law_1723 : decode cL_law 1723 = .ok (.invokevirtual 195, 3) := by decide +kernel
theorem dL_law_1726 : decode cL_law 1726 = .ok (.istore 6, 2) := by decide +kernel
theorem dL_law_1728 : decode cL_law 1728 = .ok (.aload_n 2, 1) := by decide +kernel
theorem dL_law_1729 : decode cL_law 1729 = .ok (.invokevirtual 108, 3) := by decide +kernel
theorem dL_law_1732 : decode cL_law 1732 = .ok (.iload 5, 2) := by decide +kernel
theorem dL_law_1734 : decode cL_law 1734 = .ok (.if_icmp .eq 5, 3) := by decide +kernel
theorem dL_law_1737 : decode cL_law 1737 = .ok (.iconst 0, 1) := by decide +kernel
theorem dL_law_1738 : decode cL_law 1738 = .ok (.ireturn, 1) := by decide +kernel
theorem dL_law_1739 : decode cL_law 1739 = .ok (.iload 5, 2) := by decide +kernel
theorem dL_law_1741 : decode cL_law 1741 = .ok (.ifCond .ne 15, 3) := by decide +kernel
theorem dL_law_1744 : decode cL_law 1744 = .ok (.aload_n 3, 1) := by decide +kernel
theorem dL_law_1745 : decode cL_law 1745 = .ok (.iconst 0, 1) := by decide +kernel
theorem dL_law_1746 : decode cL_law 1746 = .ok (.laload, 1) := by decide +kernel
theorem dL_law_1747 : decode cL_law 1747 = .ok (.iload 6, 2) := by decide +kernel
theorem dL_law_1749 : decode cL_law 1749 = .ok (.i2l, 1) := by decide +kernel
theorem dL_law_1750 : decode cL_law 1750 = .ok (.lcmp, 1) := by decide +kernel
theorem dL_law_1751 : decode cL_law 1751 = .ok (.ifCond .eq 5, 3) := by decide +kernel
theorem dL_law_1754 : decode cL_law 1754 = .ok (.iconst 0, 1) := by decide +kernel
theorem dL_law_1755 : decode cL_law 1755 = .ok (.ireturn, 1) := by decide +kernel
theorem dL_law_1756 : decode cL_law 1756 = .ok (.goto 139, 3) := by decide +kernel
theorem dL_law_1759 : decode cL_law 1759 = .ok (.aload_n 1, 1) := by decide +kernel
theorem dL_law_1760 : decode cL_law 1760 = .ok (.aload_n 0, 1) := by decide +kernel
theorem dL_law_1761 : decode cL_law 1761 = .ok (.iload 4, 2) := by decide +kernel
theorem dL_law_1763 : decode cL_law 1763 = .ok (.iconst 1, 1) := by decide +kernel
theorem dL_law_1764 : decode cL_law 1764 = .ok (.iadd, 1) := by decide +kernel
theorem dL_law_1765 : decode cL_law 1765 = .ok (.iaload, 1) := by decide +kernel
theorem dL_law_1766 : decode cL_law 1766 = .ok (.aload_n 0, 1) := by decide +kernel
theorem dL_law_1767 : decode cL_law 1767 = .ok (.iload 4, 2) := by decide +kernel
theorem dL_law_1769 : decode cL_law 1769 = .ok (.iconst 2, 1) := by decide +kernel
theorem dL_law_1770 : decode cL_law 1770 = .ok (.iadd, 1) := by decide +kernel
theorem dL_law_1771 : decode cL_law 1771 = .ok (.iaload, 1) := by decide +kernel
theorem dL_law_1772 : decode cL_law 1772 = .ok (.aload_n 3, 1) := by decide +kernel
theorem dL_law_1773 : decode cL_law 1773 = .ok (.invokestatic 196, 3) := by decide +kernel
theorem dL_law_1776 : decode cL_law 1776 = .ok (.istore 5, 2) := by decide +kernel
theorem dL_law_1778 : decode cL_law 1778 = .ok (.aload_n 2, 1) := by decide +kernel
theorem dL_law_1779 : decode cL_law 1779 = .ok (.aload_n 0, 1) := by decide +kernel
theorem dL_law_1780 : decode cL_law 1780 = .ok (.iload 4, 2) := by decide +kernel
theorem dL_law_1782 : decode cL_law 1782 = .ok (.iconst 1, 1) := by decide +kernel
theorem dL_law_1783 : decode cL_law 1783 = .ok (.iadd, 1) := by decide +kernel
theorem dL_law_1784 : decode cL_law 1784 = .ok (.iaload, 1) := by decide +kernel
theorem dL_law_1785 : decode cL_law 1785 = .ok (.aload_n 0, 1) := by decide +kernel
theorem dL_law_1786 : decode cL_law 1786 = .ok (.iload 4, 2) := by decide +kernel
theorem dL_law_1788 : decode cL_law 1788 = .ok (.iconst 2, 1) := by decide +kernel
theorem dL_law_1789 : decode cL_law 1789 = .ok (.iadd, 1) := by decide +kernel
theorem dL_law_1790 : decode cL_law 1790 = .ok (.iaload, 1) := by decide +kernel
theorem dL_law_1791 : decode cL_law 1791 = .ok (.invokevirtual 198, 3) := by decide +kernel
theorem dL_law_1794 : decode cL_law 1794 = .ok (.istore 6, 2) := by decide +kernel
theorem dL_law_1796 : decode cL_law 1796 = .ok (.aload_n 2, 1) := by decide +kernel
theorem dL_law_1797 : decode cL_law 1797 = .ok (.invokevirtual 108, 3) := by decide +kernel
theorem dL_law_1800 : decode cL_law 1800 = .ok (.iload 5, 2) := by decide +kernel
theorem dL_law_1802 : decode cL_law 1802 = .ok (.if_icmp .eq 5, 3) := by decide +kernel
theorem dL_law_1805 : decode cL_law 1805 = .ok (.iconst 0, 1) := by decide +kernel
theorem dL_law_1806 : decode cL_law 1806 = .ok (.ireturn, 1) := by decide +kernel
theorem dL_law_1807 : decode cL_law 1807 = .ok (.iload 5, 2) := by decide +kernel
theorem dL_law_1809 : decode cL_law 1809 = .ok (.ifCond .ne 15, 3) := by decide +kernel
theorem dL_law_1812 : decode cL_law 1812 = .ok (.aload_n 3, 1) := by decide +kernel
theorem dL_law_1813 : decode cL_law 1813 = .ok (.iconst 0, 1) := by decide +kernel
theorem dL_law_1814 : decode cL_law 1814 = .ok (.laload, 1) := by decide +kernel
theorem dL_law_1815 : decode cL_law 1815 = .ok (.iload 6, 2) := by decide +kernel
theorem dL_law_1817 : decode cL_law 1817 = .ok (.i2l, 1) := by decide +kernel
theorem dL_law_1818 : decode cL_law 1818 = .ok (.lcmp, 1) := by decide +kernel
theorem dL_law_1819 : decode cL_law 1819 = .ok (.ifCond .eq 5, 3) := by decide +kernel
theorem dL_law_1822 : decode cL_law 1822 = .ok (.iconst 0, 1) := by decide +kernel
theorem dL_law_1823 : decode cL_law 1823 = .ok (.ireturn, 1) := by decide +kernel
theorem dL_law_1824 : decode cL_law 1824 = .ok (.goto 71, 3) := by decide +kernel
theorem dL_law_1827 : decode cL_law 1827 = .ok (.aload_n 1, 1) := by decide +kernel
theorem dL_law_1828 : decode cL_law 1828 = .ok (.aload_n 0, 1) := by decide +kernel
theorem dL_law_1829 : decode cL_law 1829 = .ok (.iload 4, 2) := by decide +kernel
theorem dL_law_1831 : decode cL_law 1831 = .ok (.iconst 1, 1) := by decide +kernel
theorem dL_law_1832 : decode cL_law 1832 = .ok (.iadd, 1) := by decide +kernel
theorem dL_law_1833 : decode cL_law 1833 = .ok (.iaload, 1) := by decide +kernel
theorem dL_law_1834 : decode cL_law 1834 = .ok (.aload_n 0, 1) := by decide +kernel
theorem dL_law_1835 : decode cL_law 1835 = .ok (.iload 4, 2) := by decide +kernel
theorem dL_law_1837 : decode cL_law 1837 = .ok (.iconst 2, 1) := by decide +kernel
theorem dL_law_1838 : decode cL_law 1838 = .ok (.iadd, 1) := by decide +kernel
theorem dL_law_1839 : decode cL_law 1839 = .ok (.iaload, 1) := by decide +kernel
theorem dL_law_1840 : decode cL_law 1840 = .ok (.aload_n 3, 1) := by decide +kernel
theorem dL_law_1841 : decode cL_law 1841 = .ok (.invokestatic 199, 3) := by decide +kernel
theorem dL_law_1844 : decode cL_law 1844 = .ok (.istore 5, 2) := by decide +kernel
theorem dL_law_1846 : decode cL_law 1846 = .ok (.aload_n 2, 1) := by decide +kernel
theorem dL_law_1847 : decode cL_law 1847 = .ok (.aload_n 0, 1) := by decide +kernel
theorem dL_law_1848 : decode cL_law 1848 = .ok (.iload 4, 2) := by decide +kernel
theorem dL_law_1850 : decode cL_law 1850 = .ok (.iconst 1, 1) := by decide +kernel
theorem dL_law_1851 : decode cL_law 1851 = .ok (.iadd, 1) := by decide +kernel
theorem dL_law_1852 : decode cL_law 1852 = .ok (.iaload, 1) := by decide +kernel
theorem dL_law_1853 : decode cL_law 1853 = .ok (.aload_n 0, 1) := by decide +kernel
theorem dL_law_1854 : decode cL_law 1854 = .ok (.iload 4, 2) := by decide +kernel
theorem dL_law_1856 : decode cL_law 1856 = .ok (.iconst 2, 1) := by decide +kernel
theorem dL_law_1857 : decode cL_law 1857 = .ok (.iadd, 1) := by decide +kernel
theorem dL_law_1858 : decode cL_law 1858 = .ok (.iaload, 1) := by decide +kernel
theorem dL_law_1859 : decode cL_law 1859 = .ok (.invokevirtual 201, 3) := by decide +kernel
theorem dL_law_1862 : decode cL_law 1862 = .ok (.istore 6, 2) := by decide +kernel
theorem dL_law_1864 : decode cL_law 1864 = .ok (.aload_n 2, 1) := by decide +kernel
theorem dL_law_1865 : decode cL_law 1865 = .ok (.invokevirtual 108, 3) := by decide +kernel
theorem dL_law_1868 : decode cL_law 1868 = .ok (.iload 5, 2) := by decide +kernel
theorem dL_law_1870 : decode cL_law 1870 = .ok (.if_icmp .eq 5, 3) := by decide +kernel
theorem dL_law_1873 : decode cL_law 1873 = .ok (.iconst 0, 1) := by decide +kernel
theorem dL_law_1874 : decode cL_law 1874 = .ok (.ireturn, 1) := by decide +kernel
theorem dL_law_1875 : decode cL_law 1875 = .ok (.iload 5, 2) := by decide +kernel
theorem dL_law_1877 : decode cL_law 1877 = .ok (.ifCond .ne 15, 3) := by decide +kernel
theorem dL_law_1880 : decode cL_law 1880 = .ok (.aload_n 3, 1) := by decide +kernel
theorem dL_law_1881 : decode cL_law 1881 = .ok (.iconst 0, 1) := by decide +kernel
theorem dL_law_1882 : decode cL_law 1882 = .ok (.laload, 1) := by decide +kernel
theorem dL_law_1883 : decode cL_law 1883 = .ok (.iload 6, 2) := by decide +kernel
theorem dL_law_1885 : decode cL_law 1885 = .ok (.i2l, 1) := by decide +kernel
theorem dL_law_1886 : decode cL_law 1886 = .ok (.lcmp, 1) := by decide +kernel
theorem dL_law_1887 : decode cL_law 1887 = .ok (.ifCond .eq 5, 3) := by decide +kernel
theorem dL_law_1890 : decode cL_law 1890 = .ok (.iconst 0, 1) := by decide +kernel
theorem dL_law_1891 : decode cL_law 1891 = .ok (.ireturn, 1) := by decide +kernel
theorem dL_law_1892 : decode cL_law 1892 = .ok (.goto 3, 3) := by decide +kernel
theorem dL_law_1895 : decode cL_law 1895 = .ok (.iinc 4 6, 3) := by decide +kernel
theorem dL_law_1898 : decode cL_law 1898 = .ok (.goto (-1875), 3) := by decide +kernel
theorem dL_law_1901 : decode cL_law 1901 = .ok (.iconst 1, 1) := by decide +kernel
theorem dL_law_1902 : decode cL_law 1902 = .ok (.ireturn, 1) := by decide +kernel
theorem ml_RL_122 : MV RL 122 8 yX8_addLabel 4 := ⟨⟨by decide +kernel, by decide +kernel, by decide +kernel⟩, tb21 (mem_i 7 rfl), tb0 (mem_i 9 rfl), Or.inl (tb21 (mem_i 6 rfl)), RX8, TX8, 37, rfl, rfl, tb21 (mem_i 8 rfl)⟩
theorem ml_RL_108 : MV RL 108 8 yX8_thrown 0 := ⟨⟨by decide +kernel, by decide +kernel, by decide +kernel⟩, tb18 (mem_i 21 rfl), tb0 (mem_i 9 rfl), Or.inl (tb18 (mem_i 20 rfl)), RX8, TX8, 37, rfl, rfl, tb18 (mem_i 22 rfl)⟩
theorem ml_RL_119 : MS RL 119 yL_addLabel 6 := ⟨⟨by decide +kernel, by decide +kernel, by decide +kernel⟩, tb8 (mem_i 18 rfl), tb0 (mem_i 0 rfl), Or.inl (tb8 (mem_i 17 rfl))⟩
theorem ml_RL_184 : MV RL 184 8 yX8_part 2 := ⟨⟨by decide +kernel, by decide +kernel, by decide +kernel⟩, tb24 (mem_i 23 rfl), tb0 (mem_i 9 rfl), Or.inl (tb24 (mem_i 22 rfl)), RX8, TX8, 37, rfl, rfl, tb24 (mem_i 24 rfl)⟩
theorem ml_RL_181 : MS RL 181 yL_part 4 := ⟨⟨by decide +kernel, by decide +kernel, by decide +kernel⟩, tb13 (mem_i 27 rfl), tb0 (mem_i 0 rfl), Or.inl (tb13 (mem_i 26 rfl))⟩
theorem ml_RL_102 : MS RL 102 yL_spell 3 := ⟨⟨by decide +kernel, by decide +kernel, by decide +kernel⟩, tb5 (mem_i 8 rfl), tb0 (mem_i 0 rfl), Or.inl (tb5 (mem_i 7 rfl))⟩
theorem ml_RL_107 : MV RL 107 8 yX8_spell 1 := ⟨⟨by decide +kernel, by decide +kernel, by decide +kernel⟩, tb18 (mem_i 25 rfl), tb0 (mem_i 9 rfl), Or.inl (tb18 (mem_i 24 rfl)), RX8, TX8, 37, rfl, rfl, tb18 (mem_i 26 rfl)⟩
theorem ml_RL_111 : MV RL 111 7 yX7_clearSpelled 0 := ⟨⟨by decide +kernel, by decide +kernel, by decide +kernel⟩, tb4 (mem_i 15 rfl), tb0 (mem_i 1 rfl), Or.inl (tb4 (mem_i 14 rfl)), RX7, TX7, 9, rfl, rfl, tb4 (mem_i 16 rfl)⟩
theorem ml_RL_114 : MV RL 114 8 yX8_clearSpelled 0 := ⟨⟨by decide +kernel, by decide +kernel, by decide +kernel⟩, tb19 (mem_i 5 rfl), tb0 (mem_i 9 rfl), Or.inl (tb19 (mem_i 4 rfl)), RX8, TX8, 37, rfl, rfl, tb19 (mem_i 6 rfl)⟩
theorem ml_RL_115 : MS RL 115 yL_addBox 7 := ⟨⟨by decide +kernel, by decide +kernel, by decide +kernel⟩, tb5 (mem_i 19 rfl), tb0 (mem_i 0 rfl), Or.inl (tb5 (mem_i 18 rfl))⟩
theorem ml_RL_118 : MV RL 118 8 yX8_addBox 5 := ⟨⟨by decide +kernel, by decide +kernel, by decide +kernel⟩, tb19 (mem_i 9 rfl), tb0 (mem_i 9 rfl), Or.inl (tb19 (mem_i 8 rfl)), RX8, TX8, 37, rfl, rfl, tb19 (mem_i 10 rfl)⟩
theorem ml_RL_123 : MS RL 123 yL_move 6 := ⟨⟨by decide +kernel, by decide +kernel, by decide +kernel⟩, tb8 (mem_i 24 rfl), tb0 (mem_i 0 rfl), Or.inl (tb8 (mem_i 23 rfl))⟩
theorem ml_RL_126 : MV RL 126 8 yX8_move 4 := ⟨⟨by decide +kernel, by decide +kernel, by decide +kernel⟩, tb21 (mem_i 11 rfl), tb0 (mem_i 9 rfl), Or.inl (tb21 (mem_i 10 rfl)), RX8, TX8, 37, rfl, rfl, tb21 (mem_i 12 rfl)⟩
theorem ml_RL_127 : MS RL 127 yL_resize 6 := ⟨⟨by decide +kernel, by decide +kernel, by decide +kernel⟩, tb9 (mem_i 7 rfl), tb0 (mem_i 0 rfl), Or.inl (tb9 (mem_i 6 rfl))⟩
theorem ml_RL_129 : MV RL 129 8 yX8_resize 4 := ⟨⟨by decide +kernel, by decide +kernel, by decide +kernel⟩, tb21 (mem_i 24 rfl), tb0 (mem_i 9 rfl), Or.inl (tb21 (mem_i 23 rfl)), RX8, TX8, 37, rfl, rfl, tb21 (mem_i 25 rfl)⟩
theorem ml_RL_130 : MS RL 130 yL_lay 6 := ⟨⟨by decide +kernel, by decide +kernel, by decide +kernel⟩, tb9 (mem_i 13 rfl), tb0 (mem_i 0 rfl), Or.inl (tb9 (mem_i 12 rfl))⟩
theorem ml_RL_132 : MV RL 132 8 yX8_lay 4 := ⟨⟨by decide +kernel, by decide +kernel, by decide +kernel⟩, tb21 (mem_i 28 rfl), tb0 (mem_i 9 rfl), Or.inl (tb21 (mem_i 27 rfl)), RX8, TX8, 37, rfl, rfl, tb21 (mem_i 29 rfl)⟩
theorem ml_RL_133 : MS RL 133 yL_drop 4 := ⟨⟨by decide +kernel, by decide +kernel, by decide +kernel⟩, tb9 (mem_i 21 rfl), tb0 (mem_i 0 rfl), Or.inl (tb9 (mem_i 20 rfl))⟩
theorem ml_RL_136 : MV RL 136 8 yX8_drop 2 := ⟨⟨by decide +kernel, by decide +kernel, by decide +kernel⟩, tb22 (mem_i 2 rfl), tb0 (mem_i 9 rfl), Or.inl (tb22 (mem_i 1 rfl)), RX8, TX8, 37, rfl, rfl, tb22 (mem_i 3 rfl)⟩
theorem ml_RL_137 : MS RL 137 yL_back 3 := ⟨⟨by decide +kernel, by decide +kernel, by decide +kernel⟩, tb10 (mem_i 6 rfl), tb0 (mem_i 0 rfl), Or.inl (tb10 (mem_i 5 rfl))⟩
theorem ml_RL_139 : MV RL 139 8 yX8_back 1 := ⟨⟨by decide +kernel, by decide +kernel, by decide +kernel⟩, tb22 (mem_i 12 rfl), tb0 (mem_i 9 rfl), Or.inl (tb22 (mem_i 11 rfl)), RX8, TX8, 37, rfl, rfl, tb22 (mem_i 13 rfl)⟩
theorem ml_RL_140 : MS RL 140 yL_on 4 := ⟨⟨by decide +kernel, by decide +kernel, by decide +kernel⟩, tb11 (mem_i 0 rfl), tb0 (mem_i 0 rfl), Or.inl (tb10 (mem_i 29 rfl))⟩
theorem ml_RL_142 : MV RL 142 8 yX8_on 2 := ⟨⟨by decide +kernel, by decide +kernel, by decide +kernel⟩, tb22 (mem_i 22 rfl), tb0 (mem_i 9 rfl), Or.inl (tb22 (mem_i 21 rfl)), RX8, TX8, 37, rfl, rfl, tb22 (mem_i 23 rfl)⟩
theorem ml_RL_143 : MS RL 143 yL_branches 3 := ⟨⟨by decide +kernel, by decide +kernel, by decide +kernel⟩, tb11 (mem_i 11 rfl), tb0 (mem_i 0 rfl), Or.inl (tb11 (mem_i 10 rfl))⟩
theorem ml_RL_145 : MV RL 145 8 yX8_branches 1 := ⟨⟨by decide +kernel, by decide +kernel, by decide +kernel⟩, tb22 (mem_i 29 rfl), tb0 (mem_i 9 rfl), Or.inl (tb22 (mem_i 28 rfl)), RX8, TX8, 37, rfl, rfl, tb23 (mem_i 0 rfl)⟩
theorem ml_RL_146 : MS RL 146 yL_below 3 := ⟨⟨by decide +kernel, by decide +kernel, by decide +kernel⟩, tb11 (mem_i 19 rfl), tb0 (mem_i 0 rfl), Or.inl (tb11 (mem_i 18 rfl))⟩
theorem ml_RL_148 : MV RL 148 8 yX8_below 1 := ⟨⟨by decide +kernel, by decide +kernel, by decide +kernel⟩, tb23 (mem_i 3 rfl), tb0 (mem_i 9 rfl), Or.inl (tb23 (mem_i 2 rfl)), RX8, TX8, 37, rfl, rfl, tb23 (mem_i 4 rfl)⟩
theorem ml_RL_149 : MS RL 149 yL_standsAt 3 := ⟨⟨by decide +kernel, by decide +kernel, by decide +kernel⟩, tb11 (mem_i 28 rfl), tb0 (mem_i 0 rfl), Or.inl (tb11 (mem_i 27 rfl))⟩
theorem ml_RL_151 : MV RL 151 8 yX8_standsAt 1 := ⟨⟨by decide +kernel, by decide +kernel, by decide +kernel⟩, tb23 (mem_i 7 rfl), tb0 (mem_i 9 rfl), Or.inl (tb23 (mem_i 6 rfl)), RX8, TX8, 37, rfl, rfl, tb23 (mem_i 8 rfl)⟩
theorem ml_RL_152 : MV RL 152 7 yX7_acts 0 := ⟨⟨by decide +kernel, by decide +kernel, by decide +kernel⟩, tb4 (mem_i 19 rfl), tb0 (mem_i 1 rfl), Or.inl (tb4 (mem_i 18 rfl)), RX7, TX7, 9, rfl, rfl, tb4 (mem_i 20 rfl)⟩
theorem ml_RL_155 : MV RL 155 8 yX8_acts 0 := ⟨⟨by decide +kernel, by decide +kernel, by decide +kernel⟩, tb23 (mem_i 11 rfl), tb0 (mem_i 9 rfl), Or.inl (tb23 (mem_i 10 rfl)), RX8, TX8, 37, rfl, rfl, tb23 (mem_i 12 rfl)⟩
theorem ml_RL_156 : MS RL 156 yL_counts 3 := ⟨⟨by decide +kernel, by decide +kernel, by decide +kernel⟩, tb12 (mem_i 4 rfl), tb0 (mem_i 0 rfl), Or.inl (tb12 (mem_i 3 rfl))⟩
theorem ml_RL_158 : MV RL 158 8 yX8_counts 1 := ⟨⟨by decide +kernel, by decide +kernel, by decide +kernel⟩, tb23 (mem_i 15 rfl), tb0 (mem_i 9 rfl), Or.inl (tb23 (mem_i 14 rfl)), RX8, TX8, 37, rfl, rfl, tb23 (mem_i 16 rfl)⟩
theorem ml_RL_159 : MS RL 159 yL_isVoid 3 := ⟨⟨by decide +kernel, by decide +kernel, by decide +kernel⟩, tb12 (mem_i 13 rfl), tb0 (mem_i 0 rfl), Or.inl (tb12 (mem_i 12 rfl))⟩
theorem ml_RL_161 : MV RL 161 8 yX8_isVoid 1 := ⟨⟨by decide +kernel, by decide +kernel, by decide +kernel⟩, tb23 (mem_i 22 rfl), tb0 (mem_i 9 rfl), Or.inl (tb23 (mem_i 21 rfl)), RX8, TX8, 37, rfl, rfl, tb23 (mem_i 23 rfl)⟩
theorem ml_RL_162 : MS RL 162 yL_isThere 3 := ⟨⟨by decide +kernel, by decide +kernel, by decide +kernel⟩, tb12 (mem_i 19 rfl), tb0 (mem_i 0 rfl), Or.inl (tb12 (mem_i 18 rfl))⟩
theorem ml_RL_164 : MV RL 164 8 yX8_isThere 1 := ⟨⟨by decide +kernel, by decide +kernel, by decide +kernel⟩, tb23 (mem_i 26 rfl), tb0 (mem_i 9 rfl), Or.inl (tb23 (mem_i 25 rfl)), RX8, TX8, 37, rfl, rfl, tb23 (mem_i 27 rfl)⟩
theorem ml_RL_165 : MS RL 165 yL_number 4 := ⟨⟨by decide +kernel, by decide +kernel, by decide +kernel⟩, tb12 (mem_i 25 rfl), tb0 (mem_i 0 rfl), Or.inl (tb12 (mem_i 24 rfl))⟩
theorem ml_RL_167 : MV RL 167 8 yX8_number 2 := ⟨⟨by decide +kernel, by decide +kernel, by decide +kernel⟩, tb24 (mem_i 0 rfl), tb0 (mem_i 9 rfl), Or.inl (tb23 (mem_i 29 rfl)), RX8, TX8, 37, rfl, rfl, tb24 (mem_i 1 rfl)⟩
theorem ml_RL_168 : MS RL 168 yL_numberAnew 4 := ⟨⟨by decide +kernel, by decide +kernel, by decide +kernel⟩, tb13 (mem_i 7 rfl), tb0 (mem_i 0 rfl), Or.inl (tb13 (mem_i 6 rfl))⟩
theorem ml_RL_170 : MV RL 170 8 yX8_numberAnew 2 := ⟨⟨by decide +kernel, by decide +kernel, by decide +kernel⟩, tb24 (mem_i 7 rfl), tb0 (mem_i 9 rfl), Or.inl (tb24 (mem_i 6 rfl)), RX8, TX8, 37, rfl, rfl, tb24 (mem_i 8 rfl)⟩
theorem ml_RL_171 : MS RL 171 yL_isInForce 3 := ⟨⟨by decide +kernel, by decide +kernel, by decide +kernel⟩, tb13 (mem_i 13 rfl), tb0 (mem_i 0 rfl), Or.inl (tb13 (mem_i 12 rfl))⟩
theorem ml_RL_173 : MV RL 173 8 yX8_isInForce 1 := ⟨⟨by decide +kernel, by decide +kernel, by decide +kernel⟩, tb24 (mem_i 11 rfl), tb0 (mem_i 9 rfl), Or.inl (tb24 (mem_i 10 rfl)), RX8, TX8, 37, rfl, rfl, tb24 (mem_i 12 rfl)⟩
theorem ml_RL_174 : MS RL 174 yL_holds 3 := ⟨⟨by decide +kernel, by decide +kernel, by decide +kernel⟩, tb13 (mem_i 19 rfl), tb0 (mem_i 0 rfl), Or.inl (tb13 (mem_i 18 rfl))⟩
theorem ml_RL_176 : MV RL 176 8 yX8_holds 1 := ⟨⟨by decide +kernel, by decide +kernel, by decide +kernel⟩, tb24 (mem_i 15 rfl), tb0 (mem_i 9 rfl), Or.inl (tb24 (mem_i 14 rfl)), RX8, TX8, 37, rfl, rfl, tb24 (mem_i 16 rfl)⟩
theorem ml_RL_177 : MV RL 177 7 yX7_broken 0 := ⟨⟨by decide +kernel, by decide +kernel, by decide +kernel⟩, tb4 (mem_i 23 rfl), tb0 (mem_i 1 rfl), Or.inl (tb4 (mem_i 22 rfl)), RX7, TX7, 9, rfl, rfl, tb4 (mem_i 24 rfl)⟩
theorem ml_RL_180 : MV RL 180 8 yX8_broken 0 := ⟨⟨by decide +kernel, by decide +kernel, by decide +kernel⟩, tb24 (mem_i 19 rfl), tb0 (mem_i 9 rfl), Or.inl (tb24 (mem_i 18 rfl)), RX8, TX8, 37, rfl, rfl, tb24 (mem_i 20 rfl)⟩
theorem ml_RL_185 : MS RL 185 yL_ask 2 := ⟨⟨by decide +kernel, by decide +kernel, by decide +kernel⟩, tb14 (mem_i 3 rfl), tb0 (mem_i 0 rfl), Or.inl (tb14 (mem_i 2 rfl))⟩
theorem ml_RL_188 : MV RL 188 8 yX8_ask 0 := ⟨⟨by decide +kernel, by decide +kernel, by decide +kernel⟩, tb24 (mem_i 27 rfl), tb0 (mem_i 9 rfl), Or.inl (tb24 (mem_i 26 rfl)), RX8, TX8, 37, rfl, rfl, tb24 (mem_i 28 rfl)⟩
theorem ml_RL_189 : MV RL 189 7 yX7_make 0 := ⟨⟨by decide +kernel, by decide +kernel, by decide +kernel⟩, tb5 (mem_i 4 rfl), tb0 (mem_i 1 rfl), Or.inl (tb5 (mem_i 3 rfl)), RX7, TX7, 9, rfl, rfl, tb5 (mem_i 5 rfl)⟩
theorem ml_RL_192 : MV RL 192 8 yX8_make 0 := ⟨⟨by decide +kernel, by decide +kernel, by decide +kernel⟩, tb25 (mem_i 1 rfl), tb0 (mem_i 9 rfl), Or.inl (tb25 (mem_i 0 rfl)), RX8, TX8, 37, rfl, rfl, tb25 (mem_i 2 rfl)⟩
theorem ml_RL_193 : MS RL 193 yL_length 3 := ⟨⟨by decide +kernel, by decide +kernel, by decide +kernel⟩, tb15 (mem_i 5 rfl), tb0 (mem_i 0 rfl), Or.inl (tb15 (mem_i 4 rfl))⟩
theorem ml_RL_195 : MV RL 195 8 yX8_length 1 := ⟨⟨by decide +kernel, by decide +kernel, by decide +kernel⟩, tb25 (mem_i 5 rfl), tb0 (mem_i 9 rfl), Or.inl (tb25 (mem_i 4 rfl)), RX8, TX8, 37, rfl, rfl, tb25 (mem_i 6 rfl)⟩
theorem ml_RL_196 : MS RL 196 yL_charAt 4 := ⟨⟨by decide +kernel, by decide +kernel, by decide +kernel⟩, tb15 (mem_i 16 rfl), tb0 (mem_i 0 rfl), Or.inl (tb15 (mem_i 15 rfl))⟩
theorem ml_RL_198 : MV RL 198 8 yX8_charAt 2 := ⟨⟨by decide +kernel, by decide +kernel, by decide +kernel⟩, tb25 (mem_i 26 rfl), tb0 (mem_i 9 rfl), Or.inl (tb25 (mem_i 25 rfl)), RX8, TX8, 37, rfl, rfl, tb25 (mem_i 27 rfl)⟩
theorem ml_RL_199 : MS RL 199 yL_charAnew 4 := ⟨⟨by decide +kernel, by decide +kernel, by decide +kernel⟩, tb15 (mem_i 24 rfl), tb0 (mem_i 0 rfl), Or.inl (tb15 (mem_i 23 rfl))⟩
theorem ml_RL_201 : MV RL 201 8 yX8_charAnew 2 := ⟨⟨by decide +kernel, by decide +kernel, by decide +kernel⟩, tb26 (mem_i 3 rfl), tb0 (mem_i 9 rfl), Or.inl (tb26 (mem_i 2 rfl)), RX8, TX8, 37, rfl, rfl, tb26 (mem_i 4 rfl)⟩
theorem s_lret {G : GT} {k n pc : Nat} {S : HS} {lv : List (Nat × AV)} {v : Int32} (hR : ∀ k n S lv pc, k ≤ 1108 → n ≤ 14105 → decode cL_law pc = .ok (.ireturn, 1) → G k n S lv pc [vI 1]) (h1 : k ≤ 1108) (h2 : n ≤ 14105) (hd : decode cL_law pc = .ok (.ireturn, 1)) : some v = some (1 : Int32) → G k n S lv pc [vI v] := fun h => by have e := Option.some.inj h; rw [e]; exact hR _ _ _ _ _ h1 h2 hd
def f_law_b1895 (xs : Nat → Int32) (L : Nat) (rec23 : HS × Int32 → Option Int32) (S : HS) (x4 : Int32) : Option Int32 :=
rec23 (S, (x4 + (6 : Int32)))
def f_law_b221 (xs : Nat → Int32) (L : Nat) (rec23 : HS × Int32 → Option Int32) (S : HS) (x4 : Int32) : Option Int32 :=
f_law_b1895 xs L rec23 S x4
def f_law_b338 (xs : Nat → Int32) (L : Nat) (rec23 : HS × Int32 → Option Int32) (S : HS) (x4 : Int32) : Option Int32 :=
f_law_b1895 xs L rec23 S x4
def f_law_b446 (xs : Nat → Int32) (L : Nat) (rec23 : HS × Int32 → Option Int32) (S : HS) (x4 : Int32) : Option Int32 :=
f_law_b1895 xs L rec23 S x4
def f_law_b413 (xs : Nat → Int32) (L : Nat) (rec23 : HS × Int32 → Option Int32) (S : HS) (x4 : Int32) (x5 : Int32) (t1 : Int32) (t2 : Int32) (t3 : Int32) (t4 : Int32) : Option Int32 :=
(f_X8_addLabel t1 t2 t3 t4 S).bind (fun o413 =>
(f_X8_thrown o413.1).bind (fun o419 =>
if o419 = x5 then
if x5 = 0 then
if ib (0 : Int32) (1) = true then
if (lg_cmp (o413.1.2.1 60 (0 : Int32).toNatClampNeg) o413.2.toInt64) = 0 then
f_law_b446 xs L rec23 o413.1 x4
else
some (0 : Int32)
else none
else
f_law_b446 xs L rec23 o413.1 x4
else
some (0 : Int32)))
def f_law_b374 (xs : Nat → Int32) (L : Nat) (rec23 : HS × Int32 → Option Int32) (S : HS) (x4 : Int32) (t1 : Int32) (t2 : Int32) (t3 : Int32) (t4 : Int32) : Option Int32 :=
(f_L_addLabel t1 t2 t3 t4 S).bind (fun o375 =>
if ib (x4 + (1 : Int32)) L = true then
if ib (x4 + (2 : Int32)) L = true then
if ib (x4 + (3 : Int32)) L = true then
if ib (x4 + (4 : Int32)) L = true then
if (xs (x4 + (4 : Int32)).toNatClampNeg) = 0 then
f_law_b413 xs L rec23 o375.1 x4 o375.2 (xs (x4 + (1 : Int32)).toNatClampNeg) (xs (x4 + (2 : Int32)).toNatClampNeg) (xs (x4 + (3 : Int32)).toNatClampNeg) (0 : Int32)
else
f_law_b413 xs L rec23 o375.1 x4 o375.2 (xs (x4 + (1 : Int32)).toNatClampNeg) (xs (x4 + (2 : Int32)).toNatClampNeg) (xs (x4 + (3 : Int32)).toNatClampNeg) (1 : Int32)
else none
else none
else none
else none)
def f_law_b538 (xs : Nat → Int32) (L : Nat) (rec23 : HS × Int32 → Option Int32) (S : HS) (x4 : Int32) : Option Int32 :=
f_law_b1895 xs L rec23 S x4
def f_law_b630 (xs : Nat → Int32) (L : Nat) (rec23 : HS × Int32 → Option Int32) (S : HS) (x4 : Int32) : Option Int32 :=
f_law_b1895 xs L rec23 S x4
def f_law_b722 (xs : Nat → Int32) (L : Nat) (rec23 : HS × Int32 → Option Int32) (S : HS) (x4 : Int32) : Option Int32 :=
f_law_b1895 xs L rec23 S x4
def f_law_b790 (xs : Nat → Int32) (L : Nat) (rec23 : HS × Int32 → Option Int32) (S : HS) (x4 : Int32) : Option Int32 :=
f_law_b1895 xs L rec23 S x4
def f_law_b846 (xs : Nat → Int32) (L : Nat) (rec23 : HS × Int32 → Option Int32) (S : HS) (x4 : Int32) : Option Int32 :=
f_law_b1895 xs L rec23 S x4
def f_law_b914 (xs : Nat → Int32) (L : Nat) (rec23 : HS × Int32 → Option Int32) (S : HS) (x4 : Int32) : Option Int32 :=
f_law_b1895 xs L rec23 S x4
def f_law_b970 (xs : Nat → Int32) (L : Nat) (rec23 : HS × Int32 → Option Int32) (S : HS) (x4 : Int32) : Option Int32 :=
f_law_b1895 xs L rec23 S x4
def f_law_b1026 (xs : Nat → Int32) (L : Nat) (rec23 : HS × Int32 → Option Int32) (S : HS) (x4 : Int32) : Option Int32 :=
f_law_b1895 xs L rec23 S x4
def f_law_b1082 (xs : Nat → Int32) (L : Nat) (rec23 : HS × Int32 → Option Int32) (S : HS) (x4 : Int32) : Option Int32 :=
f_law_b1895 xs L rec23 S x4
def f_law_b1158 (xs : Nat → Int32) (L : Nat) (rec23 : HS × Int32 → Option Int32) (S : HS) (x4 : Int32) : Option Int32 :=
f_law_b1895 xs L rec23 S x4
def f_law_b1152 (xs : Nat → Int32) (L : Nat) (rec23 : HS × Int32 → Option Int32) (S : HS) (x4 : Int32) (t0 : Int64) (t1 : Int64) : Option Int32 :=
if (lg_cmp t0 t1) = 0 then
f_law_b1158 xs L rec23 S x4
else
some (0 : Int32)
def f_law_b1221 (xs : Nat → Int32) (L : Nat) (rec23 : HS × Int32 → Option Int32) (S : HS) (x4 : Int32) : Option Int32 :=
f_law_b1895 xs L rec23 S x4
def f_law_b1215 (xs : Nat → Int32) (L : Nat) (rec23 : HS × Int32 → Option Int32) (S : HS) (x4 : Int32) (t0 : Int64) (t1 : Int64) : Option Int32 :=
if (lg_cmp t0 t1) = 0 then
f_law_b1221 xs L rec23 S x4
else
some (0 : Int32)
def f_law_b1284 (xs : Nat → Int32) (L : Nat) (rec23 : HS × Int32 → Option Int32) (S : HS) (x4 : Int32) : Option Int32 :=
f_law_b1895 xs L rec23 S x4
def f_law_b1278 (xs : Nat → Int32) (L : Nat) (rec23 : HS × Int32 → Option Int32) (S : HS) (x4 : Int32) (t0 : Int64) (t1 : Int64) : Option Int32 :=
if (lg_cmp t0 t1) = 0 then
f_law_b1284 xs L rec23 S x4
else
some (0 : Int32)
def f_law_b1352 (xs : Nat → Int32) (L : Nat) (rec23 : HS × Int32 → Option Int32) (S : HS) (x4 : Int32) : Option Int32 :=
f_law_b1895 xs L rec23 S x4
def f_law_b1420 (xs : Nat → Int32) (L : Nat) (rec23 : HS × Int32 → Option Int32) (S : HS) (x4 : Int32) : Option Int32 :=
f_law_b1895 xs L rec23 S x4
def f_law_b1483 (xs : Nat → Int32) (L : Nat) (rec23 : HS × Int32 → Option Int32) (S : HS) (x4 : Int32) : Option Int32 :=
f_law_b1895 xs L rec23 S x4
def f_law_b1477 (xs : Nat → Int32) (L : Nat) (rec23 : HS × Int32 → Option Int32) (S : HS) (x4 : Int32) (t0 : Int64) (t1 : Int64) : Option Int32 :=
if (lg_cmp t0 t1) = 0 then
f_law_b1483 xs L rec23 S x4
else
some (0 : Int32)
def f_law_b1546 (xs : Nat → Int32) (L : Nat) (rec23 : HS × Int32 → Option Int32) (S : HS) (x4 : Int32) : Option Int32 :=
f_law_b1895 xs L rec23 S x4
def f_law_b1540 (xs : Nat → Int32) (L : Nat) (rec23 : HS × Int32 → Option Int32) (S : HS) (x4 : Int32) (t0 : Int64) (t1 : Int64) : Option Int32 :=
if (lg_cmp t0 t1) = 0 then
f_law_b1546 xs L rec23 S x4
else
some (0 : Int32)
def f_law_b1643 (xs : Nat → Int32) (L : Nat) (rec23 : HS × Int32 → Option Int32) (S : HS) (x4 : Int32) : Option Int32 :=
f_law_b1895 xs L rec23 S x4
def f_law_b1610 (xs : Nat → Int32) (L : Nat) (rec23 : HS × Int32 → Option Int32) (S : HS) (x4 : Int32) (x5 : Int32) (t1 : Int32) (t2 : Int32) : Option Int32 :=
(f_X8_part t1 t2 S).bind (fun o1610 =>
(f_X8_thrown o1610.1).bind (fun o1616 =>
if o1616 = x5 then
if x5 = 0 then
if ib (0 : Int32) (1) = true then
if (lg_cmp (o1610.1.2.1 60 (0 : Int32).toNatClampNeg) o1610.2.toInt64) = 0 then
f_law_b1643 xs L rec23 o1610.1 x4
else
some (0 : Int32)
else none
else
f_law_b1643 xs L rec23 o1610.1 x4
else
some (0 : Int32)))
def f_law_b1583 (xs : Nat → Int32) (L : Nat) (rec23 : HS × Int32 → Option Int32) (S : HS) (x4 : Int32) (t1 : Int32) (t2 : Int32) : Option Int32 :=
(f_L_part t1 t2 S).bind (fun o1584 =>
if ib (x4 + (1 : Int32)) L = true then
if ib (x4 + (2 : Int32)) L = true then
if (xs (x4 + (2 : Int32)).toNatClampNeg) = 0 then
f_law_b1610 xs L rec23 o1584.1 x4 o1584.2 (xs (x4 + (1 : Int32)).toNatClampNeg) (0 : Int32)
else
f_law_b1610 xs L rec23 o1584.1 x4 o1584.2 (xs (x4 + (1 : Int32)).toNatClampNeg) (1 : Int32)
else none
else none)
def f_law_b1687 (xs : Nat → Int32) (L : Nat) (rec23 : HS × Int32 → Option Int32) (S : HS) (x4 : Int32) : Option Int32 :=
f_law_b1895 xs L rec23 S x4
def f_law_b1756 (xs : Nat → Int32) (L : Nat) (rec23 : HS × Int32 → Option Int32) (S : HS) (x4 : Int32) : Option Int32 :=
f_law_b1895 xs L rec23 S x4
def f_law_b1824 (xs : Nat → Int32) (L : Nat) (rec23 : HS × Int32 → Option Int32) (S : HS) (x4 : Int32) : Option Int32 :=
f_law_b1895 xs L rec23 S x4
def f_law_b1892 (xs : Nat → Int32) (L : Nat) (rec23 : HS × Int32 → Option Int32) (S : HS) (x4 : Int32) : Option Int32 :=
f_law_b1895 xs L rec23 S x4
def F_law (xs : Nat → Int32) (L : Nat) (rec23 : HS × Int32 → Option Int32) : HS × Int32 → Option Int32 := fun q => match q with
  | (S, x4) =>
    if ((Int32.ofNat L) - (6 : Int32)) < x4 then
    some (1 : Int32)
    else
    if ib x4 L = true then
    if ((xs x4.toNatClampNeg) &&& (31 : Int32)) = (0 : Int32) then
    if ib (x4 + (1 : Int32)) L = true then
    (f_L_spell (xs (x4 + (1 : Int32)).toNatClampNeg) S).bind (fun o176 =>
    if ib (x4 + (1 : Int32)) L = true then
    (f_X8_spell (xs (x4 + (1 : Int32)).toNatClampNeg) o176.1).bind (fun o188 =>
    (f_X8_thrown o188.1).bind (fun o194 =>
    if o194 = o176.2 then
    if o176.2 = 0 then
    if ib (0 : Int32) (1) = true then
    if (lg_cmp (o188.1.2.1 60 (0 : Int32).toNatClampNeg) o188.2.toInt64) = 0 then
    f_law_b221 xs L rec23 o188.1 x4
    else
    some (0 : Int32)
    else none
    else
    f_law_b221 xs L rec23 o188.1 x4
    else
    some (0 : Int32)))
    else none)
    else none
    else if ((xs x4.toNatClampNeg) &&& (31 : Int32)) = (1 : Int32) then
    (f_X7_clearSpelled S).bind (fun o225 =>
    (f_X8_clearSpelled o225.1).bind (fun o229 =>
    if o225.2 = o229.2 then
    f_law_b1895 xs L rec23 o229.1 x4
    else
    some (0 : Int32)))
    else if ((xs x4.toNatClampNeg) &&& (31 : Int32)) = (2 : Int32) then
    if ib (x4 + (1 : Int32)) L = true then
    if ib (x4 + (2 : Int32)) L = true then
    if ib (x4 + (3 : Int32)) L = true then
    if ib (x4 + (4 : Int32)) L = true then
    if ib (x4 + (5 : Int32)) L = true then
    (f_L_addBox (xs (x4 + (1 : Int32)).toNatClampNeg) (xs (x4 + (2 : Int32)).toNatClampNeg) (xs (x4 + (3 : Int32)).toNatClampNeg) (xs (x4 + (4 : Int32)).toNatClampNeg) (xs (x4 + (5 : Int32)).toNatClampNeg) S).bind (fun o269 =>
    if ib (x4 + (1 : Int32)) L = true then
    if ib (x4 + (2 : Int32)) L = true then
    if ib (x4 + (3 : Int32)) L = true then
    if ib (x4 + (4 : Int32)) L = true then
    if ib (x4 + (5 : Int32)) L = true then
    (f_X8_addBox (xs (x4 + (1 : Int32)).toNatClampNeg) (xs (x4 + (2 : Int32)).toNatClampNeg) (xs (x4 + (3 : Int32)).toNatClampNeg) (xs (x4 + (4 : Int32)).toNatClampNeg) (xs (x4 + (5 : Int32)).toNatClampNeg) o269.1).bind (fun o305 =>
    (f_X8_thrown o305.1).bind (fun o311 =>
    if o311 = o269.2 then
    if o269.2 = 0 then
    if ib (0 : Int32) (1) = true then
    if (lg_cmp (o305.1.2.1 60 (0 : Int32).toNatClampNeg) o305.2.toInt64) = 0 then
    f_law_b338 xs L rec23 o305.1 x4
    else
    some (0 : Int32)
    else none
    else
    f_law_b338 xs L rec23 o305.1 x4
    else
    some (0 : Int32)))
    else none
    else none
    else none
    else none
    else none)
    else none
    else none
    else none
    else none
    else none
    else if ((xs x4.toNatClampNeg) &&& (31 : Int32)) = (3 : Int32) then
    if ib (x4 + (1 : Int32)) L = true then
    if ib (x4 + (2 : Int32)) L = true then
    if ib (x4 + (3 : Int32)) L = true then
    if ib (x4 + (4 : Int32)) L = true then
    if (xs (x4 + (4 : Int32)).toNatClampNeg) = 0 then
    f_law_b374 xs L rec23 S x4 (xs (x4 + (1 : Int32)).toNatClampNeg) (xs (x4 + (2 : Int32)).toNatClampNeg) (xs (x4 + (3 : Int32)).toNatClampNeg) (0 : Int32)
    else
    f_law_b374 xs L rec23 S x4 (xs (x4 + (1 : Int32)).toNatClampNeg) (xs (x4 + (2 : Int32)).toNatClampNeg) (xs (x4 + (3 : Int32)).toNatClampNeg) (1 : Int32)
    else none
    else none
    else none
    else none
    else if ((xs x4.toNatClampNeg) &&& (31 : Int32)) = (4 : Int32) then
    if ib (x4 + (1 : Int32)) L = true then
    if ib (x4 + (2 : Int32)) L = true then
    if ib (x4 + (3 : Int32)) L = true then
    if ib (x4 + (4 : Int32)) L = true then
    (f_L_move (xs (x4 + (1 : Int32)).toNatClampNeg) (xs (x4 + (2 : Int32)).toNatClampNeg) (xs (x4 + (3 : Int32)).toNatClampNeg) (xs (x4 + (4 : Int32)).toNatClampNeg) S).bind (fun o475 =>
    if ib (x4 + (1 : Int32)) L = true then
    if ib (x4 + (2 : Int32)) L = true then
    if ib (x4 + (3 : Int32)) L = true then
    if ib (x4 + (4 : Int32)) L = true then
    (f_X8_move (xs (x4 + (1 : Int32)).toNatClampNeg) (xs (x4 + (2 : Int32)).toNatClampNeg) (xs (x4 + (3 : Int32)).toNatClampNeg) (xs (x4 + (4 : Int32)).toNatClampNeg) o475.1).bind (fun o505 =>
    (f_X8_thrown o505.1).bind (fun o511 =>
    if o511 = o475.2 then
    if o475.2 = 0 then
    if ib (0 : Int32) (1) = true then
    if (lg_cmp (o505.1.2.1 60 (0 : Int32).toNatClampNeg) o505.2.toInt64) = 0 then
    f_law_b538 xs L rec23 o505.1 x4
    else
    some (0 : Int32)
    else none
    else
    f_law_b538 xs L rec23 o505.1 x4
    else
    some (0 : Int32)))
    else none
    else none
    else none
    else none)
    else none
    else none
    else none
    else none
    else if ((xs x4.toNatClampNeg) &&& (31 : Int32)) = (5 : Int32) then
    if ib (x4 + (1 : Int32)) L = true then
    if ib (x4 + (2 : Int32)) L = true then
    if ib (x4 + (3 : Int32)) L = true then
    if ib (x4 + (4 : Int32)) L = true then
    (f_L_resize (xs (x4 + (1 : Int32)).toNatClampNeg) (xs (x4 + (2 : Int32)).toNatClampNeg) (xs (x4 + (3 : Int32)).toNatClampNeg) (xs (x4 + (4 : Int32)).toNatClampNeg) S).bind (fun o567 =>
    if ib (x4 + (1 : Int32)) L = true then
    if ib (x4 + (2 : Int32)) L = true then
    if ib (x4 + (3 : Int32)) L = true then
    if ib (x4 + (4 : Int32)) L = true then
    (f_X8_resize (xs (x4 + (1 : Int32)).toNatClampNeg) (xs (x4 + (2 : Int32)).toNatClampNeg) (xs (x4 + (3 : Int32)).toNatClampNeg) (xs (x4 + (4 : Int32)).toNatClampNeg) o567.1).bind (fun o597 =>
    (f_X8_thrown o597.1).bind (fun o603 =>
    if o603 = o567.2 then
    if o567.2 = 0 then
    if ib (0 : Int32) (1) = true then
    if (lg_cmp (o597.1.2.1 60 (0 : Int32).toNatClampNeg) o597.2.toInt64) = 0 then
    f_law_b630 xs L rec23 o597.1 x4
    else
    some (0 : Int32)
    else none
    else
    f_law_b630 xs L rec23 o597.1 x4
    else
    some (0 : Int32)))
    else none
    else none
    else none
    else none)
    else none
    else none
    else none
    else none
    else if ((xs x4.toNatClampNeg) &&& (31 : Int32)) = (6 : Int32) then
    if ib (x4 + (1 : Int32)) L = true then
    if ib (x4 + (2 : Int32)) L = true then
    if ib (x4 + (3 : Int32)) L = true then
    if ib (x4 + (4 : Int32)) L = true then
    (f_L_lay (xs (x4 + (1 : Int32)).toNatClampNeg) (xs (x4 + (2 : Int32)).toNatClampNeg) (xs (x4 + (3 : Int32)).toNatClampNeg) (xs (x4 + (4 : Int32)).toNatClampNeg) S).bind (fun o659 =>
    if ib (x4 + (1 : Int32)) L = true then
    if ib (x4 + (2 : Int32)) L = true then
    if ib (x4 + (3 : Int32)) L = true then
    if ib (x4 + (4 : Int32)) L = true then
    (f_X8_lay (xs (x4 + (1 : Int32)).toNatClampNeg) (xs (x4 + (2 : Int32)).toNatClampNeg) (xs (x4 + (3 : Int32)).toNatClampNeg) (xs (x4 + (4 : Int32)).toNatClampNeg) o659.1).bind (fun o689 =>
    (f_X8_thrown o689.1).bind (fun o695 =>
    if o695 = o659.2 then
    if o659.2 = 0 then
    if ib (0 : Int32) (1) = true then
    if (lg_cmp (o689.1.2.1 60 (0 : Int32).toNatClampNeg) o689.2.toInt64) = 0 then
    f_law_b722 xs L rec23 o689.1 x4
    else
    some (0 : Int32)
    else none
    else
    f_law_b722 xs L rec23 o689.1 x4
    else
    some (0 : Int32)))
    else none
    else none
    else none
    else none)
    else none
    else none
    else none
    else none
    else if ((xs x4.toNatClampNeg) &&& (31 : Int32)) = (7 : Int32) then
    if ib (x4 + (1 : Int32)) L = true then
    if ib (x4 + (2 : Int32)) L = true then
    (f_L_drop (xs (x4 + (1 : Int32)).toNatClampNeg) (xs (x4 + (2 : Int32)).toNatClampNeg) S).bind (fun o739 =>
    if ib (x4 + (1 : Int32)) L = true then
    if ib (x4 + (2 : Int32)) L = true then
    (f_X8_drop (xs (x4 + (1 : Int32)).toNatClampNeg) (xs (x4 + (2 : Int32)).toNatClampNeg) o739.1).bind (fun o757 =>
    (f_X8_thrown o757.1).bind (fun o763 =>
    if o763 = o739.2 then
    if o739.2 = 0 then
    if ib (0 : Int32) (1) = true then
    if (lg_cmp (o757.1.2.1 60 (0 : Int32).toNatClampNeg) o757.2.toInt64) = 0 then
    f_law_b790 xs L rec23 o757.1 x4
    else
    some (0 : Int32)
    else none
    else
    f_law_b790 xs L rec23 o757.1 x4
    else
    some (0 : Int32)))
    else none
    else none)
    else none
    else none
    else if ((xs x4.toNatClampNeg) &&& (31 : Int32)) = (8 : Int32) then
    if ib (x4 + (1 : Int32)) L = true then
    (f_L_back (xs (x4 + (1 : Int32)).toNatClampNeg) S).bind (fun o801 =>
    if ib (x4 + (1 : Int32)) L = true then
    (f_X8_back (xs (x4 + (1 : Int32)).toNatClampNeg) o801.1).bind (fun o813 =>
    (f_X8_thrown o813.1).bind (fun o819 =>
    if o819 = o801.2 then
    if o801.2 = 0 then
    if ib (0 : Int32) (1) = true then
    if (lg_cmp (o813.1.2.1 60 (0 : Int32).toNatClampNeg) o813.2.toInt64) = 0 then
    f_law_b846 xs L rec23 o813.1 x4
    else
    some (0 : Int32)
    else none
    else
    f_law_b846 xs L rec23 o813.1 x4
    else
    some (0 : Int32)))
    else none)
    else none
    else if ((xs x4.toNatClampNeg) &&& (31 : Int32)) = (9 : Int32) then
    if ib (x4 + (1 : Int32)) L = true then
    if ib (x4 + (2 : Int32)) L = true then
    (f_L_on (xs (x4 + (1 : Int32)).toNatClampNeg) (xs (x4 + (2 : Int32)).toNatClampNeg) S).bind (fun o863 =>
    if ib (x4 + (1 : Int32)) L = true then
    if ib (x4 + (2 : Int32)) L = true then
    (f_X8_on (xs (x4 + (1 : Int32)).toNatClampNeg) (xs (x4 + (2 : Int32)).toNatClampNeg) o863.1).bind (fun o881 =>
    (f_X8_thrown o881.1).bind (fun o887 =>
    if o887 = o863.2 then
    if o863.2 = 0 then
    if ib (0 : Int32) (1) = true then
    if (lg_cmp (o881.1.2.1 60 (0 : Int32).toNatClampNeg) o881.2.toInt64) = 0 then
    f_law_b914 xs L rec23 o881.1 x4
    else
    some (0 : Int32)
    else none
    else
    f_law_b914 xs L rec23 o881.1 x4
    else
    some (0 : Int32)))
    else none
    else none)
    else none
    else none
    else if ((xs x4.toNatClampNeg) &&& (31 : Int32)) = (10 : Int32) then
    if ib (x4 + (1 : Int32)) L = true then
    (f_L_branches (xs (x4 + (1 : Int32)).toNatClampNeg) S).bind (fun o925 =>
    if ib (x4 + (1 : Int32)) L = true then
    (f_X8_branches (xs (x4 + (1 : Int32)).toNatClampNeg) o925.1).bind (fun o937 =>
    (f_X8_thrown o937.1).bind (fun o943 =>
    if o943 = o925.2 then
    if o925.2 = 0 then
    if ib (0 : Int32) (1) = true then
    if (lg_cmp (o937.1.2.1 60 (0 : Int32).toNatClampNeg) o937.2.toInt64) = 0 then
    f_law_b970 xs L rec23 o937.1 x4
    else
    some (0 : Int32)
    else none
    else
    f_law_b970 xs L rec23 o937.1 x4
    else
    some (0 : Int32)))
    else none)
    else none
    else if ((xs x4.toNatClampNeg) &&& (31 : Int32)) = (11 : Int32) then
    if ib (x4 + (1 : Int32)) L = true then
    (f_L_below (xs (x4 + (1 : Int32)).toNatClampNeg) S).bind (fun o981 =>
    if ib (x4 + (1 : Int32)) L = true then
    (f_X8_below (xs (x4 + (1 : Int32)).toNatClampNeg) o981.1).bind (fun o993 =>
    (f_X8_thrown o993.1).bind (fun o999 =>
    if o999 = o981.2 then
    if o981.2 = 0 then
    if ib (0 : Int32) (1) = true then
    if (lg_cmp (o993.1.2.1 60 (0 : Int32).toNatClampNeg) o993.2.toInt64) = 0 then
    f_law_b1026 xs L rec23 o993.1 x4
    else
    some (0 : Int32)
    else none
    else
    f_law_b1026 xs L rec23 o993.1 x4
    else
    some (0 : Int32)))
    else none)
    else none
    else if ((xs x4.toNatClampNeg) &&& (31 : Int32)) = (12 : Int32) then
    if ib (x4 + (1 : Int32)) L = true then
    (f_L_standsAt (xs (x4 + (1 : Int32)).toNatClampNeg) S).bind (fun o1037 =>
    if ib (x4 + (1 : Int32)) L = true then
    (f_X8_standsAt (xs (x4 + (1 : Int32)).toNatClampNeg) o1037.1).bind (fun o1049 =>
    (f_X8_thrown o1049.1).bind (fun o1055 =>
    if o1055 = o1037.2 then
    if o1037.2 = 0 then
    if ib (0 : Int32) (1) = true then
    if (lg_cmp (o1049.1.2.1 60 (0 : Int32).toNatClampNeg) o1049.2.toInt64) = 0 then
    f_law_b1082 xs L rec23 o1049.1 x4
    else
    some (0 : Int32)
    else none
    else
    f_law_b1082 xs L rec23 o1049.1 x4
    else
    some (0 : Int32)))
    else none)
    else none
    else if ((xs x4.toNatClampNeg) &&& (31 : Int32)) = (13 : Int32) then
    (f_X7_acts S).bind (fun o1086 =>
    (f_X8_acts S).bind (fun o1090 =>
    if o1086 = o1090.2 then
    f_law_b1895 xs L rec23 o1090.1 x4
    else
    some (0 : Int32)))
    else if ((xs x4.toNatClampNeg) &&& (31 : Int32)) = (14 : Int32) then
    if ib (x4 + (1 : Int32)) L = true then
    (f_L_counts (xs (x4 + (1 : Int32)).toNatClampNeg) S).bind (fun o1106 =>
    if ib (x4 + (1 : Int32)) L = true then
    (f_X8_counts (xs (x4 + (1 : Int32)).toNatClampNeg) o1106.1).bind (fun o1118 =>
    (f_X8_thrown o1118.1).bind (fun o1124 =>
    if o1124 = o1106.2 then
    if o1106.2 = 0 then
    if ib (0 : Int32) (1) = true then
    if o1118.2 = 0 then
    f_law_b1152 xs L rec23 o1118.1 x4 (o1118.1.2.1 60 (0 : Int32).toNatClampNeg) (0 : Int64)
    else
    f_law_b1152 xs L rec23 o1118.1 x4 (o1118.1.2.1 60 (0 : Int32).toNatClampNeg) (1 : Int64)
    else none
    else
    f_law_b1158 xs L rec23 o1118.1 x4
    else
    some (0 : Int32)))
    else none)
    else none
    else if ((xs x4.toNatClampNeg) &&& (31 : Int32)) = (15 : Int32) then
    if ib (x4 + (1 : Int32)) L = true then
    (f_L_isVoid (xs (x4 + (1 : Int32)).toNatClampNeg) S).bind (fun o1169 =>
    if ib (x4 + (1 : Int32)) L = true then
    (f_X8_isVoid (xs (x4 + (1 : Int32)).toNatClampNeg) o1169.1).bind (fun o1181 =>
    (f_X8_thrown o1181.1).bind (fun o1187 =>
    if o1187 = o1169.2 then
    if o1169.2 = 0 then
    if ib (0 : Int32) (1) = true then
    if o1181.2 = 0 then
    f_law_b1215 xs L rec23 o1181.1 x4 (o1181.1.2.1 60 (0 : Int32).toNatClampNeg) (0 : Int64)
    else
    f_law_b1215 xs L rec23 o1181.1 x4 (o1181.1.2.1 60 (0 : Int32).toNatClampNeg) (1 : Int64)
    else none
    else
    f_law_b1221 xs L rec23 o1181.1 x4
    else
    some (0 : Int32)))
    else none)
    else none
    else if ((xs x4.toNatClampNeg) &&& (31 : Int32)) = (16 : Int32) then
    if ib (x4 + (1 : Int32)) L = true then
    (f_L_isThere (xs (x4 + (1 : Int32)).toNatClampNeg) S).bind (fun o1232 =>
    if ib (x4 + (1 : Int32)) L = true then
    (f_X8_isThere (xs (x4 + (1 : Int32)).toNatClampNeg) o1232.1).bind (fun o1244 =>
    (f_X8_thrown o1244.1).bind (fun o1250 =>
    if o1250 = o1232.2 then
    if o1232.2 = 0 then
    if ib (0 : Int32) (1) = true then
    if o1244.2 = 0 then
    f_law_b1278 xs L rec23 o1244.1 x4 (o1244.1.2.1 60 (0 : Int32).toNatClampNeg) (0 : Int64)
    else
    f_law_b1278 xs L rec23 o1244.1 x4 (o1244.1.2.1 60 (0 : Int32).toNatClampNeg) (1 : Int64)
    else none
    else
    f_law_b1284 xs L rec23 o1244.1 x4
    else
    some (0 : Int32)))
    else none)
    else none
    else if ((xs x4.toNatClampNeg) &&& (31 : Int32)) = (17 : Int32) then
    if ib (x4 + (1 : Int32)) L = true then
    if ib (x4 + (2 : Int32)) L = true then
    (f_L_number (xs (x4 + (1 : Int32)).toNatClampNeg) (xs (x4 + (2 : Int32)).toNatClampNeg) S).bind (fun o1301 =>
    if ib (x4 + (1 : Int32)) L = true then
    if ib (x4 + (2 : Int32)) L = true then
    (f_X8_number (xs (x4 + (1 : Int32)).toNatClampNeg) (xs (x4 + (2 : Int32)).toNatClampNeg) o1301.1).bind (fun o1319 =>
    (f_X8_thrown o1319.1).bind (fun o1325 =>
    if o1325 = o1301.2 then
    if o1301.2 = 0 then
    if ib (0 : Int32) (1) = true then
    if (lg_cmp (o1319.1.2.1 60 (0 : Int32).toNatClampNeg) o1319.2.toInt64) = 0 then
    f_law_b1352 xs L rec23 o1319.1 x4
    else
    some (0 : Int32)
    else none
    else
    f_law_b1352 xs L rec23 o1319.1 x4
    else
    some (0 : Int32)))
    else none
    else none)
    else none
    else none
    else if ((xs x4.toNatClampNeg) &&& (31 : Int32)) = (18 : Int32) then
    if ib (x4 + (1 : Int32)) L = true then
    if ib (x4 + (2 : Int32)) L = true then
    (f_L_numberAnew (xs (x4 + (1 : Int32)).toNatClampNeg) (xs (x4 + (2 : Int32)).toNatClampNeg) S).bind (fun o1369 =>
    if ib (x4 + (1 : Int32)) L = true then
    if ib (x4 + (2 : Int32)) L = true then
    (f_X8_numberAnew (xs (x4 + (1 : Int32)).toNatClampNeg) (xs (x4 + (2 : Int32)).toNatClampNeg) o1369.1).bind (fun o1387 =>
    (f_X8_thrown o1387.1).bind (fun o1393 =>
    if o1393 = o1369.2 then
    if o1369.2 = 0 then
    if ib (0 : Int32) (1) = true then
    if (lg_cmp (o1387.1.2.1 60 (0 : Int32).toNatClampNeg) o1387.2.toInt64) = 0 then
    f_law_b1420 xs L rec23 o1387.1 x4
    else
    some (0 : Int32)
    else none
    else
    f_law_b1420 xs L rec23 o1387.1 x4
    else
    some (0 : Int32)))
    else none
    else none)
    else none
    else none
    else if ((xs x4.toNatClampNeg) &&& (31 : Int32)) = (19 : Int32) then
    if ib (x4 + (1 : Int32)) L = true then
    (f_L_isInForce (xs (x4 + (1 : Int32)).toNatClampNeg) S).bind (fun o1431 =>
    if ib (x4 + (1 : Int32)) L = true then
    (f_X8_isInForce (xs (x4 + (1 : Int32)).toNatClampNeg) o1431.1).bind (fun o1443 =>
    (f_X8_thrown o1443.1).bind (fun o1449 =>
    if o1449 = o1431.2 then
    if o1431.2 = 0 then
    if ib (0 : Int32) (1) = true then
    if o1443.2 = 0 then
    f_law_b1477 xs L rec23 o1443.1 x4 (o1443.1.2.1 60 (0 : Int32).toNatClampNeg) (0 : Int64)
    else
    f_law_b1477 xs L rec23 o1443.1 x4 (o1443.1.2.1 60 (0 : Int32).toNatClampNeg) (1 : Int64)
    else none
    else
    f_law_b1483 xs L rec23 o1443.1 x4
    else
    some (0 : Int32)))
    else none)
    else none
    else if ((xs x4.toNatClampNeg) &&& (31 : Int32)) = (20 : Int32) then
    if ib (x4 + (1 : Int32)) L = true then
    (f_L_holds (xs (x4 + (1 : Int32)).toNatClampNeg) S).bind (fun o1494 =>
    if ib (x4 + (1 : Int32)) L = true then
    (f_X8_holds (xs (x4 + (1 : Int32)).toNatClampNeg) o1494.1).bind (fun o1506 =>
    (f_X8_thrown o1506.1).bind (fun o1512 =>
    if o1512 = o1494.2 then
    if o1494.2 = 0 then
    if ib (0 : Int32) (1) = true then
    if o1506.2 = 0 then
    f_law_b1540 xs L rec23 o1506.1 x4 (o1506.1.2.1 60 (0 : Int32).toNatClampNeg) (0 : Int64)
    else
    f_law_b1540 xs L rec23 o1506.1 x4 (o1506.1.2.1 60 (0 : Int32).toNatClampNeg) (1 : Int64)
    else none
    else
    f_law_b1546 xs L rec23 o1506.1 x4
    else
    some (0 : Int32)))
    else none)
    else none
    else if ((xs x4.toNatClampNeg) &&& (31 : Int32)) = (21 : Int32) then
    (f_X7_broken S).bind (fun o1550 =>
    (f_X8_broken S).bind (fun o1554 =>
    if o1550 = o1554.2 then
    f_law_b1895 xs L rec23 o1554.1 x4
    else
    some (0 : Int32)))
    else if ((xs x4.toNatClampNeg) &&& (31 : Int32)) = (22 : Int32) then
    if ib (x4 + (1 : Int32)) L = true then
    if ib (x4 + (2 : Int32)) L = true then
    if (xs (x4 + (2 : Int32)).toNatClampNeg) = 0 then
    f_law_b1583 xs L rec23 S x4 (xs (x4 + (1 : Int32)).toNatClampNeg) (0 : Int32)
    else
    f_law_b1583 xs L rec23 S x4 (xs (x4 + (1 : Int32)).toNatClampNeg) (1 : Int32)
    else none
    else none
    else if ((xs x4.toNatClampNeg) &&& (31 : Int32)) = (23 : Int32) then
    (f_L_ask S).bind (fun o1648 =>
    (f_X8_ask o1648.1).bind (fun o1654 =>
    (f_X8_thrown o1654.1).bind (fun o1660 =>
    if o1660 = o1648.2 then
    if o1648.2 = 0 then
    if ib (0 : Int32) (1) = true then
    if (lg_cmp (o1654.1.2.1 60 (0 : Int32).toNatClampNeg) o1654.2.toInt64) = 0 then
    f_law_b1687 xs L rec23 o1654.1 x4
    else
    some (0 : Int32)
    else none
    else
    f_law_b1687 xs L rec23 o1654.1 x4
    else
    some (0 : Int32))))
    else if ((xs x4.toNatClampNeg) &&& (31 : Int32)) = (24 : Int32) then
    (f_X7_make S).bind (fun o1691 =>
    (f_X8_make o1691.1).bind (fun o1695 =>
    if o1691.2 = o1695.2 then
    f_law_b1895 xs L rec23 o1695.1 x4
    else
    some (0 : Int32)))
    else if ((xs x4.toNatClampNeg) &&& (31 : Int32)) = (25 : Int32) then
    if ib (x4 + (1 : Int32)) L = true then
    (f_L_length (xs (x4 + (1 : Int32)).toNatClampNeg) S).bind (fun o1711 =>
    if ib (x4 + (1 : Int32)) L = true then
    (f_X8_length (xs (x4 + (1 : Int32)).toNatClampNeg) o1711.1).bind (fun o1723 =>
    (f_X8_thrown o1723.1).bind (fun o1729 =>
    if o1729 = o1711.2 then
    if o1711.2 = 0 then
    if ib (0 : Int32) (1) = true then
    if (lg_cmp (o1723.1.2.1 60 (0 : Int32).toNatClampNeg) o1723.2.toInt64) = 0 then
    f_law_b1756 xs L rec23 o1723.1 x4
    else
    some (0 : Int32)
    else none
    else
    f_law_b1756 xs L rec23 o1723.1 x4
    else
    some (0 : Int32)))
    else none)
    else none
    else if ((xs x4.toNatClampNeg) &&& (31 : Int32)) = (26 : Int32) then
    if ib (x4 + (1 : Int32)) L = true then
    if ib (x4 + (2 : Int32)) L = true then
    (f_L_charAt (xs (x4 + (1 : Int32)).toNatClampNeg) (xs (x4 + (2 : Int32)).toNatClampNeg) S).bind (fun o1773 =>
    if ib (x4 + (1 : Int32)) L = true then
    if ib (x4 + (2 : Int32)) L = true then
    (f_X8_charAt (xs (x4 + (1 : Int32)).toNatClampNeg) (xs (x4 + (2 : Int32)).toNatClampNeg) o1773.1).bind (fun o1791 =>
    (f_X8_thrown o1791.1).bind (fun o1797 =>
    if o1797 = o1773.2 then
    if o1773.2 = 0 then
    if ib (0 : Int32) (1) = true then
    if (lg_cmp (o1791.1.2.1 60 (0 : Int32).toNatClampNeg) o1791.2.toInt64) = 0 then
    f_law_b1824 xs L rec23 o1791.1 x4
    else
    some (0 : Int32)
    else none
    else
    f_law_b1824 xs L rec23 o1791.1 x4
    else
    some (0 : Int32)))
    else none
    else none)
    else none
    else none
    else if ((xs x4.toNatClampNeg) &&& (31 : Int32)) = (27 : Int32) then
    if ib (x4 + (1 : Int32)) L = true then
    if ib (x4 + (2 : Int32)) L = true then
    (f_L_charAnew (xs (x4 + (1 : Int32)).toNatClampNeg) (xs (x4 + (2 : Int32)).toNatClampNeg) S).bind (fun o1841 =>
    if ib (x4 + (1 : Int32)) L = true then
    if ib (x4 + (2 : Int32)) L = true then
    (f_X8_charAnew (xs (x4 + (1 : Int32)).toNatClampNeg) (xs (x4 + (2 : Int32)).toNatClampNeg) o1841.1).bind (fun o1859 =>
    (f_X8_thrown o1859.1).bind (fun o1865 =>
    if o1865 = o1841.2 then
    if o1841.2 = 0 then
    if ib (0 : Int32) (1) = true then
    if (lg_cmp (o1859.1.2.1 60 (0 : Int32).toNatClampNeg) o1859.2.toInt64) = 0 then
    f_law_b1892 xs L rec23 o1859.1 x4
    else
    some (0 : Int32)
    else none
    else
    f_law_b1892 xs L rec23 o1859.1 x4
    else
    some (0 : Int32)))
    else none
    else none)
    else none
    else none
    else 
    f_law_b1895 xs L rec23 S x4
    else none
set_option maxRecDepth 100000 in
set_option maxHeartbeats 40000000 in
theorem c_law (l : Launch) (hl9 : l.stackTraces = false) {G : GT} (xs : Nat → Int32) (L : Nat) (hGL : OKL l cL_law RL 7 room_1 G xs L) (hR : ∀ k n S lv pc, k ≤ 1108 → n ≤ 14105 → decode cL_law pc = .ok (.ireturn, 1) → G k n S lv pc [vI 1]) :
    ∀ (nf k n : Nat) (S : HS) (x4 : Int32), k + nf ≤ 1108 → n + 6 * nf ≤ 14105 → fx (F_law xs L) nf (S, x4) = some 1 → G k n S [(0, vR 61), (1, vR 0), (2, vR 36), (3, vR 60), (4, vI x4)] 23 [] := by
  have hG := hGL.ok
  have hRc : room_1.cells = 1108 := rfl
  have hRs : room_1.slots = 14105 := rfl
  intro nf
  induction nf with
  | zero => intro k n S x4 _ _ h9; cases h9
  | succ nf ih =>
    intro k n S x4 hk hn
    have hrec23 : ∀ (S : HS) (x4 : Int32), fx (F_law xs L) nf (S, x4) = some 1 → G (k + 1) (n + 6) S [(0, vR 61), (1, vR 0), (2, vR 36), (3, vR 60), (4, vI x4)] 23 [] := fun S x4 => ih (k + 1) (n + 6) S x4 (by omega) (by omega)
    show F_law xs L (fx (F_law xs L) nf) (S, x4) = some 1 → _
    generalize fx (F_law xs L) nf = rec23 at hrec23
    clear ih
    have hb1895 : ∀ (S : HS) (x4 : Int32), f_law_b1895 xs L rec23 S x4 = some 1 → G (k + 1) (n + 6) S [(0, vR 61), (1, vR 0), (2, vR 36), (3, vR 60), (4, vI x4)] 1895 [] := by
      intro S x4
      unfold f_law_b1895
      refine s_iinc hG (v := (x4 + (6 : Int32))) (lv' := [(4, vI (x4 + (6 : Int32))), (0, vR 61), (1, vR 0), (2, vR 36), (3, vR 60)]) dL_law_1895 rfl rfl (by decide) rfl ?_
      refine s_goto hG (tgt := 23) dL_law_1898 (by decide) ?_
      refine s_lv hG [1, 2, 3, 4, 0] rfl ?_
      exact hrec23 _ _
    have hb221 : ∀ (S : HS) (x4 : Int32), f_law_b221 xs L rec23 S x4 = some 1 → G (k + 1) (n + 6) S [(0, vR 61), (1, vR 0), (2, vR 36), (3, vR 60), (4, vI x4)] 221 [] := by
      intro S x4
      unfold f_law_b221
      refine s_goto hG (tgt := 1895) dL_law_221 (by decide) ?_
      exact hb1895 _ _
    have hb338 : ∀ (S : HS) (x4 : Int32), f_law_b338 xs L rec23 S x4 = some 1 → G (k + 1) (n + 6) S [(0, vR 61), (1, vR 0), (2, vR 36), (3, vR 60), (4, vI x4)] 338 [] := by
      intro S x4
      unfold f_law_b338
      refine s_goto hG (tgt := 1895) dL_law_338 (by decide) ?_
      exact hb1895 _ _
    have hb446 : ∀ (S : HS) (x4 : Int32), f_law_b446 xs L rec23 S x4 = some 1 → G (k + 1) (n + 6) S [(0, vR 61), (1, vR 0), (2, vR 36), (3, vR 60), (4, vI x4)] 446 [] := by
      intro S x4
      unfold f_law_b446
      refine s_goto hG (tgt := 1895) dL_law_446 (by decide) ?_
      exact hb1895 _ _
    have hb413 : ∀ (S : HS) (x4 : Int32) (x5 : Int32) (t1 : Int32) (t2 : Int32) (t3 : Int32) (t4 : Int32), f_law_b413 xs L rec23 S x4 x5 t1 t2 t3 t4 = some 1 → G (k + 1) (n + 6) S [(0, vR 61), (1, vR 0), (2, vR 36), (3, vR 60), (4, vI x4), (5, vI x5)] 413 [vI t4, vI t3, vI t2, vI t1, vR 36] := by
      intro S x4 x5 t1 t2 t3 t4
      unfold f_law_b413
      refine s_cvI hG (as := [vI t1, vI t2, vI t3, vI t4]) (st := []) (rm := rm_X8_addLabel) dL_law_413 ml_RL_122 (rfl) (tb21 (mem_i 9 rfl)) rfl ⟨rfl, rfl⟩ ⟨by decide, by decide⟩ (Nat.le_of_ble_eq_true rfl) ⟨by omega, by omega⟩ rfl (fun o h => c_X8_addLabel l _ _ _ _ _ o h) (fun o413 => ?_)
      refine s_istore hG (lv' := [(6, vI o413.2), (0, vR 61), (1, vR 0), (2, vR 36), (3, vR 60), (4, vI x4), (5, vI x5)]) dL_law_416 (by decide) rfl ?_
      refine s_aload_n hG dL_law_418 rfl ?_
      refine s_cvP hG (as := []) (st := []) (rm := rm_X8_thrown) dL_law_419 ml_RL_108 (rfl) (tb18 (mem_i 23 rfl)) rfl ⟨rfl, rfl⟩ ⟨by decide, by decide⟩ (Nat.le_of_ble_eq_true rfl) ⟨by omega, by omega⟩ rfl (fun o h => c_X8_thrown l  _ o h) (fun o419 => ?_)
      refine s_iload hG dL_law_422 rfl ?_
      refine s_icmp_eq hG (tgt := 429) dL_law_424 (by decide) ?_ ?_
      · refine s_iload hG dL_law_429 rfl ?_
        refine s_if_ne hG (tgt := 446) dL_law_431 (by decide) ?_ ?_
        · refine s_lv hG [1, 2, 3, 4, 5] rfl ?_
          exact hb446 _ _
        · refine s_aload_n hG dL_law_434 rfl ?_
          refine s_iconst hG (v := (0 : Int32)) dL_law_435 (by decide) ?_
          refine s_laload hG dL_law_436 (rfl) ?_
          refine s_iload hG dL_law_437 rfl ?_
          refine s_i2l hG dL_law_439 ?_
          refine s_lcmp hG dL_law_440 ?_
          refine s_if_eq hG (tgt := 446) dL_law_441 (by decide) ?_ ?_
          · refine s_lv hG [1, 2, 3, 4, 5] rfl ?_
            exact hb446 _ _
          · refine s_iconst hG (v := (0 : Int32)) dL_law_444 (by decide) ?_
            exact s_lret hR (by omega) (by omega) dL_law_445
      · refine s_iconst hG (v := (0 : Int32)) dL_law_427 (by decide) ?_
        exact s_lret hR (by omega) (by omega) dL_law_428
    have hb374 : ∀ (S : HS) (x4 : Int32) (t1 : Int32) (t2 : Int32) (t3 : Int32) (t4 : Int32), f_law_b374 xs L rec23 S x4 t1 t2 t3 t4 = some 1 → G k n S [(0, vR 61), (1, vR 0), (2, vR 36), (3, vR 60), (4, vI x4)] 374 [vI t4, vI t3, vI t2, vI t1, vR 0] := by
      intro S x4 t1 t2 t3 t4
      unfold f_law_b374
      refine s_aload_n hG dL_law_374 rfl ?_
      refine s_lw hG (as := [vR 0, vI t1, vI t2, vI t3, vI t4, vR 60]) (st := []) (rm := rm_L_addLabel) (hh := hh_L_addLabel) dL_law_375 ml_RL_119 (tb8 (mem_i 17 rfl)) (exin (mem_i 133 (by decide +kernel))) rfl ⟨rfl, rfl⟩ ⟨by decide, by decide⟩ (Nat.le_of_ble_eq_true rfl) ⟨by omega, by omega⟩ rfl (fun o h => c_L_addLabel l hl9 _ _ _ _ _ o h) (fun o375 => ?_)
      refine s_istore hG (lv' := [(5, vI o375.2), (0, vR 61), (1, vR 0), (2, vR 36), (3, vR 60), (4, vI x4)]) dL_law_378 (by decide) rfl ?_
      refine s_aload_n hG dL_law_380 rfl ?_
      refine s_aload_n hG dL_law_381 rfl ?_
      refine s_iload hG dL_law_382 rfl ?_
      refine s_iconst hG (v := (1 : Int32)) dL_law_384 (by decide) ?_
      refine s_iadd hG dL_law_385 ?_
      refine s_sld hGL dL_law_386 ?_
      refine s_aload_n hG dL_law_387 rfl ?_
      refine s_iload hG dL_law_388 rfl ?_
      refine s_iconst hG (v := (2 : Int32)) dL_law_390 (by decide) ?_
      refine s_iadd hG dL_law_391 ?_
      refine s_sld hGL dL_law_392 ?_
      refine s_aload_n hG dL_law_393 rfl ?_
      refine s_iload hG dL_law_394 rfl ?_
      refine s_iconst hG (v := (3 : Int32)) dL_law_396 (by decide) ?_
      refine s_iadd hG dL_law_397 ?_
      refine s_sld hGL dL_law_398 ?_
      refine s_aload_n hG dL_law_399 rfl ?_
      refine s_iload hG dL_law_400 rfl ?_
      refine s_iconst hG (v := (4 : Int32)) dL_law_402 (by decide) ?_
      refine s_iadd hG dL_law_403 ?_
      refine s_sld hGL dL_law_404 ?_
      refine s_if_eq hG (tgt := 412) dL_law_405 (by decide) ?_ ?_
      · refine s_iconst hG (v := (0 : Int32)) dL_law_412 (by decide) ?_
        refine s_lv hG [1, 2, 3, 4, 5, 0] rfl ?_
        exact hb413 _ _ _ _ _ _ _
      · refine s_iconst hG (v := (1 : Int32)) dL_law_408 (by decide) ?_
        refine s_goto hG (tgt := 413) dL_law_409 (by decide) ?_
        refine s_lv hG [1, 2, 3, 4, 5, 0] rfl ?_
        exact hb413 _ _ _ _ _ _ _
    have hb538 : ∀ (S : HS) (x4 : Int32), f_law_b538 xs L rec23 S x4 = some 1 → G (k + 1) (n + 6) S [(0, vR 61), (1, vR 0), (2, vR 36), (3, vR 60), (4, vI x4)] 538 [] := by
      intro S x4
      unfold f_law_b538
      refine s_goto hG (tgt := 1895) dL_law_538 (by decide) ?_
      exact hb1895 _ _
    have hb630 : ∀ (S : HS) (x4 : Int32), f_law_b630 xs L rec23 S x4 = some 1 → G (k + 1) (n + 6) S [(0, vR 61), (1, vR 0), (2, vR 36), (3, vR 60), (4, vI x4)] 630 [] := by
      intro S x4
      unfold f_law_b630
      refine s_goto hG (tgt := 1895) dL_law_630 (by decide) ?_
      exact hb1895 _ _
    have hb722 : ∀ (S : HS) (x4 : Int32), f_law_b722 xs L rec23 S x4 = some 1 → G (k + 1) (n + 6) S [(0, vR 61), (1, vR 0), (2, vR 36), (3, vR 60), (4, vI x4)] 722 [] := by
      intro S x4
      unfold f_law_b722
      refine s_goto hG (tgt := 1895) dL_law_722 (by decide) ?_
      exact hb1895 _ _
    have hb790 : ∀ (S : HS) (x4 : Int32), f_law_b790 xs L rec23 S x4 = some 1 → G (k + 1) (n + 6) S [(0, vR 61), (1, vR 0), (2, vR 36), (3, vR 60), (4, vI x4)] 790 [] := by
      intro S x4
      unfold f_law_b790
      refine s_goto hG (tgt := 1895) dL_law_790 (by decide) ?_
      exact hb1895 _ _
    have hb846 : ∀ (S : HS) (x4 : Int32), f_law_b846 xs L rec23 S x4 = some 1 → G (k + 1) (n + 6) S [(0, vR 61), (1, vR 0), (2, vR 36), (3, vR 60), (4, vI x4)] 846 [] := by
      intro S x4
      unfold f_law_b846
      refine s_goto hG (tgt := 1895) dL_law_846 (by decide) ?_
      exact hb1895 _ _
    have hb914 : ∀ (S : HS) (x4 : Int32), f_law_b914 xs L rec23 S x4 = some 1 → G (k + 1) (n + 6) S [(0, vR 61), (1, vR 0), (2, vR 36), (3, vR 60), (4, vI x4)] 914 [] := by
      intro S x4
      unfold f_law_b914
      refine s_goto hG (tgt := 1895) dL_law_914 (by decide) ?_
      exact hb1895 _ _
    have hb970 : ∀ (S : HS) (x4 : Int32), f_law_b970 xs L rec23 S x4 = some 1 → G (k + 1) (n + 6) S [(0, vR 61), (1, vR 0), (2, vR 36), (3, vR 60), (4, vI x4)] 970 [] := by
      intro S x4
      unfold f_law_b970
      refine s_goto hG (tgt := 1895) dL_law_970 (by decide) ?_
      exact hb1895 _ _
    have hb1026 : ∀ (S : HS) (x4 : Int32), f_law_b1026 xs L rec23 S x4 = some 1 → G (k + 1) (n + 6) S [(0, vR 61), (1, vR 0), (2, vR 36), (3, vR 60), (4, vI x4)] 1026 [] := by
      intro S x4
      unfold f_law_b1026
      refine s_goto hG (tgt := 1895) dL_law_1026 (by decide) ?_
      exact hb1895 _ _
    have hb1082 : ∀ (S : HS) (x4 : Int32), f_law_b1082 xs L rec23 S x4 = some 1 → G (k + 1) (n + 6) S [(0, vR 61), (1, vR 0), (2, vR 36), (3, vR 60), (4, vI x4)] 1082 [] := by
      intro S x4
      unfold f_law_b1082
      refine s_goto hG (tgt := 1895) dL_law_1082 (by decide) ?_
      exact hb1895 _ _
    have hb1158 : ∀ (S : HS) (x4 : Int32), f_law_b1158 xs L rec23 S x4 = some 1 → G (k + 1) (n + 6) S [(0, vR 61), (1, vR 0), (2, vR 36), (3, vR 60), (4, vI x4)] 1158 [] := by
      intro S x4
      unfold f_law_b1158
      refine s_goto hG (tgt := 1895) dL_law_1158 (by decide) ?_
      exact hb1895 _ _
    have hb1152 : ∀ (S : HS) (x4 : Int32) (t0 : Int64) (t1 : Int64), f_law_b1152 xs L rec23 S x4 t0 t1 = some 1 → G (k + 1) (n + 6) S [(0, vR 61), (1, vR 0), (2, vR 36), (3, vR 60), (4, vI x4)] 1152 [vL t1, vL t0] := by
      intro S x4 t0 t1
      unfold f_law_b1152
      refine s_lcmp hG dL_law_1152 ?_
      refine s_if_eq hG (tgt := 1158) dL_law_1153 (by decide) ?_ ?_
      · exact hb1158 _ _
      · refine s_iconst hG (v := (0 : Int32)) dL_law_1156 (by decide) ?_
        exact s_lret hR (by omega) (by omega) dL_law_1157
    have hb1221 : ∀ (S : HS) (x4 : Int32), f_law_b1221 xs L rec23 S x4 = some 1 → G (k + 1) (n + 6) S [(0, vR 61), (1, vR 0), (2, vR 36), (3, vR 60), (4, vI x4)] 1221 [] := by
      intro S x4
      unfold f_law_b1221
      refine s_goto hG (tgt := 1895) dL_law_1221 (by decide) ?_
      exact hb1895 _ _
    have hb1215 : ∀ (S : HS) (x4 : Int32) (t0 : Int64) (t1 : Int64), f_law_b1215 xs L rec23 S x4 t0 t1 = some 1 → G (k + 1) (n + 6) S [(0, vR 61), (1, vR 0), (2, vR 36), (3, vR 60), (4, vI x4)] 1215 [vL t1, vL t0] := by
      intro S x4 t0 t1
      unfold f_law_b1215
      refine s_lcmp hG dL_law_1215 ?_
      refine s_if_eq hG (tgt := 1221) dL_law_1216 (by decide) ?_ ?_
      · exact hb1221 _ _
      · refine s_iconst hG (v := (0 : Int32)) dL_law_1219 (by decide) ?_
        exact s_lret hR (by omega) (by omega) dL_law_1220
    have hb1284 : ∀ (S : HS) (x4 : Int32), f_law_b1284 xs L rec23 S x4 = some 1 → G (k + 1) (n + 6) S [(0, vR 61), (1, vR 0), (2, vR 36), (3, vR 60), (4, vI x4)] 1284 [] := by
      intro S x4
      unfold f_law_b1284
      refine s_goto hG (tgt := 1895) dL_law_1284 (by decide) ?_
      exact hb1895 _ _
    have hb1278 : ∀ (S : HS) (x4 : Int32) (t0 : Int64) (t1 : Int64), f_law_b1278 xs L rec23 S x4 t0 t1 = some 1 → G (k + 1) (n + 6) S [(0, vR 61), (1, vR 0), (2, vR 36), (3, vR 60), (4, vI x4)] 1278 [vL t1, vL t0] := by
      intro S x4 t0 t1
      unfold f_law_b1278
      refine s_lcmp hG dL_law_1278 ?_
      refine s_if_eq hG (tgt := 1284) dL_law_1279 (by decide) ?_ ?_
      · exact hb1284 _ _
      · refine s_iconst hG (v := (0 : Int32)) dL_law_1282 (by decide) ?_
        exact s_lret hR (by omega) (by omega) dL_law_1283
    have hb1352 : ∀ (S : HS) (x4 : Int32), f_law_b1352 xs L rec23 S x4 = some 1 → G (k + 1) (n + 6) S [(0, vR 61), (1, vR 0), (2, vR 36), (3, vR 60), (4, vI x4)] 1352 [] := by
      intro S x4
      unfold f_law_b1352
      refine s_goto hG (tgt := 1895) dL_law_1352 (by decide) ?_
      exact hb1895 _ _
    have hb1420 : ∀ (S : HS) (x4 : Int32), f_law_b1420 xs L rec23 S x4 = some 1 → G (k + 1) (n + 6) S [(0, vR 61), (1, vR 0), (2, vR 36), (3, vR 60), (4, vI x4)] 1420 [] := by
      intro S x4
      unfold f_law_b1420
      refine s_goto hG (tgt := 1895) dL_law_1420 (by decide) ?_
      exact hb1895 _ _
    have hb1483 : ∀ (S : HS) (x4 : Int32), f_law_b1483 xs L rec23 S x4 = some 1 → G (k + 1) (n + 6) S [(0, vR 61), (1, vR 0), (2, vR 36), (3, vR 60), (4, vI x4)] 1483 [] := by
      intro S x4
      unfold f_law_b1483
      refine s_goto hG (tgt := 1895) dL_law_1483 (by decide) ?_
      exact hb1895 _ _
    have hb1477 : ∀ (S : HS) (x4 : Int32) (t0 : Int64) (t1 : Int64), f_law_b1477 xs L rec23 S x4 t0 t1 = some 1 → G (k + 1) (n + 6) S [(0, vR 61), (1, vR 0), (2, vR 36), (3, vR 60), (4, vI x4)] 1477 [vL t1, vL t0] := by
      intro S x4 t0 t1
      unfold f_law_b1477
      refine s_lcmp hG dL_law_1477 ?_
      refine s_if_eq hG (tgt := 1483) dL_law_1478 (by decide) ?_ ?_
      · exact hb1483 _ _
      · refine s_iconst hG (v := (0 : Int32)) dL_law_1481 (by decide) ?_
        exact s_lret hR (by omega) (by omega) dL_law_1482
    have hb1546 : ∀ (S : HS) (x4 : Int32), f_law_b1546 xs L rec23 S x4 = some 1 → G (k + 1) (n + 6) S [(0, vR 61), (1, vR 0), (2, vR 36), (3, vR 60), (4, vI x4)] 1546 [] := by
      intro S x4
      unfold f_law_b1546
      refine s_goto hG (tgt := 1895) dL_law_1546 (by decide) ?_
      exact hb1895 _ _
    have hb1540 : ∀ (S : HS) (x4 : Int32) (t0 : Int64) (t1 : Int64), f_law_b1540 xs L rec23 S x4 t0 t1 = some 1 → G (k + 1) (n + 6) S [(0, vR 61), (1, vR 0), (2, vR 36), (3, vR 60), (4, vI x4)] 1540 [vL t1, vL t0] := by
      intro S x4 t0 t1
      unfold f_law_b1540
      refine s_lcmp hG dL_law_1540 ?_
      refine s_if_eq hG (tgt := 1546) dL_law_1541 (by decide) ?_ ?_
      · exact hb1546 _ _
      · refine s_iconst hG (v := (0 : Int32)) dL_law_1544 (by decide) ?_
        exact s_lret hR (by omega) (by omega) dL_law_1545
    have hb1643 : ∀ (S : HS) (x4 : Int32), f_law_b1643 xs L rec23 S x4 = some 1 → G (k + 1) (n + 6) S [(0, vR 61), (1, vR 0), (2, vR 36), (3, vR 60), (4, vI x4)] 1643 [] := by
      intro S x4
      unfold f_law_b1643
      refine s_goto hG (tgt := 1895) dL_law_1643 (by decide) ?_
      exact hb1895 _ _
    have hb1610 : ∀ (S : HS) (x4 : Int32) (x5 : Int32) (t1 : Int32) (t2 : Int32), f_law_b1610 xs L rec23 S x4 x5 t1 t2 = some 1 → G (k + 1) (n + 6) S [(0, vR 61), (1, vR 0), (2, vR 36), (3, vR 60), (4, vI x4), (5, vI x5)] 1610 [vI t2, vI t1, vR 36] := by
      intro S x4 x5 t1 t2
      unfold f_law_b1610
      refine s_cvI hG (as := [vI t1, vI t2]) (st := []) (rm := rm_X8_part) dL_law_1610 ml_RL_184 (rfl) (tb24 (mem_i 25 rfl)) rfl ⟨rfl, rfl⟩ ⟨by decide, by decide⟩ (Nat.le_of_ble_eq_true rfl) ⟨by omega, by omega⟩ rfl (fun o h => c_X8_part l _ _ _ o h) (fun o1610 => ?_)
      refine s_istore hG (lv' := [(6, vI o1610.2), (0, vR 61), (1, vR 0), (2, vR 36), (3, vR 60), (4, vI x4), (5, vI x5)]) dL_law_1613 (by decide) rfl ?_
      refine s_aload_n hG dL_law_1615 rfl ?_
      refine s_cvP hG (as := []) (st := []) (rm := rm_X8_thrown) dL_law_1616 ml_RL_108 (rfl) (tb18 (mem_i 23 rfl)) rfl ⟨rfl, rfl⟩ ⟨by decide, by decide⟩ (Nat.le_of_ble_eq_true rfl) ⟨by omega, by omega⟩ rfl (fun o h => c_X8_thrown l  _ o h) (fun o1616 => ?_)
      refine s_iload hG dL_law_1619 rfl ?_
      refine s_icmp_eq hG (tgt := 1626) dL_law_1621 (by decide) ?_ ?_
      · refine s_iload hG dL_law_1626 rfl ?_
        refine s_if_ne hG (tgt := 1643) dL_law_1628 (by decide) ?_ ?_
        · refine s_lv hG [1, 2, 3, 4, 5] rfl ?_
          exact hb1643 _ _
        · refine s_aload_n hG dL_law_1631 rfl ?_
          refine s_iconst hG (v := (0 : Int32)) dL_law_1632 (by decide) ?_
          refine s_laload hG dL_law_1633 (rfl) ?_
          refine s_iload hG dL_law_1634 rfl ?_
          refine s_i2l hG dL_law_1636 ?_
          refine s_lcmp hG dL_law_1637 ?_
          refine s_if_eq hG (tgt := 1643) dL_law_1638 (by decide) ?_ ?_
          · refine s_lv hG [1, 2, 3, 4, 5] rfl ?_
            exact hb1643 _ _
          · refine s_iconst hG (v := (0 : Int32)) dL_law_1641 (by decide) ?_
            exact s_lret hR (by omega) (by omega) dL_law_1642
      · refine s_iconst hG (v := (0 : Int32)) dL_law_1624 (by decide) ?_
        exact s_lret hR (by omega) (by omega) dL_law_1625
    have hb1583 : ∀ (S : HS) (x4 : Int32) (t1 : Int32) (t2 : Int32), f_law_b1583 xs L rec23 S x4 t1 t2 = some 1 → G k n S [(0, vR 61), (1, vR 0), (2, vR 36), (3, vR 60), (4, vI x4)] 1583 [vI t2, vI t1, vR 0] := by
      intro S x4 t1 t2
      unfold f_law_b1583
      refine s_aload_n hG dL_law_1583 rfl ?_
      refine s_lw hG (as := [vR 0, vI t1, vI t2, vR 60]) (st := []) (rm := rm_L_part) (hh := hh_L_part) dL_law_1584 ml_RL_181 (tb13 (mem_i 26 rfl)) (exin (mem_i 170 (by decide +kernel))) rfl ⟨rfl, rfl⟩ ⟨by decide, by decide⟩ (Nat.le_of_ble_eq_true rfl) ⟨by omega, by omega⟩ rfl (fun o h => c_L_part l hl9 _ _ _ o h) (fun o1584 => ?_)
      refine s_istore hG (lv' := [(5, vI o1584.2), (0, vR 61), (1, vR 0), (2, vR 36), (3, vR 60), (4, vI x4)]) dL_law_1587 (by decide) rfl ?_
      refine s_aload_n hG dL_law_1589 rfl ?_
      refine s_aload_n hG dL_law_1590 rfl ?_
      refine s_iload hG dL_law_1591 rfl ?_
      refine s_iconst hG (v := (1 : Int32)) dL_law_1593 (by decide) ?_
      refine s_iadd hG dL_law_1594 ?_
      refine s_sld hGL dL_law_1595 ?_
      refine s_aload_n hG dL_law_1596 rfl ?_
      refine s_iload hG dL_law_1597 rfl ?_
      refine s_iconst hG (v := (2 : Int32)) dL_law_1599 (by decide) ?_
      refine s_iadd hG dL_law_1600 ?_
      refine s_sld hGL dL_law_1601 ?_
      refine s_if_eq hG (tgt := 1609) dL_law_1602 (by decide) ?_ ?_
      · refine s_iconst hG (v := (0 : Int32)) dL_law_1609 (by decide) ?_
        refine s_lv hG [1, 2, 3, 4, 5, 0] rfl ?_
        exact hb1610 _ _ _ _ _
      · refine s_iconst hG (v := (1 : Int32)) dL_law_1605 (by decide) ?_
        refine s_goto hG (tgt := 1610) dL_law_1606 (by decide) ?_
        refine s_lv hG [1, 2, 3, 4, 5, 0] rfl ?_
        exact hb1610 _ _ _ _ _
    have hb1687 : ∀ (S : HS) (x4 : Int32), f_law_b1687 xs L rec23 S x4 = some 1 → G (k + 1) (n + 6) S [(0, vR 61), (1, vR 0), (2, vR 36), (3, vR 60), (4, vI x4)] 1687 [] := by
      intro S x4
      unfold f_law_b1687
      refine s_goto hG (tgt := 1895) dL_law_1687 (by decide) ?_
      exact hb1895 _ _
    have hb1756 : ∀ (S : HS) (x4 : Int32), f_law_b1756 xs L rec23 S x4 = some 1 → G (k + 1) (n + 6) S [(0, vR 61), (1, vR 0), (2, vR 36), (3, vR 60), (4, vI x4)] 1756 [] := by
      intro S x4
      unfold f_law_b1756
      refine s_goto hG (tgt := 1895) dL_law_1756 (by decide) ?_
      exact hb1895 _ _
    have hb1824 : ∀ (S : HS) (x4 : Int32), f_law_b1824 xs L rec23 S x4 = some 1 → G (k + 1) (n + 6) S [(0, vR 61), (1, vR 0), (2, vR 36), (3, vR 60), (4, vI x4)] 1824 [] := by
      intro S x4
      unfold f_law_b1824
      refine s_goto hG (tgt := 1895) dL_law_1824 (by decide) ?_
      exact hb1895 _ _
    have hb1892 : ∀ (S : HS) (x4 : Int32), f_law_b1892 xs L rec23 S x4 = some 1 → G (k + 1) (n + 6) S [(0, vR 61), (1, vR 0), (2, vR 36), (3, vR 60), (4, vI x4)] 1892 [] := by
      intro S x4
      unfold f_law_b1892
      refine s_goto hG (tgt := 1895) dL_law_1892 (by decide) ?_
      exact hb1895 _ _
    unfold F_law
    dsimp only
    refine s_iload hG dL_law_23 rfl ?_
    refine s_aload_n hG dL_law_25 rfl ?_
    refine s_slen hGL dL_law_26 ?_
    refine s_bipush hG (v := (6 : Int32)) dL_law_27 (by decide) ?_
    refine s_isub hG dL_law_29 ?_
    refine s_icmp_gt hG (tgt := 1901) dL_law_30 (by decide) ?_ ?_
    · refine s_iconst hG (v := (1 : Int32)) dL_law_1901 (by decide) ?_
      exact s_lret hR (by omega) (by omega) dL_law_1902
    · refine s_aload_n hG dL_law_33 rfl ?_
      refine s_iload hG dL_law_34 rfl ?_
      refine s_sld hGL dL_law_36 ?_
      refine s_bipush hG (v := (31 : Int32)) dL_law_37 (by decide) ?_
      refine s_iand hG dL_law_39 ?_
      refine s_tsw1 hG (v := (0 : Int32)) (tgt := 168) dL_law_40 (by decide) (by decide) rfl (by decide) ?_ (fun n40_0 => ?_)
      · refine s_aload_n hG dL_law_168 rfl ?_
        refine s_aload_n hG dL_law_169 rfl ?_
        refine s_iload hG dL_law_170 rfl ?_
        refine s_iconst hG (v := (1 : Int32)) dL_law_172 (by decide) ?_
        refine s_iadd hG dL_law_173 ?_
        refine s_sld hGL dL_law_174 ?_
        refine s_aload_n hG dL_law_175 rfl ?_
        refine s_lw hG (as := [vR 0, vI (xs (x4 + (1 : Int32)).toNatClampNeg), vR 60]) (st := []) (rm := rm_L_spell) (hh := hh_L_spell) dL_law_176 ml_RL_102 (tb5 (mem_i 7 rfl)) (exin (mem_i 45 (by decide +kernel))) rfl ⟨rfl, rfl⟩ ⟨by decide, by decide⟩ (Nat.le_of_ble_eq_true rfl) ⟨by omega, by omega⟩ rfl (fun o h => c_L_spell l hl9 _ _ o h) (fun o176 => ?_)
        refine s_istore hG (lv' := [(5, vI o176.2), (0, vR 61), (1, vR 0), (2, vR 36), (3, vR 60), (4, vI x4)]) dL_law_179 (by decide) rfl ?_
        refine s_aload_n hG dL_law_181 rfl ?_
        refine s_aload_n hG dL_law_182 rfl ?_
        refine s_iload hG dL_law_183 rfl ?_
        refine s_iconst hG (v := (1 : Int32)) dL_law_185 (by decide) ?_
        refine s_iadd hG dL_law_186 ?_
        refine s_sld hGL dL_law_187 ?_
        refine s_cvI hG (as := [vI (xs (x4 + (1 : Int32)).toNatClampNeg)]) (st := []) (rm := rm_X8_spell) dL_law_188 ml_RL_107 (rfl) (tb18 (mem_i 27 rfl)) rfl ⟨rfl, rfl⟩ ⟨by decide, by decide⟩ (Nat.le_of_ble_eq_true rfl) ⟨by omega, by omega⟩ rfl (fun o h => c_X8_spell l _ _ o h) (fun o188 => ?_)
        refine s_istore hG (lv' := [(6, vI o188.2), (5, vI o176.2), (0, vR 61), (1, vR 0), (2, vR 36), (3, vR 60), (4, vI x4)]) dL_law_191 (by decide) rfl ?_
        refine s_aload_n hG dL_law_193 rfl ?_
        refine s_cvP hG (as := []) (st := []) (rm := rm_X8_thrown) dL_law_194 ml_RL_108 (rfl) (tb18 (mem_i 23 rfl)) rfl ⟨rfl, rfl⟩ ⟨by decide, by decide⟩ (Nat.le_of_ble_eq_true rfl) ⟨by omega, by omega⟩ rfl (fun o h => c_X8_thrown l  _ o h) (fun o194 => ?_)
        refine s_iload hG dL_law_197 rfl ?_
        refine s_icmp_eq hG (tgt := 204) dL_law_199 (by decide) ?_ ?_
        · refine s_iload hG dL_law_204 rfl ?_
          refine s_if_ne hG (tgt := 221) dL_law_206 (by decide) ?_ ?_
          · refine s_lv hG [2, 3, 4, 5, 6] rfl ?_
            exact hb221 _ _
          · refine s_aload_n hG dL_law_209 rfl ?_
            refine s_iconst hG (v := (0 : Int32)) dL_law_210 (by decide) ?_
            refine s_laload hG dL_law_211 (rfl) ?_
            refine s_iload hG dL_law_212 rfl ?_
            refine s_i2l hG dL_law_214 ?_
            refine s_lcmp hG dL_law_215 ?_
            refine s_if_eq hG (tgt := 221) dL_law_216 (by decide) ?_ ?_
            · refine s_lv hG [2, 3, 4, 5, 6] rfl ?_
              exact hb221 _ _
            · refine s_iconst hG (v := (0 : Int32)) dL_law_219 (by decide) ?_
              exact s_lret hR (by omega) (by omega) dL_law_220
        · refine s_iconst hG (v := (0 : Int32)) dL_law_202 (by decide) ?_
          exact s_lret hR (by omega) (by omega) dL_law_203
      refine s_tsw1 hG (v := (1 : Int32)) (tgt := 224) dL_law_40 (by decide) (by decide) rfl (by decide) ?_ (fun n40_1 => ?_)
      · refine s_aload_n hG dL_law_224 rfl ?_
        refine s_cvI hG (as := []) (st := []) (rm := rm_X7_clearSpelled) dL_law_225 ml_RL_111 (rfl) (tb4 (mem_i 17 rfl)) rfl ⟨rfl, rfl⟩ ⟨by decide, by decide⟩ (Nat.le_of_ble_eq_true rfl) ⟨by omega, by omega⟩ rfl (fun o h => c_X7_clearSpelled l  _ o h) (fun o225 => ?_)
        refine s_aload_n hG dL_law_228 rfl ?_
        refine s_cvI hG (as := []) (st := [vI o225.2]) (rm := rm_X8_clearSpelled) dL_law_229 ml_RL_114 (rfl) (tb19 (mem_i 7 rfl)) rfl ⟨rfl, rfl⟩ ⟨by decide, by decide⟩ (Nat.le_of_ble_eq_true rfl) ⟨by omega, by omega⟩ rfl (fun o h => c_X8_clearSpelled l  _ o h) (fun o229 => ?_)
        refine s_icmp_eq hG (tgt := 1895) dL_law_232 (by decide) ?_ ?_
        · refine s_wid hG (k + 1) (n + 6) (by omega) (by omega) ?_
          exact hb1895 _ _
        · refine s_iconst hG (v := (0 : Int32)) dL_law_235 (by decide) ?_
          exact s_lret hR (by omega) (by omega) dL_law_236
      refine s_tsw1 hG (v := (2 : Int32)) (tgt := 237) dL_law_40 (by decide) (by decide) rfl (by decide) ?_ (fun n40_2 => ?_)
      · refine s_aload_n hG dL_law_237 rfl ?_
        refine s_aload_n hG dL_law_238 rfl ?_
        refine s_iload hG dL_law_239 rfl ?_
        refine s_iconst hG (v := (1 : Int32)) dL_law_241 (by decide) ?_
        refine s_iadd hG dL_law_242 ?_
        refine s_sld hGL dL_law_243 ?_
        refine s_aload_n hG dL_law_244 rfl ?_
        refine s_iload hG dL_law_245 rfl ?_
        refine s_iconst hG (v := (2 : Int32)) dL_law_247 (by decide) ?_
        refine s_iadd hG dL_law_248 ?_
        refine s_sld hGL dL_law_249 ?_
        refine s_aload_n hG dL_law_250 rfl ?_
        refine s_iload hG dL_law_251 rfl ?_
        refine s_iconst hG (v := (3 : Int32)) dL_law_253 (by decide) ?_
        refine s_iadd hG dL_law_254 ?_
        refine s_sld hGL dL_law_255 ?_
        refine s_aload_n hG dL_law_256 rfl ?_
        refine s_iload hG dL_law_257 rfl ?_
        refine s_iconst hG (v := (4 : Int32)) dL_law_259 (by decide) ?_
        refine s_iadd hG dL_law_260 ?_
        refine s_sld hGL dL_law_261 ?_
        refine s_aload_n hG dL_law_262 rfl ?_
        refine s_iload hG dL_law_263 rfl ?_
        refine s_iconst hG (v := (5 : Int32)) dL_law_265 (by decide) ?_
        refine s_iadd hG dL_law_266 ?_
        refine s_sld hGL dL_law_267 ?_
        refine s_aload_n hG dL_law_268 rfl ?_
        refine s_lw hG (as := [vR 0, vI (xs (x4 + (1 : Int32)).toNatClampNeg), vI (xs (x4 + (2 : Int32)).toNatClampNeg), vI (xs (x4 + (3 : Int32)).toNatClampNeg), vI (xs (x4 + (4 : Int32)).toNatClampNeg), vI (xs (x4 + (5 : Int32)).toNatClampNeg), vR 60]) (st := []) (rm := rm_L_addBox) (hh := hh_L_addBox) dL_law_269 ml_RL_115 (tb5 (mem_i 18 rfl)) (exin (mem_i 113 (by decide +kernel))) rfl ⟨rfl, rfl⟩ ⟨by decide, by decide⟩ (Nat.le_of_ble_eq_true rfl) ⟨by omega, by omega⟩ rfl (fun o h => c_L_addBox l hl9 _ _ _ _ _ _ o h) (fun o269 => ?_)
        refine s_istore hG (lv' := [(5, vI o269.2), (0, vR 61), (1, vR 0), (2, vR 36), (3, vR 60), (4, vI x4)]) dL_law_272 (by decide) rfl ?_
        refine s_aload_n hG dL_law_274 rfl ?_
        refine s_aload_n hG dL_law_275 rfl ?_
        refine s_iload hG dL_law_276 rfl ?_
        refine s_iconst hG (v := (1 : Int32)) dL_law_278 (by decide) ?_
        refine s_iadd hG dL_law_279 ?_
        refine s_sld hGL dL_law_280 ?_
        refine s_aload_n hG dL_law_281 rfl ?_
        refine s_iload hG dL_law_282 rfl ?_
        refine s_iconst hG (v := (2 : Int32)) dL_law_284 (by decide) ?_
        refine s_iadd hG dL_law_285 ?_
        refine s_sld hGL dL_law_286 ?_
        refine s_aload_n hG dL_law_287 rfl ?_
        refine s_iload hG dL_law_288 rfl ?_
        refine s_iconst hG (v := (3 : Int32)) dL_law_290 (by decide) ?_
        refine s_iadd hG dL_law_291 ?_
        refine s_sld hGL dL_law_292 ?_
        refine s_aload_n hG dL_law_293 rfl ?_
        refine s_iload hG dL_law_294 rfl ?_
        refine s_iconst hG (v := (4 : Int32)) dL_law_296 (by decide) ?_
        refine s_iadd hG dL_law_297 ?_
        refine s_sld hGL dL_law_298 ?_
        refine s_aload_n hG dL_law_299 rfl ?_
        refine s_iload hG dL_law_300 rfl ?_
        refine s_iconst hG (v := (5 : Int32)) dL_law_302 (by decide) ?_
        refine s_iadd hG dL_law_303 ?_
        refine s_sld hGL dL_law_304 ?_
        refine s_cvI hG (as := [vI (xs (x4 + (1 : Int32)).toNatClampNeg), vI (xs (x4 + (2 : Int32)).toNatClampNeg), vI (xs (x4 + (3 : Int32)).toNatClampNeg), vI (xs (x4 + (4 : Int32)).toNatClampNeg), vI (xs (x4 + (5 : Int32)).toNatClampNeg)]) (st := []) (rm := rm_X8_addBox) dL_law_305 ml_RL_118 (rfl) (tb19 (mem_i 11 rfl)) rfl ⟨rfl, rfl⟩ ⟨by decide, by decide⟩ (Nat.le_of_ble_eq_true rfl) ⟨by omega, by omega⟩ rfl (fun o h => c_X8_addBox l _ _ _ _ _ _ o h) (fun o305 => ?_)
        refine s_istore hG (lv' := [(6, vI o305.2), (5, vI o269.2), (0, vR 61), (1, vR 0), (2, vR 36), (3, vR 60), (4, vI x4)]) dL_law_308 (by decide) rfl ?_
        refine s_aload_n hG dL_law_310 rfl ?_
        refine s_cvP hG (as := []) (st := []) (rm := rm_X8_thrown) dL_law_311 ml_RL_108 (rfl) (tb18 (mem_i 23 rfl)) rfl ⟨rfl, rfl⟩ ⟨by decide, by decide⟩ (Nat.le_of_ble_eq_true rfl) ⟨by omega, by omega⟩ rfl (fun o h => c_X8_thrown l  _ o h) (fun o311 => ?_)
        refine s_iload hG dL_law_314 rfl ?_
        refine s_icmp_eq hG (tgt := 321) dL_law_316 (by decide) ?_ ?_
        · refine s_iload hG dL_law_321 rfl ?_
          refine s_if_ne hG (tgt := 338) dL_law_323 (by decide) ?_ ?_
          · refine s_lv hG [2, 3, 4, 5, 6] rfl ?_
            exact hb338 _ _
          · refine s_aload_n hG dL_law_326 rfl ?_
            refine s_iconst hG (v := (0 : Int32)) dL_law_327 (by decide) ?_
            refine s_laload hG dL_law_328 (rfl) ?_
            refine s_iload hG dL_law_329 rfl ?_
            refine s_i2l hG dL_law_331 ?_
            refine s_lcmp hG dL_law_332 ?_
            refine s_if_eq hG (tgt := 338) dL_law_333 (by decide) ?_ ?_
            · refine s_lv hG [2, 3, 4, 5, 6] rfl ?_
              exact hb338 _ _
            · refine s_iconst hG (v := (0 : Int32)) dL_law_336 (by decide) ?_
              exact s_lret hR (by omega) (by omega) dL_law_337
        · refine s_iconst hG (v := (0 : Int32)) dL_law_319 (by decide) ?_
          exact s_lret hR (by omega) (by omega) dL_law_320
      refine s_tsw1 hG (v := (3 : Int32)) (tgt := 341) dL_law_40 (by decide) (by decide) rfl (by decide) ?_ (fun n40_3 => ?_)
      · refine s_aload_n hG dL_law_341 rfl ?_
        refine s_aload_n hG dL_law_342 rfl ?_
        refine s_iload hG dL_law_343 rfl ?_
        refine s_iconst hG (v := (1 : Int32)) dL_law_345 (by decide) ?_
        refine s_iadd hG dL_law_346 ?_
        refine s_sld hGL dL_law_347 ?_
        refine s_aload_n hG dL_law_348 rfl ?_
        refine s_iload hG dL_law_349 rfl ?_
        refine s_iconst hG (v := (2 : Int32)) dL_law_351 (by decide) ?_
        refine s_iadd hG dL_law_352 ?_
        refine s_sld hGL dL_law_353 ?_
        refine s_aload_n hG dL_law_354 rfl ?_
        refine s_iload hG dL_law_355 rfl ?_
        refine s_iconst hG (v := (3 : Int32)) dL_law_357 (by decide) ?_
        refine s_iadd hG dL_law_358 ?_
        refine s_sld hGL dL_law_359 ?_
        refine s_aload_n hG dL_law_360 rfl ?_
        refine s_iload hG dL_law_361 rfl ?_
        refine s_iconst hG (v := (4 : Int32)) dL_law_363 (by decide) ?_
        refine s_iadd hG dL_law_364 ?_
        refine s_sld hGL dL_law_365 ?_
        refine s_if_eq hG (tgt := 373) dL_law_366 (by decide) ?_ ?_
        · refine s_iconst hG (v := (0 : Int32)) dL_law_373 (by decide) ?_
          exact hb374 _ _ _ _ _ _
        · refine s_iconst hG (v := (1 : Int32)) dL_law_369 (by decide) ?_
          refine s_goto hG (tgt := 374) dL_law_370 (by decide) ?_
          exact hb374 _ _ _ _ _ _
      refine s_tsw1 hG (v := (4 : Int32)) (tgt := 449) dL_law_40 (by decide) (by decide) rfl (by decide) ?_ (fun n40_4 => ?_)
      · refine s_aload_n hG dL_law_449 rfl ?_
        refine s_aload_n hG dL_law_450 rfl ?_
        refine s_iload hG dL_law_451 rfl ?_
        refine s_iconst hG (v := (1 : Int32)) dL_law_453 (by decide) ?_
        refine s_iadd hG dL_law_454 ?_
        refine s_sld hGL dL_law_455 ?_
        refine s_aload_n hG dL_law_456 rfl ?_
        refine s_iload hG dL_law_457 rfl ?_
        refine s_iconst hG (v := (2 : Int32)) dL_law_459 (by decide) ?_
        refine s_iadd hG dL_law_460 ?_
        refine s_sld hGL dL_law_461 ?_
        refine s_aload_n hG dL_law_462 rfl ?_
        refine s_iload hG dL_law_463 rfl ?_
        refine s_iconst hG (v := (3 : Int32)) dL_law_465 (by decide) ?_
        refine s_iadd hG dL_law_466 ?_
        refine s_sld hGL dL_law_467 ?_
        refine s_aload_n hG dL_law_468 rfl ?_
        refine s_iload hG dL_law_469 rfl ?_
        refine s_iconst hG (v := (4 : Int32)) dL_law_471 (by decide) ?_
        refine s_iadd hG dL_law_472 ?_
        refine s_sld hGL dL_law_473 ?_
        refine s_aload_n hG dL_law_474 rfl ?_
        refine s_lw hG (as := [vR 0, vI (xs (x4 + (1 : Int32)).toNatClampNeg), vI (xs (x4 + (2 : Int32)).toNatClampNeg), vI (xs (x4 + (3 : Int32)).toNatClampNeg), vI (xs (x4 + (4 : Int32)).toNatClampNeg), vR 60]) (st := []) (rm := rm_L_move) (hh := hh_L_move) dL_law_475 ml_RL_123 (tb8 (mem_i 23 rfl)) (exin (mem_i 134 (by decide +kernel))) rfl ⟨rfl, rfl⟩ ⟨by decide, by decide⟩ (Nat.le_of_ble_eq_true rfl) ⟨by omega, by omega⟩ rfl (fun o h => c_L_move l hl9 _ _ _ _ _ o h) (fun o475 => ?_)
        refine s_istore hG (lv' := [(5, vI o475.2), (0, vR 61), (1, vR 0), (2, vR 36), (3, vR 60), (4, vI x4)]) dL_law_478 (by decide) rfl ?_
        refine s_aload_n hG dL_law_480 rfl ?_
        refine s_aload_n hG dL_law_481 rfl ?_
        refine s_iload hG dL_law_482 rfl ?_
        refine s_iconst hG (v := (1 : Int32)) dL_law_484 (by decide) ?_
        refine s_iadd hG dL_law_485 ?_
        refine s_sld hGL dL_law_486 ?_
        refine s_aload_n hG dL_law_487 rfl ?_
        refine s_iload hG dL_law_488 rfl ?_
        refine s_iconst hG (v := (2 : Int32)) dL_law_490 (by decide) ?_
        refine s_iadd hG dL_law_491 ?_
        refine s_sld hGL dL_law_492 ?_
        refine s_aload_n hG dL_law_493 rfl ?_
        refine s_iload hG dL_law_494 rfl ?_
        refine s_iconst hG (v := (3 : Int32)) dL_law_496 (by decide) ?_
        refine s_iadd hG dL_law_497 ?_
        refine s_sld hGL dL_law_498 ?_
        refine s_aload_n hG dL_law_499 rfl ?_
        refine s_iload hG dL_law_500 rfl ?_
        refine s_iconst hG (v := (4 : Int32)) dL_law_502 (by decide) ?_
        refine s_iadd hG dL_law_503 ?_
        refine s_sld hGL dL_law_504 ?_
        refine s_cvI hG (as := [vI (xs (x4 + (1 : Int32)).toNatClampNeg), vI (xs (x4 + (2 : Int32)).toNatClampNeg), vI (xs (x4 + (3 : Int32)).toNatClampNeg), vI (xs (x4 + (4 : Int32)).toNatClampNeg)]) (st := []) (rm := rm_X8_move) dL_law_505 ml_RL_126 (rfl) (tb21 (mem_i 13 rfl)) rfl ⟨rfl, rfl⟩ ⟨by decide, by decide⟩ (Nat.le_of_ble_eq_true rfl) ⟨by omega, by omega⟩ rfl (fun o h => c_X8_move l _ _ _ _ _ o h) (fun o505 => ?_)
        refine s_istore hG (lv' := [(6, vI o505.2), (5, vI o475.2), (0, vR 61), (1, vR 0), (2, vR 36), (3, vR 60), (4, vI x4)]) dL_law_508 (by decide) rfl ?_
        refine s_aload_n hG dL_law_510 rfl ?_
        refine s_cvP hG (as := []) (st := []) (rm := rm_X8_thrown) dL_law_511 ml_RL_108 (rfl) (tb18 (mem_i 23 rfl)) rfl ⟨rfl, rfl⟩ ⟨by decide, by decide⟩ (Nat.le_of_ble_eq_true rfl) ⟨by omega, by omega⟩ rfl (fun o h => c_X8_thrown l  _ o h) (fun o511 => ?_)
        refine s_iload hG dL_law_514 rfl ?_
        refine s_icmp_eq hG (tgt := 521) dL_law_516 (by decide) ?_ ?_
        · refine s_iload hG dL_law_521 rfl ?_
          refine s_if_ne hG (tgt := 538) dL_law_523 (by decide) ?_ ?_
          · refine s_lv hG [2, 3, 4, 5, 6] rfl ?_
            exact hb538 _ _
          · refine s_aload_n hG dL_law_526 rfl ?_
            refine s_iconst hG (v := (0 : Int32)) dL_law_527 (by decide) ?_
            refine s_laload hG dL_law_528 (rfl) ?_
            refine s_iload hG dL_law_529 rfl ?_
            refine s_i2l hG dL_law_531 ?_
            refine s_lcmp hG dL_law_532 ?_
            refine s_if_eq hG (tgt := 538) dL_law_533 (by decide) ?_ ?_
            · refine s_lv hG [2, 3, 4, 5, 6] rfl ?_
              exact hb538 _ _
            · refine s_iconst hG (v := (0 : Int32)) dL_law_536 (by decide) ?_
              exact s_lret hR (by omega) (by omega) dL_law_537
        · refine s_iconst hG (v := (0 : Int32)) dL_law_519 (by decide) ?_
          exact s_lret hR (by omega) (by omega) dL_law_520
      refine s_tsw1 hG (v := (5 : Int32)) (tgt := 541) dL_law_40 (by decide) (by decide) rfl (by decide) ?_ (fun n40_5 => ?_)
      · refine s_aload_n hG dL_law_541 rfl ?_
        refine s_aload_n hG dL_law_542 rfl ?_
        refine s_iload hG dL_law_543 rfl ?_
        refine s_iconst hG (v := (1 : Int32)) dL_law_545 (by decide) ?_
        refine s_iadd hG dL_law_546 ?_
        refine s_sld hGL dL_law_547 ?_
        refine s_aload_n hG dL_law_548 rfl ?_
        refine s_iload hG dL_law_549 rfl ?_
        refine s_iconst hG (v := (2 : Int32)) dL_law_551 (by decide) ?_
        refine s_iadd hG dL_law_552 ?_
        refine s_sld hGL dL_law_553 ?_
        refine s_aload_n hG dL_law_554 rfl ?_
        refine s_iload hG dL_law_555 rfl ?_
        refine s_iconst hG (v := (3 : Int32)) dL_law_557 (by decide) ?_
        refine s_iadd hG dL_law_558 ?_
        refine s_sld hGL dL_law_559 ?_
        refine s_aload_n hG dL_law_560 rfl ?_
        refine s_iload hG dL_law_561 rfl ?_
        refine s_iconst hG (v := (4 : Int32)) dL_law_563 (by decide) ?_
        refine s_iadd hG dL_law_564 ?_
        refine s_sld hGL dL_law_565 ?_
        refine s_aload_n hG dL_law_566 rfl ?_
        refine s_lw hG (as := [vR 0, vI (xs (x4 + (1 : Int32)).toNatClampNeg), vI (xs (x4 + (2 : Int32)).toNatClampNeg), vI (xs (x4 + (3 : Int32)).toNatClampNeg), vI (xs (x4 + (4 : Int32)).toNatClampNeg), vR 60]) (st := []) (rm := rm_L_resize) (hh := hh_L_resize) dL_law_567 ml_RL_127 (tb9 (mem_i 6 rfl)) (exin (mem_i 135 (by decide +kernel))) rfl ⟨rfl, rfl⟩ ⟨by decide, by decide⟩ (Nat.le_of_ble_eq_true rfl) ⟨by omega, by omega⟩ rfl (fun o h => c_L_resize l hl9 _ _ _ _ _ o h) (fun o567 => ?_)
        refine s_istore hG (lv' := [(5, vI o567.2), (0, vR 61), (1, vR 0), (2, vR 36), (3, vR 60), (4, vI x4)]) dL_law_570 (by decide) rfl ?_
        refine s_aload_n hG dL_law_572 rfl ?_
        refine s_aload_n hG dL_law_573 rfl ?_
        refine s_iload hG dL_law_574 rfl ?_
        refine s_iconst hG (v := (1 : Int32)) dL_law_576 (by decide) ?_
        refine s_iadd hG dL_law_577 ?_
        refine s_sld hGL dL_law_578 ?_
        refine s_aload_n hG dL_law_579 rfl ?_
        refine s_iload hG dL_law_580 rfl ?_
        refine s_iconst hG (v := (2 : Int32)) dL_law_582 (by decide) ?_
        refine s_iadd hG dL_law_583 ?_
        refine s_sld hGL dL_law_584 ?_
        refine s_aload_n hG dL_law_585 rfl ?_
        refine s_iload hG dL_law_586 rfl ?_
        refine s_iconst hG (v := (3 : Int32)) dL_law_588 (by decide) ?_
        refine s_iadd hG dL_law_589 ?_
        refine s_sld hGL dL_law_590 ?_
        refine s_aload_n hG dL_law_591 rfl ?_
        refine s_iload hG dL_law_592 rfl ?_
        refine s_iconst hG (v := (4 : Int32)) dL_law_594 (by decide) ?_
        refine s_iadd hG dL_law_595 ?_
        refine s_sld hGL dL_law_596 ?_
        refine s_cvI hG (as := [vI (xs (x4 + (1 : Int32)).toNatClampNeg), vI (xs (x4 + (2 : Int32)).toNatClampNeg), vI (xs (x4 + (3 : Int32)).toNatClampNeg), vI (xs (x4 + (4 : Int32)).toNatClampNeg)]) (st := []) (rm := rm_X8_resize) dL_law_597 ml_RL_129 (rfl) (tb21 (mem_i 26 rfl)) rfl ⟨rfl, rfl⟩ ⟨by decide, by decide⟩ (Nat.le_of_ble_eq_true rfl) ⟨by omega, by omega⟩ rfl (fun o h => c_X8_resize l _ _ _ _ _ o h) (fun o597 => ?_)
        refine s_istore hG (lv' := [(6, vI o597.2), (5, vI o567.2), (0, vR 61), (1, vR 0), (2, vR 36), (3, vR 60), (4, vI x4)]) dL_law_600 (by decide) rfl ?_
        refine s_aload_n hG dL_law_602 rfl ?_
        refine s_cvP hG (as := []) (st := []) (rm := rm_X8_thrown) dL_law_603 ml_RL_108 (rfl) (tb18 (mem_i 23 rfl)) rfl ⟨rfl, rfl⟩ ⟨by decide, by decide⟩ (Nat.le_of_ble_eq_true rfl) ⟨by omega, by omega⟩ rfl (fun o h => c_X8_thrown l  _ o h) (fun o603 => ?_)
        refine s_iload hG dL_law_606 rfl ?_
        refine s_icmp_eq hG (tgt := 613) dL_law_608 (by decide) ?_ ?_
        · refine s_iload hG dL_law_613 rfl ?_
          refine s_if_ne hG (tgt := 630) dL_law_615 (by decide) ?_ ?_
          · refine s_lv hG [2, 3, 4, 5, 6] rfl ?_
            exact hb630 _ _
          · refine s_aload_n hG dL_law_618 rfl ?_
            refine s_iconst hG (v := (0 : Int32)) dL_law_619 (by decide) ?_
            refine s_laload hG dL_law_620 (rfl) ?_
            refine s_iload hG dL_law_621 rfl ?_
            refine s_i2l hG dL_law_623 ?_
            refine s_lcmp hG dL_law_624 ?_
            refine s_if_eq hG (tgt := 630) dL_law_625 (by decide) ?_ ?_
            · refine s_lv hG [2, 3, 4, 5, 6] rfl ?_
              exact hb630 _ _
            · refine s_iconst hG (v := (0 : Int32)) dL_law_628 (by decide) ?_
              exact s_lret hR (by omega) (by omega) dL_law_629
        · refine s_iconst hG (v := (0 : Int32)) dL_law_611 (by decide) ?_
          exact s_lret hR (by omega) (by omega) dL_law_612
      refine s_tsw1 hG (v := (6 : Int32)) (tgt := 633) dL_law_40 (by decide) (by decide) rfl (by decide) ?_ (fun n40_6 => ?_)
      · refine s_aload_n hG dL_law_633 rfl ?_
        refine s_aload_n hG dL_law_634 rfl ?_
        refine s_iload hG dL_law_635 rfl ?_
        refine s_iconst hG (v := (1 : Int32)) dL_law_637 (by decide) ?_
        refine s_iadd hG dL_law_638 ?_
        refine s_sld hGL dL_law_639 ?_
        refine s_aload_n hG dL_law_640 rfl ?_
        refine s_iload hG dL_law_641 rfl ?_
        refine s_iconst hG (v := (2 : Int32)) dL_law_643 (by decide) ?_
        refine s_iadd hG dL_law_644 ?_
        refine s_sld hGL dL_law_645 ?_
        refine s_aload_n hG dL_law_646 rfl ?_
        refine s_iload hG dL_law_647 rfl ?_
        refine s_iconst hG (v := (3 : Int32)) dL_law_649 (by decide) ?_
        refine s_iadd hG dL_law_650 ?_
        refine s_sld hGL dL_law_651 ?_
        refine s_aload_n hG dL_law_652 rfl ?_
        refine s_iload hG dL_law_653 rfl ?_
        refine s_iconst hG (v := (4 : Int32)) dL_law_655 (by decide) ?_
        refine s_iadd hG dL_law_656 ?_
        refine s_sld hGL dL_law_657 ?_
        refine s_aload_n hG dL_law_658 rfl ?_
        refine s_lw hG (as := [vR 0, vI (xs (x4 + (1 : Int32)).toNatClampNeg), vI (xs (x4 + (2 : Int32)).toNatClampNeg), vI (xs (x4 + (3 : Int32)).toNatClampNeg), vI (xs (x4 + (4 : Int32)).toNatClampNeg), vR 60]) (st := []) (rm := rm_L_lay) (hh := hh_L_lay) dL_law_659 ml_RL_130 (tb9 (mem_i 12 rfl)) (exin (mem_i 136 (by decide +kernel))) rfl ⟨rfl, rfl⟩ ⟨by decide, by decide⟩ (Nat.le_of_ble_eq_true rfl) ⟨by omega, by omega⟩ rfl (fun o h => c_L_lay l hl9 _ _ _ _ _ o h) (fun o659 => ?_)
        refine s_istore hG (lv' := [(5, vI o659.2), (0, vR 61), (1, vR 0), (2, vR 36), (3, vR 60), (4, vI x4)]) dL_law_662 (by decide) rfl ?_
        refine s_aload_n hG dL_law_664 rfl ?_
        refine s_aload_n hG dL_law_665 rfl ?_
        refine s_iload hG dL_law_666 rfl ?_
        refine s_iconst hG (v := (1 : Int32)) dL_law_668 (by decide) ?_
        refine s_iadd hG dL_law_669 ?_
        refine s_sld hGL dL_law_670 ?_
        refine s_aload_n hG dL_law_671 rfl ?_
        refine s_iload hG dL_law_672 rfl ?_
        refine s_iconst hG (v := (2 : Int32)) dL_law_674 (by decide) ?_
        refine s_iadd hG dL_law_675 ?_
        refine s_sld hGL dL_law_676 ?_
        refine s_aload_n hG dL_law_677 rfl ?_
        refine s_iload hG dL_law_678 rfl ?_
        refine s_iconst hG (v := (3 : Int32)) dL_law_680 (by decide) ?_
        refine s_iadd hG dL_law_681 ?_
        refine s_sld hGL dL_law_682 ?_
        refine s_aload_n hG dL_law_683 rfl ?_
        refine s_iload hG dL_law_684 rfl ?_
        refine s_iconst hG (v := (4 : Int32)) dL_law_686 (by decide) ?_
        refine s_iadd hG dL_law_687 ?_
        refine s_sld hGL dL_law_688 ?_
        refine s_cvI hG (as := [vI (xs (x4 + (1 : Int32)).toNatClampNeg), vI (xs (x4 + (2 : Int32)).toNatClampNeg), vI (xs (x4 + (3 : Int32)).toNatClampNeg), vI (xs (x4 + (4 : Int32)).toNatClampNeg)]) (st := []) (rm := rm_X8_lay) dL_law_689 ml_RL_132 (rfl) (tb22 (mem_i 0 rfl)) rfl ⟨rfl, rfl⟩ ⟨by decide, by decide⟩ (Nat.le_of_ble_eq_true rfl) ⟨by omega, by omega⟩ rfl (fun o h => c_X8_lay l _ _ _ _ _ o h) (fun o689 => ?_)
        refine s_istore hG (lv' := [(6, vI o689.2), (5, vI o659.2), (0, vR 61), (1, vR 0), (2, vR 36), (3, vR 60), (4, vI x4)]) dL_law_692 (by decide) rfl ?_
        refine s_aload_n hG dL_law_694 rfl ?_
        refine s_cvP hG (as := []) (st := []) (rm := rm_X8_thrown) dL_law_695 ml_RL_108 (rfl) (tb18 (mem_i 23 rfl)) rfl ⟨rfl, rfl⟩ ⟨by decide, by decide⟩ (Nat.le_of_ble_eq_true rfl) ⟨by omega, by omega⟩ rfl (fun o h => c_X8_thrown l  _ o h) (fun o695 => ?_)
        refine s_iload hG dL_law_698 rfl ?_
        refine s_icmp_eq hG (tgt := 705) dL_law_700 (by decide) ?_ ?_
        · refine s_iload hG dL_law_705 rfl ?_
          refine s_if_ne hG (tgt := 722) dL_law_707 (by decide) ?_ ?_
          · refine s_lv hG [2, 3, 4, 5, 6] rfl ?_
            exact hb722 _ _
          · refine s_aload_n hG dL_law_710 rfl ?_
            refine s_iconst hG (v := (0 : Int32)) dL_law_711 (by decide) ?_
            refine s_laload hG dL_law_712 (rfl) ?_
            refine s_iload hG dL_law_713 rfl ?_
            refine s_i2l hG dL_law_715 ?_
            refine s_lcmp hG dL_law_716 ?_
            refine s_if_eq hG (tgt := 722) dL_law_717 (by decide) ?_ ?_
            · refine s_lv hG [2, 3, 4, 5, 6] rfl ?_
              exact hb722 _ _
            · refine s_iconst hG (v := (0 : Int32)) dL_law_720 (by decide) ?_
              exact s_lret hR (by omega) (by omega) dL_law_721
        · refine s_iconst hG (v := (0 : Int32)) dL_law_703 (by decide) ?_
          exact s_lret hR (by omega) (by omega) dL_law_704
      refine s_tsw1 hG (v := (7 : Int32)) (tgt := 725) dL_law_40 (by decide) (by decide) rfl (by decide) ?_ (fun n40_7 => ?_)
      · refine s_aload_n hG dL_law_725 rfl ?_
        refine s_aload_n hG dL_law_726 rfl ?_
        refine s_iload hG dL_law_727 rfl ?_
        refine s_iconst hG (v := (1 : Int32)) dL_law_729 (by decide) ?_
        refine s_iadd hG dL_law_730 ?_
        refine s_sld hGL dL_law_731 ?_
        refine s_aload_n hG dL_law_732 rfl ?_
        refine s_iload hG dL_law_733 rfl ?_
        refine s_iconst hG (v := (2 : Int32)) dL_law_735 (by decide) ?_
        refine s_iadd hG dL_law_736 ?_
        refine s_sld hGL dL_law_737 ?_
        refine s_aload_n hG dL_law_738 rfl ?_
        refine s_lw hG (as := [vR 0, vI (xs (x4 + (1 : Int32)).toNatClampNeg), vI (xs (x4 + (2 : Int32)).toNatClampNeg), vR 60]) (st := []) (rm := rm_L_drop) (hh := hh_L_drop) dL_law_739 ml_RL_133 (tb9 (mem_i 20 rfl)) (exin (mem_i 137 (by decide +kernel))) rfl ⟨rfl, rfl⟩ ⟨by decide, by decide⟩ (Nat.le_of_ble_eq_true rfl) ⟨by omega, by omega⟩ rfl (fun o h => c_L_drop l hl9 _ _ _ o h) (fun o739 => ?_)
        refine s_istore hG (lv' := [(5, vI o739.2), (0, vR 61), (1, vR 0), (2, vR 36), (3, vR 60), (4, vI x4)]) dL_law_742 (by decide) rfl ?_
        refine s_aload_n hG dL_law_744 rfl ?_
        refine s_aload_n hG dL_law_745 rfl ?_
        refine s_iload hG dL_law_746 rfl ?_
        refine s_iconst hG (v := (1 : Int32)) dL_law_748 (by decide) ?_
        refine s_iadd hG dL_law_749 ?_
        refine s_sld hGL dL_law_750 ?_
        refine s_aload_n hG dL_law_751 rfl ?_
        refine s_iload hG dL_law_752 rfl ?_
        refine s_iconst hG (v := (2 : Int32)) dL_law_754 (by decide) ?_
        refine s_iadd hG dL_law_755 ?_
        refine s_sld hGL dL_law_756 ?_
        refine s_cvI hG (as := [vI (xs (x4 + (1 : Int32)).toNatClampNeg), vI (xs (x4 + (2 : Int32)).toNatClampNeg)]) (st := []) (rm := rm_X8_drop) dL_law_757 ml_RL_136 (rfl) (tb22 (mem_i 4 rfl)) rfl ⟨rfl, rfl⟩ ⟨by decide, by decide⟩ (Nat.le_of_ble_eq_true rfl) ⟨by omega, by omega⟩ rfl (fun o h => c_X8_drop l _ _ _ o h) (fun o757 => ?_)
        refine s_istore hG (lv' := [(6, vI o757.2), (5, vI o739.2), (0, vR 61), (1, vR 0), (2, vR 36), (3, vR 60), (4, vI x4)]) dL_law_760 (by decide) rfl ?_
        refine s_aload_n hG dL_law_762 rfl ?_
        refine s_cvP hG (as := []) (st := []) (rm := rm_X8_thrown) dL_law_763 ml_RL_108 (rfl) (tb18 (mem_i 23 rfl)) rfl ⟨rfl, rfl⟩ ⟨by decide, by decide⟩ (Nat.le_of_ble_eq_true rfl) ⟨by omega, by omega⟩ rfl (fun o h => c_X8_thrown l  _ o h) (fun o763 => ?_)
        refine s_iload hG dL_law_766 rfl ?_
        refine s_icmp_eq hG (tgt := 773) dL_law_768 (by decide) ?_ ?_
        · refine s_iload hG dL_law_773 rfl ?_
          refine s_if_ne hG (tgt := 790) dL_law_775 (by decide) ?_ ?_
          · refine s_lv hG [2, 3, 4, 5, 6] rfl ?_
            exact hb790 _ _
          · refine s_aload_n hG dL_law_778 rfl ?_
            refine s_iconst hG (v := (0 : Int32)) dL_law_779 (by decide) ?_
            refine s_laload hG dL_law_780 (rfl) ?_
            refine s_iload hG dL_law_781 rfl ?_
            refine s_i2l hG dL_law_783 ?_
            refine s_lcmp hG dL_law_784 ?_
            refine s_if_eq hG (tgt := 790) dL_law_785 (by decide) ?_ ?_
            · refine s_lv hG [2, 3, 4, 5, 6] rfl ?_
              exact hb790 _ _
            · refine s_iconst hG (v := (0 : Int32)) dL_law_788 (by decide) ?_
              exact s_lret hR (by omega) (by omega) dL_law_789
        · refine s_iconst hG (v := (0 : Int32)) dL_law_771 (by decide) ?_
          exact s_lret hR (by omega) (by omega) dL_law_772
      refine s_tsw1 hG (v := (8 : Int32)) (tgt := 793) dL_law_40 (by decide) (by decide) rfl (by decide) ?_ (fun n40_8 => ?_)
      · refine s_aload_n hG dL_law_793 rfl ?_
        refine s_aload_n hG dL_law_794 rfl ?_
        refine s_iload hG dL_law_795 rfl ?_
        refine s_iconst hG (v := (1 : Int32)) dL_law_797 (by decide) ?_
        refine s_iadd hG dL_law_798 ?_
        refine s_sld hGL dL_law_799 ?_
        refine s_aload_n hG dL_law_800 rfl ?_
        refine s_lw hG (as := [vR 0, vI (xs (x4 + (1 : Int32)).toNatClampNeg), vR 60]) (st := []) (rm := rm_L_back) (hh := hh_L_back) dL_law_801 ml_RL_137 (tb10 (mem_i 5 rfl)) (exin (mem_i 140 (by decide +kernel))) rfl ⟨rfl, rfl⟩ ⟨by decide, by decide⟩ (Nat.le_of_ble_eq_true rfl) ⟨by omega, by omega⟩ rfl (fun o h => c_L_back l hl9 _ _ o h) (fun o801 => ?_)
        refine s_istore hG (lv' := [(5, vI o801.2), (0, vR 61), (1, vR 0), (2, vR 36), (3, vR 60), (4, vI x4)]) dL_law_804 (by decide) rfl ?_
        refine s_aload_n hG dL_law_806 rfl ?_
        refine s_aload_n hG dL_law_807 rfl ?_
        refine s_iload hG dL_law_808 rfl ?_
        refine s_iconst hG (v := (1 : Int32)) dL_law_810 (by decide) ?_
        refine s_iadd hG dL_law_811 ?_
        refine s_sld hGL dL_law_812 ?_
        refine s_cvI hG (as := [vI (xs (x4 + (1 : Int32)).toNatClampNeg)]) (st := []) (rm := rm_X8_back) dL_law_813 ml_RL_139 (rfl) (tb22 (mem_i 14 rfl)) rfl ⟨rfl, rfl⟩ ⟨by decide, by decide⟩ (Nat.le_of_ble_eq_true rfl) ⟨by omega, by omega⟩ rfl (fun o h => c_X8_back l _ _ o h) (fun o813 => ?_)
        refine s_istore hG (lv' := [(6, vI o813.2), (5, vI o801.2), (0, vR 61), (1, vR 0), (2, vR 36), (3, vR 60), (4, vI x4)]) dL_law_816 (by decide) rfl ?_
        refine s_aload_n hG dL_law_818 rfl ?_
        refine s_cvP hG (as := []) (st := []) (rm := rm_X8_thrown) dL_law_819 ml_RL_108 (rfl) (tb18 (mem_i 23 rfl)) rfl ⟨rfl, rfl⟩ ⟨by decide, by decide⟩ (Nat.le_of_ble_eq_true rfl) ⟨by omega, by omega⟩ rfl (fun o h => c_X8_thrown l  _ o h) (fun o819 => ?_)
        refine s_iload hG dL_law_822 rfl ?_
        refine s_icmp_eq hG (tgt := 829) dL_law_824 (by decide) ?_ ?_
        · refine s_iload hG dL_law_829 rfl ?_
          refine s_if_ne hG (tgt := 846) dL_law_831 (by decide) ?_ ?_
          · refine s_lv hG [2, 3, 4, 5, 6] rfl ?_
            exact hb846 _ _
          · refine s_aload_n hG dL_law_834 rfl ?_
            refine s_iconst hG (v := (0 : Int32)) dL_law_835 (by decide) ?_
            refine s_laload hG dL_law_836 (rfl) ?_
            refine s_iload hG dL_law_837 rfl ?_
            refine s_i2l hG dL_law_839 ?_
            refine s_lcmp hG dL_law_840 ?_
            refine s_if_eq hG (tgt := 846) dL_law_841 (by decide) ?_ ?_
            · refine s_lv hG [2, 3, 4, 5, 6] rfl ?_
              exact hb846 _ _
            · refine s_iconst hG (v := (0 : Int32)) dL_law_844 (by decide) ?_
              exact s_lret hR (by omega) (by omega) dL_law_845
        · refine s_iconst hG (v := (0 : Int32)) dL_law_827 (by decide) ?_
          exact s_lret hR (by omega) (by omega) dL_law_828
      refine s_tsw1 hG (v := (9 : Int32)) (tgt := 849) dL_law_40 (by decide) (by decide) rfl (by decide) ?_ (fun n40_9 => ?_)
      · refine s_aload_n hG dL_law_849 rfl ?_
        refine s_aload_n hG dL_law_850 rfl ?_
        refine s_iload hG dL_law_851 rfl ?_
        refine s_iconst hG (v := (1 : Int32)) dL_law_853 (by decide) ?_
        refine s_iadd hG dL_law_854 ?_
        refine s_sld hGL dL_law_855 ?_
        refine s_aload_n hG dL_law_856 rfl ?_
        refine s_iload hG dL_law_857 rfl ?_
        refine s_iconst hG (v := (2 : Int32)) dL_law_859 (by decide) ?_
        refine s_iadd hG dL_law_860 ?_
        refine s_sld hGL dL_law_861 ?_
        refine s_aload_n hG dL_law_862 rfl ?_
        refine s_lw hG (as := [vR 0, vI (xs (x4 + (1 : Int32)).toNatClampNeg), vI (xs (x4 + (2 : Int32)).toNatClampNeg), vR 60]) (st := []) (rm := rm_L_on) (hh := hh_L_on) dL_law_863 ml_RL_140 (tb10 (mem_i 29 rfl)) (exin (mem_i 143 (by decide +kernel))) rfl ⟨rfl, rfl⟩ ⟨by decide, by decide⟩ (Nat.le_of_ble_eq_true rfl) ⟨by omega, by omega⟩ rfl (fun o h => c_L_on l hl9 _ _ _ o h) (fun o863 => ?_)
        refine s_istore hG (lv' := [(5, vI o863.2), (0, vR 61), (1, vR 0), (2, vR 36), (3, vR 60), (4, vI x4)]) dL_law_866 (by decide) rfl ?_
        refine s_aload_n hG dL_law_868 rfl ?_
        refine s_aload_n hG dL_law_869 rfl ?_
        refine s_iload hG dL_law_870 rfl ?_
        refine s_iconst hG (v := (1 : Int32)) dL_law_872 (by decide) ?_
        refine s_iadd hG dL_law_873 ?_
        refine s_sld hGL dL_law_874 ?_
        refine s_aload_n hG dL_law_875 rfl ?_
        refine s_iload hG dL_law_876 rfl ?_
        refine s_iconst hG (v := (2 : Int32)) dL_law_878 (by decide) ?_
        refine s_iadd hG dL_law_879 ?_
        refine s_sld hGL dL_law_880 ?_
        refine s_cvI hG (as := [vI (xs (x4 + (1 : Int32)).toNatClampNeg), vI (xs (x4 + (2 : Int32)).toNatClampNeg)]) (st := []) (rm := rm_X8_on) dL_law_881 ml_RL_142 (rfl) (tb22 (mem_i 24 rfl)) rfl ⟨rfl, rfl⟩ ⟨by decide, by decide⟩ (Nat.le_of_ble_eq_true rfl) ⟨by omega, by omega⟩ rfl (fun o h => c_X8_on l _ _ _ o h) (fun o881 => ?_)
        refine s_istore hG (lv' := [(6, vI o881.2), (5, vI o863.2), (0, vR 61), (1, vR 0), (2, vR 36), (3, vR 60), (4, vI x4)]) dL_law_884 (by decide) rfl ?_
        refine s_aload_n hG dL_law_886 rfl ?_
        refine s_cvP hG (as := []) (st := []) (rm := rm_X8_thrown) dL_law_887 ml_RL_108 (rfl) (tb18 (mem_i 23 rfl)) rfl ⟨rfl, rfl⟩ ⟨by decide, by decide⟩ (Nat.le_of_ble_eq_true rfl) ⟨by omega, by omega⟩ rfl (fun o h => c_X8_thrown l  _ o h) (fun o887 => ?_)
        refine s_iload hG dL_law_890 rfl ?_
        refine s_icmp_eq hG (tgt := 897) dL_law_892 (by decide) ?_ ?_
        · refine s_iload hG dL_law_897 rfl ?_
          refine s_if_ne hG (tgt := 914) dL_law_899 (by decide) ?_ ?_
          · refine s_lv hG [2, 3, 4, 5, 6] rfl ?_
            exact hb914 _ _
          · refine s_aload_n hG dL_law_902 rfl ?_
            refine s_iconst hG (v := (0 : Int32)) dL_law_903 (by decide) ?_
            refine s_laload hG dL_law_904 (rfl) ?_
            refine s_iload hG dL_law_905 rfl ?_
            refine s_i2l hG dL_law_907 ?_
            refine s_lcmp hG dL_law_908 ?_
            refine s_if_eq hG (tgt := 914) dL_law_909 (by decide) ?_ ?_
            · refine s_lv hG [2, 3, 4, 5, 6] rfl ?_
              exact hb914 _ _
            · refine s_iconst hG (v := (0 : Int32)) dL_law_912 (by decide) ?_
              exact s_lret hR (by omega) (by omega) dL_law_913
        · refine s_iconst hG (v := (0 : Int32)) dL_law_895 (by decide) ?_
          exact s_lret hR (by omega) (by omega) dL_law_896
      refine s_tsw1 hG (v := (10 : Int32)) (tgt := 917) dL_law_40 (by decide) (by decide) rfl (by decide) ?_ (fun n40_10 => ?_)
      · refine s_aload_n hG dL_law_917 rfl ?_
        refine s_aload_n hG dL_law_918 rfl ?_
        refine s_iload hG dL_law_919 rfl ?_
        refine s_iconst hG (v := (1 : Int32)) dL_law_921 (by decide) ?_
        refine s_iadd hG dL_law_922 ?_
        refine s_sld hGL dL_law_923 ?_
        refine s_aload_n hG dL_law_924 rfl ?_
        refine s_lw hG (as := [vR 0, vI (xs (x4 + (1 : Int32)).toNatClampNeg), vR 60]) (st := []) (rm := rm_L_branches) (hh := hh_L_branches) dL_law_925 ml_RL_143 (tb11 (mem_i 10 rfl)) (exin (mem_i 144 (by decide +kernel))) rfl ⟨rfl, rfl⟩ ⟨by decide, by decide⟩ (Nat.le_of_ble_eq_true rfl) ⟨by omega, by omega⟩ rfl (fun o h => c_L_branches l hl9 _ _ o h) (fun o925 => ?_)
        refine s_istore hG (lv' := [(5, vI o925.2), (0, vR 61), (1, vR 0), (2, vR 36), (3, vR 60), (4, vI x4)]) dL_law_928 (by decide) rfl ?_
        refine s_aload_n hG dL_law_930 rfl ?_
        refine s_aload_n hG dL_law_931 rfl ?_
        refine s_iload hG dL_law_932 rfl ?_
        refine s_iconst hG (v := (1 : Int32)) dL_law_934 (by decide) ?_
        refine s_iadd hG dL_law_935 ?_
        refine s_sld hGL dL_law_936 ?_
        refine s_cvI hG (as := [vI (xs (x4 + (1 : Int32)).toNatClampNeg)]) (st := []) (rm := rm_X8_branches) dL_law_937 ml_RL_145 (rfl) (tb23 (mem_i 1 rfl)) rfl ⟨rfl, rfl⟩ ⟨by decide, by decide⟩ (Nat.le_of_ble_eq_true rfl) ⟨by omega, by omega⟩ rfl (fun o h => c_X8_branches l _ _ o h) (fun o937 => ?_)
        refine s_istore hG (lv' := [(6, vI o937.2), (5, vI o925.2), (0, vR 61), (1, vR 0), (2, vR 36), (3, vR 60), (4, vI x4)]) dL_law_940 (by decide) rfl ?_
        refine s_aload_n hG dL_law_942 rfl ?_
        refine s_cvP hG (as := []) (st := []) (rm := rm_X8_thrown) dL_law_943 ml_RL_108 (rfl) (tb18 (mem_i 23 rfl)) rfl ⟨rfl, rfl⟩ ⟨by decide, by decide⟩ (Nat.le_of_ble_eq_true rfl) ⟨by omega, by omega⟩ rfl (fun o h => c_X8_thrown l  _ o h) (fun o943 => ?_)
        refine s_iload hG dL_law_946 rfl ?_
        refine s_icmp_eq hG (tgt := 953) dL_law_948 (by decide) ?_ ?_
        · refine s_iload hG dL_law_953 rfl ?_
          refine s_if_ne hG (tgt := 970) dL_law_955 (by decide) ?_ ?_
          · refine s_lv hG [2, 3, 4, 5, 6] rfl ?_
            exact hb970 _ _
          · refine s_aload_n hG dL_law_958 rfl ?_
            refine s_iconst hG (v := (0 : Int32)) dL_law_959 (by decide) ?_
            refine s_laload hG dL_law_960 (rfl) ?_
            refine s_iload hG dL_law_961 rfl ?_
            refine s_i2l hG dL_law_963 ?_
            refine s_lcmp hG dL_law_964 ?_
            refine s_if_eq hG (tgt := 970) dL_law_965 (by decide) ?_ ?_
            · refine s_lv hG [2, 3, 4, 5, 6] rfl ?_
              exact hb970 _ _
            · refine s_iconst hG (v := (0 : Int32)) dL_law_968 (by decide) ?_
              exact s_lret hR (by omega) (by omega) dL_law_969
        · refine s_iconst hG (v := (0 : Int32)) dL_law_951 (by decide) ?_
          exact s_lret hR (by omega) (by omega) dL_law_952
      refine s_tsw1 hG (v := (11 : Int32)) (tgt := 973) dL_law_40 (by decide) (by decide) rfl (by decide) ?_ (fun n40_11 => ?_)
      · refine s_aload_n hG dL_law_973 rfl ?_
        refine s_aload_n hG dL_law_974 rfl ?_
        refine s_iload hG dL_law_975 rfl ?_
        refine s_iconst hG (v := (1 : Int32)) dL_law_977 (by decide) ?_
        refine s_iadd hG dL_law_978 ?_
        refine s_sld hGL dL_law_979 ?_
        refine s_aload_n hG dL_law_980 rfl ?_
        refine s_lw hG (as := [vR 0, vI (xs (x4 + (1 : Int32)).toNatClampNeg), vR 60]) (st := []) (rm := rm_L_below) (hh := hh_L_below) dL_law_981 ml_RL_146 (tb11 (mem_i 18 rfl)) (exin (mem_i 145 (by decide +kernel))) rfl ⟨rfl, rfl⟩ ⟨by decide, by decide⟩ (Nat.le_of_ble_eq_true rfl) ⟨by omega, by omega⟩ rfl (fun o h => c_L_below l hl9 _ _ o h) (fun o981 => ?_)
        refine s_istore hG (lv' := [(5, vI o981.2), (0, vR 61), (1, vR 0), (2, vR 36), (3, vR 60), (4, vI x4)]) dL_law_984 (by decide) rfl ?_
        refine s_aload_n hG dL_law_986 rfl ?_
        refine s_aload_n hG dL_law_987 rfl ?_
        refine s_iload hG dL_law_988 rfl ?_
        refine s_iconst hG (v := (1 : Int32)) dL_law_990 (by decide) ?_
        refine s_iadd hG dL_law_991 ?_
        refine s_sld hGL dL_law_992 ?_
        refine s_cvI hG (as := [vI (xs (x4 + (1 : Int32)).toNatClampNeg)]) (st := []) (rm := rm_X8_below) dL_law_993 ml_RL_148 (rfl) (tb23 (mem_i 5 rfl)) rfl ⟨rfl, rfl⟩ ⟨by decide, by decide⟩ (Nat.le_of_ble_eq_true rfl) ⟨by omega, by omega⟩ rfl (fun o h => c_X8_below l _ _ o h) (fun o993 => ?_)
        refine s_istore hG (lv' := [(6, vI o993.2), (5, vI o981.2), (0, vR 61), (1, vR 0), (2, vR 36), (3, vR 60), (4, vI x4)]) dL_law_996 (by decide) rfl ?_
        refine s_aload_n hG dL_law_998 rfl ?_
        refine s_cvP hG (as := []) (st := []) (rm := rm_X8_thrown) dL_law_999 ml_RL_108 (rfl) (tb18 (mem_i 23 rfl)) rfl ⟨rfl, rfl⟩ ⟨by decide, by decide⟩ (Nat.le_of_ble_eq_true rfl) ⟨by omega, by omega⟩ rfl (fun o h => c_X8_thrown l  _ o h) (fun o999 => ?_)
        refine s_iload hG dL_law_1002 rfl ?_
        refine s_icmp_eq hG (tgt := 1009) dL_law_1004 (by decide) ?_ ?_
        · refine s_iload hG dL_law_1009 rfl ?_
          refine s_if_ne hG (tgt := 1026) dL_law_1011 (by decide) ?_ ?_
          · refine s_lv hG [2, 3, 4, 5, 6] rfl ?_
            exact hb1026 _ _
          · refine s_aload_n hG dL_law_1014 rfl ?_
            refine s_iconst hG (v := (0 : Int32)) dL_law_1015 (by decide) ?_
            refine s_laload hG dL_law_1016 (rfl) ?_
            refine s_iload hG dL_law_1017 rfl ?_
            refine s_i2l hG dL_law_1019 ?_
            refine s_lcmp hG dL_law_1020 ?_
            refine s_if_eq hG (tgt := 1026) dL_law_1021 (by decide) ?_ ?_
            · refine s_lv hG [2, 3, 4, 5, 6] rfl ?_
              exact hb1026 _ _
            · refine s_iconst hG (v := (0 : Int32)) dL_law_1024 (by decide) ?_
              exact s_lret hR (by omega) (by omega) dL_law_1025
        · refine s_iconst hG (v := (0 : Int32)) dL_law_1007 (by decide) ?_
          exact s_lret hR (by omega) (by omega) dL_law_1008
      refine s_tsw1 hG (v := (12 : Int32)) (tgt := 1029) dL_law_40 (by decide) (by decide) rfl (by decide) ?_ (fun n40_12 => ?_)
      · refine s_aload_n hG dL_law_1029 rfl ?_
        refine s_aload_n hG dL_law_1030 rfl ?_
        refine s_iload hG dL_law_1031 rfl ?_
        refine s_iconst hG (v := (1 : Int32)) dL_law_1033 (by decide) ?_
        refine s_iadd hG dL_law_1034 ?_
        refine s_sld hGL dL_law_1035 ?_
        refine s_aload_n hG dL_law_1036 rfl ?_
        refine s_lw hG (as := [vR 0, vI (xs (x4 + (1 : Int32)).toNatClampNeg), vR 60]) (st := []) (rm := rm_L_standsAt) (hh := hh_L_standsAt) dL_law_1037 ml_RL_149 (tb11 (mem_i 27 rfl)) (exin (mem_i 147 (by decide +kernel))) rfl ⟨rfl, rfl⟩ ⟨by decide, by decide⟩ (Nat.le_of_ble_eq_true rfl) ⟨by omega, by omega⟩ rfl (fun o h => c_L_standsAt l hl9 _ _ o h) (fun o1037 => ?_)
        refine s_istore hG (lv' := [(5, vI o1037.2), (0, vR 61), (1, vR 0), (2, vR 36), (3, vR 60), (4, vI x4)]) dL_law_1040 (by decide) rfl ?_
        refine s_aload_n hG dL_law_1042 rfl ?_
        refine s_aload_n hG dL_law_1043 rfl ?_
        refine s_iload hG dL_law_1044 rfl ?_
        refine s_iconst hG (v := (1 : Int32)) dL_law_1046 (by decide) ?_
        refine s_iadd hG dL_law_1047 ?_
        refine s_sld hGL dL_law_1048 ?_
        refine s_cvI hG (as := [vI (xs (x4 + (1 : Int32)).toNatClampNeg)]) (st := []) (rm := rm_X8_standsAt) dL_law_1049 ml_RL_151 (rfl) (tb23 (mem_i 9 rfl)) rfl ⟨rfl, rfl⟩ ⟨by decide, by decide⟩ (Nat.le_of_ble_eq_true rfl) ⟨by omega, by omega⟩ rfl (fun o h => c_X8_standsAt l _ _ o h) (fun o1049 => ?_)
        refine s_istore hG (lv' := [(6, vI o1049.2), (5, vI o1037.2), (0, vR 61), (1, vR 0), (2, vR 36), (3, vR 60), (4, vI x4)]) dL_law_1052 (by decide) rfl ?_
        refine s_aload_n hG dL_law_1054 rfl ?_
        refine s_cvP hG (as := []) (st := []) (rm := rm_X8_thrown) dL_law_1055 ml_RL_108 (rfl) (tb18 (mem_i 23 rfl)) rfl ⟨rfl, rfl⟩ ⟨by decide, by decide⟩ (Nat.le_of_ble_eq_true rfl) ⟨by omega, by omega⟩ rfl (fun o h => c_X8_thrown l  _ o h) (fun o1055 => ?_)
        refine s_iload hG dL_law_1058 rfl ?_
        refine s_icmp_eq hG (tgt := 1065) dL_law_1060 (by decide) ?_ ?_
        · refine s_iload hG dL_law_1065 rfl ?_
          refine s_if_ne hG (tgt := 1082) dL_law_1067 (by decide) ?_ ?_
          · refine s_lv hG [2, 3, 4, 5, 6] rfl ?_
            exact hb1082 _ _
          · refine s_aload_n hG dL_law_1070 rfl ?_
            refine s_iconst hG (v := (0 : Int32)) dL_law_1071 (by decide) ?_
            refine s_laload hG dL_law_1072 (rfl) ?_
            refine s_iload hG dL_law_1073 rfl ?_
            refine s_i2l hG dL_law_1075 ?_
            refine s_lcmp hG dL_law_1076 ?_
            refine s_if_eq hG (tgt := 1082) dL_law_1077 (by decide) ?_ ?_
            · refine s_lv hG [2, 3, 4, 5, 6] rfl ?_
              exact hb1082 _ _
            · refine s_iconst hG (v := (0 : Int32)) dL_law_1080 (by decide) ?_
              exact s_lret hR (by omega) (by omega) dL_law_1081
        · refine s_iconst hG (v := (0 : Int32)) dL_law_1063 (by decide) ?_
          exact s_lret hR (by omega) (by omega) dL_law_1064
      refine s_tsw1 hG (v := (13 : Int32)) (tgt := 1085) dL_law_40 (by decide) (by decide) rfl (by decide) ?_ (fun n40_13 => ?_)
      · refine s_aload_n hG dL_law_1085 rfl ?_
        refine s_cvP hG (as := []) (st := []) (rm := rm_X7_acts) dL_law_1086 ml_RL_152 (rfl) (tb4 (mem_i 21 rfl)) rfl ⟨rfl, rfl⟩ ⟨by decide, by decide⟩ (Nat.le_of_ble_eq_true rfl) ⟨by omega, by omega⟩ rfl (fun o h => c_X7_acts l  _ o h) (fun o1086 => ?_)
        refine s_aload_n hG dL_law_1089 rfl ?_
        refine s_cvI hG (as := []) (st := [vI o1086]) (rm := rm_X8_acts) dL_law_1090 ml_RL_155 (rfl) (tb23 (mem_i 13 rfl)) rfl ⟨rfl, rfl⟩ ⟨by decide, by decide⟩ (Nat.le_of_ble_eq_true rfl) ⟨by omega, by omega⟩ rfl (fun o h => c_X8_acts l  _ o h) (fun o1090 => ?_)
        refine s_icmp_eq hG (tgt := 1895) dL_law_1093 (by decide) ?_ ?_
        · refine s_wid hG (k + 1) (n + 6) (by omega) (by omega) ?_
          exact hb1895 _ _
        · refine s_iconst hG (v := (0 : Int32)) dL_law_1096 (by decide) ?_
          exact s_lret hR (by omega) (by omega) dL_law_1097
      refine s_tsw1 hG (v := (14 : Int32)) (tgt := 1098) dL_law_40 (by decide) (by decide) rfl (by decide) ?_ (fun n40_14 => ?_)
      · refine s_aload_n hG dL_law_1098 rfl ?_
        refine s_aload_n hG dL_law_1099 rfl ?_
        refine s_iload hG dL_law_1100 rfl ?_
        refine s_iconst hG (v := (1 : Int32)) dL_law_1102 (by decide) ?_
        refine s_iadd hG dL_law_1103 ?_
        refine s_sld hGL dL_law_1104 ?_
        refine s_aload_n hG dL_law_1105 rfl ?_
        refine s_lw hG (as := [vR 0, vI (xs (x4 + (1 : Int32)).toNatClampNeg), vR 60]) (st := []) (rm := rm_L_counts) (hh := hh_L_counts) dL_law_1106 ml_RL_156 (tb12 (mem_i 3 rfl)) (exin (mem_i 148 (by decide +kernel))) rfl ⟨rfl, rfl⟩ ⟨by decide, by decide⟩ (Nat.le_of_ble_eq_true rfl) ⟨by omega, by omega⟩ rfl (fun o h => c_L_counts l hl9 _ _ o h) (fun o1106 => ?_)
        refine s_istore hG (lv' := [(5, vI o1106.2), (0, vR 61), (1, vR 0), (2, vR 36), (3, vR 60), (4, vI x4)]) dL_law_1109 (by decide) rfl ?_
        refine s_aload_n hG dL_law_1111 rfl ?_
        refine s_aload_n hG dL_law_1112 rfl ?_
        refine s_iload hG dL_law_1113 rfl ?_
        refine s_iconst hG (v := (1 : Int32)) dL_law_1115 (by decide) ?_
        refine s_iadd hG dL_law_1116 ?_
        refine s_sld hGL dL_law_1117 ?_
        refine s_cvI hG (as := [vI (xs (x4 + (1 : Int32)).toNatClampNeg)]) (st := []) (rm := rm_X8_counts) dL_law_1118 ml_RL_158 (rfl) (tb23 (mem_i 17 rfl)) rfl ⟨rfl, rfl⟩ ⟨by decide, by decide⟩ (Nat.le_of_ble_eq_true rfl) ⟨by omega, by omega⟩ rfl (fun o h => c_X8_counts l _ _ o h) (fun o1118 => ?_)
        refine s_istore hG (lv' := [(6, vI o1118.2), (5, vI o1106.2), (0, vR 61), (1, vR 0), (2, vR 36), (3, vR 60), (4, vI x4)]) dL_law_1121 (by decide) rfl ?_
        refine s_aload_n hG dL_law_1123 rfl ?_
        refine s_cvP hG (as := []) (st := []) (rm := rm_X8_thrown) dL_law_1124 ml_RL_108 (rfl) (tb18 (mem_i 23 rfl)) rfl ⟨rfl, rfl⟩ ⟨by decide, by decide⟩ (Nat.le_of_ble_eq_true rfl) ⟨by omega, by omega⟩ rfl (fun o h => c_X8_thrown l  _ o h) (fun o1124 => ?_)
        refine s_iload hG dL_law_1127 rfl ?_
        refine s_icmp_eq hG (tgt := 1134) dL_law_1129 (by decide) ?_ ?_
        · refine s_iload hG dL_law_1134 rfl ?_
          refine s_if_ne hG (tgt := 1158) dL_law_1136 (by decide) ?_ ?_
          · refine s_lv hG [2, 3, 4, 5, 6] rfl ?_
            exact hb1158 _ _
          · refine s_aload_n hG dL_law_1139 rfl ?_
            refine s_iconst hG (v := (0 : Int32)) dL_law_1140 (by decide) ?_
            refine s_laload hG dL_law_1141 (rfl) ?_
            refine s_iload hG dL_law_1142 rfl ?_
            refine s_if_eq hG (tgt := 1151) dL_law_1144 (by decide) ?_ ?_
            · refine s_lconst hG (v := (0 : Int64)) dL_law_1151 (by decide) ?_
              refine s_lv hG [2, 3, 4, 5, 6] rfl ?_
              exact hb1152 _ _ _ _
            · refine s_lconst hG (v := (1 : Int64)) dL_law_1147 (by decide) ?_
              refine s_goto hG (tgt := 1152) dL_law_1148 (by decide) ?_
              refine s_lv hG [2, 3, 4, 5, 6] rfl ?_
              exact hb1152 _ _ _ _
        · refine s_iconst hG (v := (0 : Int32)) dL_law_1132 (by decide) ?_
          exact s_lret hR (by omega) (by omega) dL_law_1133
      refine s_tsw1 hG (v := (15 : Int32)) (tgt := 1161) dL_law_40 (by decide) (by decide) rfl (by decide) ?_ (fun n40_15 => ?_)
      · refine s_aload_n hG dL_law_1161 rfl ?_
        refine s_aload_n hG dL_law_1162 rfl ?_
        refine s_iload hG dL_law_1163 rfl ?_
        refine s_iconst hG (v := (1 : Int32)) dL_law_1165 (by decide) ?_
        refine s_iadd hG dL_law_1166 ?_
        refine s_sld hGL dL_law_1167 ?_
        refine s_aload_n hG dL_law_1168 rfl ?_
        refine s_lw hG (as := [vR 0, vI (xs (x4 + (1 : Int32)).toNatClampNeg), vR 60]) (st := []) (rm := rm_L_isVoid) (hh := hh_L_isVoid) dL_law_1169 ml_RL_159 (tb12 (mem_i 12 rfl)) (exin (mem_i 149 (by decide +kernel))) rfl ⟨rfl, rfl⟩ ⟨by decide, by decide⟩ (Nat.le_of_ble_eq_true rfl) ⟨by omega, by omega⟩ rfl (fun o h => c_L_isVoid l hl9 _ _ o h) (fun o1169 => ?_)
        refine s_istore hG (lv' := [(5, vI o1169.2), (0, vR 61), (1, vR 0), (2, vR 36), (3, vR 60), (4, vI x4)]) dL_law_1172 (by decide) rfl ?_
        refine s_aload_n hG dL_law_1174 rfl ?_
        refine s_aload_n hG dL_law_1175 rfl ?_
        refine s_iload hG dL_law_1176 rfl ?_
        refine s_iconst hG (v := (1 : Int32)) dL_law_1178 (by decide) ?_
        refine s_iadd hG dL_law_1179 ?_
        refine s_sld hGL dL_law_1180 ?_
        refine s_cvI hG (as := [vI (xs (x4 + (1 : Int32)).toNatClampNeg)]) (st := []) (rm := rm_X8_isVoid) dL_law_1181 ml_RL_161 (rfl) (tb23 (mem_i 24 rfl)) rfl ⟨rfl, rfl⟩ ⟨by decide, by decide⟩ (Nat.le_of_ble_eq_true rfl) ⟨by omega, by omega⟩ rfl (fun o h => c_X8_isVoid l _ _ o h) (fun o1181 => ?_)
        refine s_istore hG (lv' := [(6, vI o1181.2), (5, vI o1169.2), (0, vR 61), (1, vR 0), (2, vR 36), (3, vR 60), (4, vI x4)]) dL_law_1184 (by decide) rfl ?_
        refine s_aload_n hG dL_law_1186 rfl ?_
        refine s_cvP hG (as := []) (st := []) (rm := rm_X8_thrown) dL_law_1187 ml_RL_108 (rfl) (tb18 (mem_i 23 rfl)) rfl ⟨rfl, rfl⟩ ⟨by decide, by decide⟩ (Nat.le_of_ble_eq_true rfl) ⟨by omega, by omega⟩ rfl (fun o h => c_X8_thrown l  _ o h) (fun o1187 => ?_)
        refine s_iload hG dL_law_1190 rfl ?_
        refine s_icmp_eq hG (tgt := 1197) dL_law_1192 (by decide) ?_ ?_
        · refine s_iload hG dL_law_1197 rfl ?_
          refine s_if_ne hG (tgt := 1221) dL_law_1199 (by decide) ?_ ?_
          · refine s_lv hG [2, 3, 4, 5, 6] rfl ?_
            exact hb1221 _ _
          · refine s_aload_n hG dL_law_1202 rfl ?_
            refine s_iconst hG (v := (0 : Int32)) dL_law_1203 (by decide) ?_
            refine s_laload hG dL_law_1204 (rfl) ?_
            refine s_iload hG dL_law_1205 rfl ?_
            refine s_if_eq hG (tgt := 1214) dL_law_1207 (by decide) ?_ ?_
            · refine s_lconst hG (v := (0 : Int64)) dL_law_1214 (by decide) ?_
              refine s_lv hG [2, 3, 4, 5, 6] rfl ?_
              exact hb1215 _ _ _ _
            · refine s_lconst hG (v := (1 : Int64)) dL_law_1210 (by decide) ?_
              refine s_goto hG (tgt := 1215) dL_law_1211 (by decide) ?_
              refine s_lv hG [2, 3, 4, 5, 6] rfl ?_
              exact hb1215 _ _ _ _
        · refine s_iconst hG (v := (0 : Int32)) dL_law_1195 (by decide) ?_
          exact s_lret hR (by omega) (by omega) dL_law_1196
      refine s_tsw1 hG (v := (16 : Int32)) (tgt := 1224) dL_law_40 (by decide) (by decide) rfl (by decide) ?_ (fun n40_16 => ?_)
      · refine s_aload_n hG dL_law_1224 rfl ?_
        refine s_aload_n hG dL_law_1225 rfl ?_
        refine s_iload hG dL_law_1226 rfl ?_
        refine s_iconst hG (v := (1 : Int32)) dL_law_1228 (by decide) ?_
        refine s_iadd hG dL_law_1229 ?_
        refine s_sld hGL dL_law_1230 ?_
        refine s_aload_n hG dL_law_1231 rfl ?_
        refine s_lw hG (as := [vR 0, vI (xs (x4 + (1 : Int32)).toNatClampNeg), vR 60]) (st := []) (rm := rm_L_isThere) (hh := hh_L_isThere) dL_law_1232 ml_RL_162 (tb12 (mem_i 18 rfl)) (exin (mem_i 150 (by decide +kernel))) rfl ⟨rfl, rfl⟩ ⟨by decide, by decide⟩ (Nat.le_of_ble_eq_true rfl) ⟨by omega, by omega⟩ rfl (fun o h => c_L_isThere l hl9 _ _ o h) (fun o1232 => ?_)
        refine s_istore hG (lv' := [(5, vI o1232.2), (0, vR 61), (1, vR 0), (2, vR 36), (3, vR 60), (4, vI x4)]) dL_law_1235 (by decide) rfl ?_
        refine s_aload_n hG dL_law_1237 rfl ?_
        refine s_aload_n hG dL_law_1238 rfl ?_
        refine s_iload hG dL_law_1239 rfl ?_
        refine s_iconst hG (v := (1 : Int32)) dL_law_1241 (by decide) ?_
        refine s_iadd hG dL_law_1242 ?_
        refine s_sld hGL dL_law_1243 ?_
        refine s_cvI hG (as := [vI (xs (x4 + (1 : Int32)).toNatClampNeg)]) (st := []) (rm := rm_X8_isThere) dL_law_1244 ml_RL_164 (rfl) (tb23 (mem_i 28 rfl)) rfl ⟨rfl, rfl⟩ ⟨by decide, by decide⟩ (Nat.le_of_ble_eq_true rfl) ⟨by omega, by omega⟩ rfl (fun o h => c_X8_isThere l _ _ o h) (fun o1244 => ?_)
        refine s_istore hG (lv' := [(6, vI o1244.2), (5, vI o1232.2), (0, vR 61), (1, vR 0), (2, vR 36), (3, vR 60), (4, vI x4)]) dL_law_1247 (by decide) rfl ?_
        refine s_aload_n hG dL_law_1249 rfl ?_
        refine s_cvP hG (as := []) (st := []) (rm := rm_X8_thrown) dL_law_1250 ml_RL_108 (rfl) (tb18 (mem_i 23 rfl)) rfl ⟨rfl, rfl⟩ ⟨by decide, by decide⟩ (Nat.le_of_ble_eq_true rfl) ⟨by omega, by omega⟩ rfl (fun o h => c_X8_thrown l  _ o h) (fun o1250 => ?_)
        refine s_iload hG dL_law_1253 rfl ?_
        refine s_icmp_eq hG (tgt := 1260) dL_law_1255 (by decide) ?_ ?_
        · refine s_iload hG dL_law_1260 rfl ?_
          refine s_if_ne hG (tgt := 1284) dL_law_1262 (by decide) ?_ ?_
          · refine s_lv hG [2, 3, 4, 5, 6] rfl ?_
            exact hb1284 _ _
          · refine s_aload_n hG dL_law_1265 rfl ?_
            refine s_iconst hG (v := (0 : Int32)) dL_law_1266 (by decide) ?_
            refine s_laload hG dL_law_1267 (rfl) ?_
            refine s_iload hG dL_law_1268 rfl ?_
            refine s_if_eq hG (tgt := 1277) dL_law_1270 (by decide) ?_ ?_
            · refine s_lconst hG (v := (0 : Int64)) dL_law_1277 (by decide) ?_
              refine s_lv hG [2, 3, 4, 5, 6] rfl ?_
              exact hb1278 _ _ _ _
            · refine s_lconst hG (v := (1 : Int64)) dL_law_1273 (by decide) ?_
              refine s_goto hG (tgt := 1278) dL_law_1274 (by decide) ?_
              refine s_lv hG [2, 3, 4, 5, 6] rfl ?_
              exact hb1278 _ _ _ _
        · refine s_iconst hG (v := (0 : Int32)) dL_law_1258 (by decide) ?_
          exact s_lret hR (by omega) (by omega) dL_law_1259
      refine s_tsw1 hG (v := (17 : Int32)) (tgt := 1287) dL_law_40 (by decide) (by decide) rfl (by decide) ?_ (fun n40_17 => ?_)
      · refine s_aload_n hG dL_law_1287 rfl ?_
        refine s_aload_n hG dL_law_1288 rfl ?_
        refine s_iload hG dL_law_1289 rfl ?_
        refine s_iconst hG (v := (1 : Int32)) dL_law_1291 (by decide) ?_
        refine s_iadd hG dL_law_1292 ?_
        refine s_sld hGL dL_law_1293 ?_
        refine s_aload_n hG dL_law_1294 rfl ?_
        refine s_iload hG dL_law_1295 rfl ?_
        refine s_iconst hG (v := (2 : Int32)) dL_law_1297 (by decide) ?_
        refine s_iadd hG dL_law_1298 ?_
        refine s_sld hGL dL_law_1299 ?_
        refine s_aload_n hG dL_law_1300 rfl ?_
        refine s_lw hG (as := [vR 0, vI (xs (x4 + (1 : Int32)).toNatClampNeg), vI (xs (x4 + (2 : Int32)).toNatClampNeg), vR 60]) (st := []) (rm := rm_L_number) (hh := hh_L_number) dL_law_1301 ml_RL_165 (tb12 (mem_i 24 rfl)) (exin (mem_i 151 (by decide +kernel))) rfl ⟨rfl, rfl⟩ ⟨by decide, by decide⟩ (Nat.le_of_ble_eq_true rfl) ⟨by omega, by omega⟩ rfl (fun o h => c_L_number l hl9 _ _ _ o h) (fun o1301 => ?_)
        refine s_istore hG (lv' := [(5, vI o1301.2), (0, vR 61), (1, vR 0), (2, vR 36), (3, vR 60), (4, vI x4)]) dL_law_1304 (by decide) rfl ?_
        refine s_aload_n hG dL_law_1306 rfl ?_
        refine s_aload_n hG dL_law_1307 rfl ?_
        refine s_iload hG dL_law_1308 rfl ?_
        refine s_iconst hG (v := (1 : Int32)) dL_law_1310 (by decide) ?_
        refine s_iadd hG dL_law_1311 ?_
        refine s_sld hGL dL_law_1312 ?_
        refine s_aload_n hG dL_law_1313 rfl ?_
        refine s_iload hG dL_law_1314 rfl ?_
        refine s_iconst hG (v := (2 : Int32)) dL_law_1316 (by decide) ?_
        refine s_iadd hG dL_law_1317 ?_
        refine s_sld hGL dL_law_1318 ?_
        refine s_cvI hG (as := [vI (xs (x4 + (1 : Int32)).toNatClampNeg), vI (xs (x4 + (2 : Int32)).toNatClampNeg)]) (st := []) (rm := rm_X8_number) dL_law_1319 ml_RL_167 (rfl) (tb24 (mem_i 2 rfl)) rfl ⟨rfl, rfl⟩ ⟨by decide, by decide⟩ (Nat.le_of_ble_eq_true rfl) ⟨by omega, by omega⟩ rfl (fun o h => c_X8_number l _ _ _ o h) (fun o1319 => ?_)
        refine s_istore hG (lv' := [(6, vI o1319.2), (5, vI o1301.2), (0, vR 61), (1, vR 0), (2, vR 36), (3, vR 60), (4, vI x4)]) dL_law_1322 (by decide) rfl ?_
        refine s_aload_n hG dL_law_1324 rfl ?_
        refine s_cvP hG (as := []) (st := []) (rm := rm_X8_thrown) dL_law_1325 ml_RL_108 (rfl) (tb18 (mem_i 23 rfl)) rfl ⟨rfl, rfl⟩ ⟨by decide, by decide⟩ (Nat.le_of_ble_eq_true rfl) ⟨by omega, by omega⟩ rfl (fun o h => c_X8_thrown l  _ o h) (fun o1325 => ?_)
        refine s_iload hG dL_law_1328 rfl ?_
        refine s_icmp_eq hG (tgt := 1335) dL_law_1330 (by decide) ?_ ?_
        · refine s_iload hG dL_law_1335 rfl ?_
          refine s_if_ne hG (tgt := 1352) dL_law_1337 (by decide) ?_ ?_
          · refine s_lv hG [2, 3, 4, 5, 6] rfl ?_
            exact hb1352 _ _
          · refine s_aload_n hG dL_law_1340 rfl ?_
            refine s_iconst hG (v := (0 : Int32)) dL_law_1341 (by decide) ?_
            refine s_laload hG dL_law_1342 (rfl) ?_
            refine s_iload hG dL_law_1343 rfl ?_
            refine s_i2l hG dL_law_1345 ?_
            refine s_lcmp hG dL_law_1346 ?_
            refine s_if_eq hG (tgt := 1352) dL_law_1347 (by decide) ?_ ?_
            · refine s_lv hG [2, 3, 4, 5, 6] rfl ?_
              exact hb1352 _ _
            · refine s_iconst hG (v := (0 : Int32)) dL_law_1350 (by decide) ?_
              exact s_lret hR (by omega) (by omega) dL_law_1351
        · refine s_iconst hG (v := (0 : Int32)) dL_law_1333 (by decide) ?_
          exact s_lret hR (by omega) (by omega) dL_law_1334
      refine s_tsw1 hG (v := (18 : Int32)) (tgt := 1355) dL_law_40 (by decide) (by decide) rfl (by decide) ?_ (fun n40_18 => ?_)
      · refine s_aload_n hG dL_law_1355 rfl ?_
        refine s_aload_n hG dL_law_1356 rfl ?_
        refine s_iload hG dL_law_1357 rfl ?_
        refine s_iconst hG (v := (1 : Int32)) dL_law_1359 (by decide) ?_
        refine s_iadd hG dL_law_1360 ?_
        refine s_sld hGL dL_law_1361 ?_
        refine s_aload_n hG dL_law_1362 rfl ?_
        refine s_iload hG dL_law_1363 rfl ?_
        refine s_iconst hG (v := (2 : Int32)) dL_law_1365 (by decide) ?_
        refine s_iadd hG dL_law_1366 ?_
        refine s_sld hGL dL_law_1367 ?_
        refine s_aload_n hG dL_law_1368 rfl ?_
        refine s_lw hG (as := [vR 0, vI (xs (x4 + (1 : Int32)).toNatClampNeg), vI (xs (x4 + (2 : Int32)).toNatClampNeg), vR 60]) (st := []) (rm := rm_L_numberAnew) (hh := hh_L_numberAnew) dL_law_1369 ml_RL_168 (tb13 (mem_i 6 rfl)) (exin (mem_i 167 (by decide +kernel))) rfl ⟨rfl, rfl⟩ ⟨by decide, by decide⟩ (Nat.le_of_ble_eq_true rfl) ⟨by omega, by omega⟩ rfl (fun o h => c_L_numberAnew l hl9 _ _ _ o h) (fun o1369 => ?_)
        refine s_istore hG (lv' := [(5, vI o1369.2), (0, vR 61), (1, vR 0), (2, vR 36), (3, vR 60), (4, vI x4)]) dL_law_1372 (by decide) rfl ?_
        refine s_aload_n hG dL_law_1374 rfl ?_
        refine s_aload_n hG dL_law_1375 rfl ?_
        refine s_iload hG dL_law_1376 rfl ?_
        refine s_iconst hG (v := (1 : Int32)) dL_law_1378 (by decide) ?_
        refine s_iadd hG dL_law_1379 ?_
        refine s_sld hGL dL_law_1380 ?_
        refine s_aload_n hG dL_law_1381 rfl ?_
        refine s_iload hG dL_law_1382 rfl ?_
        refine s_iconst hG (v := (2 : Int32)) dL_law_1384 (by decide) ?_
        refine s_iadd hG dL_law_1385 ?_
        refine s_sld hGL dL_law_1386 ?_
        refine s_cvI hG (as := [vI (xs (x4 + (1 : Int32)).toNatClampNeg), vI (xs (x4 + (2 : Int32)).toNatClampNeg)]) (st := []) (rm := rm_X8_numberAnew) dL_law_1387 ml_RL_170 (rfl) (tb24 (mem_i 9 rfl)) rfl ⟨rfl, rfl⟩ ⟨by decide, by decide⟩ (Nat.le_of_ble_eq_true rfl) ⟨by omega, by omega⟩ rfl (fun o h => c_X8_numberAnew l _ _ _ o h) (fun o1387 => ?_)
        refine s_istore hG (lv' := [(6, vI o1387.2), (5, vI o1369.2), (0, vR 61), (1, vR 0), (2, vR 36), (3, vR 60), (4, vI x4)]) dL_law_1390 (by decide) rfl ?_
        refine s_aload_n hG dL_law_1392 rfl ?_
        refine s_cvP hG (as := []) (st := []) (rm := rm_X8_thrown) dL_law_1393 ml_RL_108 (rfl) (tb18 (mem_i 23 rfl)) rfl ⟨rfl, rfl⟩ ⟨by decide, by decide⟩ (Nat.le_of_ble_eq_true rfl) ⟨by omega, by omega⟩ rfl (fun o h => c_X8_thrown l  _ o h) (fun o1393 => ?_)
        refine s_iload hG dL_law_1396 rfl ?_
        refine s_icmp_eq hG (tgt := 1403) dL_law_1398 (by decide) ?_ ?_
        · refine s_iload hG dL_law_1403 rfl ?_
          refine s_if_ne hG (tgt := 1420) dL_law_1405 (by decide) ?_ ?_
          · refine s_lv hG [2, 3, 4, 5, 6] rfl ?_
            exact hb1420 _ _
          · refine s_aload_n hG dL_law_1408 rfl ?_
            refine s_iconst hG (v := (0 : Int32)) dL_law_1409 (by decide) ?_
            refine s_laload hG dL_law_1410 (rfl) ?_
            refine s_iload hG dL_law_1411 rfl ?_
            refine s_i2l hG dL_law_1413 ?_
            refine s_lcmp hG dL_law_1414 ?_
            refine s_if_eq hG (tgt := 1420) dL_law_1415 (by decide) ?_ ?_
            · refine s_lv hG [2, 3, 4, 5, 6] rfl ?_
              exact hb1420 _ _
            · refine s_iconst hG (v := (0 : Int32)) dL_law_1418 (by decide) ?_
              exact s_lret hR (by omega) (by omega) dL_law_1419
        · refine s_iconst hG (v := (0 : Int32)) dL_law_1401 (by decide) ?_
          exact s_lret hR (by omega) (by omega) dL_law_1402
      refine s_tsw1 hG (v := (19 : Int32)) (tgt := 1423) dL_law_40 (by decide) (by decide) rfl (by decide) ?_ (fun n40_19 => ?_)
      · refine s_aload_n hG dL_law_1423 rfl ?_
        refine s_aload_n hG dL_law_1424 rfl ?_
        refine s_iload hG dL_law_1425 rfl ?_
        refine s_iconst hG (v := (1 : Int32)) dL_law_1427 (by decide) ?_
        refine s_iadd hG dL_law_1428 ?_
        refine s_sld hGL dL_law_1429 ?_
        refine s_aload_n hG dL_law_1430 rfl ?_
        refine s_lw hG (as := [vR 0, vI (xs (x4 + (1 : Int32)).toNatClampNeg), vR 60]) (st := []) (rm := rm_L_isInForce) (hh := hh_L_isInForce) dL_law_1431 ml_RL_171 (tb13 (mem_i 12 rfl)) (exin (mem_i 168 (by decide +kernel))) rfl ⟨rfl, rfl⟩ ⟨by decide, by decide⟩ (Nat.le_of_ble_eq_true rfl) ⟨by omega, by omega⟩ rfl (fun o h => c_L_isInForce l hl9 _ _ o h) (fun o1431 => ?_)
        refine s_istore hG (lv' := [(5, vI o1431.2), (0, vR 61), (1, vR 0), (2, vR 36), (3, vR 60), (4, vI x4)]) dL_law_1434 (by decide) rfl ?_
        refine s_aload_n hG dL_law_1436 rfl ?_
        refine s_aload_n hG dL_law_1437 rfl ?_
        refine s_iload hG dL_law_1438 rfl ?_
        refine s_iconst hG (v := (1 : Int32)) dL_law_1440 (by decide) ?_
        refine s_iadd hG dL_law_1441 ?_
        refine s_sld hGL dL_law_1442 ?_
        refine s_cvI hG (as := [vI (xs (x4 + (1 : Int32)).toNatClampNeg)]) (st := []) (rm := rm_X8_isInForce) dL_law_1443 ml_RL_173 (rfl) (tb24 (mem_i 13 rfl)) rfl ⟨rfl, rfl⟩ ⟨by decide, by decide⟩ (Nat.le_of_ble_eq_true rfl) ⟨by omega, by omega⟩ rfl (fun o h => c_X8_isInForce l _ _ o h) (fun o1443 => ?_)
        refine s_istore hG (lv' := [(6, vI o1443.2), (5, vI o1431.2), (0, vR 61), (1, vR 0), (2, vR 36), (3, vR 60), (4, vI x4)]) dL_law_1446 (by decide) rfl ?_
        refine s_aload_n hG dL_law_1448 rfl ?_
        refine s_cvP hG (as := []) (st := []) (rm := rm_X8_thrown) dL_law_1449 ml_RL_108 (rfl) (tb18 (mem_i 23 rfl)) rfl ⟨rfl, rfl⟩ ⟨by decide, by decide⟩ (Nat.le_of_ble_eq_true rfl) ⟨by omega, by omega⟩ rfl (fun o h => c_X8_thrown l  _ o h) (fun o1449 => ?_)
        refine s_iload hG dL_law_1452 rfl ?_
        refine s_icmp_eq hG (tgt := 1459) dL_law_1454 (by decide) ?_ ?_
        · refine s_iload hG dL_law_1459 rfl ?_
          refine s_if_ne hG (tgt := 1483) dL_law_1461 (by decide) ?_ ?_
          · refine s_lv hG [2, 3, 4, 5, 6] rfl ?_
            exact hb1483 _ _
          · refine s_aload_n hG dL_law_1464 rfl ?_
            refine s_iconst hG (v := (0 : Int32)) dL_law_1465 (by decide) ?_
            refine s_laload hG dL_law_1466 (rfl) ?_
            refine s_iload hG dL_law_1467 rfl ?_
            refine s_if_eq hG (tgt := 1476) dL_law_1469 (by decide) ?_ ?_
            · refine s_lconst hG (v := (0 : Int64)) dL_law_1476 (by decide) ?_
              refine s_lv hG [2, 3, 4, 5, 6] rfl ?_
              exact hb1477 _ _ _ _
            · refine s_lconst hG (v := (1 : Int64)) dL_law_1472 (by decide) ?_
              refine s_goto hG (tgt := 1477) dL_law_1473 (by decide) ?_
              refine s_lv hG [2, 3, 4, 5, 6] rfl ?_
              exact hb1477 _ _ _ _
        · refine s_iconst hG (v := (0 : Int32)) dL_law_1457 (by decide) ?_
          exact s_lret hR (by omega) (by omega) dL_law_1458
      refine s_tsw1 hG (v := (20 : Int32)) (tgt := 1486) dL_law_40 (by decide) (by decide) rfl (by decide) ?_ (fun n40_20 => ?_)
      · refine s_aload_n hG dL_law_1486 rfl ?_
        refine s_aload_n hG dL_law_1487 rfl ?_
        refine s_iload hG dL_law_1488 rfl ?_
        refine s_iconst hG (v := (1 : Int32)) dL_law_1490 (by decide) ?_
        refine s_iadd hG dL_law_1491 ?_
        refine s_sld hGL dL_law_1492 ?_
        refine s_aload_n hG dL_law_1493 rfl ?_
        refine s_lw hG (as := [vR 0, vI (xs (x4 + (1 : Int32)).toNatClampNeg), vR 60]) (st := []) (rm := rm_L_holds) (hh := hh_L_holds) dL_law_1494 ml_RL_174 (tb13 (mem_i 18 rfl)) (exin (mem_i 169 (by decide +kernel))) rfl ⟨rfl, rfl⟩ ⟨by decide, by decide⟩ (Nat.le_of_ble_eq_true rfl) ⟨by omega, by omega⟩ rfl (fun o h => c_L_holds l hl9 _ _ o h) (fun o1494 => ?_)
        refine s_istore hG (lv' := [(5, vI o1494.2), (0, vR 61), (1, vR 0), (2, vR 36), (3, vR 60), (4, vI x4)]) dL_law_1497 (by decide) rfl ?_
        refine s_aload_n hG dL_law_1499 rfl ?_
        refine s_aload_n hG dL_law_1500 rfl ?_
        refine s_iload hG dL_law_1501 rfl ?_
        refine s_iconst hG (v := (1 : Int32)) dL_law_1503 (by decide) ?_
        refine s_iadd hG dL_law_1504 ?_
        refine s_sld hGL dL_law_1505 ?_
        refine s_cvI hG (as := [vI (xs (x4 + (1 : Int32)).toNatClampNeg)]) (st := []) (rm := rm_X8_holds) dL_law_1506 ml_RL_176 (rfl) (tb24 (mem_i 17 rfl)) rfl ⟨rfl, rfl⟩ ⟨by decide, by decide⟩ (Nat.le_of_ble_eq_true rfl) ⟨by omega, by omega⟩ rfl (fun o h => c_X8_holds l _ _ o h) (fun o1506 => ?_)
        refine s_istore hG (lv' := [(6, vI o1506.2), (5, vI o1494.2), (0, vR 61), (1, vR 0), (2, vR 36), (3, vR 60), (4, vI x4)]) dL_law_1509 (by decide) rfl ?_
        refine s_aload_n hG dL_law_1511 rfl ?_
        refine s_cvP hG (as := []) (st := []) (rm := rm_X8_thrown) dL_law_1512 ml_RL_108 (rfl) (tb18 (mem_i 23 rfl)) rfl ⟨rfl, rfl⟩ ⟨by decide, by decide⟩ (Nat.le_of_ble_eq_true rfl) ⟨by omega, by omega⟩ rfl (fun o h => c_X8_thrown l  _ o h) (fun o1512 => ?_)
        refine s_iload hG dL_law_1515 rfl ?_
        refine s_icmp_eq hG (tgt := 1522) dL_law_1517 (by decide) ?_ ?_
        · refine s_iload hG dL_law_1522 rfl ?_
          refine s_if_ne hG (tgt := 1546) dL_law_1524 (by decide) ?_ ?_
          · refine s_lv hG [2, 3, 4, 5, 6] rfl ?_
            exact hb1546 _ _
          · refine s_aload_n hG dL_law_1527 rfl ?_
            refine s_iconst hG (v := (0 : Int32)) dL_law_1528 (by decide) ?_
            refine s_laload hG dL_law_1529 (rfl) ?_
            refine s_iload hG dL_law_1530 rfl ?_
            refine s_if_eq hG (tgt := 1539) dL_law_1532 (by decide) ?_ ?_
            · refine s_lconst hG (v := (0 : Int64)) dL_law_1539 (by decide) ?_
              refine s_lv hG [2, 3, 4, 5, 6] rfl ?_
              exact hb1540 _ _ _ _
            · refine s_lconst hG (v := (1 : Int64)) dL_law_1535 (by decide) ?_
              refine s_goto hG (tgt := 1540) dL_law_1536 (by decide) ?_
              refine s_lv hG [2, 3, 4, 5, 6] rfl ?_
              exact hb1540 _ _ _ _
        · refine s_iconst hG (v := (0 : Int32)) dL_law_1520 (by decide) ?_
          exact s_lret hR (by omega) (by omega) dL_law_1521
      refine s_tsw1 hG (v := (21 : Int32)) (tgt := 1549) dL_law_40 (by decide) (by decide) rfl (by decide) ?_ (fun n40_21 => ?_)
      · refine s_aload_n hG dL_law_1549 rfl ?_
        refine s_cvP hG (as := []) (st := []) (rm := rm_X7_broken) dL_law_1550 ml_RL_177 (rfl) (tb4 (mem_i 25 rfl)) rfl ⟨rfl, rfl⟩ ⟨by decide, by decide⟩ (Nat.le_of_ble_eq_true rfl) ⟨by omega, by omega⟩ rfl (fun o h => c_X7_broken l  _ o h) (fun o1550 => ?_)
        refine s_aload_n hG dL_law_1553 rfl ?_
        refine s_cvI hG (as := []) (st := [vI o1550]) (rm := rm_X8_broken) dL_law_1554 ml_RL_180 (rfl) (tb24 (mem_i 21 rfl)) rfl ⟨rfl, rfl⟩ ⟨by decide, by decide⟩ (Nat.le_of_ble_eq_true rfl) ⟨by omega, by omega⟩ rfl (fun o h => c_X8_broken l  _ o h) (fun o1554 => ?_)
        refine s_icmp_eq hG (tgt := 1895) dL_law_1557 (by decide) ?_ ?_
        · refine s_wid hG (k + 1) (n + 6) (by omega) (by omega) ?_
          exact hb1895 _ _
        · refine s_iconst hG (v := (0 : Int32)) dL_law_1560 (by decide) ?_
          exact s_lret hR (by omega) (by omega) dL_law_1561
      refine s_tsw1 hG (v := (22 : Int32)) (tgt := 1562) dL_law_40 (by decide) (by decide) rfl (by decide) ?_ (fun n40_22 => ?_)
      · refine s_aload_n hG dL_law_1562 rfl ?_
        refine s_aload_n hG dL_law_1563 rfl ?_
        refine s_iload hG dL_law_1564 rfl ?_
        refine s_iconst hG (v := (1 : Int32)) dL_law_1566 (by decide) ?_
        refine s_iadd hG dL_law_1567 ?_
        refine s_sld hGL dL_law_1568 ?_
        refine s_aload_n hG dL_law_1569 rfl ?_
        refine s_iload hG dL_law_1570 rfl ?_
        refine s_iconst hG (v := (2 : Int32)) dL_law_1572 (by decide) ?_
        refine s_iadd hG dL_law_1573 ?_
        refine s_sld hGL dL_law_1574 ?_
        refine s_if_eq hG (tgt := 1582) dL_law_1575 (by decide) ?_ ?_
        · refine s_iconst hG (v := (0 : Int32)) dL_law_1582 (by decide) ?_
          exact hb1583 _ _ _ _
        · refine s_iconst hG (v := (1 : Int32)) dL_law_1578 (by decide) ?_
          refine s_goto hG (tgt := 1583) dL_law_1579 (by decide) ?_
          exact hb1583 _ _ _ _
      refine s_tsw1 hG (v := (23 : Int32)) (tgt := 1646) dL_law_40 (by decide) (by decide) rfl (by decide) ?_ (fun n40_23 => ?_)
      · refine s_aload_n hG dL_law_1646 rfl ?_
        refine s_aload_n hG dL_law_1647 rfl ?_
        refine s_lw hG (as := [vR 0, vR 60]) (st := []) (rm := rm_L_ask) (hh := hh_L_ask) dL_law_1648 ml_RL_185 (tb14 (mem_i 2 rfl)) (exin (mem_i 171 (by decide +kernel))) rfl ⟨rfl, rfl⟩ ⟨by decide, by decide⟩ (Nat.le_of_ble_eq_true rfl) ⟨by omega, by omega⟩ rfl (fun o h => c_L_ask l hl9  _ o h) (fun o1648 => ?_)
        refine s_istore hG (lv' := [(5, vI o1648.2), (0, vR 61), (1, vR 0), (2, vR 36), (3, vR 60), (4, vI x4)]) dL_law_1651 (by decide) rfl ?_
        refine s_aload_n hG dL_law_1653 rfl ?_
        refine s_cvI hG (as := []) (st := []) (rm := rm_X8_ask) dL_law_1654 ml_RL_188 (rfl) (tb24 (mem_i 29 rfl)) rfl ⟨rfl, rfl⟩ ⟨by decide, by decide⟩ (Nat.le_of_ble_eq_true rfl) ⟨by omega, by omega⟩ rfl (fun o h => c_X8_ask l  _ o h) (fun o1654 => ?_)
        refine s_istore hG (lv' := [(6, vI o1654.2), (5, vI o1648.2), (0, vR 61), (1, vR 0), (2, vR 36), (3, vR 60), (4, vI x4)]) dL_law_1657 (by decide) rfl ?_
        refine s_aload_n hG dL_law_1659 rfl ?_
        refine s_cvP hG (as := []) (st := []) (rm := rm_X8_thrown) dL_law_1660 ml_RL_108 (rfl) (tb18 (mem_i 23 rfl)) rfl ⟨rfl, rfl⟩ ⟨by decide, by decide⟩ (Nat.le_of_ble_eq_true rfl) ⟨by omega, by omega⟩ rfl (fun o h => c_X8_thrown l  _ o h) (fun o1660 => ?_)
        refine s_iload hG dL_law_1663 rfl ?_
        refine s_icmp_eq hG (tgt := 1670) dL_law_1665 (by decide) ?_ ?_
        · refine s_iload hG dL_law_1670 rfl ?_
          refine s_if_ne hG (tgt := 1687) dL_law_1672 (by decide) ?_ ?_
          · refine s_lv hG [2, 3, 4, 5, 6] rfl ?_
            exact hb1687 _ _
          · refine s_aload_n hG dL_law_1675 rfl ?_
            refine s_iconst hG (v := (0 : Int32)) dL_law_1676 (by decide) ?_
            refine s_laload hG dL_law_1677 (rfl) ?_
            refine s_iload hG dL_law_1678 rfl ?_
            refine s_i2l hG dL_law_1680 ?_
            refine s_lcmp hG dL_law_1681 ?_
            refine s_if_eq hG (tgt := 1687) dL_law_1682 (by decide) ?_ ?_
            · refine s_lv hG [2, 3, 4, 5, 6] rfl ?_
              exact hb1687 _ _
            · refine s_iconst hG (v := (0 : Int32)) dL_law_1685 (by decide) ?_
              exact s_lret hR (by omega) (by omega) dL_law_1686
        · refine s_iconst hG (v := (0 : Int32)) dL_law_1668 (by decide) ?_
          exact s_lret hR (by omega) (by omega) dL_law_1669
      refine s_tsw1 hG (v := (24 : Int32)) (tgt := 1690) dL_law_40 (by decide) (by decide) rfl (by decide) ?_ (fun n40_24 => ?_)
      · refine s_aload_n hG dL_law_1690 rfl ?_
        refine s_cvI hG (as := []) (st := []) (rm := rm_X7_make) dL_law_1691 ml_RL_189 (rfl) (tb5 (mem_i 6 rfl)) rfl ⟨rfl, rfl⟩ ⟨by decide, by decide⟩ (Nat.le_of_ble_eq_true rfl) ⟨by omega, by omega⟩ rfl (fun o h => c_X7_make l  _ o h) (fun o1691 => ?_)
        refine s_aload_n hG dL_law_1694 rfl ?_
        refine s_cvI hG (as := []) (st := [vI o1691.2]) (rm := rm_X8_make) dL_law_1695 ml_RL_192 (rfl) (tb25 (mem_i 3 rfl)) rfl ⟨rfl, rfl⟩ ⟨by decide, by decide⟩ (Nat.le_of_ble_eq_true rfl) ⟨by omega, by omega⟩ rfl (fun o h => c_X8_make l  _ o h) (fun o1695 => ?_)
        refine s_icmp_eq hG (tgt := 1895) dL_law_1698 (by decide) ?_ ?_
        · refine s_wid hG (k + 1) (n + 6) (by omega) (by omega) ?_
          exact hb1895 _ _
        · refine s_iconst hG (v := (0 : Int32)) dL_law_1701 (by decide) ?_
          exact s_lret hR (by omega) (by omega) dL_law_1702
      refine s_tsw1 hG (v := (25 : Int32)) (tgt := 1703) dL_law_40 (by decide) (by decide) rfl (by decide) ?_ (fun n40_25 => ?_)
      · refine s_aload_n hG dL_law_1703 rfl ?_
        refine s_aload_n hG dL_law_1704 rfl ?_
        refine s_iload hG dL_law_1705 rfl ?_
        refine s_iconst hG (v := (1 : Int32)) dL_law_1707 (by decide) ?_
        refine s_iadd hG dL_law_1708 ?_
        refine s_sld hGL dL_law_1709 ?_
        refine s_aload_n hG dL_law_1710 rfl ?_
        refine s_lw hG (as := [vR 0, vI (xs (x4 + (1 : Int32)).toNatClampNeg), vR 60]) (st := []) (rm := rm_L_length) (hh := hh_L_length) dL_law_1711 ml_RL_193 (tb15 (mem_i 4 rfl)) (exin (mem_i 174 (by decide +kernel))) rfl ⟨rfl, rfl⟩ ⟨by decide, by decide⟩ (Nat.le_of_ble_eq_true rfl) ⟨by omega, by omega⟩ rfl (fun o h => c_L_length l hl9 _ _ o h) (fun o1711 => ?_)
        refine s_istore hG (lv' := [(5, vI o1711.2), (0, vR 61), (1, vR 0), (2, vR 36), (3, vR 60), (4, vI x4)]) dL_law_1714 (by decide) rfl ?_
        refine s_aload_n hG dL_law_1716 rfl ?_
        refine s_aload_n hG dL_law_1717 rfl ?_
        refine s_iload hG dL_law_1718 rfl ?_
        refine s_iconst hG (v := (1 : Int32)) dL_law_1720 (by decide) ?_
        refine s_iadd hG dL_law_1721 ?_
        refine s_sld hGL dL_law_1722 ?_
        refine s_cvI hG (as := [vI (xs (x4 + (1 : Int32)).toNatClampNeg)]) (st := []) (rm := rm_X8_length) dL_law_1723 ml_RL_195 (rfl) (tb25 (mem_i 7 rfl)) rfl ⟨rfl, rfl⟩ ⟨by decide, by decide⟩ (Nat.le_of_ble_eq_true rfl) ⟨by omega, by omega⟩ rfl (fun o h => c_X8_length l _ _ o h) (fun o1723 => ?_)
        refine s_istore hG (lv' := [(6, vI o1723.2), (5, vI o1711.2), (0, vR 61), (1, vR 0), (2, vR 36), (3, vR 60), (4, vI x4)]) dL_law_1726 (by decide) rfl ?_
        refine s_aload_n hG dL_law_1728 rfl ?_
        refine s_cvP hG (as := []) (st := []) (rm := rm_X8_thrown) dL_law_1729 ml_RL_108 (rfl) (tb18 (mem_i 23 rfl)) rfl ⟨rfl, rfl⟩ ⟨by decide, by decide⟩ (Nat.le_of_ble_eq_true rfl) ⟨by omega, by omega⟩ rfl (fun o h => c_X8_thrown l  _ o h) (fun o1729 => ?_)
        refine s_iload hG dL_law_1732 rfl ?_
        refine s_icmp_eq hG (tgt := 1739) dL_law_1734 (by decide) ?_ ?_
        · refine s_iload hG dL_law_1739 rfl ?_
          refine s_if_ne hG (tgt := 1756) dL_law_1741 (by decide) ?_ ?_
          · refine s_lv hG [2, 3, 4, 5, 6] rfl ?_
            exact hb1756 _ _
          · refine s_aload_n hG dL_law_1744 rfl ?_
            refine s_iconst hG (v := (0 : Int32)) dL_law_1745 (by decide) ?_
            refine s_laload hG dL_law_1746 (rfl) ?_
            refine s_iload hG dL_law_1747 rfl ?_
            refine s_i2l hG dL_law_1749 ?_
            refine s_lcmp hG dL_law_1750 ?_
            refine s_if_eq hG (tgt := 1756) dL_law_1751 (by decide) ?_ ?_
            · refine s_lv hG [2, 3, 4, 5, 6] rfl ?_
              exact hb1756 _ _
            · refine s_iconst hG (v := (0 : Int32)) dL_law_1754 (by decide) ?_
              exact s_lret hR (by omega) (by omega) dL_law_1755
        · refine s_iconst hG (v := (0 : Int32)) dL_law_1737 (by decide) ?_
          exact s_lret hR (by omega) (by omega) dL_law_1738
      refine s_tsw1 hG (v := (26 : Int32)) (tgt := 1759) dL_law_40 (by decide) (by decide) rfl (by decide) ?_ (fun n40_26 => ?_)
      · refine s_aload_n hG dL_law_1759 rfl ?_
        refine s_aload_n hG dL_law_1760 rfl ?_
        refine s_iload hG dL_law_1761 rfl ?_
        refine s_iconst hG (v := (1 : Int32)) dL_law_1763 (by decide) ?_
        refine s_iadd hG dL_law_1764 ?_
        refine s_sld hGL dL_law_1765 ?_
        refine s_aload_n hG dL_law_1766 rfl ?_
        refine s_iload hG dL_law_1767 rfl ?_
        refine s_iconst hG (v := (2 : Int32)) dL_law_1769 (by decide) ?_
        refine s_iadd hG dL_law_1770 ?_
        refine s_sld hGL dL_law_1771 ?_
        refine s_aload_n hG dL_law_1772 rfl ?_
        refine s_lw hG (as := [vR 0, vI (xs (x4 + (1 : Int32)).toNatClampNeg), vI (xs (x4 + (2 : Int32)).toNatClampNeg), vR 60]) (st := []) (rm := rm_L_charAt) (hh := hh_L_charAt) dL_law_1773 ml_RL_196 (tb15 (mem_i 15 rfl)) (exin (mem_i 175 (by decide +kernel))) rfl ⟨rfl, rfl⟩ ⟨by decide, by decide⟩ (Nat.le_of_ble_eq_true rfl) ⟨by omega, by omega⟩ rfl (fun o h => c_L_charAt l hl9 _ _ _ o h) (fun o1773 => ?_)
        refine s_istore hG (lv' := [(5, vI o1773.2), (0, vR 61), (1, vR 0), (2, vR 36), (3, vR 60), (4, vI x4)]) dL_law_1776 (by decide) rfl ?_
        refine s_aload_n hG dL_law_1778 rfl ?_
        refine s_aload_n hG dL_law_1779 rfl ?_
        refine s_iload hG dL_law_1780 rfl ?_
        refine s_iconst hG (v := (1 : Int32)) dL_law_1782 (by decide) ?_
        refine s_iadd hG dL_law_1783 ?_
        refine s_sld hGL dL_law_1784 ?_
        refine s_aload_n hG dL_law_1785 rfl ?_
        refine s_iload hG dL_law_1786 rfl ?_
        refine s_iconst hG (v := (2 : Int32)) dL_law_1788 (by decide) ?_
        refine s_iadd hG dL_law_1789 ?_
        refine s_sld hGL dL_law_1790 ?_
        refine s_cvI hG (as := [vI (xs (x4 + (1 : Int32)).toNatClampNeg), vI (xs (x4 + (2 : Int32)).toNatClampNeg)]) (st := []) (rm := rm_X8_charAt) dL_law_1791 ml_RL_198 (rfl) (tb25 (mem_i 28 rfl)) rfl ⟨rfl, rfl⟩ ⟨by decide, by decide⟩ (Nat.le_of_ble_eq_true rfl) ⟨by omega, by omega⟩ rfl (fun o h => c_X8_charAt l _ _ _ o h) (fun o1791 => ?_)
        refine s_istore hG (lv' := [(6, vI o1791.2), (5, vI o1773.2), (0, vR 61), (1, vR 0), (2, vR 36), (3, vR 60), (4, vI x4)]) dL_law_1794 (by decide) rfl ?_
        refine s_aload_n hG dL_law_1796 rfl ?_
        refine s_cvP hG (as := []) (st := []) (rm := rm_X8_thrown) dL_law_1797 ml_RL_108 (rfl) (tb18 (mem_i 23 rfl)) rfl ⟨rfl, rfl⟩ ⟨by decide, by decide⟩ (Nat.le_of_ble_eq_true rfl) ⟨by omega, by omega⟩ rfl (fun o h => c_X8_thrown l  _ o h) (fun o1797 => ?_)
        refine s_iload hG dL_law_1800 rfl ?_
        refine s_icmp_eq hG (tgt := 1807) dL_law_1802 (by decide) ?_ ?_
        · refine s_iload hG dL_law_1807 rfl ?_
          refine s_if_ne hG (tgt := 1824) dL_law_1809 (by decide) ?_ ?_
          · refine s_lv hG [2, 3, 4, 5, 6] rfl ?_
            exact hb1824 _ _
          · refine s_aload_n hG dL_law_1812 rfl ?_
            refine s_iconst hG (v := (0 : Int32)) dL_law_1813 (by decide) ?_
            refine s_laload hG dL_law_1814 (rfl) ?_
            refine s_iload hG dL_law_1815 rfl ?_
            refine s_i2l hG dL_law_1817 ?_
            refine s_lcmp hG dL_law_1818 ?_
            refine s_if_eq hG (tgt := 1824) dL_law_1819 (by decide) ?_ ?_
            · refine s_lv hG [2, 3, 4, 5, 6] rfl ?_
              exact hb1824 _ _
            · refine s_iconst hG (v := (0 : Int32)) dL_law_1822 (by decide) ?_
              exact s_lret hR (by omega) (by omega) dL_law_1823
        · refine s_iconst hG (v := (0 : Int32)) dL_law_1805 (by decide) ?_
          exact s_lret hR (by omega) (by omega) dL_law_1806
      refine s_tsw1 hG (v := (27 : Int32)) (tgt := 1827) dL_law_40 (by decide) (by decide) rfl (by decide) ?_ (fun n40_27 => ?_)
      · refine s_aload_n hG dL_law_1827 rfl ?_
        refine s_aload_n hG dL_law_1828 rfl ?_
        refine s_iload hG dL_law_1829 rfl ?_
        refine s_iconst hG (v := (1 : Int32)) dL_law_1831 (by decide) ?_
        refine s_iadd hG dL_law_1832 ?_
        refine s_sld hGL dL_law_1833 ?_
        refine s_aload_n hG dL_law_1834 rfl ?_
        refine s_iload hG dL_law_1835 rfl ?_
        refine s_iconst hG (v := (2 : Int32)) dL_law_1837 (by decide) ?_
        refine s_iadd hG dL_law_1838 ?_
        refine s_sld hGL dL_law_1839 ?_
        refine s_aload_n hG dL_law_1840 rfl ?_
        refine s_lw hG (as := [vR 0, vI (xs (x4 + (1 : Int32)).toNatClampNeg), vI (xs (x4 + (2 : Int32)).toNatClampNeg), vR 60]) (st := []) (rm := rm_L_charAnew) (hh := hh_L_charAnew) dL_law_1841 ml_RL_199 (tb15 (mem_i 23 rfl)) (exin (mem_i 176 (by decide +kernel))) rfl ⟨rfl, rfl⟩ ⟨by decide, by decide⟩ (Nat.le_of_ble_eq_true rfl) ⟨by omega, by omega⟩ rfl (fun o h => c_L_charAnew l hl9 _ _ _ o h) (fun o1841 => ?_)
        refine s_istore hG (lv' := [(5, vI o1841.2), (0, vR 61), (1, vR 0), (2, vR 36), (3, vR 60), (4, vI x4)]) dL_law_1844 (by decide) rfl ?_
        refine s_aload_n hG dL_law_1846 rfl ?_
        refine s_aload_n hG dL_law_1847 rfl ?_
        refine s_iload hG dL_law_1848 rfl ?_
        refine s_iconst hG (v := (1 : Int32)) dL_law_1850 (by decide) ?_
        refine s_iadd hG dL_law_1851 ?_
        refine s_sld hGL dL_law_1852 ?_
        refine s_aload_n hG dL_law_1853 rfl ?_
        refine s_iload hG dL_law_1854 rfl ?_
        refine s_iconst hG (v := (2 : Int32)) dL_law_1856 (by decide) ?_
        refine s_iadd hG dL_law_1857 ?_
        refine s_sld hGL dL_law_1858 ?_
        refine s_cvI hG (as := [vI (xs (x4 + (1 : Int32)).toNatClampNeg), vI (xs (x4 + (2 : Int32)).toNatClampNeg)]) (st := []) (rm := rm_X8_charAnew) dL_law_1859 ml_RL_201 (rfl) (tb26 (mem_i 5 rfl)) rfl ⟨rfl, rfl⟩ ⟨by decide, by decide⟩ (Nat.le_of_ble_eq_true rfl) ⟨by omega, by omega⟩ rfl (fun o h => c_X8_charAnew l _ _ _ o h) (fun o1859 => ?_)
        refine s_istore hG (lv' := [(6, vI o1859.2), (5, vI o1841.2), (0, vR 61), (1, vR 0), (2, vR 36), (3, vR 60), (4, vI x4)]) dL_law_1862 (by decide) rfl ?_
        refine s_aload_n hG dL_law_1864 rfl ?_
        refine s_cvP hG (as := []) (st := []) (rm := rm_X8_thrown) dL_law_1865 ml_RL_108 (rfl) (tb18 (mem_i 23 rfl)) rfl ⟨rfl, rfl⟩ ⟨by decide, by decide⟩ (Nat.le_of_ble_eq_true rfl) ⟨by omega, by omega⟩ rfl (fun o h => c_X8_thrown l  _ o h) (fun o1865 => ?_)
        refine s_iload hG dL_law_1868 rfl ?_
        refine s_icmp_eq hG (tgt := 1875) dL_law_1870 (by decide) ?_ ?_
        · refine s_iload hG dL_law_1875 rfl ?_
          refine s_if_ne hG (tgt := 1892) dL_law_1877 (by decide) ?_ ?_
          · refine s_lv hG [2, 3, 4, 5, 6] rfl ?_
            exact hb1892 _ _
          · refine s_aload_n hG dL_law_1880 rfl ?_
            refine s_iconst hG (v := (0 : Int32)) dL_law_1881 (by decide) ?_
            refine s_laload hG dL_law_1882 (rfl) ?_
            refine s_iload hG dL_law_1883 rfl ?_
            refine s_i2l hG dL_law_1885 ?_
            refine s_lcmp hG dL_law_1886 ?_
            refine s_if_eq hG (tgt := 1892) dL_law_1887 (by decide) ?_ ?_
            · refine s_lv hG [2, 3, 4, 5, 6] rfl ?_
              exact hb1892 _ _
            · refine s_iconst hG (v := (0 : Int32)) dL_law_1890 (by decide) ?_
              exact s_lret hR (by omega) (by omega) dL_law_1891
        · refine s_iconst hG (v := (0 : Int32)) dL_law_1873 (by decide) ?_
          exact s_lret hR (by omega) (by omega) dL_law_1874
      refine s_tswD hG (tgt := 1895) dL_law_40 (by have h0 := sw_ne n40_0 (z := 0) (by decide); have h1 := sw_ne n40_1 (z := 1) (by decide); have h2 := sw_ne n40_2 (z := 2) (by decide); have h3 := sw_ne n40_3 (z := 3) (by decide); have h4 := sw_ne n40_4 (z := 4) (by decide); have h5 := sw_ne n40_5 (z := 5) (by decide); have h6 := sw_ne n40_6 (z := 6) (by decide); have h7 := sw_ne n40_7 (z := 7) (by decide); have h8 := sw_ne n40_8 (z := 8) (by decide); have h9 := sw_ne n40_9 (z := 9) (by decide); have h10 := sw_ne n40_10 (z := 10) (by decide); have h11 := sw_ne n40_11 (z := 11) (by decide); have h12 := sw_ne n40_12 (z := 12) (by decide); have h13 := sw_ne n40_13 (z := 13) (by decide); have h14 := sw_ne n40_14 (z := 14) (by decide); have h15 := sw_ne n40_15 (z := 15) (by decide); have h16 := sw_ne n40_16 (z := 16) (by decide); have h17 := sw_ne n40_17 (z := 17) (by decide); have h18 := sw_ne n40_18 (z := 18) (by decide); have h19 := sw_ne n40_19 (z := 19) (by decide); have h20 := sw_ne n40_20 (z := 20) (by decide); have h21 := sw_ne n40_21 (z := 21) (by decide); have h22 := sw_ne n40_22 (z := 22) (by decide); have h23 := sw_ne n40_23 (z := 23) (by decide); have h24 := sw_ne n40_24 (z := 24) (by decide); have h25 := sw_ne n40_25 (z := 25) (by decide); have h26 := sw_ne n40_26 (z := 26) (by decide); have h27 := sw_ne n40_27 (z := 27) (by decide); omega) (by decide) ?_
      refine s_wid hG (k + 1) (n + 6) (by omega) (by omega) ?_
      exact hb1895 _ _
