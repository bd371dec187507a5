/-! a board and its loop (by wip/p31/start.py) -/
theorem dL_board_0 : decode cL_board 0 = .ok (.new 11, 3) := by decide +kernel
theorem dL_board_3 : decode cL_board 3 = .ok (.dup, 1) := by decide +kernel
theorem dL_board_4 : decode cL_board 4 = .ok (.invokespecial 135, 3) := by decide +kernel
theorem dL_board_7 : decode cL_board 7 = .ok (.astore_n 2, 1) := by decide +kernel
theorem dL_board_8 : decode cL_board 8 = .ok (.bipush 60, 2) := by decide +kernel
theorem dL_board_10 : decode cL_board 10 = .ok (.newarray .int, 2) := by decide +kernel
theorem dL_board_12 : decode cL_board 12 = .ok (.astore_n 3, 1) := by decide +kernel
theorem dL_board_13 : decode cL_board 13 = .ok (.bipush 12, 2) := by decide +kernel
theorem dL_board_15 : decode cL_board 15 = .ok (.newarray .int, 2) := by decide +kernel
theorem dL_board_17 : decode cL_board 17 = .ok (.astore 4, 2) := by decide +kernel
theorem dL_board_19 : decode cL_board 19 = .ok (.iconst 5, 1) := by decide +kernel
theorem dL_board_20 : decode cL_board 20 = .ok (.newarray .int, 2) := by decide +kernel
theorem dL_board_22 : decode cL_board 22 = .ok (.astore 5, 2) := by decide +kernel
theorem dL_board_24 : decode cL_board 24 = .ok (.iconst 4, 1) := by decide +kernel
theorem dL_board_25 : decode cL_board 25 = .ok (.newarray .int, 2) := by decide +kernel
theorem dL_board_27 : decode cL_board 27 = .ok (.astore 6, 2) := by decide +kernel
theorem dL_board_29 : decode cL_board 29 = .ok (.bipush 40, 2) := by decide +kernel
theorem dL_board_31 : decode cL_board 31 = .ok (.newarray .int, 2) := by decide +kernel
theorem dL_board_33 : decode cL_board 33 = .ok (.astore 7, 2) := by decide +kernel
theorem dL_board_35 : decode cL_board 35 = .ok (.iconst 0, 1) := by decide +kernel
theorem dL_board_36 : decode cL_board 36 = .ok (.istore 8, 2) := by decide +kernel
theorem dL_board_38 : decode cL_board 38 = .ok (.iconst 0, 1) := by decide +kernel
theorem dL_board_39 : decode cL_board 39 = .ok (.istore 9, 2) := by decide +kernel
theorem dL_board_41 : decode cL_board 41 = .ok (.iload 9, 2) := by decide +kernel
theorem dL_board_43 : decode cL_board 43 = .ok (.bipush 66, 2) := by decide +kernel
theorem dL_board_45 : decode cL_board 45 = .ok (.if_icmp .ge 582, 3) := by decide +kernel
theorem dL_board_48 : decode cL_board 48 = .ok (.aload_n 0, 1) := by decide +kernel
theorem dL_board_49 : decode cL_board 49 = .ok (.iload_n 1, 1) := by decide +kernel
theorem dL_board_50 : decode cL_board 50 = .ok (.iconst 3, 1) := by decide +kernel
theorem dL_board_51 : decode cL_board 51 = .ok (.iload 9, 2) := by decide +kernel
theorem dL_board_53 : decode cL_board 53 = .ok (.imul, 1) := by decide +kernel
theorem dL_board_54 : decode cL_board 54 = .ok (.iadd, 1) := by decide +kernel
theorem dL_board_55 : decode cL_board 55 = .ok (.iconst 1, 1) := by decide +kernel
theorem dL_board_56 : decode cL_board 56 = .ok (.iadd, 1) := by decide +kernel
theorem dL_board_57 : decode cL_board 57 = .ok (.ldc 136, 2) := by decide +kernel
theorem dL_board_59 : decode cL_board 59 = .ok (.invokestatic 137, 3) := by decide +kernel
theorem dL_board_62 : decode cL_board 62 = .ok (.istore 10, 2) := by decide +kernel
theorem dL_board_64 : decode cL_board 64 = .ok (.aload_n 0, 1) := by decide +kernel
theorem dL_board_65 : decode cL_board 65 = .ok (.iload_n 1, 1) := by decide +kernel
theorem dL_board_66 : decode cL_board 66 = .ok (.iconst 3, 1) := by decide +kernel
theorem dL_board_67 : decode cL_board 67 = .ok (.iload 9, 2) := by decide +kernel
theorem dL_board_69 : decode cL_board 69 = .ok (.imul, 1) := by decide +kernel
theorem dL_board_70 : decode cL_board 70 = .ok (.iadd, 1) := by decide +kernel
theorem dL_board_71 : decode cL_board 71 = .ok (.iconst 2, 1) := by decide +kernel
theorem dL_board_72 : decode cL_board 72 = .ok (.iadd, 1) := by decide +kernel
theorem dL_board_73 : decode cL_board 73 = .ok (.ldc 136, 2) := by decide +kernel
theorem dL_board_75 : decode cL_board 75 = .ok (.invokestatic 137, 3) := by decide +kernel
theorem dL_board_78 : decode cL_board 78 = .ok (.istore 11, 2) := by decide +kernel
theorem dL_board_80 : decode cL_board 80 = .ok (.iload 9, 2) := by decide +kernel
theorem dL_board_82 : decode cL_board 82 = .ok (.iconst 2, 1) := by decide +kernel
theorem dL_board_83 : decode cL_board 83 = .ok (.if_icmp .ge 7, 3) := by decide +kernel
theorem dL_board_86 : decode cL_board 86 = .ok (.iconst 0, 1) := by decide +kernel
theorem dL_board_87 : decode cL_board 87 = .ok (.goto 38, 3) := by decide +kernel
theorem dL_board_90 : decode cL_board 90 = .ok (.iload 9, 2) := by decide +kernel
theorem dL_board_92 : decode cL_board 92 = .ok (.bipush 7, 2) := by decide +kernel
theorem dL_board_94 : decode cL_board 94 = .ok (.if_icmp .ge 7, 3) := by decide +kernel
theorem dL_board_97 : decode cL_board 97 = .ok (.iconst 2, 1) := by decide +kernel
theorem dL_board_98 : decode cL_board 98 = .ok (.goto 27, 3) := by decide +kernel
theorem dL_board_101 : decode cL_board 101 = .ok (.iload 9, 2) := by decide +kernel
theorem dL_board_103 : decode cL_board 103 = .ok (.bipush 9, 2) := by decide +kernel
theorem dL_board_105 : decode cL_board 105 = .ok (.if_icmp .ge 8, 3) := by decide +kernel
theorem dL_board_108 : decode cL_board 108 = .ok (.bipush 9, 2) := by decide +kernel
theorem dL_board_110 : decode cL_board 110 = .ok (.goto 15, 3) := by decide +kernel
theorem dL_board_113 : decode cL_board 113 = .ok (.aload_n 0, 1) := by decide +kernel
theorem dL_board_114 : decode cL_board 114 = .ok (.iload_n 1, 1) := by decide +kernel
theorem dL_board_115 : decode cL_board 115 = .ok (.iconst 3, 1) := by decide +kernel
theorem dL_board_116 : decode cL_board 116 = .ok (.iload 9, 2) := by decide +kernel
theorem dL_board_118 : decode cL_board 118 = .ok (.imul, 1) := by decide +kernel
theorem dL_board_119 : decode cL_board 119 = .ok (.iadd, 1) := by decide +kernel
theorem dL_board_120 : decode cL_board 120 = .ok (.bipush 24, 2) := by decide +kernel
theorem dL_board_122 : decode cL_board 122 = .ok (.invokestatic 137, 3) := by decide +kernel
theorem dL_board_125 : decode cL_board 125 = .ok (.istore 12, 2) := by decide +kernel
theorem dL_board_127 : decode cL_board 127 = .ok (.iload 10, 2) := by decide +kernel
theorem dL_board_129 : decode cL_board 129 = .ok (.bipush 7, 2) := by decide +kernel
theorem dL_board_131 : decode cL_board 131 = .ok (.idiv, 1) := by decide +kernel
theorem dL_board_132 : decode cL_board 132 = .ok (.iconst 3, 1) := by decide +kernel
theorem dL_board_133 : decode cL_board 133 = .ok (.irem, 1) := by decide +kernel
theorem dL_board_134 : decode cL_board 134 = .ok (.istore 13, 2) := by decide +kernel
theorem dL_board_136 : decode cL_board 136 = .ok (.iload 12, 2) := by decide +kernel
theorem dL_board_138 : decode cL_board 138 = .ok (.iconst 2, 1) := by decide +kernel
theorem dL_board_139 : decode cL_board 139 = .ok (.if_icmp .ge 127, 3) := by decide +kernel
theorem dL_board_142 : decode cL_board 142 = .ok (.iload 12, 2) := by decide +kernel
theorem dL_board_144 : decode cL_board 144 = .ok (.ifCond .ne 21, 3) := by decide +kernel
theorem dL_board_147 : decode cL_board 147 = .ok (.aload_n 2, 1) := by decide +kernel
theorem dL_board_148 : decode cL_board 148 = .ok (.bipush 8, 2) := by decide +kernel
theorem dL_board_150 : decode cL_board 150 = .ok (.iload 11, 2) := by decide +kernel
theorem dL_board_152 : decode cL_board 152 = .ok (.bipush 27, 2) := by decide +kernel
theorem dL_board_154 : decode cL_board 154 = .ok (.irem, 1) := by decide +kernel
theorem dL_board_155 : decode cL_board 155 = .ok (.iconst 0, 1) := by decide +kernel
theorem dL_board_156 : decode cL_board 156 = .ok (.iconst 0, 1) := by decide +kernel
theorem dL_board_157 : decode cL_board 157 = .ok (.iconst 0, 1) := by decide +kernel
theorem dL_board_158 : decode cL_board 158 = .ok (.iconst 0, 1) := by decide +kernel
theorem dL_board_159 : decode cL_board 159 = .ok (.invokestatic 68, 3) := by decide +kernel
theorem dL_board_162 : decode cL_board 162 = .ok (.goto 7, 3) := by decide +kernel
theorem dL_board_165 : decode cL_board 165 = .ok (.aload_n 2, 1) := by decide +kernel
theorem dL_board_166 : decode cL_board 166 = .ok (.invokevirtual 141, 3) := by decide +kernel
theorem dL_board_169 : decode cL_board 169 = .ok (.istore 15, 2) := by decide +kernel
theorem dL_board_171 : decode cL_board 171 = .ok (.iload 12, 2) := by decide +kernel
theorem dL_board_173 : decode cL_board 173 = .ok (.ifCond .ne 51, 3) := by decide +kernel
theorem dL_board_176 : decode cL_board 176 = .ok (.iload 8, 2) := by decide +kernel
theorem dL_board_178 : decode cL_board 178 = .ok (.iconst 5, 1) := by decide +kernel
theorem dL_board_179 : decode cL_board 179 = .ok (.if_icmp .ne 19, 3) := by decide +kernel
theorem dL_board_182 : decode cL_board 182 = .ok (.iload 15, 2) := by decide +kernel
theorem dL_board_184 : decode cL_board 184 = .ok (.sipush (-5008), 3) := by decide +kernel
theorem dL_board_187 : decode cL_board 187 = .ok (.if_icmp .ne 7, 3) := by decide +kernel
theorem dL_board_190 : decode cL_board 190 = .ok (.iconst 1, 1) := by decide +kernel
theorem dL_board_191 : decode cL_board 191 = .ok (.goto 45, 3) := by decide +kernel
theorem dL_board_194 : decode cL_board 194 = .ok (.iconst 0, 1) := by decide +kernel
theorem dL_board_195 : decode cL_board 195 = .ok (.goto 41, 3) := by decide +kernel
theorem dL_board_198 : decode cL_board 198 = .ok (.iload 15, 2) := by decide +kernel
theorem dL_board_200 : decode cL_board 200 = .ok (.iload 8, 2) := by decide +kernel
theorem dL_board_202 : decode cL_board 202 = .ok (.if_icmp .le 18, 3) := by decide +kernel
theorem dL_board_205 : decode cL_board 205 = .ok (.iload 15, 2) := by decide +kernel
theorem dL_board_207 : decode cL_board 207 = .ok (.iconst 2, 1) := by decide +kernel
theorem dL_board_208 : decode cL_board 208 = .ok (.iload 8, 2) := by decide +kernel
theorem dL_board_210 : decode cL_board 210 = .ok (.imul, 1) := by decide +kernel
theorem dL_board_211 : decode cL_board 211 = .ok (.iconst 2, 1) := by decide +kernel
theorem dL_board_212 : decode cL_board 212 = .ok (.iadd, 1) := by decide +kernel
theorem dL_board_213 : decode cL_board 213 = .ok (.if_icmp .gt 7, 3) := by decide +kernel
theorem dL_board_216 : decode cL_board 216 = .ok (.iconst 1, 1) := by decide +kernel
theorem dL_board_217 : decode cL_board 217 = .ok (.goto 19, 3) := by decide +kernel
theorem dL_board_220 : decode cL_board 220 = .ok (.iconst 0, 1) := by decide +kernel
theorem dL_board_221 : decode cL_board 221 = .ok (.goto 15, 3) := by decide +kernel
theorem dL_board_224 : decode cL_board 224 = .ok (.iload 15, 2) := by decide +kernel
theorem dL_board_226 : decode cL_board 226 = .ok (.iload 8, 2) := by decide +kernel
theorem dL_board_228 : decode cL_board 228 = .ok (.if_icmp .ne 7, 3) := by decide +kernel
theorem dL_board_231 : decode cL_board 231 = .ok (.iconst 1, 1) := by decide +kernel
theorem dL_board_232 : decode cL_board 232 = .ok (.goto 4, 3) := by decide +kernel
theorem dL_board_235 : decode cL_board 235 = .ok (.iconst 0, 1) := by decide +kernel
theorem dL_board_236 : decode cL_board 236 = .ok (.istore 14, 2) := by decide +kernel
theorem dL_board_238 : decode cL_board 238 = .ok (.iload 12, 2) := by decide +kernel
theorem dL_board_240 : decode cL_board 240 = .ok (.ifCond .ne 20, 3) := by decide +kernel
theorem dL_board_243 : decode cL_board 243 = .ok (.iload 8, 2) := by decide +kernel
theorem dL_board_245 : decode cL_board 245 = .ok (.iload 8, 2) := by decide +kernel
theorem dL_board_247 : decode cL_board 247 = .ok (.iconst 5, 1) := by decide +kernel
theorem dL_board_248 : decode cL_board 248 = .ok (.if_icmp .ge 7, 3) := by decide +kernel
theorem dL_board_251 : decode cL_board 251 = .ok (.iconst 1, 1) := by decide +kernel
theorem dL_board_252 : decode cL_board 252 = .ok (.goto 4, 3) := by decide +kernel
theorem dL_board_255 : decode cL_board 255 = .ok (.iconst 0, 1) := by decide +kernel
theorem dL_board_256 : decode cL_board 256 = .ok (.iadd, 1) := by decide +kernel
theorem dL_board_257 : decode cL_board 257 = .ok (.goto 4, 3) := by decide +kernel
theorem dL_board_260 : decode cL_board 260 = .ok (.iconst 0, 1) := by decide +kernel
theorem dL_board_261 : decode cL_board 261 = .ok (.istore 8, 2) := by decide +kernel
theorem dL_board_263 : decode cL_board 263 = .ok (.goto 319, 3) := by decide +kernel
theorem dL_board_266 : decode cL_board 266 = .ok (.iload 12, 2) := by decide +kernel
theorem dL_board_268 : decode cL_board 268 = .ok (.iconst 5, 1) := by decide +kernel
theorem dL_board_269 : decode cL_board 269 = .ok (.if_icmp .ge 25, 3) := by decide +kernel
theorem dL_board_272 : decode cL_board 272 = .ok (.aload_n 2, 1) := by decide +kernel
theorem dL_board_273 : decode cL_board 273 = .ok (.iload 13, 2) := by decide +kernel
theorem dL_board_275 : decode cL_board 275 = .ok (.iload 10, 2) := by decide +kernel
theorem dL_board_277 : decode cL_board 277 = .ok (.iload 11, 2) := by decide +kernel
theorem dL_board_279 : decode cL_board 279 = .ok (.aload_n 3, 1) := by decide +kernel
theorem dL_board_280 : decode cL_board 280 = .ok (.aload 5, 2) := by decide +kernel
theorem dL_board_282 : decode cL_board 282 = .ok (.aload 6, 2) := by decide +kernel
theorem dL_board_284 : decode cL_board 284 = .ok (.iload 8, 2) := by decide +kernel
theorem dL_board_286 : decode cL_board 286 = .ok (.invokestatic 144, 3) := by decide +kernel
theorem dL_board_289 : decode cL_board 289 = .ok (.istore 14, 2) := by decide +kernel
theorem dL_board_291 : decode cL_board 291 = .ok (.goto 291, 3) := by decide +kernel
theorem dL_board_294 : decode cL_board 294 = .ok (.iload 12, 2) := by decide +kernel
theorem dL_board_296 : decode cL_board 296 = .ok (.bipush 17, 2) := by decide +kernel
theorem dL_board_298 : decode cL_board 298 = .ok (.if_icmp .ge 72, 3) := by decide +kernel
theorem dL_board_301 : decode cL_board 301 = .ok (.aload_n 2, 1) := by decide +kernel
theorem dL_board_302 : decode cL_board 302 = .ok (.iload 12, 2) := by decide +kernel
theorem dL_board_304 : decode cL_board 304 = .ok (.bipush 8, 2) := by decide +kernel
theorem dL_board_306 : decode cL_board 306 = .ok (.if_icmp .ge 7, 3) := by decide +kernel
theorem dL_board_309 : decode cL_board 309 = .ok (.iconst 2, 1) := by decide +kernel
theorem dL_board_310 : decode cL_board 310 = .ok (.goto 37, 3) := by decide +kernel
theorem dL_board_313 : decode cL_board 313 = .ok (.iload 12, 2) := by decide +kernel
theorem dL_board_315 : decode cL_board 315 = .ok (.bipush 9, 2) := by decide +kernel
theorem dL_board_317 : decode cL_board 317 = .ok (.if_icmp .ge 7, 3) := by decide +kernel
theorem dL_board_320 : decode cL_board 320 = .ok (.iconst 3, 1) := by decide +kernel
theorem dL_board_321 : decode cL_board 321 = .ok (.goto 26, 3) := by decide +kernel
theorem dL_board_324 : decode cL_board 324 = .ok (.iload 12, 2) := by decide +kernel
theorem dL_board_326 : decode cL_board 326 = .ok (.bipush 15, 2) := by decide +kernel
theorem dL_board_328 : decode cL_board 328 = .ok (.if_icmp .ge 7, 3) := by decide +kernel
theorem dL_board_331 : decode cL_board 331 = .ok (.iconst 4, 1) := by decide +kernel
theorem dL_board_332 : decode cL_board 332 = .ok (.goto 15, 3) := by decide +kernel
theorem dL_board_335 : decode cL_board 335 = .ok (.iload 12, 2) := by decide +kernel
theorem dL_board_337 : decode cL_board 337 = .ok (.bipush 15, 2) := by decide +kernel
theorem dL_board_339 : decode cL_board 339 = .ok (.if_icmp .ne 7, 3) := by decide +kernel
theorem dL_board_342 : decode cL_board 342 = .ok (.iconst 3, 1) := by decide +kernel
theorem dL_board_343 : decode cL_board 343 = .ok (.goto 4, 3) := by decide +kernel
theorem dL_board_346 : decode cL_board 346 = .ok (.iconst 5, 1) := by decide +kernel
theorem dL_board_347 : decode cL_board 347 = .ok (.iload 13, 2) := by decide +kernel
theorem dL_board_349 : decode cL_board 349 = .ok (.iload 10, 2) := by decide +kernel
theorem dL_board_351 : decode cL_board 351 = .ok (.iload 11, 2) := by decide +kernel
theorem dL_board_353 : decode cL_board 353 = .ok (.aload_n 3, 1) := by decide +kernel
theorem dL_board_354 : decode cL_board 354 = .ok (.aload 4, 2) := by decide +kernel
theorem dL_board_356 : decode cL_board 356 = .ok (.aload 5, 2) := by decide +kernel
theorem dL_board_358 : decode cL_board 358 = .ok (.aload 6, 2) := by decide +kernel
theorem dL_board_360 : decode cL_board 360 = .ok (.aload 7, 2) := by decide +kernel
theorem dL_board_362 : decode cL_board 362 = .ok (.invokestatic 148, 3) := by decide +kernel
theorem dL_board_365 : decode cL_board 365 = .ok (.istore 14, 2) := by decide +kernel
theorem dL_board_367 : decode cL_board 367 = .ok (.goto 215, 3) := by decide +kernel
theorem dL_board_370 : decode cL_board 370 = .ok (.iload 12, 2) := by decide +kernel
theorem dL_board_372 : decode cL_board 372 = .ok (.bipush 22, 2) := by decide +kernel
theorem dL_board_374 : decode cL_board 374 = .ok (.if_icmp .ge 25, 3) := by decide +kernel
theorem dL_board_377 : decode cL_board 377 = .ok (.aload_n 2, 1) := by decide +kernel
theorem dL_board_378 : decode cL_board 378 = .ok (.iload 13, 2) := by decide +kernel
theorem dL_board_380 : decode cL_board 380 = .ok (.iload 10, 2) := by decide +kernel
theorem dL_board_382 : decode cL_board 382 = .ok (.iload 11, 2) := by decide +kernel
theorem dL_board_384 : decode cL_board 384 = .ok (.aload_n 3, 1) := by decide +kernel
theorem dL_board_385 : decode cL_board 385 = .ok (.aload 5, 2) := by decide +kernel
theorem dL_board_387 : decode cL_board 387 = .ok (.aload 6, 2) := by decide +kernel
theorem dL_board_389 : decode cL_board 389 = .ok (.aload 7, 2) := by decide +kernel
theorem dL_board_391 : decode cL_board 391 = .ok (.invokestatic 151, 3) := by decide +kernel
theorem dL_board_394 : decode cL_board 394 = .ok (.istore 14, 2) := by decide +kernel
theorem dL_board_396 : decode cL_board 396 = .ok (.goto 186, 3) := by decide +kernel
theorem dL_board_399 : decode cL_board 399 = .ok (.aload 5, 2) := by decide +kernel
theorem dL_board_401 : decode cL_board 401 = .ok (.iconst 3, 1) := by decide +kernel
theorem dL_board_402 : decode cL_board 402 = .ok (.iaload, 1) := by decide +kernel
theorem dL_board_403 : decode cL_board 403 = .ok (.bipush 10, 2) := by decide +kernel
theorem dL_board_405 : decode cL_board 405 = .ok (.if_icmp .ge 113, 3) := by decide +kernel
theorem dL_board_408 : decode cL_board 408 = .ok (.aload_n 2, 1) := by decide +kernel
theorem dL_board_409 : decode cL_board 409 = .ok (.invokevirtual 155, 3) := by decide +kernel
theorem dL_board_412 : decode cL_board 412 = .ok (.aload 5, 2) := by decide +kernel
theorem dL_board_414 : decode cL_board 414 = .ok (.iconst 3, 1) := by decide +kernel
theorem dL_board_415 : decode cL_board 415 = .ok (.iaload, 1) := by decide +kernel
theorem dL_board_416 : decode cL_board 416 = .ok (.if_icmp .ne 7, 3) := by decide +kernel
theorem dL_board_419 : decode cL_board 419 = .ok (.iconst 1, 1) := by decide +kernel
theorem dL_board_420 : decode cL_board 420 = .ok (.goto 4, 3) := by decide +kernel
theorem dL_board_423 : decode cL_board 423 = .ok (.iconst 0, 1) := by decide +kernel
theorem dL_board_424 : decode cL_board 424 = .ok (.istore 14, 2) := by decide +kernel
theorem dL_board_426 : decode cL_board 426 = .ok (.aload 5, 2) := by decide +kernel
theorem dL_board_428 : decode cL_board 428 = .ok (.iconst 3, 1) := by decide +kernel
theorem dL_board_429 : decode cL_board 429 = .ok (.dup2, 1) := by decide +kernel
theorem dL_board_430 : decode cL_board 430 = .ok (.iaload, 1) := by decide +kernel
theorem dL_board_431 : decode cL_board 431 = .ok (.iconst 1, 1) := by decide +kernel
theorem dL_board_432 : decode cL_board 432 = .ok (.iadd, 1) := by decide +kernel
theorem dL_board_433 : decode cL_board 433 = .ok (.iastore, 1) := by decide +kernel
theorem dL_board_434 : decode cL_board 434 = .ok (.iload 14, 2) := by decide +kernel
theorem dL_board_436 : decode cL_board 436 = .ok (.ifCond .eq 146, 3) := by decide +kernel
theorem dL_board_439 : decode cL_board 439 = .ok (.aload 5, 2) := by decide +kernel
theorem dL_board_441 : decode cL_board 441 = .ok (.iconst 4, 1) := by decide +kernel
theorem dL_board_442 : decode cL_board 442 = .ok (.iaload, 1) := by decide +kernel
theorem dL_board_443 : decode cL_board 443 = .ok (.aload 5, 2) := by decide +kernel
theorem dL_board_445 : decode cL_board 445 = .ok (.iconst 3, 1) := by decide +kernel
theorem dL_board_446 : decode cL_board 446 = .ok (.iaload, 1) := by decide +kernel
theorem dL_board_447 : decode cL_board 447 = .ok (.iload 11, 2) := by decide +kernel
theorem dL_board_449 : decode cL_board 449 = .ok (.iconst 3, 1) := by decide +kernel
theorem dL_board_450 : decode cL_board 450 = .ok (.irem, 1) := by decide +kernel
theorem dL_board_451 : decode cL_board 451 = .ok (.ifCond .ne 7, 3) := by decide +kernel
theorem dL_board_454 : decode cL_board 454 = .ok (.iconst 1, 1) := by decide +kernel
theorem dL_board_455 : decode cL_board 455 = .ok (.goto 4, 3) := by decide +kernel
theorem dL_board_458 : decode cL_board 458 = .ok (.iconst 0, 1) := by decide +kernel
theorem dL_board_459 : decode cL_board 459 = .ok (.isub, 1) := by decide +kernel
theorem dL_board_460 : decode cL_board 460 = .ok (.if_icmp .ge 122, 3) := by decide +kernel
theorem dL_board_463 : decode cL_board 463 = .ok (.aload_n 2, 1) := by decide +kernel
theorem dL_board_464 : decode cL_board 464 = .ok (.invokevirtual 158, 3) := by decide +kernel
theorem dL_board_467 : decode cL_board 467 = .ok (.aload 5, 2) := by decide +kernel
theorem dL_board_469 : decode cL_board 469 = .ok (.iconst 4, 1) := by decide +kernel
theorem dL_board_470 : decode cL_board 470 = .ok (.iaload, 1) := by decide +kernel
theorem dL_board_471 : decode cL_board 471 = .ok (.if_icmp .ne 33, 3) := by decide +kernel
theorem dL_board_474 : decode cL_board 474 = .ok (.aload 5, 2) := by decide +kernel
theorem dL_board_476 : decode cL_board 476 = .ok (.iconst 4, 1) := by decide +kernel
theorem dL_board_477 : decode cL_board 477 = .ok (.iaload, 1) := by decide +kernel
theorem dL_board_478 : decode cL_board 478 = .ok (.aload 5, 2) := by decide +kernel
theorem dL_board_480 : decode cL_board 480 = .ok (.iconst 3, 1) := by decide +kernel
theorem dL_board_481 : decode cL_board 481 = .ok (.iaload, 1) := by decide +kernel
theorem dL_board_482 : decode cL_board 482 = .ok (.iconst 1, 1) := by decide +kernel
theorem dL_board_483 : decode cL_board 483 = .ok (.isub, 1) := by decide +kernel
theorem dL_board_484 : decode cL_board 484 = .ok (.if_icmp .lt 16, 3) := by decide +kernel
theorem dL_board_487 : decode cL_board 487 = .ok (.aload_n 2, 1) := by decide +kernel
theorem dL_board_488 : decode cL_board 488 = .ok (.aload 5, 2) := by decide +kernel
theorem dL_board_490 : decode cL_board 490 = .ok (.iconst 4, 1) := by decide +kernel
theorem dL_board_491 : decode cL_board 491 = .ok (.iaload, 1) := by decide +kernel
theorem dL_board_492 : decode cL_board 492 = .ok (.aload 5, 2) := by decide +kernel
theorem dL_board_494 : decode cL_board 494 = .ok (.invokestatic 161, 3) := by decide +kernel
theorem dL_board_497 : decode cL_board 497 = .ok (.ifCond .eq 7, 3) := by decide +kernel
theorem dL_board_500 : decode cL_board 500 = .ok (.iconst 1, 1) := by decide +kernel
theorem dL_board_501 : decode cL_board 501 = .ok (.goto 4, 3) := by decide +kernel
theorem dL_board_504 : decode cL_board 504 = .ok (.iconst 0, 1) := by decide +kernel
theorem dL_board_505 : decode cL_board 505 = .ok (.istore 14, 2) := by decide +kernel
theorem dL_board_507 : decode cL_board 507 = .ok (.aload 5, 2) := by decide +kernel
theorem dL_board_509 : decode cL_board 509 = .ok (.iconst 4, 1) := by decide +kernel
theorem dL_board_510 : decode cL_board 510 = .ok (.dup2, 1) := by decide +kernel
theorem dL_board_511 : decode cL_board 511 = .ok (.iaload, 1) := by decide +kernel
theorem dL_board_512 : decode cL_board 512 = .ok (.iconst 1, 1) := by decide +kernel
theorem dL_board_513 : decode cL_board 513 = .ok (.iadd, 1) := by decide +kernel
theorem dL_board_514 : decode cL_board 514 = .ok (.iastore, 1) := by decide +kernel
theorem dL_board_515 : decode cL_board 515 = .ok (.goto (-81), 3) := by decide +kernel
theorem dL_board_518 : decode cL_board 518 = .ok (.aload 5, 2) := by decide +kernel
theorem dL_board_520 : decode cL_board 520 = .ok (.iconst 4, 1) := by decide +kernel
theorem dL_board_521 : decode cL_board 521 = .ok (.iaload, 1) := by decide +kernel
theorem dL_board_522 : decode cL_board 522 = .ok (.bipush 10, 2) := by decide +kernel
theorem dL_board_524 : decode cL_board 524 = .ok (.if_icmp .ge 22, 3) := by decide +kernel
theorem dL_board_527 : decode cL_board 527 = .ok (.aload_n 2, 1) := by decide +kernel
theorem dL_board_528 : decode cL_board 528 = .ok (.invokevirtual 158, 3) := by decide +kernel
theorem dL_board_531 : decode cL_board 531 = .ok (.aload 5, 2) := by decide +kernel
theorem dL_board_533 : decode cL_board 533 = .ok (.iconst 4, 1) := by decide +kernel
theorem dL_board_534 : decode cL_board 534 = .ok (.iaload, 1) := by decide +kernel
theorem dL_board_535 : decode cL_board 535 = .ok (.if_icmp .ne 7, 3) := by decide +kernel
theorem dL_board_538 : decode cL_board 538 = .ok (.iconst 1, 1) := by decide +kernel
theorem dL_board_539 : decode cL_board 539 = .ok (.goto 20, 3) := by decide +kernel
theorem dL_board_542 : decode cL_board 542 = .ok (.iconst 0, 1) := by decide +kernel
theorem dL_board_543 : decode cL_board 543 = .ok (.goto 16, 3) := by decide +kernel
theorem dL_board_546 : decode cL_board 546 = .ok (.aload_n 2, 1) := by decide +kernel
theorem dL_board_547 : decode cL_board 547 = .ok (.invokevirtual 158, 3) := by decide +kernel
theorem dL_board_550 : decode cL_board 550 = .ok (.iconst (-1), 1) := by decide +kernel
theorem dL_board_551 : decode cL_board 551 = .ok (.if_icmp .ne 7, 3) := by decide +kernel
theorem dL_board_554 : decode cL_board 554 = .ok (.iconst 1, 1) := by decide +kernel
theorem dL_board_555 : decode cL_board 555 = .ok (.goto 4, 3) := by decide +kernel
theorem dL_board_558 : decode cL_board 558 = .ok (.iconst 0, 1) := by decide +kernel
theorem dL_board_559 : decode cL_board 559 = .ok (.istore 14, 2) := by decide +kernel
theorem dL_board_561 : decode cL_board 561 = .ok (.aload 5, 2) := by decide +kernel
theorem dL_board_563 : decode cL_board 563 = .ok (.iconst 4, 1) := by decide +kernel
theorem dL_board_564 : decode cL_board 564 = .ok (.dup2, 1) := by decide +kernel
theorem dL_board_565 : decode cL_board 565 = .ok (.iaload, 1) := by decide +kernel
theorem dL_board_566 : decode cL_board 566 = .ok (.aload 5, 2) := by decide +kernel
theorem dL_board_568 : decode cL_board 568 = .ok (.iconst 4, 1) := by decide +kernel
theorem dL_board_569 : decode cL_board 569 = .ok (.iaload, 1) := by decide +kernel
theorem dL_board_570 : decode cL_board 570 = .ok (.bipush 10, 2) := by decide +kernel
theorem dL_board_572 : decode cL_board 572 = .ok (.if_icmp .ge 7, 3) := by decide +kernel
theorem dL_board_575 : decode cL_board 575 = .ok (.iconst 1, 1) := by decide +kernel
theorem dL_board_576 : decode cL_board 576 = .ok (.goto 4, 3) := by decide +kernel
theorem dL_board_579 : decode cL_board 579 = .ok (.iconst 0, 1) := by decide +kernel
theorem dL_board_580 : decode cL_board 580 = .ok (.iadd, 1) := by decide +kernel
theorem dL_board_581 : decode cL_board 581 = .ok (.iastore, 1) := by decide +kernel
theorem dL_board_582 : decode cL_board 582 = .ok (.iload 14, 2) := by decide +kernel
theorem dL_board_584 : decode cL_board 584 = .ok (.ifCond .eq 35, 3) := by decide +kernel
theorem dL_board_587 : decode cL_board 587 = .ok (.aload_n 2, 1) := by decide +kernel
theorem dL_board_588 : decode cL_board 588 = .ok (.aload_n 3, 1) := by decide +kernel
theorem dL_board_589 : decode cL_board 589 = .ok (.aload 5, 2) := by decide +kernel
theorem dL_board_591 : decode cL_board 591 = .ok (.aload 6, 2) := by decide +kernel
theorem dL_board_593 : decode cL_board 593 = .ok (.invokestatic 165, 3) := by decide +kernel
theorem dL_board_596 : decode cL_board 596 = .ok (.ifCond .eq 23, 3) := by decide +kernel
theorem dL_board_599 : decode cL_board 599 = .ok (.iload 9, 2) := by decide +kernel
theorem dL_board_601 : decode cL_board 601 = .ok (.iconst 3, 1) := by decide +kernel
theorem dL_board_602 : decode cL_board 602 = .ok (.irem, 1) := by decide +kernel
theorem dL_board_603 : decode cL_board 603 = .ok (.iconst 2, 1) := by decide +kernel
theorem dL_board_604 : decode cL_board 604 = .ok (.if_icmp .ne 17, 3) := by decide +kernel
theorem dL_board_607 : decode cL_board 607 = .ok (.aload_n 2, 1) := by decide +kernel
theorem dL_board_608 : decode cL_board 608 = .ok (.aload_n 3, 1) := by decide +kernel
theorem dL_board_609 : decode cL_board 609 = .ok (.aload 4, 2) := by decide +kernel
theorem dL_board_611 : decode cL_board 611 = .ok (.aload 5, 2) := by decide +kernel
theorem dL_board_613 : decode cL_board 613 = .ok (.invokestatic 169, 3) := by decide +kernel
theorem dL_board_616 : decode cL_board 616 = .ok (.ifCond .ne 5, 3) := by decide +kernel
theorem dL_board_619 : decode cL_board 619 = .ok (.iconst 0, 1) := by decide +kernel
theorem dL_board_620 : decode cL_board 620 = .ok (.ireturn, 1) := by decide +kernel
theorem dL_board_621 : decode cL_board 621 = .ok (.iinc 9 1, 3) := by decide +kernel
theorem dL_board_624 : decode cL_board 624 = .ok (.goto (-583), 3) := by decide +kernel
theorem dL_board_627 : decode cL_board 627 = .ok (.aload_n 2, 1) := by decide +kernel
theorem dL_board_628 : decode cL_board 628 = .ok (.aload_n 3, 1) := by decide +kernel
theorem dL_board_629 : decode cL_board 629 = .ok (.aload 4, 2) := by decide +kernel
theorem dL_board_631 : decode cL_board 631 = .ok (.aload 5, 2) := by decide +kernel
theorem dL_board_633 : decode cL_board 633 = .ok (.invokestatic 169, 3) := by decide +kernel
theorem dL_board_636 : decode cL_board 636 = .ok (.ireturn, 1) := by decide +kernel
theorem ml_RL_165 : MS RL 165 yL_areTrees 4 := ⟨⟨by decide +kernel, by decide +kernel, by decide +kernel⟩, tb15 (mem_i 2 rfl), tb0 (mem_i 0 rfl), Or.inl (tb15 (mem_i 1 rfl))⟩
theorem ml_RL_169 : MS RL 169 yL_isBoard 4 := ⟨⟨by decide +kernel, by decide +kernel, by decide +kernel⟩, tb15 (mem_i 23 rfl), tb0 (mem_i 0 rfl), Or.inl (tb15 (mem_i 22 rfl))⟩
theorem ml_RL_158 : MV RL 158 7 yX7_make 0 := ⟨⟨by decide +kernel, by decide +kernel, by decide +kernel⟩, tb14 (mem_i 12 rfl), tb0 (mem_i 1 rfl), Or.inl (tb14 (mem_i 11 rfl)), RX7, TX7, 9, rfl, rfl, tb14 (mem_i 13 rfl)⟩
theorem ml_RL_161 : MS RL 161 yL_isExport 3 := ⟨⟨by decide +kernel, by decide +kernel, by decide +kernel⟩, tb14 (mem_i 16 rfl), tb0 (mem_i 0 rfl), Or.inl (tb14 (mem_i 15 rfl))⟩
theorem ml_RL_148 : MS RL 148 yL_acts 10 := ⟨⟨by decide +kernel, by decide +kernel, by decide +kernel⟩, tb12 (mem_i 3 rfl), tb0 (mem_i 0 rfl), Or.inl (tb12 (mem_i 2 rfl))⟩
theorem ml_RL_155 : MV RL 155 7 yX7_ask 0 := ⟨⟨by decide +kernel, by decide +kernel, by decide +kernel⟩, tb13 (mem_i 12 rfl), tb0 (mem_i 1 rfl), Or.inl (tb13 (mem_i 11 rfl)), RX7, TX7, 9, rfl, rfl, tb13 (mem_i 13 rfl)⟩
theorem ml_RL_151 : MS RL 151 yL_goes 8 := ⟨⟨by decide +kernel, by decide +kernel, by decide +kernel⟩, tb12 (mem_i 27 rfl), tb0 (mem_i 0 rfl), Or.inl (tb12 (mem_i 26 rfl))⟩
theorem ml_RL_144 : MS RL 144 yL_adds 8 := ⟨⟨by decide +kernel, by decide +kernel, by decide +kernel⟩, tb11 (mem_i 23 rfl), tb0 (mem_i 0 rfl), Or.inl (tb11 (mem_i 22 rfl))⟩
theorem ml_RL_141 : MV RL 141 7 yX7_clearSpelled 0 := ⟨⟨by decide +kernel, by decide +kernel, by decide +kernel⟩, tb11 (mem_i 19 rfl), tb0 (mem_i 1 rfl), Or.inl (tb11 (mem_i 18 rfl)), RX7, TX7, 9, rfl, rfl, tb11 (mem_i 20 rfl)⟩
theorem ml_RL_137 : MS RL 137 yL_draw 3 := ⟨⟨by decide +kernel, by decide +kernel, by decide +kernel⟩, tb4 (mem_i 18 rfl), tb0 (mem_i 0 rfl), Or.inl (tb4 (mem_i 17 rfl))⟩
def f_L_board_b619 (xs : Nat → Int32) (L : Nat) (p1 : Int32)  (S : HS) : Option (HS × Int32) :=
if nz (0 : Int32) = true then some (S, (0 : Int32)) else none
def f_L_board_b621 (xs : Nat → Int32) (L : Nat) (p1 : Int32) (rec41 : HS × Int32 × Int32 → Option (HS × Int32)) (S : HS) (x8 : Int32) (x9 : Int32) : Option (HS × Int32) :=
rec41 (S, x8, (x9 + (1 : Int32)))
def f_L_board_b582 (xs : Nat → Int32) (L : Nat) (p1 : Int32) (rec41 : HS × Int32 × Int32 → Option (HS × Int32)) (S : HS) (x8 : Int32) (x9 : Int32) (x14 : Int32) : Option (HS × Int32) :=
if x14 = 0 then
f_L_board_b619 xs L p1  S
else
(f_L_areTrees S).bind (fun o593 =>
if o593.2 = 0 then
f_L_board_b619 xs L p1  o593.1
else
if (3 : Int32) = 0 then none else
if (x9 - x9 / (3 : Int32) * (3 : Int32)) = (2 : Int32) then
(f_L_isBoard o593.1).bind (fun o613 =>
if o613.2 = 0 then
f_L_board_b619 xs L p1  o613.1
else
f_L_board_b621 xs L p1 rec41 o613.1 x8 x9)
else
f_L_board_b621 xs L p1 rec41 o593.1 x8 x9)
def f_L_board_b580 (xs : Nat → Int32) (L : Nat) (p1 : Int32) (rec41 : HS × Int32 × Int32 → Option (HS × Int32)) (S : HS) (x8 : Int32) (x9 : Int32) (x14 : Int32) (t1 : Int32) (t2 : Int32) (t3 : Int32) : Option (HS × Int32) :=
if ib t1 (5) = true then
f_L_board_b582 xs L p1 rec41 (sI S 38 t1.toNatClampNeg (t2 + t3)) x8 x9 x14
else none
def f_L_board_b559 (xs : Nat → Int32) (L : Nat) (p1 : Int32) (rec41 : HS × Int32 × Int32 → Option (HS × Int32)) (S : HS) (x8 : Int32) (x9 : Int32) (t0 : Int32) : Option (HS × Int32) :=
if ib (4 : Int32) (5) = true then
if ib (4 : Int32) (5) = true then
if (10 : Int32) ≤ (S.1 38 (4 : Int32).toNatClampNeg) then
f_L_board_b580 xs L p1 rec41 S x8 x9 t0 (4 : Int32) (S.1 38 (4 : Int32).toNatClampNeg) (0 : Int32)
else
f_L_board_b580 xs L p1 rec41 S x8 x9 t0 (4 : Int32) (S.1 38 (4 : Int32).toNatClampNeg) (1 : Int32)
else none
else none
def f_L_board_b505 (xs : Nat → Int32) (L : Nat) (p1 : Int32) (rec41 : HS × Int32 × Int32 → Option (HS × Int32)) (rec434 : HS × Int32 × Int32 × Int32 × Int32 → Option (HS × Int32)) (S : HS) (x8 : Int32) (x9 : Int32) (x11 : Int32) (t0 : Int32) : Option (HS × Int32) :=
if ib (4 : Int32) (5) = true then
if ib (4 : Int32) (5) = true then
rec434 ((sI S 38 (4 : Int32).toNatClampNeg ((S.1 38 (4 : Int32).toNatClampNeg) + (1 : Int32))), x8, x9, x11, t0)
else none
else none
def f_L_board_b504 (xs : Nat → Int32) (L : Nat) (p1 : Int32) (rec41 : HS × Int32 × Int32 → Option (HS × Int32)) (rec434 : HS × Int32 × Int32 × Int32 × Int32 → Option (HS × Int32)) (S : HS) (x8 : Int32) (x9 : Int32) (x11 : Int32) : Option (HS × Int32) :=
f_L_board_b505 xs L p1 rec41 rec434 S x8 x9 x11 (0 : Int32)
def f_L_board_b500 (xs : Nat → Int32) (L : Nat) (p1 : Int32) (rec41 : HS × Int32 × Int32 → Option (HS × Int32)) (rec434 : HS × Int32 × Int32 × Int32 × Int32 → Option (HS × Int32)) (S : HS) (x8 : Int32) (x9 : Int32) (x11 : Int32) : Option (HS × Int32) :=
f_L_board_b505 xs L p1 rec41 rec434 S x8 x9 x11 (1 : Int32)
def f_L_board_b459 (xs : Nat → Int32) (L : Nat) (p1 : Int32) (rec41 : HS × Int32 × Int32 → Option (HS × Int32)) (rec434 : HS × Int32 × Int32 × Int32 × Int32 → Option (HS × Int32)) (S : HS) (x8 : Int32) (x9 : Int32) (x11 : Int32) (x14 : Int32) (t0 : Int32) (t1 : Int32) (t2 : Int32) : Option (HS × Int32) :=
if (t1 - t2) ≤ t0 then
f_L_board_b582 xs L p1 rec41 S x8 x9 x14
else
(f_X7_make S).bind (fun o464 =>
if ib (4 : Int32) (5) = true then
if o464.2 = (o464.1.1 38 (4 : Int32).toNatClampNeg) then
if ib (4 : Int32) (5) = true then
if ib (3 : Int32) (5) = true then
if (o464.1.1 38 (4 : Int32).toNatClampNeg) < ((o464.1.1 38 (3 : Int32).toNatClampNeg) - (1 : Int32)) then
f_L_board_b500 xs L p1 rec41 rec434 o464.1 x8 x9 x11
else
if ib (4 : Int32) (5) = true then
(f_L_isExport (o464.1.1 38 (4 : Int32).toNatClampNeg) o464.1).bind (fun o494 =>
if o494.2 = 0 then
f_L_board_b504 xs L p1 rec41 rec434 o494.1 x8 x9 x11
else
f_L_board_b500 xs L p1 rec41 rec434 o494.1 x8 x9 x11)
else none
else none
else none
else
f_L_board_b504 xs L p1 rec41 rec434 o464.1 x8 x9 x11
else none)
def F_L_board_b434 (xs : Nat → Int32) (L : Nat) (p1 : Int32) (rec41 : HS × Int32 × Int32 → Option (HS × Int32)) (rec434 : HS × Int32 × Int32 × Int32 × Int32 → Option (HS × Int32)) : HS × Int32 × Int32 × Int32 × Int32 → Option (HS × Int32) := fun q => match q with
  | (S, x8, x9, x11, x14) =>
    if x14 = 0 then
    f_L_board_b582 xs L p1 rec41 S x8 x9 x14
    else
    if ib (4 : Int32) (5) = true then
    if ib (3 : Int32) (5) = true then
    if (3 : Int32) = 0 then none else
    if (x11 - x11 / (3 : Int32) * (3 : Int32)) = 0 then
    f_L_board_b459 xs L p1 rec41 rec434 S x8 x9 x11 x14 (S.1 38 (4 : Int32).toNatClampNeg) (S.1 38 (3 : Int32).toNatClampNeg) (1 : Int32)
    else
    f_L_board_b459 xs L p1 rec41 rec434 S x8 x9 x11 x14 (S.1 38 (4 : Int32).toNatClampNeg) (S.1 38 (3 : Int32).toNatClampNeg) (0 : Int32)
    else none
    else none
def f_L_board_b434 (xs : Nat → Int32) (L : Nat) (p1 : Int32) (rec41 : HS × Int32 × Int32 → Option (HS × Int32)) (S : HS) (x8 : Int32) (x9 : Int32) (x11 : Int32) (x14 : Int32) : Option (HS × Int32) := fx (F_L_board_b434 xs L p1 rec41) 11 (S, x8, x9, x11, x14)
def f_L_board_b424 (xs : Nat → Int32) (L : Nat) (p1 : Int32) (rec41 : HS × Int32 × Int32 → Option (HS × Int32)) (S : HS) (x8 : Int32) (x9 : Int32) (x11 : Int32) (t0 : Int32) : Option (HS × Int32) :=
if ib (3 : Int32) (5) = true then
if ib (3 : Int32) (5) = true then
f_L_board_b434 xs L p1 rec41 (sI S 38 (3 : Int32).toNatClampNeg ((S.1 38 (3 : Int32).toNatClampNeg) + (1 : Int32))) x8 x9 x11 t0
else none
else none
def f_L_board_b347 (xs : Nat → Int32) (L : Nat) (p1 : Int32) (rec41 : HS × Int32 × Int32 → Option (HS × Int32)) (S : HS) (x8 : Int32) (x9 : Int32) (x10 : Int32) (x11 : Int32) (x13 : Int32) (t1 : Int32) : Option (HS × Int32) :=
(f_L_acts t1 x13 x10 x11 S).bind (fun o362 =>
f_L_board_b582 xs L p1 rec41 o362.1 x8 x9 o362.2)
def f_L_board_b261 (xs : Nat → Int32) (L : Nat) (p1 : Int32) (rec41 : HS × Int32 × Int32 → Option (HS × Int32)) (S : HS) (x9 : Int32) (x14 : Int32) (t0 : Int32) : Option (HS × Int32) :=
f_L_board_b582 xs L p1 rec41 S t0 x9 x14
def f_L_board_b256 (xs : Nat → Int32) (L : Nat) (p1 : Int32) (rec41 : HS × Int32 × Int32 → Option (HS × Int32)) (S : HS) (x9 : Int32) (x14 : Int32) (t0 : Int32) (t1 : Int32) : Option (HS × Int32) :=
f_L_board_b261 xs L p1 rec41 S x9 x14 (t0 + t1)
def f_L_board_b236 (xs : Nat → Int32) (L : Nat) (p1 : Int32) (rec41 : HS × Int32 × Int32 → Option (HS × Int32)) (S : HS) (x8 : Int32) (x9 : Int32) (x12 : Int32) (t0 : Int32) : Option (HS × Int32) :=
if x12 = 0 then
if (5 : Int32) ≤ x8 then
f_L_board_b256 xs L p1 rec41 S x9 t0 x8 (0 : Int32)
else
f_L_board_b256 xs L p1 rec41 S x9 t0 x8 (1 : Int32)
else
f_L_board_b261 xs L p1 rec41 S x9 t0 (0 : Int32)
def f_L_board_b220 (xs : Nat → Int32) (L : Nat) (p1 : Int32) (rec41 : HS × Int32 × Int32 → Option (HS × Int32)) (S : HS) (x8 : Int32) (x9 : Int32) (x12 : Int32) : Option (HS × Int32) :=
f_L_board_b236 xs L p1 rec41 S x8 x9 x12 (0 : Int32)
def f_L_board_b169 (xs : Nat → Int32) (L : Nat) (p1 : Int32) (rec41 : HS × Int32 × Int32 → Option (HS × Int32)) (S : HS) (x8 : Int32) (x9 : Int32) (x12 : Int32) (t0 : Int32) : Option (HS × Int32) :=
if x12 = 0 then
if x8 = (5 : Int32) then
if t0 = (-5008 : Int32) then
f_L_board_b236 xs L p1 rec41 S x8 x9 x12 (1 : Int32)
else
f_L_board_b236 xs L p1 rec41 S x8 x9 x12 (0 : Int32)
else
if t0 ≤ x8 then
f_L_board_b220 xs L p1 rec41 S x8 x9 x12
else
if (((2 : Int32) * x8) + (2 : Int32)) < t0 then
f_L_board_b220 xs L p1 rec41 S x8 x9 x12
else
f_L_board_b236 xs L p1 rec41 S x8 x9 x12 (1 : Int32)
else
if t0 = x8 then
f_L_board_b236 xs L p1 rec41 S x8 x9 x12 (1 : Int32)
else
f_L_board_b236 xs L p1 rec41 S x8 x9 x12 (0 : Int32)
def f_L_board_b125 (xs : Nat → Int32) (L : Nat) (p1 : Int32) (rec41 : HS × Int32 × Int32 → Option (HS × Int32)) (S : HS) (x8 : Int32) (x9 : Int32) (x10 : Int32) (x11 : Int32) (t0 : Int32) : Option (HS × Int32) :=
if (7 : Int32) = 0 then none else
if (3 : Int32) = 0 then none else
if (2 : Int32) ≤ t0 then
if (5 : Int32) ≤ t0 then
if (17 : Int32) ≤ t0 then
if (22 : Int32) ≤ t0 then
if ib (3 : Int32) (5) = true then
if (10 : Int32) ≤ (S.1 38 (3 : Int32).toNatClampNeg) then
if ib (4 : Int32) (5) = true then
if (10 : Int32) ≤ (S.1 38 (4 : Int32).toNatClampNeg) then
(f_X7_make S).bind (fun o547 =>
if o547.2 = (-1 : Int32) then
f_L_board_b559 xs L p1 rec41 o547.1 x8 x9 (1 : Int32)
else
f_L_board_b559 xs L p1 rec41 o547.1 x8 x9 (0 : Int32))
else
(f_X7_make S).bind (fun o528 =>
if ib (4 : Int32) (5) = true then
if o528.2 = (o528.1.1 38 (4 : Int32).toNatClampNeg) then
f_L_board_b559 xs L p1 rec41 o528.1 x8 x9 (1 : Int32)
else
f_L_board_b559 xs L p1 rec41 o528.1 x8 x9 (0 : Int32)
else none)
else none
else
(f_X7_ask S).bind (fun o409 => if o409.2.1 = 0 then
(fun (o409 : XO) =>
if ib (3 : Int32) (5) = true then
if o409.2.2 = (o409.1.1 38 (3 : Int32).toNatClampNeg) then
f_L_board_b424 xs L p1 rec41 o409.1 x8 x9 x11 (1 : Int32)
else
f_L_board_b424 xs L p1 rec41 o409.1 x8 x9 x11 (0 : Int32)
else none) o409
else none)
else none
else
(f_L_goes ((x10 / (7 : Int32)) - (x10 / (7 : Int32)) / (3 : Int32) * (3 : Int32)) x10 x11 S).bind (fun o391 =>
f_L_board_b582 xs L p1 rec41 o391.1 x8 x9 o391.2)
else
if (8 : Int32) ≤ t0 then
if (9 : Int32) ≤ t0 then
if (15 : Int32) ≤ t0 then
if t0 = (15 : Int32) then
f_L_board_b347 xs L p1 rec41 S x8 x9 x10 x11 ((x10 / (7 : Int32)) - (x10 / (7 : Int32)) / (3 : Int32) * (3 : Int32)) (3 : Int32)
else
f_L_board_b347 xs L p1 rec41 S x8 x9 x10 x11 ((x10 / (7 : Int32)) - (x10 / (7 : Int32)) / (3 : Int32) * (3 : Int32)) (5 : Int32)
else
f_L_board_b347 xs L p1 rec41 S x8 x9 x10 x11 ((x10 / (7 : Int32)) - (x10 / (7 : Int32)) / (3 : Int32) * (3 : Int32)) (4 : Int32)
else
f_L_board_b347 xs L p1 rec41 S x8 x9 x10 x11 ((x10 / (7 : Int32)) - (x10 / (7 : Int32)) / (3 : Int32) * (3 : Int32)) (3 : Int32)
else
f_L_board_b347 xs L p1 rec41 S x8 x9 x10 x11 ((x10 / (7 : Int32)) - (x10 / (7 : Int32)) / (3 : Int32) * (3 : Int32)) (2 : Int32)
else
(f_L_adds ((x10 / (7 : Int32)) - (x10 / (7 : Int32)) / (3 : Int32) * (3 : Int32)) x10 x11 x8 S).bind (fun o286 =>
f_L_board_b582 xs L p1 rec41 o286.1 x8 x9 o286.2)
else
if t0 = 0 then
if (27 : Int32) = 0 then none else
(f_L_asks (8 : Int32) (x11 - x11 / (27 : Int32) * (27 : Int32)) (0 : Int32) (0 : Int32) (0 : Int32) (0 : Int32) S).bind (fun o159 =>
f_L_board_b169 xs L p1 rec41 o159.1 x8 x9 t0 o159.2.2)
else
(f_X7_clearSpelled S).bind (fun o166 =>
f_L_board_b169 xs L p1 rec41 o166.1 x8 x9 t0 o166.2)
def F_L_board_b41 (xs : Nat → Int32) (L : Nat) (p1 : Int32)  (rec41 : HS × Int32 × Int32 → Option (HS × Int32)) : HS × Int32 × Int32 → Option (HS × Int32) := fun q => match q with
  | (S, x8, x9) =>
    if (66 : Int32) ≤ x9 then
    (f_L_isBoard S).bind (fun o633 =>
    if nz o633.2 = true then some (o633.1, o633.2) else none)
    else
    (f_L_draw xs L ((p1 + ((3 : Int32) * x9)) + (1 : Int32)) (1073741824 : Int32) S).bind (fun o59 =>
    (f_L_draw xs L ((p1 + ((3 : Int32) * x9)) + (2 : Int32)) (1073741824 : Int32) S).bind (fun o75 =>
    if (2 : Int32) ≤ x9 then
    if (7 : Int32) ≤ x9 then
    if (9 : Int32) ≤ x9 then
    (f_L_draw xs L (p1 + ((3 : Int32) * x9)) (24 : Int32) S).bind (fun o122 =>
    f_L_board_b125 xs L p1 rec41 S x8 x9 o59 o75 o122)
    else
    f_L_board_b125 xs L p1 rec41 S x8 x9 o59 o75 (9 : Int32)
    else
    f_L_board_b125 xs L p1 rec41 S x8 x9 o59 o75 (2 : Int32)
    else
    f_L_board_b125 xs L p1 rec41 S x8 x9 o59 o75 (0 : Int32)))
def f_L_board_b41 (xs : Nat → Int32) (L : Nat) (p1 : Int32)  (S : HS) (x8 : Int32) (x9 : Int32) : Option (HS × Int32) := fx (F_L_board_b41 xs L p1) 67 (S, x8, x9)
def rm_L_board : Room := { frames := 11, cells := 7981, slots := 52297, locals := 290 }
set_option maxRecDepth 100000 in
set_option maxHeartbeats 40000000 in
/-- from the head of the loop of a board -/
theorem c_loop (l : Launch) (hl9 : l.stackTraces = false) {G : GT} (xs : Nat → Int32) (L : Nat) (p1 : Int32) (hGL : OKL l cL_board RL 16 rm_L_board G xs L) (out : HS × Int32) (hR : RtK G cL_board (some .boolean) (some (vI out.2)) out.1 rm_L_board.cells rm_L_board.slots) (x8 x9 : Int32) (S : HS) (h : f_L_board_b41 xs L p1 S x8 x9 = some out) : G 41 4657 S [(0, vR 41), (1, vI p1), (2, vR 0), (3, vR 36), (4, vR 37), (5, vR 38), (6, vR 39), (7, vR 40), (8, vI x8), (9, vI x9)] 41 [] := by
  have hG := hGL.ok
  have hRc : rm_L_board.cells = 7981 := rfl
  have hRs : rm_L_board.slots = 52297 := rfl
  revert h
  have hb619 : ∀ (k n : Nat), k + (0 + 0) ≤ 7981 → n + 6 * (0 + 0) ≤ 52297 → ∀ (S : HS), f_L_board_b619 xs L p1 S = some out → G k n S [] 619 [] := by
    intro  k n hk hn S
    unfold f_L_board_b619
    refine s_iconst hG (v := (0 : Int32)) dL_board_619 (by decide) ?_
    exact s_rKZ hR (by omega) (by omega) dL_board_620
  have hb621 : ∀ (m41 : Nat) (rec41 : HS × Int32 × Int32 → Option (HS × Int32)) (hm41 : 101 + 0 ≤ m41) (hrec41 : ∀ (k n : Nat), k + m41 ≤ 7981 → n + 6 * m41 ≤ 52297 → ∀ (S : HS) (x8 : Int32) (x9 : Int32), rec41 (S, x8, x9) = some out → G k n S [(0, vR 41), (1, vI p1), (2, vR 0), (3, vR 36), (4, vR 37), (5, vR 38), (6, vR 39), (7, vR 40), (8, vI x8), (9, vI x9)] 41 []) (k n : Nat), k + (0 + m41) ≤ 7981 → n + 6 * (0 + m41) ≤ 52297 → ∀ (S : HS) (x8 : Int32) (x9 : Int32), f_L_board_b621 xs L p1 rec41 S x8 x9 = some out → G k n S [(0, vR 41), (1, vI p1), (2, vR 0), (3, vR 36), (4, vR 37), (5, vR 38), (6, vR 39), (7, vR 40), (8, vI x8), (9, vI x9)] 621 [] := by
    intro m41 rec41 hm41 hrec41 k n hk hn S x8 x9
    unfold f_L_board_b621
    refine s_iinc hG (v := (x9 + (1 : Int32))) (lv' := [(9, vI (x9 + (1 : Int32))), (0, vR 41), (1, vI p1), (2, vR 0), (3, vR 36), (4, vR 37), (5, vR 38), (6, vR 39), (7, vR 40), (8, vI x8)]) dL_board_621 rfl rfl (by decide) rfl ?_
    refine s_goto hG (tgt := 41) dL_board_624 (by decide) ?_
    refine s_lv hG [1, 2, 3, 4, 5, 6, 7, 8, 9, 0] rfl ?_
    exact hrec41 _ _ (by omega) (by omega) _ _ _
  have hb582 : ∀ (m41 : Nat) (rec41 : HS × Int32 × Int32 → Option (HS × Int32)) (hm41 : 101 + 0 ≤ m41) (hrec41 : ∀ (k n : Nat), k + m41 ≤ 7981 → n + 6 * m41 ≤ 52297 → ∀ (S : HS) (x8 : Int32) (x9 : Int32), rec41 (S, x8, x9) = some out → G k n S [(0, vR 41), (1, vI p1), (2, vR 0), (3, vR 36), (4, vR 37), (5, vR 38), (6, vR 39), (7, vR 40), (8, vI x8), (9, vI x9)] 41 []) (k n : Nat), k + (106 + m41) ≤ 7981 → n + 6 * (106 + m41) ≤ 52297 → ∀ (S : HS) (x8 : Int32) (x9 : Int32) (x14 : Int32), f_L_board_b582 xs L p1 rec41 S x8 x9 x14 = some out → G k n S [(0, vR 41), (1, vI p1), (2, vR 0), (3, vR 36), (4, vR 37), (5, vR 38), (6, vR 39), (7, vR 40), (8, vI x8), (9, vI x9), (14, vI x14)] 582 [] := by
    intro m41 rec41 hm41 hrec41 k n hk hn S x8 x9 x14
    unfold f_L_board_b582
    refine s_iload hG dL_board_582 rfl ?_
    refine s_if_eq hG (tgt := 619) dL_board_584 (by decide) ?_ ?_
    · refine s_lv hG [] rfl ?_
      exact hb619  _ _ (by omega) (by omega) _
    · refine s_aload_n hG dL_board_587 rfl ?_
      refine s_aload_n hG dL_board_588 rfl ?_
      refine s_aload hG dL_board_589 rfl ?_
      refine s_aload hG dL_board_591 rfl ?_
      refine s_csKI hG (as := [vR 0, vR 36, vR 38, vR 39]) (st := []) (rm := rm_L_areTrees) (KK := 5) (NN := 30) dL_board_593 ml_RL_165 (tb15 (mem_i 3 rfl)) rfl ⟨rfl, rfl⟩ ⟨Nat.le_of_ble_eq_true rfl, Nat.le_of_ble_eq_true rfl⟩ (Nat.le_of_ble_eq_true rfl) ⟨by omega, by omega⟩ rfl (fun o h => c_L_areTrees l hl9  _ o h) (fun o593 => ?_)
      refine s_if_eq hG (tgt := 619) dL_board_596 (by decide) ?_ ?_
      · refine s_lv hG [] rfl ?_
        exact hb619  _ _ (by omega) (by omega) _
      · refine s_iload hG dL_board_599 rfl ?_
        refine s_iconst hG (v := (3 : Int32)) dL_board_601 (by decide) ?_
        refine s_irem hG dL_board_602 ?_
        refine s_iconst hG (v := (2 : Int32)) dL_board_603 (by decide) ?_
        refine s_icmp_ne hG (tgt := 621) dL_board_604 (by decide) ?_ ?_
        · refine s_lv hG [0, 1, 2, 3, 4, 5, 6, 7, 8, 9] rfl ?_
          exact hb621 _ _ hm41 hrec41 _ _ (by omega) (by omega) _ _ _
        · refine s_aload_n hG dL_board_607 rfl ?_
          refine s_aload_n hG dL_board_608 rfl ?_
          refine s_aload hG dL_board_609 rfl ?_
          refine s_aload hG dL_board_611 rfl ?_
          refine s_csKI hG (as := [vR 0, vR 36, vR 37, vR 38]) (st := []) (rm := rm_L_isBoard) (KK := 101) (NN := 606) dL_board_613 ml_RL_169 (tb15 (mem_i 24 rfl)) rfl ⟨rfl, rfl⟩ ⟨Nat.le_of_ble_eq_true rfl, Nat.le_of_ble_eq_true rfl⟩ (Nat.le_of_ble_eq_true rfl) ⟨by omega, by omega⟩ rfl (fun o h => c_L_isBoard l hl9  _ o h) (fun o613 => ?_)
          refine s_if_ne hG (tgt := 621) dL_board_616 (by decide) ?_ ?_
          · refine s_lv hG [0, 1, 2, 3, 4, 5, 6, 7, 8, 9] rfl ?_
            exact hb621 _ _ hm41 hrec41 _ _ (by omega) (by omega) _ _ _
          · refine s_lv hG [] rfl ?_
            exact hb619  _ _ (by omega) (by omega) _
  have hb580 : ∀ (m41 : Nat) (rec41 : HS × Int32 × Int32 → Option (HS × Int32)) (hm41 : 101 + 0 ≤ m41) (hrec41 : ∀ (k n : Nat), k + m41 ≤ 7981 → n + 6 * m41 ≤ 52297 → ∀ (S : HS) (x8 : Int32) (x9 : Int32), rec41 (S, x8, x9) = some out → G k n S [(0, vR 41), (1, vI p1), (2, vR 0), (3, vR 36), (4, vR 37), (5, vR 38), (6, vR 39), (7, vR 40), (8, vI x8), (9, vI x9)] 41 []) (k n : Nat), k + (106 + m41) ≤ 7981 → n + 6 * (106 + m41) ≤ 52297 → ∀ (S : HS) (x8 : Int32) (x9 : Int32) (x14 : Int32) (t1 : Int32) (t2 : Int32) (t3 : Int32), f_L_board_b580 xs L p1 rec41 S x8 x9 x14 t1 t2 t3 = some out → G k n S [(0, vR 41), (1, vI p1), (2, vR 0), (3, vR 36), (4, vR 37), (5, vR 38), (6, vR 39), (7, vR 40), (8, vI x8), (9, vI x9), (14, vI x14)] 580 [vI t3, vI t2, vI t1, vR 38] := by
    intro m41 rec41 hm41 hrec41 k n hk hn S x8 x9 x14 t1 t2 t3
    unfold f_L_board_b580
    refine s_iadd hG dL_board_580 ?_
    refine s_iastore hG dL_board_581 (rfl) ?_
    exact hb582 _ _ hm41 hrec41 _ _ (by omega) (by omega) _ _ _ _
  have hb559 : ∀ (m41 : Nat) (rec41 : HS × Int32 × Int32 → Option (HS × Int32)) (hm41 : 101 + 0 ≤ m41) (hrec41 : ∀ (k n : Nat), k + m41 ≤ 7981 → n + 6 * m41 ≤ 52297 → ∀ (S : HS) (x8 : Int32) (x9 : Int32), rec41 (S, x8, x9) = some out → G k n S [(0, vR 41), (1, vI p1), (2, vR 0), (3, vR 36), (4, vR 37), (5, vR 38), (6, vR 39), (7, vR 40), (8, vI x8), (9, vI x9)] 41 []) (k n : Nat), k + (106 + m41) ≤ 7981 → n + 6 * (106 + m41) ≤ 52297 → ∀ (S : HS) (x8 : Int32) (x9 : Int32) (t0 : Int32), f_L_board_b559 xs L p1 rec41 S x8 x9 t0 = some out → G k n S [(0, vR 41), (1, vI p1), (2, vR 0), (3, vR 36), (4, vR 37), (5, vR 38), (6, vR 39), (7, vR 40), (8, vI x8), (9, vI x9)] 559 [vI t0] := by
    intro m41 rec41 hm41 hrec41 k n hk hn S x8 x9 t0
    unfold f_L_board_b559
    refine s_istore hG (lv' := [(14, vI t0), (0, vR 41), (1, vI p1), (2, vR 0), (3, vR 36), (4, vR 37), (5, vR 38), (6, vR 39), (7, vR 40), (8, vI x8), (9, vI x9)]) dL_board_559 (by decide) rfl ?_
    refine s_aload hG dL_board_561 rfl ?_
    refine s_iconst hG (v := (4 : Int32)) dL_board_563 (by decide) ?_
    refine s_dup2 hG dL_board_564 rfl rfl ?_
    refine s_iaload hG dL_board_565 (rfl) ?_
    refine s_aload hG dL_board_566 rfl ?_
    refine s_iconst hG (v := (4 : Int32)) dL_board_568 (by decide) ?_
    refine s_iaload hG dL_board_569 (rfl) ?_
    refine s_bipush hG (v := (10 : Int32)) dL_board_570 (by decide) ?_
    refine s_icmp_ge hG (tgt := 579) dL_board_572 (by decide) ?_ ?_
    · refine s_iconst hG (v := (0 : Int32)) dL_board_579 (by decide) ?_
      refine s_lv hG [1, 2, 3, 4, 5, 6, 7, 8, 9, 10, 0] rfl ?_
      exact hb580 _ _ hm41 hrec41 _ _ (by omega) (by omega) _ _ _ _ _ _ _
    · refine s_iconst hG (v := (1 : Int32)) dL_board_575 (by decide) ?_
      refine s_goto hG (tgt := 580) dL_board_576 (by decide) ?_
      refine s_lv hG [1, 2, 3, 4, 5, 6, 7, 8, 9, 10, 0] rfl ?_
      exact hb580 _ _ hm41 hrec41 _ _ (by omega) (by omega) _ _ _ _ _ _ _
  have hb505 : ∀ (m41 : Nat) (rec41 : HS × Int32 × Int32 → Option (HS × Int32)) (hm41 : 101 + 0 ≤ m41) (hrec41 : ∀ (k n : Nat), k + m41 ≤ 7981 → n + 6 * m41 ≤ 52297 → ∀ (S : HS) (x8 : Int32) (x9 : Int32), rec41 (S, x8, x9) = some out → G k n S [(0, vR 41), (1, vI p1), (2, vR 0), (3, vR 36), (4, vR 37), (5, vR 38), (6, vR 39), (7, vR 40), (8, vI x8), (9, vI x9)] 41 []) (m434 : Nat) (rec434 : HS × Int32 × Int32 × Int32 × Int32 → Option (HS × Int32)) (hm434 : 106 + m41 ≤ m434) (hrec434 : ∀ (k n : Nat), k + m434 ≤ 7981 → n + 6 * m434 ≤ 52297 → ∀ (S : HS) (x8 : Int32) (x9 : Int32) (x11 : Int32) (x14 : Int32), rec434 (S, x8, x9, x11, x14) = some out → G k n S [(0, vR 41), (1, vI p1), (2, vR 0), (3, vR 36), (4, vR 37), (5, vR 38), (6, vR 39), (7, vR 40), (8, vI x8), (9, vI x9), (11, vI x11), (14, vI x14)] 434 []) (k n : Nat), k + (0 + m434) ≤ 7981 → n + 6 * (0 + m434) ≤ 52297 → ∀ (S : HS) (x8 : Int32) (x9 : Int32) (x11 : Int32) (t0 : Int32), f_L_board_b505 xs L p1 rec41 rec434 S x8 x9 x11 t0 = some out → G k n S [(0, vR 41), (1, vI p1), (2, vR 0), (3, vR 36), (4, vR 37), (5, vR 38), (6, vR 39), (7, vR 40), (8, vI x8), (9, vI x9), (11, vI x11)] 505 [vI t0] := by
    intro m41 rec41 hm41 hrec41 m434 rec434 hm434 hrec434 k n hk hn S x8 x9 x11 t0
    unfold f_L_board_b505
    refine s_istore hG (lv' := [(14, vI t0), (0, vR 41), (1, vI p1), (2, vR 0), (3, vR 36), (4, vR 37), (5, vR 38), (6, vR 39), (7, vR 40), (8, vI x8), (9, vI x9), (11, vI x11)]) dL_board_505 (by decide) rfl ?_
    refine s_aload hG dL_board_507 rfl ?_
    refine s_iconst hG (v := (4 : Int32)) dL_board_509 (by decide) ?_
    refine s_dup2 hG dL_board_510 rfl rfl ?_
    refine s_iaload hG dL_board_511 (rfl) ?_
    refine s_iconst hG (v := (1 : Int32)) dL_board_512 (by decide) ?_
    refine s_iadd hG dL_board_513 ?_
    refine s_iastore hG dL_board_514 (rfl) ?_
    refine s_goto hG (tgt := 434) dL_board_515 (by decide) ?_
    refine s_lv hG [1, 2, 3, 4, 5, 6, 7, 8, 9, 10, 11, 0] rfl ?_
    exact hrec434 _ _ (by omega) (by omega) _ _ _ _ _
  have hb504 : ∀ (m41 : Nat) (rec41 : HS × Int32 × Int32 → Option (HS × Int32)) (hm41 : 101 + 0 ≤ m41) (hrec41 : ∀ (k n : Nat), k + m41 ≤ 7981 → n + 6 * m41 ≤ 52297 → ∀ (S : HS) (x8 : Int32) (x9 : Int32), rec41 (S, x8, x9) = some out → G k n S [(0, vR 41), (1, vI p1), (2, vR 0), (3, vR 36), (4, vR 37), (5, vR 38), (6, vR 39), (7, vR 40), (8, vI x8), (9, vI x9)] 41 []) (m434 : Nat) (rec434 : HS × Int32 × Int32 × Int32 × Int32 → Option (HS × Int32)) (hm434 : 106 + m41 ≤ m434) (hrec434 : ∀ (k n : Nat), k + m434 ≤ 7981 → n + 6 * m434 ≤ 52297 → ∀ (S : HS) (x8 : Int32) (x9 : Int32) (x11 : Int32) (x14 : Int32), rec434 (S, x8, x9, x11, x14) = some out → G k n S [(0, vR 41), (1, vI p1), (2, vR 0), (3, vR 36), (4, vR 37), (5, vR 38), (6, vR 39), (7, vR 40), (8, vI x8), (9, vI x9), (11, vI x11), (14, vI x14)] 434 []) (k n : Nat), k + (0 + m434) ≤ 7981 → n + 6 * (0 + m434) ≤ 52297 → ∀ (S : HS) (x8 : Int32) (x9 : Int32) (x11 : Int32), f_L_board_b504 xs L p1 rec41 rec434 S x8 x9 x11 = some out → G k n S [(0, vR 41), (1, vI p1), (2, vR 0), (3, vR 36), (4, vR 37), (5, vR 38), (6, vR 39), (7, vR 40), (8, vI x8), (9, vI x9), (11, vI x11)] 504 [] := by
    intro m41 rec41 hm41 hrec41 m434 rec434 hm434 hrec434 k n hk hn S x8 x9 x11
    unfold f_L_board_b504
    refine s_iconst hG (v := (0 : Int32)) dL_board_504 (by decide) ?_
    exact hb505 _ _ hm41 hrec41 _ _ hm434 hrec434 _ _ (by omega) (by omega) _ _ _ _ _
  have hb500 : ∀ (m41 : Nat) (rec41 : HS × Int32 × Int32 → Option (HS × Int32)) (hm41 : 101 + 0 ≤ m41) (hrec41 : ∀ (k n : Nat), k + m41 ≤ 7981 → n + 6 * m41 ≤ 52297 → ∀ (S : HS) (x8 : Int32) (x9 : Int32), rec41 (S, x8, x9) = some out → G k n S [(0, vR 41), (1, vI p1), (2, vR 0), (3, vR 36), (4, vR 37), (5, vR 38), (6, vR 39), (7, vR 40), (8, vI x8), (9, vI x9)] 41 []) (m434 : Nat) (rec434 : HS × Int32 × Int32 × Int32 × Int32 → Option (HS × Int32)) (hm434 : 106 + m41 ≤ m434) (hrec434 : ∀ (k n : Nat), k + m434 ≤ 7981 → n + 6 * m434 ≤ 52297 → ∀ (S : HS) (x8 : Int32) (x9 : Int32) (x11 : Int32) (x14 : Int32), rec434 (S, x8, x9, x11, x14) = some out → G k n S [(0, vR 41), (1, vI p1), (2, vR 0), (3, vR 36), (4, vR 37), (5, vR 38), (6, vR 39), (7, vR 40), (8, vI x8), (9, vI x9), (11, vI x11), (14, vI x14)] 434 []) (k n : Nat), k + (0 + m434) ≤ 7981 → n + 6 * (0 + m434) ≤ 52297 → ∀ (S : HS) (x8 : Int32) (x9 : Int32) (x11 : Int32), f_L_board_b500 xs L p1 rec41 rec434 S x8 x9 x11 = some out → G k n S [(0, vR 41), (1, vI p1), (2, vR 0), (3, vR 36), (4, vR 37), (5, vR 38), (6, vR 39), (7, vR 40), (8, vI x8), (9, vI x9), (11, vI x11)] 500 [] := by
    intro m41 rec41 hm41 hrec41 m434 rec434 hm434 hrec434 k n hk hn S x8 x9 x11
    unfold f_L_board_b500
    refine s_iconst hG (v := (1 : Int32)) dL_board_500 (by decide) ?_
    refine s_goto hG (tgt := 505) dL_board_501 (by decide) ?_
    exact hb505 _ _ hm41 hrec41 _ _ hm434 hrec434 _ _ (by omega) (by omega) _ _ _ _ _
  have hb459 : ∀ (m41 : Nat) (rec41 : HS × Int32 × Int32 → Option (HS × Int32)) (hm41 : 101 + 0 ≤ m41) (hrec41 : ∀ (k n : Nat), k + m41 ≤ 7981 → n + 6 * m41 ≤ 52297 → ∀ (S : HS) (x8 : Int32) (x9 : Int32), rec41 (S, x8, x9) = some out → G k n S [(0, vR 41), (1, vI p1), (2, vR 0), (3, vR 36), (4, vR 37), (5, vR 38), (6, vR 39), (7, vR 40), (8, vI x8), (9, vI x9)] 41 []) (m434 : Nat) (rec434 : HS × Int32 × Int32 × Int32 × Int32 → Option (HS × Int32)) (hm434 : 106 + m41 ≤ m434) (hrec434 : ∀ (k n : Nat), k + m434 ≤ 7981 → n + 6 * m434 ≤ 52297 → ∀ (S : HS) (x8 : Int32) (x9 : Int32) (x11 : Int32) (x14 : Int32), rec434 (S, x8, x9, x11, x14) = some out → G k n S [(0, vR 41), (1, vI p1), (2, vR 0), (3, vR 36), (4, vR 37), (5, vR 38), (6, vR 39), (7, vR 40), (8, vI x8), (9, vI x9), (11, vI x11), (14, vI x14)] 434 []) (k n : Nat), k + (1 + m434) ≤ 7981 → n + 6 * (1 + m434) ≤ 52297 → ∀ (S : HS) (x8 : Int32) (x9 : Int32) (x11 : Int32) (x14 : Int32) (t0 : Int32) (t1 : Int32) (t2 : Int32), f_L_board_b459 xs L p1 rec41 rec434 S x8 x9 x11 x14 t0 t1 t2 = some out → G k n S [(0, vR 41), (1, vI p1), (2, vR 0), (3, vR 36), (4, vR 37), (5, vR 38), (6, vR 39), (7, vR 40), (8, vI x8), (9, vI x9), (11, vI x11), (14, vI x14)] 459 [vI t2, vI t1, vI t0] := by
    intro m41 rec41 hm41 hrec41 m434 rec434 hm434 hrec434 k n hk hn S x8 x9 x11 x14 t0 t1 t2
    unfold f_L_board_b459
    refine s_isub hG dL_board_459 ?_
    refine s_icmp_ge hG (tgt := 582) dL_board_460 (by decide) ?_ ?_
    · refine s_lv hG [0, 1, 2, 3, 4, 5, 6, 7, 8, 9, 11] rfl ?_
      exact hb582 _ _ hm41 hrec41 _ _ (by omega) (by omega) _ _ _ _
    · refine s_aload_n hG dL_board_463 rfl ?_
      refine s_cvI hG (as := []) (st := []) (rm := rm_X7_make) dL_board_464 ml_RL_158 (rfl) (tb14 (mem_i 14 rfl)) rfl ⟨rfl, rfl⟩ ⟨Nat.le_of_ble_eq_true rfl, Nat.le_of_ble_eq_true rfl⟩ (Nat.le_of_ble_eq_true rfl) ⟨by omega, by omega⟩ rfl (fun o h => c_X7_make l  _ o h) (fun o464 => ?_)
      refine s_aload hG dL_board_467 rfl ?_
      refine s_iconst hG (v := (4 : Int32)) dL_board_469 (by decide) ?_
      refine s_iaload hG dL_board_470 (rfl) ?_
      refine s_icmp_ne hG (tgt := 504) dL_board_471 (by decide) ?_ ?_
      · refine s_lv hG [0, 1, 2, 3, 4, 5, 6, 7, 8, 9, 10] rfl ?_
        exact hb504 _ _ hm41 hrec41 _ _ hm434 hrec434 _ _ (by omega) (by omega) _ _ _ _
      · refine s_aload hG dL_board_474 rfl ?_
        refine s_iconst hG (v := (4 : Int32)) dL_board_476 (by decide) ?_
        refine s_iaload hG dL_board_477 (rfl) ?_
        refine s_aload hG dL_board_478 rfl ?_
        refine s_iconst hG (v := (3 : Int32)) dL_board_480 (by decide) ?_
        refine s_iaload hG dL_board_481 (rfl) ?_
        refine s_iconst hG (v := (1 : Int32)) dL_board_482 (by decide) ?_
        refine s_isub hG dL_board_483 ?_
        refine s_icmp_lt hG (tgt := 500) dL_board_484 (by decide) ?_ ?_
        · refine s_lv hG [0, 1, 2, 3, 4, 5, 6, 7, 8, 9, 10] rfl ?_
          exact hb500 _ _ hm41 hrec41 _ _ hm434 hrec434 _ _ (by omega) (by omega) _ _ _ _
        · refine s_aload_n hG dL_board_487 rfl ?_
          refine s_aload hG dL_board_488 rfl ?_
          refine s_iconst hG (v := (4 : Int32)) dL_board_490 (by decide) ?_
          refine s_iaload hG dL_board_491 (rfl) ?_
          refine s_aload hG dL_board_492 rfl ?_
          refine s_csKI hG (as := [vR 0, vI (o464.1.1 38 (4 : Int32).toNatClampNeg), vR 38]) (st := []) (rm := rm_L_isExport) (KK := 1) (NN := 6) dL_board_494 ml_RL_161 (tb14 (mem_i 17 rfl)) rfl ⟨rfl, rfl⟩ ⟨Nat.le_of_ble_eq_true rfl, Nat.le_of_ble_eq_true rfl⟩ (Nat.le_of_ble_eq_true rfl) ⟨by omega, by omega⟩ rfl (fun o h => c_L_isExport l hl9 _ _ o h) (fun o494 => ?_)
          refine s_if_eq hG (tgt := 504) dL_board_497 (by decide) ?_ ?_
          · refine s_lv hG [0, 1, 2, 3, 4, 5, 6, 7, 8, 9, 10] rfl ?_
            exact hb504 _ _ hm41 hrec41 _ _ hm434 hrec434 _ _ (by omega) (by omega) _ _ _ _
          · refine s_lv hG [0, 1, 2, 3, 4, 5, 6, 7, 8, 9, 10] rfl ?_
            exact hb500 _ _ hm41 hrec41 _ _ hm434 hrec434 _ _ (by omega) (by omega) _ _ _ _
  have hb434 : ∀ (m41 : Nat) (rec41 : HS × Int32 × Int32 → Option (HS × Int32)) (hm41 : 101 + 0 ≤ m41) (hrec41 : ∀ (k n : Nat), k + m41 ≤ 7981 → n + 6 * m41 ≤ 52297 → ∀ (S : HS) (x8 : Int32) (x9 : Int32), rec41 (S, x8, x9) = some out → G k n S [(0, vR 41), (1, vI p1), (2, vR 0), (3, vR 36), (4, vR 37), (5, vR 38), (6, vR 39), (7, vR 40), (8, vI x8), (9, vI x9)] 41 []), ∀ (k n : Nat), k + (1 * 11 + 106 + m41) ≤ 7981 → n + 6 * (1 * 11 + 106 + m41) ≤ 52297 → ∀ (S : HS) (x8 : Int32) (x9 : Int32) (x11 : Int32) (x14 : Int32), f_L_board_b434 xs L p1 rec41 S x8 x9 x11 x14 = some out → G k n S [(0, vR 41), (1, vI p1), (2, vR 0), (3, vR 36), (4, vR 37), (5, vR 38), (6, vR 39), (7, vR 40), (8, vI x8), (9, vI x9), (11, vI x11), (14, vI x14)] 434 [] := by
    intro m41 rec41 hm41 hrec41
    suffices H : ∀ (nf k n : Nat), k + (1 * nf + 106 + m41) ≤ 7981 → n + 6 * (1 * nf + 106 + m41) ≤ 52297 → ∀ (S : HS) (x8 : Int32) (x9 : Int32) (x11 : Int32) (x14 : Int32), fx (F_L_board_b434 xs L p1 rec41) nf (S, x8, x9, x11, x14) = some out → G k n S [(0, vR 41), (1, vI p1), (2, vR 0), (3, vR 36), (4, vR 37), (5, vR 38), (6, vR 39), (7, vR 40), (8, vI x8), (9, vI x9), (11, vI x11), (14, vI x14)] 434 [] from fun k n hk hn S x8 x9 x11 x14 => H 11 k n hk hn S x8 x9 x11 x14
    intro nf
    induction nf with
    | zero => intro k n _ _ S x8 x9 x11 x14 h9; cases h9
    | succ nf hrec434 =>
      intro k n hk0 hn0 S x8 x9 x11 x14
      show F_L_board_b434 xs L p1 rec41 (fx (F_L_board_b434 xs L p1 rec41) nf) (S, x8, x9, x11, x14) = some out → _
      generalize fx (F_L_board_b434 xs L p1 rec41) nf = rec434 at hrec434
      obtain ⟨m434, hq434⟩ : ∃ m, m = 1 * nf + 106 + m41 := ⟨_, rfl⟩
      rw [← hq434] at hrec434
      have hm434 : 106 + m41 ≤ m434 := by omega
      have hk : k + (1 + m434) ≤ 7981 := by omega
      have hn : n + 6 * (1 + m434) ≤ 52297 := by omega
      clear hk0 hn0 hq434
      unfold F_L_board_b434
      dsimp only
      refine s_iload hG dL_board_434 rfl ?_
      refine s_if_eq hG (tgt := 582) dL_board_436 (by decide) ?_ ?_
      · refine s_lv hG [0, 1, 2, 3, 4, 5, 6, 7, 8, 9, 11] rfl ?_
        exact hb582 _ _ hm41 hrec41 _ _ (by omega) (by omega) _ _ _ _
      · refine s_aload hG dL_board_439 rfl ?_
        refine s_iconst hG (v := (4 : Int32)) dL_board_441 (by decide) ?_
        refine s_iaload hG dL_board_442 (rfl) ?_
        refine s_aload hG dL_board_443 rfl ?_
        refine s_iconst hG (v := (3 : Int32)) dL_board_445 (by decide) ?_
        refine s_iaload hG dL_board_446 (rfl) ?_
        refine s_iload hG dL_board_447 rfl ?_
        refine s_iconst hG (v := (3 : Int32)) dL_board_449 (by decide) ?_
        refine s_irem hG dL_board_450 ?_
        refine s_if_ne hG (tgt := 458) dL_board_451 (by decide) ?_ ?_
        · refine s_iconst hG (v := (0 : Int32)) dL_board_458 (by decide) ?_
          exact hb459 _ _ hm41 hrec41 _ _ hm434 hrec434 _ _ (by omega) (by omega) _ _ _ _ _ _ _ _
        · refine s_iconst hG (v := (1 : Int32)) dL_board_454 (by decide) ?_
          refine s_goto hG (tgt := 459) dL_board_455 (by decide) ?_
          exact hb459 _ _ hm41 hrec41 _ _ hm434 hrec434 _ _ (by omega) (by omega) _ _ _ _ _ _ _ _
  have hb424 : ∀ (m41 : Nat) (rec41 : HS × Int32 × Int32 → Option (HS × Int32)) (hm41 : 101 + 0 ≤ m41) (hrec41 : ∀ (k n : Nat), k + m41 ≤ 7981 → n + 6 * m41 ≤ 52297 → ∀ (S : HS) (x8 : Int32) (x9 : Int32), rec41 (S, x8, x9) = some out → G k n S [(0, vR 41), (1, vI p1), (2, vR 0), (3, vR 36), (4, vR 37), (5, vR 38), (6, vR 39), (7, vR 40), (8, vI x8), (9, vI x9)] 41 []) (k n : Nat), k + (117 + m41) ≤ 7981 → n + 6 * (117 + m41) ≤ 52297 → ∀ (S : HS) (x8 : Int32) (x9 : Int32) (x11 : Int32) (t0 : Int32), f_L_board_b424 xs L p1 rec41 S x8 x9 x11 t0 = some out → G k n S [(0, vR 41), (1, vI p1), (2, vR 0), (3, vR 36), (4, vR 37), (5, vR 38), (6, vR 39), (7, vR 40), (8, vI x8), (9, vI x9), (11, vI x11)] 424 [vI t0] := by
    intro m41 rec41 hm41 hrec41 k n hk hn S x8 x9 x11 t0
    unfold f_L_board_b424
    refine s_istore hG (lv' := [(14, vI t0), (0, vR 41), (1, vI p1), (2, vR 0), (3, vR 36), (4, vR 37), (5, vR 38), (6, vR 39), (7, vR 40), (8, vI x8), (9, vI x9), (11, vI x11)]) dL_board_424 (by decide) rfl ?_
    refine s_aload hG dL_board_426 rfl ?_
    refine s_iconst hG (v := (3 : Int32)) dL_board_428 (by decide) ?_
    refine s_dup2 hG dL_board_429 rfl rfl ?_
    refine s_iaload hG dL_board_430 (rfl) ?_
    refine s_iconst hG (v := (1 : Int32)) dL_board_431 (by decide) ?_
    refine s_iadd hG dL_board_432 ?_
    refine s_iastore hG dL_board_433 (rfl) ?_
    refine s_lv hG [1, 2, 3, 4, 5, 6, 7, 8, 9, 10, 11, 0] rfl ?_
    exact hb434 _ _ hm41 hrec41 _ _ (by omega) (by omega) _ _ _ _ _
  have hb347 : ∀ (m41 : Nat) (rec41 : HS × Int32 × Int32 → Option (HS × Int32)) (hm41 : 101 + 0 ≤ m41) (hrec41 : ∀ (k n : Nat), k + m41 ≤ 7981 → n + 6 * m41 ≤ 52297 → ∀ (S : HS) (x8 : Int32) (x9 : Int32), rec41 (S, x8, x9) = some out → G k n S [(0, vR 41), (1, vI p1), (2, vR 0), (3, vR 36), (4, vR 37), (5, vR 38), (6, vR 39), (7, vR 40), (8, vI x8), (9, vI x9)] 41 []) (k n : Nat), k + (107 + m41) ≤ 7981 → n + 6 * (107 + m41) ≤ 52297 → ∀ (S : HS) (x8 : Int32) (x9 : Int32) (x10 : Int32) (x11 : Int32) (x13 : Int32) (t1 : Int32), f_L_board_b347 xs L p1 rec41 S x8 x9 x10 x11 x13 t1 = some out → G k n S [(0, vR 41), (1, vI p1), (2, vR 0), (3, vR 36), (4, vR 37), (5, vR 38), (6, vR 39), (7, vR 40), (8, vI x8), (9, vI x9), (10, vI x10), (11, vI x11), (13, vI x13)] 347 [vI t1, vR 0] := by
    intro m41 rec41 hm41 hrec41 k n hk hn S x8 x9 x10 x11 x13 t1
    unfold f_L_board_b347
    refine s_iload hG dL_board_347 rfl ?_
    refine s_iload hG dL_board_349 rfl ?_
    refine s_iload hG dL_board_351 rfl ?_
    refine s_aload_n hG dL_board_353 rfl ?_
    refine s_aload hG dL_board_354 rfl ?_
    refine s_aload hG dL_board_356 rfl ?_
    refine s_aload hG dL_board_358 rfl ?_
    refine s_aload hG dL_board_360 rfl ?_
    refine s_csKI hG (as := [vR 0, vI t1, vI x13, vI x10, vI x11, vR 36, vR 37, vR 38, vR 39, vR 40]) (st := []) (rm := rm_L_acts) (KK := 1) (NN := 6) dL_board_362 ml_RL_148 (tb12 (mem_i 4 rfl)) rfl ⟨rfl, rfl⟩ ⟨Nat.le_of_ble_eq_true rfl, Nat.le_of_ble_eq_true rfl⟩ (Nat.le_of_ble_eq_true rfl) ⟨by omega, by omega⟩ rfl (fun o h => c_L_acts l hl9 _ _ _ _ _ o h) (fun o362 => ?_)
    refine s_istore hG (lv' := [(14, vI o362.2), (0, vR 41), (1, vI p1), (2, vR 0), (3, vR 36), (4, vR 37), (5, vR 38), (6, vR 39), (7, vR 40), (8, vI x8), (9, vI x9), (10, vI x10), (11, vI x11), (13, vI x13)]) dL_board_365 (by decide) rfl ?_
    refine s_goto hG (tgt := 582) dL_board_367 (by decide) ?_
    refine s_lv hG [1, 2, 3, 4, 5, 6, 7, 8, 9, 10, 0] rfl ?_
    exact hb582 _ _ hm41 hrec41 _ _ (by omega) (by omega) _ _ _ _
  have hb261 : ∀ (m41 : Nat) (rec41 : HS × Int32 × Int32 → Option (HS × Int32)) (hm41 : 101 + 0 ≤ m41) (hrec41 : ∀ (k n : Nat), k + m41 ≤ 7981 → n + 6 * m41 ≤ 52297 → ∀ (S : HS) (x8 : Int32) (x9 : Int32), rec41 (S, x8, x9) = some out → G k n S [(0, vR 41), (1, vI p1), (2, vR 0), (3, vR 36), (4, vR 37), (5, vR 38), (6, vR 39), (7, vR 40), (8, vI x8), (9, vI x9)] 41 []) (k n : Nat), k + (106 + m41) ≤ 7981 → n + 6 * (106 + m41) ≤ 52297 → ∀ (S : HS) (x9 : Int32) (x14 : Int32) (t0 : Int32), f_L_board_b261 xs L p1 rec41 S x9 x14 t0 = some out → G k n S [(0, vR 41), (1, vI p1), (2, vR 0), (3, vR 36), (4, vR 37), (5, vR 38), (6, vR 39), (7, vR 40), (9, vI x9), (14, vI x14)] 261 [vI t0] := by
    intro m41 rec41 hm41 hrec41 k n hk hn S x9 x14 t0
    unfold f_L_board_b261
    refine s_istore hG (lv' := [(8, vI t0), (0, vR 41), (1, vI p1), (2, vR 0), (3, vR 36), (4, vR 37), (5, vR 38), (6, vR 39), (7, vR 40), (9, vI x9), (14, vI x14)]) dL_board_261 (by decide) rfl ?_
    refine s_goto hG (tgt := 582) dL_board_263 (by decide) ?_
    refine s_lv hG [1, 2, 3, 4, 5, 6, 7, 8, 0, 9, 10] rfl ?_
    exact hb582 _ _ hm41 hrec41 _ _ (by omega) (by omega) _ _ _ _
  have hb256 : ∀ (m41 : Nat) (rec41 : HS × Int32 × Int32 → Option (HS × Int32)) (hm41 : 101 + 0 ≤ m41) (hrec41 : ∀ (k n : Nat), k + m41 ≤ 7981 → n + 6 * m41 ≤ 52297 → ∀ (S : HS) (x8 : Int32) (x9 : Int32), rec41 (S, x8, x9) = some out → G k n S [(0, vR 41), (1, vI p1), (2, vR 0), (3, vR 36), (4, vR 37), (5, vR 38), (6, vR 39), (7, vR 40), (8, vI x8), (9, vI x9)] 41 []) (k n : Nat), k + (106 + m41) ≤ 7981 → n + 6 * (106 + m41) ≤ 52297 → ∀ (S : HS) (x9 : Int32) (x14 : Int32) (t0 : Int32) (t1 : Int32), f_L_board_b256 xs L p1 rec41 S x9 x14 t0 t1 = some out → G k n S [(0, vR 41), (1, vI p1), (2, vR 0), (3, vR 36), (4, vR 37), (5, vR 38), (6, vR 39), (7, vR 40), (9, vI x9), (14, vI x14)] 256 [vI t1, vI t0] := by
    intro m41 rec41 hm41 hrec41 k n hk hn S x9 x14 t0 t1
    unfold f_L_board_b256
    refine s_iadd hG dL_board_256 ?_
    refine s_goto hG (tgt := 261) dL_board_257 (by decide) ?_
    exact hb261 _ _ hm41 hrec41 _ _ (by omega) (by omega) _ _ _ _
  have hb236 : ∀ (m41 : Nat) (rec41 : HS × Int32 × Int32 → Option (HS × Int32)) (hm41 : 101 + 0 ≤ m41) (hrec41 : ∀ (k n : Nat), k + m41 ≤ 7981 → n + 6 * m41 ≤ 52297 → ∀ (S : HS) (x8 : Int32) (x9 : Int32), rec41 (S, x8, x9) = some out → G k n S [(0, vR 41), (1, vI p1), (2, vR 0), (3, vR 36), (4, vR 37), (5, vR 38), (6, vR 39), (7, vR 40), (8, vI x8), (9, vI x9)] 41 []) (k n : Nat), k + (106 + m41) ≤ 7981 → n + 6 * (106 + m41) ≤ 52297 → ∀ (S : HS) (x8 : Int32) (x9 : Int32) (x12 : Int32) (t0 : Int32), f_L_board_b236 xs L p1 rec41 S x8 x9 x12 t0 = some out → G k n S [(0, vR 41), (1, vI p1), (2, vR 0), (3, vR 36), (4, vR 37), (5, vR 38), (6, vR 39), (7, vR 40), (8, vI x8), (9, vI x9), (12, vI x12)] 236 [vI t0] := by
    intro m41 rec41 hm41 hrec41 k n hk hn S x8 x9 x12 t0
    unfold f_L_board_b236
    refine s_istore hG (lv' := [(14, vI t0), (0, vR 41), (1, vI p1), (2, vR 0), (3, vR 36), (4, vR 37), (5, vR 38), (6, vR 39), (7, vR 40), (8, vI x8), (9, vI x9), (12, vI x12)]) dL_board_236 (by decide) rfl ?_
    refine s_iload hG dL_board_238 rfl ?_
    refine s_if_ne hG (tgt := 260) dL_board_240 (by decide) ?_ ?_
    · refine s_iconst hG (v := (0 : Int32)) dL_board_260 (by decide) ?_
      refine s_lv hG [1, 2, 3, 4, 5, 6, 7, 8, 10, 0] rfl ?_
      exact hb261 _ _ hm41 hrec41 _ _ (by omega) (by omega) _ _ _ _
    · refine s_iload hG dL_board_243 rfl ?_
      refine s_iload hG dL_board_245 rfl ?_
      refine s_iconst hG (v := (5 : Int32)) dL_board_247 (by decide) ?_
      refine s_icmp_ge hG (tgt := 255) dL_board_248 (by decide) ?_ ?_
      · refine s_iconst hG (v := (0 : Int32)) dL_board_255 (by decide) ?_
        refine s_lv hG [1, 2, 3, 4, 5, 6, 7, 8, 10, 0] rfl ?_
        exact hb256 _ _ hm41 hrec41 _ _ (by omega) (by omega) _ _ _ _ _
      · refine s_iconst hG (v := (1 : Int32)) dL_board_251 (by decide) ?_
        refine s_goto hG (tgt := 256) dL_board_252 (by decide) ?_
        refine s_lv hG [1, 2, 3, 4, 5, 6, 7, 8, 10, 0] rfl ?_
        exact hb256 _ _ hm41 hrec41 _ _ (by omega) (by omega) _ _ _ _ _
  have hb220 : ∀ (m41 : Nat) (rec41 : HS × Int32 × Int32 → Option (HS × Int32)) (hm41 : 101 + 0 ≤ m41) (hrec41 : ∀ (k n : Nat), k + m41 ≤ 7981 → n + 6 * m41 ≤ 52297 → ∀ (S : HS) (x8 : Int32) (x9 : Int32), rec41 (S, x8, x9) = some out → G k n S [(0, vR 41), (1, vI p1), (2, vR 0), (3, vR 36), (4, vR 37), (5, vR 38), (6, vR 39), (7, vR 40), (8, vI x8), (9, vI x9)] 41 []) (k n : Nat), k + (106 + m41) ≤ 7981 → n + 6 * (106 + m41) ≤ 52297 → ∀ (S : HS) (x8 : Int32) (x9 : Int32) (x12 : Int32), f_L_board_b220 xs L p1 rec41 S x8 x9 x12 = some out → G k n S [(0, vR 41), (1, vI p1), (2, vR 0), (3, vR 36), (4, vR 37), (5, vR 38), (6, vR 39), (7, vR 40), (8, vI x8), (9, vI x9), (12, vI x12)] 220 [] := by
    intro m41 rec41 hm41 hrec41 k n hk hn S x8 x9 x12
    unfold f_L_board_b220
    refine s_iconst hG (v := (0 : Int32)) dL_board_220 (by decide) ?_
    refine s_goto hG (tgt := 236) dL_board_221 (by decide) ?_
    exact hb236 _ _ hm41 hrec41 _ _ (by omega) (by omega) _ _ _ _ _
  have hb169 : ∀ (m41 : Nat) (rec41 : HS × Int32 × Int32 → Option (HS × Int32)) (hm41 : 101 + 0 ≤ m41) (hrec41 : ∀ (k n : Nat), k + m41 ≤ 7981 → n + 6 * m41 ≤ 52297 → ∀ (S : HS) (x8 : Int32) (x9 : Int32), rec41 (S, x8, x9) = some out → G k n S [(0, vR 41), (1, vI p1), (2, vR 0), (3, vR 36), (4, vR 37), (5, vR 38), (6, vR 39), (7, vR 40), (8, vI x8), (9, vI x9)] 41 []) (k n : Nat), k + (106 + m41) ≤ 7981 → n + 6 * (106 + m41) ≤ 52297 → ∀ (S : HS) (x8 : Int32) (x9 : Int32) (x12 : Int32) (t0 : Int32), f_L_board_b169 xs L p1 rec41 S x8 x9 x12 t0 = some out → G k n S [(0, vR 41), (1, vI p1), (2, vR 0), (3, vR 36), (4, vR 37), (5, vR 38), (6, vR 39), (7, vR 40), (8, vI x8), (9, vI x9), (12, vI x12)] 169 [vI t0] := by
    intro m41 rec41 hm41 hrec41 k n hk hn S x8 x9 x12 t0
    unfold f_L_board_b169
    refine s_istore hG (lv' := [(15, vI t0), (0, vR 41), (1, vI p1), (2, vR 0), (3, vR 36), (4, vR 37), (5, vR 38), (6, vR 39), (7, vR 40), (8, vI x8), (9, vI x9), (12, vI x12)]) dL_board_169 (by decide) rfl ?_
    refine s_iload hG dL_board_171 rfl ?_
    refine s_if_ne hG (tgt := 224) dL_board_173 (by decide) ?_ ?_
    · refine s_iload hG dL_board_224 rfl ?_
      refine s_iload hG dL_board_226 rfl ?_
      refine s_icmp_ne hG (tgt := 235) dL_board_228 (by decide) ?_ ?_
      · refine s_iconst hG (v := (0 : Int32)) dL_board_235 (by decide) ?_
        refine s_lv hG [1, 2, 3, 4, 5, 6, 7, 8, 9, 10, 11] rfl ?_
        exact hb236 _ _ hm41 hrec41 _ _ (by omega) (by omega) _ _ _ _ _
      · refine s_iconst hG (v := (1 : Int32)) dL_board_231 (by decide) ?_
        refine s_goto hG (tgt := 236) dL_board_232 (by decide) ?_
        refine s_lv hG [1, 2, 3, 4, 5, 6, 7, 8, 9, 10, 11] rfl ?_
        exact hb236 _ _ hm41 hrec41 _ _ (by omega) (by omega) _ _ _ _ _
    · refine s_iload hG dL_board_176 rfl ?_
      refine s_iconst hG (v := (5 : Int32)) dL_board_178 (by decide) ?_
      refine s_icmp_ne hG (tgt := 198) dL_board_179 (by decide) ?_ ?_
      · refine s_iload hG dL_board_198 rfl ?_
        refine s_iload hG dL_board_200 rfl ?_
        refine s_icmp_le hG (tgt := 220) dL_board_202 (by decide) ?_ ?_
        · refine s_lv hG [1, 2, 3, 4, 5, 6, 7, 8, 9, 10, 11] rfl ?_
          exact hb220 _ _ hm41 hrec41 _ _ (by omega) (by omega) _ _ _ _
        · refine s_iload hG dL_board_205 rfl ?_
          refine s_iconst hG (v := (2 : Int32)) dL_board_207 (by decide) ?_
          refine s_iload hG dL_board_208 rfl ?_
          refine s_imul hG dL_board_210 ?_
          refine s_iconst hG (v := (2 : Int32)) dL_board_211 (by decide) ?_
          refine s_iadd hG dL_board_212 ?_
          refine s_icmp_gt hG (tgt := 220) dL_board_213 (by decide) ?_ ?_
          · refine s_lv hG [1, 2, 3, 4, 5, 6, 7, 8, 9, 10, 11] rfl ?_
            exact hb220 _ _ hm41 hrec41 _ _ (by omega) (by omega) _ _ _ _
          · refine s_iconst hG (v := (1 : Int32)) dL_board_216 (by decide) ?_
            refine s_goto hG (tgt := 236) dL_board_217 (by decide) ?_
            refine s_lv hG [1, 2, 3, 4, 5, 6, 7, 8, 9, 10, 11] rfl ?_
            exact hb236 _ _ hm41 hrec41 _ _ (by omega) (by omega) _ _ _ _ _
      · refine s_iload hG dL_board_182 rfl ?_
        refine s_sipush hG (v := (-5008 : Int32)) dL_board_184 (by decide) ?_
        refine s_icmp_ne hG (tgt := 194) dL_board_187 (by decide) ?_ ?_
        · refine s_iconst hG (v := (0 : Int32)) dL_board_194 (by decide) ?_
          refine s_goto hG (tgt := 236) dL_board_195 (by decide) ?_
          refine s_lv hG [1, 2, 3, 4, 5, 6, 7, 8, 9, 10, 11] rfl ?_
          exact hb236 _ _ hm41 hrec41 _ _ (by omega) (by omega) _ _ _ _ _
        · refine s_iconst hG (v := (1 : Int32)) dL_board_190 (by decide) ?_
          refine s_goto hG (tgt := 236) dL_board_191 (by decide) ?_
          refine s_lv hG [1, 2, 3, 4, 5, 6, 7, 8, 9, 10, 11] rfl ?_
          exact hb236 _ _ hm41 hrec41 _ _ (by omega) (by omega) _ _ _ _ _
  have hb125 : ∀ (m41 : Nat) (rec41 : HS × Int32 × Int32 → Option (HS × Int32)) (hm41 : 101 + 0 ≤ m41) (hrec41 : ∀ (k n : Nat), k + m41 ≤ 7981 → n + 6 * m41 ≤ 52297 → ∀ (S : HS) (x8 : Int32) (x9 : Int32), rec41 (S, x8, x9) = some out → G k n S [(0, vR 41), (1, vI p1), (2, vR 0), (3, vR 36), (4, vR 37), (5, vR 38), (6, vR 39), (7, vR 40), (8, vI x8), (9, vI x9)] 41 []) (k n : Nat), k + (117 + m41) ≤ 7981 → n + 6 * (117 + m41) ≤ 52297 → ∀ (S : HS) (x8 : Int32) (x9 : Int32) (x10 : Int32) (x11 : Int32) (t0 : Int32), f_L_board_b125 xs L p1 rec41 S x8 x9 x10 x11 t0 = some out → G k n S [(0, vR 41), (1, vI p1), (2, vR 0), (3, vR 36), (4, vR 37), (5, vR 38), (6, vR 39), (7, vR 40), (8, vI x8), (9, vI x9), (10, vI x10), (11, vI x11)] 125 [vI t0] := by
    intro m41 rec41 hm41 hrec41 k n hk hn S x8 x9 x10 x11 t0
    unfold f_L_board_b125
    refine s_istore hG (lv' := [(12, vI t0), (0, vR 41), (1, vI p1), (2, vR 0), (3, vR 36), (4, vR 37), (5, vR 38), (6, vR 39), (7, vR 40), (8, vI x8), (9, vI x9), (10, vI x10), (11, vI x11)]) dL_board_125 (by decide) rfl ?_
    refine s_iload hG dL_board_127 rfl ?_
    refine s_bipush hG (v := (7 : Int32)) dL_board_129 (by decide) ?_
    refine s_idiv hG dL_board_131 ?_
    refine s_iconst hG (v := (3 : Int32)) dL_board_132 (by decide) ?_
    refine s_irem hG dL_board_133 ?_
    refine s_istore hG (lv' := [(13, vI ((x10 / (7 : Int32)) - (x10 / (7 : Int32)) / (3 : Int32) * (3 : Int32))), (12, vI t0), (0, vR 41), (1, vI p1), (2, vR 0), (3, vR 36), (4, vR 37), (5, vR 38), (6, vR 39), (7, vR 40), (8, vI x8), (9, vI x9), (10, vI x10), (11, vI x11)]) dL_board_134 (by decide) rfl ?_
    refine s_iload hG dL_board_136 rfl ?_
    refine s_iconst hG (v := (2 : Int32)) dL_board_138 (by decide) ?_
    refine s_icmp_ge hG (tgt := 266) dL_board_139 (by decide) ?_ ?_
    · refine s_iload hG dL_board_266 rfl ?_
      refine s_iconst hG (v := (5 : Int32)) dL_board_268 (by decide) ?_
      refine s_icmp_ge hG (tgt := 294) dL_board_269 (by decide) ?_ ?_
      · refine s_iload hG dL_board_294 rfl ?_
        refine s_bipush hG (v := (17 : Int32)) dL_board_296 (by decide) ?_
        refine s_icmp_ge hG (tgt := 370) dL_board_298 (by decide) ?_ ?_
        · refine s_iload hG dL_board_370 rfl ?_
          refine s_bipush hG (v := (22 : Int32)) dL_board_372 (by decide) ?_
          refine s_icmp_ge hG (tgt := 399) dL_board_374 (by decide) ?_ ?_
          · refine s_aload hG dL_board_399 rfl ?_
            refine s_iconst hG (v := (3 : Int32)) dL_board_401 (by decide) ?_
            refine s_iaload hG dL_board_402 (rfl) ?_
            refine s_bipush hG (v := (10 : Int32)) dL_board_403 (by decide) ?_
            refine s_icmp_ge hG (tgt := 518) dL_board_405 (by decide) ?_ ?_
            · refine s_aload hG dL_board_518 rfl ?_
              refine s_iconst hG (v := (4 : Int32)) dL_board_520 (by decide) ?_
              refine s_iaload hG dL_board_521 (rfl) ?_
              refine s_bipush hG (v := (10 : Int32)) dL_board_522 (by decide) ?_
              refine s_icmp_ge hG (tgt := 546) dL_board_524 (by decide) ?_ ?_
              · refine s_aload_n hG dL_board_546 rfl ?_
                refine s_cvI hG (as := []) (st := []) (rm := rm_X7_make) dL_board_547 ml_RL_158 (rfl) (tb14 (mem_i 14 rfl)) rfl ⟨rfl, rfl⟩ ⟨Nat.le_of_ble_eq_true rfl, Nat.le_of_ble_eq_true rfl⟩ (Nat.le_of_ble_eq_true rfl) ⟨by omega, by omega⟩ rfl (fun o h => c_X7_make l  _ o h) (fun o547 => ?_)
                refine s_iconst hG (v := (-1 : Int32)) dL_board_550 (by decide) ?_
                refine s_icmp_ne hG (tgt := 558) dL_board_551 (by decide) ?_ ?_
                · refine s_iconst hG (v := (0 : Int32)) dL_board_558 (by decide) ?_
                  refine s_lv hG [2, 3, 4, 5, 6, 7, 8, 9, 10, 11] rfl ?_
                  exact hb559 _ _ hm41 hrec41 _ _ (by omega) (by omega) _ _ _ _
                · refine s_iconst hG (v := (1 : Int32)) dL_board_554 (by decide) ?_
                  refine s_goto hG (tgt := 559) dL_board_555 (by decide) ?_
                  refine s_lv hG [2, 3, 4, 5, 6, 7, 8, 9, 10, 11] rfl ?_
                  exact hb559 _ _ hm41 hrec41 _ _ (by omega) (by omega) _ _ _ _
              · refine s_aload_n hG dL_board_527 rfl ?_
                refine s_cvI hG (as := []) (st := []) (rm := rm_X7_make) dL_board_528 ml_RL_158 (rfl) (tb14 (mem_i 14 rfl)) rfl ⟨rfl, rfl⟩ ⟨Nat.le_of_ble_eq_true rfl, Nat.le_of_ble_eq_true rfl⟩ (Nat.le_of_ble_eq_true rfl) ⟨by omega, by omega⟩ rfl (fun o h => c_X7_make l  _ o h) (fun o528 => ?_)
                refine s_aload hG dL_board_531 rfl ?_
                refine s_iconst hG (v := (4 : Int32)) dL_board_533 (by decide) ?_
                refine s_iaload hG dL_board_534 (rfl) ?_
                refine s_icmp_ne hG (tgt := 542) dL_board_535 (by decide) ?_ ?_
                · refine s_iconst hG (v := (0 : Int32)) dL_board_542 (by decide) ?_
                  refine s_goto hG (tgt := 559) dL_board_543 (by decide) ?_
                  refine s_lv hG [2, 3, 4, 5, 6, 7, 8, 9, 10, 11] rfl ?_
                  exact hb559 _ _ hm41 hrec41 _ _ (by omega) (by omega) _ _ _ _
                · refine s_iconst hG (v := (1 : Int32)) dL_board_538 (by decide) ?_
                  refine s_goto hG (tgt := 559) dL_board_539 (by decide) ?_
                  refine s_lv hG [2, 3, 4, 5, 6, 7, 8, 9, 10, 11] rfl ?_
                  exact hb559 _ _ hm41 hrec41 _ _ (by omega) (by omega) _ _ _ _
            · refine s_aload_n hG dL_board_408 rfl ?_
              refine s_dI hG (as := []) (st := []) (rm := rm_X7_ask) (rmT := rmT_X7_ask) (by decide) dL_board_409 ml_RL_155 (rfl) (tb13 (mem_i 14 rfl)) rfl ⟨rfl, rfl⟩ ⟨Nat.le_of_ble_eq_true rfl, Nat.le_of_ble_eq_true rfl⟩ (Nat.le_of_ble_eq_true rfl) ⟨by omega, by omega⟩ rfl (fun o h => c_X7_ask l hl9  _ o h) (fun o409 => ?_)
              refine s_aload hG dL_board_412 rfl ?_
              refine s_iconst hG (v := (3 : Int32)) dL_board_414 (by decide) ?_
              refine s_iaload hG dL_board_415 (rfl) ?_
              refine s_icmp_ne hG (tgt := 423) dL_board_416 (by decide) ?_ ?_
              · refine s_iconst hG (v := (0 : Int32)) dL_board_423 (by decide) ?_
                refine s_lv hG [2, 3, 4, 5, 6, 7, 8, 9, 10, 11, 13] rfl ?_
                exact hb424 _ _ hm41 hrec41 _ _ (by omega) (by omega) _ _ _ _ _
              · refine s_iconst hG (v := (1 : Int32)) dL_board_419 (by decide) ?_
                refine s_goto hG (tgt := 424) dL_board_420 (by decide) ?_
                refine s_lv hG [2, 3, 4, 5, 6, 7, 8, 9, 10, 11, 13] rfl ?_
                exact hb424 _ _ hm41 hrec41 _ _ (by omega) (by omega) _ _ _ _ _
          · refine s_aload_n hG dL_board_377 rfl ?_
            refine s_iload hG dL_board_378 rfl ?_
            refine s_iload hG dL_board_380 rfl ?_
            refine s_iload hG dL_board_382 rfl ?_
            refine s_aload_n hG dL_board_384 rfl ?_
            refine s_aload hG dL_board_385 rfl ?_
            refine s_aload hG dL_board_387 rfl ?_
            refine s_aload hG dL_board_389 rfl ?_
            refine s_csKI hG (as := [vR 0, vI ((x10 / (7 : Int32)) - (x10 / (7 : Int32)) / (3 : Int32) * (3 : Int32)), vI x10, vI x11, vR 36, vR 38, vR 39, vR 40]) (st := []) (rm := rm_L_goes) (KK := 3) (NN := 18) dL_board_391 ml_RL_151 (tb12 (mem_i 28 rfl)) rfl ⟨rfl, rfl⟩ ⟨Nat.le_of_ble_eq_true rfl, Nat.le_of_ble_eq_true rfl⟩ (Nat.le_of_ble_eq_true rfl) ⟨by omega, by omega⟩ rfl (fun o h => c_L_goes l hl9 _ _ _ _ o h) (fun o391 => ?_)
            refine s_istore hG (lv' := [(14, vI o391.2), (13, vI ((x10 / (7 : Int32)) - (x10 / (7 : Int32)) / (3 : Int32) * (3 : Int32))), (12, vI t0), (0, vR 41), (1, vI p1), (2, vR 0), (3, vR 36), (4, vR 37), (5, vR 38), (6, vR 39), (7, vR 40), (8, vI x8), (9, vI x9), (10, vI x10), (11, vI x11)]) dL_board_394 (by decide) rfl ?_
            refine s_goto hG (tgt := 582) dL_board_396 (by decide) ?_
            refine s_lv hG [3, 4, 5, 6, 7, 8, 9, 10, 11, 12, 0] rfl ?_
            exact hb582 _ _ hm41 hrec41 _ _ (by omega) (by omega) _ _ _ _
        · refine s_aload_n hG dL_board_301 rfl ?_
          refine s_iload hG dL_board_302 rfl ?_
          refine s_bipush hG (v := (8 : Int32)) dL_board_304 (by decide) ?_
          refine s_icmp_ge hG (tgt := 313) dL_board_306 (by decide) ?_ ?_
          · refine s_iload hG dL_board_313 rfl ?_
            refine s_bipush hG (v := (9 : Int32)) dL_board_315 (by decide) ?_
            refine s_icmp_ge hG (tgt := 324) dL_board_317 (by decide) ?_ ?_
            · refine s_iload hG dL_board_324 rfl ?_
              refine s_bipush hG (v := (15 : Int32)) dL_board_326 (by decide) ?_
              refine s_icmp_ge hG (tgt := 335) dL_board_328 (by decide) ?_ ?_
              · refine s_iload hG dL_board_335 rfl ?_
                refine s_bipush hG (v := (15 : Int32)) dL_board_337 (by decide) ?_
                refine s_icmp_ne hG (tgt := 346) dL_board_339 (by decide) ?_ ?_
                · refine s_iconst hG (v := (5 : Int32)) dL_board_346 (by decide) ?_
                  refine s_lv hG [2, 3, 4, 5, 6, 7, 8, 9, 10, 11, 12, 13, 0] rfl ?_
                  exact hb347 _ _ hm41 hrec41 _ _ (by omega) (by omega) _ _ _ _ _ _ _
                · refine s_iconst hG (v := (3 : Int32)) dL_board_342 (by decide) ?_
                  refine s_goto hG (tgt := 347) dL_board_343 (by decide) ?_
                  refine s_lv hG [2, 3, 4, 5, 6, 7, 8, 9, 10, 11, 12, 13, 0] rfl ?_
                  exact hb347 _ _ hm41 hrec41 _ _ (by omega) (by omega) _ _ _ _ _ _ _
              · refine s_iconst hG (v := (4 : Int32)) dL_board_331 (by decide) ?_
                refine s_goto hG (tgt := 347) dL_board_332 (by decide) ?_
                refine s_lv hG [2, 3, 4, 5, 6, 7, 8, 9, 10, 11, 12, 13, 0] rfl ?_
                exact hb347 _ _ hm41 hrec41 _ _ (by omega) (by omega) _ _ _ _ _ _ _
            · refine s_iconst hG (v := (3 : Int32)) dL_board_320 (by decide) ?_
              refine s_goto hG (tgt := 347) dL_board_321 (by decide) ?_
              refine s_lv hG [2, 3, 4, 5, 6, 7, 8, 9, 10, 11, 12, 13, 0] rfl ?_
              exact hb347 _ _ hm41 hrec41 _ _ (by omega) (by omega) _ _ _ _ _ _ _
          · refine s_iconst hG (v := (2 : Int32)) dL_board_309 (by decide) ?_
            refine s_goto hG (tgt := 347) dL_board_310 (by decide) ?_
            refine s_lv hG [2, 3, 4, 5, 6, 7, 8, 9, 10, 11, 12, 13, 0] rfl ?_
            exact hb347 _ _ hm41 hrec41 _ _ (by omega) (by omega) _ _ _ _ _ _ _
      · refine s_aload_n hG dL_board_272 rfl ?_
        refine s_iload hG dL_board_273 rfl ?_
        refine s_iload hG dL_board_275 rfl ?_
        refine s_iload hG dL_board_277 rfl ?_
        refine s_aload_n hG dL_board_279 rfl ?_
        refine s_aload hG dL_board_280 rfl ?_
        refine s_aload hG dL_board_282 rfl ?_
        refine s_iload hG dL_board_284 rfl ?_
        refine s_csKI hG (as := [vR 0, vI ((x10 / (7 : Int32)) - (x10 / (7 : Int32)) / (3 : Int32) * (3 : Int32)), vI x10, vI x11, vR 36, vR 38, vR 39, vI x8]) (st := []) (rm := rm_L_adds) (KK := 1) (NN := 6) dL_board_286 ml_RL_144 (tb11 (mem_i 24 rfl)) rfl ⟨rfl, rfl⟩ ⟨Nat.le_of_ble_eq_true rfl, Nat.le_of_ble_eq_true rfl⟩ (Nat.le_of_ble_eq_true rfl) ⟨by omega, by omega⟩ rfl (fun o h => c_L_adds l hl9 _ _ _ _ _ o h) (fun o286 => ?_)
        refine s_istore hG (lv' := [(14, vI o286.2), (13, vI ((x10 / (7 : Int32)) - (x10 / (7 : Int32)) / (3 : Int32) * (3 : Int32))), (12, vI t0), (0, vR 41), (1, vI p1), (2, vR 0), (3, vR 36), (4, vR 37), (5, vR 38), (6, vR 39), (7, vR 40), (8, vI x8), (9, vI x9), (10, vI x10), (11, vI x11)]) dL_board_289 (by decide) rfl ?_
        refine s_goto hG (tgt := 582) dL_board_291 (by decide) ?_
        refine s_lv hG [3, 4, 5, 6, 7, 8, 9, 10, 11, 12, 0] rfl ?_
        exact hb582 _ _ hm41 hrec41 _ _ (by omega) (by omega) _ _ _ _
    · refine s_iload hG dL_board_142 rfl ?_
      refine s_if_ne hG (tgt := 165) dL_board_144 (by decide) ?_ ?_
      · refine s_aload_n hG dL_board_165 rfl ?_
        refine s_cvI hG (as := []) (st := []) (rm := rm_X7_clearSpelled) dL_board_166 ml_RL_141 (rfl) (tb11 (mem_i 21 rfl)) rfl ⟨rfl, rfl⟩ ⟨Nat.le_of_ble_eq_true rfl, Nat.le_of_ble_eq_true rfl⟩ (Nat.le_of_ble_eq_true rfl) ⟨by omega, by omega⟩ rfl (fun o h => c_X7_clearSpelled l  _ o h) (fun o166 => ?_)
        refine s_lv hG [2, 3, 4, 5, 6, 7, 8, 9, 10, 11, 1] rfl ?_
        exact hb169 _ _ hm41 hrec41 _ _ (by omega) (by omega) _ _ _ _ _
      · refine s_aload_n hG dL_board_147 rfl ?_
        refine s_bipush hG (v := (8 : Int32)) dL_board_148 (by decide) ?_
        refine s_iload hG dL_board_150 rfl ?_
        refine s_bipush hG (v := (27 : Int32)) dL_board_152 (by decide) ?_
        refine s_irem hG dL_board_154 ?_
        refine s_iconst hG (v := (0 : Int32)) dL_board_155 (by decide) ?_
        refine s_iconst hG (v := (0 : Int32)) dL_board_156 (by decide) ?_
        refine s_iconst hG (v := (0 : Int32)) dL_board_157 (by decide) ?_
        refine s_iconst hG (v := (0 : Int32)) dL_board_158 (by decide) ?_
        refine s_aY hG (as := [vR 0, vI (8 : Int32), vI (x11 - x11 / (27 : Int32) * (27 : Int32)), vI (0 : Int32), vI (0 : Int32), vI (0 : Int32), vI (0 : Int32)]) (st := []) (rm := rm_L_asks) (hh := hh_L_asks) dL_board_159 ml_RL_68 (tb4 (mem_i 23 rfl)) (exin (mem_i 45 (by decide +kernel))) rfl ⟨rfl, rfl⟩ ⟨Nat.le_of_ble_eq_true rfl, Nat.le_of_ble_eq_true rfl⟩ (Nat.le_of_ble_eq_true rfl) ⟨by omega, by omega⟩ rfl (fun o mc h01 h => c_L_asks l hl9 _ _ _ _ _ _ _ o mc h01 h) (fun o159 => ?_)
        refine s_goto hG (tgt := 169) dL_board_162 (by decide) ?_
        refine s_lv hG [2, 3, 4, 5, 6, 7, 8, 9, 10, 11, 1] rfl ?_
        exact hb169 _ _ hm41 hrec41 _ _ (by omega) (by omega) _ _ _ _ _
  have hb41 : ∀ (k n : Nat), k + (117 * 67 + 101 + 0) ≤ 7981 → n + 6 * (117 * 67 + 101 + 0) ≤ 52297 → ∀ (S : HS) (x8 : Int32) (x9 : Int32), f_L_board_b41 xs L p1 S x8 x9 = some out → G k n S [(0, vR 41), (1, vI p1), (2, vR 0), (3, vR 36), (4, vR 37), (5, vR 38), (6, vR 39), (7, vR 40), (8, vI x8), (9, vI x9)] 41 [] := by
    suffices H : ∀ (nf k n : Nat), k + (117 * nf + 101 + 0) ≤ 7981 → n + 6 * (117 * nf + 101 + 0) ≤ 52297 → ∀ (S : HS) (x8 : Int32) (x9 : Int32), fx (F_L_board_b41 xs L p1) nf (S, x8, x9) = some out → G k n S [(0, vR 41), (1, vI p1), (2, vR 0), (3, vR 36), (4, vR 37), (5, vR 38), (6, vR 39), (7, vR 40), (8, vI x8), (9, vI x9)] 41 [] from fun k n hk hn S x8 x9 => H 67 k n hk hn S x8 x9
    intro nf
    induction nf with
    | zero => intro k n _ _ S x8 x9 h9; cases h9
    | succ nf hrec41 =>
      intro k n hk0 hn0 S x8 x9
      show F_L_board_b41 xs L p1 (fx (F_L_board_b41 xs L p1) nf) (S, x8, x9) = some out → _
      generalize fx (F_L_board_b41 xs L p1) nf = rec41 at hrec41
      obtain ⟨m41, hq41⟩ : ∃ m, m = 117 * nf + 101 + 0 := ⟨_, rfl⟩
      rw [← hq41] at hrec41
      have hm41 : 101 + 0 ≤ m41 := by omega
      have hk : k + (117 + m41) ≤ 7981 := by omega
      have hn : n + 6 * (117 + m41) ≤ 52297 := by omega
      clear hk0 hn0 hq41
      unfold F_L_board_b41
      dsimp only
      refine s_iload hG dL_board_41 rfl ?_
      refine s_bipush hG (v := (66 : Int32)) dL_board_43 (by decide) ?_
      refine s_icmp_ge hG (tgt := 627) dL_board_45 (by decide) ?_ ?_
      · refine s_aload_n hG dL_board_627 rfl ?_
        refine s_aload_n hG dL_board_628 rfl ?_
        refine s_aload hG dL_board_629 rfl ?_
        refine s_aload hG dL_board_631 rfl ?_
        refine s_csKI hG (as := [vR 0, vR 36, vR 37, vR 38]) (st := []) (rm := rm_L_isBoard) (KK := 101) (NN := 606) dL_board_633 ml_RL_169 (tb15 (mem_i 24 rfl)) rfl ⟨rfl, rfl⟩ ⟨Nat.le_of_ble_eq_true rfl, Nat.le_of_ble_eq_true rfl⟩ (Nat.le_of_ble_eq_true rfl) ⟨by omega, by omega⟩ rfl (fun o h => c_L_isBoard l hl9  _ o h) (fun o633 => ?_)
        exact s_rKZ hR (by omega) (by omega) dL_board_636
      · refine s_aload_n hG dL_board_48 rfl ?_
        refine s_iload_n hG dL_board_49 rfl ?_
        refine s_iconst hG (v := (3 : Int32)) dL_board_50 (by decide) ?_
        refine s_iload hG dL_board_51 rfl ?_
        refine s_imul hG dL_board_53 ?_
        refine s_iadd hG dL_board_54 ?_
        refine s_iconst hG (v := (1 : Int32)) dL_board_55 (by decide) ?_
        refine s_iadd hG dL_board_56 ?_
        refine s_ldc hG (v := (1073741824 : Int32)) dL_board_57 (tb4 (mem_i 16 rfl)) ?_
        refine s_csD hGL (as := [vR 41, vI ((p1 + ((3 : Int32) * x9)) + (1 : Int32)), vI (1073741824 : Int32)]) (st := []) (rm := rm_L_draw) dL_board_59 ml_RL_137 (tb4 (mem_i 19 rfl)) rfl ⟨rfl, rfl⟩ ⟨Nat.le_of_ble_eq_true rfl, Nat.le_of_ble_eq_true rfl⟩ (Nat.le_of_ble_eq_true rfl) ⟨by omega, by omega⟩ rfl (fun o h => c_L_draw l xs L _ _ _ o h) (fun o59 => ?_)
        refine s_istore hG (lv' := [(10, vI o59), (0, vR 41), (1, vI p1), (2, vR 0), (3, vR 36), (4, vR 37), (5, vR 38), (6, vR 39), (7, vR 40), (8, vI x8), (9, vI x9)]) dL_board_62 (by decide) rfl ?_
        refine s_aload_n hG dL_board_64 rfl ?_
        refine s_iload_n hG dL_board_65 rfl ?_
        refine s_iconst hG (v := (3 : Int32)) dL_board_66 (by decide) ?_
        refine s_iload hG dL_board_67 rfl ?_
        refine s_imul hG dL_board_69 ?_
        refine s_iadd hG dL_board_70 ?_
        refine s_iconst hG (v := (2 : Int32)) dL_board_71 (by decide) ?_
        refine s_iadd hG dL_board_72 ?_
        refine s_ldc hG (v := (1073741824 : Int32)) dL_board_73 (tb4 (mem_i 16 rfl)) ?_
        refine s_csD hGL (as := [vR 41, vI ((p1 + ((3 : Int32) * x9)) + (2 : Int32)), vI (1073741824 : Int32)]) (st := []) (rm := rm_L_draw) dL_board_75 ml_RL_137 (tb4 (mem_i 19 rfl)) rfl ⟨rfl, rfl⟩ ⟨Nat.le_of_ble_eq_true rfl, Nat.le_of_ble_eq_true rfl⟩ (Nat.le_of_ble_eq_true rfl) ⟨by omega, by omega⟩ rfl (fun o h => c_L_draw l xs L _ _ _ o h) (fun o75 => ?_)
        refine s_istore hG (lv' := [(11, vI o75), (10, vI o59), (0, vR 41), (1, vI p1), (2, vR 0), (3, vR 36), (4, vR 37), (5, vR 38), (6, vR 39), (7, vR 40), (8, vI x8), (9, vI x9)]) dL_board_78 (by decide) rfl ?_
        refine s_iload hG dL_board_80 rfl ?_
        refine s_iconst hG (v := (2 : Int32)) dL_board_82 (by decide) ?_
        refine s_icmp_ge hG (tgt := 90) dL_board_83 (by decide) ?_ ?_
        · refine s_iload hG dL_board_90 rfl ?_
          refine s_bipush hG (v := (7 : Int32)) dL_board_92 (by decide) ?_
          refine s_icmp_ge hG (tgt := 101) dL_board_94 (by decide) ?_ ?_
          · refine s_iload hG dL_board_101 rfl ?_
            refine s_bipush hG (v := (9 : Int32)) dL_board_103 (by decide) ?_
            refine s_icmp_ge hG (tgt := 113) dL_board_105 (by decide) ?_ ?_
            · refine s_aload_n hG dL_board_113 rfl ?_
              refine s_iload_n hG dL_board_114 rfl ?_
              refine s_iconst hG (v := (3 : Int32)) dL_board_115 (by decide) ?_
              refine s_iload hG dL_board_116 rfl ?_
              refine s_imul hG dL_board_118 ?_
              refine s_iadd hG dL_board_119 ?_
              refine s_bipush hG (v := (24 : Int32)) dL_board_120 (by decide) ?_
              refine s_csD hGL (as := [vR 41, vI (p1 + ((3 : Int32) * x9)), vI (24 : Int32)]) (st := []) (rm := rm_L_draw) dL_board_122 ml_RL_137 (tb4 (mem_i 19 rfl)) rfl ⟨rfl, rfl⟩ ⟨Nat.le_of_ble_eq_true rfl, Nat.le_of_ble_eq_true rfl⟩ (Nat.le_of_ble_eq_true rfl) ⟨by omega, by omega⟩ rfl (fun o h => c_L_draw l xs L _ _ _ o h) (fun o122 => ?_)
              refine s_lv hG [2, 3, 4, 5, 6, 7, 8, 9, 10, 11, 1, 0] rfl ?_
              exact hb125 _ _ hm41 hrec41 _ _ (by omega) (by omega) _ _ _ _ _ _
            · refine s_bipush hG (v := (9 : Int32)) dL_board_108 (by decide) ?_
              refine s_goto hG (tgt := 125) dL_board_110 (by decide) ?_
              refine s_lv hG [2, 3, 4, 5, 6, 7, 8, 9, 10, 11, 1, 0] rfl ?_
              exact hb125 _ _ hm41 hrec41 _ _ (by omega) (by omega) _ _ _ _ _ _
          · refine s_iconst hG (v := (2 : Int32)) dL_board_97 (by decide) ?_
            refine s_goto hG (tgt := 125) dL_board_98 (by decide) ?_
            refine s_lv hG [2, 3, 4, 5, 6, 7, 8, 9, 10, 11, 1, 0] rfl ?_
            exact hb125 _ _ hm41 hrec41 _ _ (by omega) (by omega) _ _ _ _ _ _
        · refine s_iconst hG (v := (0 : Int32)) dL_board_86 (by decide) ?_
          refine s_goto hG (tgt := 125) dL_board_87 (by decide) ?_
          refine s_lv hG [2, 3, 4, 5, 6, 7, 8, 9, 10, 11, 1, 0] rfl ?_
          exact hb125 _ _ hm41 hrec41 _ _ (by omega) (by omega) _ _ _ _ _ _
  exact hb41 _ _ (by omega) (by omega) _ _ _


