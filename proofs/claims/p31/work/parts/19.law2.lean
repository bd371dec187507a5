/-! 19.law2: by program (wip/p31/gen.py) -/
theorem dL_isBoard_0 : decode cL_isBoard 0 = .ok (.iconst 0, 1) := by decide +kernel
theorem dL_isBoard_1 : decode cL_isBoard 1 = .ok (.istore 4, 2) := by decide +kernel
theorem dL_isBoard_3 : decode cL_isBoard 3 = .ok (.iconst 1, 1) := by decide +kernel
theorem dL_isBoard_4 : decode cL_isBoard 4 = .ok (.istore 5, 2) := by decide +kernel
theorem dL_isBoard_6 : decode cL_isBoard 6 = .ok (.iconst 0, 1) := by decide +kernel
theorem dL_isBoard_7 : decode cL_isBoard 7 = .ok (.istore 6, 2) := by decide +kernel
theorem dL_isBoard_9 : decode cL_isBoard 9 = .ok (.iload 6, 2) := by decide +kernel
theorem dL_isBoard_11 : decode cL_isBoard 11 = .ok (.aload_n 3, 1) := by decide +kernel
theorem dL_isBoard_12 : decode cL_isBoard 12 = .ok (.iconst 1, 1) := by decide +kernel
theorem dL_isBoard_13 : decode cL_isBoard 13 = .ok (.iaload, 1) := by decide +kernel
theorem dL_isBoard_14 : decode cL_isBoard 14 = .ok (.if_icmp .ge 374, 3) := by decide +kernel
theorem dL_isBoard_17 : decode cL_isBoard 17 = .ok (.iload 5, 2) := by decide +kernel
theorem dL_isBoard_19 : decode cL_isBoard 19 = .ok (.ifCond .eq 369, 3) := by decide +kernel
theorem dL_isBoard_22 : decode cL_isBoard 22 = .ok (.aload_n 0, 1) := by decide +kernel
theorem dL_isBoard_23 : decode cL_isBoard 23 = .ok (.iload 6, 2) := by decide +kernel
theorem dL_isBoard_25 : decode cL_isBoard 25 = .ok (.invokevirtual 65, 3) := by decide +kernel
theorem dL_isBoard_28 : decode cL_isBoard 28 = .ok (.istore 7, 2) := by decide +kernel
theorem dL_isBoard_30 : decode cL_isBoard 30 = .ok (.iconst 0, 1) := by decide +kernel
theorem dL_isBoard_31 : decode cL_isBoard 31 = .ok (.istore 8, 2) := by decide +kernel
theorem dL_isBoard_33 : decode cL_isBoard 33 = .ok (.iload 8, 2) := by decide +kernel
theorem dL_isBoard_35 : decode cL_isBoard 35 = .ok (.iconst 4, 1) := by decide +kernel
theorem dL_isBoard_36 : decode cL_isBoard 36 = .ok (.if_icmp .ge 107, 3) := by decide +kernel
theorem dL_isBoard_39 : decode cL_isBoard 39 = .ok (.iload 5, 2) := by decide +kernel
theorem dL_isBoard_41 : decode cL_isBoard 41 = .ok (.ifCond .eq 102, 3) := by decide +kernel
theorem dL_isBoard_44 : decode cL_isBoard 44 = .ok (.aload_n 0, 1) := by decide +kernel
theorem dL_isBoard_45 : decode cL_isBoard 45 = .ok (.bipush 9, 2) := by decide +kernel
theorem dL_isBoard_47 : decode cL_isBoard 47 = .ok (.iload 6, 2) := by decide +kernel
theorem dL_isBoard_49 : decode cL_isBoard 49 = .ok (.iload 8, 2) := by decide +kernel
theorem dL_isBoard_51 : decode cL_isBoard 51 = .ok (.iconst 0, 1) := by decide +kernel
theorem dL_isBoard_52 : decode cL_isBoard 52 = .ok (.iconst 0, 1) := by decide +kernel
theorem dL_isBoard_53 : decode cL_isBoard 53 = .ok (.iconst 0, 1) := by decide +kernel
theorem dL_isBoard_54 : decode cL_isBoard 54 = .ok (.invokestatic 68, 3) := by decide +kernel
theorem dL_isBoard_57 : decode cL_isBoard 57 = .ok (.istore 9, 2) := by decide +kernel
theorem dL_isBoard_59 : decode cL_isBoard 59 = .ok (.iload 7, 2) := by decide +kernel
theorem dL_isBoard_61 : decode cL_isBoard 61 = .ok (.ifCond .eq 61, 3) := by decide +kernel
theorem dL_isBoard_64 : decode cL_isBoard 64 = .ok (.aload_n 0, 1) := by decide +kernel
theorem dL_isBoard_65 : decode cL_isBoard 65 = .ok (.iload 6, 2) := by decide +kernel
theorem dL_isBoard_67 : decode cL_isBoard 67 = .ok (.iload 8, 2) := by decide +kernel
theorem dL_isBoard_69 : decode cL_isBoard 69 = .ok (.invokevirtual 74, 3) := by decide +kernel
theorem dL_isBoard_72 : decode cL_isBoard 72 = .ok (.iload 9, 2) := by decide +kernel
theorem dL_isBoard_74 : decode cL_isBoard 74 = .ok (.if_icmp .ne 44, 3) := by decide +kernel
theorem dL_isBoard_77 : decode cL_isBoard 77 = .ok (.iload 8, 2) := by decide +kernel
theorem dL_isBoard_79 : decode cL_isBoard 79 = .ok (.iconst 2, 1) := by decide +kernel
theorem dL_isBoard_80 : decode cL_isBoard 80 = .ok (.if_icmp .ge 22, 3) := by decide +kernel
theorem dL_isBoard_83 : decode cL_isBoard 83 = .ok (.iload 9, 2) := by decide +kernel
theorem dL_isBoard_85 : decode cL_isBoard 85 = .ok (.sipush (-999), 3) := by decide +kernel
theorem dL_isBoard_88 : decode cL_isBoard 88 = .ok (.if_icmp .lt 30, 3) := by decide +kernel
theorem dL_isBoard_91 : decode cL_isBoard 91 = .ok (.iload 9, 2) := by decide +kernel
theorem dL_isBoard_93 : decode cL_isBoard 93 = .ok (.sipush 999, 3) := by decide +kernel
theorem dL_isBoard_96 : decode cL_isBoard 96 = .ok (.if_icmp .gt 22, 3) := by decide +kernel
theorem dL_isBoard_99 : decode cL_isBoard 99 = .ok (.goto 15, 3) := by decide +kernel
theorem dL_isBoard_102 : decode cL_isBoard 102 = .ok (.iload 9, 2) := by decide +kernel
theorem dL_isBoard_104 : decode cL_isBoard 104 = .ok (.ifCond .le 14, 3) := by decide +kernel
theorem dL_isBoard_107 : decode cL_isBoard 107 = .ok (.iload 9, 2) := by decide +kernel
theorem dL_isBoard_109 : decode cL_isBoard 109 = .ok (.bipush 100, 2) := by decide +kernel
theorem dL_isBoard_111 : decode cL_isBoard 111 = .ok (.if_icmp .ge 7, 3) := by decide +kernel
theorem dL_isBoard_114 : decode cL_isBoard 114 = .ok (.iconst 1, 1) := by decide +kernel
theorem dL_isBoard_115 : decode cL_isBoard 115 = .ok (.goto 20, 3) := by decide +kernel
theorem dL_isBoard_118 : decode cL_isBoard 118 = .ok (.iconst 0, 1) := by decide +kernel
theorem dL_isBoard_119 : decode cL_isBoard 119 = .ok (.goto 16, 3) := by decide +kernel
theorem dL_isBoard_122 : decode cL_isBoard 122 = .ok (.iload 9, 2) := by decide +kernel
theorem dL_isBoard_124 : decode cL_isBoard 124 = .ok (.sipush (-5004), 3) := by decide +kernel
theorem dL_isBoard_127 : decode cL_isBoard 127 = .ok (.if_icmp .ne 7, 3) := by decide +kernel
theorem dL_isBoard_130 : decode cL_isBoard 130 = .ok (.iconst 1, 1) := by decide +kernel
theorem dL_isBoard_131 : decode cL_isBoard 131 = .ok (.goto 4, 3) := by decide +kernel
theorem dL_isBoard_134 : decode cL_isBoard 134 = .ok (.iconst 0, 1) := by decide +kernel
theorem dL_isBoard_135 : decode cL_isBoard 135 = .ok (.istore 5, 2) := by decide +kernel
theorem dL_isBoard_137 : decode cL_isBoard 137 = .ok (.iinc 8 1, 3) := by decide +kernel
theorem dL_isBoard_140 : decode cL_isBoard 140 = .ok (.goto (-107), 3) := by decide +kernel
theorem dL_isBoard_143 : decode cL_isBoard 143 = .ok (.iconst 0, 1) := by decide +kernel
theorem dL_isBoard_144 : decode cL_isBoard 144 = .ok (.istore 8, 2) := by decide +kernel
theorem dL_isBoard_146 : decode cL_isBoard 146 = .ok (.iload 8, 2) := by decide +kernel
theorem dL_isBoard_148 : decode cL_isBoard 148 = .ok (.iconst 2, 1) := by decide +kernel
theorem dL_isBoard_149 : decode cL_isBoard 149 = .ok (.if_icmp .ge 233, 3) := by decide +kernel
theorem dL_isBoard_152 : decode cL_isBoard 152 = .ok (.iload 5, 2) := by decide +kernel
theorem dL_isBoard_154 : decode cL_isBoard 154 = .ok (.ifCond .eq 228, 3) := by decide +kernel
theorem dL_isBoard_157 : decode cL_isBoard 157 = .ok (.iconst 1, 1) := by decide +kernel
theorem dL_isBoard_158 : decode cL_isBoard 158 = .ok (.iload 6, 2) := by decide +kernel
theorem dL_isBoard_160 : decode cL_isBoard 160 = .ok (.ishl, 1) := by decide +kernel
theorem dL_isBoard_161 : decode cL_isBoard 161 = .ok (.istore 9, 2) := by decide +kernel
theorem dL_isBoard_163 : decode cL_isBoard 163 = .ok (.iconst 0, 1) := by decide +kernel
theorem dL_isBoard_164 : decode cL_isBoard 164 = .ok (.istore 10, 2) := by decide +kernel
theorem dL_isBoard_166 : decode cL_isBoard 166 = .ok (.iconst 0, 1) := by decide +kernel
theorem dL_isBoard_167 : decode cL_isBoard 167 = .ok (.istore 11, 2) := by decide +kernel
theorem dL_isBoard_169 : decode cL_isBoard 169 = .ok (.iload 9, 2) := by decide +kernel
theorem dL_isBoard_171 : decode cL_isBoard 171 = .ok (.iload 10, 2) := by decide +kernel
theorem dL_isBoard_173 : decode cL_isBoard 173 = .ok (.if_icmp .eq 141, 3) := by decide +kernel
theorem dL_isBoard_176 : decode cL_isBoard 176 = .ok (.iload 9, 2) := by decide +kernel
theorem dL_isBoard_178 : decode cL_isBoard 178 = .ok (.istore 10, 2) := by decide +kernel
theorem dL_isBoard_180 : decode cL_isBoard 180 = .ok (.iconst 0, 1) := by decide +kernel
theorem dL_isBoard_181 : decode cL_isBoard 181 = .ok (.istore 12, 2) := by decide +kernel
theorem dL_isBoard_183 : decode cL_isBoard 183 = .ok (.iload 12, 2) := by decide +kernel
theorem dL_isBoard_185 : decode cL_isBoard 185 = .ok (.aload_n 3, 1) := by decide +kernel
theorem dL_isBoard_186 : decode cL_isBoard 186 = .ok (.iconst 2, 1) := by decide +kernel
theorem dL_isBoard_187 : decode cL_isBoard 187 = .ok (.iaload, 1) := by decide +kernel
theorem dL_isBoard_188 : decode cL_isBoard 188 = .ok (.if_icmp .ge 123, 3) := by decide +kernel
theorem dL_isBoard_191 : decode cL_isBoard 191 = .ok (.aload_n 2, 1) := by decide +kernel
theorem dL_isBoard_192 : decode cL_isBoard 192 = .ok (.iload 12, 2) := by decide +kernel
theorem dL_isBoard_194 : decode cL_isBoard 194 = .ok (.iaload, 1) := by decide +kernel
theorem dL_isBoard_195 : decode cL_isBoard 195 = .ok (.iconst 0, 1) := by decide +kernel
theorem dL_isBoard_196 : decode cL_isBoard 196 = .ok (.iconst 3, 1) := by decide +kernel
theorem dL_isBoard_197 : decode cL_isBoard 197 = .ok (.invokestatic 77, 3) := by decide +kernel
theorem dL_isBoard_200 : decode cL_isBoard 200 = .ok (.istore 13, 2) := by decide +kernel
theorem dL_isBoard_202 : decode cL_isBoard 202 = .ok (.aload_n 0, 1) := by decide +kernel
theorem dL_isBoard_203 : decode cL_isBoard 203 = .ok (.iload 12, 2) := by decide +kernel
theorem dL_isBoard_205 : decode cL_isBoard 205 = .ok (.invokevirtual 80, 3) := by decide +kernel
theorem dL_isBoard_208 : decode cL_isBoard 208 = .ok (.ifCond .eq 44, 3) := by decide +kernel
theorem dL_isBoard_211 : decode cL_isBoard 211 = .ok (.iload 13, 2) := by decide +kernel
theorem dL_isBoard_213 : decode cL_isBoard 213 = .ok (.bipush 6, 2) := by decide +kernel
theorem dL_isBoard_215 : decode cL_isBoard 215 = .ok (.if_icmp .eq 33, 3) := by decide +kernel
theorem dL_isBoard_218 : decode cL_isBoard 218 = .ok (.iload 13, 2) := by decide +kernel
theorem dL_isBoard_220 : decode cL_isBoard 220 = .ok (.iconst 1, 1) := by decide +kernel
theorem dL_isBoard_221 : decode cL_isBoard 221 = .ok (.if_icmp .le 31, 3) := by decide +kernel
theorem dL_isBoard_224 : decode cL_isBoard 224 = .ok (.iload 13, 2) := by decide +kernel
theorem dL_isBoard_226 : decode cL_isBoard 226 = .ok (.iconst 3, 1) := by decide +kernel
theorem dL_isBoard_227 : decode cL_isBoard 227 = .ok (.if_icmp .le 7, 3) := by decide +kernel
theorem dL_isBoard_230 : decode cL_isBoard 230 = .ok (.iconst 1, 1) := by decide +kernel
theorem dL_isBoard_231 : decode cL_isBoard 231 = .ok (.goto 4, 3) := by decide +kernel
theorem dL_isBoard_234 : decode cL_isBoard 234 = .ok (.iconst 0, 1) := by decide +kernel
theorem dL_isBoard_235 : decode cL_isBoard 235 = .ok (.iload 8, 2) := by decide +kernel
theorem dL_isBoard_237 : decode cL_isBoard 237 = .ok (.ifCond .le 7, 3) := by decide +kernel
theorem dL_isBoard_240 : decode cL_isBoard 240 = .ok (.iconst 1, 1) := by decide +kernel
theorem dL_isBoard_241 : decode cL_isBoard 241 = .ok (.goto 4, 3) := by decide +kernel
theorem dL_isBoard_244 : decode cL_isBoard 244 = .ok (.iconst 0, 1) := by decide +kernel
theorem dL_isBoard_245 : decode cL_isBoard 245 = .ok (.if_icmp .ne 7, 3) := by decide +kernel
theorem dL_isBoard_248 : decode cL_isBoard 248 = .ok (.iconst 1, 1) := by decide +kernel
theorem dL_isBoard_249 : decode cL_isBoard 249 = .ok (.goto 4, 3) := by decide +kernel
theorem dL_isBoard_252 : decode cL_isBoard 252 = .ok (.iconst 0, 1) := by decide +kernel
theorem dL_isBoard_253 : decode cL_isBoard 253 = .ok (.istore 14, 2) := by decide +kernel
theorem dL_isBoard_255 : decode cL_isBoard 255 = .ok (.iconst 1, 1) := by decide +kernel
theorem dL_isBoard_256 : decode cL_isBoard 256 = .ok (.aload_n 2, 1) := by decide +kernel
theorem dL_isBoard_257 : decode cL_isBoard 257 = .ok (.iload 12, 2) := by decide +kernel
theorem dL_isBoard_259 : decode cL_isBoard 259 = .ok (.iaload, 1) := by decide +kernel
theorem dL_isBoard_260 : decode cL_isBoard 260 = .ok (.iconst 3, 1) := by decide +kernel
theorem dL_isBoard_261 : decode cL_isBoard 261 = .ok (.iconst 4, 1) := by decide +kernel
theorem dL_isBoard_262 : decode cL_isBoard 262 = .ok (.invokestatic 77, 3) := by decide +kernel
theorem dL_isBoard_265 : decode cL_isBoard 265 = .ok (.ishl, 1) := by decide +kernel
theorem dL_isBoard_266 : decode cL_isBoard 266 = .ok (.iconst 1, 1) := by decide +kernel
theorem dL_isBoard_267 : decode cL_isBoard 267 = .ok (.aload_n 2, 1) := by decide +kernel
theorem dL_isBoard_268 : decode cL_isBoard 268 = .ok (.iload 12, 2) := by decide +kernel
theorem dL_isBoard_270 : decode cL_isBoard 270 = .ok (.iaload, 1) := by decide +kernel
theorem dL_isBoard_271 : decode cL_isBoard 271 = .ok (.bipush 7, 2) := by decide +kernel
theorem dL_isBoard_273 : decode cL_isBoard 273 = .ok (.iconst 4, 1) := by decide +kernel
theorem dL_isBoard_274 : decode cL_isBoard 274 = .ok (.invokestatic 77, 3) := by decide +kernel
theorem dL_isBoard_277 : decode cL_isBoard 277 = .ok (.ishl, 1) := by decide +kernel
theorem dL_isBoard_278 : decode cL_isBoard 278 = .ok (.ior, 1) := by decide +kernel
theorem dL_isBoard_279 : decode cL_isBoard 279 = .ok (.istore 15, 2) := by decide +kernel
theorem dL_isBoard_281 : decode cL_isBoard 281 = .ok (.iload 9, 2) := by decide +kernel
theorem dL_isBoard_283 : decode cL_isBoard 283 = .ok (.iload 14, 2) := by decide +kernel
theorem dL_isBoard_285 : decode cL_isBoard 285 = .ok (.ifCond .eq 16, 3) := by decide +kernel
theorem dL_isBoard_288 : decode cL_isBoard 288 = .ok (.iload 9, 2) := by decide +kernel
theorem dL_isBoard_290 : decode cL_isBoard 290 = .ok (.iload 15, 2) := by decide +kernel
theorem dL_isBoard_292 : decode cL_isBoard 292 = .ok (.iand, 1) := by decide +kernel
theorem dL_isBoard_293 : decode cL_isBoard 293 = .ok (.ifCond .eq 8, 3) := by decide +kernel
theorem dL_isBoard_296 : decode cL_isBoard 296 = .ok (.iload 15, 2) := by decide +kernel
theorem dL_isBoard_298 : decode cL_isBoard 298 = .ok (.goto 4, 3) := by decide +kernel
theorem dL_isBoard_301 : decode cL_isBoard 301 = .ok (.iconst 0, 1) := by decide +kernel
theorem dL_isBoard_302 : decode cL_isBoard 302 = .ok (.ior, 1) := by decide +kernel
theorem dL_isBoard_303 : decode cL_isBoard 303 = .ok (.istore 9, 2) := by decide +kernel
theorem dL_isBoard_305 : decode cL_isBoard 305 = .ok (.iinc 12 1, 3) := by decide +kernel
theorem dL_isBoard_308 : decode cL_isBoard 308 = .ok (.goto (-125), 3) := by decide +kernel
theorem dL_isBoard_311 : decode cL_isBoard 311 = .ok (.goto (-142), 3) := by decide +kernel
theorem dL_isBoard_314 : decode cL_isBoard 314 = .ok (.iload 9, 2) := by decide +kernel
theorem dL_isBoard_316 : decode cL_isBoard 316 = .ok (.istore 12, 2) := by decide +kernel
theorem dL_isBoard_318 : decode cL_isBoard 318 = .ok (.iload 12, 2) := by decide +kernel
theorem dL_isBoard_320 : decode cL_isBoard 320 = .ok (.ifCond .le 18, 3) := by decide +kernel
theorem dL_isBoard_323 : decode cL_isBoard 323 = .ok (.iinc 11 1, 3) := by decide +kernel
theorem dL_isBoard_326 : decode cL_isBoard 326 = .ok (.iload 12, 2) := by decide +kernel
theorem dL_isBoard_328 : decode cL_isBoard 328 = .ok (.iload 12, 2) := by decide +kernel
theorem dL_isBoard_330 : decode cL_isBoard 330 = .ok (.iconst 1, 1) := by decide +kernel
theorem dL_isBoard_331 : decode cL_isBoard 331 = .ok (.isub, 1) := by decide +kernel
theorem dL_isBoard_332 : decode cL_isBoard 332 = .ok (.iand, 1) := by decide +kernel
theorem dL_isBoard_333 : decode cL_isBoard 333 = .ok (.istore 12, 2) := by decide +kernel
theorem dL_isBoard_335 : decode cL_isBoard 335 = .ok (.goto (-17), 3) := by decide +kernel
theorem dL_isBoard_338 : decode cL_isBoard 338 = .ok (.aload_n 0, 1) := by decide +kernel
theorem dL_isBoard_339 : decode cL_isBoard 339 = .ok (.bipush 11, 2) := by decide +kernel
theorem dL_isBoard_341 : decode cL_isBoard 341 = .ok (.iload 6, 2) := by decide +kernel
theorem dL_isBoard_343 : decode cL_isBoard 343 = .ok (.iconst 1, 1) := by decide +kernel
theorem dL_isBoard_344 : decode cL_isBoard 344 = .ok (.iload 8, 2) := by decide +kernel
theorem dL_isBoard_346 : decode cL_isBoard 346 = .ok (.isub, 1) := by decide +kernel
theorem dL_isBoard_347 : decode cL_isBoard 347 = .ok (.iconst 0, 1) := by decide +kernel
theorem dL_isBoard_348 : decode cL_isBoard 348 = .ok (.iconst 0, 1) := by decide +kernel
theorem dL_isBoard_349 : decode cL_isBoard 349 = .ok (.iconst 0, 1) := by decide +kernel
theorem dL_isBoard_350 : decode cL_isBoard 350 = .ok (.invokestatic 68, 3) := by decide +kernel
theorem dL_isBoard_353 : decode cL_isBoard 353 = .ok (.iload 7, 2) := by decide +kernel
theorem dL_isBoard_355 : decode cL_isBoard 355 = .ok (.ifCond .eq 8, 3) := by decide +kernel
theorem dL_isBoard_358 : decode cL_isBoard 358 = .ok (.iload 11, 2) := by decide +kernel
theorem dL_isBoard_360 : decode cL_isBoard 360 = .ok (.goto 6, 3) := by decide +kernel
theorem dL_isBoard_363 : decode cL_isBoard 363 = .ok (.sipush (-5004), 3) := by decide +kernel
theorem dL_isBoard_366 : decode cL_isBoard 366 = .ok (.if_icmp .ne 7, 3) := by decide +kernel
theorem dL_isBoard_369 : decode cL_isBoard 369 = .ok (.iconst 1, 1) := by decide +kernel
theorem dL_isBoard_370 : decode cL_isBoard 370 = .ok (.goto 4, 3) := by decide +kernel
theorem dL_isBoard_373 : decode cL_isBoard 373 = .ok (.iconst 0, 1) := by decide +kernel
theorem dL_isBoard_374 : decode cL_isBoard 374 = .ok (.istore 5, 2) := by decide +kernel
theorem dL_isBoard_376 : decode cL_isBoard 376 = .ok (.iinc 8 1, 3) := by decide +kernel
theorem dL_isBoard_379 : decode cL_isBoard 379 = .ok (.goto (-233), 3) := by decide +kernel
theorem dL_isBoard_382 : decode cL_isBoard 382 = .ok (.iinc 6 1, 3) := by decide +kernel
theorem dL_isBoard_385 : decode cL_isBoard 385 = .ok (.goto (-376), 3) := by decide +kernel
theorem dL_isBoard_388 : decode cL_isBoard 388 = .ok (.iconst 0, 1) := by decide +kernel
theorem dL_isBoard_389 : decode cL_isBoard 389 = .ok (.istore 6, 2) := by decide +kernel
theorem dL_isBoard_391 : decode cL_isBoard 391 = .ok (.iload 6, 2) := by decide +kernel
theorem dL_isBoard_393 : decode cL_isBoard 393 = .ok (.aload_n 3, 1) := by decide +kernel
theorem dL_isBoard_394 : decode cL_isBoard 394 = .ok (.iconst 2, 1) := by decide +kernel
theorem dL_isBoard_395 : decode cL_isBoard 395 = .ok (.iaload, 1) := by decide +kernel
theorem dL_isBoard_396 : decode cL_isBoard 396 = .ok (.if_icmp .ge 199, 3) := by decide +kernel
theorem dL_isBoard_399 : decode cL_isBoard 399 = .ok (.iload 5, 2) := by decide +kernel
theorem dL_isBoard_401 : decode cL_isBoard 401 = .ok (.ifCond .eq 194, 3) := by decide +kernel
theorem dL_isBoard_404 : decode cL_isBoard 404 = .ok (.aload_n 2, 1) := by decide +kernel
theorem dL_isBoard_405 : decode cL_isBoard 405 = .ok (.iload 6, 2) := by decide +kernel
theorem dL_isBoard_407 : decode cL_isBoard 407 = .ok (.iaload, 1) := by decide +kernel
theorem dL_isBoard_408 : decode cL_isBoard 408 = .ok (.bipush 11, 2) := by decide +kernel
theorem dL_isBoard_410 : decode cL_isBoard 410 = .ok (.bipush 6, 2) := by decide +kernel
theorem dL_isBoard_412 : decode cL_isBoard 412 = .ok (.invokestatic 77, 3) := by decide +kernel
theorem dL_isBoard_415 : decode cL_isBoard 415 = .ok (.istore 7, 2) := by decide +kernel
theorem dL_isBoard_417 : decode cL_isBoard 417 = .ok (.aload_n 0, 1) := by decide +kernel
theorem dL_isBoard_418 : decode cL_isBoard 418 = .ok (.aload_n 2, 1) := by decide +kernel
theorem dL_isBoard_419 : decode cL_isBoard 419 = .ok (.iload 6, 2) := by decide +kernel
theorem dL_isBoard_421 : decode cL_isBoard 421 = .ok (.iaload, 1) := by decide +kernel
theorem dL_isBoard_422 : decode cL_isBoard 422 = .ok (.iconst 3, 1) := by decide +kernel
theorem dL_isBoard_423 : decode cL_isBoard 423 = .ok (.iconst 4, 1) := by decide +kernel
theorem dL_isBoard_424 : decode cL_isBoard 424 = .ok (.invokestatic 77, 3) := by decide +kernel
theorem dL_isBoard_427 : decode cL_isBoard 427 = .ok (.invokevirtual 65, 3) := by decide +kernel
theorem dL_isBoard_430 : decode cL_isBoard 430 = .ok (.ifCond .eq 24, 3) := by decide +kernel
theorem dL_isBoard_433 : decode cL_isBoard 433 = .ok (.aload_n 0, 1) := by decide +kernel
theorem dL_isBoard_434 : decode cL_isBoard 434 = .ok (.aload_n 2, 1) := by decide +kernel
theorem dL_isBoard_435 : decode cL_isBoard 435 = .ok (.iload 6, 2) := by decide +kernel
theorem dL_isBoard_437 : decode cL_isBoard 437 = .ok (.iaload, 1) := by decide +kernel
theorem dL_isBoard_438 : decode cL_isBoard 438 = .ok (.bipush 7, 2) := by decide +kernel
theorem dL_isBoard_440 : decode cL_isBoard 440 = .ok (.iconst 4, 1) := by decide +kernel
theorem dL_isBoard_441 : decode cL_isBoard 441 = .ok (.invokestatic 77, 3) := by decide +kernel
theorem dL_isBoard_444 : decode cL_isBoard 444 = .ok (.invokevirtual 65, 3) := by decide +kernel
theorem dL_isBoard_447 : decode cL_isBoard 447 = .ok (.ifCond .eq 7, 3) := by decide +kernel
theorem dL_isBoard_450 : decode cL_isBoard 450 = .ok (.iconst 1, 1) := by decide +kernel
theorem dL_isBoard_451 : decode cL_isBoard 451 = .ok (.goto 4, 3) := by decide +kernel
theorem dL_isBoard_454 : decode cL_isBoard 454 = .ok (.iconst 0, 1) := by decide +kernel
theorem dL_isBoard_455 : decode cL_isBoard 455 = .ok (.istore 8, 2) := by decide +kernel
theorem dL_isBoard_457 : decode cL_isBoard 457 = .ok (.aload_n 0, 1) := by decide +kernel
theorem dL_isBoard_458 : decode cL_isBoard 458 = .ok (.bipush 10, 2) := by decide +kernel
theorem dL_isBoard_460 : decode cL_isBoard 460 = .ok (.iload 6, 2) := by decide +kernel
theorem dL_isBoard_462 : decode cL_isBoard 462 = .ok (.iconst 0, 1) := by decide +kernel
theorem dL_isBoard_463 : decode cL_isBoard 463 = .ok (.iconst 0, 1) := by decide +kernel
theorem dL_isBoard_464 : decode cL_isBoard 464 = .ok (.iconst 0, 1) := by decide +kernel
theorem dL_isBoard_465 : decode cL_isBoard 465 = .ok (.iconst 0, 1) := by decide +kernel
theorem dL_isBoard_466 : decode cL_isBoard 466 = .ok (.invokestatic 68, 3) := by decide +kernel
theorem dL_isBoard_469 : decode cL_isBoard 469 = .ok (.istore 9, 2) := by decide +kernel
theorem dL_isBoard_471 : decode cL_isBoard 471 = .ok (.iload 4, 2) := by decide +kernel
theorem dL_isBoard_473 : decode cL_isBoard 473 = .ok (.aload_n 0, 1) := by decide +kernel
theorem dL_isBoard_474 : decode cL_isBoard 474 = .ok (.iload 7, 2) := by decide +kernel
theorem dL_isBoard_476 : decode cL_isBoard 476 = .ok (.invokevirtual 83, 3) := by decide +kernel
theorem dL_isBoard_479 : decode cL_isBoard 479 = .ok (.ifCond .eq 7, 3) := by decide +kernel
theorem dL_isBoard_482 : decode cL_isBoard 482 = .ok (.iconst 1, 1) := by decide +kernel
theorem dL_isBoard_483 : decode cL_isBoard 483 = .ok (.goto 4, 3) := by decide +kernel
theorem dL_isBoard_486 : decode cL_isBoard 486 = .ok (.iconst 0, 1) := by decide +kernel
theorem dL_isBoard_487 : decode cL_isBoard 487 = .ok (.iadd, 1) := by decide +kernel
theorem dL_isBoard_488 : decode cL_isBoard 488 = .ok (.istore 4, 2) := by decide +kernel
theorem dL_isBoard_490 : decode cL_isBoard 490 = .ok (.aload_n 0, 1) := by decide +kernel
theorem dL_isBoard_491 : decode cL_isBoard 491 = .ok (.iload 6, 2) := by decide +kernel
theorem dL_isBoard_493 : decode cL_isBoard 493 = .ok (.invokevirtual 80, 3) := by decide +kernel
theorem dL_isBoard_496 : decode cL_isBoard 496 = .ok (.ifCond .eq 40, 3) := by decide +kernel
theorem dL_isBoard_499 : decode cL_isBoard 499 = .ok (.iload 8, 2) := by decide +kernel
theorem dL_isBoard_501 : decode cL_isBoard 501 = .ok (.ifCond .eq 31, 3) := by decide +kernel
theorem dL_isBoard_504 : decode cL_isBoard 504 = .ok (.iload 9, 2) := by decide +kernel
theorem dL_isBoard_506 : decode cL_isBoard 506 = .ok (.iconst 1, 1) := by decide +kernel
theorem dL_isBoard_507 : decode cL_isBoard 507 = .ok (.if_icmp .ne 25, 3) := by decide +kernel
theorem dL_isBoard_510 : decode cL_isBoard 510 = .ok (.aload_n 0, 1) := by decide +kernel
theorem dL_isBoard_511 : decode cL_isBoard 511 = .ok (.iload 7, 2) := by decide +kernel
theorem dL_isBoard_513 : decode cL_isBoard 513 = .ok (.invokevirtual 86, 3) := by decide +kernel
theorem dL_isBoard_516 : decode cL_isBoard 516 = .ok (.ifCond .eq 16, 3) := by decide +kernel
theorem dL_isBoard_519 : decode cL_isBoard 519 = .ok (.aload_n 0, 1) := by decide +kernel
theorem dL_isBoard_520 : decode cL_isBoard 520 = .ok (.iload 7, 2) := by decide +kernel
theorem dL_isBoard_522 : decode cL_isBoard 522 = .ok (.invokevirtual 83, 3) := by decide +kernel
theorem dL_isBoard_525 : decode cL_isBoard 525 = .ok (.ifCond .ne 7, 3) := by decide +kernel
theorem dL_isBoard_528 : decode cL_isBoard 528 = .ok (.iconst 1, 1) := by decide +kernel
theorem dL_isBoard_529 : decode cL_isBoard 529 = .ok (.goto 58, 3) := by decide +kernel
theorem dL_isBoard_532 : decode cL_isBoard 532 = .ok (.iconst 0, 1) := by decide +kernel
theorem dL_isBoard_533 : decode cL_isBoard 533 = .ok (.goto 54, 3) := by decide +kernel
theorem dL_isBoard_536 : decode cL_isBoard 536 = .ok (.iload 8, 2) := by decide +kernel
theorem dL_isBoard_538 : decode cL_isBoard 538 = .ok (.ifCond .eq 36, 3) := by decide +kernel
theorem dL_isBoard_541 : decode cL_isBoard 541 = .ok (.aload_n 2, 1) := by decide +kernel
theorem dL_isBoard_542 : decode cL_isBoard 542 = .ok (.iload 6, 2) := by decide +kernel
theorem dL_isBoard_544 : decode cL_isBoard 544 = .ok (.iaload, 1) := by decide +kernel
theorem dL_isBoard_545 : decode cL_isBoard 545 = .ok (.iconst 0, 1) := by decide +kernel
theorem dL_isBoard_546 : decode cL_isBoard 546 = .ok (.iconst 3, 1) := by decide +kernel
theorem dL_isBoard_547 : decode cL_isBoard 547 = .ok (.invokestatic 77, 3) := by decide +kernel
theorem dL_isBoard_550 : decode cL_isBoard 550 = .ok (.bipush 6, 2) := by decide +kernel
theorem dL_isBoard_552 : decode cL_isBoard 552 = .ok (.if_icmp .eq 22, 3) := by decide +kernel
theorem dL_isBoard_555 : decode cL_isBoard 555 = .ok (.iload 9, 2) := by decide +kernel
theorem dL_isBoard_557 : decode cL_isBoard 557 = .ok (.ifCond .eq 9, 3) := by decide +kernel
theorem dL_isBoard_560 : decode cL_isBoard 560 = .ok (.iload 9, 2) := by decide +kernel
theorem dL_isBoard_562 : decode cL_isBoard 562 = .ok (.iconst 1, 1) := by decide +kernel
theorem dL_isBoard_563 : decode cL_isBoard 563 = .ok (.if_icmp .ne 7, 3) := by decide +kernel
theorem dL_isBoard_566 : decode cL_isBoard 566 = .ok (.iconst 1, 1) := by decide +kernel
theorem dL_isBoard_567 : decode cL_isBoard 567 = .ok (.goto 20, 3) := by decide +kernel
theorem dL_isBoard_570 : decode cL_isBoard 570 = .ok (.iconst 0, 1) := by decide +kernel
theorem dL_isBoard_571 : decode cL_isBoard 571 = .ok (.goto 16, 3) := by decide +kernel
theorem dL_isBoard_574 : decode cL_isBoard 574 = .ok (.iload 9, 2) := by decide +kernel
theorem dL_isBoard_576 : decode cL_isBoard 576 = .ok (.sipush (-5004), 3) := by decide +kernel
theorem dL_isBoard_579 : decode cL_isBoard 579 = .ok (.if_icmp .ne 7, 3) := by decide +kernel
theorem dL_isBoard_582 : decode cL_isBoard 582 = .ok (.iconst 1, 1) := by decide +kernel
theorem dL_isBoard_583 : decode cL_isBoard 583 = .ok (.goto 4, 3) := by decide +kernel
theorem dL_isBoard_586 : decode cL_isBoard 586 = .ok (.iconst 0, 1) := by decide +kernel
theorem dL_isBoard_587 : decode cL_isBoard 587 = .ok (.istore 5, 2) := by decide +kernel
theorem dL_isBoard_589 : decode cL_isBoard 589 = .ok (.iinc 6 1, 3) := by decide +kernel
theorem dL_isBoard_592 : decode cL_isBoard 592 = .ok (.goto (-201), 3) := by decide +kernel
theorem dL_isBoard_595 : decode cL_isBoard 595 = .ok (.iload 5, 2) := by decide +kernel
theorem dL_isBoard_597 : decode cL_isBoard 597 = .ok (.ifCond .eq 16, 3) := by decide +kernel
theorem dL_isBoard_600 : decode cL_isBoard 600 = .ok (.aload_n 0, 1) := by decide +kernel
theorem dL_isBoard_601 : decode cL_isBoard 601 = .ok (.invokevirtual 89, 3) := by decide +kernel
theorem dL_isBoard_604 : decode cL_isBoard 604 = .ok (.iload 4, 2) := by decide +kernel
theorem dL_isBoard_606 : decode cL_isBoard 606 = .ok (.if_icmp .ne 7, 3) := by decide +kernel
theorem dL_isBoard_609 : decode cL_isBoard 609 = .ok (.iconst 1, 1) := by decide +kernel
theorem dL_isBoard_610 : decode cL_isBoard 610 = .ok (.goto 4, 3) := by decide +kernel
theorem dL_isBoard_613 : decode cL_isBoard 613 = .ok (.iconst 0, 1) := by decide +kernel
theorem dL_isBoard_614 : decode cL_isBoard 614 = .ok (.ireturn, 1) := by decide +kernel
theorem ml_RL_89 : MV RL 89 7 yX7_broken 0 := ⟨⟨by decide +kernel, by decide +kernel, by decide +kernel⟩, tb16 (mem_i 0 rfl), tb0 (mem_i 1 rfl), Or.inl (tb15 (mem_i 29 rfl)), RX7, TX7, 9, rfl, rfl, tb16 (mem_i 1 rfl)⟩
theorem ml_RL_80 : MV RL 80 7 yX7_isInForce 1 := ⟨⟨by decide +kernel, by decide +kernel, by decide +kernel⟩, tb12 (mem_i 12 rfl), tb0 (mem_i 1 rfl), Or.inl (tb12 (mem_i 11 rfl)), RX7, TX7, 9, rfl, rfl, tb12 (mem_i 13 rfl)⟩
theorem ml_RL_86 : MV RL 86 7 yX7_counts 1 := ⟨⟨by decide +kernel, by decide +kernel, by decide +kernel⟩, tb15 (mem_i 8 rfl), tb0 (mem_i 1 rfl), Or.inl (tb15 (mem_i 7 rfl)), RX7, TX7, 9, rfl, rfl, tb15 (mem_i 9 rfl)⟩
theorem ml_RL_74 : MV RL 74 7 yX7_numberAnew 2 := ⟨⟨by decide +kernel, by decide +kernel, by decide +kernel⟩, tb15 (mem_i 26 rfl), tb0 (mem_i 1 rfl), Or.inl (tb15 (mem_i 25 rfl)), RX7, TX7, 9, rfl, rfl, tb15 (mem_i 27 rfl)⟩
def f_L_isBoard_b614   (S : HS) (t0 : Int32) : Option (HS × Int32) :=
if nz t0 = true then some (S, t0) else none
def f_L_isBoard_b613   (S : HS) : Option (HS × Int32) :=
f_L_isBoard_b614   S (0 : Int32)
def f_L_isBoard_b595   (S : HS) (x4 : Int32) (x5 : Int32) : Option (HS × Int32) :=
if x5 = 0 then
f_L_isBoard_b613   S
else
(f_X7_broken S).bind (fun o601 =>
if o601 = x4 then
f_L_isBoard_b614   S (1 : Int32)
else
f_L_isBoard_b613   S)
def f_L_isBoard_b587  (rec391 : HS × Int32 × Int32 × Int32 → Option (HS × Int32)) (S : HS) (x4 : Int32) (x6 : Int32) (t0 : Int32) : Option (HS × Int32) :=
rec391 (S, x4, t0, (x6 + (1 : Int32)))
def f_L_isBoard_b574  (rec391 : HS × Int32 × Int32 × Int32 → Option (HS × Int32)) (S : HS) (x4 : Int32) (x6 : Int32) (x9 : Int32) : Option (HS × Int32) :=
if x9 = (-5004 : Int32) then
f_L_isBoard_b587  rec391 S x4 x6 (1 : Int32)
else
f_L_isBoard_b587  rec391 S x4 x6 (0 : Int32)
def f_L_isBoard_b566  (rec391 : HS × Int32 × Int32 × Int32 → Option (HS × Int32)) (S : HS) (x4 : Int32) (x6 : Int32) : Option (HS × Int32) :=
f_L_isBoard_b587  rec391 S x4 x6 (1 : Int32)
def f_L_isBoard_b532  (rec391 : HS × Int32 × Int32 × Int32 → Option (HS × Int32)) (S : HS) (x4 : Int32) (x6 : Int32) : Option (HS × Int32) :=
f_L_isBoard_b587  rec391 S x4 x6 (0 : Int32)
def f_L_isBoard_b487  (rec391 : HS × Int32 × Int32 × Int32 → Option (HS × Int32)) (S : HS) (x6 : Int32) (x7 : Int32) (x8 : Int32) (x9 : Int32) (t0 : Int32) (t1 : Int32) : Option (HS × Int32) :=
(f_X7_isInForce x6 S).bind (fun o493 => if o493.2.1 = 0 then
(fun (o493 : XO) =>
if o493.2.2 = 0 then
if x8 = 0 then
f_L_isBoard_b574  rec391 o493.1 (t0 + t1) x6 x9
else
if ib x6 (12) = true then
(f_L_part (o493.1.1 37 x6.toNatClampNeg) (0 : Int32) (3 : Int32) o493.1).bind (fun o547 =>
if o547 = (6 : Int32) then
f_L_isBoard_b574  rec391 o493.1 (t0 + t1) x6 x9
else
if x9 = 0 then
f_L_isBoard_b566  rec391 o493.1 (t0 + t1) x6
else
if x9 = (1 : Int32) then
f_L_isBoard_b566  rec391 o493.1 (t0 + t1) x6
else
f_L_isBoard_b587  rec391 o493.1 (t0 + t1) x6 (0 : Int32))
else none
else
if x8 = 0 then
f_L_isBoard_b532  rec391 o493.1 (t0 + t1) x6
else
if x9 = (1 : Int32) then
(f_X7_counts x7 o493.1).bind (fun o513 => if o513.2.1 = 0 then
(fun (o513 : XO) =>
if o513.2.2 = 0 then
f_L_isBoard_b532  rec391 o513.1 (t0 + t1) x6
else
(f_X7_isVoid x7 o513.1).bind (fun o522 => if o522.2.1 = 0 then
(fun (o522 : XO) =>
if o522.2.2 = 0 then
f_L_isBoard_b587  rec391 o522.1 (t0 + t1) x6 (1 : Int32)
else
f_L_isBoard_b532  rec391 o522.1 (t0 + t1) x6) o522
else none)) o513
else none)
else
f_L_isBoard_b532  rec391 o493.1 (t0 + t1) x6) o493
else none)
def f_L_isBoard_b455  (rec391 : HS × Int32 × Int32 × Int32 → Option (HS × Int32)) (S : HS) (x4 : Int32) (x6 : Int32) (x7 : Int32) (t0 : Int32) : Option (HS × Int32) :=
(f_L_asks (10 : Int32) x6 (0 : Int32) (0 : Int32) (0 : Int32) (0 : Int32) S).bind (fun o466 =>
(f_X7_isVoid x7 o466.1).bind (fun o476 => if o476.2.1 = 0 then
(fun (o476 : XO) =>
if o476.2.2 = 0 then
f_L_isBoard_b487  rec391 o476.1 x6 x7 t0 o466.2.2 x4 (0 : Int32)
else
f_L_isBoard_b487  rec391 o476.1 x6 x7 t0 o466.2.2 x4 (1 : Int32)) o476
else none))
def f_L_isBoard_b454  (rec391 : HS × Int32 × Int32 × Int32 → Option (HS × Int32)) (S : HS) (x4 : Int32) (x6 : Int32) (x7 : Int32) : Option (HS × Int32) :=
f_L_isBoard_b455  rec391 S x4 x6 x7 (0 : Int32)
def F_L_isBoard_b391   (rec391 : HS × Int32 × Int32 × Int32 → Option (HS × Int32)) : HS × Int32 × Int32 × Int32 → Option (HS × Int32) := fun q => match q with
  | (S, x4, x5, x6) =>
    if ib (2 : Int32) (5) = true then
    if (S.1 38 (2 : Int32).toNatClampNeg) ≤ x6 then
    f_L_isBoard_b595   S x4 x5
    else
    if x5 = 0 then
    f_L_isBoard_b595   S x4 x5
    else
    if ib x6 (12) = true then
    (f_L_part (S.1 37 x6.toNatClampNeg) (11 : Int32) (6 : Int32) S).bind (fun o412 =>
    if ib x6 (12) = true then
    (f_L_part (S.1 37 x6.toNatClampNeg) (3 : Int32) (4 : Int32) S).bind (fun o424 =>
    (f_X7_isThere o424 S).bind (fun o427 => if o427.2.1 = 0 then
    (fun (o427 : XO) =>
    if o427.2.2 = 0 then
    f_L_isBoard_b454  rec391 o427.1 x4 x6 o412
    else
    if ib x6 (12) = true then
    (f_L_part (o427.1.1 37 x6.toNatClampNeg) (7 : Int32) (4 : Int32) o427.1).bind (fun o441 =>
    (f_X7_isThere o441 o427.1).bind (fun o444 => if o444.2.1 = 0 then
    (fun (o444 : XO) =>
    if o444.2.2 = 0 then
    f_L_isBoard_b454  rec391 o444.1 x4 x6 o412
    else
    f_L_isBoard_b455  rec391 o444.1 x4 x6 o412 (1 : Int32)) o444
    else none))
    else none) o427
    else none))
    else none)
    else none
    else none
def f_L_isBoard_b391   (S : HS) (x4 : Int32) (x5 : Int32) (x6 : Int32) : Option (HS × Int32) := fx (F_L_isBoard_b391 ) 13 (S, x4, x5, x6)
def f_L_isBoard_b388   (S : HS) (x4 : Int32) (x5 : Int32) : Option (HS × Int32) :=
f_L_isBoard_b391   S x4 x5 (0 : Int32)
def f_L_isBoard_b382  (rec9 : HS × Int32 × Int32 × Int32 → Option (HS × Int32)) (S : HS) (x4 : Int32) (x5 : Int32) (x6 : Int32) : Option (HS × Int32) :=
rec9 (S, x4, x5, (x6 + (1 : Int32)))
def f_L_isBoard_b374  (rec9 : HS × Int32 × Int32 × Int32 → Option (HS × Int32)) (rec146 : HS × Int32 × Int32 × Int32 × Int32 × Int32 → Option (HS × Int32)) (S : HS) (x4 : Int32) (x6 : Int32) (x7 : Int32) (x8 : Int32) (t0 : Int32) : Option (HS × Int32) :=
rec146 (S, x4, t0, x6, x7, (x8 + (1 : Int32)))
def f_L_isBoard_b366  (rec9 : HS × Int32 × Int32 × Int32 → Option (HS × Int32)) (rec146 : HS × Int32 × Int32 × Int32 × Int32 × Int32 → Option (HS × Int32)) (S : HS) (x4 : Int32) (x6 : Int32) (x7 : Int32) (x8 : Int32) (t0 : Int32) (t1 : Int32) : Option (HS × Int32) :=
if t0 = t1 then
f_L_isBoard_b374  rec9 rec146 S x4 x6 x7 x8 (1 : Int32)
else
f_L_isBoard_b374  rec9 rec146 S x4 x6 x7 x8 (0 : Int32)
def F_L_isBoard_b318  (rec9 : HS × Int32 × Int32 × Int32 → Option (HS × Int32)) (rec146 : HS × Int32 × Int32 × Int32 × Int32 × Int32 → Option (HS × Int32)) (rec318 : HS × Int32 × Int32 × Int32 × Int32 × Int32 × Int32 → Option (HS × Int32)) : HS × Int32 × Int32 × Int32 × Int32 × Int32 × Int32 → Option (HS × Int32) := fun q => match q with
  | (S, x4, x6, x7, x8, x11, x12) =>
    if x12 ≤ 0 then
    (f_L_asks (11 : Int32) x6 ((1 : Int32) - x8) (0 : Int32) (0 : Int32) (0 : Int32) S).bind (fun o350 =>
    if x7 = 0 then
    f_L_isBoard_b366  rec9 rec146 o350.1 x4 x6 x7 x8 o350.2.2 (-5004 : Int32)
    else
    f_L_isBoard_b366  rec9 rec146 o350.1 x4 x6 x7 x8 o350.2.2 x11)
    else
    rec318 (S, x4, x6, x7, x8, (x11 + (1 : Int32)), (x12 &&& (x12 - (1 : Int32))))
def f_L_isBoard_b318  (rec9 : HS × Int32 × Int32 × Int32 → Option (HS × Int32)) (rec146 : HS × Int32 × Int32 × Int32 × Int32 × Int32 → Option (HS × Int32)) (S : HS) (x4 : Int32) (x6 : Int32) (x7 : Int32) (x8 : Int32) (x11 : Int32) (x12 : Int32) : Option (HS × Int32) := fx (F_L_isBoard_b318  rec9 rec146) FU (S, x4, x6, x7, x8, x11, x12)
def f_L_isBoard_b302  (rec9 : HS × Int32 × Int32 × Int32 → Option (HS × Int32)) (rec146 : HS × Int32 × Int32 × Int32 × Int32 × Int32 → Option (HS × Int32)) (rec169 : HS × Int32 × Int32 × Int32 × Int32 × Int32 × Int32 × Int32 → Option (HS × Int32)) (rec183 : HS × Int32 × Int32 × Int32 × Int32 × Int32 × Int32 × Int32 × Int32 → Option (HS × Int32)) (S : HS) (x4 : Int32) (x6 : Int32) (x7 : Int32) (x8 : Int32) (x10 : Int32) (x11 : Int32) (x12 : Int32) (t0 : Int32) (t1 : Int32) : Option (HS × Int32) :=
rec183 (S, x4, x6, x7, x8, (t0 ||| t1), x10, x11, (x12 + (1 : Int32)))
def f_L_isBoard_b301  (rec9 : HS × Int32 × Int32 × Int32 → Option (HS × Int32)) (rec146 : HS × Int32 × Int32 × Int32 × Int32 × Int32 → Option (HS × Int32)) (rec169 : HS × Int32 × Int32 × Int32 × Int32 × Int32 × Int32 × Int32 → Option (HS × Int32)) (rec183 : HS × Int32 × Int32 × Int32 × Int32 × Int32 × Int32 × Int32 × Int32 → Option (HS × Int32)) (S : HS) (x4 : Int32) (x6 : Int32) (x7 : Int32) (x8 : Int32) (x10 : Int32) (x11 : Int32) (x12 : Int32) (t0 : Int32) : Option (HS × Int32) :=
f_L_isBoard_b302  rec9 rec146 rec169 rec183 S x4 x6 x7 x8 x10 x11 x12 t0 (0 : Int32)
def f_L_isBoard_b253  (rec9 : HS × Int32 × Int32 × Int32 → Option (HS × Int32)) (rec146 : HS × Int32 × Int32 × Int32 × Int32 × Int32 → Option (HS × Int32)) (rec169 : HS × Int32 × Int32 × Int32 × Int32 × Int32 × Int32 × Int32 → Option (HS × Int32)) (rec183 : HS × Int32 × Int32 × Int32 × Int32 × Int32 × Int32 × Int32 × Int32 → Option (HS × Int32)) (S : HS) (x4 : Int32) (x6 : Int32) (x7 : Int32) (x8 : Int32) (x9 : Int32) (x10 : Int32) (x11 : Int32) (x12 : Int32) (t0 : Int32) : Option (HS × Int32) :=
if ib x12 (12) = true then
(f_L_part (S.1 37 x12.toNatClampNeg) (3 : Int32) (4 : Int32) S).bind (fun o262 =>
if ib x12 (12) = true then
(f_L_part (S.1 37 x12.toNatClampNeg) (7 : Int32) (4 : Int32) S).bind (fun o274 =>
if t0 = 0 then
f_L_isBoard_b301  rec9 rec146 rec169 rec183 S x4 x6 x7 x8 x10 x11 x12 x9
else
if (x9 &&& (((1 : Int32) <<< (o262 &&& 31)) ||| ((1 : Int32) <<< (o274 &&& 31)))) = 0 then
f_L_isBoard_b301  rec9 rec146 rec169 rec183 S x4 x6 x7 x8 x10 x11 x12 x9
else
f_L_isBoard_b302  rec9 rec146 rec169 rec183 S x4 x6 x7 x8 x10 x11 x12 x9 (((1 : Int32) <<< (o262 &&& 31)) ||| ((1 : Int32) <<< (o274 &&& 31))))
else none)
else none
def f_L_isBoard_b252  (rec9 : HS × Int32 × Int32 × Int32 → Option (HS × Int32)) (rec146 : HS × Int32 × Int32 × Int32 × Int32 × Int32 → Option (HS × Int32)) (rec169 : HS × Int32 × Int32 × Int32 × Int32 × Int32 × Int32 × Int32 → Option (HS × Int32)) (rec183 : HS × Int32 × Int32 × Int32 × Int32 × Int32 × Int32 × Int32 × Int32 → Option (HS × Int32)) (S : HS) (x4 : Int32) (x6 : Int32) (x7 : Int32) (x8 : Int32) (x9 : Int32) (x10 : Int32) (x11 : Int32) (x12 : Int32) : Option (HS × Int32) :=
f_L_isBoard_b253  rec9 rec146 rec169 rec183 S x4 x6 x7 x8 x9 x10 x11 x12 (0 : Int32)
def f_L_isBoard_b248  (rec9 : HS × Int32 × Int32 × Int32 → Option (HS × Int32)) (rec146 : HS × Int32 × Int32 × Int32 × Int32 × Int32 → Option (HS × Int32)) (rec169 : HS × Int32 × Int32 × Int32 × Int32 × Int32 × Int32 × Int32 → Option (HS × Int32)) (rec183 : HS × Int32 × Int32 × Int32 × Int32 × Int32 × Int32 × Int32 × Int32 → Option (HS × Int32)) (S : HS) (x4 : Int32) (x6 : Int32) (x7 : Int32) (x8 : Int32) (x9 : Int32) (x10 : Int32) (x11 : Int32) (x12 : Int32) : Option (HS × Int32) :=
f_L_isBoard_b253  rec9 rec146 rec169 rec183 S x4 x6 x7 x8 x9 x10 x11 x12 (1 : Int32)
def f_L_isBoard_b245  (rec9 : HS × Int32 × Int32 × Int32 → Option (HS × Int32)) (rec146 : HS × Int32 × Int32 × Int32 × Int32 × Int32 → Option (HS × Int32)) (rec169 : HS × Int32 × Int32 × Int32 × Int32 × Int32 × Int32 × Int32 → Option (HS × Int32)) (rec183 : HS × Int32 × Int32 × Int32 × Int32 × Int32 × Int32 × Int32 × Int32 → Option (HS × Int32)) (S : HS) (x4 : Int32) (x6 : Int32) (x7 : Int32) (x8 : Int32) (x9 : Int32) (x10 : Int32) (x11 : Int32) (x12 : Int32) (t0 : Int32) (t1 : Int32) : Option (HS × Int32) :=
if t0 = t1 then
f_L_isBoard_b248  rec9 rec146 rec169 rec183 S x4 x6 x7 x8 x9 x10 x11 x12
else
f_L_isBoard_b252  rec9 rec146 rec169 rec183 S x4 x6 x7 x8 x9 x10 x11 x12
def f_L_isBoard_b235  (rec9 : HS × Int32 × Int32 × Int32 → Option (HS × Int32)) (rec146 : HS × Int32 × Int32 × Int32 × Int32 × Int32 → Option (HS × Int32)) (rec169 : HS × Int32 × Int32 × Int32 × Int32 × Int32 × Int32 × Int32 → Option (HS × Int32)) (rec183 : HS × Int32 × Int32 × Int32 × Int32 × Int32 × Int32 × Int32 × Int32 → Option (HS × Int32)) (S : HS) (x4 : Int32) (x6 : Int32) (x7 : Int32) (x8 : Int32) (x9 : Int32) (x10 : Int32) (x11 : Int32) (x12 : Int32) (t0 : Int32) : Option (HS × Int32) :=
if x8 ≤ 0 then
f_L_isBoard_b245  rec9 rec146 rec169 rec183 S x4 x6 x7 x8 x9 x10 x11 x12 t0 (0 : Int32)
else
f_L_isBoard_b245  rec9 rec146 rec169 rec183 S x4 x6 x7 x8 x9 x10 x11 x12 t0 (1 : Int32)
def F_L_isBoard_b183  (rec9 : HS × Int32 × Int32 × Int32 → Option (HS × Int32)) (rec146 : HS × Int32 × Int32 × Int32 × Int32 × Int32 → Option (HS × Int32)) (rec169 : HS × Int32 × Int32 × Int32 × Int32 × Int32 × Int32 × Int32 → Option (HS × Int32)) (rec183 : HS × Int32 × Int32 × Int32 × Int32 × Int32 × Int32 × Int32 × Int32 → Option (HS × Int32)) : HS × Int32 × Int32 × Int32 × Int32 × Int32 × Int32 × Int32 × Int32 → Option (HS × Int32) := fun q => match q with
  | (S, x4, x6, x7, x8, x9, x10, x11, x12) =>
    if ib (2 : Int32) (5) = true then
    if (S.1 38 (2 : Int32).toNatClampNeg) ≤ x12 then
    rec169 (S, x4, x6, x7, x8, x9, x10, x11)
    else
    if ib x12 (12) = true then
    (f_L_part (S.1 37 x12.toNatClampNeg) (0 : Int32) (3 : Int32) S).bind (fun o197 =>
    (f_X7_isInForce x12 S).bind (fun o205 => if o205.2.1 = 0 then
    (fun (o205 : XO) =>
    if o205.2.2 = 0 then
    f_L_isBoard_b252  rec9 rec146 rec169 rec183 o205.1 x4 x6 x7 x8 x9 x10 x11 x12
    else
    if o197 = (6 : Int32) then
    f_L_isBoard_b248  rec9 rec146 rec169 rec183 o205.1 x4 x6 x7 x8 x9 x10 x11 x12
    else
    if o197 ≤ (1 : Int32) then
    f_L_isBoard_b252  rec9 rec146 rec169 rec183 o205.1 x4 x6 x7 x8 x9 x10 x11 x12
    else
    if o197 ≤ (3 : Int32) then
    f_L_isBoard_b235  rec9 rec146 rec169 rec183 o205.1 x4 x6 x7 x8 x9 x10 x11 x12 (0 : Int32)
    else
    f_L_isBoard_b235  rec9 rec146 rec169 rec183 o205.1 x4 x6 x7 x8 x9 x10 x11 x12 (1 : Int32)) o205
    else none))
    else none
    else none
def f_L_isBoard_b183  (rec9 : HS × Int32 × Int32 × Int32 → Option (HS × Int32)) (rec146 : HS × Int32 × Int32 × Int32 × Int32 × Int32 → Option (HS × Int32)) (rec169 : HS × Int32 × Int32 × Int32 × Int32 × Int32 × Int32 × Int32 → Option (HS × Int32)) (S : HS) (x4 : Int32) (x6 : Int32) (x7 : Int32) (x8 : Int32) (x9 : Int32) (x10 : Int32) (x11 : Int32) (x12 : Int32) : Option (HS × Int32) := fx (F_L_isBoard_b183  rec9 rec146 rec169) FU (S, x4, x6, x7, x8, x9, x10, x11, x12)
def F_L_isBoard_b169  (rec9 : HS × Int32 × Int32 × Int32 → Option (HS × Int32)) (rec146 : HS × Int32 × Int32 × Int32 × Int32 × Int32 → Option (HS × Int32)) (rec169 : HS × Int32 × Int32 × Int32 × Int32 × Int32 × Int32 × Int32 → Option (HS × Int32)) : HS × Int32 × Int32 × Int32 × Int32 × Int32 × Int32 × Int32 → Option (HS × Int32) := fun q => match q with
  | (S, x4, x6, x7, x8, x9, x10, x11) =>
    if x9 = x10 then
    f_L_isBoard_b318  rec9 rec146 S x4 x6 x7 x8 x11 x9
    else
    f_L_isBoard_b183  rec9 rec146 rec169 S x4 x6 x7 x8 x9 x9 x11 (0 : Int32)
def f_L_isBoard_b169  (rec9 : HS × Int32 × Int32 × Int32 → Option (HS × Int32)) (rec146 : HS × Int32 × Int32 × Int32 × Int32 × Int32 → Option (HS × Int32)) (S : HS) (x4 : Int32) (x6 : Int32) (x7 : Int32) (x8 : Int32) (x9 : Int32) (x10 : Int32) (x11 : Int32) : Option (HS × Int32) := fx (F_L_isBoard_b169  rec9 rec146) FU (S, x4, x6, x7, x8, x9, x10, x11)
def F_L_isBoard_b146  (rec9 : HS × Int32 × Int32 × Int32 → Option (HS × Int32)) (rec146 : HS × Int32 × Int32 × Int32 × Int32 × Int32 → Option (HS × Int32)) : HS × Int32 × Int32 × Int32 × Int32 × Int32 → Option (HS × Int32) := fun q => match q with
  | (S, x4, x5, x6, x7, x8) =>
    if (2 : Int32) ≤ x8 then
    f_L_isBoard_b382  rec9 S x4 x5 x6
    else
    if x5 = 0 then
    f_L_isBoard_b382  rec9 S x4 x5 x6
    else
    f_L_isBoard_b169  rec9 rec146 S x4 x6 x7 x8 ((1 : Int32) <<< (x6 &&& 31)) (0 : Int32) (0 : Int32)
def f_L_isBoard_b146  (rec9 : HS × Int32 × Int32 × Int32 → Option (HS × Int32)) (S : HS) (x4 : Int32) (x5 : Int32) (x6 : Int32) (x7 : Int32) (x8 : Int32) : Option (HS × Int32) := fx (F_L_isBoard_b146  rec9) 3 (S, x4, x5, x6, x7, x8)
def f_L_isBoard_b143  (rec9 : HS × Int32 × Int32 × Int32 → Option (HS × Int32)) (S : HS) (x4 : Int32) (x5 : Int32) (x6 : Int32) (x7 : Int32) : Option (HS × Int32) :=
f_L_isBoard_b146  rec9 S x4 x5 x6 x7 (0 : Int32)
def f_L_isBoard_b135  (rec9 : HS × Int32 × Int32 × Int32 → Option (HS × Int32)) (rec33 : HS × Int32 × Int32 × Int32 × Int32 × Int32 → Option (HS × Int32)) (S : HS) (x4 : Int32) (x6 : Int32) (x7 : Int32) (x8 : Int32) (t0 : Int32) : Option (HS × Int32) :=
rec33 (S, x4, t0, x6, x7, (x8 + (1 : Int32)))
def f_L_isBoard_b118  (rec9 : HS × Int32 × Int32 × Int32 → Option (HS × Int32)) (rec33 : HS × Int32 × Int32 × Int32 × Int32 × Int32 → Option (HS × Int32)) (S : HS) (x4 : Int32) (x6 : Int32) (x7 : Int32) (x8 : Int32) : Option (HS × Int32) :=
f_L_isBoard_b135  rec9 rec33 S x4 x6 x7 x8 (0 : Int32)
def f_L_isBoard_b114  (rec9 : HS × Int32 × Int32 × Int32 → Option (HS × Int32)) (rec33 : HS × Int32 × Int32 × Int32 × Int32 × Int32 → Option (HS × Int32)) (S : HS) (x4 : Int32) (x6 : Int32) (x7 : Int32) (x8 : Int32) : Option (HS × Int32) :=
f_L_isBoard_b135  rec9 rec33 S x4 x6 x7 x8 (1 : Int32)
def F_L_isBoard_b33  (rec9 : HS × Int32 × Int32 × Int32 → Option (HS × Int32)) (rec33 : HS × Int32 × Int32 × Int32 × Int32 × Int32 → Option (HS × Int32)) : HS × Int32 × Int32 × Int32 × Int32 × Int32 → Option (HS × Int32) := fun q => match q with
  | (S, x4, x5, x6, x7, x8) =>
    if (4 : Int32) ≤ x8 then
    f_L_isBoard_b143  rec9 S x4 x5 x6 x7
    else
    if x5 = 0 then
    f_L_isBoard_b143  rec9 S x4 x5 x6 x7
    else
    (f_L_asks (9 : Int32) x6 x8 (0 : Int32) (0 : Int32) (0 : Int32) S).bind (fun o54 =>
    if x7 = 0 then
    if o54.2.2 = (-5004 : Int32) then
    f_L_isBoard_b135  rec9 rec33 o54.1 x4 x6 x7 x8 (1 : Int32)
    else
    f_L_isBoard_b135  rec9 rec33 o54.1 x4 x6 x7 x8 (0 : Int32)
    else
    (f_X7_numberAnew x6 x8 o54.1).bind (fun o69 => if o69.2.1 = 0 then
    (fun (o69 : XO) =>
    if o69.2.2 = o54.2.2 then
    if (2 : Int32) ≤ x8 then
    if o54.2.2 ≤ 0 then
    f_L_isBoard_b118  rec9 rec33 o69.1 x4 x6 x7 x8
    else
    if (100 : Int32) ≤ o54.2.2 then
    f_L_isBoard_b118  rec9 rec33 o69.1 x4 x6 x7 x8
    else
    f_L_isBoard_b114  rec9 rec33 o69.1 x4 x6 x7 x8
    else
    if o54.2.2 < (-999 : Int32) then
    f_L_isBoard_b118  rec9 rec33 o69.1 x4 x6 x7 x8
    else
    if (999 : Int32) < o54.2.2 then
    f_L_isBoard_b118  rec9 rec33 o69.1 x4 x6 x7 x8
    else
    f_L_isBoard_b114  rec9 rec33 o69.1 x4 x6 x7 x8
    else
    f_L_isBoard_b118  rec9 rec33 o69.1 x4 x6 x7 x8) o69
    else none))
def f_L_isBoard_b33  (rec9 : HS × Int32 × Int32 × Int32 → Option (HS × Int32)) (S : HS) (x4 : Int32) (x5 : Int32) (x6 : Int32) (x7 : Int32) (x8 : Int32) : Option (HS × Int32) := fx (F_L_isBoard_b33  rec9) 5 (S, x4, x5, x6, x7, x8)
def F_L_isBoard_b9   (rec9 : HS × Int32 × Int32 × Int32 → Option (HS × Int32)) : HS × Int32 × Int32 × Int32 → Option (HS × Int32) := fun q => match q with
  | (S, x4, x5, x6) =>
    if ib (1 : Int32) (5) = true then
    if (S.1 38 (1 : Int32).toNatClampNeg) ≤ x6 then
    f_L_isBoard_b388   S x4 x5
    else
    if x5 = 0 then
    f_L_isBoard_b388   S x4 x5
    else
    (f_X7_isThere x6 S).bind (fun o25 => if o25.2.1 = 0 then
    (fun (o25 : XO) =>
    f_L_isBoard_b33  rec9 o25.1 x4 x5 x6 o25.2.2 (0 : Int32)) o25
    else none)
    else none
def f_L_isBoard_b9   (S : HS) (x4 : Int32) (x5 : Int32) (x6 : Int32) : Option (HS × Int32) := fx (F_L_isBoard_b9 ) 11 (S, x4, x5, x6)
def f_L_isBoard  (S : HS) : Option (HS × Int32) :=
f_L_isBoard_b9   S (0 : Int32) (1 : Int32) (0 : Int32)
def rm_L_isBoard : Room := { frames := 9, cells := 101, slots := 606, locals := 237 }
set_option maxRecDepth 100000 in
set_option maxHeartbeats 40000000 in
theorem c_L_isBoard (l : Launch) (hl9 : l.stackTraces = false)  (S : HS) (out : HS × Int32) (h : f_L_isBoard  S = some out) : CtK l yL_isBoard cL_isBoard 16 (some .boolean) rm_L_isBoard [vR 0, vR 36, vR 37, vR 38] S (some (vI out.2)) out.1 := by
  refine CtK.intro (own := RL) (lv := [(0, vR 0), (1, vR 36), (2, vR 37), (3, vR 38)]) (by decide +kernel) rfl rfl (Nat.le_of_ble_eq_true rfl) ?_
  intro G hG hR
  have hRc : rm_L_isBoard.cells = 101 := rfl
  have hRs : rm_L_isBoard.slots = 606 := rfl
  revert h
  have hb614 : ∀ (k n : Nat), k + (0 + 0) ≤ 101 → n + 6 * (0 + 0) ≤ 606 → ∀ (S : HS) (t0 : Int32), f_L_isBoard_b614  S t0 = some out → G k n S [] 614 [vI t0] := by
    intro  k n hk hn S t0
    unfold f_L_isBoard_b614
    exact s_rKZ hR (by omega) (by omega) dL_isBoard_614
  have hb613 : ∀ (k n : Nat), k + (0 + 0) ≤ 101 → n + 6 * (0 + 0) ≤ 606 → ∀ (S : HS), f_L_isBoard_b613  S = some out → G k n S [] 613 [] := by
    intro  k n hk hn S
    unfold f_L_isBoard_b613
    refine s_iconst hG (v := (0 : Int32)) dL_isBoard_613 (by decide) ?_
    exact hb614  _ _ (by omega) (by omega) _ _
  have hb595 : ∀ (k n : Nat), k + (0 + 0) ≤ 101 → n + 6 * (0 + 0) ≤ 606 → ∀ (S : HS) (x4 : Int32) (x5 : Int32), f_L_isBoard_b595  S x4 x5 = some out → G k n S [(0, vR 0), (4, vI x4), (5, vI x5)] 595 [] := by
    intro  k n hk hn S x4 x5
    unfold f_L_isBoard_b595
    refine s_iload hG dL_isBoard_595 rfl ?_
    refine s_if_eq hG (tgt := 613) dL_isBoard_597 (by decide) ?_ ?_
    · refine s_lv hG [] rfl ?_
      exact hb613  _ _ (by omega) (by omega) _
    · refine s_aload_n hG dL_isBoard_600 rfl ?_
      refine s_cvP hG (as := []) (st := []) (rm := rm_X7_broken) dL_isBoard_601 ml_RL_89 (rfl) (tb16 (mem_i 2 rfl)) rfl ⟨rfl, rfl⟩ ⟨Nat.le_of_ble_eq_true rfl, Nat.le_of_ble_eq_true rfl⟩ (Nat.le_of_ble_eq_true rfl) ⟨by omega, by omega⟩ rfl (fun o h => c_X7_broken l  _ o h) (fun o601 => ?_)
      refine s_iload hG dL_isBoard_604 rfl ?_
      refine s_icmp_ne hG (tgt := 613) dL_isBoard_606 (by decide) ?_ ?_
      · refine s_lv hG [] rfl ?_
        exact hb613  _ _ (by omega) (by omega) _
      · refine s_iconst hG (v := (1 : Int32)) dL_isBoard_609 (by decide) ?_
        refine s_goto hG (tgt := 614) dL_isBoard_610 (by decide) ?_
        refine s_lv hG [] rfl ?_
        exact hb614  _ _ (by omega) (by omega) _ _
  have hb587 : ∀ (m391 : Nat) (rec391 : HS × Int32 × Int32 × Int32 → Option (HS × Int32)) (hm391 : 0 + 0 ≤ m391) (hrec391 : ∀ (k n : Nat), k + m391 ≤ 101 → n + 6 * m391 ≤ 606 → ∀ (S : HS) (x4 : Int32) (x5 : Int32) (x6 : Int32), rec391 (S, x4, x5, x6) = some out → G k n S [(0, vR 0), (2, vR 37), (3, vR 38), (4, vI x4), (5, vI x5), (6, vI x6)] 391 []) (k n : Nat), k + (0 + m391) ≤ 101 → n + 6 * (0 + m391) ≤ 606 → ∀ (S : HS) (x4 : Int32) (x6 : Int32) (t0 : Int32), f_L_isBoard_b587  rec391 S x4 x6 t0 = some out → G k n S [(0, vR 0), (2, vR 37), (3, vR 38), (4, vI x4), (6, vI x6)] 587 [vI t0] := by
    intro m391 rec391 hm391 hrec391 k n hk hn S x4 x6 t0
    unfold f_L_isBoard_b587
    refine s_istore hG (lv' := [(5, vI t0), (0, vR 0), (2, vR 37), (3, vR 38), (4, vI x4), (6, vI x6)]) dL_isBoard_587 (by decide) rfl ?_
    refine s_iinc hG (v := (x6 + (1 : Int32))) (lv' := [(6, vI (x6 + (1 : Int32))), (5, vI t0), (0, vR 0), (2, vR 37), (3, vR 38), (4, vI x4)]) dL_isBoard_589 rfl rfl (by decide) rfl ?_
    refine s_goto hG (tgt := 391) dL_isBoard_592 (by decide) ?_
    refine s_lv hG [2, 3, 4, 5, 1, 0] rfl ?_
    exact hrec391 _ _ (by omega) (by omega) _ _ _ _
  have hb574 : ∀ (m391 : Nat) (rec391 : HS × Int32 × Int32 × Int32 → Option (HS × Int32)) (hm391 : 0 + 0 ≤ m391) (hrec391 : ∀ (k n : Nat), k + m391 ≤ 101 → n + 6 * m391 ≤ 606 → ∀ (S : HS) (x4 : Int32) (x5 : Int32) (x6 : Int32), rec391 (S, x4, x5, x6) = some out → G k n S [(0, vR 0), (2, vR 37), (3, vR 38), (4, vI x4), (5, vI x5), (6, vI x6)] 391 []) (k n : Nat), k + (0 + m391) ≤ 101 → n + 6 * (0 + m391) ≤ 606 → ∀ (S : HS) (x4 : Int32) (x6 : Int32) (x9 : Int32), f_L_isBoard_b574  rec391 S x4 x6 x9 = some out → G k n S [(0, vR 0), (2, vR 37), (3, vR 38), (4, vI x4), (6, vI x6), (9, vI x9)] 574 [] := by
    intro m391 rec391 hm391 hrec391 k n hk hn S x4 x6 x9
    unfold f_L_isBoard_b574
    refine s_iload hG dL_isBoard_574 rfl ?_
    refine s_sipush hG (v := (-5004 : Int32)) dL_isBoard_576 (by decide) ?_
    refine s_icmp_ne hG (tgt := 586) dL_isBoard_579 (by decide) ?_ ?_
    · refine s_iconst hG (v := (0 : Int32)) dL_isBoard_586 (by decide) ?_
      refine s_lv hG [0, 1, 2, 3, 4] rfl ?_
      exact hb587 _ _ hm391 hrec391 _ _ (by omega) (by omega) _ _ _ _
    · refine s_iconst hG (v := (1 : Int32)) dL_isBoard_582 (by decide) ?_
      refine s_goto hG (tgt := 587) dL_isBoard_583 (by decide) ?_
      refine s_lv hG [0, 1, 2, 3, 4] rfl ?_
      exact hb587 _ _ hm391 hrec391 _ _ (by omega) (by omega) _ _ _ _
  have hb566 : ∀ (m391 : Nat) (rec391 : HS × Int32 × Int32 × Int32 → Option (HS × Int32)) (hm391 : 0 + 0 ≤ m391) (hrec391 : ∀ (k n : Nat), k + m391 ≤ 101 → n + 6 * m391 ≤ 606 → ∀ (S : HS) (x4 : Int32) (x5 : Int32) (x6 : Int32), rec391 (S, x4, x5, x6) = some out → G k n S [(0, vR 0), (2, vR 37), (3, vR 38), (4, vI x4), (5, vI x5), (6, vI x6)] 391 []) (k n : Nat), k + (0 + m391) ≤ 101 → n + 6 * (0 + m391) ≤ 606 → ∀ (S : HS) (x4 : Int32) (x6 : Int32), f_L_isBoard_b566  rec391 S x4 x6 = some out → G k n S [(0, vR 0), (2, vR 37), (3, vR 38), (4, vI x4), (6, vI x6)] 566 [] := by
    intro m391 rec391 hm391 hrec391 k n hk hn S x4 x6
    unfold f_L_isBoard_b566
    refine s_iconst hG (v := (1 : Int32)) dL_isBoard_566 (by decide) ?_
    refine s_goto hG (tgt := 587) dL_isBoard_567 (by decide) ?_
    exact hb587 _ _ hm391 hrec391 _ _ (by omega) (by omega) _ _ _ _
  have hb532 : ∀ (m391 : Nat) (rec391 : HS × Int32 × Int32 × Int32 → Option (HS × Int32)) (hm391 : 0 + 0 ≤ m391) (hrec391 : ∀ (k n : Nat), k + m391 ≤ 101 → n + 6 * m391 ≤ 606 → ∀ (S : HS) (x4 : Int32) (x5 : Int32) (x6 : Int32), rec391 (S, x4, x5, x6) = some out → G k n S [(0, vR 0), (2, vR 37), (3, vR 38), (4, vI x4), (5, vI x5), (6, vI x6)] 391 []) (k n : Nat), k + (0 + m391) ≤ 101 → n + 6 * (0 + m391) ≤ 606 → ∀ (S : HS) (x4 : Int32) (x6 : Int32), f_L_isBoard_b532  rec391 S x4 x6 = some out → G k n S [(0, vR 0), (2, vR 37), (3, vR 38), (4, vI x4), (6, vI x6)] 532 [] := by
    intro m391 rec391 hm391 hrec391 k n hk hn S x4 x6
    unfold f_L_isBoard_b532
    refine s_iconst hG (v := (0 : Int32)) dL_isBoard_532 (by decide) ?_
    refine s_goto hG (tgt := 587) dL_isBoard_533 (by decide) ?_
    exact hb587 _ _ hm391 hrec391 _ _ (by omega) (by omega) _ _ _ _
  have hb487 : ∀ (m391 : Nat) (rec391 : HS × Int32 × Int32 × Int32 → Option (HS × Int32)) (hm391 : 0 + 0 ≤ m391) (hrec391 : ∀ (k n : Nat), k + m391 ≤ 101 → n + 6 * m391 ≤ 606 → ∀ (S : HS) (x4 : Int32) (x5 : Int32) (x6 : Int32), rec391 (S, x4, x5, x6) = some out → G k n S [(0, vR 0), (2, vR 37), (3, vR 38), (4, vI x4), (5, vI x5), (6, vI x6)] 391 []) (k n : Nat), k + (0 + m391) ≤ 101 → n + 6 * (0 + m391) ≤ 606 → ∀ (S : HS) (x6 : Int32) (x7 : Int32) (x8 : Int32) (x9 : Int32) (t0 : Int32) (t1 : Int32), f_L_isBoard_b487  rec391 S x6 x7 x8 x9 t0 t1 = some out → G k n S [(0, vR 0), (2, vR 37), (3, vR 38), (6, vI x6), (7, vI x7), (8, vI x8), (9, vI x9)] 487 [vI t1, vI t0] := by
    intro m391 rec391 hm391 hrec391 k n hk hn S x6 x7 x8 x9 t0 t1
    unfold f_L_isBoard_b487
    refine s_iadd hG dL_isBoard_487 ?_
    refine s_istore hG (lv' := [(4, vI (t0 + t1)), (0, vR 0), (2, vR 37), (3, vR 38), (6, vI x6), (7, vI x7), (8, vI x8), (9, vI x9)]) dL_isBoard_488 (by decide) rfl ?_
    refine s_aload_n hG dL_isBoard_490 rfl ?_
    refine s_iload hG dL_isBoard_491 rfl ?_
    refine s_dI hG (as := [vI x6]) (st := []) (rm := rm_X7_isInForce) (rmT := rmT_X7_isInForce) (by decide) dL_isBoard_493 ml_RL_80 (rfl) (tb12 (mem_i 14 rfl)) rfl ⟨rfl, rfl⟩ ⟨Nat.le_of_ble_eq_true rfl, Nat.le_of_ble_eq_true rfl⟩ (Nat.le_of_ble_eq_true rfl) ⟨by omega, by omega⟩ rfl (fun o h => c_X7_isInForce l hl9 _ _ o h) (fun o493 => ?_)
    refine s_if_eq hG (tgt := 536) dL_isBoard_496 (by decide) ?_ ?_
    · refine s_iload hG dL_isBoard_536 rfl ?_
      refine s_if_eq hG (tgt := 574) dL_isBoard_538 (by decide) ?_ ?_
      · refine s_lv hG [1, 2, 3, 0, 4, 7] rfl ?_
        exact hb574 _ _ hm391 hrec391 _ _ (by omega) (by omega) _ _ _ _
      · refine s_aload_n hG dL_isBoard_541 rfl ?_
        refine s_iload hG dL_isBoard_542 rfl ?_
        refine s_iaload hG dL_isBoard_544 (rfl) ?_
        refine s_iconst hG (v := (0 : Int32)) dL_isBoard_545 (by decide) ?_
        refine s_iconst hG (v := (3 : Int32)) dL_isBoard_546 (by decide) ?_
        refine s_csP hG (as := [vI (o493.1.1 37 x6.toNatClampNeg), vI (0 : Int32), vI (3 : Int32)]) (st := []) (rm := rm_L_part) dL_isBoard_547 ml_RL_77 (tb13 (mem_i 1 rfl)) rfl ⟨rfl, rfl⟩ ⟨Nat.le_of_ble_eq_true rfl, Nat.le_of_ble_eq_true rfl⟩ (Nat.le_of_ble_eq_true rfl) ⟨by omega, by omega⟩ rfl (fun o h => c_L_part l _ _ _ _ o h) (fun o547 => ?_)
        refine s_bipush hG (v := (6 : Int32)) dL_isBoard_550 (by decide) ?_
        refine s_icmp_eq hG (tgt := 574) dL_isBoard_552 (by decide) ?_ ?_
        · refine s_lv hG [1, 2, 3, 0, 4, 7] rfl ?_
          exact hb574 _ _ hm391 hrec391 _ _ (by omega) (by omega) _ _ _ _
        · refine s_iload hG dL_isBoard_555 rfl ?_
          refine s_if_eq hG (tgt := 566) dL_isBoard_557 (by decide) ?_ ?_
          · refine s_lv hG [1, 2, 3, 0, 4] rfl ?_
            exact hb566 _ _ hm391 hrec391 _ _ (by omega) (by omega) _ _ _
          · refine s_iload hG dL_isBoard_560 rfl ?_
            refine s_iconst hG (v := (1 : Int32)) dL_isBoard_562 (by decide) ?_
            refine s_icmp_ne hG (tgt := 570) dL_isBoard_563 (by decide) ?_ ?_
            · refine s_iconst hG (v := (0 : Int32)) dL_isBoard_570 (by decide) ?_
              refine s_goto hG (tgt := 587) dL_isBoard_571 (by decide) ?_
              refine s_lv hG [1, 2, 3, 0, 4] rfl ?_
              exact hb587 _ _ hm391 hrec391 _ _ (by omega) (by omega) _ _ _ _
            · refine s_lv hG [1, 2, 3, 0, 4] rfl ?_
              exact hb566 _ _ hm391 hrec391 _ _ (by omega) (by omega) _ _ _
    · refine s_iload hG dL_isBoard_499 rfl ?_
      refine s_if_eq hG (tgt := 532) dL_isBoard_501 (by decide) ?_ ?_
      · refine s_lv hG [1, 2, 3, 0, 4] rfl ?_
        exact hb532 _ _ hm391 hrec391 _ _ (by omega) (by omega) _ _ _
      · refine s_iload hG dL_isBoard_504 rfl ?_
        refine s_iconst hG (v := (1 : Int32)) dL_isBoard_506 (by decide) ?_
        refine s_icmp_ne hG (tgt := 532) dL_isBoard_507 (by decide) ?_ ?_
        · refine s_lv hG [1, 2, 3, 0, 4] rfl ?_
          exact hb532 _ _ hm391 hrec391 _ _ (by omega) (by omega) _ _ _
        · refine s_aload_n hG dL_isBoard_510 rfl ?_
          refine s_iload hG dL_isBoard_511 rfl ?_
          refine s_dI hG (as := [vI x7]) (st := []) (rm := rm_X7_counts) (rmT := rmT_X7_counts) (by decide) dL_isBoard_513 ml_RL_86 (rfl) (tb15 (mem_i 10 rfl)) rfl ⟨rfl, rfl⟩ ⟨Nat.le_of_ble_eq_true rfl, Nat.le_of_ble_eq_true rfl⟩ (Nat.le_of_ble_eq_true rfl) ⟨by omega, by omega⟩ rfl (fun o h => c_X7_counts l hl9 _ _ o h) (fun o513 => ?_)
          refine s_if_eq hG (tgt := 532) dL_isBoard_516 (by decide) ?_ ?_
          · refine s_lv hG [1, 2, 3, 0, 4] rfl ?_
            exact hb532 _ _ hm391 hrec391 _ _ (by omega) (by omega) _ _ _
          · refine s_aload_n hG dL_isBoard_519 rfl ?_
            refine s_iload hG dL_isBoard_520 rfl ?_
            refine s_dI hG (as := [vI x7]) (st := []) (rm := rm_X7_isVoid) (rmT := rmT_X7_isVoid) (by decide) dL_isBoard_522 ml_RL_83 (rfl) (tb12 (mem_i 22 rfl)) rfl ⟨rfl, rfl⟩ ⟨Nat.le_of_ble_eq_true rfl, Nat.le_of_ble_eq_true rfl⟩ (Nat.le_of_ble_eq_true rfl) ⟨by omega, by omega⟩ rfl (fun o h => c_X7_isVoid l hl9 _ _ o h) (fun o522 => ?_)
            refine s_if_ne hG (tgt := 532) dL_isBoard_525 (by decide) ?_ ?_
            · refine s_lv hG [1, 2, 3, 0, 4] rfl ?_
              exact hb532 _ _ hm391 hrec391 _ _ (by omega) (by omega) _ _ _
            · refine s_iconst hG (v := (1 : Int32)) dL_isBoard_528 (by decide) ?_
              refine s_goto hG (tgt := 587) dL_isBoard_529 (by decide) ?_
              refine s_lv hG [1, 2, 3, 0, 4] rfl ?_
              exact hb587 _ _ hm391 hrec391 _ _ (by omega) (by omega) _ _ _ _
  have hb455 : ∀ (m391 : Nat) (rec391 : HS × Int32 × Int32 × Int32 → Option (HS × Int32)) (hm391 : 0 + 0 ≤ m391) (hrec391 : ∀ (k n : Nat), k + m391 ≤ 101 → n + 6 * m391 ≤ 606 → ∀ (S : HS) (x4 : Int32) (x5 : Int32) (x6 : Int32), rec391 (S, x4, x5, x6) = some out → G k n S [(0, vR 0), (2, vR 37), (3, vR 38), (4, vI x4), (5, vI x5), (6, vI x6)] 391 []) (k n : Nat), k + (1 + m391) ≤ 101 → n + 6 * (1 + m391) ≤ 606 → ∀ (S : HS) (x4 : Int32) (x6 : Int32) (x7 : Int32) (t0 : Int32), f_L_isBoard_b455  rec391 S x4 x6 x7 t0 = some out → G k n S [(0, vR 0), (2, vR 37), (3, vR 38), (4, vI x4), (6, vI x6), (7, vI x7)] 455 [vI t0] := by
    intro m391 rec391 hm391 hrec391 k n hk hn S x4 x6 x7 t0
    unfold f_L_isBoard_b455
    refine s_istore hG (lv' := [(8, vI t0), (0, vR 0), (2, vR 37), (3, vR 38), (4, vI x4), (6, vI x6), (7, vI x7)]) dL_isBoard_455 (by decide) rfl ?_
    refine s_aload_n hG dL_isBoard_457 rfl ?_
    refine s_bipush hG (v := (10 : Int32)) dL_isBoard_458 (by decide) ?_
    refine s_iload hG dL_isBoard_460 rfl ?_
    refine s_iconst hG (v := (0 : Int32)) dL_isBoard_462 (by decide) ?_
    refine s_iconst hG (v := (0 : Int32)) dL_isBoard_463 (by decide) ?_
    refine s_iconst hG (v := (0 : Int32)) dL_isBoard_464 (by decide) ?_
    refine s_iconst hG (v := (0 : Int32)) dL_isBoard_465 (by decide) ?_
    refine s_aY hG (as := [vR 0, vI (10 : Int32), vI x6, vI (0 : Int32), vI (0 : Int32), vI (0 : Int32), vI (0 : Int32)]) (st := []) (rm := rm_L_asks) (hh := hh_L_asks) dL_isBoard_466 ml_RL_68 (tb4 (mem_i 23 rfl)) (exin (mem_i 45 (by decide +kernel))) rfl ⟨rfl, rfl⟩ ⟨Nat.le_of_ble_eq_true rfl, Nat.le_of_ble_eq_true rfl⟩ (Nat.le_of_ble_eq_true rfl) ⟨by omega, by omega⟩ rfl (fun o mc h01 h => c_L_asks l hl9 _ _ _ _ _ _ _ o mc h01 h) (fun o466 => ?_)
    refine s_istore hG (lv' := [(9, vI o466.2.2), (8, vI t0), (0, vR 0), (2, vR 37), (3, vR 38), (4, vI x4), (6, vI x6), (7, vI x7)]) dL_isBoard_469 (by decide) rfl ?_
    refine s_iload hG dL_isBoard_471 rfl ?_
    refine s_aload_n hG dL_isBoard_473 rfl ?_
    refine s_iload hG dL_isBoard_474 rfl ?_
    refine s_dI hG (as := [vI x7]) (st := [vI x4]) (rm := rm_X7_isVoid) (rmT := rmT_X7_isVoid) (by decide) dL_isBoard_476 ml_RL_83 (rfl) (tb12 (mem_i 22 rfl)) rfl ⟨rfl, rfl⟩ ⟨Nat.le_of_ble_eq_true rfl, Nat.le_of_ble_eq_true rfl⟩ (Nat.le_of_ble_eq_true rfl) ⟨by omega, by omega⟩ rfl (fun o h => c_X7_isVoid l hl9 _ _ o h) (fun o476 => ?_)
    refine s_if_eq hG (tgt := 486) dL_isBoard_479 (by decide) ?_ ?_
    · refine s_iconst hG (v := (0 : Int32)) dL_isBoard_486 (by decide) ?_
      refine s_lv hG [2, 3, 4, 6, 7, 1, 0] rfl ?_
      exact hb487 _ _ hm391 hrec391 _ _ (by omega) (by omega) _ _ _ _ _ _ _
    · refine s_iconst hG (v := (1 : Int32)) dL_isBoard_482 (by decide) ?_
      refine s_goto hG (tgt := 487) dL_isBoard_483 (by decide) ?_
      refine s_lv hG [2, 3, 4, 6, 7, 1, 0] rfl ?_
      exact hb487 _ _ hm391 hrec391 _ _ (by omega) (by omega) _ _ _ _ _ _ _
  have hb454 : ∀ (m391 : Nat) (rec391 : HS × Int32 × Int32 × Int32 → Option (HS × Int32)) (hm391 : 0 + 0 ≤ m391) (hrec391 : ∀ (k n : Nat), k + m391 ≤ 101 → n + 6 * m391 ≤ 606 → ∀ (S : HS) (x4 : Int32) (x5 : Int32) (x6 : Int32), rec391 (S, x4, x5, x6) = some out → G k n S [(0, vR 0), (2, vR 37), (3, vR 38), (4, vI x4), (5, vI x5), (6, vI x6)] 391 []) (k n : Nat), k + (1 + m391) ≤ 101 → n + 6 * (1 + m391) ≤ 606 → ∀ (S : HS) (x4 : Int32) (x6 : Int32) (x7 : Int32), f_L_isBoard_b454  rec391 S x4 x6 x7 = some out → G k n S [(0, vR 0), (2, vR 37), (3, vR 38), (4, vI x4), (6, vI x6), (7, vI x7)] 454 [] := by
    intro m391 rec391 hm391 hrec391 k n hk hn S x4 x6 x7
    unfold f_L_isBoard_b454
    refine s_iconst hG (v := (0 : Int32)) dL_isBoard_454 (by decide) ?_
    exact hb455 _ _ hm391 hrec391 _ _ (by omega) (by omega) _ _ _ _ _
  have hb391 : ∀ (k n : Nat), k + (1 * 13 + 0 + 0) ≤ 101 → n + 6 * (1 * 13 + 0 + 0) ≤ 606 → ∀ (S : HS) (x4 : Int32) (x5 : Int32) (x6 : Int32), f_L_isBoard_b391  S x4 x5 x6 = some out → G k n S [(0, vR 0), (2, vR 37), (3, vR 38), (4, vI x4), (5, vI x5), (6, vI x6)] 391 [] := by
    suffices H : ∀ (nf k n : Nat), k + (1 * nf + 0 + 0) ≤ 101 → n + 6 * (1 * nf + 0 + 0) ≤ 606 → ∀ (S : HS) (x4 : Int32) (x5 : Int32) (x6 : Int32), fx (F_L_isBoard_b391 ) nf (S, x4, x5, x6) = some out → G k n S [(0, vR 0), (2, vR 37), (3, vR 38), (4, vI x4), (5, vI x5), (6, vI x6)] 391 [] from fun k n hk hn S x4 x5 x6 => H 13 k n hk hn S x4 x5 x6
    intro nf
    induction nf with
    | zero => intro k n _ _ S x4 x5 x6 h9; cases h9
    | succ nf hrec391 =>
      intro k n hk0 hn0 S x4 x5 x6
      show F_L_isBoard_b391  (fx (F_L_isBoard_b391 ) nf) (S, x4, x5, x6) = some out → _
      generalize fx (F_L_isBoard_b391 ) nf = rec391 at hrec391
      obtain ⟨m391, hq391⟩ : ∃ m, m = 1 * nf + 0 + 0 := ⟨_, rfl⟩
      rw [← hq391] at hrec391
      have hm391 : 0 + 0 ≤ m391 := by omega
      have hk : k + (1 + m391) ≤ 101 := by omega
      have hn : n + 6 * (1 + m391) ≤ 606 := by omega
      clear hk0 hn0 hq391
      unfold F_L_isBoard_b391
      dsimp only
      refine s_iload hG dL_isBoard_391 rfl ?_
      refine s_aload_n hG dL_isBoard_393 rfl ?_
      refine s_iconst hG (v := (2 : Int32)) dL_isBoard_394 (by decide) ?_
      refine s_iaload hG dL_isBoard_395 (rfl) ?_
      refine s_icmp_ge hG (tgt := 595) dL_isBoard_396 (by decide) ?_ ?_
      · refine s_lv hG [0, 3, 4] rfl ?_
        exact hb595  _ _ (by omega) (by omega) _ _ _
      · refine s_iload hG dL_isBoard_399 rfl ?_
        refine s_if_eq hG (tgt := 595) dL_isBoard_401 (by decide) ?_ ?_
        · refine s_lv hG [0, 3, 4] rfl ?_
          exact hb595  _ _ (by omega) (by omega) _ _ _
        · refine s_aload_n hG dL_isBoard_404 rfl ?_
          refine s_iload hG dL_isBoard_405 rfl ?_
          refine s_iaload hG dL_isBoard_407 (rfl) ?_
          refine s_bipush hG (v := (11 : Int32)) dL_isBoard_408 (by decide) ?_
          refine s_bipush hG (v := (6 : Int32)) dL_isBoard_410 (by decide) ?_
          refine s_csP hG (as := [vI (S.1 37 x6.toNatClampNeg), vI (11 : Int32), vI (6 : Int32)]) (st := []) (rm := rm_L_part) dL_isBoard_412 ml_RL_77 (tb13 (mem_i 1 rfl)) rfl ⟨rfl, rfl⟩ ⟨Nat.le_of_ble_eq_true rfl, Nat.le_of_ble_eq_true rfl⟩ (Nat.le_of_ble_eq_true rfl) ⟨by omega, by omega⟩ rfl (fun o h => c_L_part l _ _ _ _ o h) (fun o412 => ?_)
          refine s_istore hG (lv' := [(7, vI o412), (0, vR 0), (2, vR 37), (3, vR 38), (4, vI x4), (5, vI x5), (6, vI x6)]) dL_isBoard_415 (by decide) rfl ?_
          refine s_aload_n hG dL_isBoard_417 rfl ?_
          refine s_aload_n hG dL_isBoard_418 rfl ?_
          refine s_iload hG dL_isBoard_419 rfl ?_
          refine s_iaload hG dL_isBoard_421 (rfl) ?_
          refine s_iconst hG (v := (3 : Int32)) dL_isBoard_422 (by decide) ?_
          refine s_iconst hG (v := (4 : Int32)) dL_isBoard_423 (by decide) ?_
          refine s_csP hG (as := [vI (S.1 37 x6.toNatClampNeg), vI (3 : Int32), vI (4 : Int32)]) (st := [vR 0]) (rm := rm_L_part) dL_isBoard_424 ml_RL_77 (tb13 (mem_i 1 rfl)) rfl ⟨rfl, rfl⟩ ⟨Nat.le_of_ble_eq_true rfl, Nat.le_of_ble_eq_true rfl⟩ (Nat.le_of_ble_eq_true rfl) ⟨by omega, by omega⟩ rfl (fun o h => c_L_part l _ _ _ _ o h) (fun o424 => ?_)
          refine s_dI hG (as := [vI o424]) (st := []) (rm := rm_X7_isThere) (rmT := rmT_X7_isThere) (by decide) dL_isBoard_427 ml_RL_65 (rfl) (tb12 (mem_i 1 rfl)) rfl ⟨rfl, rfl⟩ ⟨Nat.le_of_ble_eq_true rfl, Nat.le_of_ble_eq_true rfl⟩ (Nat.le_of_ble_eq_true rfl) ⟨by omega, by omega⟩ rfl (fun o h => c_X7_isThere l hl9 _ _ o h) (fun o427 => ?_)
          refine s_if_eq hG (tgt := 454) dL_isBoard_430 (by decide) ?_ ?_
          · refine s_lv hG [1, 2, 3, 4, 6, 0] rfl ?_
            exact hb454 _ _ hm391 hrec391 _ _ (by omega) (by omega) _ _ _ _
          · refine s_aload_n hG dL_isBoard_433 rfl ?_
            refine s_aload_n hG dL_isBoard_434 rfl ?_
            refine s_iload hG dL_isBoard_435 rfl ?_
            refine s_iaload hG dL_isBoard_437 (rfl) ?_
            refine s_bipush hG (v := (7 : Int32)) dL_isBoard_438 (by decide) ?_
            refine s_iconst hG (v := (4 : Int32)) dL_isBoard_440 (by decide) ?_
            refine s_csP hG (as := [vI (o427.1.1 37 x6.toNatClampNeg), vI (7 : Int32), vI (4 : Int32)]) (st := [vR 0]) (rm := rm_L_part) dL_isBoard_441 ml_RL_77 (tb13 (mem_i 1 rfl)) rfl ⟨rfl, rfl⟩ ⟨Nat.le_of_ble_eq_true rfl, Nat.le_of_ble_eq_true rfl⟩ (Nat.le_of_ble_eq_true rfl) ⟨by omega, by omega⟩ rfl (fun o h => c_L_part l _ _ _ _ o h) (fun o441 => ?_)
            refine s_dI hG (as := [vI o441]) (st := []) (rm := rm_X7_isThere) (rmT := rmT_X7_isThere) (by decide) dL_isBoard_444 ml_RL_65 (rfl) (tb12 (mem_i 1 rfl)) rfl ⟨rfl, rfl⟩ ⟨Nat.le_of_ble_eq_true rfl, Nat.le_of_ble_eq_true rfl⟩ (Nat.le_of_ble_eq_true rfl) ⟨by omega, by omega⟩ rfl (fun o h => c_X7_isThere l hl9 _ _ o h) (fun o444 => ?_)
            refine s_if_eq hG (tgt := 454) dL_isBoard_447 (by decide) ?_ ?_
            · refine s_lv hG [1, 2, 3, 4, 6, 0] rfl ?_
              exact hb454 _ _ hm391 hrec391 _ _ (by omega) (by omega) _ _ _ _
            · refine s_iconst hG (v := (1 : Int32)) dL_isBoard_450 (by decide) ?_
              refine s_goto hG (tgt := 455) dL_isBoard_451 (by decide) ?_
              refine s_lv hG [1, 2, 3, 4, 6, 0] rfl ?_
              exact hb455 _ _ hm391 hrec391 _ _ (by omega) (by omega) _ _ _ _ _
  have hb388 : ∀ (k n : Nat), k + (13 + 0) ≤ 101 → n + 6 * (13 + 0) ≤ 606 → ∀ (S : HS) (x4 : Int32) (x5 : Int32), f_L_isBoard_b388  S x4 x5 = some out → G k n S [(0, vR 0), (2, vR 37), (3, vR 38), (4, vI x4), (5, vI x5)] 388 [] := by
    intro  k n hk hn S x4 x5
    unfold f_L_isBoard_b388
    refine s_iconst hG (v := (0 : Int32)) dL_isBoard_388 (by decide) ?_
    refine s_istore hG (lv' := [(6, vI (0 : Int32)), (0, vR 0), (2, vR 37), (3, vR 38), (4, vI x4), (5, vI x5)]) dL_isBoard_389 (by decide) rfl ?_
    refine s_lv hG [1, 2, 3, 4, 5, 0] rfl ?_
    exact hb391  _ _ (by omega) (by omega) _ _ _ _
  have hb382 : ∀ (m9 : Nat) (rec9 : HS × Int32 × Int32 × Int32 → Option (HS × Int32)) (hm9 : 13 + 0 ≤ m9) (hrec9 : ∀ (k n : Nat), k + m9 ≤ 101 → n + 6 * m9 ≤ 606 → ∀ (S : HS) (x4 : Int32) (x5 : Int32) (x6 : Int32), rec9 (S, x4, x5, x6) = some out → G k n S [(0, vR 0), (2, vR 37), (3, vR 38), (4, vI x4), (5, vI x5), (6, vI x6)] 9 []) (k n : Nat), k + (0 + m9) ≤ 101 → n + 6 * (0 + m9) ≤ 606 → ∀ (S : HS) (x4 : Int32) (x5 : Int32) (x6 : Int32), f_L_isBoard_b382  rec9 S x4 x5 x6 = some out → G k n S [(0, vR 0), (2, vR 37), (3, vR 38), (4, vI x4), (5, vI x5), (6, vI x6)] 382 [] := by
    intro m9 rec9 hm9 hrec9 k n hk hn S x4 x5 x6
    unfold f_L_isBoard_b382
    refine s_iinc hG (v := (x6 + (1 : Int32))) (lv' := [(6, vI (x6 + (1 : Int32))), (0, vR 0), (2, vR 37), (3, vR 38), (4, vI x4), (5, vI x5)]) dL_isBoard_382 rfl rfl (by decide) rfl ?_
    refine s_goto hG (tgt := 9) dL_isBoard_385 (by decide) ?_
    refine s_lv hG [1, 2, 3, 4, 5, 0] rfl ?_
    exact hrec9 _ _ (by omega) (by omega) _ _ _ _
  have hb374 : ∀ (m9 : Nat) (rec9 : HS × Int32 × Int32 × Int32 → Option (HS × Int32)) (hm9 : 13 + 0 ≤ m9) (hrec9 : ∀ (k n : Nat), k + m9 ≤ 101 → n + 6 * m9 ≤ 606 → ∀ (S : HS) (x4 : Int32) (x5 : Int32) (x6 : Int32), rec9 (S, x4, x5, x6) = some out → G k n S [(0, vR 0), (2, vR 37), (3, vR 38), (4, vI x4), (5, vI x5), (6, vI x6)] 9 []) (m146 : Nat) (rec146 : HS × Int32 × Int32 × Int32 × Int32 × Int32 → Option (HS × Int32)) (hm146 : 0 + m9 ≤ m146) (hrec146 : ∀ (k n : Nat), k + m146 ≤ 101 → n + 6 * m146 ≤ 606 → ∀ (S : HS) (x4 : Int32) (x5 : Int32) (x6 : Int32) (x7 : Int32) (x8 : Int32), rec146 (S, x4, x5, x6, x7, x8) = some out → G k n S [(0, vR 0), (2, vR 37), (3, vR 38), (4, vI x4), (5, vI x5), (6, vI x6), (7, vI x7), (8, vI x8)] 146 []) (k n : Nat), k + (0 + m146) ≤ 101 → n + 6 * (0 + m146) ≤ 606 → ∀ (S : HS) (x4 : Int32) (x6 : Int32) (x7 : Int32) (x8 : Int32) (t0 : Int32), f_L_isBoard_b374  rec9 rec146 S x4 x6 x7 x8 t0 = some out → G k n S [(0, vR 0), (2, vR 37), (3, vR 38), (4, vI x4), (6, vI x6), (7, vI x7), (8, vI x8)] 374 [vI t0] := by
    intro m9 rec9 hm9 hrec9 m146 rec146 hm146 hrec146 k n hk hn S x4 x6 x7 x8 t0
    unfold f_L_isBoard_b374
    refine s_istore hG (lv' := [(5, vI t0), (0, vR 0), (2, vR 37), (3, vR 38), (4, vI x4), (6, vI x6), (7, vI x7), (8, vI x8)]) dL_isBoard_374 (by decide) rfl ?_
    refine s_iinc hG (v := (x8 + (1 : Int32))) (lv' := [(8, vI (x8 + (1 : Int32))), (5, vI t0), (0, vR 0), (2, vR 37), (3, vR 38), (4, vI x4), (6, vI x6), (7, vI x7)]) dL_isBoard_376 rfl rfl (by decide) rfl ?_
    refine s_goto hG (tgt := 146) dL_isBoard_379 (by decide) ?_
    refine s_lv hG [2, 3, 4, 5, 1, 6, 7, 0] rfl ?_
    exact hrec146 _ _ (by omega) (by omega) _ _ _ _ _ _
  have hb366 : ∀ (m9 : Nat) (rec9 : HS × Int32 × Int32 × Int32 → Option (HS × Int32)) (hm9 : 13 + 0 ≤ m9) (hrec9 : ∀ (k n : Nat), k + m9 ≤ 101 → n + 6 * m9 ≤ 606 → ∀ (S : HS) (x4 : Int32) (x5 : Int32) (x6 : Int32), rec9 (S, x4, x5, x6) = some out → G k n S [(0, vR 0), (2, vR 37), (3, vR 38), (4, vI x4), (5, vI x5), (6, vI x6)] 9 []) (m146 : Nat) (rec146 : HS × Int32 × Int32 × Int32 × Int32 × Int32 → Option (HS × Int32)) (hm146 : 0 + m9 ≤ m146) (hrec146 : ∀ (k n : Nat), k + m146 ≤ 101 → n + 6 * m146 ≤ 606 → ∀ (S : HS) (x4 : Int32) (x5 : Int32) (x6 : Int32) (x7 : Int32) (x8 : Int32), rec146 (S, x4, x5, x6, x7, x8) = some out → G k n S [(0, vR 0), (2, vR 37), (3, vR 38), (4, vI x4), (5, vI x5), (6, vI x6), (7, vI x7), (8, vI x8)] 146 []) (k n : Nat), k + (0 + m146) ≤ 101 → n + 6 * (0 + m146) ≤ 606 → ∀ (S : HS) (x4 : Int32) (x6 : Int32) (x7 : Int32) (x8 : Int32) (t0 : Int32) (t1 : Int32), f_L_isBoard_b366  rec9 rec146 S x4 x6 x7 x8 t0 t1 = some out → G k n S [(0, vR 0), (2, vR 37), (3, vR 38), (4, vI x4), (6, vI x6), (7, vI x7), (8, vI x8)] 366 [vI t1, vI t0] := by
    intro m9 rec9 hm9 hrec9 m146 rec146 hm146 hrec146 k n hk hn S x4 x6 x7 x8 t0 t1
    unfold f_L_isBoard_b366
    refine s_icmp_ne hG (tgt := 373) dL_isBoard_366 (by decide) ?_ ?_
    · refine s_iconst hG (v := (0 : Int32)) dL_isBoard_373 (by decide) ?_
      exact hb374 _ _ hm9 hrec9 _ _ hm146 hrec146 _ _ (by omega) (by omega) _ _ _ _ _ _
    · refine s_iconst hG (v := (1 : Int32)) dL_isBoard_369 (by decide) ?_
      refine s_goto hG (tgt := 374) dL_isBoard_370 (by decide) ?_
      exact hb374 _ _ hm9 hrec9 _ _ hm146 hrec146 _ _ (by omega) (by omega) _ _ _ _ _ _
  have hb318 : ∀ (m9 : Nat) (rec9 : HS × Int32 × Int32 × Int32 → Option (HS × Int32)) (hm9 : 13 + 0 ≤ m9) (hrec9 : ∀ (k n : Nat), k + m9 ≤ 101 → n + 6 * m9 ≤ 606 → ∀ (S : HS) (x4 : Int32) (x5 : Int32) (x6 : Int32), rec9 (S, x4, x5, x6) = some out → G k n S [(0, vR 0), (2, vR 37), (3, vR 38), (4, vI x4), (5, vI x5), (6, vI x6)] 9 []) (m146 : Nat) (rec146 : HS × Int32 × Int32 × Int32 × Int32 × Int32 → Option (HS × Int32)) (hm146 : 0 + m9 ≤ m146) (hrec146 : ∀ (k n : Nat), k + m146 ≤ 101 → n + 6 * m146 ≤ 606 → ∀ (S : HS) (x4 : Int32) (x5 : Int32) (x6 : Int32) (x7 : Int32) (x8 : Int32), rec146 (S, x4, x5, x6, x7, x8) = some out → G k n S [(0, vR 0), (2, vR 37), (3, vR 38), (4, vI x4), (5, vI x5), (6, vI x6), (7, vI x7), (8, vI x8)] 146 []), ∀ (k n : Nat), k + (0 * FU + 1 + m146) ≤ 101 → n + 6 * (0 * FU + 1 + m146) ≤ 606 → ∀ (S : HS) (x4 : Int32) (x6 : Int32) (x7 : Int32) (x8 : Int32) (x11 : Int32) (x12 : Int32), f_L_isBoard_b318  rec9 rec146 S x4 x6 x7 x8 x11 x12 = some out → G k n S [(0, vR 0), (2, vR 37), (3, vR 38), (4, vI x4), (6, vI x6), (7, vI x7), (8, vI x8), (11, vI x11), (12, vI x12)] 318 [] := by
    intro m9 rec9 hm9 hrec9 m146 rec146 hm146 hrec146
    suffices H : ∀ (nf k n : Nat), k + (0 * nf + 1 + m146) ≤ 101 → n + 6 * (0 * nf + 1 + m146) ≤ 606 → ∀ (S : HS) (x4 : Int32) (x6 : Int32) (x7 : Int32) (x8 : Int32) (x11 : Int32) (x12 : Int32), fx (F_L_isBoard_b318  rec9 rec146) nf (S, x4, x6, x7, x8, x11, x12) = some out → G k n S [(0, vR 0), (2, vR 37), (3, vR 38), (4, vI x4), (6, vI x6), (7, vI x7), (8, vI x8), (11, vI x11), (12, vI x12)] 318 [] from fun k n hk hn S x4 x6 x7 x8 x11 x12 => H FU k n hk hn S x4 x6 x7 x8 x11 x12
    intro nf
    induction nf with
    | zero => intro k n _ _ S x4 x6 x7 x8 x11 x12 h9; cases h9
    | succ nf hrec318 =>
      intro k n hk0 hn0 S x4 x6 x7 x8 x11 x12
      show F_L_isBoard_b318  rec9 rec146 (fx (F_L_isBoard_b318  rec9 rec146) nf) (S, x4, x6, x7, x8, x11, x12) = some out → _
      generalize fx (F_L_isBoard_b318  rec9 rec146) nf = rec318 at hrec318
      obtain ⟨m318, hq318⟩ : ∃ m, m = 0 * nf + 1 + m146 := ⟨_, rfl⟩
      rw [← hq318] at hrec318
      have hm318 : 1 + m146 ≤ m318 := by omega
      have hk : k + (0 + m318) ≤ 101 := by omega
      have hn : n + 6 * (0 + m318) ≤ 606 := by omega
      clear hk0 hn0 hq318
      unfold F_L_isBoard_b318
      dsimp only
      refine s_iload hG dL_isBoard_318 rfl ?_
      refine s_if_le hG (tgt := 338) dL_isBoard_320 (by decide) ?_ ?_
      · refine s_aload_n hG dL_isBoard_338 rfl ?_
        refine s_bipush hG (v := (11 : Int32)) dL_isBoard_339 (by decide) ?_
        refine s_iload hG dL_isBoard_341 rfl ?_
        refine s_iconst hG (v := (1 : Int32)) dL_isBoard_343 (by decide) ?_
        refine s_iload hG dL_isBoard_344 rfl ?_
        refine s_isub hG dL_isBoard_346 ?_
        refine s_iconst hG (v := (0 : Int32)) dL_isBoard_347 (by decide) ?_
        refine s_iconst hG (v := (0 : Int32)) dL_isBoard_348 (by decide) ?_
        refine s_iconst hG (v := (0 : Int32)) dL_isBoard_349 (by decide) ?_
        refine s_aY hG (as := [vR 0, vI (11 : Int32), vI x6, vI ((1 : Int32) - x8), vI (0 : Int32), vI (0 : Int32), vI (0 : Int32)]) (st := []) (rm := rm_L_asks) (hh := hh_L_asks) dL_isBoard_350 ml_RL_68 (tb4 (mem_i 23 rfl)) (exin (mem_i 45 (by decide +kernel))) rfl ⟨rfl, rfl⟩ ⟨Nat.le_of_ble_eq_true rfl, Nat.le_of_ble_eq_true rfl⟩ (Nat.le_of_ble_eq_true rfl) ⟨by omega, by omega⟩ rfl (fun o mc h01 h => c_L_asks l hl9 _ _ _ _ _ _ _ o mc h01 h) (fun o350 => ?_)
        refine s_iload hG dL_isBoard_353 rfl ?_
        refine s_if_eq hG (tgt := 363) dL_isBoard_355 (by decide) ?_ ?_
        · refine s_sipush hG (v := (-5004 : Int32)) dL_isBoard_363 (by decide) ?_
          refine s_lv hG [0, 1, 2, 3, 4, 5, 6] rfl ?_
          exact hb366 _ _ hm9 hrec9 _ _ hm146 hrec146 _ _ (by omega) (by omega) _ _ _ _ _ _ _
        · refine s_iload hG dL_isBoard_358 rfl ?_
          refine s_goto hG (tgt := 366) dL_isBoard_360 (by decide) ?_
          refine s_lv hG [0, 1, 2, 3, 4, 5, 6] rfl ?_
          exact hb366 _ _ hm9 hrec9 _ _ hm146 hrec146 _ _ (by omega) (by omega) _ _ _ _ _ _ _
      · refine s_iinc hG (v := (x11 + (1 : Int32))) (lv' := [(11, vI (x11 + (1 : Int32))), (0, vR 0), (2, vR 37), (3, vR 38), (4, vI x4), (6, vI x6), (7, vI x7), (8, vI x8), (12, vI x12)]) dL_isBoard_323 rfl rfl (by decide) rfl ?_
        refine s_iload hG dL_isBoard_326 rfl ?_
        refine s_iload hG dL_isBoard_328 rfl ?_
        refine s_iconst hG (v := (1 : Int32)) dL_isBoard_330 (by decide) ?_
        refine s_isub hG dL_isBoard_331 ?_
        refine s_iand hG dL_isBoard_332 ?_
        refine s_istore hG (lv' := [(12, vI (x12 &&& (x12 - (1 : Int32)))), (11, vI (x11 + (1 : Int32))), (0, vR 0), (2, vR 37), (3, vR 38), (4, vI x4), (6, vI x6), (7, vI x7), (8, vI x8)]) dL_isBoard_333 (by decide) rfl ?_
        refine s_goto hG (tgt := 318) dL_isBoard_335 (by decide) ?_
        refine s_lv hG [2, 3, 4, 5, 6, 7, 8, 1, 0] rfl ?_
        exact hrec318 _ _ (by omega) (by omega) _ _ _ _ _ _ _
  have hb302 : ∀ (m9 : Nat) (rec9 : HS × Int32 × Int32 × Int32 → Option (HS × Int32)) (hm9 : 13 + 0 ≤ m9) (hrec9 : ∀ (k n : Nat), k + m9 ≤ 101 → n + 6 * m9 ≤ 606 → ∀ (S : HS) (x4 : Int32) (x5 : Int32) (x6 : Int32), rec9 (S, x4, x5, x6) = some out → G k n S [(0, vR 0), (2, vR 37), (3, vR 38), (4, vI x4), (5, vI x5), (6, vI x6)] 9 []) (m146 : Nat) (rec146 : HS × Int32 × Int32 × Int32 × Int32 × Int32 → Option (HS × Int32)) (hm146 : 0 + m9 ≤ m146) (hrec146 : ∀ (k n : Nat), k + m146 ≤ 101 → n + 6 * m146 ≤ 606 → ∀ (S : HS) (x4 : Int32) (x5 : Int32) (x6 : Int32) (x7 : Int32) (x8 : Int32), rec146 (S, x4, x5, x6, x7, x8) = some out → G k n S [(0, vR 0), (2, vR 37), (3, vR 38), (4, vI x4), (5, vI x5), (6, vI x6), (7, vI x7), (8, vI x8)] 146 []) (m169 : Nat) (rec169 : HS × Int32 × Int32 × Int32 × Int32 × Int32 × Int32 × Int32 → Option (HS × Int32)) (hm169 : 1 + m146 ≤ m169) (hrec169 : ∀ (k n : Nat), k + m169 ≤ 101 → n + 6 * m169 ≤ 606 → ∀ (S : HS) (x4 : Int32) (x6 : Int32) (x7 : Int32) (x8 : Int32) (x9 : Int32) (x10 : Int32) (x11 : Int32), rec169 (S, x4, x6, x7, x8, x9, x10, x11) = some out → G k n S [(0, vR 0), (2, vR 37), (3, vR 38), (4, vI x4), (6, vI x6), (7, vI x7), (8, vI x8), (9, vI x9), (10, vI x10), (11, vI x11)] 169 []) (m183 : Nat) (rec183 : HS × Int32 × Int32 × Int32 × Int32 × Int32 × Int32 × Int32 × Int32 → Option (HS × Int32)) (hm183 : 0 + m169 ≤ m183) (hrec183 : ∀ (k n : Nat), k + m183 ≤ 101 → n + 6 * m183 ≤ 606 → ∀ (S : HS) (x4 : Int32) (x6 : Int32) (x7 : Int32) (x8 : Int32) (x9 : Int32) (x10 : Int32) (x11 : Int32) (x12 : Int32), rec183 (S, x4, x6, x7, x8, x9, x10, x11, x12) = some out → G k n S [(0, vR 0), (2, vR 37), (3, vR 38), (4, vI x4), (6, vI x6), (7, vI x7), (8, vI x8), (9, vI x9), (10, vI x10), (11, vI x11), (12, vI x12)] 183 []) (k n : Nat), k + (0 + m183) ≤ 101 → n + 6 * (0 + m183) ≤ 606 → ∀ (S : HS) (x4 : Int32) (x6 : Int32) (x7 : Int32) (x8 : Int32) (x10 : Int32) (x11 : Int32) (x12 : Int32) (t0 : Int32) (t1 : Int32), f_L_isBoard_b302  rec9 rec146 rec169 rec183 S x4 x6 x7 x8 x10 x11 x12 t0 t1 = some out → G k n S [(0, vR 0), (2, vR 37), (3, vR 38), (4, vI x4), (6, vI x6), (7, vI x7), (8, vI x8), (10, vI x10), (11, vI x11), (12, vI x12)] 302 [vI t1, vI t0] := by
    intro m9 rec9 hm9 hrec9 m146 rec146 hm146 hrec146 m169 rec169 hm169 hrec169 m183 rec183 hm183 hrec183 k n hk hn S x4 x6 x7 x8 x10 x11 x12 t0 t1
    unfold f_L_isBoard_b302
    refine s_ior hG dL_isBoard_302 ?_
    refine s_istore hG (lv' := [(9, vI (t0 ||| t1)), (0, vR 0), (2, vR 37), (3, vR 38), (4, vI x4), (6, vI x6), (7, vI x7), (8, vI x8), (10, vI x10), (11, vI x11), (12, vI x12)]) dL_isBoard_303 (by decide) rfl ?_
    refine s_iinc hG (v := (x12 + (1 : Int32))) (lv' := [(12, vI (x12 + (1 : Int32))), (9, vI (t0 ||| t1)), (0, vR 0), (2, vR 37), (3, vR 38), (4, vI x4), (6, vI x6), (7, vI x7), (8, vI x8), (10, vI x10), (11, vI x11)]) dL_isBoard_305 rfl rfl (by decide) rfl ?_
    refine s_goto hG (tgt := 183) dL_isBoard_308 (by decide) ?_
    refine s_lv hG [2, 3, 4, 5, 6, 7, 8, 1, 9, 10, 0] rfl ?_
    exact hrec183 _ _ (by omega) (by omega) _ _ _ _ _ _ _ _ _
  have hb301 : ∀ (m9 : Nat) (rec9 : HS × Int32 × Int32 × Int32 → Option (HS × Int32)) (hm9 : 13 + 0 ≤ m9) (hrec9 : ∀ (k n : Nat), k + m9 ≤ 101 → n + 6 * m9 ≤ 606 → ∀ (S : HS) (x4 : Int32) (x5 : Int32) (x6 : Int32), rec9 (S, x4, x5, x6) = some out → G k n S [(0, vR 0), (2, vR 37), (3, vR 38), (4, vI x4), (5, vI x5), (6, vI x6)] 9 []) (m146 : Nat) (rec146 : HS × Int32 × Int32 × Int32 × Int32 × Int32 → Option (HS × Int32)) (hm146 : 0 + m9 ≤ m146) (hrec146 : ∀ (k n : Nat), k + m146 ≤ 101 → n + 6 * m146 ≤ 606 → ∀ (S : HS) (x4 : Int32) (x5 : Int32) (x6 : Int32) (x7 : Int32) (x8 : Int32), rec146 (S, x4, x5, x6, x7, x8) = some out → G k n S [(0, vR 0), (2, vR 37), (3, vR 38), (4, vI x4), (5, vI x5), (6, vI x6), (7, vI x7), (8, vI x8)] 146 []) (m169 : Nat) (rec169 : HS × Int32 × Int32 × Int32 × Int32 × Int32 × Int32 × Int32 → Option (HS × Int32)) (hm169 : 1 + m146 ≤ m169) (hrec169 : ∀ (k n : Nat), k + m169 ≤ 101 → n + 6 * m169 ≤ 606 → ∀ (S : HS) (x4 : Int32) (x6 : Int32) (x7 : Int32) (x8 : Int32) (x9 : Int32) (x10 : Int32) (x11 : Int32), rec169 (S, x4, x6, x7, x8, x9, x10, x11) = some out → G k n S [(0, vR 0), (2, vR 37), (3, vR 38), (4, vI x4), (6, vI x6), (7, vI x7), (8, vI x8), (9, vI x9), (10, vI x10), (11, vI x11)] 169 []) (m183 : Nat) (rec183 : HS × Int32 × Int32 × Int32 × Int32 × Int32 × Int32 × Int32 × Int32 → Option (HS × Int32)) (hm183 : 0 + m169 ≤ m183) (hrec183 : ∀ (k n : Nat), k + m183 ≤ 101 → n + 6 * m183 ≤ 606 → ∀ (S : HS) (x4 : Int32) (x6 : Int32) (x7 : Int32) (x8 : Int32) (x9 : Int32) (x10 : Int32) (x11 : Int32) (x12 : Int32), rec183 (S, x4, x6, x7, x8, x9, x10, x11, x12) = some out → G k n S [(0, vR 0), (2, vR 37), (3, vR 38), (4, vI x4), (6, vI x6), (7, vI x7), (8, vI x8), (9, vI x9), (10, vI x10), (11, vI x11), (12, vI x12)] 183 []) (k n : Nat), k + (0 + m183) ≤ 101 → n + 6 * (0 + m183) ≤ 606 → ∀ (S : HS) (x4 : Int32) (x6 : Int32) (x7 : Int32) (x8 : Int32) (x10 : Int32) (x11 : Int32) (x12 : Int32) (t0 : Int32), f_L_isBoard_b301  rec9 rec146 rec169 rec183 S x4 x6 x7 x8 x10 x11 x12 t0 = some out → G k n S [(0, vR 0), (2, vR 37), (3, vR 38), (4, vI x4), (6, vI x6), (7, vI x7), (8, vI x8), (10, vI x10), (11, vI x11), (12, vI x12)] 301 [vI t0] := by
    intro m9 rec9 hm9 hrec9 m146 rec146 hm146 hrec146 m169 rec169 hm169 hrec169 m183 rec183 hm183 hrec183 k n hk hn S x4 x6 x7 x8 x10 x11 x12 t0
    unfold f_L_isBoard_b301
    refine s_iconst hG (v := (0 : Int32)) dL_isBoard_301 (by decide) ?_
    exact hb302 _ _ hm9 hrec9 _ _ hm146 hrec146 _ _ hm169 hrec169 _ _ hm183 hrec183 _ _ (by omega) (by omega) _ _ _ _ _ _ _ _ _ _
  have hb253 : ∀ (m9 : Nat) (rec9 : HS × Int32 × Int32 × Int32 → Option (HS × Int32)) (hm9 : 13 + 0 ≤ m9) (hrec9 : ∀ (k n : Nat), k + m9 ≤ 101 → n + 6 * m9 ≤ 606 → ∀ (S : HS) (x4 : Int32) (x5 : Int32) (x6 : Int32), rec9 (S, x4, x5, x6) = some out → G k n S [(0, vR 0), (2, vR 37), (3, vR 38), (4, vI x4), (5, vI x5), (6, vI x6)] 9 []) (m146 : Nat) (rec146 : HS × Int32 × Int32 × Int32 × Int32 × Int32 → Option (HS × Int32)) (hm146 : 0 + m9 ≤ m146) (hrec146 : ∀ (k n : Nat), k + m146 ≤ 101 → n + 6 * m146 ≤ 606 → ∀ (S : HS) (x4 : Int32) (x5 : Int32) (x6 : Int32) (x7 : Int32) (x8 : Int32), rec146 (S, x4, x5, x6, x7, x8) = some out → G k n S [(0, vR 0), (2, vR 37), (3, vR 38), (4, vI x4), (5, vI x5), (6, vI x6), (7, vI x7), (8, vI x8)] 146 []) (m169 : Nat) (rec169 : HS × Int32 × Int32 × Int32 × Int32 × Int32 × Int32 × Int32 → Option (HS × Int32)) (hm169 : 1 + m146 ≤ m169) (hrec169 : ∀ (k n : Nat), k + m169 ≤ 101 → n + 6 * m169 ≤ 606 → ∀ (S : HS) (x4 : Int32) (x6 : Int32) (x7 : Int32) (x8 : Int32) (x9 : Int32) (x10 : Int32) (x11 : Int32), rec169 (S, x4, x6, x7, x8, x9, x10, x11) = some out → G k n S [(0, vR 0), (2, vR 37), (3, vR 38), (4, vI x4), (6, vI x6), (7, vI x7), (8, vI x8), (9, vI x9), (10, vI x10), (11, vI x11)] 169 []) (m183 : Nat) (rec183 : HS × Int32 × Int32 × Int32 × Int32 × Int32 × Int32 × Int32 × Int32 → Option (HS × Int32)) (hm183 : 0 + m169 ≤ m183) (hrec183 : ∀ (k n : Nat), k + m183 ≤ 101 → n + 6 * m183 ≤ 606 → ∀ (S : HS) (x4 : Int32) (x6 : Int32) (x7 : Int32) (x8 : Int32) (x9 : Int32) (x10 : Int32) (x11 : Int32) (x12 : Int32), rec183 (S, x4, x6, x7, x8, x9, x10, x11, x12) = some out → G k n S [(0, vR 0), (2, vR 37), (3, vR 38), (4, vI x4), (6, vI x6), (7, vI x7), (8, vI x8), (9, vI x9), (10, vI x10), (11, vI x11), (12, vI x12)] 183 []) (k n : Nat), k + (0 + m183) ≤ 101 → n + 6 * (0 + m183) ≤ 606 → ∀ (S : HS) (x4 : Int32) (x6 : Int32) (x7 : Int32) (x8 : Int32) (x9 : Int32) (x10 : Int32) (x11 : Int32) (x12 : Int32) (t0 : Int32), f_L_isBoard_b253  rec9 rec146 rec169 rec183 S x4 x6 x7 x8 x9 x10 x11 x12 t0 = some out → G k n S [(0, vR 0), (2, vR 37), (3, vR 38), (4, vI x4), (6, vI x6), (7, vI x7), (8, vI x8), (9, vI x9), (10, vI x10), (11, vI x11), (12, vI x12)] 253 [vI t0] := by
    intro m9 rec9 hm9 hrec9 m146 rec146 hm146 hrec146 m169 rec169 hm169 hrec169 m183 rec183 hm183 hrec183 k n hk hn S x4 x6 x7 x8 x9 x10 x11 x12 t0
    unfold f_L_isBoard_b253
    refine s_istore hG (lv' := [(14, vI t0), (0, vR 0), (2, vR 37), (3, vR 38), (4, vI x4), (6, vI x6), (7, vI x7), (8, vI x8), (9, vI x9), (10, vI x10), (11, vI x11), (12, vI x12)]) dL_isBoard_253 (by decide) rfl ?_
    refine s_iconst hG (v := (1 : Int32)) dL_isBoard_255 (by decide) ?_
    refine s_aload_n hG dL_isBoard_256 rfl ?_
    refine s_iload hG dL_isBoard_257 rfl ?_
    refine s_iaload hG dL_isBoard_259 (rfl) ?_
    refine s_iconst hG (v := (3 : Int32)) dL_isBoard_260 (by decide) ?_
    refine s_iconst hG (v := (4 : Int32)) dL_isBoard_261 (by decide) ?_
    refine s_csP hG (as := [vI (S.1 37 x12.toNatClampNeg), vI (3 : Int32), vI (4 : Int32)]) (st := [vI (1 : Int32)]) (rm := rm_L_part) dL_isBoard_262 ml_RL_77 (tb13 (mem_i 1 rfl)) rfl ⟨rfl, rfl⟩ ⟨Nat.le_of_ble_eq_true rfl, Nat.le_of_ble_eq_true rfl⟩ (Nat.le_of_ble_eq_true rfl) ⟨by omega, by omega⟩ rfl (fun o h => c_L_part l _ _ _ _ o h) (fun o262 => ?_)
    refine s_ishl hG dL_isBoard_265 ?_
    refine s_iconst hG (v := (1 : Int32)) dL_isBoard_266 (by decide) ?_
    refine s_aload_n hG dL_isBoard_267 rfl ?_
    refine s_iload hG dL_isBoard_268 rfl ?_
    refine s_iaload hG dL_isBoard_270 (rfl) ?_
    refine s_bipush hG (v := (7 : Int32)) dL_isBoard_271 (by decide) ?_
    refine s_iconst hG (v := (4 : Int32)) dL_isBoard_273 (by decide) ?_
    refine s_csP hG (as := [vI (S.1 37 x12.toNatClampNeg), vI (7 : Int32), vI (4 : Int32)]) (st := [vI (1 : Int32), vI ((1 : Int32) <<< (o262 &&& 31))]) (rm := rm_L_part) dL_isBoard_274 ml_RL_77 (tb13 (mem_i 1 rfl)) rfl ⟨rfl, rfl⟩ ⟨Nat.le_of_ble_eq_true rfl, Nat.le_of_ble_eq_true rfl⟩ (Nat.le_of_ble_eq_true rfl) ⟨by omega, by omega⟩ rfl (fun o h => c_L_part l _ _ _ _ o h) (fun o274 => ?_)
    refine s_ishl hG dL_isBoard_277 ?_
    refine s_ior hG dL_isBoard_278 ?_
    refine s_istore hG (lv' := [(15, vI (((1 : Int32) <<< (o262 &&& 31)) ||| ((1 : Int32) <<< (o274 &&& 31)))), (14, vI t0), (0, vR 0), (2, vR 37), (3, vR 38), (4, vI x4), (6, vI x6), (7, vI x7), (8, vI x8), (9, vI x9), (10, vI x10), (11, vI x11), (12, vI x12)]) dL_isBoard_279 (by decide) rfl ?_
    refine s_iload hG dL_isBoard_281 rfl ?_
    refine s_iload hG dL_isBoard_283 rfl ?_
    refine s_if_eq hG (tgt := 301) dL_isBoard_285 (by decide) ?_ ?_
    · refine s_lv hG [2, 3, 4, 5, 6, 7, 8, 10, 11, 12] rfl ?_
      exact hb301 _ _ hm9 hrec9 _ _ hm146 hrec146 _ _ hm169 hrec169 _ _ hm183 hrec183 _ _ (by omega) (by omega) _ _ _ _ _ _ _ _ _
    · refine s_iload hG dL_isBoard_288 rfl ?_
      refine s_iload hG dL_isBoard_290 rfl ?_
      refine s_iand hG dL_isBoard_292 ?_
      refine s_if_eq hG (tgt := 301) dL_isBoard_293 (by decide) ?_ ?_
      · refine s_lv hG [2, 3, 4, 5, 6, 7, 8, 10, 11, 12] rfl ?_
        exact hb301 _ _ hm9 hrec9 _ _ hm146 hrec146 _ _ hm169 hrec169 _ _ hm183 hrec183 _ _ (by omega) (by omega) _ _ _ _ _ _ _ _ _
      · refine s_iload hG dL_isBoard_296 rfl ?_
        refine s_goto hG (tgt := 302) dL_isBoard_298 (by decide) ?_
        refine s_lv hG [2, 3, 4, 5, 6, 7, 8, 10, 11, 12] rfl ?_
        exact hb302 _ _ hm9 hrec9 _ _ hm146 hrec146 _ _ hm169 hrec169 _ _ hm183 hrec183 _ _ (by omega) (by omega) _ _ _ _ _ _ _ _ _ _
  have hb252 : ∀ (m9 : Nat) (rec9 : HS × Int32 × Int32 × Int32 → Option (HS × Int32)) (hm9 : 13 + 0 ≤ m9) (hrec9 : ∀ (k n : Nat), k + m9 ≤ 101 → n + 6 * m9 ≤ 606 → ∀ (S : HS) (x4 : Int32) (x5 : Int32) (x6 : Int32), rec9 (S, x4, x5, x6) = some out → G k n S [(0, vR 0), (2, vR 37), (3, vR 38), (4, vI x4), (5, vI x5), (6, vI x6)] 9 []) (m146 : Nat) (rec146 : HS × Int32 × Int32 × Int32 × Int32 × Int32 → Option (HS × Int32)) (hm146 : 0 + m9 ≤ m146) (hrec146 : ∀ (k n : Nat), k + m146 ≤ 101 → n + 6 * m146 ≤ 606 → ∀ (S : HS) (x4 : Int32) (x5 : Int32) (x6 : Int32) (x7 : Int32) (x8 : Int32), rec146 (S, x4, x5, x6, x7, x8) = some out → G k n S [(0, vR 0), (2, vR 37), (3, vR 38), (4, vI x4), (5, vI x5), (6, vI x6), (7, vI x7), (8, vI x8)] 146 []) (m169 : Nat) (rec169 : HS × Int32 × Int32 × Int32 × Int32 × Int32 × Int32 × Int32 → Option (HS × Int32)) (hm169 : 1 + m146 ≤ m169) (hrec169 : ∀ (k n : Nat), k + m169 ≤ 101 → n + 6 * m169 ≤ 606 → ∀ (S : HS) (x4 : Int32) (x6 : Int32) (x7 : Int32) (x8 : Int32) (x9 : Int32) (x10 : Int32) (x11 : Int32), rec169 (S, x4, x6, x7, x8, x9, x10, x11) = some out → G k n S [(0, vR 0), (2, vR 37), (3, vR 38), (4, vI x4), (6, vI x6), (7, vI x7), (8, vI x8), (9, vI x9), (10, vI x10), (11, vI x11)] 169 []) (m183 : Nat) (rec183 : HS × Int32 × Int32 × Int32 × Int32 × Int32 × Int32 × Int32 × Int32 → Option (HS × Int32)) (hm183 : 0 + m169 ≤ m183) (hrec183 : ∀ (k n : Nat), k + m183 ≤ 101 → n + 6 * m183 ≤ 606 → ∀ (S : HS) (x4 : Int32) (x6 : Int32) (x7 : Int32) (x8 : Int32) (x9 : Int32) (x10 : Int32) (x11 : Int32) (x12 : Int32), rec183 (S, x4, x6, x7, x8, x9, x10, x11, x12) = some out → G k n S [(0, vR 0), (2, vR 37), (3, vR 38), (4, vI x4), (6, vI x6), (7, vI x7), (8, vI x8), (9, vI x9), (10, vI x10), (11, vI x11), (12, vI x12)] 183 []) (k n : Nat), k + (0 + m183) ≤ 101 → n + 6 * (0 + m183) ≤ 606 → ∀ (S : HS) (x4 : Int32) (x6 : Int32) (x7 : Int32) (x8 : Int32) (x9 : Int32) (x10 : Int32) (x11 : Int32) (x12 : Int32), f_L_isBoard_b252  rec9 rec146 rec169 rec183 S x4 x6 x7 x8 x9 x10 x11 x12 = some out → G k n S [(0, vR 0), (2, vR 37), (3, vR 38), (4, vI x4), (6, vI x6), (7, vI x7), (8, vI x8), (9, vI x9), (10, vI x10), (11, vI x11), (12, vI x12)] 252 [] := by
    intro m9 rec9 hm9 hrec9 m146 rec146 hm146 hrec146 m169 rec169 hm169 hrec169 m183 rec183 hm183 hrec183 k n hk hn S x4 x6 x7 x8 x9 x10 x11 x12
    unfold f_L_isBoard_b252
    refine s_iconst hG (v := (0 : Int32)) dL_isBoard_252 (by decide) ?_
    exact hb253 _ _ hm9 hrec9 _ _ hm146 hrec146 _ _ hm169 hrec169 _ _ hm183 hrec183 _ _ (by omega) (by omega) _ _ _ _ _ _ _ _ _ _
  have hb248 : ∀ (m9 : Nat) (rec9 : HS × Int32 × Int32 × Int32 → Option (HS × Int32)) (hm9 : 13 + 0 ≤ m9) (hrec9 : ∀ (k n : Nat), k + m9 ≤ 101 → n + 6 * m9 ≤ 606 → ∀ (S : HS) (x4 : Int32) (x5 : Int32) (x6 : Int32), rec9 (S, x4, x5, x6) = some out → G k n S [(0, vR 0), (2, vR 37), (3, vR 38), (4, vI x4), (5, vI x5), (6, vI x6)] 9 []) (m146 : Nat) (rec146 : HS × Int32 × Int32 × Int32 × Int32 × Int32 → Option (HS × Int32)) (hm146 : 0 + m9 ≤ m146) (hrec146 : ∀ (k n : Nat), k + m146 ≤ 101 → n + 6 * m146 ≤ 606 → ∀ (S : HS) (x4 : Int32) (x5 : Int32) (x6 : Int32) (x7 : Int32) (x8 : Int32), rec146 (S, x4, x5, x6, x7, x8) = some out → G k n S [(0, vR 0), (2, vR 37), (3, vR 38), (4, vI x4), (5, vI x5), (6, vI x6), (7, vI x7), (8, vI x8)] 146 []) (m169 : Nat) (rec169 : HS × Int32 × Int32 × Int32 × Int32 × Int32 × Int32 × Int32 → Option (HS × Int32)) (hm169 : 1 + m146 ≤ m169) (hrec169 : ∀ (k n : Nat), k + m169 ≤ 101 → n + 6 * m169 ≤ 606 → ∀ (S : HS) (x4 : Int32) (x6 : Int32) (x7 : Int32) (x8 : Int32) (x9 : Int32) (x10 : Int32) (x11 : Int32), rec169 (S, x4, x6, x7, x8, x9, x10, x11) = some out → G k n S [(0, vR 0), (2, vR 37), (3, vR 38), (4, vI x4), (6, vI x6), (7, vI x7), (8, vI x8), (9, vI x9), (10, vI x10), (11, vI x11)] 169 []) (m183 : Nat) (rec183 : HS × Int32 × Int32 × Int32 × Int32 × Int32 × Int32 × Int32 × Int32 → Option (HS × Int32)) (hm183 : 0 + m169 ≤ m183) (hrec183 : ∀ (k n : Nat), k + m183 ≤ 101 → n + 6 * m183 ≤ 606 → ∀ (S : HS) (x4 : Int32) (x6 : Int32) (x7 : Int32) (x8 : Int32) (x9 : Int32) (x10 : Int32) (x11 : Int32) (x12 : Int32), rec183 (S, x4, x6, x7, x8, x9, x10, x11, x12) = some out → G k n S [(0, vR 0), (2, vR 37), (3, vR 38), (4, vI x4), (6, vI x6), (7, vI x7), (8, vI x8), (9, vI x9), (10, vI x10), (11, vI x11), (12, vI x12)] 183 []) (k n : Nat), k + (0 + m183) ≤ 101 → n + 6 * (0 + m183) ≤ 606 → ∀ (S : HS) (x4 : Int32) (x6 : Int32) (x7 : Int32) (x8 : Int32) (x9 : Int32) (x10 : Int32) (x11 : Int32) (x12 : Int32), f_L_isBoard_b248  rec9 rec146 rec169 rec183 S x4 x6 x7 x8 x9 x10 x11 x12 = some out → G k n S [(0, vR 0), (2, vR 37), (3, vR 38), (4, vI x4), (6, vI x6), (7, vI x7), (8, vI x8), (9, vI x9), (10, vI x10), (11, vI x11), (12, vI x12)] 248 [] := by
    intro m9 rec9 hm9 hrec9 m146 rec146 hm146 hrec146 m169 rec169 hm169 hrec169 m183 rec183 hm183 hrec183 k n hk hn S x4 x6 x7 x8 x9 x10 x11 x12
    unfold f_L_isBoard_b248
    refine s_iconst hG (v := (1 : Int32)) dL_isBoard_248 (by decide) ?_
    refine s_goto hG (tgt := 253) dL_isBoard_249 (by decide) ?_
    exact hb253 _ _ hm9 hrec9 _ _ hm146 hrec146 _ _ hm169 hrec169 _ _ hm183 hrec183 _ _ (by omega) (by omega) _ _ _ _ _ _ _ _ _ _
  have hb245 : ∀ (m9 : Nat) (rec9 : HS × Int32 × Int32 × Int32 → Option (HS × Int32)) (hm9 : 13 + 0 ≤ m9) (hrec9 : ∀ (k n : Nat), k + m9 ≤ 101 → n + 6 * m9 ≤ 606 → ∀ (S : HS) (x4 : Int32) (x5 : Int32) (x6 : Int32), rec9 (S, x4, x5, x6) = some out → G k n S [(0, vR 0), (2, vR 37), (3, vR 38), (4, vI x4), (5, vI x5), (6, vI x6)] 9 []) (m146 : Nat) (rec146 : HS × Int32 × Int32 × Int32 × Int32 × Int32 → Option (HS × Int32)) (hm146 : 0 + m9 ≤ m146) (hrec146 : ∀ (k n : Nat), k + m146 ≤ 101 → n + 6 * m146 ≤ 606 → ∀ (S : HS) (x4 : Int32) (x5 : Int32) (x6 : Int32) (x7 : Int32) (x8 : Int32), rec146 (S, x4, x5, x6, x7, x8) = some out → G k n S [(0, vR 0), (2, vR 37), (3, vR 38), (4, vI x4), (5, vI x5), (6, vI x6), (7, vI x7), (8, vI x8)] 146 []) (m169 : Nat) (rec169 : HS × Int32 × Int32 × Int32 × Int32 × Int32 × Int32 × Int32 → Option (HS × Int32)) (hm169 : 1 + m146 ≤ m169) (hrec169 : ∀ (k n : Nat), k + m169 ≤ 101 → n + 6 * m169 ≤ 606 → ∀ (S : HS) (x4 : Int32) (x6 : Int32) (x7 : Int32) (x8 : Int32) (x9 : Int32) (x10 : Int32) (x11 : Int32), rec169 (S, x4, x6, x7, x8, x9, x10, x11) = some out → G k n S [(0, vR 0), (2, vR 37), (3, vR 38), (4, vI x4), (6, vI x6), (7, vI x7), (8, vI x8), (9, vI x9), (10, vI x10), (11, vI x11)] 169 []) (m183 : Nat) (rec183 : HS × Int32 × Int32 × Int32 × Int32 × Int32 × Int32 × Int32 × Int32 → Option (HS × Int32)) (hm183 : 0 + m169 ≤ m183) (hrec183 : ∀ (k n : Nat), k + m183 ≤ 101 → n + 6 * m183 ≤ 606 → ∀ (S : HS) (x4 : Int32) (x6 : Int32) (x7 : Int32) (x8 : Int32) (x9 : Int32) (x10 : Int32) (x11 : Int32) (x12 : Int32), rec183 (S, x4, x6, x7, x8, x9, x10, x11, x12) = some out → G k n S [(0, vR 0), (2, vR 37), (3, vR 38), (4, vI x4), (6, vI x6), (7, vI x7), (8, vI x8), (9, vI x9), (10, vI x10), (11, vI x11), (12, vI x12)] 183 []) (k n : Nat), k + (0 + m183) ≤ 101 → n + 6 * (0 + m183) ≤ 606 → ∀ (S : HS) (x4 : Int32) (x6 : Int32) (x7 : Int32) (x8 : Int32) (x9 : Int32) (x10 : Int32) (x11 : Int32) (x12 : Int32) (t0 : Int32) (t1 : Int32), f_L_isBoard_b245  rec9 rec146 rec169 rec183 S x4 x6 x7 x8 x9 x10 x11 x12 t0 t1 = some out → G k n S [(0, vR 0), (2, vR 37), (3, vR 38), (4, vI x4), (6, vI x6), (7, vI x7), (8, vI x8), (9, vI x9), (10, vI x10), (11, vI x11), (12, vI x12)] 245 [vI t1, vI t0] := by
    intro m9 rec9 hm9 hrec9 m146 rec146 hm146 hrec146 m169 rec169 hm169 hrec169 m183 rec183 hm183 hrec183 k n hk hn S x4 x6 x7 x8 x9 x10 x11 x12 t0 t1
    unfold f_L_isBoard_b245
    refine s_icmp_ne hG (tgt := 252) dL_isBoard_245 (by decide) ?_ ?_
    · exact hb252 _ _ hm9 hrec9 _ _ hm146 hrec146 _ _ hm169 hrec169 _ _ hm183 hrec183 _ _ (by omega) (by omega) _ _ _ _ _ _ _ _ _
    · exact hb248 _ _ hm9 hrec9 _ _ hm146 hrec146 _ _ hm169 hrec169 _ _ hm183 hrec183 _ _ (by omega) (by omega) _ _ _ _ _ _ _ _ _
  have hb235 : ∀ (m9 : Nat) (rec9 : HS × Int32 × Int32 × Int32 → Option (HS × Int32)) (hm9 : 13 + 0 ≤ m9) (hrec9 : ∀ (k n : Nat), k + m9 ≤ 101 → n + 6 * m9 ≤ 606 → ∀ (S : HS) (x4 : Int32) (x5 : Int32) (x6 : Int32), rec9 (S, x4, x5, x6) = some out → G k n S [(0, vR 0), (2, vR 37), (3, vR 38), (4, vI x4), (5, vI x5), (6, vI x6)] 9 []) (m146 : Nat) (rec146 : HS × Int32 × Int32 × Int32 × Int32 × Int32 → Option (HS × Int32)) (hm146 : 0 + m9 ≤ m146) (hrec146 : ∀ (k n : Nat), k + m146 ≤ 101 → n + 6 * m146 ≤ 606 → ∀ (S : HS) (x4 : Int32) (x5 : Int32) (x6 : Int32) (x7 : Int32) (x8 : Int32), rec146 (S, x4, x5, x6, x7, x8) = some out → G k n S [(0, vR 0), (2, vR 37), (3, vR 38), (4, vI x4), (5, vI x5), (6, vI x6), (7, vI x7), (8, vI x8)] 146 []) (m169 : Nat) (rec169 : HS × Int32 × Int32 × Int32 × Int32 × Int32 × Int32 × Int32 → Option (HS × Int32)) (hm169 : 1 + m146 ≤ m169) (hrec169 : ∀ (k n : Nat), k + m169 ≤ 101 → n + 6 * m169 ≤ 606 → ∀ (S : HS) (x4 : Int32) (x6 : Int32) (x7 : Int32) (x8 : Int32) (x9 : Int32) (x10 : Int32) (x11 : Int32), rec169 (S, x4, x6, x7, x8, x9, x10, x11) = some out → G k n S [(0, vR 0), (2, vR 37), (3, vR 38), (4, vI x4), (6, vI x6), (7, vI x7), (8, vI x8), (9, vI x9), (10, vI x10), (11, vI x11)] 169 []) (m183 : Nat) (rec183 : HS × Int32 × Int32 × Int32 × Int32 × Int32 × Int32 × Int32 × Int32 → Option (HS × Int32)) (hm183 : 0 + m169 ≤ m183) (hrec183 : ∀ (k n : Nat), k + m183 ≤ 101 → n + 6 * m183 ≤ 606 → ∀ (S : HS) (x4 : Int32) (x6 : Int32) (x7 : Int32) (x8 : Int32) (x9 : Int32) (x10 : Int32) (x11 : Int32) (x12 : Int32), rec183 (S, x4, x6, x7, x8, x9, x10, x11, x12) = some out → G k n S [(0, vR 0), (2, vR 37), (3, vR 38), (4, vI x4), (6, vI x6), (7, vI x7), (8, vI x8), (9, vI x9), (10, vI x10), (11, vI x11), (12, vI x12)] 183 []) (k n : Nat), k + (0 + m183) ≤ 101 → n + 6 * (0 + m183) ≤ 606 → ∀ (S : HS) (x4 : Int32) (x6 : Int32) (x7 : Int32) (x8 : Int32) (x9 : Int32) (x10 : Int32) (x11 : Int32) (x12 : Int32) (t0 : Int32), f_L_isBoard_b235  rec9 rec146 rec169 rec183 S x4 x6 x7 x8 x9 x10 x11 x12 t0 = some out → G k n S [(0, vR 0), (2, vR 37), (3, vR 38), (4, vI x4), (6, vI x6), (7, vI x7), (8, vI x8), (9, vI x9), (10, vI x10), (11, vI x11), (12, vI x12)] 235 [vI t0] := by
    intro m9 rec9 hm9 hrec9 m146 rec146 hm146 hrec146 m169 rec169 hm169 hrec169 m183 rec183 hm183 hrec183 k n hk hn S x4 x6 x7 x8 x9 x10 x11 x12 t0
    unfold f_L_isBoard_b235
    refine s_iload hG dL_isBoard_235 rfl ?_
    refine s_if_le hG (tgt := 244) dL_isBoard_237 (by decide) ?_ ?_
    · refine s_iconst hG (v := (0 : Int32)) dL_isBoard_244 (by decide) ?_
      exact hb245 _ _ hm9 hrec9 _ _ hm146 hrec146 _ _ hm169 hrec169 _ _ hm183 hrec183 _ _ (by omega) (by omega) _ _ _ _ _ _ _ _ _ _ _
    · refine s_iconst hG (v := (1 : Int32)) dL_isBoard_240 (by decide) ?_
      refine s_goto hG (tgt := 245) dL_isBoard_241 (by decide) ?_
      exact hb245 _ _ hm9 hrec9 _ _ hm146 hrec146 _ _ hm169 hrec169 _ _ hm183 hrec183 _ _ (by omega) (by omega) _ _ _ _ _ _ _ _ _ _ _
  have hb183 : ∀ (m9 : Nat) (rec9 : HS × Int32 × Int32 × Int32 → Option (HS × Int32)) (hm9 : 13 + 0 ≤ m9) (hrec9 : ∀ (k n : Nat), k + m9 ≤ 101 → n + 6 * m9 ≤ 606 → ∀ (S : HS) (x4 : Int32) (x5 : Int32) (x6 : Int32), rec9 (S, x4, x5, x6) = some out → G k n S [(0, vR 0), (2, vR 37), (3, vR 38), (4, vI x4), (5, vI x5), (6, vI x6)] 9 []) (m146 : Nat) (rec146 : HS × Int32 × Int32 × Int32 × Int32 × Int32 → Option (HS × Int32)) (hm146 : 0 + m9 ≤ m146) (hrec146 : ∀ (k n : Nat), k + m146 ≤ 101 → n + 6 * m146 ≤ 606 → ∀ (S : HS) (x4 : Int32) (x5 : Int32) (x6 : Int32) (x7 : Int32) (x8 : Int32), rec146 (S, x4, x5, x6, x7, x8) = some out → G k n S [(0, vR 0), (2, vR 37), (3, vR 38), (4, vI x4), (5, vI x5), (6, vI x6), (7, vI x7), (8, vI x8)] 146 []) (m169 : Nat) (rec169 : HS × Int32 × Int32 × Int32 × Int32 × Int32 × Int32 × Int32 → Option (HS × Int32)) (hm169 : 1 + m146 ≤ m169) (hrec169 : ∀ (k n : Nat), k + m169 ≤ 101 → n + 6 * m169 ≤ 606 → ∀ (S : HS) (x4 : Int32) (x6 : Int32) (x7 : Int32) (x8 : Int32) (x9 : Int32) (x10 : Int32) (x11 : Int32), rec169 (S, x4, x6, x7, x8, x9, x10, x11) = some out → G k n S [(0, vR 0), (2, vR 37), (3, vR 38), (4, vI x4), (6, vI x6), (7, vI x7), (8, vI x8), (9, vI x9), (10, vI x10), (11, vI x11)] 169 []), ∀ (k n : Nat), k + (0 * FU + 0 + m169) ≤ 101 → n + 6 * (0 * FU + 0 + m169) ≤ 606 → ∀ (S : HS) (x4 : Int32) (x6 : Int32) (x7 : Int32) (x8 : Int32) (x9 : Int32) (x10 : Int32) (x11 : Int32) (x12 : Int32), f_L_isBoard_b183  rec9 rec146 rec169 S x4 x6 x7 x8 x9 x10 x11 x12 = some out → G k n S [(0, vR 0), (2, vR 37), (3, vR 38), (4, vI x4), (6, vI x6), (7, vI x7), (8, vI x8), (9, vI x9), (10, vI x10), (11, vI x11), (12, vI x12)] 183 [] := by
    intro m9 rec9 hm9 hrec9 m146 rec146 hm146 hrec146 m169 rec169 hm169 hrec169
    suffices H : ∀ (nf k n : Nat), k + (0 * nf + 0 + m169) ≤ 101 → n + 6 * (0 * nf + 0 + m169) ≤ 606 → ∀ (S : HS) (x4 : Int32) (x6 : Int32) (x7 : Int32) (x8 : Int32) (x9 : Int32) (x10 : Int32) (x11 : Int32) (x12 : Int32), fx (F_L_isBoard_b183  rec9 rec146 rec169) nf (S, x4, x6, x7, x8, x9, x10, x11, x12) = some out → G k n S [(0, vR 0), (2, vR 37), (3, vR 38), (4, vI x4), (6, vI x6), (7, vI x7), (8, vI x8), (9, vI x9), (10, vI x10), (11, vI x11), (12, vI x12)] 183 [] from fun k n hk hn S x4 x6 x7 x8 x9 x10 x11 x12 => H FU k n hk hn S x4 x6 x7 x8 x9 x10 x11 x12
    intro nf
    induction nf with
    | zero => intro k n _ _ S x4 x6 x7 x8 x9 x10 x11 x12 h9; cases h9
    | succ nf hrec183 =>
      intro k n hk0 hn0 S x4 x6 x7 x8 x9 x10 x11 x12
      show F_L_isBoard_b183  rec9 rec146 rec169 (fx (F_L_isBoard_b183  rec9 rec146 rec169) nf) (S, x4, x6, x7, x8, x9, x10, x11, x12) = some out → _
      generalize fx (F_L_isBoard_b183  rec9 rec146 rec169) nf = rec183 at hrec183
      obtain ⟨m183, hq183⟩ : ∃ m, m = 0 * nf + 0 + m169 := ⟨_, rfl⟩
      rw [← hq183] at hrec183
      have hm183 : 0 + m169 ≤ m183 := by omega
      have hk : k + (0 + m183) ≤ 101 := by omega
      have hn : n + 6 * (0 + m183) ≤ 606 := by omega
      clear hk0 hn0 hq183
      unfold F_L_isBoard_b183
      dsimp only
      refine s_iload hG dL_isBoard_183 rfl ?_
      refine s_aload_n hG dL_isBoard_185 rfl ?_
      refine s_iconst hG (v := (2 : Int32)) dL_isBoard_186 (by decide) ?_
      refine s_iaload hG dL_isBoard_187 (rfl) ?_
      refine s_icmp_ge hG (tgt := 311) dL_isBoard_188 (by decide) ?_ ?_
      · refine s_goto hG (tgt := 169) dL_isBoard_311 (by decide) ?_
        refine s_lv hG [0, 1, 2, 3, 4, 5, 6, 7, 8, 9] rfl ?_
        exact hrec169 _ _ (by omega) (by omega) _ _ _ _ _ _ _ _
      · refine s_aload_n hG dL_isBoard_191 rfl ?_
        refine s_iload hG dL_isBoard_192 rfl ?_
        refine s_iaload hG dL_isBoard_194 (rfl) ?_
        refine s_iconst hG (v := (0 : Int32)) dL_isBoard_195 (by decide) ?_
        refine s_iconst hG (v := (3 : Int32)) dL_isBoard_196 (by decide) ?_
        refine s_csP hG (as := [vI (S.1 37 x12.toNatClampNeg), vI (0 : Int32), vI (3 : Int32)]) (st := []) (rm := rm_L_part) dL_isBoard_197 ml_RL_77 (tb13 (mem_i 1 rfl)) rfl ⟨rfl, rfl⟩ ⟨Nat.le_of_ble_eq_true rfl, Nat.le_of_ble_eq_true rfl⟩ (Nat.le_of_ble_eq_true rfl) ⟨by omega, by omega⟩ rfl (fun o h => c_L_part l _ _ _ _ o h) (fun o197 => ?_)
        refine s_istore hG (lv' := [(13, vI o197), (0, vR 0), (2, vR 37), (3, vR 38), (4, vI x4), (6, vI x6), (7, vI x7), (8, vI x8), (9, vI x9), (10, vI x10), (11, vI x11), (12, vI x12)]) dL_isBoard_200 (by decide) rfl ?_
        refine s_aload_n hG dL_isBoard_202 rfl ?_
        refine s_iload hG dL_isBoard_203 rfl ?_
        refine s_dI hG (as := [vI x12]) (st := []) (rm := rm_X7_isInForce) (rmT := rmT_X7_isInForce) (by decide) dL_isBoard_205 ml_RL_80 (rfl) (tb12 (mem_i 14 rfl)) rfl ⟨rfl, rfl⟩ ⟨Nat.le_of_ble_eq_true rfl, Nat.le_of_ble_eq_true rfl⟩ (Nat.le_of_ble_eq_true rfl) ⟨by omega, by omega⟩ rfl (fun o h => c_X7_isInForce l hl9 _ _ o h) (fun o205 => ?_)
        refine s_if_eq hG (tgt := 252) dL_isBoard_208 (by decide) ?_ ?_
        · refine s_lv hG [1, 2, 3, 4, 5, 6, 7, 8, 9, 10, 11] rfl ?_
          exact hb252 _ _ hm9 hrec9 _ _ hm146 hrec146 _ _ hm169 hrec169 _ _ hm183 hrec183 _ _ (by omega) (by omega) _ _ _ _ _ _ _ _ _
        · refine s_iload hG dL_isBoard_211 rfl ?_
          refine s_bipush hG (v := (6 : Int32)) dL_isBoard_213 (by decide) ?_
          refine s_icmp_eq hG (tgt := 248) dL_isBoard_215 (by decide) ?_ ?_
          · refine s_lv hG [1, 2, 3, 4, 5, 6, 7, 8, 9, 10, 11] rfl ?_
            exact hb248 _ _ hm9 hrec9 _ _ hm146 hrec146 _ _ hm169 hrec169 _ _ hm183 hrec183 _ _ (by omega) (by omega) _ _ _ _ _ _ _ _ _
          · refine s_iload hG dL_isBoard_218 rfl ?_
            refine s_iconst hG (v := (1 : Int32)) dL_isBoard_220 (by decide) ?_
            refine s_icmp_le hG (tgt := 252) dL_isBoard_221 (by decide) ?_ ?_
            · refine s_lv hG [1, 2, 3, 4, 5, 6, 7, 8, 9, 10, 11] rfl ?_
              exact hb252 _ _ hm9 hrec9 _ _ hm146 hrec146 _ _ hm169 hrec169 _ _ hm183 hrec183 _ _ (by omega) (by omega) _ _ _ _ _ _ _ _ _
            · refine s_iload hG dL_isBoard_224 rfl ?_
              refine s_iconst hG (v := (3 : Int32)) dL_isBoard_226 (by decide) ?_
              refine s_icmp_le hG (tgt := 234) dL_isBoard_227 (by decide) ?_ ?_
              · refine s_iconst hG (v := (0 : Int32)) dL_isBoard_234 (by decide) ?_
                refine s_lv hG [1, 2, 3, 4, 5, 6, 7, 8, 9, 10, 11] rfl ?_
                exact hb235 _ _ hm9 hrec9 _ _ hm146 hrec146 _ _ hm169 hrec169 _ _ hm183 hrec183 _ _ (by omega) (by omega) _ _ _ _ _ _ _ _ _ _
              · refine s_iconst hG (v := (1 : Int32)) dL_isBoard_230 (by decide) ?_
                refine s_goto hG (tgt := 235) dL_isBoard_231 (by decide) ?_
                refine s_lv hG [1, 2, 3, 4, 5, 6, 7, 8, 9, 10, 11] rfl ?_
                exact hb235 _ _ hm9 hrec9 _ _ hm146 hrec146 _ _ hm169 hrec169 _ _ hm183 hrec183 _ _ (by omega) (by omega) _ _ _ _ _ _ _ _ _ _
  have hb169 : ∀ (m9 : Nat) (rec9 : HS × Int32 × Int32 × Int32 → Option (HS × Int32)) (hm9 : 13 + 0 ≤ m9) (hrec9 : ∀ (k n : Nat), k + m9 ≤ 101 → n + 6 * m9 ≤ 606 → ∀ (S : HS) (x4 : Int32) (x5 : Int32) (x6 : Int32), rec9 (S, x4, x5, x6) = some out → G k n S [(0, vR 0), (2, vR 37), (3, vR 38), (4, vI x4), (5, vI x5), (6, vI x6)] 9 []) (m146 : Nat) (rec146 : HS × Int32 × Int32 × Int32 × Int32 × Int32 → Option (HS × Int32)) (hm146 : 0 + m9 ≤ m146) (hrec146 : ∀ (k n : Nat), k + m146 ≤ 101 → n + 6 * m146 ≤ 606 → ∀ (S : HS) (x4 : Int32) (x5 : Int32) (x6 : Int32) (x7 : Int32) (x8 : Int32), rec146 (S, x4, x5, x6, x7, x8) = some out → G k n S [(0, vR 0), (2, vR 37), (3, vR 38), (4, vI x4), (5, vI x5), (6, vI x6), (7, vI x7), (8, vI x8)] 146 []), ∀ (k n : Nat), k + (0 * FU + 1 + m146) ≤ 101 → n + 6 * (0 * FU + 1 + m146) ≤ 606 → ∀ (S : HS) (x4 : Int32) (x6 : Int32) (x7 : Int32) (x8 : Int32) (x9 : Int32) (x10 : Int32) (x11 : Int32), f_L_isBoard_b169  rec9 rec146 S x4 x6 x7 x8 x9 x10 x11 = some out → G k n S [(0, vR 0), (2, vR 37), (3, vR 38), (4, vI x4), (6, vI x6), (7, vI x7), (8, vI x8), (9, vI x9), (10, vI x10), (11, vI x11)] 169 [] := by
    intro m9 rec9 hm9 hrec9 m146 rec146 hm146 hrec146
    suffices H : ∀ (nf k n : Nat), k + (0 * nf + 1 + m146) ≤ 101 → n + 6 * (0 * nf + 1 + m146) ≤ 606 → ∀ (S : HS) (x4 : Int32) (x6 : Int32) (x7 : Int32) (x8 : Int32) (x9 : Int32) (x10 : Int32) (x11 : Int32), fx (F_L_isBoard_b169  rec9 rec146) nf (S, x4, x6, x7, x8, x9, x10, x11) = some out → G k n S [(0, vR 0), (2, vR 37), (3, vR 38), (4, vI x4), (6, vI x6), (7, vI x7), (8, vI x8), (9, vI x9), (10, vI x10), (11, vI x11)] 169 [] from fun k n hk hn S x4 x6 x7 x8 x9 x10 x11 => H FU k n hk hn S x4 x6 x7 x8 x9 x10 x11
    intro nf
    induction nf with
    | zero => intro k n _ _ S x4 x6 x7 x8 x9 x10 x11 h9; cases h9
    | succ nf hrec169 =>
      intro k n hk0 hn0 S x4 x6 x7 x8 x9 x10 x11
      show F_L_isBoard_b169  rec9 rec146 (fx (F_L_isBoard_b169  rec9 rec146) nf) (S, x4, x6, x7, x8, x9, x10, x11) = some out → _
      generalize fx (F_L_isBoard_b169  rec9 rec146) nf = rec169 at hrec169
      obtain ⟨m169, hq169⟩ : ∃ m, m = 0 * nf + 1 + m146 := ⟨_, rfl⟩
      rw [← hq169] at hrec169
      have hm169 : 1 + m146 ≤ m169 := by omega
      have hk : k + (0 + m169) ≤ 101 := by omega
      have hn : n + 6 * (0 + m169) ≤ 606 := by omega
      clear hk0 hn0 hq169
      unfold F_L_isBoard_b169
      dsimp only
      refine s_iload hG dL_isBoard_169 rfl ?_
      refine s_iload hG dL_isBoard_171 rfl ?_
      refine s_icmp_eq hG (tgt := 314) dL_isBoard_173 (by decide) ?_ ?_
      · refine s_iload hG dL_isBoard_314 rfl ?_
        refine s_istore hG (lv' := [(12, vI x9), (0, vR 0), (2, vR 37), (3, vR 38), (4, vI x4), (6, vI x6), (7, vI x7), (8, vI x8), (9, vI x9), (10, vI x10), (11, vI x11)]) dL_isBoard_316 (by decide) rfl ?_
        refine s_lv hG [1, 2, 3, 4, 5, 6, 7, 10, 0] rfl ?_
        exact hb318 _ _ hm9 hrec9 _ _ hm146 hrec146 _ _ (by omega) (by omega) _ _ _ _ _ _ _
      · refine s_iload hG dL_isBoard_176 rfl ?_
        refine s_istore hG (lv' := [(10, vI x9), (0, vR 0), (2, vR 37), (3, vR 38), (4, vI x4), (6, vI x6), (7, vI x7), (8, vI x8), (9, vI x9), (11, vI x11)]) dL_isBoard_178 (by decide) rfl ?_
        refine s_iconst hG (v := (0 : Int32)) dL_isBoard_180 (by decide) ?_
        refine s_istore hG (lv' := [(12, vI (0 : Int32)), (10, vI x9), (0, vR 0), (2, vR 37), (3, vR 38), (4, vI x4), (6, vI x6), (7, vI x7), (8, vI x8), (9, vI x9), (11, vI x11)]) dL_isBoard_181 (by decide) rfl ?_
        refine s_lv hG [2, 3, 4, 5, 6, 7, 8, 9, 1, 10, 0] rfl ?_
        exact hb183 _ _ hm9 hrec9 _ _ hm146 hrec146 _ _ hm169 hrec169 _ _ (by omega) (by omega) _ _ _ _ _ _ _ _ _
  have hb146 : ∀ (m9 : Nat) (rec9 : HS × Int32 × Int32 × Int32 → Option (HS × Int32)) (hm9 : 13 + 0 ≤ m9) (hrec9 : ∀ (k n : Nat), k + m9 ≤ 101 → n + 6 * m9 ≤ 606 → ∀ (S : HS) (x4 : Int32) (x5 : Int32) (x6 : Int32), rec9 (S, x4, x5, x6) = some out → G k n S [(0, vR 0), (2, vR 37), (3, vR 38), (4, vI x4), (5, vI x5), (6, vI x6)] 9 []), ∀ (k n : Nat), k + (1 * 3 + 0 + m9) ≤ 101 → n + 6 * (1 * 3 + 0 + m9) ≤ 606 → ∀ (S : HS) (x4 : Int32) (x5 : Int32) (x6 : Int32) (x7 : Int32) (x8 : Int32), f_L_isBoard_b146  rec9 S x4 x5 x6 x7 x8 = some out → G k n S [(0, vR 0), (2, vR 37), (3, vR 38), (4, vI x4), (5, vI x5), (6, vI x6), (7, vI x7), (8, vI x8)] 146 [] := by
    intro m9 rec9 hm9 hrec9
    suffices H : ∀ (nf k n : Nat), k + (1 * nf + 0 + m9) ≤ 101 → n + 6 * (1 * nf + 0 + m9) ≤ 606 → ∀ (S : HS) (x4 : Int32) (x5 : Int32) (x6 : Int32) (x7 : Int32) (x8 : Int32), fx (F_L_isBoard_b146  rec9) nf (S, x4, x5, x6, x7, x8) = some out → G k n S [(0, vR 0), (2, vR 37), (3, vR 38), (4, vI x4), (5, vI x5), (6, vI x6), (7, vI x7), (8, vI x8)] 146 [] from fun k n hk hn S x4 x5 x6 x7 x8 => H 3 k n hk hn S x4 x5 x6 x7 x8
    intro nf
    induction nf with
    | zero => intro k n _ _ S x4 x5 x6 x7 x8 h9; cases h9
    | succ nf hrec146 =>
      intro k n hk0 hn0 S x4 x5 x6 x7 x8
      show F_L_isBoard_b146  rec9 (fx (F_L_isBoard_b146  rec9) nf) (S, x4, x5, x6, x7, x8) = some out → _
      generalize fx (F_L_isBoard_b146  rec9) nf = rec146 at hrec146
      obtain ⟨m146, hq146⟩ : ∃ m, m = 1 * nf + 0 + m9 := ⟨_, rfl⟩
      rw [← hq146] at hrec146
      have hm146 : 0 + m9 ≤ m146 := by omega
      have hk : k + (1 + m146) ≤ 101 := by omega
      have hn : n + 6 * (1 + m146) ≤ 606 := by omega
      clear hk0 hn0 hq146
      unfold F_L_isBoard_b146
      dsimp only
      refine s_iload hG dL_isBoard_146 rfl ?_
      refine s_iconst hG (v := (2 : Int32)) dL_isBoard_148 (by decide) ?_
      refine s_icmp_ge hG (tgt := 382) dL_isBoard_149 (by decide) ?_ ?_
      · refine s_lv hG [0, 1, 2, 3, 4, 5] rfl ?_
        exact hb382 _ _ hm9 hrec9 _ _ (by omega) (by omega) _ _ _ _
      · refine s_iload hG dL_isBoard_152 rfl ?_
        refine s_if_eq hG (tgt := 382) dL_isBoard_154 (by decide) ?_ ?_
        · refine s_lv hG [0, 1, 2, 3, 4, 5] rfl ?_
          exact hb382 _ _ hm9 hrec9 _ _ (by omega) (by omega) _ _ _ _
        · refine s_iconst hG (v := (1 : Int32)) dL_isBoard_157 (by decide) ?_
          refine s_iload hG dL_isBoard_158 rfl ?_
          refine s_ishl hG dL_isBoard_160 ?_
          refine s_istore hG (lv' := [(9, vI ((1 : Int32) <<< (x6 &&& 31))), (0, vR 0), (2, vR 37), (3, vR 38), (4, vI x4), (5, vI x5), (6, vI x6), (7, vI x7), (8, vI x8)]) dL_isBoard_161 (by decide) rfl ?_
          refine s_iconst hG (v := (0 : Int32)) dL_isBoard_163 (by decide) ?_
          refine s_istore hG (lv' := [(10, vI (0 : Int32)), (9, vI ((1 : Int32) <<< (x6 &&& 31))), (0, vR 0), (2, vR 37), (3, vR 38), (4, vI x4), (5, vI x5), (6, vI x6), (7, vI x7), (8, vI x8)]) dL_isBoard_164 (by decide) rfl ?_
          refine s_iconst hG (v := (0 : Int32)) dL_isBoard_166 (by decide) ?_
          refine s_istore hG (lv' := [(11, vI (0 : Int32)), (10, vI (0 : Int32)), (9, vI ((1 : Int32) <<< (x6 &&& 31))), (0, vR 0), (2, vR 37), (3, vR 38), (4, vI x4), (5, vI x5), (6, vI x6), (7, vI x7), (8, vI x8)]) dL_isBoard_167 (by decide) rfl ?_
          refine s_lv hG [3, 4, 5, 6, 8, 9, 10, 2, 1, 0] rfl ?_
          exact hb169 _ _ hm9 hrec9 _ _ hm146 hrec146 _ _ (by omega) (by omega) _ _ _ _ _ _ _ _
  have hb143 : ∀ (m9 : Nat) (rec9 : HS × Int32 × Int32 × Int32 → Option (HS × Int32)) (hm9 : 13 + 0 ≤ m9) (hrec9 : ∀ (k n : Nat), k + m9 ≤ 101 → n + 6 * m9 ≤ 606 → ∀ (S : HS) (x4 : Int32) (x5 : Int32) (x6 : Int32), rec9 (S, x4, x5, x6) = some out → G k n S [(0, vR 0), (2, vR 37), (3, vR 38), (4, vI x4), (5, vI x5), (6, vI x6)] 9 []) (k n : Nat), k + (3 + m9) ≤ 101 → n + 6 * (3 + m9) ≤ 606 → ∀ (S : HS) (x4 : Int32) (x5 : Int32) (x6 : Int32) (x7 : Int32), f_L_isBoard_b143  rec9 S x4 x5 x6 x7 = some out → G k n S [(0, vR 0), (2, vR 37), (3, vR 38), (4, vI x4), (5, vI x5), (6, vI x6), (7, vI x7)] 143 [] := by
    intro m9 rec9 hm9 hrec9 k n hk hn S x4 x5 x6 x7
    unfold f_L_isBoard_b143
    refine s_iconst hG (v := (0 : Int32)) dL_isBoard_143 (by decide) ?_
    refine s_istore hG (lv' := [(8, vI (0 : Int32)), (0, vR 0), (2, vR 37), (3, vR 38), (4, vI x4), (5, vI x5), (6, vI x6), (7, vI x7)]) dL_isBoard_144 (by decide) rfl ?_
    refine s_lv hG [1, 2, 3, 4, 5, 6, 7, 0] rfl ?_
    exact hb146 _ _ hm9 hrec9 _ _ (by omega) (by omega) _ _ _ _ _ _
  have hb135 : ∀ (m9 : Nat) (rec9 : HS × Int32 × Int32 × Int32 → Option (HS × Int32)) (hm9 : 13 + 0 ≤ m9) (hrec9 : ∀ (k n : Nat), k + m9 ≤ 101 → n + 6 * m9 ≤ 606 → ∀ (S : HS) (x4 : Int32) (x5 : Int32) (x6 : Int32), rec9 (S, x4, x5, x6) = some out → G k n S [(0, vR 0), (2, vR 37), (3, vR 38), (4, vI x4), (5, vI x5), (6, vI x6)] 9 []) (m33 : Nat) (rec33 : HS × Int32 × Int32 × Int32 × Int32 × Int32 → Option (HS × Int32)) (hm33 : 3 + m9 ≤ m33) (hrec33 : ∀ (k n : Nat), k + m33 ≤ 101 → n + 6 * m33 ≤ 606 → ∀ (S : HS) (x4 : Int32) (x5 : Int32) (x6 : Int32) (x7 : Int32) (x8 : Int32), rec33 (S, x4, x5, x6, x7, x8) = some out → G k n S [(0, vR 0), (2, vR 37), (3, vR 38), (4, vI x4), (5, vI x5), (6, vI x6), (7, vI x7), (8, vI x8)] 33 []) (k n : Nat), k + (0 + m33) ≤ 101 → n + 6 * (0 + m33) ≤ 606 → ∀ (S : HS) (x4 : Int32) (x6 : Int32) (x7 : Int32) (x8 : Int32) (t0 : Int32), f_L_isBoard_b135  rec9 rec33 S x4 x6 x7 x8 t0 = some out → G k n S [(0, vR 0), (2, vR 37), (3, vR 38), (4, vI x4), (6, vI x6), (7, vI x7), (8, vI x8)] 135 [vI t0] := by
    intro m9 rec9 hm9 hrec9 m33 rec33 hm33 hrec33 k n hk hn S x4 x6 x7 x8 t0
    unfold f_L_isBoard_b135
    refine s_istore hG (lv' := [(5, vI t0), (0, vR 0), (2, vR 37), (3, vR 38), (4, vI x4), (6, vI x6), (7, vI x7), (8, vI x8)]) dL_isBoard_135 (by decide) rfl ?_
    refine s_iinc hG (v := (x8 + (1 : Int32))) (lv' := [(8, vI (x8 + (1 : Int32))), (5, vI t0), (0, vR 0), (2, vR 37), (3, vR 38), (4, vI x4), (6, vI x6), (7, vI x7)]) dL_isBoard_137 rfl rfl (by decide) rfl ?_
    refine s_goto hG (tgt := 33) dL_isBoard_140 (by decide) ?_
    refine s_lv hG [2, 3, 4, 5, 1, 6, 7, 0] rfl ?_
    exact hrec33 _ _ (by omega) (by omega) _ _ _ _ _ _
  have hb118 : ∀ (m9 : Nat) (rec9 : HS × Int32 × Int32 × Int32 → Option (HS × Int32)) (hm9 : 13 + 0 ≤ m9) (hrec9 : ∀ (k n : Nat), k + m9 ≤ 101 → n + 6 * m9 ≤ 606 → ∀ (S : HS) (x4 : Int32) (x5 : Int32) (x6 : Int32), rec9 (S, x4, x5, x6) = some out → G k n S [(0, vR 0), (2, vR 37), (3, vR 38), (4, vI x4), (5, vI x5), (6, vI x6)] 9 []) (m33 : Nat) (rec33 : HS × Int32 × Int32 × Int32 × Int32 × Int32 → Option (HS × Int32)) (hm33 : 3 + m9 ≤ m33) (hrec33 : ∀ (k n : Nat), k + m33 ≤ 101 → n + 6 * m33 ≤ 606 → ∀ (S : HS) (x4 : Int32) (x5 : Int32) (x6 : Int32) (x7 : Int32) (x8 : Int32), rec33 (S, x4, x5, x6, x7, x8) = some out → G k n S [(0, vR 0), (2, vR 37), (3, vR 38), (4, vI x4), (5, vI x5), (6, vI x6), (7, vI x7), (8, vI x8)] 33 []) (k n : Nat), k + (0 + m33) ≤ 101 → n + 6 * (0 + m33) ≤ 606 → ∀ (S : HS) (x4 : Int32) (x6 : Int32) (x7 : Int32) (x8 : Int32), f_L_isBoard_b118  rec9 rec33 S x4 x6 x7 x8 = some out → G k n S [(0, vR 0), (2, vR 37), (3, vR 38), (4, vI x4), (6, vI x6), (7, vI x7), (8, vI x8)] 118 [] := by
    intro m9 rec9 hm9 hrec9 m33 rec33 hm33 hrec33 k n hk hn S x4 x6 x7 x8
    unfold f_L_isBoard_b118
    refine s_iconst hG (v := (0 : Int32)) dL_isBoard_118 (by decide) ?_
    refine s_goto hG (tgt := 135) dL_isBoard_119 (by decide) ?_
    exact hb135 _ _ hm9 hrec9 _ _ hm33 hrec33 _ _ (by omega) (by omega) _ _ _ _ _ _
  have hb114 : ∀ (m9 : Nat) (rec9 : HS × Int32 × Int32 × Int32 → Option (HS × Int32)) (hm9 : 13 + 0 ≤ m9) (hrec9 : ∀ (k n : Nat), k + m9 ≤ 101 → n + 6 * m9 ≤ 606 → ∀ (S : HS) (x4 : Int32) (x5 : Int32) (x6 : Int32), rec9 (S, x4, x5, x6) = some out → G k n S [(0, vR 0), (2, vR 37), (3, vR 38), (4, vI x4), (5, vI x5), (6, vI x6)] 9 []) (m33 : Nat) (rec33 : HS × Int32 × Int32 × Int32 × Int32 × Int32 → Option (HS × Int32)) (hm33 : 3 + m9 ≤ m33) (hrec33 : ∀ (k n : Nat), k + m33 ≤ 101 → n + 6 * m33 ≤ 606 → ∀ (S : HS) (x4 : Int32) (x5 : Int32) (x6 : Int32) (x7 : Int32) (x8 : Int32), rec33 (S, x4, x5, x6, x7, x8) = some out → G k n S [(0, vR 0), (2, vR 37), (3, vR 38), (4, vI x4), (5, vI x5), (6, vI x6), (7, vI x7), (8, vI x8)] 33 []) (k n : Nat), k + (0 + m33) ≤ 101 → n + 6 * (0 + m33) ≤ 606 → ∀ (S : HS) (x4 : Int32) (x6 : Int32) (x7 : Int32) (x8 : Int32), f_L_isBoard_b114  rec9 rec33 S x4 x6 x7 x8 = some out → G k n S [(0, vR 0), (2, vR 37), (3, vR 38), (4, vI x4), (6, vI x6), (7, vI x7), (8, vI x8)] 114 [] := by
    intro m9 rec9 hm9 hrec9 m33 rec33 hm33 hrec33 k n hk hn S x4 x6 x7 x8
    unfold f_L_isBoard_b114
    refine s_iconst hG (v := (1 : Int32)) dL_isBoard_114 (by decide) ?_
    refine s_goto hG (tgt := 135) dL_isBoard_115 (by decide) ?_
    exact hb135 _ _ hm9 hrec9 _ _ hm33 hrec33 _ _ (by omega) (by omega) _ _ _ _ _ _
  have hb33 : ∀ (m9 : Nat) (rec9 : HS × Int32 × Int32 × Int32 → Option (HS × Int32)) (hm9 : 13 + 0 ≤ m9) (hrec9 : ∀ (k n : Nat), k + m9 ≤ 101 → n + 6 * m9 ≤ 606 → ∀ (S : HS) (x4 : Int32) (x5 : Int32) (x6 : Int32), rec9 (S, x4, x5, x6) = some out → G k n S [(0, vR 0), (2, vR 37), (3, vR 38), (4, vI x4), (5, vI x5), (6, vI x6)] 9 []), ∀ (k n : Nat), k + (1 * 5 + 3 + m9) ≤ 101 → n + 6 * (1 * 5 + 3 + m9) ≤ 606 → ∀ (S : HS) (x4 : Int32) (x5 : Int32) (x6 : Int32) (x7 : Int32) (x8 : Int32), f_L_isBoard_b33  rec9 S x4 x5 x6 x7 x8 = some out → G k n S [(0, vR 0), (2, vR 37), (3, vR 38), (4, vI x4), (5, vI x5), (6, vI x6), (7, vI x7), (8, vI x8)] 33 [] := by
    intro m9 rec9 hm9 hrec9
    suffices H : ∀ (nf k n : Nat), k + (1 * nf + 3 + m9) ≤ 101 → n + 6 * (1 * nf + 3 + m9) ≤ 606 → ∀ (S : HS) (x4 : Int32) (x5 : Int32) (x6 : Int32) (x7 : Int32) (x8 : Int32), fx (F_L_isBoard_b33  rec9) nf (S, x4, x5, x6, x7, x8) = some out → G k n S [(0, vR 0), (2, vR 37), (3, vR 38), (4, vI x4), (5, vI x5), (6, vI x6), (7, vI x7), (8, vI x8)] 33 [] from fun k n hk hn S x4 x5 x6 x7 x8 => H 5 k n hk hn S x4 x5 x6 x7 x8
    intro nf
    induction nf with
    | zero => intro k n _ _ S x4 x5 x6 x7 x8 h9; cases h9
    | succ nf hrec33 =>
      intro k n hk0 hn0 S x4 x5 x6 x7 x8
      show F_L_isBoard_b33  rec9 (fx (F_L_isBoard_b33  rec9) nf) (S, x4, x5, x6, x7, x8) = some out → _
      generalize fx (F_L_isBoard_b33  rec9) nf = rec33 at hrec33
      obtain ⟨m33, hq33⟩ : ∃ m, m = 1 * nf + 3 + m9 := ⟨_, rfl⟩
      rw [← hq33] at hrec33
      have hm33 : 3 + m9 ≤ m33 := by omega
      have hk : k + (1 + m33) ≤ 101 := by omega
      have hn : n + 6 * (1 + m33) ≤ 606 := by omega
      clear hk0 hn0 hq33
      unfold F_L_isBoard_b33
      dsimp only
      refine s_iload hG dL_isBoard_33 rfl ?_
      refine s_iconst hG (v := (4 : Int32)) dL_isBoard_35 (by decide) ?_
      refine s_icmp_ge hG (tgt := 143) dL_isBoard_36 (by decide) ?_ ?_
      · refine s_lv hG [0, 1, 2, 3, 4, 5, 6] rfl ?_
        exact hb143 _ _ hm9 hrec9 _ _ (by omega) (by omega) _ _ _ _ _
      · refine s_iload hG dL_isBoard_39 rfl ?_
        refine s_if_eq hG (tgt := 143) dL_isBoard_41 (by decide) ?_ ?_
        · refine s_lv hG [0, 1, 2, 3, 4, 5, 6] rfl ?_
          exact hb143 _ _ hm9 hrec9 _ _ (by omega) (by omega) _ _ _ _ _
        · refine s_aload_n hG dL_isBoard_44 rfl ?_
          refine s_bipush hG (v := (9 : Int32)) dL_isBoard_45 (by decide) ?_
          refine s_iload hG dL_isBoard_47 rfl ?_
          refine s_iload hG dL_isBoard_49 rfl ?_
          refine s_iconst hG (v := (0 : Int32)) dL_isBoard_51 (by decide) ?_
          refine s_iconst hG (v := (0 : Int32)) dL_isBoard_52 (by decide) ?_
          refine s_iconst hG (v := (0 : Int32)) dL_isBoard_53 (by decide) ?_
          refine s_aY hG (as := [vR 0, vI (9 : Int32), vI x6, vI x8, vI (0 : Int32), vI (0 : Int32), vI (0 : Int32)]) (st := []) (rm := rm_L_asks) (hh := hh_L_asks) dL_isBoard_54 ml_RL_68 (tb4 (mem_i 23 rfl)) (exin (mem_i 45 (by decide +kernel))) rfl ⟨rfl, rfl⟩ ⟨Nat.le_of_ble_eq_true rfl, Nat.le_of_ble_eq_true rfl⟩ (Nat.le_of_ble_eq_true rfl) ⟨by omega, by omega⟩ rfl (fun o mc h01 h => c_L_asks l hl9 _ _ _ _ _ _ _ o mc h01 h) (fun o54 => ?_)
          refine s_istore hG (lv' := [(9, vI o54.2.2), (0, vR 0), (2, vR 37), (3, vR 38), (4, vI x4), (5, vI x5), (6, vI x6), (7, vI x7), (8, vI x8)]) dL_isBoard_57 (by decide) rfl ?_
          refine s_iload hG dL_isBoard_59 rfl ?_
          refine s_if_eq hG (tgt := 122) dL_isBoard_61 (by decide) ?_ ?_
          · refine s_iload hG dL_isBoard_122 rfl ?_
            refine s_sipush hG (v := (-5004 : Int32)) dL_isBoard_124 (by decide) ?_
            refine s_icmp_ne hG (tgt := 134) dL_isBoard_127 (by decide) ?_ ?_
            · refine s_iconst hG (v := (0 : Int32)) dL_isBoard_134 (by decide) ?_
              refine s_lv hG [1, 2, 3, 4, 6, 7, 8] rfl ?_
              exact hb135 _ _ hm9 hrec9 _ _ hm33 hrec33 _ _ (by omega) (by omega) _ _ _ _ _ _
            · refine s_iconst hG (v := (1 : Int32)) dL_isBoard_130 (by decide) ?_
              refine s_goto hG (tgt := 135) dL_isBoard_131 (by decide) ?_
              refine s_lv hG [1, 2, 3, 4, 6, 7, 8] rfl ?_
              exact hb135 _ _ hm9 hrec9 _ _ hm33 hrec33 _ _ (by omega) (by omega) _ _ _ _ _ _
          · refine s_aload_n hG dL_isBoard_64 rfl ?_
            refine s_iload hG dL_isBoard_65 rfl ?_
            refine s_iload hG dL_isBoard_67 rfl ?_
            refine s_dI hG (as := [vI x6, vI x8]) (st := []) (rm := rm_X7_numberAnew) (rmT := rmT_X7_numberAnew) (by decide) dL_isBoard_69 ml_RL_74 (rfl) (tb15 (mem_i 28 rfl)) rfl ⟨rfl, rfl⟩ ⟨Nat.le_of_ble_eq_true rfl, Nat.le_of_ble_eq_true rfl⟩ (Nat.le_of_ble_eq_true rfl) ⟨by omega, by omega⟩ rfl (fun o h => c_X7_numberAnew l hl9 _ _ _ o h) (fun o69 => ?_)
            refine s_iload hG dL_isBoard_72 rfl ?_
            refine s_icmp_ne hG (tgt := 118) dL_isBoard_74 (by decide) ?_ ?_
            · refine s_lv hG [1, 2, 3, 4, 6, 7, 8] rfl ?_
              exact hb118 _ _ hm9 hrec9 _ _ hm33 hrec33 _ _ (by omega) (by omega) _ _ _ _ _
            · refine s_iload hG dL_isBoard_77 rfl ?_
              refine s_iconst hG (v := (2 : Int32)) dL_isBoard_79 (by decide) ?_
              refine s_icmp_ge hG (tgt := 102) dL_isBoard_80 (by decide) ?_ ?_
              · refine s_iload hG dL_isBoard_102 rfl ?_
                refine s_if_le hG (tgt := 118) dL_isBoard_104 (by decide) ?_ ?_
                · refine s_lv hG [1, 2, 3, 4, 6, 7, 8] rfl ?_
                  exact hb118 _ _ hm9 hrec9 _ _ hm33 hrec33 _ _ (by omega) (by omega) _ _ _ _ _
                · refine s_iload hG dL_isBoard_107 rfl ?_
                  refine s_bipush hG (v := (100 : Int32)) dL_isBoard_109 (by decide) ?_
                  refine s_icmp_ge hG (tgt := 118) dL_isBoard_111 (by decide) ?_ ?_
                  · refine s_lv hG [1, 2, 3, 4, 6, 7, 8] rfl ?_
                    exact hb118 _ _ hm9 hrec9 _ _ hm33 hrec33 _ _ (by omega) (by omega) _ _ _ _ _
                  · refine s_lv hG [1, 2, 3, 4, 6, 7, 8] rfl ?_
                    exact hb114 _ _ hm9 hrec9 _ _ hm33 hrec33 _ _ (by omega) (by omega) _ _ _ _ _
              · refine s_iload hG dL_isBoard_83 rfl ?_
                refine s_sipush hG (v := (-999 : Int32)) dL_isBoard_85 (by decide) ?_
                refine s_icmp_lt hG (tgt := 118) dL_isBoard_88 (by decide) ?_ ?_
                · refine s_lv hG [1, 2, 3, 4, 6, 7, 8] rfl ?_
                  exact hb118 _ _ hm9 hrec9 _ _ hm33 hrec33 _ _ (by omega) (by omega) _ _ _ _ _
                · refine s_iload hG dL_isBoard_91 rfl ?_
                  refine s_sipush hG (v := (999 : Int32)) dL_isBoard_93 (by decide) ?_
                  refine s_icmp_gt hG (tgt := 118) dL_isBoard_96 (by decide) ?_ ?_
                  · refine s_lv hG [1, 2, 3, 4, 6, 7, 8] rfl ?_
                    exact hb118 _ _ hm9 hrec9 _ _ hm33 hrec33 _ _ (by omega) (by omega) _ _ _ _ _
                  · refine s_goto hG (tgt := 114) dL_isBoard_99 (by decide) ?_
                    refine s_lv hG [1, 2, 3, 4, 6, 7, 8] rfl ?_
                    exact hb114 _ _ hm9 hrec9 _ _ hm33 hrec33 _ _ (by omega) (by omega) _ _ _ _ _
  have hb9 : ∀ (k n : Nat), k + (8 * 11 + 13 + 0) ≤ 101 → n + 6 * (8 * 11 + 13 + 0) ≤ 606 → ∀ (S : HS) (x4 : Int32) (x5 : Int32) (x6 : Int32), f_L_isBoard_b9  S x4 x5 x6 = some out → G k n S [(0, vR 0), (2, vR 37), (3, vR 38), (4, vI x4), (5, vI x5), (6, vI x6)] 9 [] := by
    suffices H : ∀ (nf k n : Nat), k + (8 * nf + 13 + 0) ≤ 101 → n + 6 * (8 * nf + 13 + 0) ≤ 606 → ∀ (S : HS) (x4 : Int32) (x5 : Int32) (x6 : Int32), fx (F_L_isBoard_b9 ) nf (S, x4, x5, x6) = some out → G k n S [(0, vR 0), (2, vR 37), (3, vR 38), (4, vI x4), (5, vI x5), (6, vI x6)] 9 [] from fun k n hk hn S x4 x5 x6 => H 11 k n hk hn S x4 x5 x6
    intro nf
    induction nf with
    | zero => intro k n _ _ S x4 x5 x6 h9; cases h9
    | succ nf hrec9 =>
      intro k n hk0 hn0 S x4 x5 x6
      show F_L_isBoard_b9  (fx (F_L_isBoard_b9 ) nf) (S, x4, x5, x6) = some out → _
      generalize fx (F_L_isBoard_b9 ) nf = rec9 at hrec9
      obtain ⟨m9, hq9⟩ : ∃ m, m = 8 * nf + 13 + 0 := ⟨_, rfl⟩
      rw [← hq9] at hrec9
      have hm9 : 13 + 0 ≤ m9 := by omega
      have hk : k + (8 + m9) ≤ 101 := by omega
      have hn : n + 6 * (8 + m9) ≤ 606 := by omega
      clear hk0 hn0 hq9
      unfold F_L_isBoard_b9
      dsimp only
      refine s_iload hG dL_isBoard_9 rfl ?_
      refine s_aload_n hG dL_isBoard_11 rfl ?_
      refine s_iconst hG (v := (1 : Int32)) dL_isBoard_12 (by decide) ?_
      refine s_iaload hG dL_isBoard_13 (rfl) ?_
      refine s_icmp_ge hG (tgt := 388) dL_isBoard_14 (by decide) ?_ ?_
      · refine s_lv hG [0, 1, 2, 3, 4] rfl ?_
        exact hb388  _ _ (by omega) (by omega) _ _ _
      · refine s_iload hG dL_isBoard_17 rfl ?_
        refine s_if_eq hG (tgt := 388) dL_isBoard_19 (by decide) ?_ ?_
        · refine s_lv hG [0, 1, 2, 3, 4] rfl ?_
          exact hb388  _ _ (by omega) (by omega) _ _ _
        · refine s_aload_n hG dL_isBoard_22 rfl ?_
          refine s_iload hG dL_isBoard_23 rfl ?_
          refine s_dI hG (as := [vI x6]) (st := []) (rm := rm_X7_isThere) (rmT := rmT_X7_isThere) (by decide) dL_isBoard_25 ml_RL_65 (rfl) (tb12 (mem_i 1 rfl)) rfl ⟨rfl, rfl⟩ ⟨Nat.le_of_ble_eq_true rfl, Nat.le_of_ble_eq_true rfl⟩ (Nat.le_of_ble_eq_true rfl) ⟨by omega, by omega⟩ rfl (fun o h => c_X7_isThere l hl9 _ _ o h) (fun o25 => ?_)
          refine s_istore hG (lv' := [(7, vI o25.2.2), (0, vR 0), (2, vR 37), (3, vR 38), (4, vI x4), (5, vI x5), (6, vI x6)]) dL_isBoard_28 (by decide) rfl ?_
          refine s_iconst hG (v := (0 : Int32)) dL_isBoard_30 (by decide) ?_
          refine s_istore hG (lv' := [(8, vI (0 : Int32)), (7, vI o25.2.2), (0, vR 0), (2, vR 37), (3, vR 38), (4, vI x4), (5, vI x5), (6, vI x6)]) dL_isBoard_31 (by decide) rfl ?_
          refine s_lv hG [2, 3, 4, 5, 6, 7, 1, 0] rfl ?_
          exact hb33 _ _ hm9 hrec9 _ _ (by omega) (by omega) _ _ _ _ _ _
  unfold f_L_isBoard
  refine s_iconst hG (v := (0 : Int32)) dL_isBoard_0 (by decide) ?_
  refine s_istore hG (lv' := [(4, vI (0 : Int32)), (0, vR 0), (1, vR 36), (2, vR 37), (3, vR 38)]) dL_isBoard_1 (by decide) rfl ?_
  refine s_iconst hG (v := (1 : Int32)) dL_isBoard_3 (by decide) ?_
  refine s_istore hG (lv' := [(5, vI (1 : Int32)), (4, vI (0 : Int32)), (0, vR 0), (1, vR 36), (2, vR 37), (3, vR 38)]) dL_isBoard_4 (by decide) rfl ?_
  refine s_iconst hG (v := (0 : Int32)) dL_isBoard_6 (by decide) ?_
  refine s_istore hG (lv' := [(6, vI (0 : Int32)), (5, vI (1 : Int32)), (4, vI (0 : Int32)), (0, vR 0), (1, vR 36), (2, vR 37), (3, vR 38)]) dL_isBoard_7 (by decide) rfl ?_
  refine s_lv hG [3, 5, 6, 2, 1, 0] rfl ?_
  exact hb9  _ _ (by omega) (by omega) _ _ _ _
