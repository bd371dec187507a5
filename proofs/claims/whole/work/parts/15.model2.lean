/-! 15.model2: by program (wip/whole/gen.py) -/
theorem dX8_isInRange_0 : decode cX8_isInRange 0 = .ok (.iconst 1, 1) := by decide +kernel
theorem dX8_isInRange_1 : decode cX8_isInRange 1 = .ok (.istore_n 1, 1) := by decide +kernel
theorem dX8_isInRange_2 : decode cX8_isInRange 2 = .ok (.iconst 0, 1) := by decide +kernel
theorem dX8_isInRange_3 : decode cX8_isInRange 3 = .ok (.istore_n 2, 1) := by decide +kernel
theorem dX8_isInRange_4 : decode cX8_isInRange 4 = .ok (.iload_n 2, 1) := by decide +kernel
theorem dX8_isInRange_5 : decode cX8_isInRange 5 = .ok (.aload_n 0, 1) := by decide +kernel
theorem dX8_isInRange_6 : decode cX8_isInRange 6 = .ok (.getfield 88, 3) := by decide +kernel
theorem dX8_isInRange_9 : decode cX8_isInRange 9 = .ok (.if_icmp .ge 72, 3) := by decide +kernel
theorem dX8_isInRange_12 : decode cX8_isInRange 12 = .ok (.iload_n 1, 1) := by decide +kernel
theorem dX8_isInRange_13 : decode cX8_isInRange 13 = .ok (.ifCond .eq 60, 3) := by decide +kernel
theorem dX8_isInRange_16 : decode cX8_isInRange 16 = .ok (.aload_n 0, 1) := by decide +kernel
theorem dX8_isInRange_17 : decode cX8_isInRange 17 = .ok (.getfield 139, 3) := by decide +kernel
theorem dX8_isInRange_20 : decode cX8_isInRange 20 = .ok (.iload_n 2, 1) := by decide +kernel
theorem dX8_isInRange_21 : decode cX8_isInRange 21 = .ok (.invokestatic 104, 3) := by decide +kernel
theorem dX8_isInRange_24 : decode cX8_isInRange 24 = .ok (.ifCond .eq 45, 3) := by decide +kernel
theorem dX8_isInRange_27 : decode cX8_isInRange 27 = .ok (.aload_n 0, 1) := by decide +kernel
theorem dX8_isInRange_28 : decode cX8_isInRange 28 = .ok (.getfield 68, 3) := by decide +kernel
theorem dX8_isInRange_31 : decode cX8_isInRange 31 = .ok (.iconst 4, 1) := by decide +kernel
theorem dX8_isInRange_32 : decode cX8_isInRange 32 = .ok (.iload_n 2, 1) := by decide +kernel
theorem dX8_isInRange_33 : decode cX8_isInRange 33 = .ok (.imul, 1) := by decide +kernel
theorem dX8_isInRange_34 : decode cX8_isInRange 34 = .ok (.iaload, 1) := by decide +kernel
theorem dX8_isInRange_35 : decode cX8_isInRange 35 = .ok (.sipush (-999), 3) := by decide +kernel
theorem dX8_isInRange_38 : decode cX8_isInRange 38 = .ok (.sipush 999, 3) := by decide +kernel
theorem dX8_isInRange_41 : decode cX8_isInRange 41 = .ok (.invokestatic 84, 3) := by decide +kernel
theorem dX8_isInRange_44 : decode cX8_isInRange 44 = .ok (.ifCond .eq 29, 3) := by decide +kernel
theorem dX8_isInRange_47 : decode cX8_isInRange 47 = .ok (.aload_n 0, 1) := by decide +kernel
theorem dX8_isInRange_48 : decode cX8_isInRange 48 = .ok (.getfield 68, 3) := by decide +kernel
theorem dX8_isInRange_51 : decode cX8_isInRange 51 = .ok (.iconst 4, 1) := by decide +kernel
theorem dX8_isInRange_52 : decode cX8_isInRange 52 = .ok (.iload_n 2, 1) := by decide +kernel
theorem dX8_isInRange_53 : decode cX8_isInRange 53 = .ok (.imul, 1) := by decide +kernel
theorem dX8_isInRange_54 : decode cX8_isInRange 54 = .ok (.iconst 1, 1) := by decide +kernel
theorem dX8_isInRange_55 : decode cX8_isInRange 55 = .ok (.iadd, 1) := by decide +kernel
theorem dX8_isInRange_56 : decode cX8_isInRange 56 = .ok (.iaload, 1) := by decide +kernel
theorem dX8_isInRange_57 : decode cX8_isInRange 57 = .ok (.sipush (-999), 3) := by decide +kernel
theorem dX8_isInRange_60 : decode cX8_isInRange 60 = .ok (.sipush 999, 3) := by decide +kernel
theorem dX8_isInRange_63 : decode cX8_isInRange 63 = .ok (.invokestatic 84, 3) := by decide +kernel
theorem dX8_isInRange_66 : decode cX8_isInRange 66 = .ok (.ifCond .eq 7, 3) := by decide +kernel
theorem dX8_isInRange_69 : decode cX8_isInRange 69 = .ok (.iconst 1, 1) := by decide +kernel
theorem dX8_isInRange_70 : decode cX8_isInRange 70 = .ok (.goto 4, 3) := by decide +kernel
theorem dX8_isInRange_73 : decode cX8_isInRange 73 = .ok (.iconst 0, 1) := by decide +kernel
theorem dX8_isInRange_74 : decode cX8_isInRange 74 = .ok (.istore_n 1, 1) := by decide +kernel
theorem dX8_isInRange_75 : decode cX8_isInRange 75 = .ok (.iinc 2 1, 3) := by decide +kernel
theorem dX8_isInRange_78 : decode cX8_isInRange 78 = .ok (.goto (-74), 3) := by decide +kernel
theorem dX8_isInRange_81 : decode cX8_isInRange 81 = .ok (.iload_n 1, 1) := by decide +kernel
theorem dX8_isInRange_82 : decode cX8_isInRange 82 = .ok (.ireturn, 1) := by decide +kernel
theorem dX8_tries_0 : decode cX8_tries 0 = .ok (.aload_n 0, 1) := by decide +kernel
theorem dX8_tries_1 : decode cX8_tries 1 = .ok (.getfield 47, 3) := by decide +kernel
theorem dX8_tries_4 : decode cX8_tries 4 = .ok (.iload_n 1, 1) := by decide +kernel
theorem dX8_tries_5 : decode cX8_tries 5 = .ok (.iaload, 1) := by decide +kernel
theorem dX8_tries_6 : decode cX8_tries 6 = .ok (.istore_n 2, 1) := by decide +kernel
theorem dX8_tries_7 : decode cX8_tries 7 = .ok (.iconst 4, 1) := by decide +kernel
theorem dX8_tries_8 : decode cX8_tries 8 = .ok (.iload_n 1, 1) := by decide +kernel
theorem dX8_tries_9 : decode cX8_tries 9 = .ok (.imul, 1) := by decide +kernel
theorem dX8_tries_10 : decode cX8_tries 10 = .ok (.istore_n 3, 1) := by decide +kernel
theorem dX8_tries_11 : decode cX8_tries 11 = .ok (.aload_n 0, 1) := by decide +kernel
theorem dX8_tries_12 : decode cX8_tries 12 = .ok (.aload_n 0, 1) := by decide +kernel
theorem dX8_tries_13 : decode cX8_tries 13 = .ok (.getfield 142, 3) := by decide +kernel
theorem dX8_tries_16 : decode cX8_tries 16 = .ok (.putfield 139, 3) := by decide +kernel
theorem dX8_tries_19 : decode cX8_tries 19 = .ok (.aload_n 0, 1) := by decide +kernel
theorem dX8_tries_20 : decode cX8_tries 20 = .ok (.aload_n 0, 1) := by decide +kernel
theorem dX8_tries_21 : decode cX8_tries 21 = .ok (.getfield 145, 3) := by decide +kernel
theorem dX8_tries_24 : decode cX8_tries 24 = .ok (.putfield 115, 3) := by decide +kernel
theorem dX8_tries_27 : decode cX8_tries 27 = .ok (.iconst 0, 1) := by decide +kernel
theorem dX8_tries_28 : decode cX8_tries 28 = .ok (.istore 4, 2) := by decide +kernel
theorem dX8_tries_30 : decode cX8_tries 30 = .ok (.iload 4, 2) := by decide +kernel
theorem dX8_tries_32 : decode cX8_tries 32 = .ok (.bipush 40, 2) := by decide +kernel
theorem dX8_tries_34 : decode cX8_tries 34 = .ok (.if_icmp .ge 23, 3) := by decide +kernel
theorem dX8_tries_37 : decode cX8_tries 37 = .ok (.aload_n 0, 1) := by decide +kernel
theorem dX8_tries_38 : decode cX8_tries 38 = .ok (.getfield 68, 3) := by decide +kernel
theorem dX8_tries_41 : decode cX8_tries 41 = .ok (.iload 4, 2) := by decide +kernel
theorem dX8_tries_43 : decode cX8_tries 43 = .ok (.aload_n 0, 1) := by decide +kernel
theorem dX8_tries_44 : decode cX8_tries 44 = .ok (.getfield 59, 3) := by decide +kernel
theorem dX8_tries_47 : decode cX8_tries 47 = .ok (.iload 4, 2) := by decide +kernel
theorem dX8_tries_49 : decode cX8_tries 49 = .ok (.iaload, 1) := by decide +kernel
theorem dX8_tries_50 : decode cX8_tries 50 = .ok (.iastore, 1) := by decide +kernel
theorem dX8_tries_51 : decode cX8_tries 51 = .ok (.iinc 4 1, 3) := by decide +kernel
theorem dX8_tries_54 : decode cX8_tries 54 = .ok (.goto (-24), 3) := by decide +kernel
theorem dX8_tries_57 : decode cX8_tries 57 = .ok (.aload_n 0, 1) := by decide +kernel
theorem dX8_tries_58 : decode cX8_tries 58 = .ok (.iconst 0, 1) := by decide +kernel
theorem dX8_tries_59 : decode cX8_tries 59 = .ok (.putfield 111, 3) := by decide +kernel
theorem dX8_tries_62 : decode cX8_tries 62 = .ok (.aload_n 0, 1) := by decide +kernel
theorem dX8_tries_63 : decode cX8_tries 63 = .ok (.getfield 44, 3) := by decide +kernel
theorem dX8_tries_66 : decode cX8_tries 66 = .ok (.iload_n 1, 1) := by decide +kernel
theorem dX8_tries_67 : decode cX8_tries 67 = .ok (.iaload, 1) := by decide +kernel
theorem dX8_tries_68 : decode cX8_tries 68 = .ok (.ifCond .ne 53, 3) := by decide +kernel
theorem dX8_tries_71 : decode cX8_tries 71 = .ok (.aload_n 0, 1) := by decide +kernel
theorem dX8_tries_72 : decode cX8_tries 72 = .ok (.dup, 1) := by decide +kernel
theorem dX8_tries_73 : decode cX8_tries 73 = .ok (.getfield 139, 3) := by decide +kernel
theorem dX8_tries_76 : decode cX8_tries 76 = .ok (.iconst 1, 1) := by decide +kernel
theorem dX8_tries_77 : decode cX8_tries 77 = .ok (.iload_n 2, 1) := by decide +kernel
theorem dX8_tries_78 : decode cX8_tries 78 = .ok (.ishl, 1) := by decide +kernel
theorem dX8_tries_79 : decode cX8_tries 79 = .ok (.ior, 1) := by decide +kernel
theorem dX8_tries_80 : decode cX8_tries 80 = .ok (.putfield 139, 3) := by decide +kernel
theorem dX8_tries_83 : decode cX8_tries 83 = .ok (.iconst 0, 1) := by decide +kernel
theorem dX8_tries_84 : decode cX8_tries 84 = .ok (.istore 4, 2) := by decide +kernel
theorem dX8_tries_86 : decode cX8_tries 86 = .ok (.iload 4, 2) := by decide +kernel
theorem dX8_tries_88 : decode cX8_tries 88 = .ok (.iconst 4, 1) := by decide +kernel
theorem dX8_tries_89 : decode cX8_tries 89 = .ok (.if_icmp .ge 29, 3) := by decide +kernel
theorem dX8_tries_92 : decode cX8_tries 92 = .ok (.aload_n 0, 1) := by decide +kernel
theorem dX8_tries_93 : decode cX8_tries 93 = .ok (.getfield 68, 3) := by decide +kernel
theorem dX8_tries_96 : decode cX8_tries 96 = .ok (.iconst 4, 1) := by decide +kernel
theorem dX8_tries_97 : decode cX8_tries 97 = .ok (.iload_n 2, 1) := by decide +kernel
theorem dX8_tries_98 : decode cX8_tries 98 = .ok (.imul, 1) := by decide +kernel
theorem dX8_tries_99 : decode cX8_tries 99 = .ok (.iload 4, 2) := by decide +kernel
theorem dX8_tries_101 : decode cX8_tries 101 = .ok (.iadd, 1) := by decide +kernel
theorem dX8_tries_102 : decode cX8_tries 102 = .ok (.aload_n 0, 1) := by decide +kernel
theorem dX8_tries_103 : decode cX8_tries 103 = .ok (.getfield 50, 3) := by decide +kernel
theorem dX8_tries_106 : decode cX8_tries 106 = .ok (.iload_n 3, 1) := by decide +kernel
theorem dX8_tries_107 : decode cX8_tries 107 = .ok (.iload 4, 2) := by decide +kernel
theorem dX8_tries_109 : decode cX8_tries 109 = .ok (.iadd, 1) := by decide +kernel
theorem dX8_tries_110 : decode cX8_tries 110 = .ok (.iaload, 1) := by decide +kernel
theorem dX8_tries_111 : decode cX8_tries 111 = .ok (.iastore, 1) := by decide +kernel
theorem dX8_tries_112 : decode cX8_tries 112 = .ok (.iinc 4 1, 3) := by decide +kernel
theorem dX8_tries_115 : decode cX8_tries 115 = .ok (.goto (-29), 3) := by decide +kernel
theorem dX8_tries_118 : decode cX8_tries 118 = .ok (.goto 276, 3) := by decide +kernel
theorem dX8_tries_121 : decode cX8_tries 121 = .ok (.aload_n 0, 1) := by decide +kernel
theorem dX8_tries_122 : decode cX8_tries 122 = .ok (.getfield 44, 3) := by decide +kernel
theorem dX8_tries_125 : decode cX8_tries 125 = .ok (.iload_n 1, 1) := by decide +kernel
theorem dX8_tries_126 : decode cX8_tries 126 = .ok (.iaload, 1) := by decide +kernel
theorem dX8_tries_127 : decode cX8_tries 127 = .ok (.iconst 3, 1) := by decide +kernel
theorem dX8_tries_128 : decode cX8_tries 128 = .ok (.if_icmp .ne 59, 3) := by decide +kernel
theorem dX8_tries_131 : decode cX8_tries 131 = .ok (.aload_n 0, 1) := by decide +kernel
theorem dX8_tries_132 : decode cX8_tries 132 = .ok (.aload_n 0, 1) := by decide +kernel
theorem dX8_tries_133 : decode cX8_tries 133 = .ok (.getfield 142, 3) := by decide +kernel
theorem dX8_tries_136 : decode cX8_tries 136 = .ok (.aload_n 0, 1) := by decide +kernel
theorem dX8_tries_137 : decode cX8_tries 137 = .ok (.getfield 29, 3) := by decide +kernel
theorem dX8_tries_140 : decode cX8_tries 140 = .ok (.iload_n 2, 1) := by decide +kernel
theorem dX8_tries_141 : decode cX8_tries 141 = .ok (.iaload, 1) := by decide +kernel
theorem dX8_tries_142 : decode cX8_tries 142 = .ok (.invokestatic 104, 3) := by decide +kernel
theorem dX8_tries_145 : decode cX8_tries 145 = .ok (.ifCond .eq 19, 3) := by decide +kernel
theorem dX8_tries_148 : decode cX8_tries 148 = .ok (.aload_n 0, 1) := by decide +kernel
theorem dX8_tries_149 : decode cX8_tries 149 = .ok (.getfield 142, 3) := by decide +kernel
theorem dX8_tries_152 : decode cX8_tries 152 = .ok (.aload_n 0, 1) := by decide +kernel
theorem dX8_tries_153 : decode cX8_tries 153 = .ok (.getfield 32, 3) := by decide +kernel
theorem dX8_tries_156 : decode cX8_tries 156 = .ok (.iload_n 2, 1) := by decide +kernel
theorem dX8_tries_157 : decode cX8_tries 157 = .ok (.iaload, 1) := by decide +kernel
theorem dX8_tries_158 : decode cX8_tries 158 = .ok (.invokestatic 104, 3) := by decide +kernel
theorem dX8_tries_161 : decode cX8_tries 161 = .ok (.ifCond .ne 7, 3) := by decide +kernel
theorem dX8_tries_164 : decode cX8_tries 164 = .ok (.iconst 1, 1) := by decide +kernel
theorem dX8_tries_165 : decode cX8_tries 165 = .ok (.goto 4, 3) := by decide +kernel
theorem dX8_tries_168 : decode cX8_tries 168 = .ok (.iconst 0, 1) := by decide +kernel
theorem dX8_tries_169 : decode cX8_tries 169 = .ok (.putfield 111, 3) := by decide +kernel
theorem dX8_tries_172 : decode cX8_tries 172 = .ok (.aload_n 0, 1) := by decide +kernel
theorem dX8_tries_173 : decode cX8_tries 173 = .ok (.getfield 111, 3) := by decide +kernel
theorem dX8_tries_176 : decode cX8_tries 176 = .ok (.ifCond .ne 218, 3) := by decide +kernel
theorem dX8_tries_179 : decode cX8_tries 179 = .ok (.aload_n 0, 1) := by decide +kernel
theorem dX8_tries_180 : decode cX8_tries 180 = .ok (.iload_n 2, 1) := by decide +kernel
theorem dX8_tries_181 : decode cX8_tries 181 = .ok (.invokevirtual 148, 3) := by decide +kernel
theorem dX8_tries_184 : decode cX8_tries 184 = .ok (.goto 210, 3) := by decide +kernel
theorem dX8_tries_187 : decode cX8_tries 187 = .ok (.aload_n 0, 1) := by decide +kernel
theorem dX8_tries_188 : decode cX8_tries 188 = .ok (.getfield 44, 3) := by decide +kernel
theorem dX8_tries_191 : decode cX8_tries 191 = .ok (.iload_n 1, 1) := by decide +kernel
theorem dX8_tries_192 : decode cX8_tries 192 = .ok (.iaload, 1) := by decide +kernel
theorem dX8_tries_193 : decode cX8_tries 193 = .ok (.iconst 4, 1) := by decide +kernel
theorem dX8_tries_194 : decode cX8_tries 194 = .ok (.if_icmp .ne 40, 3) := by decide +kernel
theorem dX8_tries_197 : decode cX8_tries 197 = .ok (.aload_n 0, 1) := by decide +kernel
theorem dX8_tries_198 : decode cX8_tries 198 = .ok (.aload_n 0, 1) := by decide +kernel
theorem dX8_tries_199 : decode cX8_tries 199 = .ok (.getfield 145, 3) := by decide +kernel
theorem dX8_tries_202 : decode cX8_tries 202 = .ok (.iload_n 2, 1) := by decide +kernel
theorem dX8_tries_203 : decode cX8_tries 203 = .ok (.invokestatic 104, 3) := by decide +kernel
theorem dX8_tries_206 : decode cX8_tries 206 = .ok (.ifCond .ne 7, 3) := by decide +kernel
theorem dX8_tries_209 : decode cX8_tries 209 = .ok (.iconst 1, 1) := by decide +kernel
theorem dX8_tries_210 : decode cX8_tries 210 = .ok (.goto 4, 3) := by decide +kernel
theorem dX8_tries_213 : decode cX8_tries 213 = .ok (.iconst 0, 1) := by decide +kernel
theorem dX8_tries_214 : decode cX8_tries 214 = .ok (.putfield 111, 3) := by decide +kernel
theorem dX8_tries_217 : decode cX8_tries 217 = .ok (.aload_n 0, 1) := by decide +kernel
theorem dX8_tries_218 : decode cX8_tries 218 = .ok (.dup, 1) := by decide +kernel
theorem dX8_tries_219 : decode cX8_tries 219 = .ok (.getfield 115, 3) := by decide +kernel
theorem dX8_tries_222 : decode cX8_tries 222 = .ok (.iconst 1, 1) := by decide +kernel
theorem dX8_tries_223 : decode cX8_tries 223 = .ok (.iload_n 2, 1) := by decide +kernel
theorem dX8_tries_224 : decode cX8_tries 224 = .ok (.ishl, 1) := by decide +kernel
theorem dX8_tries_225 : decode cX8_tries 225 = .ok (.iconst (-1), 1) := by decide +kernel
theorem dX8_tries_226 : decode cX8_tries 226 = .ok (.ixor, 1) := by decide +kernel
theorem dX8_tries_227 : decode cX8_tries 227 = .ok (.iand, 1) := by decide +kernel
theorem dX8_tries_228 : decode cX8_tries 228 = .ok (.putfield 115, 3) := by decide +kernel
theorem dX8_tries_231 : decode cX8_tries 231 = .ok (.goto 163, 3) := by decide +kernel
theorem dX8_tries_234 : decode cX8_tries 234 = .ok (.aload_n 0, 1) := by decide +kernel
theorem dX8_tries_235 : decode cX8_tries 235 = .ok (.getfield 142, 3) := by decide +kernel
theorem dX8_tries_238 : decode cX8_tries 238 = .ok (.iload_n 2, 1) := by decide +kernel
theorem dX8_tries_239 : decode cX8_tries 239 = .ok (.invokestatic 104, 3) := by decide +kernel
theorem dX8_tries_242 : decode cX8_tries 242 = .ok (.ifCond .ne 11, 3) := by decide +kernel
theorem dX8_tries_245 : decode cX8_tries 245 = .ok (.aload_n 0, 1) := by decide +kernel
theorem dX8_tries_246 : decode cX8_tries 246 = .ok (.iconst 1, 1) := by decide +kernel
theorem dX8_tries_247 : decode cX8_tries 247 = .ok (.putfield 111, 3) := by decide +kernel
theorem dX8_tries_250 : decode cX8_tries 250 = .ok (.goto 144, 3) := by decide +kernel
theorem dX8_tries_253 : decode cX8_tries 253 = .ok (.aload_n 0, 1) := by decide +kernel
theorem dX8_tries_254 : decode cX8_tries 254 = .ok (.getfield 44, 3) := by decide +kernel
theorem dX8_tries_257 : decode cX8_tries 257 = .ok (.iload_n 1, 1) := by decide +kernel
theorem dX8_tries_258 : decode cX8_tries 258 = .ok (.iaload, 1) := by decide +kernel
theorem dX8_tries_259 : decode cX8_tries 259 = .ok (.iconst 1, 1) := by decide +kernel
theorem dX8_tries_260 : decode cX8_tries 260 = .ok (.if_icmp .ne 70, 3) := by decide +kernel
theorem dX8_tries_263 : decode cX8_tries 263 = .ok (.aload_n 0, 1) := by decide +kernel
theorem dX8_tries_264 : decode cX8_tries 264 = .ok (.aload_n 0, 1) := by decide +kernel
theorem dX8_tries_265 : decode cX8_tries 265 = .ok (.iload_n 2, 1) := by decide +kernel
theorem dX8_tries_266 : decode cX8_tries 266 = .ok (.iconst 0, 1) := by decide +kernel
theorem dX8_tries_267 : decode cX8_tries 267 = .ok (.aload_n 0, 1) := by decide +kernel
theorem dX8_tries_268 : decode cX8_tries 268 = .ok (.getfield 115, 3) := by decide +kernel
theorem dX8_tries_271 : decode cX8_tries 271 = .ok (.invokevirtual 122, 3) := by decide +kernel
theorem dX8_tries_274 : decode cX8_tries 274 = .ok (.iconst 0, 1) := by decide +kernel
theorem dX8_tries_275 : decode cX8_tries 275 = .ok (.aload_n 0, 1) := by decide +kernel
theorem dX8_tries_276 : decode cX8_tries 276 = .ok (.getfield 50, 3) := by decide +kernel
theorem dX8_tries_279 : decode cX8_tries 279 = .ok (.iload_n 3, 1) := by decide +kernel
theorem dX8_tries_280 : decode cX8_tries 280 = .ok (.iaload, 1) := by decide +kernel
theorem dX8_tries_281 : decode cX8_tries 281 = .ok (.aload_n 0, 1) := by decide +kernel
theorem dX8_tries_282 : decode cX8_tries 282 = .ok (.getfield 68, 3) := by decide +kernel
theorem dX8_tries_285 : decode cX8_tries 285 = .ok (.iconst 4, 1) := by decide +kernel
theorem dX8_tries_286 : decode cX8_tries 286 = .ok (.iload_n 2, 1) := by decide +kernel
theorem dX8_tries_287 : decode cX8_tries 287 = .ok (.imul, 1) := by decide +kernel
theorem dX8_tries_288 : decode cX8_tries 288 = .ok (.iaload, 1) := by decide +kernel
theorem dX8_tries_289 : decode cX8_tries 289 = .ok (.isub, 1) := by decide +kernel
theorem dX8_tries_290 : decode cX8_tries 290 = .ok (.invokevirtual 136, 3) := by decide +kernel
theorem dX8_tries_293 : decode cX8_tries 293 = .ok (.aload_n 0, 1) := by decide +kernel
theorem dX8_tries_294 : decode cX8_tries 294 = .ok (.aload_n 0, 1) := by decide +kernel
theorem dX8_tries_295 : decode cX8_tries 295 = .ok (.iload_n 2, 1) := by decide +kernel
theorem dX8_tries_296 : decode cX8_tries 296 = .ok (.iconst 1, 1) := by decide +kernel
theorem dX8_tries_297 : decode cX8_tries 297 = .ok (.aload_n 0, 1) := by decide +kernel
theorem dX8_tries_298 : decode cX8_tries 298 = .ok (.getfield 115, 3) := by decide +kernel
theorem dX8_tries_301 : decode cX8_tries 301 = .ok (.invokevirtual 122, 3) := by decide +kernel
theorem dX8_tries_304 : decode cX8_tries 304 = .ok (.iconst 1, 1) := by decide +kernel
theorem dX8_tries_305 : decode cX8_tries 305 = .ok (.aload_n 0, 1) := by decide +kernel
theorem dX8_tries_306 : decode cX8_tries 306 = .ok (.getfield 50, 3) := by decide +kernel
theorem dX8_tries_309 : decode cX8_tries 309 = .ok (.iload_n 3, 1) := by decide +kernel
theorem dX8_tries_310 : decode cX8_tries 310 = .ok (.iconst 1, 1) := by decide +kernel
theorem dX8_tries_311 : decode cX8_tries 311 = .ok (.iadd, 1) := by decide +kernel
theorem dX8_tries_312 : decode cX8_tries 312 = .ok (.iaload, 1) := by decide +kernel
theorem dX8_tries_313 : decode cX8_tries 313 = .ok (.aload_n 0, 1) := by decide +kernel
theorem dX8_tries_314 : decode cX8_tries 314 = .ok (.getfield 68, 3) := by decide +kernel
theorem dX8_tries_317 : decode cX8_tries 317 = .ok (.iconst 4, 1) := by decide +kernel
theorem dX8_tries_318 : decode cX8_tries 318 = .ok (.iload_n 2, 1) := by decide +kernel
theorem dX8_tries_319 : decode cX8_tries 319 = .ok (.imul, 1) := by decide +kernel
theorem dX8_tries_320 : decode cX8_tries 320 = .ok (.iconst 1, 1) := by decide +kernel
theorem dX8_tries_321 : decode cX8_tries 321 = .ok (.iadd, 1) := by decide +kernel
theorem dX8_tries_322 : decode cX8_tries 322 = .ok (.iaload, 1) := by decide +kernel
theorem dX8_tries_323 : decode cX8_tries 323 = .ok (.isub, 1) := by decide +kernel
theorem dX8_tries_324 : decode cX8_tries 324 = .ok (.invokevirtual 136, 3) := by decide +kernel
theorem dX8_tries_327 : decode cX8_tries 327 = .ok (.goto 67, 3) := by decide +kernel
theorem dX8_tries_330 : decode cX8_tries 330 = .ok (.aload_n 0, 1) := by decide +kernel
theorem dX8_tries_331 : decode cX8_tries 331 = .ok (.aload_n 0, 1) := by decide +kernel
theorem dX8_tries_332 : decode cX8_tries 332 = .ok (.iload_n 2, 1) := by decide +kernel
theorem dX8_tries_333 : decode cX8_tries 333 = .ok (.iconst 2, 1) := by decide +kernel
theorem dX8_tries_334 : decode cX8_tries 334 = .ok (.aload_n 0, 1) := by decide +kernel
theorem dX8_tries_335 : decode cX8_tries 335 = .ok (.getfield 115, 3) := by decide +kernel
theorem dX8_tries_338 : decode cX8_tries 338 = .ok (.invokevirtual 122, 3) := by decide +kernel
theorem dX8_tries_341 : decode cX8_tries 341 = .ok (.iconst 2, 1) := by decide +kernel
theorem dX8_tries_342 : decode cX8_tries 342 = .ok (.aload_n 0, 1) := by decide +kernel
theorem dX8_tries_343 : decode cX8_tries 343 = .ok (.getfield 50, 3) := by decide +kernel
theorem dX8_tries_346 : decode cX8_tries 346 = .ok (.iload_n 3, 1) := by decide +kernel
theorem dX8_tries_347 : decode cX8_tries 347 = .ok (.iaload, 1) := by decide +kernel
theorem dX8_tries_348 : decode cX8_tries 348 = .ok (.invokevirtual 130, 3) := by decide +kernel
theorem dX8_tries_351 : decode cX8_tries 351 = .ok (.istore 4, 2) := by decide +kernel
theorem dX8_tries_353 : decode cX8_tries 353 = .ok (.aload_n 0, 1) := by decide +kernel
theorem dX8_tries_354 : decode cX8_tries 354 = .ok (.aload_n 0, 1) := by decide +kernel
theorem dX8_tries_355 : decode cX8_tries 355 = .ok (.iload_n 2, 1) := by decide +kernel
theorem dX8_tries_356 : decode cX8_tries 356 = .ok (.iconst 3, 1) := by decide +kernel
theorem dX8_tries_357 : decode cX8_tries 357 = .ok (.aload_n 0, 1) := by decide +kernel
theorem dX8_tries_358 : decode cX8_tries 358 = .ok (.getfield 115, 3) := by decide +kernel
theorem dX8_tries_361 : decode cX8_tries 361 = .ok (.invokevirtual 122, 3) := by decide +kernel
theorem dX8_tries_364 : decode cX8_tries 364 = .ok (.iconst 3, 1) := by decide +kernel
theorem dX8_tries_365 : decode cX8_tries 365 = .ok (.aload_n 0, 1) := by decide +kernel
theorem dX8_tries_366 : decode cX8_tries 366 = .ok (.getfield 50, 3) := by decide +kernel
theorem dX8_tries_369 : decode cX8_tries 369 = .ok (.iload_n 3, 1) := by decide +kernel
theorem dX8_tries_370 : decode cX8_tries 370 = .ok (.iconst 1, 1) := by decide +kernel
theorem dX8_tries_371 : decode cX8_tries 371 = .ok (.iadd, 1) := by decide +kernel
theorem dX8_tries_372 : decode cX8_tries 372 = .ok (.iaload, 1) := by decide +kernel
theorem dX8_tries_373 : decode cX8_tries 373 = .ok (.invokevirtual 130, 3) := by decide +kernel
theorem dX8_tries_376 : decode cX8_tries 376 = .ok (.istore 5, 2) := by decide +kernel
theorem dX8_tries_378 : decode cX8_tries 378 = .ok (.aload_n 0, 1) := by decide +kernel
theorem dX8_tries_379 : decode cX8_tries 379 = .ok (.iload_n 2, 1) := by decide +kernel
theorem dX8_tries_380 : decode cX8_tries 380 = .ok (.iload 4, 2) := by decide +kernel
theorem dX8_tries_382 : decode cX8_tries 382 = .ok (.iconst 0, 1) := by decide +kernel
theorem dX8_tries_383 : decode cX8_tries 383 = .ok (.invokevirtual 133, 3) := by decide +kernel
theorem dX8_tries_386 : decode cX8_tries 386 = .ok (.aload_n 0, 1) := by decide +kernel
theorem dX8_tries_387 : decode cX8_tries 387 = .ok (.iload_n 2, 1) := by decide +kernel
theorem dX8_tries_388 : decode cX8_tries 388 = .ok (.iload 5, 2) := by decide +kernel
theorem dX8_tries_390 : decode cX8_tries 390 = .ok (.iconst 1, 1) := by decide +kernel
theorem dX8_tries_391 : decode cX8_tries 391 = .ok (.invokevirtual 133, 3) := by decide +kernel
theorem dX8_tries_394 : decode cX8_tries 394 = .ok (.aload_n 0, 1) := by decide +kernel
theorem dX8_tries_395 : decode cX8_tries 395 = .ok (.getfield 111, 3) := by decide +kernel
theorem dX8_tries_398 : decode cX8_tries 398 = .ok (.ifCond .ne 14, 3) := by decide +kernel
theorem dX8_tries_401 : decode cX8_tries 401 = .ok (.aload_n 0, 1) := by decide +kernel
theorem dX8_tries_402 : decode cX8_tries 402 = .ok (.invokevirtual 152, 3) := by decide +kernel
theorem dX8_tries_405 : decode cX8_tries 405 = .ok (.ifCond .eq 7, 3) := by decide +kernel
theorem dX8_tries_408 : decode cX8_tries 408 = .ok (.iconst 1, 1) := by decide +kernel
theorem dX8_tries_409 : decode cX8_tries 409 = .ok (.goto 4, 3) := by decide +kernel
theorem dX8_tries_412 : decode cX8_tries 412 = .ok (.iconst 0, 1) := by decide +kernel
theorem dX8_tries_413 : decode cX8_tries 413 = .ok (.ireturn, 1) := by decide +kernel
theorem dX8_isOnWay_0 : decode cX8_isOnWay 0 = .ok (.iconst 0, 1) := by decide +kernel
theorem dX8_isOnWay_1 : decode cX8_isOnWay 1 = .ok (.istore_n 2, 1) := by decide +kernel
theorem dX8_isOnWay_2 : decode cX8_isOnWay 2 = .ok (.aload_n 0, 1) := by decide +kernel
theorem dX8_isOnWay_3 : decode cX8_isOnWay 3 = .ok (.getfield 56, 3) := by decide +kernel
theorem dX8_isOnWay_6 : decode cX8_isOnWay 6 = .ok (.aload_n 0, 1) := by decide +kernel
theorem dX8_isOnWay_7 : decode cX8_isOnWay 7 = .ok (.getfield 38, 3) := by decide +kernel
theorem dX8_isOnWay_10 : decode cX8_isOnWay 10 = .ok (.iload_n 1, 1) := by decide +kernel
theorem dX8_isOnWay_11 : decode cX8_isOnWay 11 = .ok (.iaload, 1) := by decide +kernel
theorem dX8_isOnWay_12 : decode cX8_isOnWay 12 = .ok (.iaload, 1) := by decide +kernel
theorem dX8_isOnWay_13 : decode cX8_isOnWay 13 = .ok (.istore_n 3, 1) := by decide +kernel
theorem dX8_isOnWay_14 : decode cX8_isOnWay 14 = .ok (.iload_n 3, 1) := by decide +kernel
theorem dX8_isOnWay_15 : decode cX8_isOnWay 15 = .ok (.iconst (-1), 1) := by decide +kernel
theorem dX8_isOnWay_16 : decode cX8_isOnWay 16 = .ok (.if_icmp .eq 28, 3) := by decide +kernel
theorem dX8_isOnWay_19 : decode cX8_isOnWay 19 = .ok (.iload_n 2, 1) := by decide +kernel
theorem dX8_isOnWay_20 : decode cX8_isOnWay 20 = .ok (.ifCond .ne 8, 3) := by decide +kernel
theorem dX8_isOnWay_23 : decode cX8_isOnWay 23 = .ok (.iload_n 3, 1) := by decide +kernel
theorem dX8_isOnWay_24 : decode cX8_isOnWay 24 = .ok (.iload_n 1, 1) := by decide +kernel
theorem dX8_isOnWay_25 : decode cX8_isOnWay 25 = .ok (.if_icmp .ne 7, 3) := by decide +kernel
theorem dX8_isOnWay_28 : decode cX8_isOnWay 28 = .ok (.iconst 1, 1) := by decide +kernel
theorem dX8_isOnWay_29 : decode cX8_isOnWay 29 = .ok (.goto 4, 3) := by decide +kernel
theorem dX8_isOnWay_32 : decode cX8_isOnWay 32 = .ok (.iconst 0, 1) := by decide +kernel
theorem dX8_isOnWay_33 : decode cX8_isOnWay 33 = .ok (.istore_n 2, 1) := by decide +kernel
theorem dX8_isOnWay_34 : decode cX8_isOnWay 34 = .ok (.aload_n 0, 1) := by decide +kernel
theorem dX8_isOnWay_35 : decode cX8_isOnWay 35 = .ok (.getfield 41, 3) := by decide +kernel
theorem dX8_isOnWay_38 : decode cX8_isOnWay 38 = .ok (.iload_n 3, 1) := by decide +kernel
theorem dX8_isOnWay_39 : decode cX8_isOnWay 39 = .ok (.iaload, 1) := by decide +kernel
theorem dX8_isOnWay_40 : decode cX8_isOnWay 40 = .ok (.istore_n 3, 1) := by decide +kernel
theorem dX8_isOnWay_41 : decode cX8_isOnWay 41 = .ok (.goto (-27), 3) := by decide +kernel
theorem dX8_isOnWay_44 : decode cX8_isOnWay 44 = .ok (.iload_n 2, 1) := by decide +kernel
theorem dX8_isOnWay_45 : decode cX8_isOnWay 45 = .ok (.ireturn, 1) := by decide +kernel
theorem dX8_takes_0 : decode cX8_takes 0 = .ok (.iconst 0, 1) := by decide +kernel
theorem dX8_takes_1 : decode cX8_takes 1 = .ok (.istore_n 1, 1) := by decide +kernel
theorem dX8_takes_2 : decode cX8_takes 2 = .ok (.iconst 0, 1) := by decide +kernel
theorem dX8_takes_3 : decode cX8_takes 3 = .ok (.istore_n 2, 1) := by decide +kernel
theorem dX8_takes_4 : decode cX8_takes 4 = .ok (.iload_n 2, 1) := by decide +kernel
theorem dX8_takes_5 : decode cX8_takes 5 = .ok (.aload_n 0, 1) := by decide +kernel
theorem dX8_takes_6 : decode cX8_takes 6 = .ok (.getfield 88, 3) := by decide +kernel
theorem dX8_takes_9 : decode cX8_takes 9 = .ok (.if_icmp .ge 85, 3) := by decide +kernel
theorem dX8_takes_12 : decode cX8_takes 12 = .ok (.iconst 1, 1) := by decide +kernel
theorem dX8_takes_13 : decode cX8_takes 13 = .ok (.istore_n 3, 1) := by decide +kernel
theorem dX8_takes_14 : decode cX8_takes 14 = .ok (.iconst 4, 1) := by decide +kernel
theorem dX8_takes_15 : decode cX8_takes 15 = .ok (.iload_n 2, 1) := by decide +kernel
theorem dX8_takes_16 : decode cX8_takes 16 = .ok (.imul, 1) := by decide +kernel
theorem dX8_takes_17 : decode cX8_takes 17 = .ok (.istore 4, 2) := by decide +kernel
theorem dX8_takes_19 : decode cX8_takes 19 = .ok (.iload 4, 2) := by decide +kernel
theorem dX8_takes_21 : decode cX8_takes 21 = .ok (.iconst 4, 1) := by decide +kernel
theorem dX8_takes_22 : decode cX8_takes 22 = .ok (.iload_n 2, 1) := by decide +kernel
theorem dX8_takes_23 : decode cX8_takes 23 = .ok (.imul, 1) := by decide +kernel
theorem dX8_takes_24 : decode cX8_takes 24 = .ok (.iconst 4, 1) := by decide +kernel
theorem dX8_takes_25 : decode cX8_takes 25 = .ok (.iadd, 1) := by decide +kernel
theorem dX8_takes_26 : decode cX8_takes 26 = .ok (.if_icmp .ge 50, 3) := by decide +kernel
theorem dX8_takes_29 : decode cX8_takes 29 = .ok (.iload_n 3, 1) := by decide +kernel
theorem dX8_takes_30 : decode cX8_takes 30 = .ok (.ifCond .eq 24, 3) := by decide +kernel
theorem dX8_takes_33 : decode cX8_takes 33 = .ok (.aload_n 0, 1) := by decide +kernel
theorem dX8_takes_34 : decode cX8_takes 34 = .ok (.getfield 59, 3) := by decide +kernel
theorem dX8_takes_37 : decode cX8_takes 37 = .ok (.iload 4, 2) := by decide +kernel
theorem dX8_takes_39 : decode cX8_takes 39 = .ok (.iaload, 1) := by decide +kernel
theorem dX8_takes_40 : decode cX8_takes 40 = .ok (.aload_n 0, 1) := by decide +kernel
theorem dX8_takes_41 : decode cX8_takes 41 = .ok (.getfield 68, 3) := by decide +kernel
theorem dX8_takes_44 : decode cX8_takes 44 = .ok (.iload 4, 2) := by decide +kernel
theorem dX8_takes_46 : decode cX8_takes 46 = .ok (.iaload, 1) := by decide +kernel
theorem dX8_takes_47 : decode cX8_takes 47 = .ok (.if_icmp .ne 7, 3) := by decide +kernel
theorem dX8_takes_50 : decode cX8_takes 50 = .ok (.iconst 1, 1) := by decide +kernel
theorem dX8_takes_51 : decode cX8_takes 51 = .ok (.goto 4, 3) := by decide +kernel
theorem dX8_takes_54 : decode cX8_takes 54 = .ok (.iconst 0, 1) := by decide +kernel
theorem dX8_takes_55 : decode cX8_takes 55 = .ok (.istore_n 3, 1) := by decide +kernel
theorem dX8_takes_56 : decode cX8_takes 56 = .ok (.aload_n 0, 1) := by decide +kernel
theorem dX8_takes_57 : decode cX8_takes 57 = .ok (.getfield 59, 3) := by decide +kernel
theorem dX8_takes_60 : decode cX8_takes 60 = .ok (.iload 4, 2) := by decide +kernel
theorem dX8_takes_62 : decode cX8_takes 62 = .ok (.aload_n 0, 1) := by decide +kernel
theorem dX8_takes_63 : decode cX8_takes 63 = .ok (.getfield 68, 3) := by decide +kernel
theorem dX8_takes_66 : decode cX8_takes 66 = .ok (.iload 4, 2) := by decide +kernel
theorem dX8_takes_68 : decode cX8_takes 68 = .ok (.iaload, 1) := by decide +kernel
theorem dX8_takes_69 : decode cX8_takes 69 = .ok (.iastore, 1) := by decide +kernel
theorem dX8_takes_70 : decode cX8_takes 70 = .ok (.iinc 4 1, 3) := by decide +kernel
theorem dX8_takes_73 : decode cX8_takes 73 = .ok (.goto (-54), 3) := by decide +kernel
theorem dX8_takes_76 : decode cX8_takes 76 = .ok (.iload_n 1, 1) := by decide +kernel
theorem dX8_takes_77 : decode cX8_takes 77 = .ok (.iload_n 3, 1) := by decide +kernel
theorem dX8_takes_78 : decode cX8_takes 78 = .ok (.ifCond .eq 7, 3) := by decide +kernel
theorem dX8_takes_81 : decode cX8_takes 81 = .ok (.iconst 0, 1) := by decide +kernel
theorem dX8_takes_82 : decode cX8_takes 82 = .ok (.goto 4, 3) := by decide +kernel
theorem dX8_takes_85 : decode cX8_takes 85 = .ok (.iconst 1, 1) := by decide +kernel
theorem dX8_takes_86 : decode cX8_takes 86 = .ok (.iadd, 1) := by decide +kernel
theorem dX8_takes_87 : decode cX8_takes 87 = .ok (.istore_n 1, 1) := by decide +kernel
theorem dX8_takes_88 : decode cX8_takes 88 = .ok (.iinc 2 1, 3) := by decide +kernel
theorem dX8_takes_91 : decode cX8_takes 91 = .ok (.goto (-87), 3) := by decide +kernel
theorem dX8_takes_94 : decode cX8_takes 94 = .ok (.aload_n 0, 1) := by decide +kernel
theorem dX8_takes_95 : decode cX8_takes 95 = .ok (.aload_n 0, 1) := by decide +kernel
theorem dX8_takes_96 : decode cX8_takes 96 = .ok (.getfield 139, 3) := by decide +kernel
theorem dX8_takes_99 : decode cX8_takes 99 = .ok (.putfield 142, 3) := by decide +kernel
theorem dX8_takes_102 : decode cX8_takes 102 = .ok (.aload_n 0, 1) := by decide +kernel
theorem dX8_takes_103 : decode cX8_takes 103 = .ok (.aload_n 0, 1) := by decide +kernel
theorem dX8_takes_104 : decode cX8_takes 104 = .ok (.getfield 115, 3) := by decide +kernel
theorem dX8_takes_107 : decode cX8_takes 107 = .ok (.putfield 145, 3) := by decide +kernel
theorem dX8_takes_110 : decode cX8_takes 110 = .ok (.iload_n 1, 1) := by decide +kernel
theorem dX8_takes_111 : decode cX8_takes 111 = .ok (.ireturn, 1) := by decide +kernel
theorem dX8_doesAnew_0 : decode cX8_doesAnew 0 = .ok (.iconst 0, 1) := by decide +kernel
theorem dX8_doesAnew_1 : decode cX8_doesAnew 1 = .ok (.istore_n 1, 1) := by decide +kernel
theorem dX8_doesAnew_2 : decode cX8_doesAnew 2 = .ok (.aload_n 0, 1) := by decide +kernel
theorem dX8_doesAnew_3 : decode cX8_doesAnew 3 = .ok (.iconst 0, 1) := by decide +kernel
theorem dX8_doesAnew_4 : decode cX8_doesAnew 4 = .ok (.putfield 142, 3) := by decide +kernel
theorem dX8_doesAnew_7 : decode cX8_doesAnew 7 = .ok (.aload_n 0, 1) := by decide +kernel
theorem dX8_doesAnew_8 : decode cX8_doesAnew 8 = .ok (.iconst 0, 1) := by decide +kernel
theorem dX8_doesAnew_9 : decode cX8_doesAnew 9 = .ok (.putfield 145, 3) := by decide +kernel
theorem dX8_doesAnew_12 : decode cX8_doesAnew 12 = .ok (.iconst 0, 1) := by decide +kernel
theorem dX8_doesAnew_13 : decode cX8_doesAnew 13 = .ok (.istore_n 2, 1) := by decide +kernel
theorem dX8_doesAnew_14 : decode cX8_doesAnew 14 = .ok (.iload_n 2, 1) := by decide +kernel
theorem dX8_doesAnew_15 : decode cX8_doesAnew 15 = .ok (.aload_n 0, 1) := by decide +kernel
theorem dX8_doesAnew_16 : decode cX8_doesAnew 16 = .ok (.getfield 94, 3) := by decide +kernel
theorem dX8_doesAnew_19 : decode cX8_doesAnew 19 = .ok (.if_icmp .ge 50, 3) := by decide +kernel
theorem dX8_doesAnew_22 : decode cX8_doesAnew 22 = .ok (.aload_n 0, 1) := by decide +kernel
theorem dX8_doesAnew_23 : decode cX8_doesAnew 23 = .ok (.getfield 53, 3) := by decide +kernel
theorem dX8_doesAnew_26 : decode cX8_doesAnew 26 = .ok (.iload_n 2, 1) := by decide +kernel
theorem dX8_doesAnew_27 : decode cX8_doesAnew 27 = .ok (.iconst 0, 1) := by decide +kernel
theorem dX8_doesAnew_28 : decode cX8_doesAnew 28 = .ok (.bastore, 1) := by decide +kernel
theorem dX8_doesAnew_29 : decode cX8_doesAnew 29 = .ok (.aload_n 0, 1) := by decide +kernel
theorem dX8_doesAnew_30 : decode cX8_doesAnew 30 = .ok (.iload_n 2, 1) := by decide +kernel
theorem dX8_doesAnew_31 : decode cX8_doesAnew 31 = .ok (.invokevirtual 156, 3) := by decide +kernel
theorem dX8_doesAnew_34 : decode cX8_doesAnew 34 = .ok (.ifCond .eq 29, 3) := by decide +kernel
theorem dX8_doesAnew_37 : decode cX8_doesAnew 37 = .ok (.aload_n 0, 1) := by decide +kernel
theorem dX8_doesAnew_38 : decode cX8_doesAnew 38 = .ok (.iload_n 2, 1) := by decide +kernel
theorem dX8_doesAnew_39 : decode cX8_doesAnew 39 = .ok (.invokevirtual 159, 3) := by decide +kernel
theorem dX8_doesAnew_42 : decode cX8_doesAnew 42 = .ok (.ifCond .eq 11, 3) := by decide +kernel
theorem dX8_doesAnew_45 : decode cX8_doesAnew 45 = .ok (.aload_n 0, 1) := by decide +kernel
theorem dX8_doesAnew_46 : decode cX8_doesAnew 46 = .ok (.invokevirtual 162, 3) := by decide +kernel
theorem dX8_doesAnew_49 : decode cX8_doesAnew 49 = .ok (.pop, 1) := by decide +kernel
theorem dX8_doesAnew_50 : decode cX8_doesAnew 50 = .ok (.goto 13, 3) := by decide +kernel
theorem dX8_doesAnew_53 : decode cX8_doesAnew 53 = .ok (.aload_n 0, 1) := by decide +kernel
theorem dX8_doesAnew_54 : decode cX8_doesAnew 54 = .ok (.getfield 53, 3) := by decide +kernel
theorem dX8_doesAnew_57 : decode cX8_doesAnew 57 = .ok (.iload_n 2, 1) := by decide +kernel
theorem dX8_doesAnew_58 : decode cX8_doesAnew 58 = .ok (.iconst 1, 1) := by decide +kernel
theorem dX8_doesAnew_59 : decode cX8_doesAnew 59 = .ok (.bastore, 1) := by decide +kernel
theorem dX8_doesAnew_60 : decode cX8_doesAnew 60 = .ok (.iinc 1 1, 3) := by decide +kernel
theorem dX8_doesAnew_63 : decode cX8_doesAnew 63 = .ok (.iinc 2 1, 3) := by decide +kernel
theorem dX8_doesAnew_66 : decode cX8_doesAnew 66 = .ok (.goto (-52), 3) := by decide +kernel
theorem dX8_doesAnew_69 : decode cX8_doesAnew 69 = .ok (.iload_n 1, 1) := by decide +kernel
theorem dX8_doesAnew_70 : decode cX8_doesAnew 70 = .ok (.ireturn, 1) := by decide +kernel
theorem dX8_makes_0 : decode cX8_makes 0 = .ok (.aload_n 0, 1) := by decide +kernel
theorem dX8_makes_1 : decode cX8_makes 1 = .ok (.getfield 38, 3) := by decide +kernel
theorem dX8_makes_4 : decode cX8_makes 4 = .ok (.aload_n 0, 1) := by decide +kernel
theorem dX8_makes_5 : decode cX8_makes 5 = .ok (.getfield 94, 3) := by decide +kernel
theorem dX8_makes_8 : decode cX8_makes 8 = .ok (.iaload, 1) := by decide +kernel
theorem dX8_makes_9 : decode cX8_makes 9 = .ok (.istore_n 1, 1) := by decide +kernel
theorem dX8_makes_10 : decode cX8_makes 10 = .ok (.aload_n 0, 1) := by decide +kernel
theorem dX8_makes_11 : decode cX8_makes 11 = .ok (.getfield 41, 3) := by decide +kernel
theorem dX8_makes_14 : decode cX8_makes 14 = .ok (.aload_n 0, 1) := by decide +kernel
theorem dX8_makes_15 : decode cX8_makes 15 = .ok (.getfield 94, 3) := by decide +kernel
theorem dX8_makes_18 : decode cX8_makes 18 = .ok (.aload_n 0, 1) := by decide +kernel
theorem dX8_makes_19 : decode cX8_makes 19 = .ok (.getfield 56, 3) := by decide +kernel
theorem dX8_makes_22 : decode cX8_makes 22 = .ok (.iload_n 1, 1) := by decide +kernel
theorem dX8_makes_23 : decode cX8_makes 23 = .ok (.iaload, 1) := by decide +kernel
theorem dX8_makes_24 : decode cX8_makes 24 = .ok (.iastore, 1) := by decide +kernel
theorem dX8_makes_25 : decode cX8_makes 25 = .ok (.aload_n 0, 1) := by decide +kernel
theorem dX8_makes_26 : decode cX8_makes 26 = .ok (.getfield 53, 3) := by decide +kernel
theorem dX8_makes_29 : decode cX8_makes 29 = .ok (.aload_n 0, 1) := by decide +kernel
theorem dX8_makes_30 : decode cX8_makes 30 = .ok (.getfield 94, 3) := by decide +kernel
theorem dX8_makes_33 : decode cX8_makes 33 = .ok (.iconst 0, 1) := by decide +kernel
theorem dX8_makes_34 : decode cX8_makes 34 = .ok (.bastore, 1) := by decide +kernel
theorem dX8_makes_35 : decode cX8_makes 35 = .ok (.aload_n 0, 1) := by decide +kernel
theorem dX8_makes_36 : decode cX8_makes 36 = .ok (.getfield 56, 3) := by decide +kernel
theorem dX8_makes_39 : decode cX8_makes 39 = .ok (.iload_n 1, 1) := by decide +kernel
theorem dX8_makes_40 : decode cX8_makes 40 = .ok (.aload_n 0, 1) := by decide +kernel
theorem dX8_makes_41 : decode cX8_makes 41 = .ok (.getfield 94, 3) := by decide +kernel
theorem dX8_makes_44 : decode cX8_makes 44 = .ok (.iastore, 1) := by decide +kernel
theorem dX8_makes_45 : decode cX8_makes 45 = .ok (.aload_n 0, 1) := by decide +kernel
theorem dX8_makes_46 : decode cX8_makes 46 = .ok (.dup, 1) := by decide +kernel
theorem dX8_makes_47 : decode cX8_makes 47 = .ok (.getfield 94, 3) := by decide +kernel
theorem dX8_makes_50 : decode cX8_makes 50 = .ok (.iconst 1, 1) := by decide +kernel
theorem dX8_makes_51 : decode cX8_makes 51 = .ok (.iadd, 1) := by decide +kernel
theorem dX8_makes_52 : decode cX8_makes 52 = .ok (.putfield 94, 3) := by decide +kernel
theorem dX8_makes_55 : decode cX8_makes 55 = .ok (.aload_n 0, 1) := by decide +kernel
theorem dX8_makes_56 : decode cX8_makes 56 = .ok (.invokevirtual 162, 3) := by decide +kernel
theorem dX8_makes_59 : decode cX8_makes 59 = .ok (.ireturn, 1) := by decide +kernel
theorem dX8_writes_0 : decode cX8_writes 0 = .ok (.aload_n 0, 1) := by decide +kernel
theorem dX8_writes_1 : decode cX8_writes 1 = .ok (.getfield 38, 3) := by decide +kernel
theorem dX8_writes_4 : decode cX8_writes 4 = .ok (.aload_n 0, 1) := by decide +kernel
theorem dX8_writes_5 : decode cX8_writes 5 = .ok (.getfield 94, 3) := by decide +kernel
theorem dX8_writes_8 : decode cX8_writes 8 = .ok (.iload_n 1, 1) := by decide +kernel
theorem dX8_writes_9 : decode cX8_writes 9 = .ok (.iastore, 1) := by decide +kernel
theorem dX8_writes_10 : decode cX8_writes 10 = .ok (.aload_n 0, 1) := by decide +kernel
theorem dX8_writes_11 : decode cX8_writes 11 = .ok (.getfield 44, 3) := by decide +kernel
theorem dX8_writes_14 : decode cX8_writes 14 = .ok (.aload_n 0, 1) := by decide +kernel
theorem dX8_writes_15 : decode cX8_writes 15 = .ok (.getfield 94, 3) := by decide +kernel
theorem dX8_writes_18 : decode cX8_writes 18 = .ok (.iload_n 2, 1) := by decide +kernel
theorem dX8_writes_19 : decode cX8_writes 19 = .ok (.iastore, 1) := by decide +kernel
theorem dX8_writes_20 : decode cX8_writes 20 = .ok (.aload_n 0, 1) := by decide +kernel
theorem dX8_writes_21 : decode cX8_writes 21 = .ok (.getfield 47, 3) := by decide +kernel
theorem dX8_writes_24 : decode cX8_writes 24 = .ok (.aload_n 0, 1) := by decide +kernel
theorem dX8_writes_25 : decode cX8_writes 25 = .ok (.getfield 94, 3) := by decide +kernel
theorem dX8_writes_28 : decode cX8_writes 28 = .ok (.iload_n 3, 1) := by decide +kernel
theorem dX8_writes_29 : decode cX8_writes 29 = .ok (.iastore, 1) := by decide +kernel
theorem dX8_writes_30 : decode cX8_writes 30 = .ok (.aload_n 0, 1) := by decide +kernel
theorem dX8_writes_31 : decode cX8_writes 31 = .ok (.getfield 50, 3) := by decide +kernel
theorem dX8_writes_34 : decode cX8_writes 34 = .ok (.iconst 4, 1) := by decide +kernel
theorem dX8_writes_35 : decode cX8_writes 35 = .ok (.aload_n 0, 1) := by decide +kernel
theorem dX8_writes_36 : decode cX8_writes 36 = .ok (.getfield 94, 3) := by decide +kernel
theorem dX8_writes_39 : decode cX8_writes 39 = .ok (.imul, 1) := by decide +kernel
theorem dX8_writes_40 : decode cX8_writes 40 = .ok (.iload 4, 2) := by decide +kernel
theorem dX8_writes_42 : decode cX8_writes 42 = .ok (.iastore, 1) := by decide +kernel
theorem dX8_writes_43 : decode cX8_writes 43 = .ok (.aload_n 0, 1) := by decide +kernel
theorem dX8_writes_44 : decode cX8_writes 44 = .ok (.getfield 50, 3) := by decide +kernel
theorem dX8_writes_47 : decode cX8_writes 47 = .ok (.iconst 4, 1) := by decide +kernel
theorem dX8_writes_48 : decode cX8_writes 48 = .ok (.aload_n 0, 1) := by decide +kernel
theorem dX8_writes_49 : decode cX8_writes 49 = .ok (.getfield 94, 3) := by decide +kernel
theorem dX8_writes_52 : decode cX8_writes 52 = .ok (.imul, 1) := by decide +kernel
theorem dX8_writes_53 : decode cX8_writes 53 = .ok (.iconst 1, 1) := by decide +kernel
theorem dX8_writes_54 : decode cX8_writes 54 = .ok (.iadd, 1) := by decide +kernel
theorem dX8_writes_55 : decode cX8_writes 55 = .ok (.iload 5, 2) := by decide +kernel
theorem dX8_writes_57 : decode cX8_writes 57 = .ok (.iastore, 1) := by decide +kernel
theorem dX8_writes_58 : decode cX8_writes 58 = .ok (.aload_n 0, 1) := by decide +kernel
theorem dX8_writes_59 : decode cX8_writes 59 = .ok (.getfield 50, 3) := by decide +kernel
theorem dX8_writes_62 : decode cX8_writes 62 = .ok (.iconst 4, 1) := by decide +kernel
theorem dX8_writes_63 : decode cX8_writes 63 = .ok (.aload_n 0, 1) := by decide +kernel
theorem dX8_writes_64 : decode cX8_writes 64 = .ok (.getfield 94, 3) := by decide +kernel
theorem dX8_writes_67 : decode cX8_writes 67 = .ok (.imul, 1) := by decide +kernel
theorem dX8_writes_68 : decode cX8_writes 68 = .ok (.iconst 2, 1) := by decide +kernel
theorem dX8_writes_69 : decode cX8_writes 69 = .ok (.iadd, 1) := by decide +kernel
theorem dX8_writes_70 : decode cX8_writes 70 = .ok (.iload 6, 2) := by decide +kernel
theorem dX8_writes_72 : decode cX8_writes 72 = .ok (.iastore, 1) := by decide +kernel
theorem dX8_writes_73 : decode cX8_writes 73 = .ok (.aload_n 0, 1) := by decide +kernel
theorem dX8_writes_74 : decode cX8_writes 74 = .ok (.getfield 50, 3) := by decide +kernel
theorem dX8_writes_77 : decode cX8_writes 77 = .ok (.iconst 4, 1) := by decide +kernel
theorem dX8_writes_78 : decode cX8_writes 78 = .ok (.aload_n 0, 1) := by decide +kernel
theorem dX8_writes_79 : decode cX8_writes 79 = .ok (.getfield 94, 3) := by decide +kernel
theorem dX8_writes_82 : decode cX8_writes 82 = .ok (.imul, 1) := by decide +kernel
theorem dX8_writes_83 : decode cX8_writes 83 = .ok (.iconst 3, 1) := by decide +kernel
theorem dX8_writes_84 : decode cX8_writes 84 = .ok (.iadd, 1) := by decide +kernel
theorem dX8_writes_85 : decode cX8_writes 85 = .ok (.iload 7, 2) := by decide +kernel
theorem dX8_writes_87 : decode cX8_writes 87 = .ok (.iastore, 1) := by decide +kernel
theorem dX8_writes_88 : decode cX8_writes 88 = .ok (.return_, 1) := by decide +kernel
theorem dX8_canMake_0 : decode cX8_canMake 0 = .ok (.aload_n 0, 1) := by decide +kernel
theorem dX8_canMake_1 : decode cX8_canMake 1 = .ok (.getfield 94, 3) := by decide +kernel
theorem dX8_canMake_4 : decode cX8_canMake 4 = .ok (.bipush 60, 2) := by decide +kernel
theorem dX8_canMake_6 : decode cX8_canMake 6 = .ok (.if_icmp .ge 18, 3) := by decide +kernel
theorem dX8_canMake_9 : decode cX8_canMake 9 = .ok (.aload_n 0, 1) := by decide +kernel
theorem dX8_canMake_10 : decode cX8_canMake 10 = .ok (.aload_n 0, 1) := by decide +kernel
theorem dX8_canMake_11 : decode cX8_canMake 11 = .ok (.getfield 94, 3) := by decide +kernel
theorem dX8_canMake_14 : decode cX8_canMake 14 = .ok (.invokevirtual 159, 3) := by decide +kernel
theorem dX8_canMake_17 : decode cX8_canMake 17 = .ok (.ifCond .eq 7, 3) := by decide +kernel
theorem dX8_canMake_20 : decode cX8_canMake 20 = .ok (.iconst 1, 1) := by decide +kernel
theorem dX8_canMake_21 : decode cX8_canMake 21 = .ok (.goto 4, 3) := by decide +kernel
theorem dX8_canMake_24 : decode cX8_canMake 24 = .ok (.iconst 0, 1) := by decide +kernel
theorem dX8_canMake_25 : decode cX8_canMake 25 = .ok (.ireturn, 1) := by decide +kernel
theorem dX8_isDrawer_0 : decode cX8_isDrawer 0 = .ok (.iload_n 0, 1) := by decide +kernel
theorem dX8_isDrawer_1 : decode cX8_isDrawer 1 = .ok (.iconst 0, 1) := by decide +kernel
theorem dX8_isDrawer_2 : decode cX8_isDrawer 2 = .ok (.iconst 3, 1) := by decide +kernel
theorem dX8_isDrawer_3 : decode cX8_isDrawer 3 = .ok (.invokestatic 84, 3) := by decide +kernel
theorem dX8_isDrawer_6 : decode cX8_isDrawer 6 = .ok (.ireturn, 1) := by decide +kernel
theorem dX8_isShape_0 : decode cX8_isShape 0 = .ok (.iload_n 1, 1) := by decide +kernel
theorem dX8_isShape_1 : decode cX8_isShape 1 = .ok (.iconst 0, 1) := by decide +kernel
theorem dX8_isShape_2 : decode cX8_isShape 2 = .ok (.aload_n 0, 1) := by decide +kernel
theorem dX8_isShape_3 : decode cX8_isShape 3 = .ok (.getfield 88, 3) := by decide +kernel
theorem dX8_isShape_6 : decode cX8_isShape 6 = .ok (.iconst 1, 1) := by decide +kernel
theorem dX8_isShape_7 : decode cX8_isShape 7 = .ok (.isub, 1) := by decide +kernel
theorem dX8_isShape_8 : decode cX8_isShape 8 = .ok (.invokestatic 84, 3) := by decide +kernel
theorem dX8_isShape_11 : decode cX8_isShape 11 = .ok (.ireturn, 1) := by decide +kernel
theorem dX8_changes_0 : decode cX8_changes 0 = .ok (.iload_n 1, 1) := by decide +kernel
theorem dX8_changes_1 : decode cX8_changes 1 = .ok (.invokestatic 179, 3) := by decide +kernel
theorem dX8_changes_4 : decode cX8_changes 4 = .ok (.ifCond .eq 15, 3) := by decide +kernel
theorem dX8_changes_7 : decode cX8_changes 7 = .ok (.aload_n 0, 1) := by decide +kernel
theorem dX8_changes_8 : decode cX8_changes 8 = .ok (.iload_n 3, 1) := by decide +kernel
theorem dX8_changes_9 : decode cX8_changes 9 = .ok (.invokevirtual 186, 3) := by decide +kernel
theorem dX8_changes_12 : decode cX8_changes 12 = .ok (.ifCond .eq 7, 3) := by decide +kernel
theorem dX8_changes_15 : decode cX8_changes 15 = .ok (.iconst 1, 1) := by decide +kernel
theorem dX8_changes_16 : decode cX8_changes 16 = .ok (.goto 4, 3) := by decide +kernel
theorem dX8_changes_19 : decode cX8_changes 19 = .ok (.iconst 0, 1) := by decide +kernel
theorem dX8_changes_20 : decode cX8_changes 20 = .ok (.istore 7, 2) := by decide +kernel
theorem dX8_changes_22 : decode cX8_changes 22 = .ok (.iload 7, 2) := by decide +kernel
theorem dX8_changes_24 : decode cX8_changes 24 = .ok (.ifCond .eq 21, 3) := by decide +kernel
theorem dX8_changes_27 : decode cX8_changes 27 = .ok (.iload 6, 2) := by decide +kernel
theorem dX8_changes_29 : decode cX8_changes 29 = .ok (.ifCond .eq 16, 3) := by decide +kernel
theorem dX8_changes_32 : decode cX8_changes 32 = .ok (.aload_n 0, 1) := by decide +kernel
theorem dX8_changes_33 : decode cX8_changes 33 = .ok (.getfield 94, 3) := by decide +kernel
theorem dX8_changes_36 : decode cX8_changes 36 = .ok (.bipush 60, 2) := by decide +kernel
theorem dX8_changes_38 : decode cX8_changes 38 = .ok (.if_icmp .ge 7, 3) := by decide +kernel
theorem dX8_changes_41 : decode cX8_changes 41 = .ok (.iconst 1, 1) := by decide +kernel
theorem dX8_changes_42 : decode cX8_changes 42 = .ok (.goto 4, 3) := by decide +kernel
theorem dX8_changes_45 : decode cX8_changes 45 = .ok (.iconst 0, 1) := by decide +kernel
theorem dX8_changes_46 : decode cX8_changes 46 = .ok (.istore 8, 2) := by decide +kernel
theorem dX8_changes_48 : decode cX8_changes 48 = .ok (.iload 8, 2) := by decide +kernel
theorem dX8_changes_50 : decode cX8_changes 50 = .ok (.ifCond .eq 22, 3) := by decide +kernel
theorem dX8_changes_53 : decode cX8_changes 53 = .ok (.aload_n 0, 1) := by decide +kernel
theorem dX8_changes_54 : decode cX8_changes 54 = .ok (.iload_n 1, 1) := by decide +kernel
theorem dX8_changes_55 : decode cX8_changes 55 = .ok (.iload_n 2, 1) := by decide +kernel
theorem dX8_changes_56 : decode cX8_changes 56 = .ok (.iload_n 3, 1) := by decide +kernel
theorem dX8_changes_57 : decode cX8_changes 57 = .ok (.iload 4, 2) := by decide +kernel
theorem dX8_changes_59 : decode cX8_changes 59 = .ok (.iload 5, 2) := by decide +kernel
theorem dX8_changes_61 : decode cX8_changes 61 = .ok (.iconst 0, 1) := by decide +kernel
theorem dX8_changes_62 : decode cX8_changes 62 = .ok (.iconst 0, 1) := by decide +kernel
theorem dX8_changes_63 : decode cX8_changes 63 = .ok (.invokevirtual 166, 3) := by decide +kernel
theorem dX8_changes_66 : decode cX8_changes 66 = .ok (.aload_n 0, 1) := by decide +kernel
theorem dX8_changes_67 : decode cX8_changes 67 = .ok (.invokevirtual 189, 3) := by decide +kernel
theorem dX8_changes_70 : decode cX8_changes 70 = .ok (.istore 8, 2) := by decide +kernel
theorem dX8_changes_72 : decode cX8_changes 72 = .ok (.aload_n 0, 1) := by decide +kernel
theorem dX8_changes_73 : decode cX8_changes 73 = .ok (.iload 7, 2) := by decide +kernel
theorem dX8_changes_75 : decode cX8_changes 75 = .ok (.ifCond .ne 7, 3) := by decide +kernel
theorem dX8_changes_78 : decode cX8_changes 78 = .ok (.iconst 1, 1) := by decide +kernel
theorem dX8_changes_79 : decode cX8_changes 79 = .ok (.goto 22, 3) := by decide +kernel
theorem dX8_changes_82 : decode cX8_changes 82 = .ok (.iload 6, 2) := by decide +kernel
theorem dX8_changes_84 : decode cX8_changes 84 = .ok (.ifCond .ne 7, 3) := by decide +kernel
theorem dX8_changes_87 : decode cX8_changes 87 = .ok (.iconst 2, 1) := by decide +kernel
theorem dX8_changes_88 : decode cX8_changes 88 = .ok (.goto 13, 3) := by decide +kernel
theorem dX8_changes_91 : decode cX8_changes 91 = .ok (.iload 8, 2) := by decide +kernel
theorem dX8_changes_93 : decode cX8_changes 93 = .ok (.ifCond .eq 7, 3) := by decide +kernel
theorem dX8_changes_96 : decode cX8_changes 96 = .ok (.iconst 0, 1) := by decide +kernel
theorem dX8_changes_97 : decode cX8_changes 97 = .ok (.goto 4, 3) := by decide +kernel
theorem dX8_changes_100 : decode cX8_changes 100 = .ok (.iconst 3, 1) := by decide +kernel
theorem dX8_changes_101 : decode cX8_changes 101 = .ok (.invokevirtual 100, 3) := by decide +kernel
theorem dX8_changes_104 : decode cX8_changes 104 = .ok (.ifCond .eq 10, 3) := by decide +kernel
theorem dX8_changes_107 : decode cX8_changes 107 = .ok (.aload_n 0, 1) := by decide +kernel
theorem dX8_changes_108 : decode cX8_changes 108 = .ok (.invokevirtual 170, 3) := by decide +kernel
theorem dX8_changes_111 : decode cX8_changes 111 = .ok (.goto 4, 3) := by decide +kernel
theorem dX8_changes_114 : decode cX8_changes 114 = .ok (.iconst 0, 1) := by decide +kernel
theorem dX8_changes_115 : decode cX8_changes 115 = .ok (.ireturn, 1) := by decide +kernel
theorem fl_RX8_139 : FL RX8 139 8 25 .int := ⟨RX8, TX8, 37, tyX8, rfl, by decide, lyX8, tyX8_ok, nmX8, rfl, Or.inl (tb17 (mem_i 0 rfl))⟩
theorem ml_RX8_152 : MV RX8 152 8 yX8_isInRange 0 := ⟨⟨by decide +kernel, by decide +kernel, by decide +kernel⟩, tb20 (mem_i 28 rfl), tb0 (mem_i 9 rfl), Or.inl (tb20 (mem_i 27 rfl)), RX8, TX8, 37, rfl, rfl, tb28 (mem_i 16 rfl)⟩
theorem ml_RX8_148 : MV RX8 148 8 yX8_lays 1 := ⟨⟨by decide +kernel, by decide +kernel, by decide +kernel⟩, tb20 (mem_i 4 rfl), tb0 (mem_i 9 rfl), Or.inl (tb20 (mem_i 3 rfl)), RX8, TX8, 37, rfl, rfl, tb28 (mem_i 9 rfl)⟩
theorem fl_RX8_50 : FL RX8 50 8 17 (tyX8 17) := ⟨RX8, TX8, 37, tyX8, rfl, by decide, lyX8, tyX8_ok, nmX8, rfl, Or.inl (tb16 (mem_i 22 rfl))⟩
theorem fl_RX8_44 : FL RX8 44 8 15 (tyX8 15) := ⟨RX8, TX8, 37, tyX8, rfl, by decide, lyX8, tyX8_ok, nmX8, rfl, Or.inl (tb16 (mem_i 20 rfl))⟩
theorem fl_RX8_142 : FL RX8 142 8 20 .int := ⟨RX8, TX8, 37, tyX8, rfl, by decide, lyX8, tyX8_ok, nmX8, rfl, Or.inl (tb16 (mem_i 25 rfl))⟩
theorem fl_RX8_145 : FL RX8 145 8 22 .int := ⟨RX8, TX8, 37, tyX8, rfl, by decide, lyX8, tyX8_ok, nmX8, rfl, Or.inl (tb16 (mem_i 27 rfl))⟩
theorem fp_8_25 : FP 8 25 := fun C T N h => by cases h; rfl
theorem fl_RX8_59 : FL RX8 59 8 21 (tyX8 21) := ⟨RX8, TX8, 37, tyX8, rfl, by decide, lyX8, tyX8_ok, nmX8, rfl, Or.inl (tb16 (mem_i 26 rfl))⟩
theorem fl_RX8_47 : FL RX8 47 8 16 (tyX8 16) := ⟨RX8, TX8, 37, tyX8, rfl, by decide, lyX8, tyX8_ok, nmX8, rfl, Or.inl (tb16 (mem_i 21 rfl))⟩
theorem fl_RX8_94 : FL RX8 94 8 12 .int := ⟨RX8, TX8, 37, tyX8, rfl, by decide, lyX8, tyX8_ok, nmX8, rfl, Or.inl (tb16 (mem_i 17 rfl))⟩
theorem fl_RX8_53 : FL RX8 53 8 18 (tyX8 18) := ⟨RX8, TX8, 37, tyX8, rfl, by decide, lyX8, tyX8_ok, nmX8, rfl, Or.inl (tb16 (mem_i 23 rfl))⟩
theorem fl_RX8_41 : FL RX8 41 8 14 (tyX8 14) := ⟨RX8, TX8, 37, tyX8, rfl, by decide, lyX8, tyX8_ok, nmX8, rfl, Or.inl (tb16 (mem_i 19 rfl))⟩
theorem fl_RX8_56 : FL RX8 56 8 19 (tyX8 19) := ⟨RX8, TX8, 37, tyX8, rfl, by decide, lyX8, tyX8_ok, nmX8, rfl, Or.inl (tb16 (mem_i 24 rfl))⟩
theorem fl_RX8_38 : FL RX8 38 8 13 (tyX8 13) := ⟨RX8, TX8, 37, tyX8, rfl, by decide, lyX8, tyX8_ok, nmX8, rfl, Or.inl (tb16 (mem_i 18 rfl))⟩
theorem ml_RX8_156 : MV RX8 156 8 yX8_isOnWay 1 := ⟨⟨by decide +kernel, by decide +kernel, by decide +kernel⟩, tb22 (mem_i 19 rfl), tb0 (mem_i 9 rfl), Or.inl (tb22 (mem_i 18 rfl)), RX8, TX8, 37, rfl, rfl, tb28 (mem_i 24 rfl)⟩
theorem ml_RX8_159 : MV RX8 159 8 yX8_tries 1 := ⟨⟨by decide +kernel, by decide +kernel, by decide +kernel⟩, tb19 (mem_i 28 rfl), tb0 (mem_i 9 rfl), Or.inl (tb19 (mem_i 27 rfl)), RX8, TX8, 37, rfl, rfl, tb28 (mem_i 8 rfl)⟩
theorem fp_8_20 : FP 8 20 := fun C T N h => by cases h; rfl
theorem fp_8_22 : FP 8 22 := fun C T N h => by cases h; rfl
theorem ml_RX8_162 : MV RX8 162 8 yX8_takes 0 := ⟨⟨by decide +kernel, by decide +kernel, by decide +kernel⟩, tb21 (mem_i 4 rfl), tb0 (mem_i 9 rfl), Or.inl (tb21 (mem_i 3 rfl)), RX8, TX8, 37, rfl, rfl, tb28 (mem_i 18 rfl)⟩
theorem fp_8_12 : FP 8 12 := fun C T N h => by cases h; rfl
theorem ml_RX8_170 : MV RX8 170 8 yX8_makes 0 := ⟨⟨by decide +kernel, by decide +kernel, by decide +kernel⟩, tb21 (mem_i 1 rfl), tb0 (mem_i 9 rfl), Or.inl (tb21 (mem_i 0 rfl)), RX8, TX8, 37, rfl, rfl, tb28 (mem_i 17 rfl)⟩
theorem ml_RX8_166 : MV RX8 166 8 yX8_writes 7 := ⟨⟨by decide +kernel, by decide +kernel, by decide +kernel⟩, tb19 (mem_i 25 rfl), tb0 (mem_i 9 rfl), Or.inl (tb19 (mem_i 24 rfl)), RX8, TX8, 37, rfl, rfl, tb28 (mem_i 7 rfl)⟩
theorem ml_RX8_189 : MV RX8 189 8 yX8_canMake 0 := ⟨⟨by decide +kernel, by decide +kernel, by decide +kernel⟩, tb21 (mem_i 21 rfl), tb0 (mem_i 9 rfl), Or.inl (tb21 (mem_i 20 rfl)), RX8, TX8, 37, rfl, rfl, tb28 (mem_i 21 rfl)⟩
theorem ml_RX8_179 : MS RX8 179 yX8_isDrawer 1 := ⟨⟨by decide +kernel, by decide +kernel, by decide +kernel⟩, tb19 (mem_i 19 rfl), tb0 (mem_i 9 rfl), Or.inl (tb19 (mem_i 18 rfl))⟩
theorem ml_RX8_186 : MV RX8 186 8 yX8_isShape 1 := ⟨⟨by decide +kernel, by decide +kernel, by decide +kernel⟩, tb21 (mem_i 18 rfl), tb0 (mem_i 9 rfl), Or.inl (tb21 (mem_i 17 rfl)), RX8, TX8, 37, rfl, rfl, tb28 (mem_i 20 rfl)⟩
def f_X8_isInRange_b74  (rec4 : Int32 × Int32 → Option (Int32)) (S : HS) (x2 : Int32) (t0 : Int32) : Option (Int32) :=
rec4 (t0, (x2 + (1 : Int32)))
def f_X8_isInRange_b73  (rec4 : Int32 × Int32 → Option (Int32)) (S : HS) (x2 : Int32) : Option (Int32) :=
f_X8_isInRange_b74  rec4 S x2 (0 : Int32)
def f_X8_isInRange_b69  (rec4 : Int32 × Int32 → Option (Int32)) (S : HS) (x2 : Int32) : Option (Int32) :=
f_X8_isInRange_b74  rec4 S x2 (1 : Int32)
def F_X8_isInRange_b4   (S : HS) (rec4 : Int32 × Int32 → Option (Int32)) : Int32 × Int32 → Option (Int32) := fun q => match q with
  | (x1, x2) =>
    if (S.1 36 2) ≤ x2 then
    if nz x1 = true then some x1 else none
    else
    if x1 = 0 then
    f_X8_isInRange_b73  rec4 S x2
    else
    (f_X8_has (S.1 36 25) x2 S).bind (fun o21 =>
    if o21 = 0 then
    f_X8_isInRange_b69  rec4 S x2
    else
    if ib ((4 : Int32) * x2) (40) = true then
    (f_X8_isIn (S.1 56 ((4 : Int32) * x2).toNatClampNeg) (-999 : Int32) (999 : Int32) S).bind (fun o41 =>
    if o41 = 0 then
    f_X8_isInRange_b73  rec4 S x2
    else
    if ib (((4 : Int32) * x2) + (1 : Int32)) (40) = true then
    (f_X8_isIn (S.1 56 (((4 : Int32) * x2) + (1 : Int32)).toNatClampNeg) (-999 : Int32) (999 : Int32) S).bind (fun o63 =>
    if o63 = 0 then
    f_X8_isInRange_b73  rec4 S x2
    else
    f_X8_isInRange_b69  rec4 S x2)
    else none)
    else none)
def f_X8_isInRange_b4   (S : HS) (x1 : Int32) (x2 : Int32) : Option (Int32) := fx (F_X8_isInRange_b4  S) FU (x1, x2)
def f_X8_isInRange  (S : HS) : Option (Int32) :=
f_X8_isInRange_b4   S (1 : Int32) (0 : Int32)
def rm_X8_isInRange : Room := { frames := 1, cells := 0, slots := 0, locals := 22 }
set_option maxRecDepth 100000 in
set_option maxHeartbeats 4000000 in
theorem c_X8_isInRange (l : Launch)   (S : HS) (out : Int32) (h : f_X8_isInRange  S = some out) : Ct l yX8_isInRange cX8_isInRange 3 (some .boolean) rm_X8_isInRange [vR 36] S (some (vI out)) S := by
  refine Ct.intro (own := RX8) (lv := [(0, vR 36)]) (by decide +kernel) rfl ⟨rfl, rfl⟩ rfl (Nat.le_of_ble_eq_true rfl) ?_
  intro G hG hR
  revert h
  have hb74 : ∀ (rec4 : Int32 × Int32 → Option (Int32)) (hrec4 : ∀ (x1 : Int32) (x2 : Int32), rec4 (x1, x2) = some out → G 0 0 S [(0, vR 36), (1, vI x1), (2, vI x2)] 4 []) (x2 : Int32) (t0 : Int32), f_X8_isInRange_b74  rec4 S x2 t0 = some out → G 0 0 S [(0, vR 36), (2, vI x2)] 74 [vI t0] := by
    intro rec4 hrec4 x2 t0
    unfold f_X8_isInRange_b74
    refine s_istore_n hG (lv' := [(1, vI t0), (0, vR 36), (2, vI x2)]) dX8_isInRange_74 (by decide) rfl ?_
    refine s_iinc hG (v := (x2 + (1 : Int32))) (lv' := [(2, vI (x2 + (1 : Int32))), (1, vI t0), (0, vR 36)]) dX8_isInRange_75 rfl rfl (by decide) rfl ?_
    refine s_goto hG (tgt := 4) dX8_isInRange_78 (by decide) ?_
    refine s_lv hG [2, 1, 0] rfl ?_
    exact hrec4 _ _
  have hb73 : ∀ (rec4 : Int32 × Int32 → Option (Int32)) (hrec4 : ∀ (x1 : Int32) (x2 : Int32), rec4 (x1, x2) = some out → G 0 0 S [(0, vR 36), (1, vI x1), (2, vI x2)] 4 []) (x2 : Int32), f_X8_isInRange_b73  rec4 S x2 = some out → G 0 0 S [(0, vR 36), (2, vI x2)] 73 [] := by
    intro rec4 hrec4 x2
    unfold f_X8_isInRange_b73
    refine s_iconst hG (v := (0 : Int32)) dX8_isInRange_73 (by decide) ?_
    exact hb74 _ hrec4 _ _
  have hb69 : ∀ (rec4 : Int32 × Int32 → Option (Int32)) (hrec4 : ∀ (x1 : Int32) (x2 : Int32), rec4 (x1, x2) = some out → G 0 0 S [(0, vR 36), (1, vI x1), (2, vI x2)] 4 []) (x2 : Int32), f_X8_isInRange_b69  rec4 S x2 = some out → G 0 0 S [(0, vR 36), (2, vI x2)] 69 [] := by
    intro rec4 hrec4 x2
    unfold f_X8_isInRange_b69
    refine s_iconst hG (v := (1 : Int32)) dX8_isInRange_69 (by decide) ?_
    refine s_goto hG (tgt := 74) dX8_isInRange_70 (by decide) ?_
    exact hb74 _ hrec4 _ _
  have hb4 : ∀ (x1 : Int32) (x2 : Int32), f_X8_isInRange_b4  S x1 x2 = some out → G 0 0 S [(0, vR 36), (1, vI x1), (2, vI x2)] 4 [] := by
    intro  x1 x2
    unfold f_X8_isInRange_b4
    generalize FU = nf
    revert x1 x2
    induction nf with
    | zero => intro x1 x2 h9; cases h9
    | succ nf hrec4 =>
      intro x1 x2
      show F_X8_isInRange_b4  S (fx (F_X8_isInRange_b4  S) nf) (x1, x2) = some out → _
      generalize fx (F_X8_isInRange_b4  S) nf = rec4 at hrec4
      unfold F_X8_isInRange_b4
      dsimp only
      refine s_iload_n hG dX8_isInRange_4 rfl ?_
      refine s_aload_n hG dX8_isInRange_5 rfl ?_
      refine s_getI hG dX8_isInRange_6 fl_RX8_88 (rfl) ?_
      refine s_icmp_ge hG (tgt := 81) dX8_isInRange_9 (by decide) ?_ ?_
      · refine s_iload_n hG dX8_isInRange_81 rfl ?_
        exact s_rzP hR dX8_isInRange_82
      · refine s_iload_n hG dX8_isInRange_12 rfl ?_
        refine s_if_eq hG (tgt := 73) dX8_isInRange_13 (by decide) ?_ ?_
        · refine s_lv hG [0, 2] rfl ?_
          exact hb73 _ hrec4 _
        · refine s_aload_n hG dX8_isInRange_16 rfl ?_
          refine s_getI hG dX8_isInRange_17 fl_RX8_139 (rfl) ?_
          refine s_iload_n hG dX8_isInRange_20 rfl ?_
          refine s_csP hG (as := [vI (S.1 36 25), vI x2]) (st := []) (rm := rm_X8_has) dX8_isInRange_21 ml_RX8_104 (tb20 (mem_i 2 rfl)) rfl ⟨rfl, rfl⟩ ⟨by decide, by decide⟩ (Nat.le_of_ble_eq_true rfl) ⟨Nat.zero_le _, Nat.zero_le _⟩ rfl (fun o h => c_X8_has l _ _ _ o h) (fun o21 => ?_)
          refine s_if_eq hG (tgt := 69) dX8_isInRange_24 (by decide) ?_ ?_
          · refine s_lv hG [0, 2] rfl ?_
            exact hb69 _ hrec4 _
          · refine s_aload_n hG dX8_isInRange_27 rfl ?_
            refine s_getC hG dX8_isInRange_28 fl_RX8_68 (rfl) ?_
            refine s_iconst hG (v := (4 : Int32)) dX8_isInRange_31 (by decide) ?_
            refine s_iload_n hG dX8_isInRange_32 rfl ?_
            refine s_imul hG dX8_isInRange_33 ?_
            refine s_iaload hG dX8_isInRange_34 (rfl) ?_
            refine s_sipush hG (v := (-999 : Int32)) dX8_isInRange_35 (by decide) ?_
            refine s_sipush hG (v := (999 : Int32)) dX8_isInRange_38 (by decide) ?_
            refine s_csP hG (as := [vI (S.1 56 ((4 : Int32) * x2).toNatClampNeg), vI (-999 : Int32), vI (999 : Int32)]) (st := []) (rm := rm_X8_isIn) dX8_isInRange_41 ml_RX8_84 (tb19 (mem_i 0 rfl)) rfl ⟨rfl, rfl⟩ ⟨by decide, by decide⟩ (Nat.le_of_ble_eq_true rfl) ⟨Nat.zero_le _, Nat.zero_le _⟩ rfl (fun o h => c_X8_isIn l _ _ _ _ o h) (fun o41 => ?_)
            refine s_if_eq hG (tgt := 73) dX8_isInRange_44 (by decide) ?_ ?_
            · refine s_lv hG [0, 2] rfl ?_
              exact hb73 _ hrec4 _
            · refine s_aload_n hG dX8_isInRange_47 rfl ?_
              refine s_getC hG dX8_isInRange_48 fl_RX8_68 (rfl) ?_
              refine s_iconst hG (v := (4 : Int32)) dX8_isInRange_51 (by decide) ?_
              refine s_iload_n hG dX8_isInRange_52 rfl ?_
              refine s_imul hG dX8_isInRange_53 ?_
              refine s_iconst hG (v := (1 : Int32)) dX8_isInRange_54 (by decide) ?_
              refine s_iadd hG dX8_isInRange_55 ?_
              refine s_iaload hG dX8_isInRange_56 (rfl) ?_
              refine s_sipush hG (v := (-999 : Int32)) dX8_isInRange_57 (by decide) ?_
              refine s_sipush hG (v := (999 : Int32)) dX8_isInRange_60 (by decide) ?_
              refine s_csP hG (as := [vI (S.1 56 (((4 : Int32) * x2) + (1 : Int32)).toNatClampNeg), vI (-999 : Int32), vI (999 : Int32)]) (st := []) (rm := rm_X8_isIn) dX8_isInRange_63 ml_RX8_84 (tb19 (mem_i 0 rfl)) rfl ⟨rfl, rfl⟩ ⟨by decide, by decide⟩ (Nat.le_of_ble_eq_true rfl) ⟨Nat.zero_le _, Nat.zero_le _⟩ rfl (fun o h => c_X8_isIn l _ _ _ _ o h) (fun o63 => ?_)
              refine s_if_eq hG (tgt := 73) dX8_isInRange_66 (by decide) ?_ ?_
              · refine s_lv hG [0, 2] rfl ?_
                exact hb73 _ hrec4 _
              · refine s_lv hG [0, 2] rfl ?_
                exact hb69 _ hrec4 _
  unfold f_X8_isInRange
  refine s_iconst hG (v := (1 : Int32)) dX8_isInRange_0 (by decide) ?_
  refine s_istore_n hG (lv' := [(1, vI (1 : Int32)), (0, vR 36)]) dX8_isInRange_1 (by decide) rfl ?_
  refine s_iconst hG (v := (0 : Int32)) dX8_isInRange_2 (by decide) ?_
  refine s_istore_n hG (lv' := [(2, vI (0 : Int32)), (1, vI (1 : Int32)), (0, vR 36)]) dX8_isInRange_3 (by decide) rfl ?_
  refine s_lv hG [2, 1, 0] rfl ?_
  exact hb4 _ _

def f_X8_tries_b413 (p1 : Int32)  (S : HS) (t0 : Int32) : Option (HS × Int32) :=
if nz t0 = true then some (S, t0) else none
def f_X8_tries_b412 (p1 : Int32)  (S : HS)  : Option (HS × Int32) :=
f_X8_tries_b413 p1  S (0 : Int32)
def f_X8_tries_b394 (p1 : Int32)  (S : HS)  : Option (HS × Int32) :=
if (S.1 36 28) = 0 then
(f_X8_isInRange S).bind (fun o402 =>
if o402 = 0 then
f_X8_tries_b412 p1  S
else
f_X8_tries_b413 p1  S (1 : Int32))
else
f_X8_tries_b412 p1  S
def f_X8_tries_b214 (p1 : Int32)  (S : HS) (x2 : Int32) (t1 : Int32) : Option (HS × Int32) :=
if nz t1 = true then
f_X8_tries_b394 p1  (sI (sI S 36 28 t1) 36 27 (((sI S 36 28 t1).1 36 27) &&& (((1 : Int32) <<< (x2 &&& 31)) ^^^ (-1 : Int32))))
else none
def f_X8_tries_b169 (p1 : Int32)  (S : HS) (x2 : Int32) (t1 : Int32) : Option (HS × Int32) :=
if nz t1 = true then
if ((sI S 36 28 t1).1 36 28) = 0 then
(f_X8_lays x2 (sI S 36 28 t1)).bind (fun o181 =>
f_X8_tries_b394 p1  o181)
else
f_X8_tries_b394 p1  (sI S 36 28 t1)
else none
def f_X8_tries_b164 (p1 : Int32)  (S : HS) (x2 : Int32) : Option (HS × Int32) :=
f_X8_tries_b169 p1  S x2 (1 : Int32)
def F_X8_tries_b86 (p1 : Int32)  (rec86 : HS × Int32 × Int32 × Int32 → Option (HS × Int32)) : HS × Int32 × Int32 × Int32 → Option (HS × Int32) := fun q => match q with
  | (S, x2, x3, x4) =>
    if (4 : Int32) ≤ x4 then
    f_X8_tries_b394 p1  S
    else
    if ib (x3 + x4) (240) = true then
    if ib (((4 : Int32) * x2) + x4) (40) = true then
    rec86 ((sI S 56 (((4 : Int32) * x2) + x4).toNatClampNeg (S.1 50 (x3 + x4).toNatClampNeg)), x2, x3, (x4 + (1 : Int32)))
    else none
    else none
def f_X8_tries_b86 (p1 : Int32)  (S : HS) (x2 : Int32) (x3 : Int32) (x4 : Int32) : Option (HS × Int32) := fx (F_X8_tries_b86 p1) FU (S, x2, x3, x4)
def F_X8_tries_b30 (p1 : Int32)  (rec30 : HS × Int32 × Int32 × Int32 → Option (HS × Int32)) : HS × Int32 × Int32 × Int32 → Option (HS × Int32) := fun q => match q with
  | (S, x2, x3, x4) =>
    if (40 : Int32) ≤ x4 then
    if nz (0 : Int32) = true then
    if ib p1 (60) = true then
    if ((sI S 36 28 (0 : Int32)).1 48 p1.toNatClampNeg) = 0 then
    f_X8_tries_b86 p1  (sI (sI S 36 28 (0 : Int32)) 36 25 (((sI S 36 28 (0 : Int32)).1 36 25) ||| ((1 : Int32) <<< (x2 &&& 31)))) x2 x3 (0 : Int32)
    else
    if ib p1 (60) = true then
    if ((sI S 36 28 (0 : Int32)).1 48 p1.toNatClampNeg) = (3 : Int32) then
    if ib x2 (12) = true then
    (f_X8_has ((sI S 36 28 (0 : Int32)).1 36 20) ((sI S 36 28 (0 : Int32)).1 43 x2.toNatClampNeg) (sI S 36 28 (0 : Int32))).bind (fun o142 =>
    if o142 = 0 then
    f_X8_tries_b164 p1  (sI S 36 28 (0 : Int32)) x2
    else
    if ib x2 (12) = true then
    (f_X8_has ((sI S 36 28 (0 : Int32)).1 36 20) ((sI S 36 28 (0 : Int32)).1 44 x2.toNatClampNeg) (sI S 36 28 (0 : Int32))).bind (fun o158 =>
    if o158 = 0 then
    f_X8_tries_b164 p1  (sI S 36 28 (0 : Int32)) x2
    else
    f_X8_tries_b169 p1  (sI S 36 28 (0 : Int32)) x2 (0 : Int32))
    else none)
    else none
    else
    if ib p1 (60) = true then
    if ((sI S 36 28 (0 : Int32)).1 48 p1.toNatClampNeg) = (4 : Int32) then
    (f_X8_has ((sI S 36 28 (0 : Int32)).1 36 22) x2 (sI S 36 28 (0 : Int32))).bind (fun o203 =>
    if o203 = 0 then
    f_X8_tries_b214 p1  (sI S 36 28 (0 : Int32)) x2 (1 : Int32)
    else
    f_X8_tries_b214 p1  (sI S 36 28 (0 : Int32)) x2 (0 : Int32))
    else
    (f_X8_has ((sI S 36 28 (0 : Int32)).1 36 20) x2 (sI S 36 28 (0 : Int32))).bind (fun o239 =>
    if o239 = 0 then
    if nz (1 : Int32) = true then
    f_X8_tries_b394 p1  (sI (sI S 36 28 (0 : Int32)) 36 28 (1 : Int32))
    else none
    else
    if ib p1 (60) = true then
    if ((sI S 36 28 (0 : Int32)).1 48 p1.toNatClampNeg) = (1 : Int32) then
    (f_X8_partOf x2 (0 : Int32) ((sI S 36 28 (0 : Int32)).1 36 27) (sI S 36 28 (0 : Int32))).bind (fun o271 =>
    if ib x3 (240) = true then
    if ib ((4 : Int32) * x2) (40) = true then
    (f_X8_shifts o271 (0 : Int32) (((sI S 36 28 (0 : Int32)).1 50 x3.toNatClampNeg) - ((sI S 36 28 (0 : Int32)).1 56 ((4 : Int32) * x2).toNatClampNeg)) (sI S 36 28 (0 : Int32))).bind (fun o290 =>
    (f_X8_partOf x2 (1 : Int32) (o290.1 36 27) o290).bind (fun o301 =>
    if ib (x3 + (1 : Int32)) (240) = true then
    if ib (((4 : Int32) * x2) + (1 : Int32)) (40) = true then
    (f_X8_shifts o301 (1 : Int32) ((o290.1 50 (x3 + (1 : Int32)).toNatClampNeg) - (o290.1 56 (((4 : Int32) * x2) + (1 : Int32)).toNatClampNeg)) o290).bind (fun o324 =>
    f_X8_tries_b394 p1  o324)
    else none
    else none))
    else none
    else none)
    else
    (f_X8_partOf x2 (2 : Int32) ((sI S 36 28 (0 : Int32)).1 36 27) (sI S 36 28 (0 : Int32))).bind (fun o338 =>
    if ib x3 (240) = true then
    (f_X8_sizes o338 (2 : Int32) ((sI S 36 28 (0 : Int32)).1 50 x3.toNatClampNeg) (sI S 36 28 (0 : Int32))).bind (fun o348 =>
    (f_X8_partOf x2 (3 : Int32) (o348.1.1 36 27) o348.1).bind (fun o361 =>
    if ib (x3 + (1 : Int32)) (240) = true then
    (f_X8_sizes o361 (3 : Int32) (o348.1.1 50 (x3 + (1 : Int32)).toNatClampNeg) o348.1).bind (fun o373 =>
    (f_X8_settles x2 o348.2 (0 : Int32) o373.1).bind (fun o383 =>
    (f_X8_settles x2 o373.2 (1 : Int32) o383).bind (fun o391 =>
    f_X8_tries_b394 p1  o391)))
    else none))
    else none)
    else none)
    else none
    else none
    else none
    else none
    else
    if ib x4 (40) = true then
    if ib x4 (40) = true then
    rec30 ((sI S 56 x4.toNatClampNeg (S.1 53 x4.toNatClampNeg)), x2, x3, (x4 + (1 : Int32)))
    else none
    else none
def f_X8_tries_b30 (p1 : Int32)  (S : HS) (x2 : Int32) (x3 : Int32) (x4 : Int32) : Option (HS × Int32) := fx (F_X8_tries_b30 p1) FU (S, x2, x3, x4)
def f_X8_tries (p1 : Int32) (S : HS) : Option (HS × Int32) :=
if ib p1 (60) = true then
f_X8_tries_b30 p1  (sI (sI S 36 25 (S.1 36 20)) 36 27 ((sI S 36 25 (S.1 36 20)).1 36 22)) (S.1 49 p1.toNatClampNeg) ((4 : Int32) * p1) (0 : Int32)
else none
def rm_X8_tries : Room := { frames := 4, cells := 0, slots := 0, locals := 105 }
set_option maxRecDepth 100000 in
set_option maxHeartbeats 4000000 in
theorem c_X8_tries (l : Launch) (p1 : Int32)  (S : HS) (out : HS × Int32) (h : f_X8_tries p1 S = some out) : Ct l yX8_tries cX8_tries 6 (some .boolean) rm_X8_tries [vR 36, vI p1] S (some (vI out.2)) out.1 := by
  refine Ct.intro (own := RX8) (lv := [(0, vR 36), (1, vI p1)]) (by decide +kernel) rfl ⟨rfl, rfl⟩ rfl (Nat.le_of_ble_eq_true rfl) ?_
  intro G hG hR
  revert h
  have hb413 : ∀ (S : HS) (t0 : Int32), f_X8_tries_b413 p1 S t0 = some out → G 0 0 S [] 413 [vI t0] := by
    intro S t0
    unfold f_X8_tries_b413
    exact s_rzC hR dX8_tries_413
  have hb412 : ∀ (S : HS), f_X8_tries_b412 p1 S  = some out → G 0 0 S [] 412 [] := by
    intro S
    unfold f_X8_tries_b412
    refine s_iconst hG (v := (0 : Int32)) dX8_tries_412 (by decide) ?_
    exact hb413 _ _
  have hb394 : ∀ (S : HS), f_X8_tries_b394 p1 S  = some out → G 0 0 S [(0, vR 36)] 394 [] := by
    intro S
    unfold f_X8_tries_b394
    refine s_aload_n hG dX8_tries_394 rfl ?_
    refine s_getI hG dX8_tries_395 fl_RX8_111 (rfl) ?_
    refine s_if_ne hG (tgt := 412) dX8_tries_398 (by decide) ?_ ?_
    · refine s_lv hG [] rfl ?_
      exact hb412 _
    · refine s_aload_n hG dX8_tries_401 rfl ?_
      refine s_cvP hG (as := []) (st := []) (rm := rm_X8_isInRange) dX8_tries_402 ml_RX8_152 (rfl) (tb20 (mem_i 29 rfl)) rfl ⟨rfl, rfl⟩ ⟨by decide, by decide⟩ (Nat.le_of_ble_eq_true rfl) ⟨Nat.zero_le _, Nat.zero_le _⟩ rfl (fun o h => c_X8_isInRange l  _ o h) (fun o402 => ?_)
      refine s_if_eq hG (tgt := 412) dX8_tries_405 (by decide) ?_ ?_
      · refine s_lv hG [] rfl ?_
        exact hb412 _
      · refine s_iconst hG (v := (1 : Int32)) dX8_tries_408 (by decide) ?_
        refine s_goto hG (tgt := 413) dX8_tries_409 (by decide) ?_
        refine s_lv hG [] rfl ?_
        exact hb413 _ _
  have hb214 : ∀ (S : HS) (x2 : Int32) (t1 : Int32), f_X8_tries_b214 p1 S x2 t1 = some out → G 0 0 S [(0, vR 36), (2, vI x2)] 214 [vI t1, vR 36] := by
    intro S x2 t1
    unfold f_X8_tries_b214
    refine s_putZ hG dX8_tries_214 fl_RX8_111 fp_8_28 (rfl) ?_
    refine s_aload_n hG dX8_tries_217 rfl ?_
    refine s_dup hG dX8_tries_218 rfl ?_
    refine s_getI hG dX8_tries_219 fl_RX8_115 (rfl) ?_
    refine s_iconst hG (v := (1 : Int32)) dX8_tries_222 (by decide) ?_
    refine s_iload_n hG dX8_tries_223 rfl ?_
    refine s_ishl hG dX8_tries_224 ?_
    refine s_iconst hG (v := (-1 : Int32)) dX8_tries_225 (by decide) ?_
    refine s_ixor hG dX8_tries_226 ?_
    refine s_iand hG dX8_tries_227 ?_
    refine s_putI hG dX8_tries_228 fl_RX8_115 fp_8_27 (rfl) ⟨rfl, rfl⟩ ?_
    refine s_goto hG (tgt := 394) dX8_tries_231 (by decide) ?_
    refine s_lv hG [0] rfl ?_
    exact hb394 _
  have hb169 : ∀ (S : HS) (x2 : Int32) (t1 : Int32), f_X8_tries_b169 p1 S x2 t1 = some out → G 0 0 S [(0, vR 36), (2, vI x2)] 169 [vI t1, vR 36] := by
    intro S x2 t1
    unfold f_X8_tries_b169
    refine s_putZ hG dX8_tries_169 fl_RX8_111 fp_8_28 (rfl) ?_
    refine s_aload_n hG dX8_tries_172 rfl ?_
    refine s_getI hG dX8_tries_173 fl_RX8_111 (rfl) ?_
    refine s_if_ne hG (tgt := 394) dX8_tries_176 (by decide) ?_ ?_
    · refine s_lv hG [0] rfl ?_
      exact hb394 _
    · refine s_aload_n hG dX8_tries_179 rfl ?_
      refine s_iload_n hG dX8_tries_180 rfl ?_
      refine s_cvV hG (as := [vI x2]) (st := []) (rm := rm_X8_lays) dX8_tries_181 ml_RX8_148 (rfl) (tb20 (mem_i 5 rfl)) rfl ⟨rfl, rfl⟩ ⟨by decide, by decide⟩ (Nat.le_of_ble_eq_true rfl) ⟨Nat.zero_le _, Nat.zero_le _⟩ rfl (fun o h => c_X8_lays l _ _ o h) (fun o181 => ?_)
      refine s_goto hG (tgt := 394) dX8_tries_184 (by decide) ?_
      refine s_lv hG [0] rfl ?_
      exact hb394 _
  have hb164 : ∀ (S : HS) (x2 : Int32), f_X8_tries_b164 p1 S x2 = some out → G 0 0 S [(0, vR 36), (2, vI x2)] 164 [vR 36] := by
    intro S x2
    unfold f_X8_tries_b164
    refine s_iconst hG (v := (1 : Int32)) dX8_tries_164 (by decide) ?_
    refine s_goto hG (tgt := 169) dX8_tries_165 (by decide) ?_
    exact hb169 _ _ _
  have hb86 : ∀ (S : HS) (x2 : Int32) (x3 : Int32) (x4 : Int32), f_X8_tries_b86 p1 S x2 x3 x4 = some out → G 0 0 S [(0, vR 36), (2, vI x2), (3, vI x3), (4, vI x4)] 86 [] := by
    intro  S x2 x3 x4
    unfold f_X8_tries_b86
    generalize FU = nf
    revert S x2 x3 x4
    induction nf with
    | zero => intro S x2 x3 x4 h9; cases h9
    | succ nf hrec86 =>
      intro S x2 x3 x4
      show F_X8_tries_b86 p1 (fx (F_X8_tries_b86 p1) nf) (S, x2, x3, x4) = some out → _
      generalize fx (F_X8_tries_b86 p1) nf = rec86 at hrec86
      unfold F_X8_tries_b86
      dsimp only
      refine s_iload hG dX8_tries_86 rfl ?_
      refine s_iconst hG (v := (4 : Int32)) dX8_tries_88 (by decide) ?_
      refine s_icmp_ge hG (tgt := 118) dX8_tries_89 (by decide) ?_ ?_
      · refine s_goto hG (tgt := 394) dX8_tries_118 (by decide) ?_
        refine s_lv hG [0] rfl ?_
        exact hb394 _
      · refine s_aload_n hG dX8_tries_92 rfl ?_
        refine s_getC hG dX8_tries_93 fl_RX8_68 (rfl) ?_
        refine s_iconst hG (v := (4 : Int32)) dX8_tries_96 (by decide) ?_
        refine s_iload_n hG dX8_tries_97 rfl ?_
        refine s_imul hG dX8_tries_98 ?_
        refine s_iload hG dX8_tries_99 rfl ?_
        refine s_iadd hG dX8_tries_101 ?_
        refine s_aload_n hG dX8_tries_102 rfl ?_
        refine s_getC hG dX8_tries_103 fl_RX8_50 (rfl) ?_
        refine s_iload_n hG dX8_tries_106 rfl ?_
        refine s_iload hG dX8_tries_107 rfl ?_
        refine s_iadd hG dX8_tries_109 ?_
        refine s_iaload hG dX8_tries_110 (rfl) ?_
        refine s_iastore hG dX8_tries_111 (rfl) ?_
        refine s_iinc hG (v := (x4 + (1 : Int32))) (lv' := [(4, vI (x4 + (1 : Int32))), (0, vR 36), (2, vI x2), (3, vI x3)]) dX8_tries_112 rfl rfl (by decide) rfl ?_
        refine s_goto hG (tgt := 86) dX8_tries_115 (by decide) ?_
        refine s_lv hG [1, 2, 3, 0] rfl ?_
        exact hrec86 _ _ _ _
  have hb30 : ∀ (S : HS) (x2 : Int32) (x3 : Int32) (x4 : Int32), f_X8_tries_b30 p1 S x2 x3 x4 = some out → G 0 0 S [(0, vR 36), (1, vI p1), (2, vI x2), (3, vI x3), (4, vI x4)] 30 [] := by
    intro  S x2 x3 x4
    unfold f_X8_tries_b30
    generalize FU = nf
    revert S x2 x3 x4
    induction nf with
    | zero => intro S x2 x3 x4 h9; cases h9
    | succ nf hrec30 =>
      intro S x2 x3 x4
      show F_X8_tries_b30 p1 (fx (F_X8_tries_b30 p1) nf) (S, x2, x3, x4) = some out → _
      generalize fx (F_X8_tries_b30 p1) nf = rec30 at hrec30
      unfold F_X8_tries_b30
      dsimp only
      refine s_iload hG dX8_tries_30 rfl ?_
      refine s_bipush hG (v := (40 : Int32)) dX8_tries_32 (by decide) ?_
      refine s_icmp_ge hG (tgt := 57) dX8_tries_34 (by decide) ?_ ?_
      · refine s_aload_n hG dX8_tries_57 rfl ?_
        refine s_iconst hG (v := (0 : Int32)) dX8_tries_58 (by decide) ?_
        refine s_putZ hG dX8_tries_59 fl_RX8_111 fp_8_28 (rfl) ?_
        refine s_aload_n hG dX8_tries_62 rfl ?_
        refine s_getC hG dX8_tries_63 fl_RX8_44 (rfl) ?_
        refine s_iload_n hG dX8_tries_66 rfl ?_
        refine s_iaload hG dX8_tries_67 (rfl) ?_
        refine s_if_ne hG (tgt := 121) dX8_tries_68 (by decide) ?_ ?_
        · refine s_aload_n hG dX8_tries_121 rfl ?_
          refine s_getC hG dX8_tries_122 fl_RX8_44 (rfl) ?_
          refine s_iload_n hG dX8_tries_125 rfl ?_
          refine s_iaload hG dX8_tries_126 (rfl) ?_
          refine s_iconst hG (v := (3 : Int32)) dX8_tries_127 (by decide) ?_
          refine s_icmp_ne hG (tgt := 187) dX8_tries_128 (by decide) ?_ ?_
          · refine s_aload_n hG dX8_tries_187 rfl ?_
            refine s_getC hG dX8_tries_188 fl_RX8_44 (rfl) ?_
            refine s_iload_n hG dX8_tries_191 rfl ?_
            refine s_iaload hG dX8_tries_192 (rfl) ?_
            refine s_iconst hG (v := (4 : Int32)) dX8_tries_193 (by decide) ?_
            refine s_icmp_ne hG (tgt := 234) dX8_tries_194 (by decide) ?_ ?_
            · refine s_aload_n hG dX8_tries_234 rfl ?_
              refine s_getI hG dX8_tries_235 fl_RX8_142 (rfl) ?_
              refine s_iload_n hG dX8_tries_238 rfl ?_
              refine s_csP hG (as := [vI ((sI S 36 28 (0 : Int32)).1 36 20), vI x2]) (st := []) (rm := rm_X8_has) dX8_tries_239 ml_RX8_104 (tb20 (mem_i 2 rfl)) rfl ⟨rfl, rfl⟩ ⟨by decide, by decide⟩ (Nat.le_of_ble_eq_true rfl) ⟨Nat.zero_le _, Nat.zero_le _⟩ rfl (fun o h => c_X8_has l _ _ _ o h) (fun o239 => ?_)
              refine s_if_ne hG (tgt := 253) dX8_tries_242 (by decide) ?_ ?_
              · refine s_aload_n hG dX8_tries_253 rfl ?_
                refine s_getC hG dX8_tries_254 fl_RX8_44 (rfl) ?_
                refine s_iload_n hG dX8_tries_257 rfl ?_
                refine s_iaload hG dX8_tries_258 (rfl) ?_
                refine s_iconst hG (v := (1 : Int32)) dX8_tries_259 (by decide) ?_
                refine s_icmp_ne hG (tgt := 330) dX8_tries_260 (by decide) ?_ ?_
                · refine s_aload_n hG dX8_tries_330 rfl ?_
                  refine s_aload_n hG dX8_tries_331 rfl ?_
                  refine s_iload_n hG dX8_tries_332 rfl ?_
                  refine s_iconst hG (v := (2 : Int32)) dX8_tries_333 (by decide) ?_
                  refine s_aload_n hG dX8_tries_334 rfl ?_
                  refine s_getI hG dX8_tries_335 fl_RX8_115 (rfl) ?_
                  refine s_cvP hG (as := [vI x2, vI (2 : Int32), vI ((sI S 36 28 (0 : Int32)).1 36 27)]) (st := [vR 36]) (rm := rm_X8_partOf) dX8_tries_338 ml_RX8_122 (rfl) (tb20 (mem_i 8 rfl)) rfl ⟨rfl, rfl⟩ ⟨by decide, by decide⟩ (Nat.le_of_ble_eq_true rfl) ⟨Nat.zero_le _, Nat.zero_le _⟩ rfl (fun o h => c_X8_partOf l _ _ _ _ o h) (fun o338 => ?_)
                  refine s_iconst hG (v := (2 : Int32)) dX8_tries_341 (by decide) ?_
                  refine s_aload_n hG dX8_tries_342 rfl ?_
                  refine s_getC hG dX8_tries_343 fl_RX8_50 (rfl) ?_
                  refine s_iload_n hG dX8_tries_346 rfl ?_
                  refine s_iaload hG dX8_tries_347 (rfl) ?_
                  refine s_cvI hG (as := [vI o338, vI (2 : Int32), vI ((sI S 36 28 (0 : Int32)).1 50 x3.toNatClampNeg)]) (st := []) (rm := rm_X8_sizes) dX8_tries_348 ml_RX8_130 (rfl) (tb20 (mem_i 14 rfl)) rfl ⟨rfl, rfl⟩ ⟨by decide, by decide⟩ (Nat.le_of_ble_eq_true rfl) ⟨Nat.zero_le _, Nat.zero_le _⟩ rfl (fun o h => c_X8_sizes l _ _ _ _ o h) (fun o348 => ?_)
                  refine s_istore hG (lv' := [(4, vI o348.2), (0, vR 36), (1, vI p1), (2, vI x2), (3, vI x3)]) dX8_tries_351 (by decide) rfl ?_
                  refine s_aload_n hG dX8_tries_353 rfl ?_
                  refine s_aload_n hG dX8_tries_354 rfl ?_
                  refine s_iload_n hG dX8_tries_355 rfl ?_
                  refine s_iconst hG (v := (3 : Int32)) dX8_tries_356 (by decide) ?_
                  refine s_aload_n hG dX8_tries_357 rfl ?_
                  refine s_getI hG dX8_tries_358 fl_RX8_115 (rfl) ?_
                  refine s_cvP hG (as := [vI x2, vI (3 : Int32), vI (o348.1.1 36 27)]) (st := [vR 36]) (rm := rm_X8_partOf) dX8_tries_361 ml_RX8_122 (rfl) (tb20 (mem_i 8 rfl)) rfl ⟨rfl, rfl⟩ ⟨by decide, by decide⟩ (Nat.le_of_ble_eq_true rfl) ⟨Nat.zero_le _, Nat.zero_le _⟩ rfl (fun o h => c_X8_partOf l _ _ _ _ o h) (fun o361 => ?_)
                  refine s_iconst hG (v := (3 : Int32)) dX8_tries_364 (by decide) ?_
                  refine s_aload_n hG dX8_tries_365 rfl ?_
                  refine s_getC hG dX8_tries_366 fl_RX8_50 (rfl) ?_
                  refine s_iload_n hG dX8_tries_369 rfl ?_
                  refine s_iconst hG (v := (1 : Int32)) dX8_tries_370 (by decide) ?_
                  refine s_iadd hG dX8_tries_371 ?_
                  refine s_iaload hG dX8_tries_372 (rfl) ?_
                  refine s_cvI hG (as := [vI o361, vI (3 : Int32), vI (o348.1.1 50 (x3 + (1 : Int32)).toNatClampNeg)]) (st := []) (rm := rm_X8_sizes) dX8_tries_373 ml_RX8_130 (rfl) (tb20 (mem_i 14 rfl)) rfl ⟨rfl, rfl⟩ ⟨by decide, by decide⟩ (Nat.le_of_ble_eq_true rfl) ⟨Nat.zero_le _, Nat.zero_le _⟩ rfl (fun o h => c_X8_sizes l _ _ _ _ o h) (fun o373 => ?_)
                  refine s_istore hG (lv' := [(5, vI o373.2), (4, vI o348.2), (0, vR 36), (1, vI p1), (2, vI x2), (3, vI x3)]) dX8_tries_376 (by decide) rfl ?_
                  refine s_aload_n hG dX8_tries_378 rfl ?_
                  refine s_iload_n hG dX8_tries_379 rfl ?_
                  refine s_iload hG dX8_tries_380 rfl ?_
                  refine s_iconst hG (v := (0 : Int32)) dX8_tries_382 (by decide) ?_
                  refine s_cvV hG (as := [vI x2, vI o348.2, vI (0 : Int32)]) (st := []) (rm := rm_X8_settles) dX8_tries_383 ml_RX8_133 (rfl) (tb20 (mem_i 17 rfl)) rfl ⟨rfl, rfl⟩ ⟨by decide, by decide⟩ (Nat.le_of_ble_eq_true rfl) ⟨Nat.zero_le _, Nat.zero_le _⟩ rfl (fun o h => c_X8_settles l _ _ _ _ o h) (fun o383 => ?_)
                  refine s_aload_n hG dX8_tries_386 rfl ?_
                  refine s_iload_n hG dX8_tries_387 rfl ?_
                  refine s_iload hG dX8_tries_388 rfl ?_
                  refine s_iconst hG (v := (1 : Int32)) dX8_tries_390 (by decide) ?_
                  refine s_cvV hG (as := [vI x2, vI o373.2, vI (1 : Int32)]) (st := []) (rm := rm_X8_settles) dX8_tries_391 ml_RX8_133 (rfl) (tb20 (mem_i 17 rfl)) rfl ⟨rfl, rfl⟩ ⟨by decide, by decide⟩ (Nat.le_of_ble_eq_true rfl) ⟨Nat.zero_le _, Nat.zero_le _⟩ rfl (fun o h => c_X8_settles l _ _ _ _ o h) (fun o391 => ?_)
                  refine s_lv hG [2] rfl ?_
                  exact hb394 _
                · refine s_aload_n hG dX8_tries_263 rfl ?_
                  refine s_aload_n hG dX8_tries_264 rfl ?_
                  refine s_iload_n hG dX8_tries_265 rfl ?_
                  refine s_iconst hG (v := (0 : Int32)) dX8_tries_266 (by decide) ?_
                  refine s_aload_n hG dX8_tries_267 rfl ?_
                  refine s_getI hG dX8_tries_268 fl_RX8_115 (rfl) ?_
                  refine s_cvP hG (as := [vI x2, vI (0 : Int32), vI ((sI S 36 28 (0 : Int32)).1 36 27)]) (st := [vR 36]) (rm := rm_X8_partOf) dX8_tries_271 ml_RX8_122 (rfl) (tb20 (mem_i 8 rfl)) rfl ⟨rfl, rfl⟩ ⟨by decide, by decide⟩ (Nat.le_of_ble_eq_true rfl) ⟨Nat.zero_le _, Nat.zero_le _⟩ rfl (fun o h => c_X8_partOf l _ _ _ _ o h) (fun o271 => ?_)
                  refine s_iconst hG (v := (0 : Int32)) dX8_tries_274 (by decide) ?_
                  refine s_aload_n hG dX8_tries_275 rfl ?_
                  refine s_getC hG dX8_tries_276 fl_RX8_50 (rfl) ?_
                  refine s_iload_n hG dX8_tries_279 rfl ?_
                  refine s_iaload hG dX8_tries_280 (rfl) ?_
                  refine s_aload_n hG dX8_tries_281 rfl ?_
                  refine s_getC hG dX8_tries_282 fl_RX8_68 (rfl) ?_
                  refine s_iconst hG (v := (4 : Int32)) dX8_tries_285 (by decide) ?_
                  refine s_iload_n hG dX8_tries_286 rfl ?_
                  refine s_imul hG dX8_tries_287 ?_
                  refine s_iaload hG dX8_tries_288 (rfl) ?_
                  refine s_isub hG dX8_tries_289 ?_
                  refine s_cvV hG (as := [vI o271, vI (0 : Int32), vI (((sI S 36 28 (0 : Int32)).1 50 x3.toNatClampNeg) - ((sI S 36 28 (0 : Int32)).1 56 ((4 : Int32) * x2).toNatClampNeg))]) (st := []) (rm := rm_X8_shifts) dX8_tries_290 ml_RX8_136 (rfl) (tb20 (mem_i 26 rfl)) rfl ⟨rfl, rfl⟩ ⟨by decide, by decide⟩ (Nat.le_of_ble_eq_true rfl) ⟨Nat.zero_le _, Nat.zero_le _⟩ rfl (fun o h => c_X8_shifts l _ _ _ _ o h) (fun o290 => ?_)
                  refine s_aload_n hG dX8_tries_293 rfl ?_
                  refine s_aload_n hG dX8_tries_294 rfl ?_
                  refine s_iload_n hG dX8_tries_295 rfl ?_
                  refine s_iconst hG (v := (1 : Int32)) dX8_tries_296 (by decide) ?_
                  refine s_aload_n hG dX8_tries_297 rfl ?_
                  refine s_getI hG dX8_tries_298 fl_RX8_115 (rfl) ?_
                  refine s_cvP hG (as := [vI x2, vI (1 : Int32), vI (o290.1 36 27)]) (st := [vR 36]) (rm := rm_X8_partOf) dX8_tries_301 ml_RX8_122 (rfl) (tb20 (mem_i 8 rfl)) rfl ⟨rfl, rfl⟩ ⟨by decide, by decide⟩ (Nat.le_of_ble_eq_true rfl) ⟨Nat.zero_le _, Nat.zero_le _⟩ rfl (fun o h => c_X8_partOf l _ _ _ _ o h) (fun o301 => ?_)
                  refine s_iconst hG (v := (1 : Int32)) dX8_tries_304 (by decide) ?_
                  refine s_aload_n hG dX8_tries_305 rfl ?_
                  refine s_getC hG dX8_tries_306 fl_RX8_50 (rfl) ?_
                  refine s_iload_n hG dX8_tries_309 rfl ?_
                  refine s_iconst hG (v := (1 : Int32)) dX8_tries_310 (by decide) ?_
                  refine s_iadd hG dX8_tries_311 ?_
                  refine s_iaload hG dX8_tries_312 (rfl) ?_
                  refine s_aload_n hG dX8_tries_313 rfl ?_
                  refine s_getC hG dX8_tries_314 fl_RX8_68 (rfl) ?_
                  refine s_iconst hG (v := (4 : Int32)) dX8_tries_317 (by decide) ?_
                  refine s_iload_n hG dX8_tries_318 rfl ?_
                  refine s_imul hG dX8_tries_319 ?_
                  refine s_iconst hG (v := (1 : Int32)) dX8_tries_320 (by decide) ?_
                  refine s_iadd hG dX8_tries_321 ?_
                  refine s_iaload hG dX8_tries_322 (rfl) ?_
                  refine s_isub hG dX8_tries_323 ?_
                  refine s_cvV hG (as := [vI o301, vI (1 : Int32), vI ((o290.1 50 (x3 + (1 : Int32)).toNatClampNeg) - (o290.1 56 (((4 : Int32) * x2) + (1 : Int32)).toNatClampNeg))]) (st := []) (rm := rm_X8_shifts) dX8_tries_324 ml_RX8_136 (rfl) (tb20 (mem_i 26 rfl)) rfl ⟨rfl, rfl⟩ ⟨by decide, by decide⟩ (Nat.le_of_ble_eq_true rfl) ⟨Nat.zero_le _, Nat.zero_le _⟩ rfl (fun o h => c_X8_shifts l _ _ _ _ o h) (fun o324 => ?_)
                  refine s_goto hG (tgt := 394) dX8_tries_327 (by decide) ?_
                  refine s_lv hG [0] rfl ?_
                  exact hb394 _
              · refine s_aload_n hG dX8_tries_245 rfl ?_
                refine s_iconst hG (v := (1 : Int32)) dX8_tries_246 (by decide) ?_
                refine s_putZ hG dX8_tries_247 fl_RX8_111 fp_8_28 (rfl) ?_
                refine s_goto hG (tgt := 394) dX8_tries_250 (by decide) ?_
                refine s_lv hG [0] rfl ?_
                exact hb394 _
            · refine s_aload_n hG dX8_tries_197 rfl ?_
              refine s_aload_n hG dX8_tries_198 rfl ?_
              refine s_getI hG dX8_tries_199 fl_RX8_145 (rfl) ?_
              refine s_iload_n hG dX8_tries_202 rfl ?_
              refine s_csP hG (as := [vI ((sI S 36 28 (0 : Int32)).1 36 22), vI x2]) (st := [vR 36]) (rm := rm_X8_has) dX8_tries_203 ml_RX8_104 (tb20 (mem_i 2 rfl)) rfl ⟨rfl, rfl⟩ ⟨by decide, by decide⟩ (Nat.le_of_ble_eq_true rfl) ⟨Nat.zero_le _, Nat.zero_le _⟩ rfl (fun o h => c_X8_has l _ _ _ o h) (fun o203 => ?_)
              refine s_if_ne hG (tgt := 213) dX8_tries_206 (by decide) ?_ ?_
              · refine s_iconst hG (v := (0 : Int32)) dX8_tries_213 (by decide) ?_
                refine s_lv hG [0, 2] rfl ?_
                exact hb214 _ _ _
              · refine s_iconst hG (v := (1 : Int32)) dX8_tries_209 (by decide) ?_
                refine s_goto hG (tgt := 214) dX8_tries_210 (by decide) ?_
                refine s_lv hG [0, 2] rfl ?_
                exact hb214 _ _ _
          · refine s_aload_n hG dX8_tries_131 rfl ?_
            refine s_aload_n hG dX8_tries_132 rfl ?_
            refine s_getI hG dX8_tries_133 fl_RX8_142 (rfl) ?_
            refine s_aload_n hG dX8_tries_136 rfl ?_
            refine s_getC hG dX8_tries_137 fl_RX8_29 (rfl) ?_
            refine s_iload_n hG dX8_tries_140 rfl ?_
            refine s_iaload hG dX8_tries_141 (rfl) ?_
            refine s_csP hG (as := [vI ((sI S 36 28 (0 : Int32)).1 36 20), vI ((sI S 36 28 (0 : Int32)).1 43 x2.toNatClampNeg)]) (st := [vR 36]) (rm := rm_X8_has) dX8_tries_142 ml_RX8_104 (tb20 (mem_i 2 rfl)) rfl ⟨rfl, rfl⟩ ⟨by decide, by decide⟩ (Nat.le_of_ble_eq_true rfl) ⟨Nat.zero_le _, Nat.zero_le _⟩ rfl (fun o h => c_X8_has l _ _ _ o h) (fun o142 => ?_)
            refine s_if_eq hG (tgt := 164) dX8_tries_145 (by decide) ?_ ?_
            · refine s_lv hG [0, 2] rfl ?_
              exact hb164 _ _
            · refine s_aload_n hG dX8_tries_148 rfl ?_
              refine s_getI hG dX8_tries_149 fl_RX8_142 (rfl) ?_
              refine s_aload_n hG dX8_tries_152 rfl ?_
              refine s_getC hG dX8_tries_153 fl_RX8_32 (rfl) ?_
              refine s_iload_n hG dX8_tries_156 rfl ?_
              refine s_iaload hG dX8_tries_157 (rfl) ?_
              refine s_csP hG (as := [vI ((sI S 36 28 (0 : Int32)).1 36 20), vI ((sI S 36 28 (0 : Int32)).1 44 x2.toNatClampNeg)]) (st := [vR 36]) (rm := rm_X8_has) dX8_tries_158 ml_RX8_104 (tb20 (mem_i 2 rfl)) rfl ⟨rfl, rfl⟩ ⟨by decide, by decide⟩ (Nat.le_of_ble_eq_true rfl) ⟨Nat.zero_le _, Nat.zero_le _⟩ rfl (fun o h => c_X8_has l _ _ _ o h) (fun o158 => ?_)
              refine s_if_ne hG (tgt := 168) dX8_tries_161 (by decide) ?_ ?_
              · refine s_iconst hG (v := (0 : Int32)) dX8_tries_168 (by decide) ?_
                refine s_lv hG [0, 2] rfl ?_
                exact hb169 _ _ _
              · refine s_lv hG [0, 2] rfl ?_
                exact hb164 _ _
        · refine s_aload_n hG dX8_tries_71 rfl ?_
          refine s_dup hG dX8_tries_72 rfl ?_
          refine s_getI hG dX8_tries_73 fl_RX8_139 (rfl) ?_
          refine s_iconst hG (v := (1 : Int32)) dX8_tries_76 (by decide) ?_
          refine s_iload_n hG dX8_tries_77 rfl ?_
          refine s_ishl hG dX8_tries_78 ?_
          refine s_ior hG dX8_tries_79 ?_
          refine s_putI hG dX8_tries_80 fl_RX8_139 fp_8_25 (rfl) ⟨rfl, rfl⟩ ?_
          refine s_iconst hG (v := (0 : Int32)) dX8_tries_83 (by decide) ?_
          refine s_istore hG (lv' := [(4, vI (0 : Int32)), (0, vR 36), (1, vI p1), (2, vI x2), (3, vI x3)]) dX8_tries_84 (by decide) rfl ?_
          refine s_lv hG [1, 3, 4, 0] rfl ?_
          exact hb86 _ _ _ _
      · refine s_aload_n hG dX8_tries_37 rfl ?_
        refine s_getC hG dX8_tries_38 fl_RX8_68 (rfl) ?_
        refine s_iload hG dX8_tries_41 rfl ?_
        refine s_aload_n hG dX8_tries_43 rfl ?_
        refine s_getC hG dX8_tries_44 fl_RX8_59 (rfl) ?_
        refine s_iload hG dX8_tries_47 rfl ?_
        refine s_iaload hG dX8_tries_49 (rfl) ?_
        refine s_iastore hG dX8_tries_50 (rfl) ?_
        refine s_iinc hG (v := (x4 + (1 : Int32))) (lv' := [(4, vI (x4 + (1 : Int32))), (0, vR 36), (1, vI p1), (2, vI x2), (3, vI x3)]) dX8_tries_51 rfl rfl (by decide) rfl ?_
        refine s_goto hG (tgt := 30) dX8_tries_54 (by decide) ?_
        refine s_lv hG [1, 2, 3, 4, 0] rfl ?_
        exact hrec30 _ _ _ _
  unfold f_X8_tries
  refine s_aload_n hG dX8_tries_0 rfl ?_
  refine s_getC hG dX8_tries_1 fl_RX8_47 (rfl) ?_
  refine s_iload_n hG dX8_tries_4 rfl ?_
  refine s_iaload hG dX8_tries_5 (rfl) ?_
  refine s_istore_n hG (lv' := [(2, vI (S.1 49 p1.toNatClampNeg)), (0, vR 36), (1, vI p1)]) dX8_tries_6 (by decide) rfl ?_
  refine s_iconst hG (v := (4 : Int32)) dX8_tries_7 (by decide) ?_
  refine s_iload_n hG dX8_tries_8 rfl ?_
  refine s_imul hG dX8_tries_9 ?_
  refine s_istore_n hG (lv' := [(3, vI ((4 : Int32) * p1)), (2, vI (S.1 49 p1.toNatClampNeg)), (0, vR 36), (1, vI p1)]) dX8_tries_10 (by decide) rfl ?_
  refine s_aload_n hG dX8_tries_11 rfl ?_
  refine s_aload_n hG dX8_tries_12 rfl ?_
  refine s_getI hG dX8_tries_13 fl_RX8_142 (rfl) ?_
  refine s_putI hG dX8_tries_16 fl_RX8_139 fp_8_25 (rfl) ⟨rfl, rfl⟩ ?_
  refine s_aload_n hG dX8_tries_19 rfl ?_
  refine s_aload_n hG dX8_tries_20 rfl ?_
  refine s_getI hG dX8_tries_21 fl_RX8_145 (rfl) ?_
  refine s_putI hG dX8_tries_24 fl_RX8_115 fp_8_27 (rfl) ⟨rfl, rfl⟩ ?_
  refine s_iconst hG (v := (0 : Int32)) dX8_tries_27 (by decide) ?_
  refine s_istore hG (lv' := [(4, vI (0 : Int32)), (3, vI ((4 : Int32) * p1)), (2, vI (S.1 49 p1.toNatClampNeg)), (0, vR 36), (1, vI p1)]) dX8_tries_28 (by decide) rfl ?_
  refine s_lv hG [3, 4, 2, 1, 0] rfl ?_
  exact hb30 _ _ _ _

def f_X8_isOnWay_b33 (p1 : Int32) (rec14 : Int32 × Int32 → Option (Int32)) (S : HS) (x3 : Int32) (t0 : Int32) : Option (Int32) :=
if ib x3 (60) = true then
rec14 (t0, (S.1 47 x3.toNatClampNeg))
else none
def f_X8_isOnWay_b28 (p1 : Int32) (rec14 : Int32 × Int32 → Option (Int32)) (S : HS) (x3 : Int32) : Option (Int32) :=
f_X8_isOnWay_b33 p1 rec14 S x3 (1 : Int32)
def F_X8_isOnWay_b14 (p1 : Int32)  (S : HS) (rec14 : Int32 × Int32 → Option (Int32)) : Int32 × Int32 → Option (Int32) := fun q => match q with
  | (x2, x3) =>
    if x3 = (-1 : Int32) then
    if nz x2 = true then some x2 else none
    else
    if x2 = 0 then
    if x3 = p1 then
    f_X8_isOnWay_b28 p1 rec14 S x3
    else
    f_X8_isOnWay_b33 p1 rec14 S x3 (0 : Int32)
    else
    f_X8_isOnWay_b28 p1 rec14 S x3
def f_X8_isOnWay_b14 (p1 : Int32)  (S : HS) (x2 : Int32) (x3 : Int32) : Option (Int32) := fx (F_X8_isOnWay_b14 p1 S) FU (x2, x3)
def f_X8_isOnWay (p1 : Int32) (S : HS) : Option (Int32) :=
if ib p1 (60) = true then
if ib (S.1 46 p1.toNatClampNeg) (4) = true then
f_X8_isOnWay_b14 p1  S (0 : Int32) (S.1 52 (S.1 46 p1.toNatClampNeg).toNatClampNeg)
else none
else none
def rm_X8_isOnWay : Room := { frames := 0, cells := 0, slots := 0, locals := 0 }
set_option maxRecDepth 100000 in
set_option maxHeartbeats 4000000 in
theorem c_X8_isOnWay (l : Launch) (p1 : Int32)  (S : HS) (out : Int32) (h : f_X8_isOnWay p1 S = some out) : Ct l yX8_isOnWay cX8_isOnWay 4 (some .boolean) rm_X8_isOnWay [vR 36, vI p1] S (some (vI out)) S := by
  refine Ct.intro (own := RX8) (lv := [(0, vR 36), (1, vI p1)]) (by decide +kernel) rfl ⟨rfl, rfl⟩ rfl (Nat.le_of_ble_eq_true rfl) ?_
  intro G hG hR
  revert h
  have hb33 : ∀ (rec14 : Int32 × Int32 → Option (Int32)) (hrec14 : ∀ (x2 : Int32) (x3 : Int32), rec14 (x2, x3) = some out → G 0 0 S [(0, vR 36), (1, vI p1), (2, vI x2), (3, vI x3)] 14 []) (x3 : Int32) (t0 : Int32), f_X8_isOnWay_b33 p1 rec14 S x3 t0 = some out → G 0 0 S [(0, vR 36), (1, vI p1), (3, vI x3)] 33 [vI t0] := by
    intro rec14 hrec14 x3 t0
    unfold f_X8_isOnWay_b33
    refine s_istore_n hG (lv' := [(2, vI t0), (0, vR 36), (1, vI p1), (3, vI x3)]) dX8_isOnWay_33 (by decide) rfl ?_
    refine s_aload_n hG dX8_isOnWay_34 rfl ?_
    refine s_getC hG dX8_isOnWay_35 fl_RX8_41 (rfl) ?_
    refine s_iload_n hG dX8_isOnWay_38 rfl ?_
    refine s_iaload hG dX8_isOnWay_39 (rfl) ?_
    refine s_istore_n hG (lv' := [(3, vI (S.1 47 x3.toNatClampNeg)), (2, vI t0), (0, vR 36), (1, vI p1)]) dX8_isOnWay_40 (by decide) rfl ?_
    refine s_goto hG (tgt := 14) dX8_isOnWay_41 (by decide) ?_
    refine s_lv hG [2, 3, 1, 0] rfl ?_
    exact hrec14 _ _
  have hb28 : ∀ (rec14 : Int32 × Int32 → Option (Int32)) (hrec14 : ∀ (x2 : Int32) (x3 : Int32), rec14 (x2, x3) = some out → G 0 0 S [(0, vR 36), (1, vI p1), (2, vI x2), (3, vI x3)] 14 []) (x3 : Int32), f_X8_isOnWay_b28 p1 rec14 S x3 = some out → G 0 0 S [(0, vR 36), (1, vI p1), (3, vI x3)] 28 [] := by
    intro rec14 hrec14 x3
    unfold f_X8_isOnWay_b28
    refine s_iconst hG (v := (1 : Int32)) dX8_isOnWay_28 (by decide) ?_
    refine s_goto hG (tgt := 33) dX8_isOnWay_29 (by decide) ?_
    exact hb33 _ hrec14 _ _
  have hb14 : ∀ (x2 : Int32) (x3 : Int32), f_X8_isOnWay_b14 p1 S x2 x3 = some out → G 0 0 S [(0, vR 36), (1, vI p1), (2, vI x2), (3, vI x3)] 14 [] := by
    intro  x2 x3
    unfold f_X8_isOnWay_b14
    generalize FU = nf
    revert x2 x3
    induction nf with
    | zero => intro x2 x3 h9; cases h9
    | succ nf hrec14 =>
      intro x2 x3
      show F_X8_isOnWay_b14 p1 S (fx (F_X8_isOnWay_b14 p1 S) nf) (x2, x3) = some out → _
      generalize fx (F_X8_isOnWay_b14 p1 S) nf = rec14 at hrec14
      unfold F_X8_isOnWay_b14
      dsimp only
      refine s_iload_n hG dX8_isOnWay_14 rfl ?_
      refine s_iconst hG (v := (-1 : Int32)) dX8_isOnWay_15 (by decide) ?_
      refine s_icmp_eq hG (tgt := 44) dX8_isOnWay_16 (by decide) ?_ ?_
      · refine s_iload_n hG dX8_isOnWay_44 rfl ?_
        exact s_rzP hR dX8_isOnWay_45
      · refine s_iload_n hG dX8_isOnWay_19 rfl ?_
        refine s_if_ne hG (tgt := 28) dX8_isOnWay_20 (by decide) ?_ ?_
        · refine s_lv hG [0, 1, 3] rfl ?_
          exact hb28 _ hrec14 _
        · refine s_iload_n hG dX8_isOnWay_23 rfl ?_
          refine s_iload_n hG dX8_isOnWay_24 rfl ?_
          refine s_icmp_ne hG (tgt := 32) dX8_isOnWay_25 (by decide) ?_ ?_
          · refine s_iconst hG (v := (0 : Int32)) dX8_isOnWay_32 (by decide) ?_
            refine s_lv hG [0, 1, 3] rfl ?_
            exact hb33 _ hrec14 _ _
          · refine s_lv hG [0, 1, 3] rfl ?_
            exact hb28 _ hrec14 _
  unfold f_X8_isOnWay
  refine s_iconst hG (v := (0 : Int32)) dX8_isOnWay_0 (by decide) ?_
  refine s_istore_n hG (lv' := [(2, vI (0 : Int32)), (0, vR 36), (1, vI p1)]) dX8_isOnWay_1 (by decide) rfl ?_
  refine s_aload_n hG dX8_isOnWay_2 rfl ?_
  refine s_getC hG dX8_isOnWay_3 fl_RX8_56 (rfl) ?_
  refine s_aload_n hG dX8_isOnWay_6 rfl ?_
  refine s_getC hG dX8_isOnWay_7 fl_RX8_38 (rfl) ?_
  refine s_iload_n hG dX8_isOnWay_10 rfl ?_
  refine s_iaload hG dX8_isOnWay_11 (rfl) ?_
  refine s_iaload hG dX8_isOnWay_12 (rfl) ?_
  refine s_istore_n hG (lv' := [(3, vI (S.1 52 (S.1 46 p1.toNatClampNeg).toNatClampNeg)), (2, vI (0 : Int32)), (0, vR 36), (1, vI p1)]) dX8_isOnWay_13 (by decide) rfl ?_
  refine s_lv hG [2, 3, 1, 0] rfl ?_
  exact hb14 _ _

def f_X8_takes_b86  (rec4 : HS × Int32 × Int32 → Option (HS × Int32)) (S : HS) (x2 : Int32) (t0 : Int32) (t1 : Int32) : Option (HS × Int32) :=
rec4 (S, (t0 + t1), (x2 + (1 : Int32)))
def f_X8_takes_b55  (rec4 : HS × Int32 × Int32 → Option (HS × Int32)) (rec19 : HS × Int32 × Int32 × Int32 × Int32 → Option (HS × Int32)) (S : HS) (x1 : Int32) (x2 : Int32) (x4 : Int32) (t0 : Int32) : Option (HS × Int32) :=
if ib x4 (40) = true then
if ib x4 (40) = true then
rec19 ((sI S 53 x4.toNatClampNeg (S.1 56 x4.toNatClampNeg)), x1, x2, t0, (x4 + (1 : Int32)))
else none
else none
def f_X8_takes_b54  (rec4 : HS × Int32 × Int32 → Option (HS × Int32)) (rec19 : HS × Int32 × Int32 × Int32 × Int32 → Option (HS × Int32)) (S : HS) (x1 : Int32) (x2 : Int32) (x4 : Int32) : Option (HS × Int32) :=
f_X8_takes_b55  rec4 rec19 S x1 x2 x4 (0 : Int32)
def F_X8_takes_b19  (rec4 : HS × Int32 × Int32 → Option (HS × Int32)) (rec19 : HS × Int32 × Int32 × Int32 × Int32 → Option (HS × Int32)) : HS × Int32 × Int32 × Int32 × Int32 → Option (HS × Int32) := fun q => match q with
  | (S, x1, x2, x3, x4) =>
    if (((4 : Int32) * x2) + (4 : Int32)) ≤ x4 then
    if x3 = 0 then
    f_X8_takes_b86  rec4 S x2 x1 (1 : Int32)
    else
    f_X8_takes_b86  rec4 S x2 x1 (0 : Int32)
    else
    if x3 = 0 then
    f_X8_takes_b54  rec4 rec19 S x1 x2 x4
    else
    if ib x4 (40) = true then
    if ib x4 (40) = true then
    if (S.1 53 x4.toNatClampNeg) = (S.1 56 x4.toNatClampNeg) then
    f_X8_takes_b55  rec4 rec19 S x1 x2 x4 (1 : Int32)
    else
    f_X8_takes_b54  rec4 rec19 S x1 x2 x4
    else none
    else none
def f_X8_takes_b19  (rec4 : HS × Int32 × Int32 → Option (HS × Int32)) (S : HS) (x1 : Int32) (x2 : Int32) (x3 : Int32) (x4 : Int32) : Option (HS × Int32) := fx (F_X8_takes_b19  rec4) FU (S, x1, x2, x3, x4)
def F_X8_takes_b4   (rec4 : HS × Int32 × Int32 → Option (HS × Int32)) : HS × Int32 × Int32 → Option (HS × Int32) := fun q => match q with
  | (S, x1, x2) =>
    if (S.1 36 2) ≤ x2 then
    some ((sI (sI S 36 20 (S.1 36 25)) 36 22 ((sI S 36 20 (S.1 36 25)).1 36 27)), x1)
    else
    f_X8_takes_b19  rec4 S x1 x2 (1 : Int32) ((4 : Int32) * x2)
def f_X8_takes_b4   (S : HS) (x1 : Int32) (x2 : Int32) : Option (HS × Int32) := fx (F_X8_takes_b4 ) FU (S, x1, x2)
def f_X8_takes  (S : HS) : Option (HS × Int32) :=
f_X8_takes_b4   S (0 : Int32) (0 : Int32)
def rm_X8_takes : Room := { frames := 0, cells := 0, slots := 0, locals := 0 }
set_option maxRecDepth 100000 in
set_option maxHeartbeats 4000000 in
theorem c_X8_takes (l : Launch)   (S : HS) (out : HS × Int32) (h : f_X8_takes  S = some out) : Ct l yX8_takes cX8_takes 5 (some .int) rm_X8_takes [vR 36] S (some (vI out.2)) out.1 := by
  refine Ct.intro (own := RX8) (lv := [(0, vR 36)]) (by decide +kernel) rfl ⟨rfl, rfl⟩ rfl (Nat.le_of_ble_eq_true rfl) ?_
  intro G hG hR
  revert h
  have hb86 : ∀ (rec4 : HS × Int32 × Int32 → Option (HS × Int32)) (hrec4 : ∀ (S : HS) (x1 : Int32) (x2 : Int32), rec4 (S, x1, x2) = some out → G 0 0 S [(0, vR 36), (1, vI x1), (2, vI x2)] 4 []) (S : HS) (x2 : Int32) (t0 : Int32) (t1 : Int32), f_X8_takes_b86  rec4 S x2 t0 t1 = some out → G 0 0 S [(0, vR 36), (2, vI x2)] 86 [vI t1, vI t0] := by
    intro rec4 hrec4 S x2 t0 t1
    unfold f_X8_takes_b86
    refine s_iadd hG dX8_takes_86 ?_
    refine s_istore_n hG (lv' := [(1, vI (t0 + t1)), (0, vR 36), (2, vI x2)]) dX8_takes_87 (by decide) rfl ?_
    refine s_iinc hG (v := (x2 + (1 : Int32))) (lv' := [(2, vI (x2 + (1 : Int32))), (1, vI (t0 + t1)), (0, vR 36)]) dX8_takes_88 rfl rfl (by decide) rfl ?_
    refine s_goto hG (tgt := 4) dX8_takes_91 (by decide) ?_
    refine s_lv hG [2, 1, 0] rfl ?_
    exact hrec4 _ _ _
  have hb55 : ∀ (rec4 : HS × Int32 × Int32 → Option (HS × Int32)) (hrec4 : ∀ (S : HS) (x1 : Int32) (x2 : Int32), rec4 (S, x1, x2) = some out → G 0 0 S [(0, vR 36), (1, vI x1), (2, vI x2)] 4 []) (rec19 : HS × Int32 × Int32 × Int32 × Int32 → Option (HS × Int32)) (hrec19 : ∀ (S : HS) (x1 : Int32) (x2 : Int32) (x3 : Int32) (x4 : Int32), rec19 (S, x1, x2, x3, x4) = some out → G 0 0 S [(0, vR 36), (1, vI x1), (2, vI x2), (3, vI x3), (4, vI x4)] 19 []) (S : HS) (x1 : Int32) (x2 : Int32) (x4 : Int32) (t0 : Int32), f_X8_takes_b55  rec4 rec19 S x1 x2 x4 t0 = some out → G 0 0 S [(0, vR 36), (1, vI x1), (2, vI x2), (4, vI x4)] 55 [vI t0] := by
    intro rec4 hrec4 rec19 hrec19 S x1 x2 x4 t0
    unfold f_X8_takes_b55
    refine s_istore_n hG (lv' := [(3, vI t0), (0, vR 36), (1, vI x1), (2, vI x2), (4, vI x4)]) dX8_takes_55 (by decide) rfl ?_
    refine s_aload_n hG dX8_takes_56 rfl ?_
    refine s_getC hG dX8_takes_57 fl_RX8_59 (rfl) ?_
    refine s_iload hG dX8_takes_60 rfl ?_
    refine s_aload_n hG dX8_takes_62 rfl ?_
    refine s_getC hG dX8_takes_63 fl_RX8_68 (rfl) ?_
    refine s_iload hG dX8_takes_66 rfl ?_
    refine s_iaload hG dX8_takes_68 (rfl) ?_
    refine s_iastore hG dX8_takes_69 (rfl) ?_
    refine s_iinc hG (v := (x4 + (1 : Int32))) (lv' := [(4, vI (x4 + (1 : Int32))), (3, vI t0), (0, vR 36), (1, vI x1), (2, vI x2)]) dX8_takes_70 rfl rfl (by decide) rfl ?_
    refine s_goto hG (tgt := 19) dX8_takes_73 (by decide) ?_
    refine s_lv hG [2, 3, 4, 1, 0] rfl ?_
    exact hrec19 _ _ _ _ _
  have hb54 : ∀ (rec4 : HS × Int32 × Int32 → Option (HS × Int32)) (hrec4 : ∀ (S : HS) (x1 : Int32) (x2 : Int32), rec4 (S, x1, x2) = some out → G 0 0 S [(0, vR 36), (1, vI x1), (2, vI x2)] 4 []) (rec19 : HS × Int32 × Int32 × Int32 × Int32 → Option (HS × Int32)) (hrec19 : ∀ (S : HS) (x1 : Int32) (x2 : Int32) (x3 : Int32) (x4 : Int32), rec19 (S, x1, x2, x3, x4) = some out → G 0 0 S [(0, vR 36), (1, vI x1), (2, vI x2), (3, vI x3), (4, vI x4)] 19 []) (S : HS) (x1 : Int32) (x2 : Int32) (x4 : Int32), f_X8_takes_b54  rec4 rec19 S x1 x2 x4 = some out → G 0 0 S [(0, vR 36), (1, vI x1), (2, vI x2), (4, vI x4)] 54 [] := by
    intro rec4 hrec4 rec19 hrec19 S x1 x2 x4
    unfold f_X8_takes_b54
    refine s_iconst hG (v := (0 : Int32)) dX8_takes_54 (by decide) ?_
    exact hb55 _ hrec4 _ hrec19 _ _ _ _ _
  have hb19 : ∀ (rec4 : HS × Int32 × Int32 → Option (HS × Int32)) (hrec4 : ∀ (S : HS) (x1 : Int32) (x2 : Int32), rec4 (S, x1, x2) = some out → G 0 0 S [(0, vR 36), (1, vI x1), (2, vI x2)] 4 []) (S : HS) (x1 : Int32) (x2 : Int32) (x3 : Int32) (x4 : Int32), f_X8_takes_b19  rec4 S x1 x2 x3 x4 = some out → G 0 0 S [(0, vR 36), (1, vI x1), (2, vI x2), (3, vI x3), (4, vI x4)] 19 [] := by
    intro rec4 hrec4 S x1 x2 x3 x4
    unfold f_X8_takes_b19
    generalize FU = nf
    revert S x1 x2 x3 x4
    induction nf with
    | zero => intro S x1 x2 x3 x4 h9; cases h9
    | succ nf hrec19 =>
      intro S x1 x2 x3 x4
      show F_X8_takes_b19  rec4 (fx (F_X8_takes_b19  rec4) nf) (S, x1, x2, x3, x4) = some out → _
      generalize fx (F_X8_takes_b19  rec4) nf = rec19 at hrec19
      unfold F_X8_takes_b19
      dsimp only
      refine s_iload hG dX8_takes_19 rfl ?_
      refine s_iconst hG (v := (4 : Int32)) dX8_takes_21 (by decide) ?_
      refine s_iload_n hG dX8_takes_22 rfl ?_
      refine s_imul hG dX8_takes_23 ?_
      refine s_iconst hG (v := (4 : Int32)) dX8_takes_24 (by decide) ?_
      refine s_iadd hG dX8_takes_25 ?_
      refine s_icmp_ge hG (tgt := 76) dX8_takes_26 (by decide) ?_ ?_
      · refine s_iload_n hG dX8_takes_76 rfl ?_
        refine s_iload_n hG dX8_takes_77 rfl ?_
        refine s_if_eq hG (tgt := 85) dX8_takes_78 (by decide) ?_ ?_
        · refine s_iconst hG (v := (1 : Int32)) dX8_takes_85 (by decide) ?_
          refine s_lv hG [0, 2] rfl ?_
          exact hb86 _ hrec4 _ _ _ _
        · refine s_iconst hG (v := (0 : Int32)) dX8_takes_81 (by decide) ?_
          refine s_goto hG (tgt := 86) dX8_takes_82 (by decide) ?_
          refine s_lv hG [0, 2] rfl ?_
          exact hb86 _ hrec4 _ _ _ _
      · refine s_iload_n hG dX8_takes_29 rfl ?_
        refine s_if_eq hG (tgt := 54) dX8_takes_30 (by decide) ?_ ?_
        · refine s_lv hG [0, 1, 2, 4] rfl ?_
          exact hb54 _ hrec4 _ hrec19 _ _ _ _
        · refine s_aload_n hG dX8_takes_33 rfl ?_
          refine s_getC hG dX8_takes_34 fl_RX8_59 (rfl) ?_
          refine s_iload hG dX8_takes_37 rfl ?_
          refine s_iaload hG dX8_takes_39 (rfl) ?_
          refine s_aload_n hG dX8_takes_40 rfl ?_
          refine s_getC hG dX8_takes_41 fl_RX8_68 (rfl) ?_
          refine s_iload hG dX8_takes_44 rfl ?_
          refine s_iaload hG dX8_takes_46 (rfl) ?_
          refine s_icmp_ne hG (tgt := 54) dX8_takes_47 (by decide) ?_ ?_
          · refine s_lv hG [0, 1, 2, 4] rfl ?_
            exact hb54 _ hrec4 _ hrec19 _ _ _ _
          · refine s_iconst hG (v := (1 : Int32)) dX8_takes_50 (by decide) ?_
            refine s_goto hG (tgt := 55) dX8_takes_51 (by decide) ?_
            refine s_lv hG [0, 1, 2, 4] rfl ?_
            exact hb55 _ hrec4 _ hrec19 _ _ _ _ _
  have hb4 : ∀ (S : HS) (x1 : Int32) (x2 : Int32), f_X8_takes_b4  S x1 x2 = some out → G 0 0 S [(0, vR 36), (1, vI x1), (2, vI x2)] 4 [] := by
    intro  S x1 x2
    unfold f_X8_takes_b4
    generalize FU = nf
    revert S x1 x2
    induction nf with
    | zero => intro S x1 x2 h9; cases h9
    | succ nf hrec4 =>
      intro S x1 x2
      show F_X8_takes_b4  (fx (F_X8_takes_b4 ) nf) (S, x1, x2) = some out → _
      generalize fx (F_X8_takes_b4 ) nf = rec4 at hrec4
      unfold F_X8_takes_b4
      dsimp only
      refine s_iload_n hG dX8_takes_4 rfl ?_
      refine s_aload_n hG dX8_takes_5 rfl ?_
      refine s_getI hG dX8_takes_6 fl_RX8_88 (rfl) ?_
      refine s_icmp_ge hG (tgt := 94) dX8_takes_9 (by decide) ?_ ?_
      · refine s_aload_n hG dX8_takes_94 rfl ?_
        refine s_aload_n hG dX8_takes_95 rfl ?_
        refine s_getI hG dX8_takes_96 fl_RX8_139 (rfl) ?_
        refine s_putI hG dX8_takes_99 fl_RX8_142 fp_8_20 (rfl) ⟨rfl, rfl⟩ ?_
        refine s_aload_n hG dX8_takes_102 rfl ?_
        refine s_aload_n hG dX8_takes_103 rfl ?_
        refine s_getI hG dX8_takes_104 fl_RX8_115 (rfl) ?_
        refine s_putI hG dX8_takes_107 fl_RX8_145 fp_8_22 (rfl) ⟨rfl, rfl⟩ ?_
        refine s_iload_n hG dX8_takes_110 rfl ?_
        exact s_riC hR dX8_takes_111
      · refine s_iconst hG (v := (1 : Int32)) dX8_takes_12 (by decide) ?_
        refine s_istore_n hG (lv' := [(3, vI (1 : Int32)), (0, vR 36), (1, vI x1), (2, vI x2)]) dX8_takes_13 (by decide) rfl ?_
        refine s_iconst hG (v := (4 : Int32)) dX8_takes_14 (by decide) ?_
        refine s_iload_n hG dX8_takes_15 rfl ?_
        refine s_imul hG dX8_takes_16 ?_
        refine s_istore hG (lv' := [(4, vI ((4 : Int32) * x2)), (3, vI (1 : Int32)), (0, vR 36), (1, vI x1), (2, vI x2)]) dX8_takes_17 (by decide) rfl ?_
        refine s_lv hG [2, 3, 4, 1, 0] rfl ?_
        exact hb19 _ hrec4 _ _ _ _ _
  unfold f_X8_takes
  refine s_iconst hG (v := (0 : Int32)) dX8_takes_0 (by decide) ?_
  refine s_istore_n hG (lv' := [(1, vI (0 : Int32)), (0, vR 36)]) dX8_takes_1 (by decide) rfl ?_
  refine s_iconst hG (v := (0 : Int32)) dX8_takes_2 (by decide) ?_
  refine s_istore_n hG (lv' := [(2, vI (0 : Int32)), (1, vI (0 : Int32)), (0, vR 36)]) dX8_takes_3 (by decide) rfl ?_
  refine s_lv hG [2, 1, 0] rfl ?_
  exact hb4 _ _ _

def f_X8_doesAnew_b63  (rec14 : HS × Int32 × Int32 → Option (HS × Int32)) (S : HS) (x1 : Int32) (x2 : Int32) : Option (HS × Int32) :=
rec14 (S, x1, (x2 + (1 : Int32)))
def F_X8_doesAnew_b14   (rec14 : HS × Int32 × Int32 → Option (HS × Int32)) : HS × Int32 × Int32 → Option (HS × Int32) := fun q => match q with
  | (S, x1, x2) =>
    if (S.1 36 12) ≤ x2 then
    some (S, x1)
    else
    if ib x2 (60) = true then
    (f_X8_isOnWay x2 (sI S 51 x2.toNatClampNeg (vp_nar .boolean (0 : Int32)))).bind (fun o31 =>
    if o31 = 0 then
    f_X8_doesAnew_b63  rec14 (sI S 51 x2.toNatClampNeg (vp_nar .boolean (0 : Int32))) x1 x2
    else
    (f_X8_tries x2 (sI S 51 x2.toNatClampNeg (vp_nar .boolean (0 : Int32)))).bind (fun o39 =>
    if o39.2 = 0 then
    if ib x2 (60) = true then
    f_X8_doesAnew_b63  rec14 (sI o39.1 51 x2.toNatClampNeg (vp_nar .boolean (1 : Int32))) (x1 + (1 : Int32)) x2
    else none
    else
    (f_X8_takes o39.1).bind (fun o46 =>
    f_X8_doesAnew_b63  rec14 o46.1 x1 x2)))
    else none
def f_X8_doesAnew_b14   (S : HS) (x1 : Int32) (x2 : Int32) : Option (HS × Int32) := fx (F_X8_doesAnew_b14 ) FU (S, x1, x2)
def f_X8_doesAnew  (S : HS) : Option (HS × Int32) :=
f_X8_doesAnew_b14   (sI (sI S 36 20 (0 : Int32)) 36 22 (0 : Int32)) (0 : Int32) (0 : Int32)
def rm_X8_doesAnew : Room := { frames := 5, cells := 0, slots := 0, locals := 130 }
set_option maxRecDepth 100000 in
set_option maxHeartbeats 4000000 in
theorem c_X8_doesAnew (l : Launch)   (S : HS) (out : HS × Int32) (h : f_X8_doesAnew  S = some out) : Ct l yX8_doesAnew cX8_doesAnew 3 (some .int) rm_X8_doesAnew [vR 36] S (some (vI out.2)) out.1 := by
  refine Ct.intro (own := RX8) (lv := [(0, vR 36)]) (by decide +kernel) rfl ⟨rfl, rfl⟩ rfl (Nat.le_of_ble_eq_true rfl) ?_
  intro G hG hR
  revert h
  have hb63 : ∀ (rec14 : HS × Int32 × Int32 → Option (HS × Int32)) (hrec14 : ∀ (S : HS) (x1 : Int32) (x2 : Int32), rec14 (S, x1, x2) = some out → G 0 0 S [(0, vR 36), (1, vI x1), (2, vI x2)] 14 []) (S : HS) (x1 : Int32) (x2 : Int32), f_X8_doesAnew_b63  rec14 S x1 x2 = some out → G 0 0 S [(0, vR 36), (1, vI x1), (2, vI x2)] 63 [] := by
    intro rec14 hrec14 S x1 x2
    unfold f_X8_doesAnew_b63
    refine s_iinc hG (v := (x2 + (1 : Int32))) (lv' := [(2, vI (x2 + (1 : Int32))), (0, vR 36), (1, vI x1)]) dX8_doesAnew_63 rfl rfl (by decide) rfl ?_
    refine s_goto hG (tgt := 14) dX8_doesAnew_66 (by decide) ?_
    refine s_lv hG [1, 2, 0] rfl ?_
    exact hrec14 _ _ _
  have hb14 : ∀ (S : HS) (x1 : Int32) (x2 : Int32), f_X8_doesAnew_b14  S x1 x2 = some out → G 0 0 S [(0, vR 36), (1, vI x1), (2, vI x2)] 14 [] := by
    intro  S x1 x2
    unfold f_X8_doesAnew_b14
    generalize FU = nf
    revert S x1 x2
    induction nf with
    | zero => intro S x1 x2 h9; cases h9
    | succ nf hrec14 =>
      intro S x1 x2
      show F_X8_doesAnew_b14  (fx (F_X8_doesAnew_b14 ) nf) (S, x1, x2) = some out → _
      generalize fx (F_X8_doesAnew_b14 ) nf = rec14 at hrec14
      unfold F_X8_doesAnew_b14
      dsimp only
      refine s_iload_n hG dX8_doesAnew_14 rfl ?_
      refine s_aload_n hG dX8_doesAnew_15 rfl ?_
      refine s_getI hG dX8_doesAnew_16 fl_RX8_94 (rfl) ?_
      refine s_icmp_ge hG (tgt := 69) dX8_doesAnew_19 (by decide) ?_ ?_
      · refine s_iload_n hG dX8_doesAnew_69 rfl ?_
        exact s_riC hR dX8_doesAnew_70
      · refine s_aload_n hG dX8_doesAnew_22 rfl ?_
        refine s_getC hG dX8_doesAnew_23 fl_RX8_53 (rfl) ?_
        refine s_iload_n hG dX8_doesAnew_26 rfl ?_
        refine s_iconst hG (v := (0 : Int32)) dX8_doesAnew_27 (by decide) ?_
        refine s_bastore hG dX8_doesAnew_28 (rfl) ?_
        refine s_aload_n hG dX8_doesAnew_29 rfl ?_
        refine s_iload_n hG dX8_doesAnew_30 rfl ?_
        refine s_cvP hG (as := [vI x2]) (st := []) (rm := rm_X8_isOnWay) dX8_doesAnew_31 ml_RX8_156 (rfl) (tb22 (mem_i 20 rfl)) rfl ⟨rfl, rfl⟩ ⟨by decide, by decide⟩ (Nat.le_of_ble_eq_true rfl) ⟨Nat.zero_le _, Nat.zero_le _⟩ rfl (fun o h => c_X8_isOnWay l _ _ o h) (fun o31 => ?_)
        refine s_if_eq hG (tgt := 63) dX8_doesAnew_34 (by decide) ?_ ?_
        · exact hb63 _ hrec14 _ _ _
        · refine s_aload_n hG dX8_doesAnew_37 rfl ?_
          refine s_iload_n hG dX8_doesAnew_38 rfl ?_
          refine s_cvI hG (as := [vI x2]) (st := []) (rm := rm_X8_tries) dX8_doesAnew_39 ml_RX8_159 (rfl) (tb19 (mem_i 29 rfl)) rfl ⟨rfl, rfl⟩ ⟨by decide, by decide⟩ (Nat.le_of_ble_eq_true rfl) ⟨Nat.zero_le _, Nat.zero_le _⟩ rfl (fun o h => c_X8_tries l _ _ o h) (fun o39 => ?_)
          refine s_if_eq hG (tgt := 53) dX8_doesAnew_42 (by decide) ?_ ?_
          · refine s_aload_n hG dX8_doesAnew_53 rfl ?_
            refine s_getC hG dX8_doesAnew_54 fl_RX8_53 (rfl) ?_
            refine s_iload_n hG dX8_doesAnew_57 rfl ?_
            refine s_iconst hG (v := (1 : Int32)) dX8_doesAnew_58 (by decide) ?_
            refine s_bastore hG dX8_doesAnew_59 (rfl) ?_
            refine s_iinc hG (v := (x1 + (1 : Int32))) (lv' := [(1, vI (x1 + (1 : Int32))), (0, vR 36), (2, vI x2)]) dX8_doesAnew_60 rfl rfl (by decide) rfl ?_
            refine s_lv hG [1, 0, 2] rfl ?_
            exact hb63 _ hrec14 _ _ _
          · refine s_aload_n hG dX8_doesAnew_45 rfl ?_
            refine s_cvI hG (as := []) (st := []) (rm := rm_X8_takes) dX8_doesAnew_46 ml_RX8_162 (rfl) (tb21 (mem_i 5 rfl)) rfl ⟨rfl, rfl⟩ ⟨by decide, by decide⟩ (Nat.le_of_ble_eq_true rfl) ⟨Nat.zero_le _, Nat.zero_le _⟩ rfl (fun o h => c_X8_takes l  _ o h) (fun o46 => ?_)
            refine s_pop hG dX8_doesAnew_49 rfl ?_
            refine s_goto hG (tgt := 63) dX8_doesAnew_50 (by decide) ?_
            exact hb63 _ hrec14 _ _ _
  unfold f_X8_doesAnew
  refine s_iconst hG (v := (0 : Int32)) dX8_doesAnew_0 (by decide) ?_
  refine s_istore_n hG (lv' := [(1, vI (0 : Int32)), (0, vR 36)]) dX8_doesAnew_1 (by decide) rfl ?_
  refine s_aload_n hG dX8_doesAnew_2 rfl ?_
  refine s_iconst hG (v := (0 : Int32)) dX8_doesAnew_3 (by decide) ?_
  refine s_putI hG dX8_doesAnew_4 fl_RX8_142 fp_8_20 (rfl) ⟨rfl, rfl⟩ ?_
  refine s_aload_n hG dX8_doesAnew_7 rfl ?_
  refine s_iconst hG (v := (0 : Int32)) dX8_doesAnew_8 (by decide) ?_
  refine s_putI hG dX8_doesAnew_9 fl_RX8_145 fp_8_22 (rfl) ⟨rfl, rfl⟩ ?_
  refine s_iconst hG (v := (0 : Int32)) dX8_doesAnew_12 (by decide) ?_
  refine s_istore_n hG (lv' := [(2, vI (0 : Int32)), (1, vI (0 : Int32)), (0, vR 36)]) dX8_doesAnew_13 (by decide) rfl ?_
  refine s_lv hG [2, 1, 0] rfl ?_
  exact hb14 _ _ _

def f_X8_makes  (S : HS) : Option (HS × Int32) :=
if ib (S.1 36 12) (60) = true then
if ib (S.1 46 (S.1 36 12).toNatClampNeg) (4) = true then
if ib (S.1 36 12) (60) = true then
if ib ((sI S 47 (S.1 36 12).toNatClampNeg (S.1 52 (S.1 46 (S.1 36 12).toNatClampNeg).toNatClampNeg)).1 36 12) (60) = true then
if ib (S.1 46 (S.1 36 12).toNatClampNeg) (4) = true then
(f_X8_takes (sI (sI (sI (sI S 47 (S.1 36 12).toNatClampNeg (S.1 52 (S.1 46 (S.1 36 12).toNatClampNeg).toNatClampNeg)) 51 ((sI S 47 (S.1 36 12).toNatClampNeg (S.1 52 (S.1 46 (S.1 36 12).toNatClampNeg).toNatClampNeg)).1 36 12).toNatClampNeg (vp_nar .boolean (0 : Int32))) 52 (S.1 46 (S.1 36 12).toNatClampNeg).toNatClampNeg ((sI (sI S 47 (S.1 36 12).toNatClampNeg (S.1 52 (S.1 46 (S.1 36 12).toNatClampNeg).toNatClampNeg)) 51 ((sI S 47 (S.1 36 12).toNatClampNeg (S.1 52 (S.1 46 (S.1 36 12).toNatClampNeg).toNatClampNeg)).1 36 12).toNatClampNeg (vp_nar .boolean (0 : Int32))).1 36 12)) 36 12 (((sI (sI (sI S 47 (S.1 36 12).toNatClampNeg (S.1 52 (S.1 46 (S.1 36 12).toNatClampNeg).toNatClampNeg)) 51 ((sI S 47 (S.1 36 12).toNatClampNeg (S.1 52 (S.1 46 (S.1 36 12).toNatClampNeg).toNatClampNeg)).1 36 12).toNatClampNeg (vp_nar .boolean (0 : Int32))) 52 (S.1 46 (S.1 36 12).toNatClampNeg).toNatClampNeg ((sI (sI S 47 (S.1 36 12).toNatClampNeg (S.1 52 (S.1 46 (S.1 36 12).toNatClampNeg).toNatClampNeg)) 51 ((sI S 47 (S.1 36 12).toNatClampNeg (S.1 52 (S.1 46 (S.1 36 12).toNatClampNeg).toNatClampNeg)).1 36 12).toNatClampNeg (vp_nar .boolean (0 : Int32))).1 36 12)).1 36 12) + (1 : Int32)))).bind (fun o56 =>
some (o56.1, o56.2))
else none
else none
else none
else none
else none
def rm_X8_makes : Room := { frames := 1, cells := 0, slots := 0, locals := 24 }
set_option maxRecDepth 100000 in
set_option maxHeartbeats 4000000 in
theorem c_X8_makes (l : Launch)   (S : HS) (out : HS × Int32) (h : f_X8_makes  S = some out) : Ct l yX8_makes cX8_makes 2 (some .int) rm_X8_makes [vR 36] S (some (vI out.2)) out.1 := by
  refine Ct.intro (own := RX8) (lv := [(0, vR 36)]) (by decide +kernel) rfl ⟨rfl, rfl⟩ rfl (Nat.le_of_ble_eq_true rfl) ?_
  intro G hG hR
  revert h
  unfold f_X8_makes
  refine s_aload_n hG dX8_makes_0 rfl ?_
  refine s_getC hG dX8_makes_1 fl_RX8_38 (rfl) ?_
  refine s_aload_n hG dX8_makes_4 rfl ?_
  refine s_getI hG dX8_makes_5 fl_RX8_94 (rfl) ?_
  refine s_iaload hG dX8_makes_8 (rfl) ?_
  refine s_istore_n hG (lv' := [(1, vI (S.1 46 (S.1 36 12).toNatClampNeg)), (0, vR 36)]) dX8_makes_9 (by decide) rfl ?_
  refine s_aload_n hG dX8_makes_10 rfl ?_
  refine s_getC hG dX8_makes_11 fl_RX8_41 (rfl) ?_
  refine s_aload_n hG dX8_makes_14 rfl ?_
  refine s_getI hG dX8_makes_15 fl_RX8_94 (rfl) ?_
  refine s_aload_n hG dX8_makes_18 rfl ?_
  refine s_getC hG dX8_makes_19 fl_RX8_56 (rfl) ?_
  refine s_iload_n hG dX8_makes_22 rfl ?_
  refine s_iaload hG dX8_makes_23 (rfl) ?_
  refine s_iastore hG dX8_makes_24 (rfl) ?_
  refine s_aload_n hG dX8_makes_25 rfl ?_
  refine s_getC hG dX8_makes_26 fl_RX8_53 (rfl) ?_
  refine s_aload_n hG dX8_makes_29 rfl ?_
  refine s_getI hG dX8_makes_30 fl_RX8_94 (rfl) ?_
  refine s_iconst hG (v := (0 : Int32)) dX8_makes_33 (by decide) ?_
  refine s_bastore hG dX8_makes_34 (rfl) ?_
  refine s_aload_n hG dX8_makes_35 rfl ?_
  refine s_getC hG dX8_makes_36 fl_RX8_56 (rfl) ?_
  refine s_iload_n hG dX8_makes_39 rfl ?_
  refine s_aload_n hG dX8_makes_40 rfl ?_
  refine s_getI hG dX8_makes_41 fl_RX8_94 (rfl) ?_
  refine s_iastore hG dX8_makes_44 (rfl) ?_
  refine s_aload_n hG dX8_makes_45 rfl ?_
  refine s_dup hG dX8_makes_46 rfl ?_
  refine s_getI hG dX8_makes_47 fl_RX8_94 (rfl) ?_
  refine s_iconst hG (v := (1 : Int32)) dX8_makes_50 (by decide) ?_
  refine s_iadd hG dX8_makes_51 ?_
  refine s_putI hG dX8_makes_52 fl_RX8_94 fp_8_12 (rfl) ⟨rfl, rfl⟩ ?_
  refine s_aload_n hG dX8_makes_55 rfl ?_
  refine s_cvI hG (as := []) (st := []) (rm := rm_X8_takes) dX8_makes_56 ml_RX8_162 (rfl) (tb21 (mem_i 5 rfl)) rfl ⟨rfl, rfl⟩ ⟨by decide, by decide⟩ (Nat.le_of_ble_eq_true rfl) ⟨Nat.zero_le _, Nat.zero_le _⟩ rfl (fun o h => c_X8_takes l  _ o h) (fun o56 => ?_)
  exact s_riC hR dX8_makes_59

def f_X8_writes (p1 : Int32) (p2 : Int32) (p3 : Int32) (p4 : Int32) (p5 : Int32) (p6 : Int32) (p7 : Int32) (S : HS) : Option (HS) :=
if ib (S.1 36 12) (60) = true then
if ib ((sI S 46 (S.1 36 12).toNatClampNeg p1).1 36 12) (60) = true then
if ib ((sI (sI S 46 (S.1 36 12).toNatClampNeg p1) 48 ((sI S 46 (S.1 36 12).toNatClampNeg p1).1 36 12).toNatClampNeg p2).1 36 12) (60) = true then
if ib ((4 : Int32) * ((sI (sI (sI S 46 (S.1 36 12).toNatClampNeg p1) 48 ((sI S 46 (S.1 36 12).toNatClampNeg p1).1 36 12).toNatClampNeg p2) 49 ((sI (sI S 46 (S.1 36 12).toNatClampNeg p1) 48 ((sI S 46 (S.1 36 12).toNatClampNeg p1).1 36 12).toNatClampNeg p2).1 36 12).toNatClampNeg p3).1 36 12)) (240) = true then
if ib (((4 : Int32) * ((sI (sI (sI (sI S 46 (S.1 36 12).toNatClampNeg p1) 48 ((sI S 46 (S.1 36 12).toNatClampNeg p1).1 36 12).toNatClampNeg p2) 49 ((sI (sI S 46 (S.1 36 12).toNatClampNeg p1) 48 ((sI S 46 (S.1 36 12).toNatClampNeg p1).1 36 12).toNatClampNeg p2).1 36 12).toNatClampNeg p3) 50 ((4 : Int32) * ((sI (sI (sI S 46 (S.1 36 12).toNatClampNeg p1) 48 ((sI S 46 (S.1 36 12).toNatClampNeg p1).1 36 12).toNatClampNeg p2) 49 ((sI (sI S 46 (S.1 36 12).toNatClampNeg p1) 48 ((sI S 46 (S.1 36 12).toNatClampNeg p1).1 36 12).toNatClampNeg p2).1 36 12).toNatClampNeg p3).1 36 12)).toNatClampNeg p4).1 36 12)) + (1 : Int32)) (240) = true then
if ib (((4 : Int32) * ((sI (sI (sI (sI (sI S 46 (S.1 36 12).toNatClampNeg p1) 48 ((sI S 46 (S.1 36 12).toNatClampNeg p1).1 36 12).toNatClampNeg p2) 49 ((sI (sI S 46 (S.1 36 12).toNatClampNeg p1) 48 ((sI S 46 (S.1 36 12).toNatClampNeg p1).1 36 12).toNatClampNeg p2).1 36 12).toNatClampNeg p3) 50 ((4 : Int32) * ((sI (sI (sI S 46 (S.1 36 12).toNatClampNeg p1) 48 ((sI S 46 (S.1 36 12).toNatClampNeg p1).1 36 12).toNatClampNeg p2) 49 ((sI (sI S 46 (S.1 36 12).toNatClampNeg p1) 48 ((sI S 46 (S.1 36 12).toNatClampNeg p1).1 36 12).toNatClampNeg p2).1 36 12).toNatClampNeg p3).1 36 12)).toNatClampNeg p4) 50 (((4 : Int32) * ((sI (sI (sI (sI S 46 (S.1 36 12).toNatClampNeg p1) 48 ((sI S 46 (S.1 36 12).toNatClampNeg p1).1 36 12).toNatClampNeg p2) 49 ((sI (sI S 46 (S.1 36 12).toNatClampNeg p1) 48 ((sI S 46 (S.1 36 12).toNatClampNeg p1).1 36 12).toNatClampNeg p2).1 36 12).toNatClampNeg p3) 50 ((4 : Int32) * ((sI (sI (sI S 46 (S.1 36 12).toNatClampNeg p1) 48 ((sI S 46 (S.1 36 12).toNatClampNeg p1).1 36 12).toNatClampNeg p2) 49 ((sI (sI S 46 (S.1 36 12).toNatClampNeg p1) 48 ((sI S 46 (S.1 36 12).toNatClampNeg p1).1 36 12).toNatClampNeg p2).1 36 12).toNatClampNeg p3).1 36 12)).toNatClampNeg p4).1 36 12)) + (1 : Int32)).toNatClampNeg p5).1 36 12)) + (2 : Int32)) (240) = true then
if ib (((4 : Int32) * ((sI (sI (sI (sI (sI (sI S 46 (S.1 36 12).toNatClampNeg p1) 48 ((sI S 46 (S.1 36 12).toNatClampNeg p1).1 36 12).toNatClampNeg p2) 49 ((sI (sI S 46 (S.1 36 12).toNatClampNeg p1) 48 ((sI S 46 (S.1 36 12).toNatClampNeg p1).1 36 12).toNatClampNeg p2).1 36 12).toNatClampNeg p3) 50 ((4 : Int32) * ((sI (sI (sI S 46 (S.1 36 12).toNatClampNeg p1) 48 ((sI S 46 (S.1 36 12).toNatClampNeg p1).1 36 12).toNatClampNeg p2) 49 ((sI (sI S 46 (S.1 36 12).toNatClampNeg p1) 48 ((sI S 46 (S.1 36 12).toNatClampNeg p1).1 36 12).toNatClampNeg p2).1 36 12).toNatClampNeg p3).1 36 12)).toNatClampNeg p4) 50 (((4 : Int32) * ((sI (sI (sI (sI S 46 (S.1 36 12).toNatClampNeg p1) 48 ((sI S 46 (S.1 36 12).toNatClampNeg p1).1 36 12).toNatClampNeg p2) 49 ((sI (sI S 46 (S.1 36 12).toNatClampNeg p1) 48 ((sI S 46 (S.1 36 12).toNatClampNeg p1).1 36 12).toNatClampNeg p2).1 36 12).toNatClampNeg p3) 50 ((4 : Int32) * ((sI (sI (sI S 46 (S.1 36 12).toNatClampNeg p1) 48 ((sI S 46 (S.1 36 12).toNatClampNeg p1).1 36 12).toNatClampNeg p2) 49 ((sI (sI S 46 (S.1 36 12).toNatClampNeg p1) 48 ((sI S 46 (S.1 36 12).toNatClampNeg p1).1 36 12).toNatClampNeg p2).1 36 12).toNatClampNeg p3).1 36 12)).toNatClampNeg p4).1 36 12)) + (1 : Int32)).toNatClampNeg p5) 50 (((4 : Int32) * ((sI (sI (sI (sI (sI S 46 (S.1 36 12).toNatClampNeg p1) 48 ((sI S 46 (S.1 36 12).toNatClampNeg p1).1 36 12).toNatClampNeg p2) 49 ((sI (sI S 46 (S.1 36 12).toNatClampNeg p1) 48 ((sI S 46 (S.1 36 12).toNatClampNeg p1).1 36 12).toNatClampNeg p2).1 36 12).toNatClampNeg p3) 50 ((4 : Int32) * ((sI (sI (sI S 46 (S.1 36 12).toNatClampNeg p1) 48 ((sI S 46 (S.1 36 12).toNatClampNeg p1).1 36 12).toNatClampNeg p2) 49 ((sI (sI S 46 (S.1 36 12).toNatClampNeg p1) 48 ((sI S 46 (S.1 36 12).toNatClampNeg p1).1 36 12).toNatClampNeg p2).1 36 12).toNatClampNeg p3).1 36 12)).toNatClampNeg p4) 50 (((4 : Int32) * ((sI (sI (sI (sI S 46 (S.1 36 12).toNatClampNeg p1) 48 ((sI S 46 (S.1 36 12).toNatClampNeg p1).1 36 12).toNatClampNeg p2) 49 ((sI (sI S 46 (S.1 36 12).toNatClampNeg p1) 48 ((sI S 46 (S.1 36 12).toNatClampNeg p1).1 36 12).toNatClampNeg p2).1 36 12).toNatClampNeg p3) 50 ((4 : Int32) * ((sI (sI (sI S 46 (S.1 36 12).toNatClampNeg p1) 48 ((sI S 46 (S.1 36 12).toNatClampNeg p1).1 36 12).toNatClampNeg p2) 49 ((sI (sI S 46 (S.1 36 12).toNatClampNeg p1) 48 ((sI S 46 (S.1 36 12).toNatClampNeg p1).1 36 12).toNatClampNeg p2).1 36 12).toNatClampNeg p3).1 36 12)).toNatClampNeg p4).1 36 12)) + (1 : Int32)).toNatClampNeg p5).1 36 12)) + (2 : Int32)).toNatClampNeg p6).1 36 12)) + (3 : Int32)) (240) = true then
some (sI (sI (sI (sI (sI (sI (sI S 46 (S.1 36 12).toNatClampNeg p1) 48 ((sI S 46 (S.1 36 12).toNatClampNeg p1).1 36 12).toNatClampNeg p2) 49 ((sI (sI S 46 (S.1 36 12).toNatClampNeg p1) 48 ((sI S 46 (S.1 36 12).toNatClampNeg p1).1 36 12).toNatClampNeg p2).1 36 12).toNatClampNeg p3) 50 ((4 : Int32) * ((sI (sI (sI S 46 (S.1 36 12).toNatClampNeg p1) 48 ((sI S 46 (S.1 36 12).toNatClampNeg p1).1 36 12).toNatClampNeg p2) 49 ((sI (sI S 46 (S.1 36 12).toNatClampNeg p1) 48 ((sI S 46 (S.1 36 12).toNatClampNeg p1).1 36 12).toNatClampNeg p2).1 36 12).toNatClampNeg p3).1 36 12)).toNatClampNeg p4) 50 (((4 : Int32) * ((sI (sI (sI (sI S 46 (S.1 36 12).toNatClampNeg p1) 48 ((sI S 46 (S.1 36 12).toNatClampNeg p1).1 36 12).toNatClampNeg p2) 49 ((sI (sI S 46 (S.1 36 12).toNatClampNeg p1) 48 ((sI S 46 (S.1 36 12).toNatClampNeg p1).1 36 12).toNatClampNeg p2).1 36 12).toNatClampNeg p3) 50 ((4 : Int32) * ((sI (sI (sI S 46 (S.1 36 12).toNatClampNeg p1) 48 ((sI S 46 (S.1 36 12).toNatClampNeg p1).1 36 12).toNatClampNeg p2) 49 ((sI (sI S 46 (S.1 36 12).toNatClampNeg p1) 48 ((sI S 46 (S.1 36 12).toNatClampNeg p1).1 36 12).toNatClampNeg p2).1 36 12).toNatClampNeg p3).1 36 12)).toNatClampNeg p4).1 36 12)) + (1 : Int32)).toNatClampNeg p5) 50 (((4 : Int32) * ((sI (sI (sI (sI (sI S 46 (S.1 36 12).toNatClampNeg p1) 48 ((sI S 46 (S.1 36 12).toNatClampNeg p1).1 36 12).toNatClampNeg p2) 49 ((sI (sI S 46 (S.1 36 12).toNatClampNeg p1) 48 ((sI S 46 (S.1 36 12).toNatClampNeg p1).1 36 12).toNatClampNeg p2).1 36 12).toNatClampNeg p3) 50 ((4 : Int32) * ((sI (sI (sI S 46 (S.1 36 12).toNatClampNeg p1) 48 ((sI S 46 (S.1 36 12).toNatClampNeg p1).1 36 12).toNatClampNeg p2) 49 ((sI (sI S 46 (S.1 36 12).toNatClampNeg p1) 48 ((sI S 46 (S.1 36 12).toNatClampNeg p1).1 36 12).toNatClampNeg p2).1 36 12).toNatClampNeg p3).1 36 12)).toNatClampNeg p4) 50 (((4 : Int32) * ((sI (sI (sI (sI S 46 (S.1 36 12).toNatClampNeg p1) 48 ((sI S 46 (S.1 36 12).toNatClampNeg p1).1 36 12).toNatClampNeg p2) 49 ((sI (sI S 46 (S.1 36 12).toNatClampNeg p1) 48 ((sI S 46 (S.1 36 12).toNatClampNeg p1).1 36 12).toNatClampNeg p2).1 36 12).toNatClampNeg p3) 50 ((4 : Int32) * ((sI (sI (sI S 46 (S.1 36 12).toNatClampNeg p1) 48 ((sI S 46 (S.1 36 12).toNatClampNeg p1).1 36 12).toNatClampNeg p2) 49 ((sI (sI S 46 (S.1 36 12).toNatClampNeg p1) 48 ((sI S 46 (S.1 36 12).toNatClampNeg p1).1 36 12).toNatClampNeg p2).1 36 12).toNatClampNeg p3).1 36 12)).toNatClampNeg p4).1 36 12)) + (1 : Int32)).toNatClampNeg p5).1 36 12)) + (2 : Int32)).toNatClampNeg p6) 50 (((4 : Int32) * ((sI (sI (sI (sI (sI (sI S 46 (S.1 36 12).toNatClampNeg p1) 48 ((sI S 46 (S.1 36 12).toNatClampNeg p1).1 36 12).toNatClampNeg p2) 49 ((sI (sI S 46 (S.1 36 12).toNatClampNeg p1) 48 ((sI S 46 (S.1 36 12).toNatClampNeg p1).1 36 12).toNatClampNeg p2).1 36 12).toNatClampNeg p3) 50 ((4 : Int32) * ((sI (sI (sI S 46 (S.1 36 12).toNatClampNeg p1) 48 ((sI S 46 (S.1 36 12).toNatClampNeg p1).1 36 12).toNatClampNeg p2) 49 ((sI (sI S 46 (S.1 36 12).toNatClampNeg p1) 48 ((sI S 46 (S.1 36 12).toNatClampNeg p1).1 36 12).toNatClampNeg p2).1 36 12).toNatClampNeg p3).1 36 12)).toNatClampNeg p4) 50 (((4 : Int32) * ((sI (sI (sI (sI S 46 (S.1 36 12).toNatClampNeg p1) 48 ((sI S 46 (S.1 36 12).toNatClampNeg p1).1 36 12).toNatClampNeg p2) 49 ((sI (sI S 46 (S.1 36 12).toNatClampNeg p1) 48 ((sI S 46 (S.1 36 12).toNatClampNeg p1).1 36 12).toNatClampNeg p2).1 36 12).toNatClampNeg p3) 50 ((4 : Int32) * ((sI (sI (sI S 46 (S.1 36 12).toNatClampNeg p1) 48 ((sI S 46 (S.1 36 12).toNatClampNeg p1).1 36 12).toNatClampNeg p2) 49 ((sI (sI S 46 (S.1 36 12).toNatClampNeg p1) 48 ((sI S 46 (S.1 36 12).toNatClampNeg p1).1 36 12).toNatClampNeg p2).1 36 12).toNatClampNeg p3).1 36 12)).toNatClampNeg p4).1 36 12)) + (1 : Int32)).toNatClampNeg p5) 50 (((4 : Int32) * ((sI (sI (sI (sI (sI S 46 (S.1 36 12).toNatClampNeg p1) 48 ((sI S 46 (S.1 36 12).toNatClampNeg p1).1 36 12).toNatClampNeg p2) 49 ((sI (sI S 46 (S.1 36 12).toNatClampNeg p1) 48 ((sI S 46 (S.1 36 12).toNatClampNeg p1).1 36 12).toNatClampNeg p2).1 36 12).toNatClampNeg p3) 50 ((4 : Int32) * ((sI (sI (sI S 46 (S.1 36 12).toNatClampNeg p1) 48 ((sI S 46 (S.1 36 12).toNatClampNeg p1).1 36 12).toNatClampNeg p2) 49 ((sI (sI S 46 (S.1 36 12).toNatClampNeg p1) 48 ((sI S 46 (S.1 36 12).toNatClampNeg p1).1 36 12).toNatClampNeg p2).1 36 12).toNatClampNeg p3).1 36 12)).toNatClampNeg p4) 50 (((4 : Int32) * ((sI (sI (sI (sI S 46 (S.1 36 12).toNatClampNeg p1) 48 ((sI S 46 (S.1 36 12).toNatClampNeg p1).1 36 12).toNatClampNeg p2) 49 ((sI (sI S 46 (S.1 36 12).toNatClampNeg p1) 48 ((sI S 46 (S.1 36 12).toNatClampNeg p1).1 36 12).toNatClampNeg p2).1 36 12).toNatClampNeg p3) 50 ((4 : Int32) * ((sI (sI (sI S 46 (S.1 36 12).toNatClampNeg p1) 48 ((sI S 46 (S.1 36 12).toNatClampNeg p1).1 36 12).toNatClampNeg p2) 49 ((sI (sI S 46 (S.1 36 12).toNatClampNeg p1) 48 ((sI S 46 (S.1 36 12).toNatClampNeg p1).1 36 12).toNatClampNeg p2).1 36 12).toNatClampNeg p3).1 36 12)).toNatClampNeg p4).1 36 12)) + (1 : Int32)).toNatClampNeg p5).1 36 12)) + (2 : Int32)).toNatClampNeg p6).1 36 12)) + (3 : Int32)).toNatClampNeg p7)
else none
else none
else none
else none
else none
else none
else none
def rm_X8_writes : Room := { frames := 0, cells := 0, slots := 0, locals := 0 }
set_option maxRecDepth 100000 in
set_option maxHeartbeats 4000000 in
theorem c_X8_writes (l : Launch) (p1 : Int32) (p2 : Int32) (p3 : Int32) (p4 : Int32) (p5 : Int32) (p6 : Int32) (p7 : Int32)  (S : HS) (out : HS) (h : f_X8_writes p1 p2 p3 p4 p5 p6 p7 S = some out) : Ct l yX8_writes cX8_writes 8 none rm_X8_writes [vR 36, vI p1, vI p2, vI p3, vI p4, vI p5, vI p6, vI p7] S none out := by
  refine Ct.intro (own := RX8) (lv := [(0, vR 36), (1, vI p1), (2, vI p2), (3, vI p3), (4, vI p4), (5, vI p5), (6, vI p6), (7, vI p7)]) (by decide +kernel) rfl ⟨rfl, rfl⟩ rfl (Nat.le_of_ble_eq_true rfl) ?_
  intro G hG hR
  revert h
  unfold f_X8_writes
  refine s_aload_n hG dX8_writes_0 rfl ?_
  refine s_getC hG dX8_writes_1 fl_RX8_38 (rfl) ?_
  refine s_aload_n hG dX8_writes_4 rfl ?_
  refine s_getI hG dX8_writes_5 fl_RX8_94 (rfl) ?_
  refine s_iload_n hG dX8_writes_8 rfl ?_
  refine s_iastore hG dX8_writes_9 (rfl) ?_
  refine s_aload_n hG dX8_writes_10 rfl ?_
  refine s_getC hG dX8_writes_11 fl_RX8_44 (rfl) ?_
  refine s_aload_n hG dX8_writes_14 rfl ?_
  refine s_getI hG dX8_writes_15 fl_RX8_94 (rfl) ?_
  refine s_iload_n hG dX8_writes_18 rfl ?_
  refine s_iastore hG dX8_writes_19 (rfl) ?_
  refine s_aload_n hG dX8_writes_20 rfl ?_
  refine s_getC hG dX8_writes_21 fl_RX8_47 (rfl) ?_
  refine s_aload_n hG dX8_writes_24 rfl ?_
  refine s_getI hG dX8_writes_25 fl_RX8_94 (rfl) ?_
  refine s_iload_n hG dX8_writes_28 rfl ?_
  refine s_iastore hG dX8_writes_29 (rfl) ?_
  refine s_aload_n hG dX8_writes_30 rfl ?_
  refine s_getC hG dX8_writes_31 fl_RX8_50 (rfl) ?_
  refine s_iconst hG (v := (4 : Int32)) dX8_writes_34 (by decide) ?_
  refine s_aload_n hG dX8_writes_35 rfl ?_
  refine s_getI hG dX8_writes_36 fl_RX8_94 (rfl) ?_
  refine s_imul hG dX8_writes_39 ?_
  refine s_iload hG dX8_writes_40 rfl ?_
  refine s_iastore hG dX8_writes_42 (rfl) ?_
  refine s_aload_n hG dX8_writes_43 rfl ?_
  refine s_getC hG dX8_writes_44 fl_RX8_50 (rfl) ?_
  refine s_iconst hG (v := (4 : Int32)) dX8_writes_47 (by decide) ?_
  refine s_aload_n hG dX8_writes_48 rfl ?_
  refine s_getI hG dX8_writes_49 fl_RX8_94 (rfl) ?_
  refine s_imul hG dX8_writes_52 ?_
  refine s_iconst hG (v := (1 : Int32)) dX8_writes_53 (by decide) ?_
  refine s_iadd hG dX8_writes_54 ?_
  refine s_iload hG dX8_writes_55 rfl ?_
  refine s_iastore hG dX8_writes_57 (rfl) ?_
  refine s_aload_n hG dX8_writes_58 rfl ?_
  refine s_getC hG dX8_writes_59 fl_RX8_50 (rfl) ?_
  refine s_iconst hG (v := (4 : Int32)) dX8_writes_62 (by decide) ?_
  refine s_aload_n hG dX8_writes_63 rfl ?_
  refine s_getI hG dX8_writes_64 fl_RX8_94 (rfl) ?_
  refine s_imul hG dX8_writes_67 ?_
  refine s_iconst hG (v := (2 : Int32)) dX8_writes_68 (by decide) ?_
  refine s_iadd hG dX8_writes_69 ?_
  refine s_iload hG dX8_writes_70 rfl ?_
  refine s_iastore hG dX8_writes_72 (rfl) ?_
  refine s_aload_n hG dX8_writes_73 rfl ?_
  refine s_getC hG dX8_writes_74 fl_RX8_50 (rfl) ?_
  refine s_iconst hG (v := (4 : Int32)) dX8_writes_77 (by decide) ?_
  refine s_aload_n hG dX8_writes_78 rfl ?_
  refine s_getI hG dX8_writes_79 fl_RX8_94 (rfl) ?_
  refine s_imul hG dX8_writes_82 ?_
  refine s_iconst hG (v := (3 : Int32)) dX8_writes_83 (by decide) ?_
  refine s_iadd hG dX8_writes_84 ?_
  refine s_iload hG dX8_writes_85 rfl ?_
  refine s_iastore hG dX8_writes_87 (rfl) ?_
  exact s_rvC hR dX8_writes_88

def f_X8_canMake_b25   (S : HS) (t0 : Int32) : Option (HS × Int32) :=
if nz t0 = true then some (S, t0) else none
def f_X8_canMake_b24   (S : HS)  : Option (HS × Int32) :=
f_X8_canMake_b25   S (0 : Int32)
def f_X8_canMake  (S : HS) : Option (HS × Int32) :=
if (60 : Int32) ≤ (S.1 36 12) then
f_X8_canMake_b24   S
else
(f_X8_tries (S.1 36 12) S).bind (fun o14 =>
if o14.2 = 0 then
f_X8_canMake_b24   o14.1
else
f_X8_canMake_b25   o14.1 (1 : Int32))
def rm_X8_canMake : Room := { frames := 5, cells := 0, slots := 0, locals := 130 }
set_option maxRecDepth 100000 in
set_option maxHeartbeats 4000000 in
theorem c_X8_canMake (l : Launch)   (S : HS) (out : HS × Int32) (h : f_X8_canMake  S = some out) : Ct l yX8_canMake cX8_canMake 1 (some .boolean) rm_X8_canMake [vR 36] S (some (vI out.2)) out.1 := by
  refine Ct.intro (own := RX8) (lv := [(0, vR 36)]) (by decide +kernel) rfl ⟨rfl, rfl⟩ rfl (Nat.le_of_ble_eq_true rfl) ?_
  intro G hG hR
  revert h
  have hb25 : ∀ (S : HS) (t0 : Int32), f_X8_canMake_b25  S t0 = some out → G 0 0 S [] 25 [vI t0] := by
    intro S t0
    unfold f_X8_canMake_b25
    exact s_rzC hR dX8_canMake_25
  have hb24 : ∀ (S : HS), f_X8_canMake_b24  S  = some out → G 0 0 S [] 24 [] := by
    intro S
    unfold f_X8_canMake_b24
    refine s_iconst hG (v := (0 : Int32)) dX8_canMake_24 (by decide) ?_
    exact hb25 _ _
  unfold f_X8_canMake
  refine s_aload_n hG dX8_canMake_0 rfl ?_
  refine s_getI hG dX8_canMake_1 fl_RX8_94 (rfl) ?_
  refine s_bipush hG (v := (60 : Int32)) dX8_canMake_4 (by decide) ?_
  refine s_icmp_ge hG (tgt := 24) dX8_canMake_6 (by decide) ?_ ?_
  · refine s_lv hG [] rfl ?_
    exact hb24 _
  · refine s_aload_n hG dX8_canMake_9 rfl ?_
    refine s_aload_n hG dX8_canMake_10 rfl ?_
    refine s_getI hG dX8_canMake_11 fl_RX8_94 (rfl) ?_
    refine s_cvI hG (as := [vI (S.1 36 12)]) (st := []) (rm := rm_X8_tries) dX8_canMake_14 ml_RX8_159 (rfl) (tb19 (mem_i 29 rfl)) rfl ⟨rfl, rfl⟩ ⟨by decide, by decide⟩ (Nat.le_of_ble_eq_true rfl) ⟨Nat.zero_le _, Nat.zero_le _⟩ rfl (fun o h => c_X8_tries l _ _ o h) (fun o14 => ?_)
    refine s_if_eq hG (tgt := 24) dX8_canMake_17 (by decide) ?_ ?_
    · refine s_lv hG [] rfl ?_
      exact hb24 _
    · refine s_iconst hG (v := (1 : Int32)) dX8_canMake_20 (by decide) ?_
      refine s_goto hG (tgt := 25) dX8_canMake_21 (by decide) ?_
      refine s_lv hG [] rfl ?_
      exact hb25 _ _

def f_X8_isDrawer (p0 : Int32) (S : HS) : Option (Int32) :=
(f_X8_isIn p0 (0 : Int32) (3 : Int32) S).bind (fun o3 =>
if nz o3 = true then some o3 else none)
def rm_X8_isDrawer : Room := { frames := 1, cells := 0, slots := 0, locals := 22 }
set_option maxRecDepth 100000 in
set_option maxHeartbeats 4000000 in
theorem c_X8_isDrawer (l : Launch) (p0 : Int32)  (S : HS) (out : Int32) (h : f_X8_isDrawer p0 S = some out) : Ct l yX8_isDrawer cX8_isDrawer 1 (some .boolean) rm_X8_isDrawer [vI p0] S (some (vI out)) S := by
  refine Ct.intro (own := RX8) (lv := [(0, vI p0)]) (by decide +kernel) rfl ⟨rfl, rfl⟩ rfl (Nat.le_of_ble_eq_true rfl) ?_
  intro G hG hR
  revert h
  unfold f_X8_isDrawer
  refine s_iload_n hG dX8_isDrawer_0 rfl ?_
  refine s_iconst hG (v := (0 : Int32)) dX8_isDrawer_1 (by decide) ?_
  refine s_iconst hG (v := (3 : Int32)) dX8_isDrawer_2 (by decide) ?_
  refine s_csP hG (as := [vI p0, vI (0 : Int32), vI (3 : Int32)]) (st := []) (rm := rm_X8_isIn) dX8_isDrawer_3 ml_RX8_84 (tb19 (mem_i 0 rfl)) rfl ⟨rfl, rfl⟩ ⟨by decide, by decide⟩ (Nat.le_of_ble_eq_true rfl) ⟨Nat.zero_le _, Nat.zero_le _⟩ rfl (fun o h => c_X8_isIn l _ _ _ _ o h) (fun o3 => ?_)
  exact s_rzP hR dX8_isDrawer_6

def f_X8_isShape (p1 : Int32) (S : HS) : Option (Int32) :=
(f_X8_isIn p1 (0 : Int32) ((S.1 36 2) - (1 : Int32)) S).bind (fun o8 =>
if nz o8 = true then some o8 else none)
def rm_X8_isShape : Room := { frames := 1, cells := 0, slots := 0, locals := 22 }
set_option maxRecDepth 100000 in
set_option maxHeartbeats 4000000 in
theorem c_X8_isShape (l : Launch) (p1 : Int32)  (S : HS) (out : Int32) (h : f_X8_isShape p1 S = some out) : Ct l yX8_isShape cX8_isShape 2 (some .boolean) rm_X8_isShape [vR 36, vI p1] S (some (vI out)) S := by
  refine Ct.intro (own := RX8) (lv := [(0, vR 36), (1, vI p1)]) (by decide +kernel) rfl ⟨rfl, rfl⟩ rfl (Nat.le_of_ble_eq_true rfl) ?_
  intro G hG hR
  revert h
  unfold f_X8_isShape
  refine s_iload_n hG dX8_isShape_0 rfl ?_
  refine s_iconst hG (v := (0 : Int32)) dX8_isShape_1 (by decide) ?_
  refine s_aload_n hG dX8_isShape_2 rfl ?_
  refine s_getI hG dX8_isShape_3 fl_RX8_88 (rfl) ?_
  refine s_iconst hG (v := (1 : Int32)) dX8_isShape_6 (by decide) ?_
  refine s_isub hG dX8_isShape_7 ?_
  refine s_csP hG (as := [vI p1, vI (0 : Int32), vI ((S.1 36 2) - (1 : Int32))]) (st := []) (rm := rm_X8_isIn) dX8_isShape_8 ml_RX8_84 (tb19 (mem_i 0 rfl)) rfl ⟨rfl, rfl⟩ ⟨by decide, by decide⟩ (Nat.le_of_ble_eq_true rfl) ⟨Nat.zero_le _, Nat.zero_le _⟩ rfl (fun o h => c_X8_isIn l _ _ _ _ o h) (fun o8 => ?_)
  exact s_rzP hR dX8_isShape_11

def f_X8_changes_b115 (p1 : Int32) (p2 : Int32) (p3 : Int32) (p4 : Int32) (p5 : Int32) (p6 : Int32)  (S : HS) (t0 : Int32) : Option (HS × Int32) :=
some (S, t0)
def f_X8_changes_b101 (p1 : Int32) (p2 : Int32) (p3 : Int32) (p4 : Int32) (p5 : Int32) (p6 : Int32)  (S : HS) (t1 : Int32) : Option (HS × Int32) :=
(f_X8_can t1 S).bind (fun o101 =>
if o101.2 = 0 then
f_X8_changes_b115 p1 p2 p3 p4 p5 p6  o101.1 (0 : Int32)
else
(f_X8_makes o101.1).bind (fun o108 =>
f_X8_changes_b115 p1 p2 p3 p4 p5 p6  o108.1 o108.2))
def f_X8_changes_b72 (p1 : Int32) (p2 : Int32) (p3 : Int32) (p4 : Int32) (p5 : Int32) (p6 : Int32)  (S : HS) (x7 : Int32) (x8 : Int32) : Option (HS × Int32) :=
if x7 = 0 then
f_X8_changes_b101 p1 p2 p3 p4 p5 p6  S (1 : Int32)
else
if p6 = 0 then
f_X8_changes_b101 p1 p2 p3 p4 p5 p6  S (2 : Int32)
else
if x8 = 0 then
f_X8_changes_b101 p1 p2 p3 p4 p5 p6  S (3 : Int32)
else
f_X8_changes_b101 p1 p2 p3 p4 p5 p6  S (0 : Int32)
def f_X8_changes_b46 (p1 : Int32) (p2 : Int32) (p3 : Int32) (p4 : Int32) (p5 : Int32) (p6 : Int32)  (S : HS) (x7 : Int32) (t0 : Int32) : Option (HS × Int32) :=
if t0 = 0 then
f_X8_changes_b72 p1 p2 p3 p4 p5 p6  S x7 t0
else
(f_X8_writes p1 p2 p3 p4 p5 (0 : Int32) (0 : Int32) S).bind (fun o63 =>
(f_X8_canMake o63).bind (fun o67 =>
f_X8_changes_b72 p1 p2 p3 p4 p5 p6  o67.1 x7 o67.2))
def f_X8_changes_b45 (p1 : Int32) (p2 : Int32) (p3 : Int32) (p4 : Int32) (p5 : Int32) (p6 : Int32)  (S : HS) (x7 : Int32) : Option (HS × Int32) :=
f_X8_changes_b46 p1 p2 p3 p4 p5 p6  S x7 (0 : Int32)
def f_X8_changes_b20 (p1 : Int32) (p2 : Int32) (p3 : Int32) (p4 : Int32) (p5 : Int32) (p6 : Int32)  (S : HS) (t0 : Int32) : Option (HS × Int32) :=
if t0 = 0 then
f_X8_changes_b45 p1 p2 p3 p4 p5 p6  S t0
else
if p6 = 0 then
f_X8_changes_b45 p1 p2 p3 p4 p5 p6  S t0
else
if (60 : Int32) ≤ (S.1 36 12) then
f_X8_changes_b45 p1 p2 p3 p4 p5 p6  S t0
else
f_X8_changes_b46 p1 p2 p3 p4 p5 p6  S t0 (1 : Int32)
def f_X8_changes_b19 (p1 : Int32) (p2 : Int32) (p3 : Int32) (p4 : Int32) (p5 : Int32) (p6 : Int32)  (S : HS)  : Option (HS × Int32) :=
f_X8_changes_b20 p1 p2 p3 p4 p5 p6  S (0 : Int32)
def f_X8_changes (p1 : Int32) (p2 : Int32) (p3 : Int32) (p4 : Int32) (p5 : Int32) (p6 : Int32) (S : HS) : Option (HS × Int32) :=
(f_X8_isDrawer p1 S).bind (fun o1 =>
if o1 = 0 then
f_X8_changes_b19 p1 p2 p3 p4 p5 p6  S
else
(f_X8_isShape p3 S).bind (fun o9 =>
if o9 = 0 then
f_X8_changes_b19 p1 p2 p3 p4 p5 p6  S
else
f_X8_changes_b20 p1 p2 p3 p4 p5 p6  S (1 : Int32)))
def rm_X8_changes : Room := { frames := 6, cells := 0, slots := 0, locals := 150 }
set_option maxRecDepth 100000 in
set_option maxHeartbeats 4000000 in
theorem c_X8_changes (l : Launch) (p1 : Int32) (p2 : Int32) (p3 : Int32) (p4 : Int32) (p5 : Int32) (p6 : Int32)  (S : HS) (out : HS × Int32) (h : f_X8_changes p1 p2 p3 p4 p5 p6 S = some out) : Ct l yX8_changes cX8_changes 9 (some .int) rm_X8_changes [vR 36, vI p1, vI p2, vI p3, vI p4, vI p5, vI p6] S (some (vI out.2)) out.1 := by
  refine Ct.intro (own := RX8) (lv := [(0, vR 36), (1, vI p1), (2, vI p2), (3, vI p3), (4, vI p4), (5, vI p5), (6, vI p6)]) (by decide +kernel) rfl ⟨rfl, rfl⟩ rfl (Nat.le_of_ble_eq_true rfl) ?_
  intro G hG hR
  revert h
  have hb115 : ∀ (S : HS) (t0 : Int32), f_X8_changes_b115 p1 p2 p3 p4 p5 p6 S t0 = some out → G 0 0 S [] 115 [vI t0] := by
    intro S t0
    unfold f_X8_changes_b115
    exact s_riC hR dX8_changes_115
  have hb101 : ∀ (S : HS) (t1 : Int32), f_X8_changes_b101 p1 p2 p3 p4 p5 p6 S t1 = some out → G 0 0 S [(0, vR 36)] 101 [vI t1, vR 36] := by
    intro S t1
    unfold f_X8_changes_b101
    refine s_cvI hG (as := [vI t1]) (st := []) (rm := rm_X8_can) dX8_changes_101 ml_RX8_100 (rfl) (tb19 (mem_i 3 rfl)) rfl ⟨rfl, rfl⟩ ⟨by decide, by decide⟩ (Nat.le_of_ble_eq_true rfl) ⟨Nat.zero_le _, Nat.zero_le _⟩ rfl (fun o h => c_X8_can l _ _ o h) (fun o101 => ?_)
    refine s_if_eq hG (tgt := 114) dX8_changes_104 (by decide) ?_ ?_
    · refine s_iconst hG (v := (0 : Int32)) dX8_changes_114 (by decide) ?_
      refine s_lv hG [] rfl ?_
      exact hb115 _ _
    · refine s_aload_n hG dX8_changes_107 rfl ?_
      refine s_cvI hG (as := []) (st := []) (rm := rm_X8_makes) dX8_changes_108 ml_RX8_170 (rfl) (tb21 (mem_i 2 rfl)) rfl ⟨rfl, rfl⟩ ⟨by decide, by decide⟩ (Nat.le_of_ble_eq_true rfl) ⟨Nat.zero_le _, Nat.zero_le _⟩ rfl (fun o h => c_X8_makes l  _ o h) (fun o108 => ?_)
      refine s_goto hG (tgt := 115) dX8_changes_111 (by decide) ?_
      refine s_lv hG [] rfl ?_
      exact hb115 _ _
  have hb72 : ∀ (S : HS) (x7 : Int32) (x8 : Int32), f_X8_changes_b72 p1 p2 p3 p4 p5 p6 S x7 x8 = some out → G 0 0 S [(0, vR 36), (6, vI p6), (7, vI x7), (8, vI x8)] 72 [] := by
    intro S x7 x8
    unfold f_X8_changes_b72
    refine s_aload_n hG dX8_changes_72 rfl ?_
    refine s_iload hG dX8_changes_73 rfl ?_
    refine s_if_ne hG (tgt := 82) dX8_changes_75 (by decide) ?_ ?_
    · refine s_iload hG dX8_changes_82 rfl ?_
      refine s_if_ne hG (tgt := 91) dX8_changes_84 (by decide) ?_ ?_
      · refine s_iload hG dX8_changes_91 rfl ?_
        refine s_if_eq hG (tgt := 100) dX8_changes_93 (by decide) ?_ ?_
        · refine s_iconst hG (v := (3 : Int32)) dX8_changes_100 (by decide) ?_
          refine s_lv hG [0] rfl ?_
          exact hb101 _ _
        · refine s_iconst hG (v := (0 : Int32)) dX8_changes_96 (by decide) ?_
          refine s_goto hG (tgt := 101) dX8_changes_97 (by decide) ?_
          refine s_lv hG [0] rfl ?_
          exact hb101 _ _
      · refine s_iconst hG (v := (2 : Int32)) dX8_changes_87 (by decide) ?_
        refine s_goto hG (tgt := 101) dX8_changes_88 (by decide) ?_
        refine s_lv hG [0] rfl ?_
        exact hb101 _ _
    · refine s_iconst hG (v := (1 : Int32)) dX8_changes_78 (by decide) ?_
      refine s_goto hG (tgt := 101) dX8_changes_79 (by decide) ?_
      refine s_lv hG [0] rfl ?_
      exact hb101 _ _
  have hb46 : ∀ (S : HS) (x7 : Int32) (t0 : Int32), f_X8_changes_b46 p1 p2 p3 p4 p5 p6 S x7 t0 = some out → G 0 0 S [(0, vR 36), (1, vI p1), (2, vI p2), (3, vI p3), (4, vI p4), (5, vI p5), (6, vI p6), (7, vI x7)] 46 [vI t0] := by
    intro S x7 t0
    unfold f_X8_changes_b46
    refine s_istore hG (lv' := [(8, vI t0), (0, vR 36), (1, vI p1), (2, vI p2), (3, vI p3), (4, vI p4), (5, vI p5), (6, vI p6), (7, vI x7)]) dX8_changes_46 (by decide) rfl ?_
    refine s_iload hG dX8_changes_48 rfl ?_
    refine s_if_eq hG (tgt := 72) dX8_changes_50 (by decide) ?_ ?_
    · refine s_lv hG [1, 7, 8, 0] rfl ?_
      exact hb72 _ _ _
    · refine s_aload_n hG dX8_changes_53 rfl ?_
      refine s_iload_n hG dX8_changes_54 rfl ?_
      refine s_iload_n hG dX8_changes_55 rfl ?_
      refine s_iload_n hG dX8_changes_56 rfl ?_
      refine s_iload hG dX8_changes_57 rfl ?_
      refine s_iload hG dX8_changes_59 rfl ?_
      refine s_iconst hG (v := (0 : Int32)) dX8_changes_61 (by decide) ?_
      refine s_iconst hG (v := (0 : Int32)) dX8_changes_62 (by decide) ?_
      refine s_cvV hG (as := [vI p1, vI p2, vI p3, vI p4, vI p5, vI (0 : Int32), vI (0 : Int32)]) (st := []) (rm := rm_X8_writes) dX8_changes_63 ml_RX8_166 (rfl) (tb19 (mem_i 26 rfl)) rfl ⟨rfl, rfl⟩ ⟨by decide, by decide⟩ (Nat.le_of_ble_eq_true rfl) ⟨Nat.zero_le _, Nat.zero_le _⟩ rfl (fun o h => c_X8_writes l _ _ _ _ _ _ _ _ o h) (fun o63 => ?_)
      refine s_aload_n hG dX8_changes_66 rfl ?_
      refine s_cvI hG (as := []) (st := []) (rm := rm_X8_canMake) dX8_changes_67 ml_RX8_189 (rfl) (tb21 (mem_i 22 rfl)) rfl ⟨rfl, rfl⟩ ⟨by decide, by decide⟩ (Nat.le_of_ble_eq_true rfl) ⟨Nat.zero_le _, Nat.zero_le _⟩ rfl (fun o h => c_X8_canMake l  _ o h) (fun o67 => ?_)
      refine s_istore hG (lv' := [(8, vI o67.2), (0, vR 36), (1, vI p1), (2, vI p2), (3, vI p3), (4, vI p4), (5, vI p5), (6, vI p6), (7, vI x7)]) dX8_changes_70 (by decide) rfl ?_
      refine s_lv hG [1, 7, 8, 0] rfl ?_
      exact hb72 _ _ _
  have hb45 : ∀ (S : HS) (x7 : Int32), f_X8_changes_b45 p1 p2 p3 p4 p5 p6 S x7 = some out → G 0 0 S [(0, vR 36), (1, vI p1), (2, vI p2), (3, vI p3), (4, vI p4), (5, vI p5), (6, vI p6), (7, vI x7)] 45 [] := by
    intro S x7
    unfold f_X8_changes_b45
    refine s_iconst hG (v := (0 : Int32)) dX8_changes_45 (by decide) ?_
    exact hb46 _ _ _
  have hb20 : ∀ (S : HS) (t0 : Int32), f_X8_changes_b20 p1 p2 p3 p4 p5 p6 S t0 = some out → G 0 0 S [(0, vR 36), (1, vI p1), (2, vI p2), (3, vI p3), (4, vI p4), (5, vI p5), (6, vI p6)] 20 [vI t0] := by
    intro S t0
    unfold f_X8_changes_b20
    refine s_istore hG (lv' := [(7, vI t0), (0, vR 36), (1, vI p1), (2, vI p2), (3, vI p3), (4, vI p4), (5, vI p5), (6, vI p6)]) dX8_changes_20 (by decide) rfl ?_
    refine s_iload hG dX8_changes_22 rfl ?_
    refine s_if_eq hG (tgt := 45) dX8_changes_24 (by decide) ?_ ?_
    · refine s_lv hG [1, 2, 3, 4, 5, 6, 7, 0] rfl ?_
      exact hb45 _ _
    · refine s_iload hG dX8_changes_27 rfl ?_
      refine s_if_eq hG (tgt := 45) dX8_changes_29 (by decide) ?_ ?_
      · refine s_lv hG [1, 2, 3, 4, 5, 6, 7, 0] rfl ?_
        exact hb45 _ _
      · refine s_aload_n hG dX8_changes_32 rfl ?_
        refine s_getI hG dX8_changes_33 fl_RX8_94 (rfl) ?_
        refine s_bipush hG (v := (60 : Int32)) dX8_changes_36 (by decide) ?_
        refine s_icmp_ge hG (tgt := 45) dX8_changes_38 (by decide) ?_ ?_
        · refine s_lv hG [1, 2, 3, 4, 5, 6, 7, 0] rfl ?_
          exact hb45 _ _
        · refine s_iconst hG (v := (1 : Int32)) dX8_changes_41 (by decide) ?_
          refine s_goto hG (tgt := 46) dX8_changes_42 (by decide) ?_
          refine s_lv hG [1, 2, 3, 4, 5, 6, 7, 0] rfl ?_
          exact hb46 _ _ _
  have hb19 : ∀ (S : HS), f_X8_changes_b19 p1 p2 p3 p4 p5 p6 S  = some out → G 0 0 S [(0, vR 36), (1, vI p1), (2, vI p2), (3, vI p3), (4, vI p4), (5, vI p5), (6, vI p6)] 19 [] := by
    intro S
    unfold f_X8_changes_b19
    refine s_iconst hG (v := (0 : Int32)) dX8_changes_19 (by decide) ?_
    exact hb20 _ _
  unfold f_X8_changes
  refine s_iload_n hG dX8_changes_0 rfl ?_
  refine s_csP hG (as := [vI p1]) (st := []) (rm := rm_X8_isDrawer) dX8_changes_1 ml_RX8_179 (tb19 (mem_i 20 rfl)) rfl ⟨rfl, rfl⟩ ⟨by decide, by decide⟩ (Nat.le_of_ble_eq_true rfl) ⟨Nat.zero_le _, Nat.zero_le _⟩ rfl (fun o h => c_X8_isDrawer l _ _ o h) (fun o1 => ?_)
  refine s_if_eq hG (tgt := 19) dX8_changes_4 (by decide) ?_ ?_
  · exact hb19 _
  · refine s_aload_n hG dX8_changes_7 rfl ?_
    refine s_iload_n hG dX8_changes_8 rfl ?_
    refine s_cvP hG (as := [vI p3]) (st := []) (rm := rm_X8_isShape) dX8_changes_9 ml_RX8_186 (rfl) (tb21 (mem_i 19 rfl)) rfl ⟨rfl, rfl⟩ ⟨by decide, by decide⟩ (Nat.le_of_ble_eq_true rfl) ⟨Nat.zero_le _, Nat.zero_le _⟩ rfl (fun o h => c_X8_isShape l _ _ o h) (fun o9 => ?_)
    refine s_if_eq hG (tgt := 19) dX8_changes_12 (by decide) ?_ ?_
    · exact hb19 _
    · refine s_iconst hG (v := (1 : Int32)) dX8_changes_15 (by decide) ?_
      refine s_goto hG (tgt := 20) dX8_changes_16 (by decide) ?_
      exact hb20 _ _
