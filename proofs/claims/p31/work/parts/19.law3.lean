/-! 19.law3: by program (wip/p31/gen.py) -/
theorem dL_areTrees_0 : decode cL_areTrees 0 = .ok (.aload_n 0, 1) := by decide +kernel
theorem dL_areTrees_1 : decode cL_areTrees 1 = .ok (.invokevirtual 93, 3) := by decide +kernel
theorem dL_areTrees_4 : decode cL_areTrees 4 = .ok (.aload_n 2, 1) := by decide +kernel
theorem dL_areTrees_5 : decode cL_areTrees 5 = .ok (.iconst 0, 1) := by decide +kernel
theorem dL_areTrees_6 : decode cL_areTrees 6 = .ok (.iaload, 1) := by decide +kernel
theorem dL_areTrees_7 : decode cL_areTrees 7 = .ok (.if_icmp .ne 7, 3) := by decide +kernel
theorem dL_areTrees_10 : decode cL_areTrees 10 = .ok (.iconst 1, 1) := by decide +kernel
theorem dL_areTrees_11 : decode cL_areTrees 11 = .ok (.goto 4, 3) := by decide +kernel
theorem dL_areTrees_14 : decode cL_areTrees 14 = .ok (.iconst 0, 1) := by decide +kernel
theorem dL_areTrees_15 : decode cL_areTrees 15 = .ok (.istore 4, 2) := by decide +kernel
theorem dL_areTrees_17 : decode cL_areTrees 17 = .ok (.iconst 0, 1) := by decide +kernel
theorem dL_areTrees_18 : decode cL_areTrees 18 = .ok (.istore 5, 2) := by decide +kernel
theorem dL_areTrees_20 : decode cL_areTrees 20 = .ok (.iload 5, 2) := by decide +kernel
theorem dL_areTrees_22 : decode cL_areTrees 22 = .ok (.aload_n 2, 1) := by decide +kernel
theorem dL_areTrees_23 : decode cL_areTrees 23 = .ok (.iconst 0, 1) := by decide +kernel
theorem dL_areTrees_24 : decode cL_areTrees 24 = .ok (.iaload, 1) := by decide +kernel
theorem dL_areTrees_25 : decode cL_areTrees 25 = .ok (.if_icmp .ge 77, 3) := by decide +kernel
theorem dL_areTrees_28 : decode cL_areTrees 28 = .ok (.iload 4, 2) := by decide +kernel
theorem dL_areTrees_30 : decode cL_areTrees 30 = .ok (.ifCond .eq 72, 3) := by decide +kernel
theorem dL_areTrees_33 : decode cL_areTrees 33 = .ok (.aload_n 1, 1) := by decide +kernel
theorem dL_areTrees_34 : decode cL_areTrees 34 = .ok (.aload_n 3, 1) := by decide +kernel
theorem dL_areTrees_35 : decode cL_areTrees 35 = .ok (.iload 5, 2) := by decide +kernel
theorem dL_areTrees_37 : decode cL_areTrees 37 = .ok (.invokestatic 96, 3) := by decide +kernel
theorem dL_areTrees_40 : decode cL_areTrees 40 = .ok (.istore 6, 2) := by decide +kernel
theorem dL_areTrees_42 : decode cL_areTrees 42 = .ok (.aload_n 0, 1) := by decide +kernel
theorem dL_areTrees_43 : decode cL_areTrees 43 = .ok (.iload 5, 2) := by decide +kernel
theorem dL_areTrees_45 : decode cL_areTrees 45 = .ok (.invokevirtual 86, 3) := by decide +kernel
theorem dL_areTrees_48 : decode cL_areTrees 48 = .ok (.iload 6, 2) := by decide +kernel
theorem dL_areTrees_50 : decode cL_areTrees 50 = .ok (.if_icmp .ne 43, 3) := by decide +kernel
theorem dL_areTrees_53 : decode cL_areTrees 53 = .ok (.iload 6, 2) := by decide +kernel
theorem dL_areTrees_55 : decode cL_areTrees 55 = .ok (.ifCond .ne 12, 3) := by decide +kernel
theorem dL_areTrees_58 : decode cL_areTrees 58 = .ok (.aload_n 0, 1) := by decide +kernel
theorem dL_areTrees_59 : decode cL_areTrees 59 = .ok (.iload 5, 2) := by decide +kernel
theorem dL_areTrees_61 : decode cL_areTrees 61 = .ok (.invokevirtual 83, 3) := by decide +kernel
theorem dL_areTrees_64 : decode cL_areTrees 64 = .ok (.ifCond .ne 29, 3) := by decide +kernel
theorem dL_areTrees_67 : decode cL_areTrees 67 = .ok (.aload_n 1, 1) := by decide +kernel
theorem dL_areTrees_68 : decode cL_areTrees 68 = .ok (.iload 5, 2) := by decide +kernel
theorem dL_areTrees_70 : decode cL_areTrees 70 = .ok (.iaload, 1) := by decide +kernel
theorem dL_areTrees_71 : decode cL_areTrees 71 = .ok (.bipush 8, 2) := by decide +kernel
theorem dL_areTrees_73 : decode cL_areTrees 73 = .ok (.iconst 1, 1) := by decide +kernel
theorem dL_areTrees_74 : decode cL_areTrees 74 = .ok (.invokestatic 77, 3) := by decide +kernel
theorem dL_areTrees_77 : decode cL_areTrees 77 = .ok (.ifCond .eq 12, 3) := by decide +kernel
theorem dL_areTrees_80 : decode cL_areTrees 80 = .ok (.aload_n 0, 1) := by decide +kernel
theorem dL_areTrees_81 : decode cL_areTrees 81 = .ok (.iload 5, 2) := by decide +kernel
theorem dL_areTrees_83 : decode cL_areTrees 83 = .ok (.invokevirtual 83, 3) := by decide +kernel
theorem dL_areTrees_86 : decode cL_areTrees 86 = .ok (.ifCond .ne 7, 3) := by decide +kernel
theorem dL_areTrees_89 : decode cL_areTrees 89 = .ok (.iconst 1, 1) := by decide +kernel
theorem dL_areTrees_90 : decode cL_areTrees 90 = .ok (.goto 4, 3) := by decide +kernel
theorem dL_areTrees_93 : decode cL_areTrees 93 = .ok (.iconst 0, 1) := by decide +kernel
theorem dL_areTrees_94 : decode cL_areTrees 94 = .ok (.istore 4, 2) := by decide +kernel
theorem dL_areTrees_96 : decode cL_areTrees 96 = .ok (.iinc 5 1, 3) := by decide +kernel
theorem dL_areTrees_99 : decode cL_areTrees 99 = .ok (.goto (-79), 3) := by decide +kernel
theorem dL_areTrees_102 : decode cL_areTrees 102 = .ok (.iconst 0, 1) := by decide +kernel
theorem dL_areTrees_103 : decode cL_areTrees 103 = .ok (.istore 5, 2) := by decide +kernel
theorem dL_areTrees_105 : decode cL_areTrees 105 = .ok (.iload 5, 2) := by decide +kernel
theorem dL_areTrees_107 : decode cL_areTrees 107 = .ok (.iconst 4, 1) := by decide +kernel
theorem dL_areTrees_108 : decode cL_areTrees 108 = .ok (.if_icmp .ge 212, 3) := by decide +kernel
theorem dL_areTrees_111 : decode cL_areTrees 111 = .ok (.iload 4, 2) := by decide +kernel
theorem dL_areTrees_113 : decode cL_areTrees 113 = .ok (.ifCond .eq 207, 3) := by decide +kernel
theorem dL_areTrees_116 : decode cL_areTrees 116 = .ok (.iconst 0, 1) := by decide +kernel
theorem dL_areTrees_117 : decode cL_areTrees 117 = .ok (.istore 6, 2) := by decide +kernel
theorem dL_areTrees_119 : decode cL_areTrees 119 = .ok (.iconst 0, 1) := by decide +kernel
theorem dL_areTrees_120 : decode cL_areTrees 120 = .ok (.istore 7, 2) := by decide +kernel
theorem dL_areTrees_122 : decode cL_areTrees 122 = .ok (.iconst 0, 1) := by decide +kernel
theorem dL_areTrees_123 : decode cL_areTrees 123 = .ok (.istore 8, 2) := by decide +kernel
theorem dL_areTrees_125 : decode cL_areTrees 125 = .ok (.iload 8, 2) := by decide +kernel
theorem dL_areTrees_127 : decode cL_areTrees 127 = .ok (.aload_n 2, 1) := by decide +kernel
theorem dL_areTrees_128 : decode cL_areTrees 128 = .ok (.iconst 0, 1) := by decide +kernel
theorem dL_areTrees_129 : decode cL_areTrees 129 = .ok (.iaload, 1) := by decide +kernel
theorem dL_areTrees_130 : decode cL_areTrees 130 = .ok (.if_icmp .ge 121, 3) := by decide +kernel
theorem dL_areTrees_133 : decode cL_areTrees 133 = .ok (.aload_n 1, 1) := by decide +kernel
theorem dL_areTrees_134 : decode cL_areTrees 134 = .ok (.iload 8, 2) := by decide +kernel
theorem dL_areTrees_136 : decode cL_areTrees 136 = .ok (.iaload, 1) := by decide +kernel
theorem dL_areTrees_137 : decode cL_areTrees 137 = .ok (.iconst 0, 1) := by decide +kernel
theorem dL_areTrees_138 : decode cL_areTrees 138 = .ok (.iconst 2, 1) := by decide +kernel
theorem dL_areTrees_139 : decode cL_areTrees 139 = .ok (.invokestatic 77, 3) := by decide +kernel
theorem dL_areTrees_142 : decode cL_areTrees 142 = .ok (.iload 5, 2) := by decide +kernel
theorem dL_areTrees_144 : decode cL_areTrees 144 = .ok (.if_icmp .ne 7, 3) := by decide +kernel
theorem dL_areTrees_147 : decode cL_areTrees 147 = .ok (.iconst 1, 1) := by decide +kernel
theorem dL_areTrees_148 : decode cL_areTrees 148 = .ok (.goto 4, 3) := by decide +kernel
theorem dL_areTrees_151 : decode cL_areTrees 151 = .ok (.iconst 0, 1) := by decide +kernel
theorem dL_areTrees_152 : decode cL_areTrees 152 = .ok (.istore 9, 2) := by decide +kernel
theorem dL_areTrees_154 : decode cL_areTrees 154 = .ok (.aload_n 1, 1) := by decide +kernel
theorem dL_areTrees_155 : decode cL_areTrees 155 = .ok (.iload 8, 2) := by decide +kernel
theorem dL_areTrees_157 : decode cL_areTrees 157 = .ok (.iaload, 1) := by decide +kernel
theorem dL_areTrees_158 : decode cL_areTrees 158 = .ok (.iconst 2, 1) := by decide +kernel
theorem dL_areTrees_159 : decode cL_areTrees 159 = .ok (.bipush 6, 2) := by decide +kernel
theorem dL_areTrees_161 : decode cL_areTrees 161 = .ok (.invokestatic 77, 3) := by decide +kernel
theorem dL_areTrees_164 : decode cL_areTrees 164 = .ok (.istore 10, 2) := by decide +kernel
theorem dL_areTrees_166 : decode cL_areTrees 166 = .ok (.iload 6, 2) := by decide +kernel
theorem dL_areTrees_168 : decode cL_areTrees 168 = .ok (.iload 9, 2) := by decide +kernel
theorem dL_areTrees_170 : decode cL_areTrees 170 = .ok (.ifCond .eq 16, 3) := by decide +kernel
theorem dL_areTrees_173 : decode cL_areTrees 173 = .ok (.iload 10, 2) := by decide +kernel
theorem dL_areTrees_175 : decode cL_areTrees 175 = .ok (.aload_n 3, 1) := by decide +kernel
theorem dL_areTrees_176 : decode cL_areTrees 176 = .ok (.iload 5, 2) := by decide +kernel
theorem dL_areTrees_178 : decode cL_areTrees 178 = .ok (.iaload, 1) := by decide +kernel
theorem dL_areTrees_179 : decode cL_areTrees 179 = .ok (.if_icmp .ne 7, 3) := by decide +kernel
theorem dL_areTrees_182 : decode cL_areTrees 182 = .ok (.iconst 1, 1) := by decide +kernel
theorem dL_areTrees_183 : decode cL_areTrees 183 = .ok (.goto 4, 3) := by decide +kernel
theorem dL_areTrees_186 : decode cL_areTrees 186 = .ok (.iconst 0, 1) := by decide +kernel
theorem dL_areTrees_187 : decode cL_areTrees 187 = .ok (.iadd, 1) := by decide +kernel
theorem dL_areTrees_188 : decode cL_areTrees 188 = .ok (.istore 6, 2) := by decide +kernel
theorem dL_areTrees_190 : decode cL_areTrees 190 = .ok (.iload 10, 2) := by decide +kernel
theorem dL_areTrees_192 : decode cL_areTrees 192 = .ok (.ifCond .le 29, 3) := by decide +kernel
theorem dL_areTrees_195 : decode cL_areTrees 195 = .ok (.iload 10, 2) := by decide +kernel
theorem dL_areTrees_197 : decode cL_areTrees 197 = .ok (.aload_n 3, 1) := by decide +kernel
theorem dL_areTrees_198 : decode cL_areTrees 198 = .ok (.iload 5, 2) := by decide +kernel
theorem dL_areTrees_200 : decode cL_areTrees 200 = .ok (.iaload, 1) := by decide +kernel
theorem dL_areTrees_201 : decode cL_areTrees 201 = .ok (.if_icmp .eq 20, 3) := by decide +kernel
theorem dL_areTrees_204 : decode cL_areTrees 204 = .ok (.aload_n 1, 1) := by decide +kernel
theorem dL_areTrees_205 : decode cL_areTrees 205 = .ok (.iload 10, 2) := by decide +kernel
theorem dL_areTrees_207 : decode cL_areTrees 207 = .ok (.iconst 1, 1) := by decide +kernel
theorem dL_areTrees_208 : decode cL_areTrees 208 = .ok (.isub, 1) := by decide +kernel
theorem dL_areTrees_209 : decode cL_areTrees 209 = .ok (.iaload, 1) := by decide +kernel
theorem dL_areTrees_210 : decode cL_areTrees 210 = .ok (.iconst 2, 1) := by decide +kernel
theorem dL_areTrees_211 : decode cL_areTrees 211 = .ok (.bipush 6, 2) := by decide +kernel
theorem dL_areTrees_213 : decode cL_areTrees 213 = .ok (.invokestatic 77, 3) := by decide +kernel
theorem dL_areTrees_216 : decode cL_areTrees 216 = .ok (.istore 10, 2) := by decide +kernel
theorem dL_areTrees_218 : decode cL_areTrees 218 = .ok (.goto (-28), 3) := by decide +kernel
theorem dL_areTrees_221 : decode cL_areTrees 221 = .ok (.iload 7, 2) := by decide +kernel
theorem dL_areTrees_223 : decode cL_areTrees 223 = .ok (.iload 9, 2) := by decide +kernel
theorem dL_areTrees_225 : decode cL_areTrees 225 = .ok (.ifCond .eq 16, 3) := by decide +kernel
theorem dL_areTrees_228 : decode cL_areTrees 228 = .ok (.iload 10, 2) := by decide +kernel
theorem dL_areTrees_230 : decode cL_areTrees 230 = .ok (.aload_n 3, 1) := by decide +kernel
theorem dL_areTrees_231 : decode cL_areTrees 231 = .ok (.iload 5, 2) := by decide +kernel
theorem dL_areTrees_233 : decode cL_areTrees 233 = .ok (.iaload, 1) := by decide +kernel
theorem dL_areTrees_234 : decode cL_areTrees 234 = .ok (.if_icmp .ne 7, 3) := by decide +kernel
theorem dL_areTrees_237 : decode cL_areTrees 237 = .ok (.iconst 1, 1) := by decide +kernel
theorem dL_areTrees_238 : decode cL_areTrees 238 = .ok (.goto 4, 3) := by decide +kernel
theorem dL_areTrees_241 : decode cL_areTrees 241 = .ok (.iconst 0, 1) := by decide +kernel
theorem dL_areTrees_242 : decode cL_areTrees 242 = .ok (.iadd, 1) := by decide +kernel
theorem dL_areTrees_243 : decode cL_areTrees 243 = .ok (.istore 7, 2) := by decide +kernel
theorem dL_areTrees_245 : decode cL_areTrees 245 = .ok (.iinc 8 1, 3) := by decide +kernel
theorem dL_areTrees_248 : decode cL_areTrees 248 = .ok (.goto (-123), 3) := by decide +kernel
theorem dL_areTrees_251 : decode cL_areTrees 251 = .ok (.aload_n 0, 1) := by decide +kernel
theorem dL_areTrees_252 : decode cL_areTrees 252 = .ok (.iload 5, 2) := by decide +kernel
theorem dL_areTrees_254 : decode cL_areTrees 254 = .ok (.invokevirtual 100, 3) := by decide +kernel
theorem dL_areTrees_257 : decode cL_areTrees 257 = .ok (.aload_n 3, 1) := by decide +kernel
theorem dL_areTrees_258 : decode cL_areTrees 258 = .ok (.iload 5, 2) := by decide +kernel
theorem dL_areTrees_260 : decode cL_areTrees 260 = .ok (.iaload, 1) := by decide +kernel
theorem dL_areTrees_261 : decode cL_areTrees 261 = .ok (.iconst 1, 1) := by decide +kernel
theorem dL_areTrees_262 : decode cL_areTrees 262 = .ok (.isub, 1) := by decide +kernel
theorem dL_areTrees_263 : decode cL_areTrees 263 = .ok (.if_icmp .ne 48, 3) := by decide +kernel
theorem dL_areTrees_266 : decode cL_areTrees 266 = .ok (.aload_n 0, 1) := by decide +kernel
theorem dL_areTrees_267 : decode cL_areTrees 267 = .ok (.iload 5, 2) := by decide +kernel
theorem dL_areTrees_269 : decode cL_areTrees 269 = .ok (.invokevirtual 103, 3) := by decide +kernel
theorem dL_areTrees_272 : decode cL_areTrees 272 = .ok (.iload 6, 2) := by decide +kernel
theorem dL_areTrees_274 : decode cL_areTrees 274 = .ok (.if_icmp .ne 37, 3) := by decide +kernel
theorem dL_areTrees_277 : decode cL_areTrees 277 = .ok (.aload_n 0, 1) := by decide +kernel
theorem dL_areTrees_278 : decode cL_areTrees 278 = .ok (.iload 5, 2) := by decide +kernel
theorem dL_areTrees_280 : decode cL_areTrees 280 = .ok (.invokevirtual 106, 3) := by decide +kernel
theorem dL_areTrees_283 : decode cL_areTrees 283 = .ok (.iload 7, 2) := by decide +kernel
theorem dL_areTrees_285 : decode cL_areTrees 285 = .ok (.if_icmp .ne 26, 3) := by decide +kernel
theorem dL_areTrees_288 : decode cL_areTrees 288 = .ok (.aload_n 0, 1) := by decide +kernel
theorem dL_areTrees_289 : decode cL_areTrees 289 = .ok (.bipush 7, 2) := by decide +kernel
theorem dL_areTrees_291 : decode cL_areTrees 291 = .ok (.iload 5, 2) := by decide +kernel
theorem dL_areTrees_293 : decode cL_areTrees 293 = .ok (.iload 6, 2) := by decide +kernel
theorem dL_areTrees_295 : decode cL_areTrees 295 = .ok (.iconst 0, 1) := by decide +kernel
theorem dL_areTrees_296 : decode cL_areTrees 296 = .ok (.iconst 0, 1) := by decide +kernel
theorem dL_areTrees_297 : decode cL_areTrees 297 = .ok (.iconst 0, 1) := by decide +kernel
theorem dL_areTrees_298 : decode cL_areTrees 298 = .ok (.invokestatic 68, 3) := by decide +kernel
theorem dL_areTrees_301 : decode cL_areTrees 301 = .ok (.sipush (-5007), 3) := by decide +kernel
theorem dL_areTrees_304 : decode cL_areTrees 304 = .ok (.if_icmp .ne 7, 3) := by decide +kernel
theorem dL_areTrees_307 : decode cL_areTrees 307 = .ok (.iconst 1, 1) := by decide +kernel
theorem dL_areTrees_308 : decode cL_areTrees 308 = .ok (.goto 4, 3) := by decide +kernel
theorem dL_areTrees_311 : decode cL_areTrees 311 = .ok (.iconst 0, 1) := by decide +kernel
theorem dL_areTrees_312 : decode cL_areTrees 312 = .ok (.istore 4, 2) := by decide +kernel
theorem dL_areTrees_314 : decode cL_areTrees 314 = .ok (.iinc 5 1, 3) := by decide +kernel
theorem dL_areTrees_317 : decode cL_areTrees 317 = .ok (.goto (-212), 3) := by decide +kernel
theorem dL_areTrees_320 : decode cL_areTrees 320 = .ok (.iload 4, 2) := by decide +kernel
theorem dL_areTrees_322 : decode cL_areTrees 322 = .ok (.ireturn, 1) := by decide +kernel
theorem dL_isExport_0 : decode cL_isExport 0 = .ok (.aload_n 0, 1) := by decide +kernel
theorem dL_isExport_1 : decode cL_isExport 1 = .ok (.iload_n 1, 1) := by decide +kernel
theorem dL_isExport_2 : decode cL_isExport 2 = .ok (.invokevirtual 109, 3) := by decide +kernel
theorem dL_isExport_5 : decode cL_isExport 5 = .ok (.istore_n 3, 1) := by decide +kernel
theorem dL_isExport_6 : decode cL_isExport 6 = .ok (.iconst 0, 1) := by decide +kernel
theorem dL_isExport_7 : decode cL_isExport 7 = .ok (.istore 4, 2) := by decide +kernel
theorem dL_isExport_9 : decode cL_isExport 9 = .ok (.iconst 0, 1) := by decide +kernel
theorem dL_isExport_10 : decode cL_isExport 10 = .ok (.istore 5, 2) := by decide +kernel
theorem dL_isExport_12 : decode cL_isExport 12 = .ok (.iload 5, 2) := by decide +kernel
theorem dL_isExport_14 : decode cL_isExport 14 = .ok (.aload_n 2, 1) := by decide +kernel
theorem dL_isExport_15 : decode cL_isExport 15 = .ok (.iconst 1, 1) := by decide +kernel
theorem dL_isExport_16 : decode cL_isExport 16 = .ok (.iaload, 1) := by decide +kernel
theorem dL_isExport_17 : decode cL_isExport 17 = .ok (.if_icmp .ge 252, 3) := by decide +kernel
theorem dL_isExport_20 : decode cL_isExport 20 = .ok (.iload 4, 2) := by decide +kernel
theorem dL_isExport_22 : decode cL_isExport 22 = .ok (.ifCond .lt 247, 3) := by decide +kernel
theorem dL_isExport_25 : decode cL_isExport 25 = .ok (.aload_n 0, 1) := by decide +kernel
theorem dL_isExport_26 : decode cL_isExport 26 = .ok (.iload 5, 2) := by decide +kernel
theorem dL_isExport_28 : decode cL_isExport 28 = .ok (.invokevirtual 65, 3) := by decide +kernel
theorem dL_isExport_31 : decode cL_isExport 31 = .ok (.ifCond .eq 232, 3) := by decide +kernel
theorem dL_isExport_34 : decode cL_isExport 34 = .ok (.aload_n 0, 1) := by decide +kernel
theorem dL_isExport_35 : decode cL_isExport 35 = .ok (.bipush 12, 2) := by decide +kernel
theorem dL_isExport_37 : decode cL_isExport 37 = .ok (.iload_n 1, 1) := by decide +kernel
theorem dL_isExport_38 : decode cL_isExport 38 = .ok (.iload 4, 2) := by decide +kernel
theorem dL_isExport_40 : decode cL_isExport 40 = .ok (.iconst 0, 1) := by decide +kernel
theorem dL_isExport_41 : decode cL_isExport 41 = .ok (.iconst 0, 1) := by decide +kernel
theorem dL_isExport_42 : decode cL_isExport 42 = .ok (.iconst 0, 1) := by decide +kernel
theorem dL_isExport_43 : decode cL_isExport 43 = .ok (.invokestatic 68, 3) := by decide +kernel
theorem dL_isExport_46 : decode cL_isExport 46 = .ok (.istore 6, 2) := by decide +kernel
theorem dL_isExport_48 : decode cL_isExport 48 = .ok (.aload_n 0, 1) := by decide +kernel
theorem dL_isExport_49 : decode cL_isExport 49 = .ok (.iload_n 1, 1) := by decide +kernel
theorem dL_isExport_50 : decode cL_isExport 50 = .ok (.iload 6, 2) := by decide +kernel
theorem dL_isExport_52 : decode cL_isExport 52 = .ok (.bipush 98, 2) := by decide +kernel
theorem dL_isExport_54 : decode cL_isExport 54 = .ok (.if_icmp .eq 10, 3) := by decide +kernel
theorem dL_isExport_57 : decode cL_isExport 57 = .ok (.iload 6, 2) := by decide +kernel
theorem dL_isExport_59 : decode cL_isExport 59 = .ok (.bipush 116, 2) := by decide +kernel
theorem dL_isExport_61 : decode cL_isExport 61 = .ok (.if_icmp .ne 10, 3) := by decide +kernel
theorem dL_isExport_64 : decode cL_isExport 64 = .ok (.iload 4, 2) := by decide +kernel
theorem dL_isExport_66 : decode cL_isExport 66 = .ok (.iconst 1, 1) := by decide +kernel
theorem dL_isExport_67 : decode cL_isExport 67 = .ok (.iadd, 1) := by decide +kernel
theorem dL_isExport_68 : decode cL_isExport 68 = .ok (.goto 4, 3) := by decide +kernel
theorem dL_isExport_71 : decode cL_isExport 71 = .ok (.iconst (-1), 1) := by decide +kernel
theorem dL_isExport_72 : decode cL_isExport 72 = .ok (.iload 5, 2) := by decide +kernel
theorem dL_isExport_74 : decode cL_isExport 74 = .ok (.invokestatic 112, 3) := by decide +kernel
theorem dL_isExport_77 : decode cL_isExport 77 = .ok (.istore 4, 2) := by decide +kernel
theorem dL_isExport_79 : decode cL_isExport 79 = .ok (.iconst 0, 1) := by decide +kernel
theorem dL_isExport_80 : decode cL_isExport 80 = .ok (.istore 7, 2) := by decide +kernel
theorem dL_isExport_82 : decode cL_isExport 82 = .ok (.iload 7, 2) := by decide +kernel
theorem dL_isExport_84 : decode cL_isExport 84 = .ok (.iconst 4, 1) := by decide +kernel
theorem dL_isExport_85 : decode cL_isExport 85 = .ok (.if_icmp .ge 64, 3) := by decide +kernel
theorem dL_isExport_88 : decode cL_isExport 88 = .ok (.iload 4, 2) := by decide +kernel
theorem dL_isExport_90 : decode cL_isExport 90 = .ok (.ifCond .lt 59, 3) := by decide +kernel
theorem dL_isExport_93 : decode cL_isExport 93 = .ok (.aload_n 0, 1) := by decide +kernel
theorem dL_isExport_94 : decode cL_isExport 94 = .ok (.bipush 12, 2) := by decide +kernel
theorem dL_isExport_96 : decode cL_isExport 96 = .ok (.iload_n 1, 1) := by decide +kernel
theorem dL_isExport_97 : decode cL_isExport 97 = .ok (.iload 4, 2) := by decide +kernel
theorem dL_isExport_99 : decode cL_isExport 99 = .ok (.iconst 0, 1) := by decide +kernel
theorem dL_isExport_100 : decode cL_isExport 100 = .ok (.iconst 0, 1) := by decide +kernel
theorem dL_isExport_101 : decode cL_isExport 101 = .ok (.iconst 0, 1) := by decide +kernel
theorem dL_isExport_102 : decode cL_isExport 102 = .ok (.invokestatic 68, 3) := by decide +kernel
theorem dL_isExport_105 : decode cL_isExport 105 = .ok (.iload 7, 2) := by decide +kernel
theorem dL_isExport_107 : decode cL_isExport 107 = .ok (.ifCond .ne 8, 3) := by decide +kernel
theorem dL_isExport_110 : decode cL_isExport 110 = .ok (.bipush 58, 2) := by decide +kernel
theorem dL_isExport_112 : decode cL_isExport 112 = .ok (.goto 5, 3) := by decide +kernel
theorem dL_isExport_115 : decode cL_isExport 115 = .ok (.bipush 44, 2) := by decide +kernel
theorem dL_isExport_117 : decode cL_isExport 117 = .ok (.if_icmp .ne 23, 3) := by decide +kernel
theorem dL_isExport_120 : decode cL_isExport 120 = .ok (.aload_n 0, 1) := by decide +kernel
theorem dL_isExport_121 : decode cL_isExport 121 = .ok (.iload_n 1, 1) := by decide +kernel
theorem dL_isExport_122 : decode cL_isExport 122 = .ok (.iload 4, 2) := by decide +kernel
theorem dL_isExport_124 : decode cL_isExport 124 = .ok (.iconst 1, 1) := by decide +kernel
theorem dL_isExport_125 : decode cL_isExport 125 = .ok (.iadd, 1) := by decide +kernel
theorem dL_isExport_126 : decode cL_isExport 126 = .ok (.aload_n 0, 1) := by decide +kernel
theorem dL_isExport_127 : decode cL_isExport 127 = .ok (.iload 5, 2) := by decide +kernel
theorem dL_isExport_129 : decode cL_isExport 129 = .ok (.iload 7, 2) := by decide +kernel
theorem dL_isExport_131 : decode cL_isExport 131 = .ok (.invokevirtual 44, 3) := by decide +kernel
theorem dL_isExport_134 : decode cL_isExport 134 = .ok (.invokestatic 112, 3) := by decide +kernel
theorem dL_isExport_137 : decode cL_isExport 137 = .ok (.goto 4, 3) := by decide +kernel
theorem dL_isExport_140 : decode cL_isExport 140 = .ok (.iconst (-1), 1) := by decide +kernel
theorem dL_isExport_141 : decode cL_isExport 141 = .ok (.istore 4, 2) := by decide +kernel
theorem dL_isExport_143 : decode cL_isExport 143 = .ok (.iinc 7 1, 3) := by decide +kernel
theorem dL_isExport_146 : decode cL_isExport 146 = .ok (.goto (-64), 3) := by decide +kernel
theorem dL_isExport_149 : decode cL_isExport 149 = .ok (.iconst 0, 1) := by decide +kernel
theorem dL_isExport_150 : decode cL_isExport 150 = .ok (.istore 7, 2) := by decide +kernel
theorem dL_isExport_152 : decode cL_isExport 152 = .ok (.iload 4, 2) := by decide +kernel
theorem dL_isExport_154 : decode cL_isExport 154 = .ok (.ifCond .lt 43, 3) := by decide +kernel
theorem dL_isExport_157 : decode cL_isExport 157 = .ok (.iload 6, 2) := by decide +kernel
theorem dL_isExport_159 : decode cL_isExport 159 = .ok (.bipush 116, 2) := by decide +kernel
theorem dL_isExport_161 : decode cL_isExport 161 = .ok (.if_icmp .ne 36, 3) := by decide +kernel
theorem dL_isExport_164 : decode cL_isExport 164 = .ok (.iload 7, 2) := by decide +kernel
theorem dL_isExport_166 : decode cL_isExport 166 = .ok (.bipush 11, 2) := by decide +kernel
theorem dL_isExport_168 : decode cL_isExport 168 = .ok (.if_icmp .ge 29, 3) := by decide +kernel
theorem dL_isExport_171 : decode cL_isExport 171 = .ok (.aload_n 0, 1) := by decide +kernel
theorem dL_isExport_172 : decode cL_isExport 172 = .ok (.bipush 12, 2) := by decide +kernel
theorem dL_isExport_174 : decode cL_isExport 174 = .ok (.iload_n 1, 1) := by decide +kernel
theorem dL_isExport_175 : decode cL_isExport 175 = .ok (.iload 4, 2) := by decide +kernel
theorem dL_isExport_177 : decode cL_isExport 177 = .ok (.iconst 0, 1) := by decide +kernel
theorem dL_isExport_178 : decode cL_isExport 178 = .ok (.iconst 0, 1) := by decide +kernel
theorem dL_isExport_179 : decode cL_isExport 179 = .ok (.iconst 0, 1) := by decide +kernel
theorem dL_isExport_180 : decode cL_isExport 180 = .ok (.invokestatic 68, 3) := by decide +kernel
theorem dL_isExport_183 : decode cL_isExport 183 = .ok (.bipush 59, 2) := by decide +kernel
theorem dL_isExport_185 : decode cL_isExport 185 = .ok (.if_icmp .eq 12, 3) := by decide +kernel
theorem dL_isExport_188 : decode cL_isExport 188 = .ok (.iinc 4 1, 3) := by decide +kernel
theorem dL_isExport_191 : decode cL_isExport 191 = .ok (.iinc 7 1, 3) := by decide +kernel
theorem dL_isExport_194 : decode cL_isExport 194 = .ok (.goto (-42), 3) := by decide +kernel
theorem dL_isExport_197 : decode cL_isExport 197 = .ok (.iload 4, 2) := by decide +kernel
theorem dL_isExport_199 : decode cL_isExport 199 = .ok (.ifCond .lt 61, 3) := by decide +kernel
theorem dL_isExport_202 : decode cL_isExport 202 = .ok (.iload 6, 2) := by decide +kernel
theorem dL_isExport_204 : decode cL_isExport 204 = .ok (.bipush 98, 2) := by decide +kernel
theorem dL_isExport_206 : decode cL_isExport 206 = .ok (.if_icmp .eq 30, 3) := by decide +kernel
theorem dL_isExport_209 : decode cL_isExport 209 = .ok (.iload 7, 2) := by decide +kernel
theorem dL_isExport_211 : decode cL_isExport 211 = .ok (.iconst 1, 1) := by decide +kernel
theorem dL_isExport_212 : decode cL_isExport 212 = .ok (.if_icmp .le 48, 3) := by decide +kernel
theorem dL_isExport_215 : decode cL_isExport 215 = .ok (.iload 7, 2) := by decide +kernel
theorem dL_isExport_217 : decode cL_isExport 217 = .ok (.bipush 11, 2) := by decide +kernel
theorem dL_isExport_219 : decode cL_isExport 219 = .ok (.if_icmp .gt 41, 3) := by decide +kernel
theorem dL_isExport_222 : decode cL_isExport 222 = .ok (.iload 7, 2) := by decide +kernel
theorem dL_isExport_224 : decode cL_isExport 224 = .ok (.aload_n 0, 1) := by decide +kernel
theorem dL_isExport_225 : decode cL_isExport 225 = .ok (.iload 5, 2) := by decide +kernel
theorem dL_isExport_227 : decode cL_isExport 227 = .ok (.iconst 2, 1) := by decide +kernel
theorem dL_isExport_228 : decode cL_isExport 228 = .ok (.invokevirtual 44, 3) := by decide +kernel
theorem dL_isExport_231 : decode cL_isExport 231 = .ok (.iconst 2, 1) := by decide +kernel
theorem dL_isExport_232 : decode cL_isExport 232 = .ok (.idiv, 1) := by decide +kernel
theorem dL_isExport_233 : decode cL_isExport 233 = .ok (.if_icmp .le 27, 3) := by decide +kernel
theorem dL_isExport_236 : decode cL_isExport 236 = .ok (.aload_n 0, 1) := by decide +kernel
theorem dL_isExport_237 : decode cL_isExport 237 = .ok (.bipush 12, 2) := by decide +kernel
theorem dL_isExport_239 : decode cL_isExport 239 = .ok (.iload_n 1, 1) := by decide +kernel
theorem dL_isExport_240 : decode cL_isExport 240 = .ok (.iload 4, 2) := by decide +kernel
theorem dL_isExport_242 : decode cL_isExport 242 = .ok (.iconst 0, 1) := by decide +kernel
theorem dL_isExport_243 : decode cL_isExport 243 = .ok (.iconst 0, 1) := by decide +kernel
theorem dL_isExport_244 : decode cL_isExport 244 = .ok (.iconst 0, 1) := by decide +kernel
theorem dL_isExport_245 : decode cL_isExport 245 = .ok (.invokestatic 68, 3) := by decide +kernel
theorem dL_isExport_248 : decode cL_isExport 248 = .ok (.bipush 59, 2) := by decide +kernel
theorem dL_isExport_250 : decode cL_isExport 250 = .ok (.if_icmp .ne 10, 3) := by decide +kernel
theorem dL_isExport_253 : decode cL_isExport 253 = .ok (.iload 4, 2) := by decide +kernel
theorem dL_isExport_255 : decode cL_isExport 255 = .ok (.iconst 1, 1) := by decide +kernel
theorem dL_isExport_256 : decode cL_isExport 256 = .ok (.iadd, 1) := by decide +kernel
theorem dL_isExport_257 : decode cL_isExport 257 = .ok (.goto 4, 3) := by decide +kernel
theorem dL_isExport_260 : decode cL_isExport 260 = .ok (.iconst (-1), 1) := by decide +kernel
theorem dL_isExport_261 : decode cL_isExport 261 = .ok (.istore 4, 2) := by decide +kernel
theorem dL_isExport_263 : decode cL_isExport 263 = .ok (.iinc 5 1, 3) := by decide +kernel
theorem dL_isExport_266 : decode cL_isExport 266 = .ok (.goto (-254), 3) := by decide +kernel
theorem dL_isExport_269 : decode cL_isExport 269 = .ok (.iconst 0, 1) := by decide +kernel
theorem dL_isExport_270 : decode cL_isExport 270 = .ok (.istore 5, 2) := by decide +kernel
theorem dL_isExport_272 : decode cL_isExport 272 = .ok (.iload 5, 2) := by decide +kernel
theorem dL_isExport_274 : decode cL_isExport 274 = .ok (.aload_n 2, 1) := by decide +kernel
theorem dL_isExport_275 : decode cL_isExport 275 = .ok (.iconst 2, 1) := by decide +kernel
theorem dL_isExport_276 : decode cL_isExport 276 = .ok (.iaload, 1) := by decide +kernel
theorem dL_isExport_277 : decode cL_isExport 277 = .ok (.if_icmp .ge 89, 3) := by decide +kernel
theorem dL_isExport_280 : decode cL_isExport 280 = .ok (.iload 4, 2) := by decide +kernel
theorem dL_isExport_282 : decode cL_isExport 282 = .ok (.ifCond .lt 84, 3) := by decide +kernel
theorem dL_isExport_285 : decode cL_isExport 285 = .ok (.aload_n 0, 1) := by decide +kernel
theorem dL_isExport_286 : decode cL_isExport 286 = .ok (.iload 5, 2) := by decide +kernel
theorem dL_isExport_288 : decode cL_isExport 288 = .ok (.invokevirtual 80, 3) := by decide +kernel
theorem dL_isExport_291 : decode cL_isExport 291 = .ok (.ifCond .eq 69, 3) := by decide +kernel
theorem dL_isExport_294 : decode cL_isExport 294 = .ok (.aload_n 0, 1) := by decide +kernel
theorem dL_isExport_295 : decode cL_isExport 295 = .ok (.bipush 12, 2) := by decide +kernel
theorem dL_isExport_297 : decode cL_isExport 297 = .ok (.iload_n 1, 1) := by decide +kernel
theorem dL_isExport_298 : decode cL_isExport 298 = .ok (.iload 4, 2) := by decide +kernel
theorem dL_isExport_300 : decode cL_isExport 300 = .ok (.iconst 0, 1) := by decide +kernel
theorem dL_isExport_301 : decode cL_isExport 301 = .ok (.iconst 0, 1) := by decide +kernel
theorem dL_isExport_302 : decode cL_isExport 302 = .ok (.iconst 0, 1) := by decide +kernel
theorem dL_isExport_303 : decode cL_isExport 303 = .ok (.invokestatic 68, 3) := by decide +kernel
theorem dL_isExport_306 : decode cL_isExport 306 = .ok (.bipush 114, 2) := by decide +kernel
theorem dL_isExport_308 : decode cL_isExport 308 = .ok (.if_icmp .ne 17, 3) := by decide +kernel
theorem dL_isExport_311 : decode cL_isExport 311 = .ok (.aload_n 0, 1) := by decide +kernel
theorem dL_isExport_312 : decode cL_isExport 312 = .ok (.iload_n 1, 1) := by decide +kernel
theorem dL_isExport_313 : decode cL_isExport 313 = .ok (.iload 4, 2) := by decide +kernel
theorem dL_isExport_315 : decode cL_isExport 315 = .ok (.iconst 1, 1) := by decide +kernel
theorem dL_isExport_316 : decode cL_isExport 316 = .ok (.iadd, 1) := by decide +kernel
theorem dL_isExport_317 : decode cL_isExport 317 = .ok (.iload 5, 2) := by decide +kernel
theorem dL_isExport_319 : decode cL_isExport 319 = .ok (.invokestatic 112, 3) := by decide +kernel
theorem dL_isExport_322 : decode cL_isExport 322 = .ok (.goto 4, 3) := by decide +kernel
theorem dL_isExport_325 : decode cL_isExport 325 = .ok (.iconst (-1), 1) := by decide +kernel
theorem dL_isExport_326 : decode cL_isExport 326 = .ok (.istore 4, 2) := by decide +kernel
theorem dL_isExport_328 : decode cL_isExport 328 = .ok (.iload 4, 2) := by decide +kernel
theorem dL_isExport_330 : decode cL_isExport 330 = .ok (.ifCond .lt 27, 3) := by decide +kernel
theorem dL_isExport_333 : decode cL_isExport 333 = .ok (.aload_n 0, 1) := by decide +kernel
theorem dL_isExport_334 : decode cL_isExport 334 = .ok (.bipush 12, 2) := by decide +kernel
theorem dL_isExport_336 : decode cL_isExport 336 = .ok (.iload_n 1, 1) := by decide +kernel
theorem dL_isExport_337 : decode cL_isExport 337 = .ok (.iload 4, 2) := by decide +kernel
theorem dL_isExport_339 : decode cL_isExport 339 = .ok (.iconst 0, 1) := by decide +kernel
theorem dL_isExport_340 : decode cL_isExport 340 = .ok (.iconst 0, 1) := by decide +kernel
theorem dL_isExport_341 : decode cL_isExport 341 = .ok (.iconst 0, 1) := by decide +kernel
theorem dL_isExport_342 : decode cL_isExport 342 = .ok (.invokestatic 68, 3) := by decide +kernel
theorem dL_isExport_345 : decode cL_isExport 345 = .ok (.bipush 59, 2) := by decide +kernel
theorem dL_isExport_347 : decode cL_isExport 347 = .ok (.if_icmp .ne 10, 3) := by decide +kernel
theorem dL_isExport_350 : decode cL_isExport 350 = .ok (.iload 4, 2) := by decide +kernel
theorem dL_isExport_352 : decode cL_isExport 352 = .ok (.iconst 1, 1) := by decide +kernel
theorem dL_isExport_353 : decode cL_isExport 353 = .ok (.iadd, 1) := by decide +kernel
theorem dL_isExport_354 : decode cL_isExport 354 = .ok (.goto 4, 3) := by decide +kernel
theorem dL_isExport_357 : decode cL_isExport 357 = .ok (.iconst (-1), 1) := by decide +kernel
theorem dL_isExport_358 : decode cL_isExport 358 = .ok (.istore 4, 2) := by decide +kernel
theorem dL_isExport_360 : decode cL_isExport 360 = .ok (.iinc 5 1, 3) := by decide +kernel
theorem dL_isExport_363 : decode cL_isExport 363 = .ok (.goto (-91), 3) := by decide +kernel
theorem dL_isExport_366 : decode cL_isExport 366 = .ok (.iload 4, 2) := by decide +kernel
theorem dL_isExport_368 : decode cL_isExport 368 = .ok (.iload_n 3, 1) := by decide +kernel
theorem dL_isExport_369 : decode cL_isExport 369 = .ok (.if_icmp .ne 24, 3) := by decide +kernel
theorem dL_isExport_372 : decode cL_isExport 372 = .ok (.aload_n 0, 1) := by decide +kernel
theorem dL_isExport_373 : decode cL_isExport 373 = .ok (.bipush 12, 2) := by decide +kernel
theorem dL_isExport_375 : decode cL_isExport 375 = .ok (.iload_n 1, 1) := by decide +kernel
theorem dL_isExport_376 : decode cL_isExport 376 = .ok (.iload_n 3, 1) := by decide +kernel
theorem dL_isExport_377 : decode cL_isExport 377 = .ok (.iconst 0, 1) := by decide +kernel
theorem dL_isExport_378 : decode cL_isExport 378 = .ok (.iconst 0, 1) := by decide +kernel
theorem dL_isExport_379 : decode cL_isExport 379 = .ok (.iconst 0, 1) := by decide +kernel
theorem dL_isExport_380 : decode cL_isExport 380 = .ok (.invokestatic 68, 3) := by decide +kernel
theorem dL_isExport_383 : decode cL_isExport 383 = .ok (.sipush (-5004), 3) := by decide +kernel
theorem dL_isExport_386 : decode cL_isExport 386 = .ok (.if_icmp .ne 7, 3) := by decide +kernel
theorem dL_isExport_389 : decode cL_isExport 389 = .ok (.iconst 1, 1) := by decide +kernel
theorem dL_isExport_390 : decode cL_isExport 390 = .ok (.goto 4, 3) := by decide +kernel
theorem dL_isExport_393 : decode cL_isExport 393 = .ok (.iconst 0, 1) := by decide +kernel
theorem dL_isExport_394 : decode cL_isExport 394 = .ok (.istore 5, 2) := by decide +kernel
theorem dL_isExport_396 : decode cL_isExport 396 = .ok (.iconst 0, 1) := by decide +kernel
theorem dL_isExport_397 : decode cL_isExport 397 = .ok (.istore 6, 2) := by decide +kernel
theorem dL_isExport_399 : decode cL_isExport 399 = .ok (.iload 6, 2) := by decide +kernel
theorem dL_isExport_401 : decode cL_isExport 401 = .ok (.iconst 3, 1) := by decide +kernel
theorem dL_isExport_402 : decode cL_isExport 402 = .ok (.if_icmp .ge 54, 3) := by decide +kernel
theorem dL_isExport_405 : decode cL_isExport 405 = .ok (.iload_n 3, 1) := by decide +kernel
theorem dL_isExport_406 : decode cL_isExport 406 = .ok (.ifCond .le 50, 3) := by decide +kernel
theorem dL_isExport_409 : decode cL_isExport 409 = .ok (.iload 5, 2) := by decide +kernel
theorem dL_isExport_411 : decode cL_isExport 411 = .ok (.ifCond .eq 45, 3) := by decide +kernel
theorem dL_isExport_414 : decode cL_isExport 414 = .ok (.aload_n 0, 1) := by decide +kernel
theorem dL_isExport_415 : decode cL_isExport 415 = .ok (.iload_n 1, 1) := by decide +kernel
theorem dL_isExport_416 : decode cL_isExport 416 = .ok (.iload_n 3, 1) := by decide +kernel
theorem dL_isExport_417 : decode cL_isExport 417 = .ok (.iconst 1, 1) := by decide +kernel
theorem dL_isExport_418 : decode cL_isExport 418 = .ok (.isub, 1) := by decide +kernel
theorem dL_isExport_419 : decode cL_isExport 419 = .ok (.iload 6, 2) := by decide +kernel
theorem dL_isExport_421 : decode cL_isExport 421 = .ok (.imul, 1) := by decide +kernel
theorem dL_isExport_422 : decode cL_isExport 422 = .ok (.iconst 2, 1) := by decide +kernel
theorem dL_isExport_423 : decode cL_isExport 423 = .ok (.idiv, 1) := by decide +kernel
theorem dL_isExport_424 : decode cL_isExport 424 = .ok (.invokevirtual 116, 3) := by decide +kernel
theorem dL_isExport_427 : decode cL_isExport 427 = .ok (.aload_n 0, 1) := by decide +kernel
theorem dL_isExport_428 : decode cL_isExport 428 = .ok (.iload_n 1, 1) := by decide +kernel
theorem dL_isExport_429 : decode cL_isExport 429 = .ok (.iload_n 3, 1) := by decide +kernel
theorem dL_isExport_430 : decode cL_isExport 430 = .ok (.iconst 1, 1) := by decide +kernel
theorem dL_isExport_431 : decode cL_isExport 431 = .ok (.isub, 1) := by decide +kernel
theorem dL_isExport_432 : decode cL_isExport 432 = .ok (.iload 6, 2) := by decide +kernel
theorem dL_isExport_434 : decode cL_isExport 434 = .ok (.imul, 1) := by decide +kernel
theorem dL_isExport_435 : decode cL_isExport 435 = .ok (.iconst 2, 1) := by decide +kernel
theorem dL_isExport_436 : decode cL_isExport 436 = .ok (.idiv, 1) := by decide +kernel
theorem dL_isExport_437 : decode cL_isExport 437 = .ok (.invokevirtual 55, 3) := by decide +kernel
theorem dL_isExport_440 : decode cL_isExport 440 = .ok (.if_icmp .ne 7, 3) := by decide +kernel
theorem dL_isExport_443 : decode cL_isExport 443 = .ok (.iconst 1, 1) := by decide +kernel
theorem dL_isExport_444 : decode cL_isExport 444 = .ok (.goto 4, 3) := by decide +kernel
theorem dL_isExport_447 : decode cL_isExport 447 = .ok (.iconst 0, 1) := by decide +kernel
theorem dL_isExport_448 : decode cL_isExport 448 = .ok (.istore 5, 2) := by decide +kernel
theorem dL_isExport_450 : decode cL_isExport 450 = .ok (.iinc 6 1, 3) := by decide +kernel
theorem dL_isExport_453 : decode cL_isExport 453 = .ok (.goto (-54), 3) := by decide +kernel
theorem dL_isExport_456 : decode cL_isExport 456 = .ok (.iload 5, 2) := by decide +kernel
theorem dL_isExport_458 : decode cL_isExport 458 = .ok (.ireturn, 1) := by decide +kernel
theorem ml_RL_100 : MV RL 100 7 yX7_standsAt 1 := ⟨⟨by decide +kernel, by decide +kernel, by decide +kernel⟩, tb15 (mem_i 12 rfl), tb0 (mem_i 1 rfl), Or.inl (tb15 (mem_i 11 rfl)), RX7, TX7, 9, rfl, rfl, tb15 (mem_i 13 rfl)⟩
theorem ml_RL_103 : MV RL 103 7 yX7_branches 1 := ⟨⟨by decide +kernel, by decide +kernel, by decide +kernel⟩, tb13 (mem_i 6 rfl), tb0 (mem_i 1 rfl), Or.inl (tb13 (mem_i 5 rfl)), RX7, TX7, 9, rfl, rfl, tb13 (mem_i 7 rfl)⟩
theorem ml_RL_106 : MV RL 106 7 yX7_below 1 := ⟨⟨by decide +kernel, by decide +kernel, by decide +kernel⟩, tb15 (mem_i 16 rfl), tb0 (mem_i 1 rfl), Or.inl (tb15 (mem_i 15 rfl)), RX7, TX7, 9, rfl, rfl, tb15 (mem_i 17 rfl)⟩
theorem ml_RL_96 : MS RL 96 yL_isOn 3 := ⟨⟨by decide +kernel, by decide +kernel, by decide +kernel⟩, tb15 (mem_i 5 rfl), tb0 (mem_i 0 rfl), Or.inl (tb15 (mem_i 4 rfl))⟩
theorem ml_RL_93 : MV RL 93 7 yX7_acts 0 := ⟨⟨by decide +kernel, by decide +kernel, by decide +kernel⟩, tb12 (mem_i 16 rfl), tb0 (mem_i 1 rfl), Or.inl (tb12 (mem_i 15 rfl)), RX7, TX7, 9, rfl, rfl, tb12 (mem_i 17 rfl)⟩
theorem ml_RL_116 : MV RL 116 7 yX7_charAnew 2 := ⟨⟨by decide +kernel, by decide +kernel, by decide +kernel⟩, tb14 (mem_i 26 rfl), tb0 (mem_i 1 rfl), Or.inl (tb14 (mem_i 25 rfl)), RX7, TX7, 9, rfl, rfl, tb14 (mem_i 27 rfl)⟩
theorem ml_RL_112 : MS RL 112 yL_reads 4 := ⟨⟨by decide +kernel, by decide +kernel, by decide +kernel⟩, tb14 (mem_i 23 rfl), tb0 (mem_i 0 rfl), Or.inl (tb14 (mem_i 22 rfl))⟩
theorem ml_RL_109 : MV RL 109 7 yX7_length 1 := ⟨⟨by decide +kernel, by decide +kernel, by decide +kernel⟩, tb14 (mem_i 19 rfl), tb0 (mem_i 1 rfl), Or.inl (tb14 (mem_i 18 rfl)), RX7, TX7, 9, rfl, rfl, tb14 (mem_i 20 rfl)⟩
def f_L_areTrees_b320   (S : HS) (x4 : Int32) : Option (HS × Int32) :=
if nz x4 = true then some (S, x4) else none
def f_L_areTrees_b312  (rec105 : HS × Int32 × Int32 → Option (HS × Int32)) (S : HS) (x5 : Int32) (t0 : Int32) : Option (HS × Int32) :=
rec105 (S, t0, (x5 + (1 : Int32)))
def f_L_areTrees_b311  (rec105 : HS × Int32 × Int32 → Option (HS × Int32)) (S : HS) (x5 : Int32) : Option (HS × Int32) :=
f_L_areTrees_b312  rec105 S x5 (0 : Int32)
def f_L_areTrees_b242  (rec105 : HS × Int32 × Int32 → Option (HS × Int32)) (rec125 : HS × Int32 × Int32 × Int32 × Int32 → Option (HS × Int32)) (S : HS) (x5 : Int32) (x6 : Int32) (x8 : Int32) (t0 : Int32) (t1 : Int32) : Option (HS × Int32) :=
rec125 (S, x5, x6, (t0 + t1), (x8 + (1 : Int32)))
def f_L_areTrees_b241  (rec105 : HS × Int32 × Int32 → Option (HS × Int32)) (rec125 : HS × Int32 × Int32 × Int32 × Int32 → Option (HS × Int32)) (S : HS) (x5 : Int32) (x6 : Int32) (x8 : Int32) (t0 : Int32) : Option (HS × Int32) :=
f_L_areTrees_b242  rec105 rec125 S x5 x6 x8 t0 (0 : Int32)
def f_L_areTrees_b221  (rec105 : HS × Int32 × Int32 → Option (HS × Int32)) (rec125 : HS × Int32 × Int32 × Int32 × Int32 → Option (HS × Int32)) (S : HS) (x5 : Int32) (x6 : Int32) (x7 : Int32) (x8 : Int32) (x9 : Int32) (x10 : Int32) : Option (HS × Int32) :=
if x9 = 0 then
f_L_areTrees_b241  rec105 rec125 S x5 x6 x8 x7
else
if ib x5 (4) = true then
if x10 = (S.1 39 x5.toNatClampNeg) then
f_L_areTrees_b242  rec105 rec125 S x5 x6 x8 x7 (1 : Int32)
else
f_L_areTrees_b241  rec105 rec125 S x5 x6 x8 x7
else none
def F_L_areTrees_b190  (rec105 : HS × Int32 × Int32 → Option (HS × Int32)) (rec125 : HS × Int32 × Int32 × Int32 × Int32 → Option (HS × Int32)) (rec190 : HS × Int32 × Int32 × Int32 × Int32 × Int32 × Int32 → Option (HS × Int32)) : HS × Int32 × Int32 × Int32 × Int32 × Int32 × Int32 → Option (HS × Int32) := fun q => match q with
  | (S, x5, x6, x7, x8, x9, x10) =>
    if x10 ≤ 0 then
    f_L_areTrees_b221  rec105 rec125 S x5 x6 x7 x8 x9 x10
    else
    if ib x5 (4) = true then
    if x10 = (S.1 39 x5.toNatClampNeg) then
    f_L_areTrees_b221  rec105 rec125 S x5 x6 x7 x8 x9 x10
    else
    if ib (x10 - (1 : Int32)) (60) = true then
    (f_L_part (S.1 36 (x10 - (1 : Int32)).toNatClampNeg) (2 : Int32) (6 : Int32) S).bind (fun o213 =>
    rec190 (S, x5, x6, x7, x8, x9, o213))
    else none
    else none
def f_L_areTrees_b190  (rec105 : HS × Int32 × Int32 → Option (HS × Int32)) (rec125 : HS × Int32 × Int32 × Int32 × Int32 → Option (HS × Int32)) (S : HS) (x5 : Int32) (x6 : Int32) (x7 : Int32) (x8 : Int32) (x9 : Int32) (x10 : Int32) : Option (HS × Int32) := fx (F_L_areTrees_b190  rec105 rec125) FU (S, x5, x6, x7, x8, x9, x10)
def f_L_areTrees_b187  (rec105 : HS × Int32 × Int32 → Option (HS × Int32)) (rec125 : HS × Int32 × Int32 × Int32 × Int32 → Option (HS × Int32)) (S : HS) (x5 : Int32) (x7 : Int32) (x8 : Int32) (x9 : Int32) (x10 : Int32) (t0 : Int32) (t1 : Int32) : Option (HS × Int32) :=
f_L_areTrees_b190  rec105 rec125 S x5 (t0 + t1) x7 x8 x9 x10
def f_L_areTrees_b186  (rec105 : HS × Int32 × Int32 → Option (HS × Int32)) (rec125 : HS × Int32 × Int32 × Int32 × Int32 → Option (HS × Int32)) (S : HS) (x5 : Int32) (x7 : Int32) (x8 : Int32) (x9 : Int32) (x10 : Int32) (t0 : Int32) : Option (HS × Int32) :=
f_L_areTrees_b187  rec105 rec125 S x5 x7 x8 x9 x10 t0 (0 : Int32)
def f_L_areTrees_b152  (rec105 : HS × Int32 × Int32 → Option (HS × Int32)) (rec125 : HS × Int32 × Int32 × Int32 × Int32 → Option (HS × Int32)) (S : HS) (x5 : Int32) (x6 : Int32) (x7 : Int32) (x8 : Int32) (t0 : Int32) : Option (HS × Int32) :=
if ib x8 (60) = true then
(f_L_part (S.1 36 x8.toNatClampNeg) (2 : Int32) (6 : Int32) S).bind (fun o161 =>
if t0 = 0 then
f_L_areTrees_b186  rec105 rec125 S x5 x7 x8 t0 o161 x6
else
if ib x5 (4) = true then
if o161 = (S.1 39 x5.toNatClampNeg) then
f_L_areTrees_b187  rec105 rec125 S x5 x7 x8 t0 o161 x6 (1 : Int32)
else
f_L_areTrees_b186  rec105 rec125 S x5 x7 x8 t0 o161 x6
else none)
else none
def F_L_areTrees_b125  (rec105 : HS × Int32 × Int32 → Option (HS × Int32)) (rec125 : HS × Int32 × Int32 × Int32 × Int32 → Option (HS × Int32)) : HS × Int32 × Int32 × Int32 × Int32 → Option (HS × Int32) := fun q => match q with
  | (S, x5, x6, x7, x8) =>
    if ib (0 : Int32) (5) = true then
    if (S.1 38 (0 : Int32).toNatClampNeg) ≤ x8 then
    (f_X7_standsAt x5 S).bind (fun o254 => if o254.2.1 = 0 then
    (fun (o254 : XO) =>
    if ib x5 (4) = true then
    if o254.2.2 = ((o254.1.1 39 x5.toNatClampNeg) - (1 : Int32)) then
    (f_X7_branches x5 o254.1).bind (fun o269 => if o269.2.1 = 0 then
    (fun (o269 : XO) =>
    if o269.2.2 = x6 then
    (f_X7_below x5 o269.1).bind (fun o280 => if o280.2.1 = 0 then
    (fun (o280 : XO) =>
    if o280.2.2 = x7 then
    (f_L_asks (7 : Int32) x5 x6 (0 : Int32) (0 : Int32) (0 : Int32) o280.1).bind (fun o298 =>
    if o298.2.2 = (-5007 : Int32) then
    f_L_areTrees_b312  rec105 o298.1 x5 (1 : Int32)
    else
    f_L_areTrees_b311  rec105 o298.1 x5)
    else
    f_L_areTrees_b311  rec105 o280.1 x5) o280
    else none)
    else
    f_L_areTrees_b311  rec105 o269.1 x5) o269
    else none)
    else
    f_L_areTrees_b311  rec105 o254.1 x5
    else none) o254
    else none)
    else
    if ib x8 (60) = true then
    (f_L_part (S.1 36 x8.toNatClampNeg) (0 : Int32) (2 : Int32) S).bind (fun o139 =>
    if o139 = x5 then
    f_L_areTrees_b152  rec105 rec125 S x5 x6 x7 x8 (1 : Int32)
    else
    f_L_areTrees_b152  rec105 rec125 S x5 x6 x7 x8 (0 : Int32))
    else none
    else none
def f_L_areTrees_b125  (rec105 : HS × Int32 × Int32 → Option (HS × Int32)) (S : HS) (x5 : Int32) (x6 : Int32) (x7 : Int32) (x8 : Int32) : Option (HS × Int32) := fx (F_L_areTrees_b125  rec105) FU (S, x5, x6, x7, x8)
def F_L_areTrees_b105   (rec105 : HS × Int32 × Int32 → Option (HS × Int32)) : HS × Int32 × Int32 → Option (HS × Int32) := fun q => match q with
  | (S, x4, x5) =>
    if (4 : Int32) ≤ x5 then
    f_L_areTrees_b320   S x4
    else
    if x4 = 0 then
    f_L_areTrees_b320   S x4
    else
    f_L_areTrees_b125  rec105 S x5 (0 : Int32) (0 : Int32) (0 : Int32)
def f_L_areTrees_b105   (S : HS) (x4 : Int32) (x5 : Int32) : Option (HS × Int32) := fx (F_L_areTrees_b105 ) 5 (S, x4, x5)
def f_L_areTrees_b102   (S : HS) (x4 : Int32) : Option (HS × Int32) :=
f_L_areTrees_b105   S x4 (0 : Int32)
def f_L_areTrees_b94  (rec20 : HS × Int32 × Int32 → Option (HS × Int32)) (S : HS) (x5 : Int32) (t0 : Int32) : Option (HS × Int32) :=
rec20 (S, t0, (x5 + (1 : Int32)))
def f_L_areTrees_b93  (rec20 : HS × Int32 × Int32 → Option (HS × Int32)) (S : HS) (x5 : Int32) : Option (HS × Int32) :=
f_L_areTrees_b94  rec20 S x5 (0 : Int32)
def f_L_areTrees_b89  (rec20 : HS × Int32 × Int32 → Option (HS × Int32)) (S : HS) (x5 : Int32) : Option (HS × Int32) :=
f_L_areTrees_b94  rec20 S x5 (1 : Int32)
def f_L_areTrees_b67  (rec20 : HS × Int32 × Int32 → Option (HS × Int32)) (S : HS) (x5 : Int32) : Option (HS × Int32) :=
if ib x5 (60) = true then
(f_L_part (S.1 36 x5.toNatClampNeg) (8 : Int32) (1 : Int32) S).bind (fun o74 =>
if o74 = 0 then
f_L_areTrees_b89  rec20 S x5
else
(f_X7_isVoid x5 S).bind (fun o83 => if o83.2.1 = 0 then
(fun (o83 : XO) =>
if o83.2.2 = 0 then
f_L_areTrees_b89  rec20 o83.1 x5
else
f_L_areTrees_b93  rec20 o83.1 x5) o83
else none))
else none
def F_L_areTrees_b20   (rec20 : HS × Int32 × Int32 → Option (HS × Int32)) : HS × Int32 × Int32 → Option (HS × Int32) := fun q => match q with
  | (S, x4, x5) =>
    if ib (0 : Int32) (5) = true then
    if (S.1 38 (0 : Int32).toNatClampNeg) ≤ x5 then
    f_L_areTrees_b102   S x4
    else
    if x4 = 0 then
    f_L_areTrees_b102   S x4
    else
    (f_L_isOn x5 S).bind (fun o37 =>
    (f_X7_counts x5 S).bind (fun o45 => if o45.2.1 = 0 then
    (fun (o45 : XO) =>
    if o45.2.2 = o37 then
    if o37 = 0 then
    (f_X7_isVoid x5 o45.1).bind (fun o61 => if o61.2.1 = 0 then
    (fun (o61 : XO) =>
    if o61.2.2 = 0 then
    f_L_areTrees_b67  rec20 o61.1 x5
    else
    f_L_areTrees_b93  rec20 o61.1 x5) o61
    else none)
    else
    f_L_areTrees_b67  rec20 o45.1 x5
    else
    f_L_areTrees_b93  rec20 o45.1 x5) o45
    else none))
    else none
def f_L_areTrees_b20   (S : HS) (x4 : Int32) (x5 : Int32) : Option (HS × Int32) := fx (F_L_areTrees_b20 ) FU (S, x4, x5)
def f_L_areTrees_b15   (S : HS) (t0 : Int32) : Option (HS × Int32) :=
f_L_areTrees_b20   S t0 (0 : Int32)
def f_L_areTrees  (S : HS) : Option (HS × Int32) :=
(f_X7_acts S).bind (fun o1 =>
if ib (0 : Int32) (5) = true then
if o1 = (S.1 38 (0 : Int32).toNatClampNeg) then
f_L_areTrees_b15   S (1 : Int32)
else
f_L_areTrees_b15   S (0 : Int32)
else none)
def rm_L_areTrees : Room := { frames := 9, cells := 5, slots := 30, locals := 237 }
set_option maxRecDepth 100000 in
set_option maxHeartbeats 40000000 in
theorem c_L_areTrees (l : Launch) (hl9 : l.stackTraces = false)  (S : HS) (out : HS × Int32) (h : f_L_areTrees  S = some out) : CtK l yL_areTrees cL_areTrees 11 (some .boolean) rm_L_areTrees [vR 0, vR 36, vR 38, vR 39] S (some (vI out.2)) out.1 := by
  refine CtK.intro (own := RL) (lv := [(0, vR 0), (1, vR 36), (2, vR 38), (3, vR 39)]) (by decide +kernel) rfl rfl (Nat.le_of_ble_eq_true rfl) ?_
  intro G hG hR
  have hRc : rm_L_areTrees.cells = 5 := rfl
  have hRs : rm_L_areTrees.slots = 30 := rfl
  revert h
  have hb320 : ∀ (k n : Nat), k + (0 + 0) ≤ 5 → n + 6 * (0 + 0) ≤ 30 → ∀ (S : HS) (x4 : Int32), f_L_areTrees_b320  S x4 = some out → G k n S [(4, vI x4)] 320 [] := by
    intro  k n hk hn S x4
    unfold f_L_areTrees_b320
    refine s_iload hG dL_areTrees_320 rfl ?_
    exact s_rKZ hR (by omega) (by omega) dL_areTrees_322
  have hb312 : ∀ (m105 : Nat) (rec105 : HS × Int32 × Int32 → Option (HS × Int32)) (hm105 : 0 + 0 ≤ m105) (hrec105 : ∀ (k n : Nat), k + m105 ≤ 5 → n + 6 * m105 ≤ 30 → ∀ (S : HS) (x4 : Int32) (x5 : Int32), rec105 (S, x4, x5) = some out → G k n S [(0, vR 0), (1, vR 36), (2, vR 38), (3, vR 39), (4, vI x4), (5, vI x5)] 105 []) (k n : Nat), k + (0 + m105) ≤ 5 → n + 6 * (0 + m105) ≤ 30 → ∀ (S : HS) (x5 : Int32) (t0 : Int32), f_L_areTrees_b312  rec105 S x5 t0 = some out → G k n S [(0, vR 0), (1, vR 36), (2, vR 38), (3, vR 39), (5, vI x5)] 312 [vI t0] := by
    intro m105 rec105 hm105 hrec105 k n hk hn S x5 t0
    unfold f_L_areTrees_b312
    refine s_istore hG (lv' := [(4, vI t0), (0, vR 0), (1, vR 36), (2, vR 38), (3, vR 39), (5, vI x5)]) dL_areTrees_312 (by decide) rfl ?_
    refine s_iinc hG (v := (x5 + (1 : Int32))) (lv' := [(5, vI (x5 + (1 : Int32))), (4, vI t0), (0, vR 0), (1, vR 36), (2, vR 38), (3, vR 39)]) dL_areTrees_314 rfl rfl (by decide) rfl ?_
    refine s_goto hG (tgt := 105) dL_areTrees_317 (by decide) ?_
    refine s_lv hG [2, 3, 4, 5, 1, 0] rfl ?_
    exact hrec105 _ _ (by omega) (by omega) _ _ _
  have hb311 : ∀ (m105 : Nat) (rec105 : HS × Int32 × Int32 → Option (HS × Int32)) (hm105 : 0 + 0 ≤ m105) (hrec105 : ∀ (k n : Nat), k + m105 ≤ 5 → n + 6 * m105 ≤ 30 → ∀ (S : HS) (x4 : Int32) (x5 : Int32), rec105 (S, x4, x5) = some out → G k n S [(0, vR 0), (1, vR 36), (2, vR 38), (3, vR 39), (4, vI x4), (5, vI x5)] 105 []) (k n : Nat), k + (0 + m105) ≤ 5 → n + 6 * (0 + m105) ≤ 30 → ∀ (S : HS) (x5 : Int32), f_L_areTrees_b311  rec105 S x5 = some out → G k n S [(0, vR 0), (1, vR 36), (2, vR 38), (3, vR 39), (5, vI x5)] 311 [] := by
    intro m105 rec105 hm105 hrec105 k n hk hn S x5
    unfold f_L_areTrees_b311
    refine s_iconst hG (v := (0 : Int32)) dL_areTrees_311 (by decide) ?_
    exact hb312 _ _ hm105 hrec105 _ _ (by omega) (by omega) _ _ _
  have hb242 : ∀ (m105 : Nat) (rec105 : HS × Int32 × Int32 → Option (HS × Int32)) (hm105 : 0 + 0 ≤ m105) (hrec105 : ∀ (k n : Nat), k + m105 ≤ 5 → n + 6 * m105 ≤ 30 → ∀ (S : HS) (x4 : Int32) (x5 : Int32), rec105 (S, x4, x5) = some out → G k n S [(0, vR 0), (1, vR 36), (2, vR 38), (3, vR 39), (4, vI x4), (5, vI x5)] 105 []) (m125 : Nat) (rec125 : HS × Int32 × Int32 × Int32 × Int32 → Option (HS × Int32)) (hm125 : 1 + m105 ≤ m125) (hrec125 : ∀ (k n : Nat), k + m125 ≤ 5 → n + 6 * m125 ≤ 30 → ∀ (S : HS) (x5 : Int32) (x6 : Int32) (x7 : Int32) (x8 : Int32), rec125 (S, x5, x6, x7, x8) = some out → G k n S [(0, vR 0), (1, vR 36), (2, vR 38), (3, vR 39), (5, vI x5), (6, vI x6), (7, vI x7), (8, vI x8)] 125 []) (k n : Nat), k + (0 + m125) ≤ 5 → n + 6 * (0 + m125) ≤ 30 → ∀ (S : HS) (x5 : Int32) (x6 : Int32) (x8 : Int32) (t0 : Int32) (t1 : Int32), f_L_areTrees_b242  rec105 rec125 S x5 x6 x8 t0 t1 = some out → G k n S [(0, vR 0), (1, vR 36), (2, vR 38), (3, vR 39), (5, vI x5), (6, vI x6), (8, vI x8)] 242 [vI t1, vI t0] := by
    intro m105 rec105 hm105 hrec105 m125 rec125 hm125 hrec125 k n hk hn S x5 x6 x8 t0 t1
    unfold f_L_areTrees_b242
    refine s_iadd hG dL_areTrees_242 ?_
    refine s_istore hG (lv' := [(7, vI (t0 + t1)), (0, vR 0), (1, vR 36), (2, vR 38), (3, vR 39), (5, vI x5), (6, vI x6), (8, vI x8)]) dL_areTrees_243 (by decide) rfl ?_
    refine s_iinc hG (v := (x8 + (1 : Int32))) (lv' := [(8, vI (x8 + (1 : Int32))), (7, vI (t0 + t1)), (0, vR 0), (1, vR 36), (2, vR 38), (3, vR 39), (5, vI x5), (6, vI x6)]) dL_areTrees_245 rfl rfl (by decide) rfl ?_
    refine s_goto hG (tgt := 125) dL_areTrees_248 (by decide) ?_
    refine s_lv hG [2, 3, 4, 5, 6, 7, 1, 0] rfl ?_
    exact hrec125 _ _ (by omega) (by omega) _ _ _ _ _
  have hb241 : ∀ (m105 : Nat) (rec105 : HS × Int32 × Int32 → Option (HS × Int32)) (hm105 : 0 + 0 ≤ m105) (hrec105 : ∀ (k n : Nat), k + m105 ≤ 5 → n + 6 * m105 ≤ 30 → ∀ (S : HS) (x4 : Int32) (x5 : Int32), rec105 (S, x4, x5) = some out → G k n S [(0, vR 0), (1, vR 36), (2, vR 38), (3, vR 39), (4, vI x4), (5, vI x5)] 105 []) (m125 : Nat) (rec125 : HS × Int32 × Int32 × Int32 × Int32 → Option (HS × Int32)) (hm125 : 1 + m105 ≤ m125) (hrec125 : ∀ (k n : Nat), k + m125 ≤ 5 → n + 6 * m125 ≤ 30 → ∀ (S : HS) (x5 : Int32) (x6 : Int32) (x7 : Int32) (x8 : Int32), rec125 (S, x5, x6, x7, x8) = some out → G k n S [(0, vR 0), (1, vR 36), (2, vR 38), (3, vR 39), (5, vI x5), (6, vI x6), (7, vI x7), (8, vI x8)] 125 []) (k n : Nat), k + (0 + m125) ≤ 5 → n + 6 * (0 + m125) ≤ 30 → ∀ (S : HS) (x5 : Int32) (x6 : Int32) (x8 : Int32) (t0 : Int32), f_L_areTrees_b241  rec105 rec125 S x5 x6 x8 t0 = some out → G k n S [(0, vR 0), (1, vR 36), (2, vR 38), (3, vR 39), (5, vI x5), (6, vI x6), (8, vI x8)] 241 [vI t0] := by
    intro m105 rec105 hm105 hrec105 m125 rec125 hm125 hrec125 k n hk hn S x5 x6 x8 t0
    unfold f_L_areTrees_b241
    refine s_iconst hG (v := (0 : Int32)) dL_areTrees_241 (by decide) ?_
    exact hb242 _ _ hm105 hrec105 _ _ hm125 hrec125 _ _ (by omega) (by omega) _ _ _ _ _ _
  have hb221 : ∀ (m105 : Nat) (rec105 : HS × Int32 × Int32 → Option (HS × Int32)) (hm105 : 0 + 0 ≤ m105) (hrec105 : ∀ (k n : Nat), k + m105 ≤ 5 → n + 6 * m105 ≤ 30 → ∀ (S : HS) (x4 : Int32) (x5 : Int32), rec105 (S, x4, x5) = some out → G k n S [(0, vR 0), (1, vR 36), (2, vR 38), (3, vR 39), (4, vI x4), (5, vI x5)] 105 []) (m125 : Nat) (rec125 : HS × Int32 × Int32 × Int32 × Int32 → Option (HS × Int32)) (hm125 : 1 + m105 ≤ m125) (hrec125 : ∀ (k n : Nat), k + m125 ≤ 5 → n + 6 * m125 ≤ 30 → ∀ (S : HS) (x5 : Int32) (x6 : Int32) (x7 : Int32) (x8 : Int32), rec125 (S, x5, x6, x7, x8) = some out → G k n S [(0, vR 0), (1, vR 36), (2, vR 38), (3, vR 39), (5, vI x5), (6, vI x6), (7, vI x7), (8, vI x8)] 125 []) (k n : Nat), k + (0 + m125) ≤ 5 → n + 6 * (0 + m125) ≤ 30 → ∀ (S : HS) (x5 : Int32) (x6 : Int32) (x7 : Int32) (x8 : Int32) (x9 : Int32) (x10 : Int32), f_L_areTrees_b221  rec105 rec125 S x5 x6 x7 x8 x9 x10 = some out → G k n S [(0, vR 0), (1, vR 36), (2, vR 38), (3, vR 39), (5, vI x5), (6, vI x6), (7, vI x7), (8, vI x8), (9, vI x9), (10, vI x10)] 221 [] := by
    intro m105 rec105 hm105 hrec105 m125 rec125 hm125 hrec125 k n hk hn S x5 x6 x7 x8 x9 x10
    unfold f_L_areTrees_b221
    refine s_iload hG dL_areTrees_221 rfl ?_
    refine s_iload hG dL_areTrees_223 rfl ?_
    refine s_if_eq hG (tgt := 241) dL_areTrees_225 (by decide) ?_ ?_
    · refine s_lv hG [0, 1, 2, 3, 4, 5, 7] rfl ?_
      exact hb241 _ _ hm105 hrec105 _ _ hm125 hrec125 _ _ (by omega) (by omega) _ _ _ _ _
    · refine s_iload hG dL_areTrees_228 rfl ?_
      refine s_aload_n hG dL_areTrees_230 rfl ?_
      refine s_iload hG dL_areTrees_231 rfl ?_
      refine s_iaload hG dL_areTrees_233 (rfl) ?_
      refine s_icmp_ne hG (tgt := 241) dL_areTrees_234 (by decide) ?_ ?_
      · refine s_lv hG [0, 1, 2, 3, 4, 5, 7] rfl ?_
        exact hb241 _ _ hm105 hrec105 _ _ hm125 hrec125 _ _ (by omega) (by omega) _ _ _ _ _
      · refine s_iconst hG (v := (1 : Int32)) dL_areTrees_237 (by decide) ?_
        refine s_goto hG (tgt := 242) dL_areTrees_238 (by decide) ?_
        refine s_lv hG [0, 1, 2, 3, 4, 5, 7] rfl ?_
        exact hb242 _ _ hm105 hrec105 _ _ hm125 hrec125 _ _ (by omega) (by omega) _ _ _ _ _ _
  have hb190 : ∀ (m105 : Nat) (rec105 : HS × Int32 × Int32 → Option (HS × Int32)) (hm105 : 0 + 0 ≤ m105) (hrec105 : ∀ (k n : Nat), k + m105 ≤ 5 → n + 6 * m105 ≤ 30 → ∀ (S : HS) (x4 : Int32) (x5 : Int32), rec105 (S, x4, x5) = some out → G k n S [(0, vR 0), (1, vR 36), (2, vR 38), (3, vR 39), (4, vI x4), (5, vI x5)] 105 []) (m125 : Nat) (rec125 : HS × Int32 × Int32 × Int32 × Int32 → Option (HS × Int32)) (hm125 : 1 + m105 ≤ m125) (hrec125 : ∀ (k n : Nat), k + m125 ≤ 5 → n + 6 * m125 ≤ 30 → ∀ (S : HS) (x5 : Int32) (x6 : Int32) (x7 : Int32) (x8 : Int32), rec125 (S, x5, x6, x7, x8) = some out → G k n S [(0, vR 0), (1, vR 36), (2, vR 38), (3, vR 39), (5, vI x5), (6, vI x6), (7, vI x7), (8, vI x8)] 125 []), ∀ (k n : Nat), k + (0 * FU + 0 + m125) ≤ 5 → n + 6 * (0 * FU + 0 + m125) ≤ 30 → ∀ (S : HS) (x5 : Int32) (x6 : Int32) (x7 : Int32) (x8 : Int32) (x9 : Int32) (x10 : Int32), f_L_areTrees_b190  rec105 rec125 S x5 x6 x7 x8 x9 x10 = some out → G k n S [(0, vR 0), (1, vR 36), (2, vR 38), (3, vR 39), (5, vI x5), (6, vI x6), (7, vI x7), (8, vI x8), (9, vI x9), (10, vI x10)] 190 [] := by
    intro m105 rec105 hm105 hrec105 m125 rec125 hm125 hrec125
    suffices H : ∀ (nf k n : Nat), k + (0 * nf + 0 + m125) ≤ 5 → n + 6 * (0 * nf + 0 + m125) ≤ 30 → ∀ (S : HS) (x5 : Int32) (x6 : Int32) (x7 : Int32) (x8 : Int32) (x9 : Int32) (x10 : Int32), fx (F_L_areTrees_b190  rec105 rec125) nf (S, x5, x6, x7, x8, x9, x10) = some out → G k n S [(0, vR 0), (1, vR 36), (2, vR 38), (3, vR 39), (5, vI x5), (6, vI x6), (7, vI x7), (8, vI x8), (9, vI x9), (10, vI x10)] 190 [] from fun k n hk hn S x5 x6 x7 x8 x9 x10 => H FU k n hk hn S x5 x6 x7 x8 x9 x10
    intro nf
    induction nf with
    | zero => intro k n _ _ S x5 x6 x7 x8 x9 x10 h9; cases h9
    | succ nf hrec190 =>
      intro k n hk0 hn0 S x5 x6 x7 x8 x9 x10
      show F_L_areTrees_b190  rec105 rec125 (fx (F_L_areTrees_b190  rec105 rec125) nf) (S, x5, x6, x7, x8, x9, x10) = some out → _
      generalize fx (F_L_areTrees_b190  rec105 rec125) nf = rec190 at hrec190
      obtain ⟨m190, hq190⟩ : ∃ m, m = 0 * nf + 0 + m125 := ⟨_, rfl⟩
      rw [← hq190] at hrec190
      have hm190 : 0 + m125 ≤ m190 := by omega
      have hk : k + (0 + m190) ≤ 5 := by omega
      have hn : n + 6 * (0 + m190) ≤ 30 := by omega
      clear hk0 hn0 hq190
      unfold F_L_areTrees_b190
      dsimp only
      refine s_iload hG dL_areTrees_190 rfl ?_
      refine s_if_le hG (tgt := 221) dL_areTrees_192 (by decide) ?_ ?_
      · exact hb221 _ _ hm105 hrec105 _ _ hm125 hrec125 _ _ (by omega) (by omega) _ _ _ _ _ _ _
      · refine s_iload hG dL_areTrees_195 rfl ?_
        refine s_aload_n hG dL_areTrees_197 rfl ?_
        refine s_iload hG dL_areTrees_198 rfl ?_
        refine s_iaload hG dL_areTrees_200 (rfl) ?_
        refine s_icmp_eq hG (tgt := 221) dL_areTrees_201 (by decide) ?_ ?_
        · exact hb221 _ _ hm105 hrec105 _ _ hm125 hrec125 _ _ (by omega) (by omega) _ _ _ _ _ _ _
        · refine s_aload_n hG dL_areTrees_204 rfl ?_
          refine s_iload hG dL_areTrees_205 rfl ?_
          refine s_iconst hG (v := (1 : Int32)) dL_areTrees_207 (by decide) ?_
          refine s_isub hG dL_areTrees_208 ?_
          refine s_iaload hG dL_areTrees_209 (rfl) ?_
          refine s_iconst hG (v := (2 : Int32)) dL_areTrees_210 (by decide) ?_
          refine s_bipush hG (v := (6 : Int32)) dL_areTrees_211 (by decide) ?_
          refine s_csP hG (as := [vI (S.1 36 (x10 - (1 : Int32)).toNatClampNeg), vI (2 : Int32), vI (6 : Int32)]) (st := []) (rm := rm_L_part) dL_areTrees_213 ml_RL_77 (tb13 (mem_i 1 rfl)) rfl ⟨rfl, rfl⟩ ⟨Nat.le_of_ble_eq_true rfl, Nat.le_of_ble_eq_true rfl⟩ (Nat.le_of_ble_eq_true rfl) ⟨by omega, by omega⟩ rfl (fun o h => c_L_part l _ _ _ _ o h) (fun o213 => ?_)
          refine s_istore hG (lv' := [(10, vI o213), (0, vR 0), (1, vR 36), (2, vR 38), (3, vR 39), (5, vI x5), (6, vI x6), (7, vI x7), (8, vI x8), (9, vI x9)]) dL_areTrees_216 (by decide) rfl ?_
          refine s_goto hG (tgt := 190) dL_areTrees_218 (by decide) ?_
          refine s_lv hG [1, 2, 3, 4, 5, 6, 7, 8, 9, 0] rfl ?_
          exact hrec190 _ _ (by omega) (by omega) _ _ _ _ _ _ _
  have hb187 : ∀ (m105 : Nat) (rec105 : HS × Int32 × Int32 → Option (HS × Int32)) (hm105 : 0 + 0 ≤ m105) (hrec105 : ∀ (k n : Nat), k + m105 ≤ 5 → n + 6 * m105 ≤ 30 → ∀ (S : HS) (x4 : Int32) (x5 : Int32), rec105 (S, x4, x5) = some out → G k n S [(0, vR 0), (1, vR 36), (2, vR 38), (3, vR 39), (4, vI x4), (5, vI x5)] 105 []) (m125 : Nat) (rec125 : HS × Int32 × Int32 × Int32 × Int32 → Option (HS × Int32)) (hm125 : 1 + m105 ≤ m125) (hrec125 : ∀ (k n : Nat), k + m125 ≤ 5 → n + 6 * m125 ≤ 30 → ∀ (S : HS) (x5 : Int32) (x6 : Int32) (x7 : Int32) (x8 : Int32), rec125 (S, x5, x6, x7, x8) = some out → G k n S [(0, vR 0), (1, vR 36), (2, vR 38), (3, vR 39), (5, vI x5), (6, vI x6), (7, vI x7), (8, vI x8)] 125 []) (k n : Nat), k + (0 + m125) ≤ 5 → n + 6 * (0 + m125) ≤ 30 → ∀ (S : HS) (x5 : Int32) (x7 : Int32) (x8 : Int32) (x9 : Int32) (x10 : Int32) (t0 : Int32) (t1 : Int32), f_L_areTrees_b187  rec105 rec125 S x5 x7 x8 x9 x10 t0 t1 = some out → G k n S [(0, vR 0), (1, vR 36), (2, vR 38), (3, vR 39), (5, vI x5), (7, vI x7), (8, vI x8), (9, vI x9), (10, vI x10)] 187 [vI t1, vI t0] := by
    intro m105 rec105 hm105 hrec105 m125 rec125 hm125 hrec125 k n hk hn S x5 x7 x8 x9 x10 t0 t1
    unfold f_L_areTrees_b187
    refine s_iadd hG dL_areTrees_187 ?_
    refine s_istore hG (lv' := [(6, vI (t0 + t1)), (0, vR 0), (1, vR 36), (2, vR 38), (3, vR 39), (5, vI x5), (7, vI x7), (8, vI x8), (9, vI x9), (10, vI x10)]) dL_areTrees_188 (by decide) rfl ?_
    refine s_lv hG [1, 2, 3, 4, 5, 0, 6, 7, 8, 9] rfl ?_
    exact hb190 _ _ hm105 hrec105 _ _ hm125 hrec125 _ _ (by omega) (by omega) _ _ _ _ _ _ _
  have hb186 : ∀ (m105 : Nat) (rec105 : HS × Int32 × Int32 → Option (HS × Int32)) (hm105 : 0 + 0 ≤ m105) (hrec105 : ∀ (k n : Nat), k + m105 ≤ 5 → n + 6 * m105 ≤ 30 → ∀ (S : HS) (x4 : Int32) (x5 : Int32), rec105 (S, x4, x5) = some out → G k n S [(0, vR 0), (1, vR 36), (2, vR 38), (3, vR 39), (4, vI x4), (5, vI x5)] 105 []) (m125 : Nat) (rec125 : HS × Int32 × Int32 × Int32 × Int32 → Option (HS × Int32)) (hm125 : 1 + m105 ≤ m125) (hrec125 : ∀ (k n : Nat), k + m125 ≤ 5 → n + 6 * m125 ≤ 30 → ∀ (S : HS) (x5 : Int32) (x6 : Int32) (x7 : Int32) (x8 : Int32), rec125 (S, x5, x6, x7, x8) = some out → G k n S [(0, vR 0), (1, vR 36), (2, vR 38), (3, vR 39), (5, vI x5), (6, vI x6), (7, vI x7), (8, vI x8)] 125 []) (k n : Nat), k + (0 + m125) ≤ 5 → n + 6 * (0 + m125) ≤ 30 → ∀ (S : HS) (x5 : Int32) (x7 : Int32) (x8 : Int32) (x9 : Int32) (x10 : Int32) (t0 : Int32), f_L_areTrees_b186  rec105 rec125 S x5 x7 x8 x9 x10 t0 = some out → G k n S [(0, vR 0), (1, vR 36), (2, vR 38), (3, vR 39), (5, vI x5), (7, vI x7), (8, vI x8), (9, vI x9), (10, vI x10)] 186 [vI t0] := by
    intro m105 rec105 hm105 hrec105 m125 rec125 hm125 hrec125 k n hk hn S x5 x7 x8 x9 x10 t0
    unfold f_L_areTrees_b186
    refine s_iconst hG (v := (0 : Int32)) dL_areTrees_186 (by decide) ?_
    exact hb187 _ _ hm105 hrec105 _ _ hm125 hrec125 _ _ (by omega) (by omega) _ _ _ _ _ _ _ _
  have hb152 : ∀ (m105 : Nat) (rec105 : HS × Int32 × Int32 → Option (HS × Int32)) (hm105 : 0 + 0 ≤ m105) (hrec105 : ∀ (k n : Nat), k + m105 ≤ 5 → n + 6 * m105 ≤ 30 → ∀ (S : HS) (x4 : Int32) (x5 : Int32), rec105 (S, x4, x5) = some out → G k n S [(0, vR 0), (1, vR 36), (2, vR 38), (3, vR 39), (4, vI x4), (5, vI x5)] 105 []) (m125 : Nat) (rec125 : HS × Int32 × Int32 × Int32 × Int32 → Option (HS × Int32)) (hm125 : 1 + m105 ≤ m125) (hrec125 : ∀ (k n : Nat), k + m125 ≤ 5 → n + 6 * m125 ≤ 30 → ∀ (S : HS) (x5 : Int32) (x6 : Int32) (x7 : Int32) (x8 : Int32), rec125 (S, x5, x6, x7, x8) = some out → G k n S [(0, vR 0), (1, vR 36), (2, vR 38), (3, vR 39), (5, vI x5), (6, vI x6), (7, vI x7), (8, vI x8)] 125 []) (k n : Nat), k + (0 + m125) ≤ 5 → n + 6 * (0 + m125) ≤ 30 → ∀ (S : HS) (x5 : Int32) (x6 : Int32) (x7 : Int32) (x8 : Int32) (t0 : Int32), f_L_areTrees_b152  rec105 rec125 S x5 x6 x7 x8 t0 = some out → G k n S [(0, vR 0), (1, vR 36), (2, vR 38), (3, vR 39), (5, vI x5), (6, vI x6), (7, vI x7), (8, vI x8)] 152 [vI t0] := by
    intro m105 rec105 hm105 hrec105 m125 rec125 hm125 hrec125 k n hk hn S x5 x6 x7 x8 t0
    unfold f_L_areTrees_b152
    refine s_istore hG (lv' := [(9, vI t0), (0, vR 0), (1, vR 36), (2, vR 38), (3, vR 39), (5, vI x5), (6, vI x6), (7, vI x7), (8, vI x8)]) dL_areTrees_152 (by decide) rfl ?_
    refine s_aload_n hG dL_areTrees_154 rfl ?_
    refine s_iload hG dL_areTrees_155 rfl ?_
    refine s_iaload hG dL_areTrees_157 (rfl) ?_
    refine s_iconst hG (v := (2 : Int32)) dL_areTrees_158 (by decide) ?_
    refine s_bipush hG (v := (6 : Int32)) dL_areTrees_159 (by decide) ?_
    refine s_csP hG (as := [vI (S.1 36 x8.toNatClampNeg), vI (2 : Int32), vI (6 : Int32)]) (st := []) (rm := rm_L_part) dL_areTrees_161 ml_RL_77 (tb13 (mem_i 1 rfl)) rfl ⟨rfl, rfl⟩ ⟨Nat.le_of_ble_eq_true rfl, Nat.le_of_ble_eq_true rfl⟩ (Nat.le_of_ble_eq_true rfl) ⟨by omega, by omega⟩ rfl (fun o h => c_L_part l _ _ _ _ o h) (fun o161 => ?_)
    refine s_istore hG (lv' := [(10, vI o161), (9, vI t0), (0, vR 0), (1, vR 36), (2, vR 38), (3, vR 39), (5, vI x5), (6, vI x6), (7, vI x7), (8, vI x8)]) dL_areTrees_164 (by decide) rfl ?_
    refine s_iload hG dL_areTrees_166 rfl ?_
    refine s_iload hG dL_areTrees_168 rfl ?_
    refine s_if_eq hG (tgt := 186) dL_areTrees_170 (by decide) ?_ ?_
    · refine s_lv hG [2, 3, 4, 5, 6, 8, 9, 1, 0] rfl ?_
      exact hb186 _ _ hm105 hrec105 _ _ hm125 hrec125 _ _ (by omega) (by omega) _ _ _ _ _ _ _
    · refine s_iload hG dL_areTrees_173 rfl ?_
      refine s_aload_n hG dL_areTrees_175 rfl ?_
      refine s_iload hG dL_areTrees_176 rfl ?_
      refine s_iaload hG dL_areTrees_178 (rfl) ?_
      refine s_icmp_ne hG (tgt := 186) dL_areTrees_179 (by decide) ?_ ?_
      · refine s_lv hG [2, 3, 4, 5, 6, 8, 9, 1, 0] rfl ?_
        exact hb186 _ _ hm105 hrec105 _ _ hm125 hrec125 _ _ (by omega) (by omega) _ _ _ _ _ _ _
      · refine s_iconst hG (v := (1 : Int32)) dL_areTrees_182 (by decide) ?_
        refine s_goto hG (tgt := 187) dL_areTrees_183 (by decide) ?_
        refine s_lv hG [2, 3, 4, 5, 6, 8, 9, 1, 0] rfl ?_
        exact hb187 _ _ hm105 hrec105 _ _ hm125 hrec125 _ _ (by omega) (by omega) _ _ _ _ _ _ _ _
  have hb125 : ∀ (m105 : Nat) (rec105 : HS × Int32 × Int32 → Option (HS × Int32)) (hm105 : 0 + 0 ≤ m105) (hrec105 : ∀ (k n : Nat), k + m105 ≤ 5 → n + 6 * m105 ≤ 30 → ∀ (S : HS) (x4 : Int32) (x5 : Int32), rec105 (S, x4, x5) = some out → G k n S [(0, vR 0), (1, vR 36), (2, vR 38), (3, vR 39), (4, vI x4), (5, vI x5)] 105 []), ∀ (k n : Nat), k + (0 * FU + 1 + m105) ≤ 5 → n + 6 * (0 * FU + 1 + m105) ≤ 30 → ∀ (S : HS) (x5 : Int32) (x6 : Int32) (x7 : Int32) (x8 : Int32), f_L_areTrees_b125  rec105 S x5 x6 x7 x8 = some out → G k n S [(0, vR 0), (1, vR 36), (2, vR 38), (3, vR 39), (5, vI x5), (6, vI x6), (7, vI x7), (8, vI x8)] 125 [] := by
    intro m105 rec105 hm105 hrec105
    suffices H : ∀ (nf k n : Nat), k + (0 * nf + 1 + m105) ≤ 5 → n + 6 * (0 * nf + 1 + m105) ≤ 30 → ∀ (S : HS) (x5 : Int32) (x6 : Int32) (x7 : Int32) (x8 : Int32), fx (F_L_areTrees_b125  rec105) nf (S, x5, x6, x7, x8) = some out → G k n S [(0, vR 0), (1, vR 36), (2, vR 38), (3, vR 39), (5, vI x5), (6, vI x6), (7, vI x7), (8, vI x8)] 125 [] from fun k n hk hn S x5 x6 x7 x8 => H FU k n hk hn S x5 x6 x7 x8
    intro nf
    induction nf with
    | zero => intro k n _ _ S x5 x6 x7 x8 h9; cases h9
    | succ nf hrec125 =>
      intro k n hk0 hn0 S x5 x6 x7 x8
      show F_L_areTrees_b125  rec105 (fx (F_L_areTrees_b125  rec105) nf) (S, x5, x6, x7, x8) = some out → _
      generalize fx (F_L_areTrees_b125  rec105) nf = rec125 at hrec125
      obtain ⟨m125, hq125⟩ : ∃ m, m = 0 * nf + 1 + m105 := ⟨_, rfl⟩
      rw [← hq125] at hrec125
      have hm125 : 1 + m105 ≤ m125 := by omega
      have hk : k + (0 + m125) ≤ 5 := by omega
      have hn : n + 6 * (0 + m125) ≤ 30 := by omega
      clear hk0 hn0 hq125
      unfold F_L_areTrees_b125
      dsimp only
      refine s_iload hG dL_areTrees_125 rfl ?_
      refine s_aload_n hG dL_areTrees_127 rfl ?_
      refine s_iconst hG (v := (0 : Int32)) dL_areTrees_128 (by decide) ?_
      refine s_iaload hG dL_areTrees_129 (rfl) ?_
      refine s_icmp_ge hG (tgt := 251) dL_areTrees_130 (by decide) ?_ ?_
      · refine s_aload_n hG dL_areTrees_251 rfl ?_
        refine s_iload hG dL_areTrees_252 rfl ?_
        refine s_dI hG (as := [vI x5]) (st := []) (rm := rm_X7_standsAt) (rmT := rmT_X7_standsAt) (by decide) dL_areTrees_254 ml_RL_100 (rfl) (tb15 (mem_i 14 rfl)) rfl ⟨rfl, rfl⟩ ⟨Nat.le_of_ble_eq_true rfl, Nat.le_of_ble_eq_true rfl⟩ (Nat.le_of_ble_eq_true rfl) ⟨by omega, by omega⟩ rfl (fun o h => c_X7_standsAt l hl9 _ _ o h) (fun o254 => ?_)
        refine s_aload_n hG dL_areTrees_257 rfl ?_
        refine s_iload hG dL_areTrees_258 rfl ?_
        refine s_iaload hG dL_areTrees_260 (rfl) ?_
        refine s_iconst hG (v := (1 : Int32)) dL_areTrees_261 (by decide) ?_
        refine s_isub hG dL_areTrees_262 ?_
        refine s_icmp_ne hG (tgt := 311) dL_areTrees_263 (by decide) ?_ ?_
        · refine s_lv hG [0, 1, 2, 3, 4] rfl ?_
          exact hb311 _ _ hm105 hrec105 _ _ (by omega) (by omega) _ _
        · refine s_aload_n hG dL_areTrees_266 rfl ?_
          refine s_iload hG dL_areTrees_267 rfl ?_
          refine s_dI hG (as := [vI x5]) (st := []) (rm := rm_X7_branches) (rmT := rmT_X7_branches) (by decide) dL_areTrees_269 ml_RL_103 (rfl) (tb13 (mem_i 8 rfl)) rfl ⟨rfl, rfl⟩ ⟨Nat.le_of_ble_eq_true rfl, Nat.le_of_ble_eq_true rfl⟩ (Nat.le_of_ble_eq_true rfl) ⟨by omega, by omega⟩ rfl (fun o h => c_X7_branches l hl9 _ _ o h) (fun o269 => ?_)
          refine s_iload hG dL_areTrees_272 rfl ?_
          refine s_icmp_ne hG (tgt := 311) dL_areTrees_274 (by decide) ?_ ?_
          · refine s_lv hG [0, 1, 2, 3, 4] rfl ?_
            exact hb311 _ _ hm105 hrec105 _ _ (by omega) (by omega) _ _
          · refine s_aload_n hG dL_areTrees_277 rfl ?_
            refine s_iload hG dL_areTrees_278 rfl ?_
            refine s_dI hG (as := [vI x5]) (st := []) (rm := rm_X7_below) (rmT := rmT_X7_below) (by decide) dL_areTrees_280 ml_RL_106 (rfl) (tb15 (mem_i 18 rfl)) rfl ⟨rfl, rfl⟩ ⟨Nat.le_of_ble_eq_true rfl, Nat.le_of_ble_eq_true rfl⟩ (Nat.le_of_ble_eq_true rfl) ⟨by omega, by omega⟩ rfl (fun o h => c_X7_below l hl9 _ _ o h) (fun o280 => ?_)
            refine s_iload hG dL_areTrees_283 rfl ?_
            refine s_icmp_ne hG (tgt := 311) dL_areTrees_285 (by decide) ?_ ?_
            · refine s_lv hG [0, 1, 2, 3, 4] rfl ?_
              exact hb311 _ _ hm105 hrec105 _ _ (by omega) (by omega) _ _
            · refine s_aload_n hG dL_areTrees_288 rfl ?_
              refine s_bipush hG (v := (7 : Int32)) dL_areTrees_289 (by decide) ?_
              refine s_iload hG dL_areTrees_291 rfl ?_
              refine s_iload hG dL_areTrees_293 rfl ?_
              refine s_iconst hG (v := (0 : Int32)) dL_areTrees_295 (by decide) ?_
              refine s_iconst hG (v := (0 : Int32)) dL_areTrees_296 (by decide) ?_
              refine s_iconst hG (v := (0 : Int32)) dL_areTrees_297 (by decide) ?_
              refine s_aY hG (as := [vR 0, vI (7 : Int32), vI x5, vI x6, vI (0 : Int32), vI (0 : Int32), vI (0 : Int32)]) (st := []) (rm := rm_L_asks) (hh := hh_L_asks) dL_areTrees_298 ml_RL_68 (tb4 (mem_i 23 rfl)) (exin (mem_i 45 (by decide +kernel))) rfl ⟨rfl, rfl⟩ ⟨Nat.le_of_ble_eq_true rfl, Nat.le_of_ble_eq_true rfl⟩ (Nat.le_of_ble_eq_true rfl) ⟨by omega, by omega⟩ rfl (fun o mc h01 h => c_L_asks l hl9 _ _ _ _ _ _ _ o mc h01 h) (fun o298 => ?_)
              refine s_sipush hG (v := (-5007 : Int32)) dL_areTrees_301 (by decide) ?_
              refine s_icmp_ne hG (tgt := 311) dL_areTrees_304 (by decide) ?_ ?_
              · refine s_lv hG [0, 1, 2, 3, 4] rfl ?_
                exact hb311 _ _ hm105 hrec105 _ _ (by omega) (by omega) _ _
              · refine s_iconst hG (v := (1 : Int32)) dL_areTrees_307 (by decide) ?_
                refine s_goto hG (tgt := 312) dL_areTrees_308 (by decide) ?_
                refine s_lv hG [0, 1, 2, 3, 4] rfl ?_
                exact hb312 _ _ hm105 hrec105 _ _ (by omega) (by omega) _ _ _
      · refine s_aload_n hG dL_areTrees_133 rfl ?_
        refine s_iload hG dL_areTrees_134 rfl ?_
        refine s_iaload hG dL_areTrees_136 (rfl) ?_
        refine s_iconst hG (v := (0 : Int32)) dL_areTrees_137 (by decide) ?_
        refine s_iconst hG (v := (2 : Int32)) dL_areTrees_138 (by decide) ?_
        refine s_csP hG (as := [vI (S.1 36 x8.toNatClampNeg), vI (0 : Int32), vI (2 : Int32)]) (st := []) (rm := rm_L_part) dL_areTrees_139 ml_RL_77 (tb13 (mem_i 1 rfl)) rfl ⟨rfl, rfl⟩ ⟨Nat.le_of_ble_eq_true rfl, Nat.le_of_ble_eq_true rfl⟩ (Nat.le_of_ble_eq_true rfl) ⟨by omega, by omega⟩ rfl (fun o h => c_L_part l _ _ _ _ o h) (fun o139 => ?_)
        refine s_iload hG dL_areTrees_142 rfl ?_
        refine s_icmp_ne hG (tgt := 151) dL_areTrees_144 (by decide) ?_ ?_
        · refine s_iconst hG (v := (0 : Int32)) dL_areTrees_151 (by decide) ?_
          exact hb152 _ _ hm105 hrec105 _ _ hm125 hrec125 _ _ (by omega) (by omega) _ _ _ _ _ _
        · refine s_iconst hG (v := (1 : Int32)) dL_areTrees_147 (by decide) ?_
          refine s_goto hG (tgt := 152) dL_areTrees_148 (by decide) ?_
          exact hb152 _ _ hm105 hrec105 _ _ hm125 hrec125 _ _ (by omega) (by omega) _ _ _ _ _ _
  have hb105 : ∀ (k n : Nat), k + (1 * 5 + 0 + 0) ≤ 5 → n + 6 * (1 * 5 + 0 + 0) ≤ 30 → ∀ (S : HS) (x4 : Int32) (x5 : Int32), f_L_areTrees_b105  S x4 x5 = some out → G k n S [(0, vR 0), (1, vR 36), (2, vR 38), (3, vR 39), (4, vI x4), (5, vI x5)] 105 [] := by
    suffices H : ∀ (nf k n : Nat), k + (1 * nf + 0 + 0) ≤ 5 → n + 6 * (1 * nf + 0 + 0) ≤ 30 → ∀ (S : HS) (x4 : Int32) (x5 : Int32), fx (F_L_areTrees_b105 ) nf (S, x4, x5) = some out → G k n S [(0, vR 0), (1, vR 36), (2, vR 38), (3, vR 39), (4, vI x4), (5, vI x5)] 105 [] from fun k n hk hn S x4 x5 => H 5 k n hk hn S x4 x5
    intro nf
    induction nf with
    | zero => intro k n _ _ S x4 x5 h9; cases h9
    | succ nf hrec105 =>
      intro k n hk0 hn0 S x4 x5
      show F_L_areTrees_b105  (fx (F_L_areTrees_b105 ) nf) (S, x4, x5) = some out → _
      generalize fx (F_L_areTrees_b105 ) nf = rec105 at hrec105
      obtain ⟨m105, hq105⟩ : ∃ m, m = 1 * nf + 0 + 0 := ⟨_, rfl⟩
      rw [← hq105] at hrec105
      have hm105 : 0 + 0 ≤ m105 := by omega
      have hk : k + (1 + m105) ≤ 5 := by omega
      have hn : n + 6 * (1 + m105) ≤ 30 := by omega
      clear hk0 hn0 hq105
      unfold F_L_areTrees_b105
      dsimp only
      refine s_iload hG dL_areTrees_105 rfl ?_
      refine s_iconst hG (v := (4 : Int32)) dL_areTrees_107 (by decide) ?_
      refine s_icmp_ge hG (tgt := 320) dL_areTrees_108 (by decide) ?_ ?_
      · refine s_lv hG [4] rfl ?_
        exact hb320  _ _ (by omega) (by omega) _ _
      · refine s_iload hG dL_areTrees_111 rfl ?_
        refine s_if_eq hG (tgt := 320) dL_areTrees_113 (by decide) ?_ ?_
        · refine s_lv hG [4] rfl ?_
          exact hb320  _ _ (by omega) (by omega) _ _
        · refine s_iconst hG (v := (0 : Int32)) dL_areTrees_116 (by decide) ?_
          refine s_istore hG (lv' := [(6, vI (0 : Int32)), (0, vR 0), (1, vR 36), (2, vR 38), (3, vR 39), (4, vI x4), (5, vI x5)]) dL_areTrees_117 (by decide) rfl ?_
          refine s_iconst hG (v := (0 : Int32)) dL_areTrees_119 (by decide) ?_
          refine s_istore hG (lv' := [(7, vI (0 : Int32)), (6, vI (0 : Int32)), (0, vR 0), (1, vR 36), (2, vR 38), (3, vR 39), (4, vI x4), (5, vI x5)]) dL_areTrees_120 (by decide) rfl ?_
          refine s_iconst hG (v := (0 : Int32)) dL_areTrees_122 (by decide) ?_
          refine s_istore hG (lv' := [(8, vI (0 : Int32)), (7, vI (0 : Int32)), (6, vI (0 : Int32)), (0, vR 0), (1, vR 36), (2, vR 38), (3, vR 39), (4, vI x4), (5, vI x5)]) dL_areTrees_123 (by decide) rfl ?_
          refine s_lv hG [3, 4, 5, 6, 8, 2, 1, 0] rfl ?_
          exact hb125 _ _ hm105 hrec105 _ _ (by omega) (by omega) _ _ _ _ _
  have hb102 : ∀ (k n : Nat), k + (5 + 0) ≤ 5 → n + 6 * (5 + 0) ≤ 30 → ∀ (S : HS) (x4 : Int32), f_L_areTrees_b102  S x4 = some out → G k n S [(0, vR 0), (1, vR 36), (2, vR 38), (3, vR 39), (4, vI x4)] 102 [] := by
    intro  k n hk hn S x4
    unfold f_L_areTrees_b102
    refine s_iconst hG (v := (0 : Int32)) dL_areTrees_102 (by decide) ?_
    refine s_istore hG (lv' := [(5, vI (0 : Int32)), (0, vR 0), (1, vR 36), (2, vR 38), (3, vR 39), (4, vI x4)]) dL_areTrees_103 (by decide) rfl ?_
    refine s_lv hG [1, 2, 3, 4, 5, 0] rfl ?_
    exact hb105  _ _ (by omega) (by omega) _ _ _
  have hb94 : ∀ (m20 : Nat) (rec20 : HS × Int32 × Int32 → Option (HS × Int32)) (hm20 : 5 + 0 ≤ m20) (hrec20 : ∀ (k n : Nat), k + m20 ≤ 5 → n + 6 * m20 ≤ 30 → ∀ (S : HS) (x4 : Int32) (x5 : Int32), rec20 (S, x4, x5) = some out → G k n S [(0, vR 0), (1, vR 36), (2, vR 38), (3, vR 39), (4, vI x4), (5, vI x5)] 20 []) (k n : Nat), k + (0 + m20) ≤ 5 → n + 6 * (0 + m20) ≤ 30 → ∀ (S : HS) (x5 : Int32) (t0 : Int32), f_L_areTrees_b94  rec20 S x5 t0 = some out → G k n S [(0, vR 0), (1, vR 36), (2, vR 38), (3, vR 39), (5, vI x5)] 94 [vI t0] := by
    intro m20 rec20 hm20 hrec20 k n hk hn S x5 t0
    unfold f_L_areTrees_b94
    refine s_istore hG (lv' := [(4, vI t0), (0, vR 0), (1, vR 36), (2, vR 38), (3, vR 39), (5, vI x5)]) dL_areTrees_94 (by decide) rfl ?_
    refine s_iinc hG (v := (x5 + (1 : Int32))) (lv' := [(5, vI (x5 + (1 : Int32))), (4, vI t0), (0, vR 0), (1, vR 36), (2, vR 38), (3, vR 39)]) dL_areTrees_96 rfl rfl (by decide) rfl ?_
    refine s_goto hG (tgt := 20) dL_areTrees_99 (by decide) ?_
    refine s_lv hG [2, 3, 4, 5, 1, 0] rfl ?_
    exact hrec20 _ _ (by omega) (by omega) _ _ _
  have hb93 : ∀ (m20 : Nat) (rec20 : HS × Int32 × Int32 → Option (HS × Int32)) (hm20 : 5 + 0 ≤ m20) (hrec20 : ∀ (k n : Nat), k + m20 ≤ 5 → n + 6 * m20 ≤ 30 → ∀ (S : HS) (x4 : Int32) (x5 : Int32), rec20 (S, x4, x5) = some out → G k n S [(0, vR 0), (1, vR 36), (2, vR 38), (3, vR 39), (4, vI x4), (5, vI x5)] 20 []) (k n : Nat), k + (0 + m20) ≤ 5 → n + 6 * (0 + m20) ≤ 30 → ∀ (S : HS) (x5 : Int32), f_L_areTrees_b93  rec20 S x5 = some out → G k n S [(0, vR 0), (1, vR 36), (2, vR 38), (3, vR 39), (5, vI x5)] 93 [] := by
    intro m20 rec20 hm20 hrec20 k n hk hn S x5
    unfold f_L_areTrees_b93
    refine s_iconst hG (v := (0 : Int32)) dL_areTrees_93 (by decide) ?_
    exact hb94 _ _ hm20 hrec20 _ _ (by omega) (by omega) _ _ _
  have hb89 : ∀ (m20 : Nat) (rec20 : HS × Int32 × Int32 → Option (HS × Int32)) (hm20 : 5 + 0 ≤ m20) (hrec20 : ∀ (k n : Nat), k + m20 ≤ 5 → n + 6 * m20 ≤ 30 → ∀ (S : HS) (x4 : Int32) (x5 : Int32), rec20 (S, x4, x5) = some out → G k n S [(0, vR 0), (1, vR 36), (2, vR 38), (3, vR 39), (4, vI x4), (5, vI x5)] 20 []) (k n : Nat), k + (0 + m20) ≤ 5 → n + 6 * (0 + m20) ≤ 30 → ∀ (S : HS) (x5 : Int32), f_L_areTrees_b89  rec20 S x5 = some out → G k n S [(0, vR 0), (1, vR 36), (2, vR 38), (3, vR 39), (5, vI x5)] 89 [] := by
    intro m20 rec20 hm20 hrec20 k n hk hn S x5
    unfold f_L_areTrees_b89
    refine s_iconst hG (v := (1 : Int32)) dL_areTrees_89 (by decide) ?_
    refine s_goto hG (tgt := 94) dL_areTrees_90 (by decide) ?_
    exact hb94 _ _ hm20 hrec20 _ _ (by omega) (by omega) _ _ _
  have hb67 : ∀ (m20 : Nat) (rec20 : HS × Int32 × Int32 → Option (HS × Int32)) (hm20 : 5 + 0 ≤ m20) (hrec20 : ∀ (k n : Nat), k + m20 ≤ 5 → n + 6 * m20 ≤ 30 → ∀ (S : HS) (x4 : Int32) (x5 : Int32), rec20 (S, x4, x5) = some out → G k n S [(0, vR 0), (1, vR 36), (2, vR 38), (3, vR 39), (4, vI x4), (5, vI x5)] 20 []) (k n : Nat), k + (0 + m20) ≤ 5 → n + 6 * (0 + m20) ≤ 30 → ∀ (S : HS) (x5 : Int32), f_L_areTrees_b67  rec20 S x5 = some out → G k n S [(0, vR 0), (1, vR 36), (2, vR 38), (3, vR 39), (5, vI x5)] 67 [] := by
    intro m20 rec20 hm20 hrec20 k n hk hn S x5
    unfold f_L_areTrees_b67
    refine s_aload_n hG dL_areTrees_67 rfl ?_
    refine s_iload hG dL_areTrees_68 rfl ?_
    refine s_iaload hG dL_areTrees_70 (rfl) ?_
    refine s_bipush hG (v := (8 : Int32)) dL_areTrees_71 (by decide) ?_
    refine s_iconst hG (v := (1 : Int32)) dL_areTrees_73 (by decide) ?_
    refine s_csP hG (as := [vI (S.1 36 x5.toNatClampNeg), vI (8 : Int32), vI (1 : Int32)]) (st := []) (rm := rm_L_part) dL_areTrees_74 ml_RL_77 (tb13 (mem_i 1 rfl)) rfl ⟨rfl, rfl⟩ ⟨Nat.le_of_ble_eq_true rfl, Nat.le_of_ble_eq_true rfl⟩ (Nat.le_of_ble_eq_true rfl) ⟨by omega, by omega⟩ rfl (fun o h => c_L_part l _ _ _ _ o h) (fun o74 => ?_)
    refine s_if_eq hG (tgt := 89) dL_areTrees_77 (by decide) ?_ ?_
    · exact hb89 _ _ hm20 hrec20 _ _ (by omega) (by omega) _ _
    · refine s_aload_n hG dL_areTrees_80 rfl ?_
      refine s_iload hG dL_areTrees_81 rfl ?_
      refine s_dI hG (as := [vI x5]) (st := []) (rm := rm_X7_isVoid) (rmT := rmT_X7_isVoid) (by decide) dL_areTrees_83 ml_RL_83 (rfl) (tb12 (mem_i 22 rfl)) rfl ⟨rfl, rfl⟩ ⟨Nat.le_of_ble_eq_true rfl, Nat.le_of_ble_eq_true rfl⟩ (Nat.le_of_ble_eq_true rfl) ⟨by omega, by omega⟩ rfl (fun o h => c_X7_isVoid l hl9 _ _ o h) (fun o83 => ?_)
      refine s_if_ne hG (tgt := 93) dL_areTrees_86 (by decide) ?_ ?_
      · exact hb93 _ _ hm20 hrec20 _ _ (by omega) (by omega) _ _
      · exact hb89 _ _ hm20 hrec20 _ _ (by omega) (by omega) _ _
  have hb20 : ∀ (k n : Nat), k + (0 * FU + 5 + 0) ≤ 5 → n + 6 * (0 * FU + 5 + 0) ≤ 30 → ∀ (S : HS) (x4 : Int32) (x5 : Int32), f_L_areTrees_b20  S x4 x5 = some out → G k n S [(0, vR 0), (1, vR 36), (2, vR 38), (3, vR 39), (4, vI x4), (5, vI x5)] 20 [] := by
    suffices H : ∀ (nf k n : Nat), k + (0 * nf + 5 + 0) ≤ 5 → n + 6 * (0 * nf + 5 + 0) ≤ 30 → ∀ (S : HS) (x4 : Int32) (x5 : Int32), fx (F_L_areTrees_b20 ) nf (S, x4, x5) = some out → G k n S [(0, vR 0), (1, vR 36), (2, vR 38), (3, vR 39), (4, vI x4), (5, vI x5)] 20 [] from fun k n hk hn S x4 x5 => H FU k n hk hn S x4 x5
    intro nf
    induction nf with
    | zero => intro k n _ _ S x4 x5 h9; cases h9
    | succ nf hrec20 =>
      intro k n hk0 hn0 S x4 x5
      show F_L_areTrees_b20  (fx (F_L_areTrees_b20 ) nf) (S, x4, x5) = some out → _
      generalize fx (F_L_areTrees_b20 ) nf = rec20 at hrec20
      obtain ⟨m20, hq20⟩ : ∃ m, m = 0 * nf + 5 + 0 := ⟨_, rfl⟩
      rw [← hq20] at hrec20
      have hm20 : 5 + 0 ≤ m20 := by omega
      have hk : k + (0 + m20) ≤ 5 := by omega
      have hn : n + 6 * (0 + m20) ≤ 30 := by omega
      clear hk0 hn0 hq20
      unfold F_L_areTrees_b20
      dsimp only
      refine s_iload hG dL_areTrees_20 rfl ?_
      refine s_aload_n hG dL_areTrees_22 rfl ?_
      refine s_iconst hG (v := (0 : Int32)) dL_areTrees_23 (by decide) ?_
      refine s_iaload hG dL_areTrees_24 (rfl) ?_
      refine s_icmp_ge hG (tgt := 102) dL_areTrees_25 (by decide) ?_ ?_
      · refine s_lv hG [0, 1, 2, 3, 4] rfl ?_
        exact hb102  _ _ (by omega) (by omega) _ _
      · refine s_iload hG dL_areTrees_28 rfl ?_
        refine s_if_eq hG (tgt := 102) dL_areTrees_30 (by decide) ?_ ?_
        · refine s_lv hG [0, 1, 2, 3, 4] rfl ?_
          exact hb102  _ _ (by omega) (by omega) _ _
        · refine s_aload_n hG dL_areTrees_33 rfl ?_
          refine s_aload_n hG dL_areTrees_34 rfl ?_
          refine s_iload hG dL_areTrees_35 rfl ?_
          refine s_csP hG (as := [vR 36, vR 39, vI x5]) (st := []) (rm := rm_L_isOn) dL_areTrees_37 ml_RL_96 (tb15 (mem_i 6 rfl)) rfl ⟨rfl, rfl⟩ ⟨Nat.le_of_ble_eq_true rfl, Nat.le_of_ble_eq_true rfl⟩ (Nat.le_of_ble_eq_true rfl) ⟨by omega, by omega⟩ rfl (fun o h => c_L_isOn l _ _ o h) (fun o37 => ?_)
          refine s_istore hG (lv' := [(6, vI o37), (0, vR 0), (1, vR 36), (2, vR 38), (3, vR 39), (4, vI x4), (5, vI x5)]) dL_areTrees_40 (by decide) rfl ?_
          refine s_aload_n hG dL_areTrees_42 rfl ?_
          refine s_iload hG dL_areTrees_43 rfl ?_
          refine s_dI hG (as := [vI x5]) (st := []) (rm := rm_X7_counts) (rmT := rmT_X7_counts) (by decide) dL_areTrees_45 ml_RL_86 (rfl) (tb15 (mem_i 10 rfl)) rfl ⟨rfl, rfl⟩ ⟨Nat.le_of_ble_eq_true rfl, Nat.le_of_ble_eq_true rfl⟩ (Nat.le_of_ble_eq_true rfl) ⟨by omega, by omega⟩ rfl (fun o h => c_X7_counts l hl9 _ _ o h) (fun o45 => ?_)
          refine s_iload hG dL_areTrees_48 rfl ?_
          refine s_icmp_ne hG (tgt := 93) dL_areTrees_50 (by decide) ?_ ?_
          · refine s_lv hG [1, 2, 3, 4, 6] rfl ?_
            exact hb93 _ _ hm20 hrec20 _ _ (by omega) (by omega) _ _
          · refine s_iload hG dL_areTrees_53 rfl ?_
            refine s_if_ne hG (tgt := 67) dL_areTrees_55 (by decide) ?_ ?_
            · refine s_lv hG [1, 2, 3, 4, 6] rfl ?_
              exact hb67 _ _ hm20 hrec20 _ _ (by omega) (by omega) _ _
            · refine s_aload_n hG dL_areTrees_58 rfl ?_
              refine s_iload hG dL_areTrees_59 rfl ?_
              refine s_dI hG (as := [vI x5]) (st := []) (rm := rm_X7_isVoid) (rmT := rmT_X7_isVoid) (by decide) dL_areTrees_61 ml_RL_83 (rfl) (tb12 (mem_i 22 rfl)) rfl ⟨rfl, rfl⟩ ⟨Nat.le_of_ble_eq_true rfl, Nat.le_of_ble_eq_true rfl⟩ (Nat.le_of_ble_eq_true rfl) ⟨by omega, by omega⟩ rfl (fun o h => c_X7_isVoid l hl9 _ _ o h) (fun o61 => ?_)
              refine s_if_ne hG (tgt := 93) dL_areTrees_64 (by decide) ?_ ?_
              · refine s_lv hG [1, 2, 3, 4, 6] rfl ?_
                exact hb93 _ _ hm20 hrec20 _ _ (by omega) (by omega) _ _
              · refine s_lv hG [1, 2, 3, 4, 6] rfl ?_
                exact hb67 _ _ hm20 hrec20 _ _ (by omega) (by omega) _ _
  have hb15 : ∀ (k n : Nat), k + (5 + 0) ≤ 5 → n + 6 * (5 + 0) ≤ 30 → ∀ (S : HS) (t0 : Int32), f_L_areTrees_b15  S t0 = some out → G k n S [(0, vR 0), (1, vR 36), (2, vR 38), (3, vR 39)] 15 [vI t0] := by
    intro  k n hk hn S t0
    unfold f_L_areTrees_b15
    refine s_istore hG (lv' := [(4, vI t0), (0, vR 0), (1, vR 36), (2, vR 38), (3, vR 39)]) dL_areTrees_15 (by decide) rfl ?_
    refine s_iconst hG (v := (0 : Int32)) dL_areTrees_17 (by decide) ?_
    refine s_istore hG (lv' := [(5, vI (0 : Int32)), (4, vI t0), (0, vR 0), (1, vR 36), (2, vR 38), (3, vR 39)]) dL_areTrees_18 (by decide) rfl ?_
    refine s_lv hG [2, 3, 4, 5, 1, 0] rfl ?_
    exact hb20  _ _ (by omega) (by omega) _ _ _
  unfold f_L_areTrees
  refine s_aload_n hG dL_areTrees_0 rfl ?_
  refine s_cvP hG (as := []) (st := []) (rm := rm_X7_acts) dL_areTrees_1 ml_RL_93 (rfl) (tb12 (mem_i 18 rfl)) rfl ⟨rfl, rfl⟩ ⟨Nat.le_of_ble_eq_true rfl, Nat.le_of_ble_eq_true rfl⟩ (Nat.le_of_ble_eq_true rfl) ⟨by omega, by omega⟩ rfl (fun o h => c_X7_acts l  _ o h) (fun o1 => ?_)
  refine s_aload_n hG dL_areTrees_4 rfl ?_
  refine s_iconst hG (v := (0 : Int32)) dL_areTrees_5 (by decide) ?_
  refine s_iaload hG dL_areTrees_6 (rfl) ?_
  refine s_icmp_ne hG (tgt := 14) dL_areTrees_7 (by decide) ?_ ?_
  · refine s_iconst hG (v := (0 : Int32)) dL_areTrees_14 (by decide) ?_
    exact hb15  _ _ (by omega) (by omega) _ _
  · refine s_iconst hG (v := (1 : Int32)) dL_areTrees_10 (by decide) ?_
    refine s_goto hG (tgt := 15) dL_areTrees_11 (by decide) ?_
    exact hb15  _ _ (by omega) (by omega) _ _

def f_L_isExport_b456 (p1 : Int32)  (S : HS) (x5 : Int32) : Option (HS × Int32) :=
if nz x5 = true then some (S, x5) else none
def f_L_isExport_b448 (p1 : Int32) (rec399 : HS × Int32 × Int32 × Int32 → Option (HS × Int32)) (S : HS) (x3 : Int32) (x6 : Int32) (t0 : Int32) : Option (HS × Int32) :=
rec399 (S, x3, t0, (x6 + (1 : Int32)))
def F_L_isExport_b399 (p1 : Int32)  (rec399 : HS × Int32 × Int32 × Int32 → Option (HS × Int32)) : HS × Int32 × Int32 × Int32 → Option (HS × Int32) := fun q => match q with
  | (S, x3, x5, x6) =>
    if (3 : Int32) ≤ x6 then
    f_L_isExport_b456 p1  S x5
    else
    if x3 ≤ 0 then
    f_L_isExport_b456 p1  S x5
    else
    if x5 = 0 then
    f_L_isExport_b456 p1  S x5
    else
    if (2 : Int32) = 0 then none else
    (f_X7_charAnew p1 (((x3 - (1 : Int32)) * x6) / (2 : Int32)) S).bind (fun o424 => if o424.2.1 = 0 then
    (fun (o424 : XO) =>
    if (2 : Int32) = 0 then none else
    (f_X7_charAt p1 (((x3 - (1 : Int32)) * x6) / (2 : Int32)) o424.1).bind (fun o437 => if o437.2.1 = 0 then
    (fun (o437 : XO) =>
    if o424.2.2 = o437.2.2 then
    f_L_isExport_b448 p1 rec399 o437.1 x3 x6 (1 : Int32)
    else
    f_L_isExport_b448 p1 rec399 o437.1 x3 x6 (0 : Int32)) o437
    else none)) o424
    else none)
def f_L_isExport_b399 (p1 : Int32)  (S : HS) (x3 : Int32) (x5 : Int32) (x6 : Int32) : Option (HS × Int32) := fx (F_L_isExport_b399 p1) FU (S, x3, x5, x6)
def f_L_isExport_b394 (p1 : Int32)  (S : HS) (x3 : Int32) (t0 : Int32) : Option (HS × Int32) :=
f_L_isExport_b399 p1  S x3 t0 (0 : Int32)
def f_L_isExport_b393 (p1 : Int32)  (S : HS) (x3 : Int32) : Option (HS × Int32) :=
f_L_isExport_b394 p1  S x3 (0 : Int32)
def f_L_isExport_b366 (p1 : Int32)  (S : HS) (x3 : Int32) (x4 : Int32) : Option (HS × Int32) :=
if x4 = x3 then
(f_L_asks (12 : Int32) p1 x3 (0 : Int32) (0 : Int32) (0 : Int32) S).bind (fun o380 =>
if o380.2.2 = (-5004 : Int32) then
f_L_isExport_b394 p1  o380.1 x3 (1 : Int32)
else
f_L_isExport_b393 p1  o380.1 x3)
else
f_L_isExport_b393 p1  S x3
def f_L_isExport_b360 (p1 : Int32) (rec272 : HS × Int32 × Int32 × Int32 → Option (HS × Int32)) (S : HS) (x3 : Int32) (x4 : Int32) (x5 : Int32) : Option (HS × Int32) :=
rec272 (S, x3, x4, (x5 + (1 : Int32)))
def f_L_isExport_b358 (p1 : Int32) (rec272 : HS × Int32 × Int32 × Int32 → Option (HS × Int32)) (S : HS) (x3 : Int32) (x5 : Int32) (t0 : Int32) : Option (HS × Int32) :=
f_L_isExport_b360 p1 rec272 S x3 t0 x5
def f_L_isExport_b357 (p1 : Int32) (rec272 : HS × Int32 × Int32 × Int32 → Option (HS × Int32)) (S : HS) (x3 : Int32) (x5 : Int32) : Option (HS × Int32) :=
f_L_isExport_b358 p1 rec272 S x3 x5 (-1 : Int32)
def f_L_isExport_b326 (p1 : Int32) (rec272 : HS × Int32 × Int32 × Int32 → Option (HS × Int32)) (S : HS) (x3 : Int32) (x5 : Int32) (t0 : Int32) : Option (HS × Int32) :=
if t0 < 0 then
f_L_isExport_b357 p1 rec272 S x3 x5
else
(f_L_asks (12 : Int32) p1 t0 (0 : Int32) (0 : Int32) (0 : Int32) S).bind (fun o342 => if o342.2.1 = 0 then
(fun (o342 : XO) =>
if o342.2.2 = (59 : Int32) then
f_L_isExport_b358 p1 rec272 o342.1 x3 x5 (t0 + (1 : Int32))
else
f_L_isExport_b357 p1 rec272 o342.1 x3 x5) o342
else none)
def F_L_isExport_b272 (p1 : Int32)  (rec272 : HS × Int32 × Int32 × Int32 → Option (HS × Int32)) : HS × Int32 × Int32 × Int32 → Option (HS × Int32) := fun q => match q with
  | (S, x3, x4, x5) =>
    if ib (2 : Int32) (5) = true then
    if (S.1 38 (2 : Int32).toNatClampNeg) ≤ x5 then
    f_L_isExport_b366 p1  S x3 x4
    else
    if x4 < 0 then
    f_L_isExport_b366 p1  S x3 x4
    else
    (f_X7_isInForce x5 S).bind (fun o288 => if o288.2.1 = 0 then
    (fun (o288 : XO) =>
    if o288.2.2 = 0 then
    f_L_isExport_b360 p1 rec272 o288.1 x3 x4 x5
    else
    (f_L_asks (12 : Int32) p1 x4 (0 : Int32) (0 : Int32) (0 : Int32) o288.1).bind (fun o303 => if o303.2.1 = 0 then
    (fun (o303 : XO) =>
    if o303.2.2 = (114 : Int32) then
    (f_L_reads p1 (x4 + (1 : Int32)) x5 o303.1).bind (fun o319 =>
    f_L_isExport_b326 p1 rec272 o319.1 x3 x5 o319.2)
    else
    f_L_isExport_b326 p1 rec272 o303.1 x3 x5 (-1 : Int32)) o303
    else none)) o288
    else none)
    else none
def f_L_isExport_b272 (p1 : Int32)  (S : HS) (x3 : Int32) (x4 : Int32) (x5 : Int32) : Option (HS × Int32) := fx (F_L_isExport_b272 p1) FU (S, x3, x4, x5)
def f_L_isExport_b269 (p1 : Int32)  (S : HS) (x3 : Int32) (x4 : Int32) : Option (HS × Int32) :=
f_L_isExport_b272 p1  S x3 x4 (0 : Int32)
def f_L_isExport_b263 (p1 : Int32) (rec12 : HS × Int32 × Int32 × Int32 → Option (HS × Int32)) (S : HS) (x3 : Int32) (x4 : Int32) (x5 : Int32) : Option (HS × Int32) :=
rec12 (S, x3, x4, (x5 + (1 : Int32)))
def f_L_isExport_b261 (p1 : Int32) (rec12 : HS × Int32 × Int32 × Int32 → Option (HS × Int32)) (S : HS) (x3 : Int32) (x5 : Int32) (t0 : Int32) : Option (HS × Int32) :=
f_L_isExport_b263 p1 rec12 S x3 t0 x5
def f_L_isExport_b260 (p1 : Int32) (rec12 : HS × Int32 × Int32 × Int32 → Option (HS × Int32)) (S : HS) (x3 : Int32) (x5 : Int32) : Option (HS × Int32) :=
f_L_isExport_b261 p1 rec12 S x3 x5 (-1 : Int32)
def f_L_isExport_b236 (p1 : Int32) (rec12 : HS × Int32 × Int32 × Int32 → Option (HS × Int32)) (S : HS) (x3 : Int32) (x4 : Int32) (x5 : Int32) : Option (HS × Int32) :=
(f_L_asks (12 : Int32) p1 x4 (0 : Int32) (0 : Int32) (0 : Int32) S).bind (fun o245 => if o245.2.1 = 0 then
(fun (o245 : XO) =>
if o245.2.2 = (59 : Int32) then
f_L_isExport_b261 p1 rec12 o245.1 x3 x5 (x4 + (1 : Int32))
else
f_L_isExport_b260 p1 rec12 o245.1 x3 x5) o245
else none)
def f_L_isExport_b197 (p1 : Int32) (rec12 : HS × Int32 × Int32 × Int32 → Option (HS × Int32)) (S : HS) (x3 : Int32) (x4 : Int32) (x5 : Int32) (x6 : Int32) (x7 : Int32) : Option (HS × Int32) :=
if x4 < 0 then
f_L_isExport_b260 p1 rec12 S x3 x5
else
if x6 = (98 : Int32) then
f_L_isExport_b236 p1 rec12 S x3 x4 x5
else
if x7 ≤ (1 : Int32) then
f_L_isExport_b260 p1 rec12 S x3 x5
else
if (11 : Int32) < x7 then
f_L_isExport_b260 p1 rec12 S x3 x5
else
(f_X7_number x5 (2 : Int32) S).bind (fun o228 => if o228.2.1 = 0 then
(fun (o228 : XO) =>
if (2 : Int32) = 0 then none else
if x7 ≤ (o228.2.2 / (2 : Int32)) then
f_L_isExport_b260 p1 rec12 o228.1 x3 x5
else
f_L_isExport_b236 p1 rec12 o228.1 x3 x4 x5) o228
else none)
def F_L_isExport_b152 (p1 : Int32) (rec12 : HS × Int32 × Int32 × Int32 → Option (HS × Int32)) (rec152 : HS × Int32 × Int32 × Int32 × Int32 × Int32 → Option (HS × Int32)) : HS × Int32 × Int32 × Int32 × Int32 × Int32 → Option (HS × Int32) := fun q => match q with
  | (S, x3, x4, x5, x6, x7) =>
    if x4 < 0 then
    f_L_isExport_b197 p1 rec12 S x3 x4 x5 x6 x7
    else
    if x6 = (116 : Int32) then
    if (11 : Int32) ≤ x7 then
    f_L_isExport_b197 p1 rec12 S x3 x4 x5 x6 x7
    else
    (f_L_asks (12 : Int32) p1 x4 (0 : Int32) (0 : Int32) (0 : Int32) S).bind (fun o180 => if o180.2.1 = 0 then
    (fun (o180 : XO) =>
    if o180.2.2 = (59 : Int32) then
    f_L_isExport_b197 p1 rec12 o180.1 x3 x4 x5 x6 x7
    else
    rec152 (o180.1, x3, (x4 + (1 : Int32)), x5, x6, (x7 + (1 : Int32)))) o180
    else none)
    else
    f_L_isExport_b197 p1 rec12 S x3 x4 x5 x6 x7
def f_L_isExport_b152 (p1 : Int32) (rec12 : HS × Int32 × Int32 × Int32 → Option (HS × Int32)) (S : HS) (x3 : Int32) (x4 : Int32) (x5 : Int32) (x6 : Int32) (x7 : Int32) : Option (HS × Int32) := fx (F_L_isExport_b152 p1 rec12) FU (S, x3, x4, x5, x6, x7)
def f_L_isExport_b149 (p1 : Int32) (rec12 : HS × Int32 × Int32 × Int32 → Option (HS × Int32)) (S : HS) (x3 : Int32) (x4 : Int32) (x5 : Int32) (x6 : Int32) : Option (HS × Int32) :=
f_L_isExport_b152 p1 rec12 S x3 x4 x5 x6 (0 : Int32)
def f_L_isExport_b141 (p1 : Int32) (rec12 : HS × Int32 × Int32 × Int32 → Option (HS × Int32)) (rec82 : HS × Int32 × Int32 × Int32 × Int32 × Int32 → Option (HS × Int32)) (S : HS) (x3 : Int32) (x5 : Int32) (x6 : Int32) (x7 : Int32) (t0 : Int32) : Option (HS × Int32) :=
rec82 (S, x3, t0, x5, x6, (x7 + (1 : Int32)))
def f_L_isExport_b117 (p1 : Int32) (rec12 : HS × Int32 × Int32 × Int32 → Option (HS × Int32)) (rec82 : HS × Int32 × Int32 × Int32 × Int32 × Int32 → Option (HS × Int32)) (S : HS) (x3 : Int32) (x4 : Int32) (x5 : Int32) (x6 : Int32) (x7 : Int32) (t0 : Int32) (t1 : Int32) : Option (HS × Int32) :=
if t0 = t1 then
(f_X7_number x5 x7 S).bind (fun o131 => if o131.2.1 = 0 then
(fun (o131 : XO) =>
(f_L_reads p1 (x4 + (1 : Int32)) o131.2.2 o131.1).bind (fun o134 =>
f_L_isExport_b141 p1 rec12 rec82 o134.1 x3 x5 x6 x7 o134.2)) o131
else none)
else
f_L_isExport_b141 p1 rec12 rec82 S x3 x5 x6 x7 (-1 : Int32)
def F_L_isExport_b82 (p1 : Int32) (rec12 : HS × Int32 × Int32 × Int32 → Option (HS × Int32)) (rec82 : HS × Int32 × Int32 × Int32 × Int32 × Int32 → Option (HS × Int32)) : HS × Int32 × Int32 × Int32 × Int32 × Int32 → Option (HS × Int32) := fun q => match q with
  | (S, x3, x4, x5, x6, x7) =>
    if (4 : Int32) ≤ x7 then
    f_L_isExport_b149 p1 rec12 S x3 x4 x5 x6
    else
    if x4 < 0 then
    f_L_isExport_b149 p1 rec12 S x3 x4 x5 x6
    else
    (f_L_asks (12 : Int32) p1 x4 (0 : Int32) (0 : Int32) (0 : Int32) S).bind (fun o102 => if o102.2.1 = 0 then
    (fun (o102 : XO) =>
    if x7 = 0 then
    f_L_isExport_b117 p1 rec12 rec82 o102.1 x3 x4 x5 x6 x7 o102.2.2 (58 : Int32)
    else
    f_L_isExport_b117 p1 rec12 rec82 o102.1 x3 x4 x5 x6 x7 o102.2.2 (44 : Int32)) o102
    else none)
def f_L_isExport_b82 (p1 : Int32) (rec12 : HS × Int32 × Int32 × Int32 → Option (HS × Int32)) (S : HS) (x3 : Int32) (x4 : Int32) (x5 : Int32) (x6 : Int32) (x7 : Int32) : Option (HS × Int32) := fx (F_L_isExport_b82 p1 rec12) FU (S, x3, x4, x5, x6, x7)
def f_L_isExport_b72 (p1 : Int32) (rec12 : HS × Int32 × Int32 × Int32 → Option (HS × Int32)) (S : HS) (x3 : Int32) (x5 : Int32) (x6 : Int32) (t1 : Int32) (t2 : Int32) : Option (HS × Int32) :=
(f_L_reads t1 t2 x5 S).bind (fun o74 =>
f_L_isExport_b82 p1 rec12 o74.1 x3 o74.2 x5 x6 (0 : Int32))
def f_L_isExport_b64 (p1 : Int32) (rec12 : HS × Int32 × Int32 × Int32 → Option (HS × Int32)) (S : HS) (x3 : Int32) (x4 : Int32) (x5 : Int32) (x6 : Int32) (t1 : Int32) : Option (HS × Int32) :=
f_L_isExport_b72 p1 rec12 S x3 x5 x6 t1 (x4 + (1 : Int32))
def F_L_isExport_b12 (p1 : Int32)  (rec12 : HS × Int32 × Int32 × Int32 → Option (HS × Int32)) : HS × Int32 × Int32 × Int32 → Option (HS × Int32) := fun q => match q with
  | (S, x3, x4, x5) =>
    if ib (1 : Int32) (5) = true then
    if (S.1 38 (1 : Int32).toNatClampNeg) ≤ x5 then
    f_L_isExport_b269 p1  S x3 x4
    else
    if x4 < 0 then
    f_L_isExport_b269 p1  S x3 x4
    else
    (f_X7_isThere x5 S).bind (fun o28 => if o28.2.1 = 0 then
    (fun (o28 : XO) =>
    if o28.2.2 = 0 then
    f_L_isExport_b263 p1 rec12 o28.1 x3 x4 x5
    else
    (f_L_asks (12 : Int32) p1 x4 (0 : Int32) (0 : Int32) (0 : Int32) o28.1).bind (fun o43 => if o43.2.1 = 0 then
    (fun (o43 : XO) =>
    if o43.2.2 = (98 : Int32) then
    f_L_isExport_b64 p1 rec12 o43.1 x3 x4 x5 o43.2.2 p1
    else
    if o43.2.2 = (116 : Int32) then
    f_L_isExport_b64 p1 rec12 o43.1 x3 x4 x5 o43.2.2 p1
    else
    f_L_isExport_b72 p1 rec12 o43.1 x3 x5 o43.2.2 p1 (-1 : Int32)) o43
    else none)) o28
    else none)
    else none
def f_L_isExport_b12 (p1 : Int32)  (S : HS) (x3 : Int32) (x4 : Int32) (x5 : Int32) : Option (HS × Int32) := fx (F_L_isExport_b12 p1) FU (S, x3, x4, x5)
def f_L_isExport (p1 : Int32) (S : HS) : Option (HS × Int32) :=
(f_X7_length p1 S).bind (fun o2 => if o2.2.1 = 0 then
(fun (o2 : XO) =>
f_L_isExport_b12 p1  o2.1 o2.2.2 (0 : Int32) (0 : Int32)) o2
else none)
def rm_L_isExport : Room := { frames := 10, cells := 1, slots := 6, locals := 263 }
set_option maxRecDepth 100000 in
set_option maxHeartbeats 40000000 in
theorem c_L_isExport (l : Launch) (hl9 : l.stackTraces = false) (p1 : Int32) (S : HS) (out : HS × Int32) (h : f_L_isExport p1 S = some out) : CtK l yL_isExport cL_isExport 8 (some .boolean) rm_L_isExport [vR 0, vI p1, vR 38] S (some (vI out.2)) out.1 := by
  refine CtK.intro (own := RL) (lv := [(0, vR 0), (1, vI p1), (2, vR 38)]) (by decide +kernel) rfl rfl (Nat.le_of_ble_eq_true rfl) ?_
  intro G hG hR
  have hRc : rm_L_isExport.cells = 1 := rfl
  have hRs : rm_L_isExport.slots = 6 := rfl
  revert h
  have hb456 : ∀ (k n : Nat), k + (0 + 0) ≤ 1 → n + 6 * (0 + 0) ≤ 6 → ∀ (S : HS) (x5 : Int32), f_L_isExport_b456 p1 S x5 = some out → G k n S [(5, vI x5)] 456 [] := by
    intro  k n hk hn S x5
    unfold f_L_isExport_b456
    refine s_iload hG dL_isExport_456 rfl ?_
    exact s_rKZ hR (by omega) (by omega) dL_isExport_458
  have hb448 : ∀ (m399 : Nat) (rec399 : HS × Int32 × Int32 × Int32 → Option (HS × Int32)) (hm399 : 0 + 0 ≤ m399) (hrec399 : ∀ (k n : Nat), k + m399 ≤ 1 → n + 6 * m399 ≤ 6 → ∀ (S : HS) (x3 : Int32) (x5 : Int32) (x6 : Int32), rec399 (S, x3, x5, x6) = some out → G k n S [(0, vR 0), (1, vI p1), (3, vI x3), (5, vI x5), (6, vI x6)] 399 []) (k n : Nat), k + (0 + m399) ≤ 1 → n + 6 * (0 + m399) ≤ 6 → ∀ (S : HS) (x3 : Int32) (x6 : Int32) (t0 : Int32), f_L_isExport_b448 p1 rec399 S x3 x6 t0 = some out → G k n S [(0, vR 0), (1, vI p1), (3, vI x3), (6, vI x6)] 448 [vI t0] := by
    intro m399 rec399 hm399 hrec399 k n hk hn S x3 x6 t0
    unfold f_L_isExport_b448
    refine s_istore hG (lv' := [(5, vI t0), (0, vR 0), (1, vI p1), (3, vI x3), (6, vI x6)]) dL_isExport_448 (by decide) rfl ?_
    refine s_iinc hG (v := (x6 + (1 : Int32))) (lv' := [(6, vI (x6 + (1 : Int32))), (5, vI t0), (0, vR 0), (1, vI p1), (3, vI x3)]) dL_isExport_450 rfl rfl (by decide) rfl ?_
    refine s_goto hG (tgt := 399) dL_isExport_453 (by decide) ?_
    refine s_lv hG [2, 3, 4, 1, 0] rfl ?_
    exact hrec399 _ _ (by omega) (by omega) _ _ _ _
  have hb399 : ∀ (k n : Nat), k + (0 * FU + 0 + 0) ≤ 1 → n + 6 * (0 * FU + 0 + 0) ≤ 6 → ∀ (S : HS) (x3 : Int32) (x5 : Int32) (x6 : Int32), f_L_isExport_b399 p1 S x3 x5 x6 = some out → G k n S [(0, vR 0), (1, vI p1), (3, vI x3), (5, vI x5), (6, vI x6)] 399 [] := by
    suffices H : ∀ (nf k n : Nat), k + (0 * nf + 0 + 0) ≤ 1 → n + 6 * (0 * nf + 0 + 0) ≤ 6 → ∀ (S : HS) (x3 : Int32) (x5 : Int32) (x6 : Int32), fx (F_L_isExport_b399 p1) nf (S, x3, x5, x6) = some out → G k n S [(0, vR 0), (1, vI p1), (3, vI x3), (5, vI x5), (6, vI x6)] 399 [] from fun k n hk hn S x3 x5 x6 => H FU k n hk hn S x3 x5 x6
    intro nf
    induction nf with
    | zero => intro k n _ _ S x3 x5 x6 h9; cases h9
    | succ nf hrec399 =>
      intro k n hk0 hn0 S x3 x5 x6
      show F_L_isExport_b399 p1 (fx (F_L_isExport_b399 p1) nf) (S, x3, x5, x6) = some out → _
      generalize fx (F_L_isExport_b399 p1) nf = rec399 at hrec399
      obtain ⟨m399, hq399⟩ : ∃ m, m = 0 * nf + 0 + 0 := ⟨_, rfl⟩
      rw [← hq399] at hrec399
      have hm399 : 0 + 0 ≤ m399 := by omega
      have hk : k + (0 + m399) ≤ 1 := by omega
      have hn : n + 6 * (0 + m399) ≤ 6 := by omega
      clear hk0 hn0 hq399
      unfold F_L_isExport_b399
      dsimp only
      refine s_iload hG dL_isExport_399 rfl ?_
      refine s_iconst hG (v := (3 : Int32)) dL_isExport_401 (by decide) ?_
      refine s_icmp_ge hG (tgt := 456) dL_isExport_402 (by decide) ?_ ?_
      · refine s_lv hG [3] rfl ?_
        exact hb456  _ _ (by omega) (by omega) _ _
      · refine s_iload_n hG dL_isExport_405 rfl ?_
        refine s_if_le hG (tgt := 456) dL_isExport_406 (by decide) ?_ ?_
        · refine s_lv hG [3] rfl ?_
          exact hb456  _ _ (by omega) (by omega) _ _
        · refine s_iload hG dL_isExport_409 rfl ?_
          refine s_if_eq hG (tgt := 456) dL_isExport_411 (by decide) ?_ ?_
          · refine s_lv hG [3] rfl ?_
            exact hb456  _ _ (by omega) (by omega) _ _
          · refine s_aload_n hG dL_isExport_414 rfl ?_
            refine s_iload_n hG dL_isExport_415 rfl ?_
            refine s_iload_n hG dL_isExport_416 rfl ?_
            refine s_iconst hG (v := (1 : Int32)) dL_isExport_417 (by decide) ?_
            refine s_isub hG dL_isExport_418 ?_
            refine s_iload hG dL_isExport_419 rfl ?_
            refine s_imul hG dL_isExport_421 ?_
            refine s_iconst hG (v := (2 : Int32)) dL_isExport_422 (by decide) ?_
            refine s_idiv hG dL_isExport_423 ?_
            refine s_dI hG (as := [vI p1, vI (((x3 - (1 : Int32)) * x6) / (2 : Int32))]) (st := []) (rm := rm_X7_charAnew) (rmT := rmT_X7_charAnew) (by decide) dL_isExport_424 ml_RL_116 (rfl) (tb14 (mem_i 28 rfl)) rfl ⟨rfl, rfl⟩ ⟨Nat.le_of_ble_eq_true rfl, Nat.le_of_ble_eq_true rfl⟩ (Nat.le_of_ble_eq_true rfl) ⟨by omega, by omega⟩ rfl (fun o h => c_X7_charAnew l hl9 _ _ _ o h) (fun o424 => ?_)
            refine s_aload_n hG dL_isExport_427 rfl ?_
            refine s_iload_n hG dL_isExport_428 rfl ?_
            refine s_iload_n hG dL_isExport_429 rfl ?_
            refine s_iconst hG (v := (1 : Int32)) dL_isExport_430 (by decide) ?_
            refine s_isub hG dL_isExport_431 ?_
            refine s_iload hG dL_isExport_432 rfl ?_
            refine s_imul hG dL_isExport_434 ?_
            refine s_iconst hG (v := (2 : Int32)) dL_isExport_435 (by decide) ?_
            refine s_idiv hG dL_isExport_436 ?_
            refine s_dI hG (as := [vI p1, vI (((x3 - (1 : Int32)) * x6) / (2 : Int32))]) (st := [vI o424.2.2]) (rm := rm_X7_charAt) (rmT := rmT_X7_charAt) (by decide) dL_isExport_437 ml_RL_55 (rfl) (tb11 (mem_i 10 rfl)) rfl ⟨rfl, rfl⟩ ⟨Nat.le_of_ble_eq_true rfl, Nat.le_of_ble_eq_true rfl⟩ (Nat.le_of_ble_eq_true rfl) ⟨by omega, by omega⟩ rfl (fun o h => c_X7_charAt l hl9 _ _ _ o h) (fun o437 => ?_)
            refine s_icmp_ne hG (tgt := 447) dL_isExport_440 (by decide) ?_ ?_
            · refine s_iconst hG (v := (0 : Int32)) dL_isExport_447 (by decide) ?_
              refine s_lv hG [0, 1, 2, 4] rfl ?_
              exact hb448 _ _ hm399 hrec399 _ _ (by omega) (by omega) _ _ _ _
            · refine s_iconst hG (v := (1 : Int32)) dL_isExport_443 (by decide) ?_
              refine s_goto hG (tgt := 448) dL_isExport_444 (by decide) ?_
              refine s_lv hG [0, 1, 2, 4] rfl ?_
              exact hb448 _ _ hm399 hrec399 _ _ (by omega) (by omega) _ _ _ _
  have hb394 : ∀ (k n : Nat), k + (0 + 0) ≤ 1 → n + 6 * (0 + 0) ≤ 6 → ∀ (S : HS) (x3 : Int32) (t0 : Int32), f_L_isExport_b394 p1 S x3 t0 = some out → G k n S [(0, vR 0), (1, vI p1), (3, vI x3)] 394 [vI t0] := by
    intro  k n hk hn S x3 t0
    unfold f_L_isExport_b394
    refine s_istore hG (lv' := [(5, vI t0), (0, vR 0), (1, vI p1), (3, vI x3)]) dL_isExport_394 (by decide) rfl ?_
    refine s_iconst hG (v := (0 : Int32)) dL_isExport_396 (by decide) ?_
    refine s_istore hG (lv' := [(6, vI (0 : Int32)), (5, vI t0), (0, vR 0), (1, vI p1), (3, vI x3)]) dL_isExport_397 (by decide) rfl ?_
    refine s_lv hG [2, 3, 4, 1, 0] rfl ?_
    exact hb399  _ _ (by omega) (by omega) _ _ _ _
  have hb393 : ∀ (k n : Nat), k + (0 + 0) ≤ 1 → n + 6 * (0 + 0) ≤ 6 → ∀ (S : HS) (x3 : Int32), f_L_isExport_b393 p1 S x3 = some out → G k n S [(0, vR 0), (1, vI p1), (3, vI x3)] 393 [] := by
    intro  k n hk hn S x3
    unfold f_L_isExport_b393
    refine s_iconst hG (v := (0 : Int32)) dL_isExport_393 (by decide) ?_
    exact hb394  _ _ (by omega) (by omega) _ _ _
  have hb366 : ∀ (k n : Nat), k + (1 + 0) ≤ 1 → n + 6 * (1 + 0) ≤ 6 → ∀ (S : HS) (x3 : Int32) (x4 : Int32), f_L_isExport_b366 p1 S x3 x4 = some out → G k n S [(0, vR 0), (1, vI p1), (3, vI x3), (4, vI x4)] 366 [] := by
    intro  k n hk hn S x3 x4
    unfold f_L_isExport_b366
    refine s_iload hG dL_isExport_366 rfl ?_
    refine s_iload_n hG dL_isExport_368 rfl ?_
    refine s_icmp_ne hG (tgt := 393) dL_isExport_369 (by decide) ?_ ?_
    · refine s_lv hG [0, 1, 2] rfl ?_
      exact hb393  _ _ (by omega) (by omega) _ _
    · refine s_aload_n hG dL_isExport_372 rfl ?_
      refine s_bipush hG (v := (12 : Int32)) dL_isExport_373 (by decide) ?_
      refine s_iload_n hG dL_isExport_375 rfl ?_
      refine s_iload_n hG dL_isExport_376 rfl ?_
      refine s_iconst hG (v := (0 : Int32)) dL_isExport_377 (by decide) ?_
      refine s_iconst hG (v := (0 : Int32)) dL_isExport_378 (by decide) ?_
      refine s_iconst hG (v := (0 : Int32)) dL_isExport_379 (by decide) ?_
      refine s_aY hG (as := [vR 0, vI (12 : Int32), vI p1, vI x3, vI (0 : Int32), vI (0 : Int32), vI (0 : Int32)]) (st := []) (rm := rm_L_asks) (hh := hh_L_asks) dL_isExport_380 ml_RL_68 (tb4 (mem_i 23 rfl)) (exin (mem_i 45 (by decide +kernel))) rfl ⟨rfl, rfl⟩ ⟨Nat.le_of_ble_eq_true rfl, Nat.le_of_ble_eq_true rfl⟩ (Nat.le_of_ble_eq_true rfl) ⟨by omega, by omega⟩ rfl (fun o mc h01 h => c_L_asks l hl9 _ _ _ _ _ _ _ o mc h01 h) (fun o380 => ?_)
      refine s_sipush hG (v := (-5004 : Int32)) dL_isExport_383 (by decide) ?_
      refine s_icmp_ne hG (tgt := 393) dL_isExport_386 (by decide) ?_ ?_
      · refine s_lv hG [0, 1, 2] rfl ?_
        exact hb393  _ _ (by omega) (by omega) _ _
      · refine s_iconst hG (v := (1 : Int32)) dL_isExport_389 (by decide) ?_
        refine s_goto hG (tgt := 394) dL_isExport_390 (by decide) ?_
        refine s_lv hG [0, 1, 2] rfl ?_
        exact hb394  _ _ (by omega) (by omega) _ _ _
  have hb360 : ∀ (m272 : Nat) (rec272 : HS × Int32 × Int32 × Int32 → Option (HS × Int32)) (hm272 : 1 + 0 ≤ m272) (hrec272 : ∀ (k n : Nat), k + m272 ≤ 1 → n + 6 * m272 ≤ 6 → ∀ (S : HS) (x3 : Int32) (x4 : Int32) (x5 : Int32), rec272 (S, x3, x4, x5) = some out → G k n S [(0, vR 0), (1, vI p1), (2, vR 38), (3, vI x3), (4, vI x4), (5, vI x5)] 272 []) (k n : Nat), k + (0 + m272) ≤ 1 → n + 6 * (0 + m272) ≤ 6 → ∀ (S : HS) (x3 : Int32) (x4 : Int32) (x5 : Int32), f_L_isExport_b360 p1 rec272 S x3 x4 x5 = some out → G k n S [(0, vR 0), (1, vI p1), (2, vR 38), (3, vI x3), (4, vI x4), (5, vI x5)] 360 [] := by
    intro m272 rec272 hm272 hrec272 k n hk hn S x3 x4 x5
    unfold f_L_isExport_b360
    refine s_iinc hG (v := (x5 + (1 : Int32))) (lv' := [(5, vI (x5 + (1 : Int32))), (0, vR 0), (1, vI p1), (2, vR 38), (3, vI x3), (4, vI x4)]) dL_isExport_360 rfl rfl (by decide) rfl ?_
    refine s_goto hG (tgt := 272) dL_isExport_363 (by decide) ?_
    refine s_lv hG [1, 2, 3, 4, 5, 0] rfl ?_
    exact hrec272 _ _ (by omega) (by omega) _ _ _ _
  have hb358 : ∀ (m272 : Nat) (rec272 : HS × Int32 × Int32 × Int32 → Option (HS × Int32)) (hm272 : 1 + 0 ≤ m272) (hrec272 : ∀ (k n : Nat), k + m272 ≤ 1 → n + 6 * m272 ≤ 6 → ∀ (S : HS) (x3 : Int32) (x4 : Int32) (x5 : Int32), rec272 (S, x3, x4, x5) = some out → G k n S [(0, vR 0), (1, vI p1), (2, vR 38), (3, vI x3), (4, vI x4), (5, vI x5)] 272 []) (k n : Nat), k + (0 + m272) ≤ 1 → n + 6 * (0 + m272) ≤ 6 → ∀ (S : HS) (x3 : Int32) (x5 : Int32) (t0 : Int32), f_L_isExport_b358 p1 rec272 S x3 x5 t0 = some out → G k n S [(0, vR 0), (1, vI p1), (2, vR 38), (3, vI x3), (5, vI x5)] 358 [vI t0] := by
    intro m272 rec272 hm272 hrec272 k n hk hn S x3 x5 t0
    unfold f_L_isExport_b358
    refine s_istore hG (lv' := [(4, vI t0), (0, vR 0), (1, vI p1), (2, vR 38), (3, vI x3), (5, vI x5)]) dL_isExport_358 (by decide) rfl ?_
    refine s_lv hG [1, 2, 3, 4, 0, 5] rfl ?_
    exact hb360 _ _ hm272 hrec272 _ _ (by omega) (by omega) _ _ _ _
  have hb357 : ∀ (m272 : Nat) (rec272 : HS × Int32 × Int32 × Int32 → Option (HS × Int32)) (hm272 : 1 + 0 ≤ m272) (hrec272 : ∀ (k n : Nat), k + m272 ≤ 1 → n + 6 * m272 ≤ 6 → ∀ (S : HS) (x3 : Int32) (x4 : Int32) (x5 : Int32), rec272 (S, x3, x4, x5) = some out → G k n S [(0, vR 0), (1, vI p1), (2, vR 38), (3, vI x3), (4, vI x4), (5, vI x5)] 272 []) (k n : Nat), k + (0 + m272) ≤ 1 → n + 6 * (0 + m272) ≤ 6 → ∀ (S : HS) (x3 : Int32) (x5 : Int32), f_L_isExport_b357 p1 rec272 S x3 x5 = some out → G k n S [(0, vR 0), (1, vI p1), (2, vR 38), (3, vI x3), (5, vI x5)] 357 [] := by
    intro m272 rec272 hm272 hrec272 k n hk hn S x3 x5
    unfold f_L_isExport_b357
    refine s_iconst hG (v := (-1 : Int32)) dL_isExport_357 (by decide) ?_
    exact hb358 _ _ hm272 hrec272 _ _ (by omega) (by omega) _ _ _ _
  have hb326 : ∀ (m272 : Nat) (rec272 : HS × Int32 × Int32 × Int32 → Option (HS × Int32)) (hm272 : 1 + 0 ≤ m272) (hrec272 : ∀ (k n : Nat), k + m272 ≤ 1 → n + 6 * m272 ≤ 6 → ∀ (S : HS) (x3 : Int32) (x4 : Int32) (x5 : Int32), rec272 (S, x3, x4, x5) = some out → G k n S [(0, vR 0), (1, vI p1), (2, vR 38), (3, vI x3), (4, vI x4), (5, vI x5)] 272 []) (k n : Nat), k + (0 + m272) ≤ 1 → n + 6 * (0 + m272) ≤ 6 → ∀ (S : HS) (x3 : Int32) (x5 : Int32) (t0 : Int32), f_L_isExport_b326 p1 rec272 S x3 x5 t0 = some out → G k n S [(0, vR 0), (1, vI p1), (2, vR 38), (3, vI x3), (5, vI x5)] 326 [vI t0] := by
    intro m272 rec272 hm272 hrec272 k n hk hn S x3 x5 t0
    unfold f_L_isExport_b326
    refine s_istore hG (lv' := [(4, vI t0), (0, vR 0), (1, vI p1), (2, vR 38), (3, vI x3), (5, vI x5)]) dL_isExport_326 (by decide) rfl ?_
    refine s_iload hG dL_isExport_328 rfl ?_
    refine s_if_lt hG (tgt := 357) dL_isExport_330 (by decide) ?_ ?_
    · refine s_lv hG [1, 2, 3, 4, 5] rfl ?_
      exact hb357 _ _ hm272 hrec272 _ _ (by omega) (by omega) _ _ _
    · refine s_aload_n hG dL_isExport_333 rfl ?_
      refine s_bipush hG (v := (12 : Int32)) dL_isExport_334 (by decide) ?_
      refine s_iload_n hG dL_isExport_336 rfl ?_
      refine s_iload hG dL_isExport_337 rfl ?_
      refine s_iconst hG (v := (0 : Int32)) dL_isExport_339 (by decide) ?_
      refine s_iconst hG (v := (0 : Int32)) dL_isExport_340 (by decide) ?_
      refine s_iconst hG (v := (0 : Int32)) dL_isExport_341 (by decide) ?_
      refine s_aN hG (as := [vR 0, vI (12 : Int32), vI p1, vI t0, vI (0 : Int32), vI (0 : Int32), vI (0 : Int32)]) (st := []) (rm := rm_L_asks) (hh := hh_L_asks) dL_isExport_342 ml_RL_68 (tb4 (mem_i 23 rfl)) (exin (mem_i 45 (by decide +kernel))) rfl ⟨rfl, rfl⟩ ⟨Nat.le_of_ble_eq_true rfl, Nat.le_of_ble_eq_true rfl⟩ (Nat.le_of_ble_eq_true rfl) ⟨by omega, by omega⟩ rfl (fun o mc h01 h => c_L_asks l hl9 _ _ _ _ _ _ _ o mc h01 h) (fun o342 => ?_)
      refine s_bipush hG (v := (59 : Int32)) dL_isExport_345 (by decide) ?_
      refine s_icmp_ne hG (tgt := 357) dL_isExport_347 (by decide) ?_ ?_
      · refine s_lv hG [1, 2, 3, 4, 5] rfl ?_
        exact hb357 _ _ hm272 hrec272 _ _ (by omega) (by omega) _ _ _
      · refine s_iload hG dL_isExport_350 rfl ?_
        refine s_iconst hG (v := (1 : Int32)) dL_isExport_352 (by decide) ?_
        refine s_iadd hG dL_isExport_353 ?_
        refine s_goto hG (tgt := 358) dL_isExport_354 (by decide) ?_
        refine s_lv hG [1, 2, 3, 4, 5] rfl ?_
        exact hb358 _ _ hm272 hrec272 _ _ (by omega) (by omega) _ _ _ _
  have hb272 : ∀ (k n : Nat), k + (0 * FU + 1 + 0) ≤ 1 → n + 6 * (0 * FU + 1 + 0) ≤ 6 → ∀ (S : HS) (x3 : Int32) (x4 : Int32) (x5 : Int32), f_L_isExport_b272 p1 S x3 x4 x5 = some out → G k n S [(0, vR 0), (1, vI p1), (2, vR 38), (3, vI x3), (4, vI x4), (5, vI x5)] 272 [] := by
    suffices H : ∀ (nf k n : Nat), k + (0 * nf + 1 + 0) ≤ 1 → n + 6 * (0 * nf + 1 + 0) ≤ 6 → ∀ (S : HS) (x3 : Int32) (x4 : Int32) (x5 : Int32), fx (F_L_isExport_b272 p1) nf (S, x3, x4, x5) = some out → G k n S [(0, vR 0), (1, vI p1), (2, vR 38), (3, vI x3), (4, vI x4), (5, vI x5)] 272 [] from fun k n hk hn S x3 x4 x5 => H FU k n hk hn S x3 x4 x5
    intro nf
    induction nf with
    | zero => intro k n _ _ S x3 x4 x5 h9; cases h9
    | succ nf hrec272 =>
      intro k n hk0 hn0 S x3 x4 x5
      show F_L_isExport_b272 p1 (fx (F_L_isExport_b272 p1) nf) (S, x3, x4, x5) = some out → _
      generalize fx (F_L_isExport_b272 p1) nf = rec272 at hrec272
      obtain ⟨m272, hq272⟩ : ∃ m, m = 0 * nf + 1 + 0 := ⟨_, rfl⟩
      rw [← hq272] at hrec272
      have hm272 : 1 + 0 ≤ m272 := by omega
      have hk : k + (0 + m272) ≤ 1 := by omega
      have hn : n + 6 * (0 + m272) ≤ 6 := by omega
      clear hk0 hn0 hq272
      unfold F_L_isExport_b272
      dsimp only
      refine s_iload hG dL_isExport_272 rfl ?_
      refine s_aload_n hG dL_isExport_274 rfl ?_
      refine s_iconst hG (v := (2 : Int32)) dL_isExport_275 (by decide) ?_
      refine s_iaload hG dL_isExport_276 (rfl) ?_
      refine s_icmp_ge hG (tgt := 366) dL_isExport_277 (by decide) ?_ ?_
      · refine s_lv hG [0, 1, 3, 4] rfl ?_
        exact hb366  _ _ (by omega) (by omega) _ _ _
      · refine s_iload hG dL_isExport_280 rfl ?_
        refine s_if_lt hG (tgt := 366) dL_isExport_282 (by decide) ?_ ?_
        · refine s_lv hG [0, 1, 3, 4] rfl ?_
          exact hb366  _ _ (by omega) (by omega) _ _ _
        · refine s_aload_n hG dL_isExport_285 rfl ?_
          refine s_iload hG dL_isExport_286 rfl ?_
          refine s_dI hG (as := [vI x5]) (st := []) (rm := rm_X7_isInForce) (rmT := rmT_X7_isInForce) (by decide) dL_isExport_288 ml_RL_80 (rfl) (tb12 (mem_i 14 rfl)) rfl ⟨rfl, rfl⟩ ⟨Nat.le_of_ble_eq_true rfl, Nat.le_of_ble_eq_true rfl⟩ (Nat.le_of_ble_eq_true rfl) ⟨by omega, by omega⟩ rfl (fun o h => c_X7_isInForce l hl9 _ _ o h) (fun o288 => ?_)
          refine s_if_eq hG (tgt := 360) dL_isExport_291 (by decide) ?_ ?_
          · exact hb360 _ _ hm272 hrec272 _ _ (by omega) (by omega) _ _ _ _
          · refine s_aload_n hG dL_isExport_294 rfl ?_
            refine s_bipush hG (v := (12 : Int32)) dL_isExport_295 (by decide) ?_
            refine s_iload_n hG dL_isExport_297 rfl ?_
            refine s_iload hG dL_isExport_298 rfl ?_
            refine s_iconst hG (v := (0 : Int32)) dL_isExport_300 (by decide) ?_
            refine s_iconst hG (v := (0 : Int32)) dL_isExport_301 (by decide) ?_
            refine s_iconst hG (v := (0 : Int32)) dL_isExport_302 (by decide) ?_
            refine s_aN hG (as := [vR 0, vI (12 : Int32), vI p1, vI x4, vI (0 : Int32), vI (0 : Int32), vI (0 : Int32)]) (st := []) (rm := rm_L_asks) (hh := hh_L_asks) dL_isExport_303 ml_RL_68 (tb4 (mem_i 23 rfl)) (exin (mem_i 45 (by decide +kernel))) rfl ⟨rfl, rfl⟩ ⟨Nat.le_of_ble_eq_true rfl, Nat.le_of_ble_eq_true rfl⟩ (Nat.le_of_ble_eq_true rfl) ⟨by omega, by omega⟩ rfl (fun o mc h01 h => c_L_asks l hl9 _ _ _ _ _ _ _ o mc h01 h) (fun o303 => ?_)
            refine s_bipush hG (v := (114 : Int32)) dL_isExport_306 (by decide) ?_
            refine s_icmp_ne hG (tgt := 325) dL_isExport_308 (by decide) ?_ ?_
            · refine s_iconst hG (v := (-1 : Int32)) dL_isExport_325 (by decide) ?_
              refine s_lv hG [0, 1, 2, 3, 5] rfl ?_
              exact hb326 _ _ hm272 hrec272 _ _ (by omega) (by omega) _ _ _ _
            · refine s_aload_n hG dL_isExport_311 rfl ?_
              refine s_iload_n hG dL_isExport_312 rfl ?_
              refine s_iload hG dL_isExport_313 rfl ?_
              refine s_iconst hG (v := (1 : Int32)) dL_isExport_315 (by decide) ?_
              refine s_iadd hG dL_isExport_316 ?_
              refine s_iload hG dL_isExport_317 rfl ?_
              refine s_csKI hG (as := [vR 0, vI p1, vI (x4 + (1 : Int32)), vI x5]) (st := []) (rm := rm_L_reads) (KK := 0) (NN := 0) dL_isExport_319 ml_RL_112 (tb14 (mem_i 24 rfl)) rfl ⟨rfl, rfl⟩ ⟨Nat.le_of_ble_eq_true rfl, Nat.le_of_ble_eq_true rfl⟩ (Nat.le_of_ble_eq_true rfl) ⟨by omega, by omega⟩ rfl (fun o h => c_L_reads l hl9 _ _ _ _ o h) (fun o319 => ?_)
              refine s_goto hG (tgt := 326) dL_isExport_322 (by decide) ?_
              refine s_lv hG [0, 1, 2, 3, 5] rfl ?_
              exact hb326 _ _ hm272 hrec272 _ _ (by omega) (by omega) _ _ _ _
  have hb269 : ∀ (k n : Nat), k + (1 + 0) ≤ 1 → n + 6 * (1 + 0) ≤ 6 → ∀ (S : HS) (x3 : Int32) (x4 : Int32), f_L_isExport_b269 p1 S x3 x4 = some out → G k n S [(0, vR 0), (1, vI p1), (2, vR 38), (3, vI x3), (4, vI x4)] 269 [] := by
    intro  k n hk hn S x3 x4
    unfold f_L_isExport_b269
    refine s_iconst hG (v := (0 : Int32)) dL_isExport_269 (by decide) ?_
    refine s_istore hG (lv' := [(5, vI (0 : Int32)), (0, vR 0), (1, vI p1), (2, vR 38), (3, vI x3), (4, vI x4)]) dL_isExport_270 (by decide) rfl ?_
    refine s_lv hG [1, 2, 3, 4, 5, 0] rfl ?_
    exact hb272  _ _ (by omega) (by omega) _ _ _ _
  have hb263 : ∀ (m12 : Nat) (rec12 : HS × Int32 × Int32 × Int32 → Option (HS × Int32)) (hm12 : 1 + 0 ≤ m12) (hrec12 : ∀ (k n : Nat), k + m12 ≤ 1 → n + 6 * m12 ≤ 6 → ∀ (S : HS) (x3 : Int32) (x4 : Int32) (x5 : Int32), rec12 (S, x3, x4, x5) = some out → G k n S [(0, vR 0), (1, vI p1), (2, vR 38), (3, vI x3), (4, vI x4), (5, vI x5)] 12 []) (k n : Nat), k + (0 + m12) ≤ 1 → n + 6 * (0 + m12) ≤ 6 → ∀ (S : HS) (x3 : Int32) (x4 : Int32) (x5 : Int32), f_L_isExport_b263 p1 rec12 S x3 x4 x5 = some out → G k n S [(0, vR 0), (1, vI p1), (2, vR 38), (3, vI x3), (4, vI x4), (5, vI x5)] 263 [] := by
    intro m12 rec12 hm12 hrec12 k n hk hn S x3 x4 x5
    unfold f_L_isExport_b263
    refine s_iinc hG (v := (x5 + (1 : Int32))) (lv' := [(5, vI (x5 + (1 : Int32))), (0, vR 0), (1, vI p1), (2, vR 38), (3, vI x3), (4, vI x4)]) dL_isExport_263 rfl rfl (by decide) rfl ?_
    refine s_goto hG (tgt := 12) dL_isExport_266 (by decide) ?_
    refine s_lv hG [1, 2, 3, 4, 5, 0] rfl ?_
    exact hrec12 _ _ (by omega) (by omega) _ _ _ _
  have hb261 : ∀ (m12 : Nat) (rec12 : HS × Int32 × Int32 × Int32 → Option (HS × Int32)) (hm12 : 1 + 0 ≤ m12) (hrec12 : ∀ (k n : Nat), k + m12 ≤ 1 → n + 6 * m12 ≤ 6 → ∀ (S : HS) (x3 : Int32) (x4 : Int32) (x5 : Int32), rec12 (S, x3, x4, x5) = some out → G k n S [(0, vR 0), (1, vI p1), (2, vR 38), (3, vI x3), (4, vI x4), (5, vI x5)] 12 []) (k n : Nat), k + (0 + m12) ≤ 1 → n + 6 * (0 + m12) ≤ 6 → ∀ (S : HS) (x3 : Int32) (x5 : Int32) (t0 : Int32), f_L_isExport_b261 p1 rec12 S x3 x5 t0 = some out → G k n S [(0, vR 0), (1, vI p1), (2, vR 38), (3, vI x3), (5, vI x5)] 261 [vI t0] := by
    intro m12 rec12 hm12 hrec12 k n hk hn S x3 x5 t0
    unfold f_L_isExport_b261
    refine s_istore hG (lv' := [(4, vI t0), (0, vR 0), (1, vI p1), (2, vR 38), (3, vI x3), (5, vI x5)]) dL_isExport_261 (by decide) rfl ?_
    refine s_lv hG [1, 2, 3, 4, 0, 5] rfl ?_
    exact hb263 _ _ hm12 hrec12 _ _ (by omega) (by omega) _ _ _ _
  have hb260 : ∀ (m12 : Nat) (rec12 : HS × Int32 × Int32 × Int32 → Option (HS × Int32)) (hm12 : 1 + 0 ≤ m12) (hrec12 : ∀ (k n : Nat), k + m12 ≤ 1 → n + 6 * m12 ≤ 6 → ∀ (S : HS) (x3 : Int32) (x4 : Int32) (x5 : Int32), rec12 (S, x3, x4, x5) = some out → G k n S [(0, vR 0), (1, vI p1), (2, vR 38), (3, vI x3), (4, vI x4), (5, vI x5)] 12 []) (k n : Nat), k + (0 + m12) ≤ 1 → n + 6 * (0 + m12) ≤ 6 → ∀ (S : HS) (x3 : Int32) (x5 : Int32), f_L_isExport_b260 p1 rec12 S x3 x5 = some out → G k n S [(0, vR 0), (1, vI p1), (2, vR 38), (3, vI x3), (5, vI x5)] 260 [] := by
    intro m12 rec12 hm12 hrec12 k n hk hn S x3 x5
    unfold f_L_isExport_b260
    refine s_iconst hG (v := (-1 : Int32)) dL_isExport_260 (by decide) ?_
    exact hb261 _ _ hm12 hrec12 _ _ (by omega) (by omega) _ _ _ _
  have hb236 : ∀ (m12 : Nat) (rec12 : HS × Int32 × Int32 × Int32 → Option (HS × Int32)) (hm12 : 1 + 0 ≤ m12) (hrec12 : ∀ (k n : Nat), k + m12 ≤ 1 → n + 6 * m12 ≤ 6 → ∀ (S : HS) (x3 : Int32) (x4 : Int32) (x5 : Int32), rec12 (S, x3, x4, x5) = some out → G k n S [(0, vR 0), (1, vI p1), (2, vR 38), (3, vI x3), (4, vI x4), (5, vI x5)] 12 []) (k n : Nat), k + (0 + m12) ≤ 1 → n + 6 * (0 + m12) ≤ 6 → ∀ (S : HS) (x3 : Int32) (x4 : Int32) (x5 : Int32), f_L_isExport_b236 p1 rec12 S x3 x4 x5 = some out → G k n S [(0, vR 0), (1, vI p1), (2, vR 38), (3, vI x3), (4, vI x4), (5, vI x5)] 236 [] := by
    intro m12 rec12 hm12 hrec12 k n hk hn S x3 x4 x5
    unfold f_L_isExport_b236
    refine s_aload_n hG dL_isExport_236 rfl ?_
    refine s_bipush hG (v := (12 : Int32)) dL_isExport_237 (by decide) ?_
    refine s_iload_n hG dL_isExport_239 rfl ?_
    refine s_iload hG dL_isExport_240 rfl ?_
    refine s_iconst hG (v := (0 : Int32)) dL_isExport_242 (by decide) ?_
    refine s_iconst hG (v := (0 : Int32)) dL_isExport_243 (by decide) ?_
    refine s_iconst hG (v := (0 : Int32)) dL_isExport_244 (by decide) ?_
    refine s_aN hG (as := [vR 0, vI (12 : Int32), vI p1, vI x4, vI (0 : Int32), vI (0 : Int32), vI (0 : Int32)]) (st := []) (rm := rm_L_asks) (hh := hh_L_asks) dL_isExport_245 ml_RL_68 (tb4 (mem_i 23 rfl)) (exin (mem_i 45 (by decide +kernel))) rfl ⟨rfl, rfl⟩ ⟨Nat.le_of_ble_eq_true rfl, Nat.le_of_ble_eq_true rfl⟩ (Nat.le_of_ble_eq_true rfl) ⟨by omega, by omega⟩ rfl (fun o mc h01 h => c_L_asks l hl9 _ _ _ _ _ _ _ o mc h01 h) (fun o245 => ?_)
    refine s_bipush hG (v := (59 : Int32)) dL_isExport_248 (by decide) ?_
    refine s_icmp_ne hG (tgt := 260) dL_isExport_250 (by decide) ?_ ?_
    · refine s_lv hG [0, 1, 2, 3, 5] rfl ?_
      exact hb260 _ _ hm12 hrec12 _ _ (by omega) (by omega) _ _ _
    · refine s_iload hG dL_isExport_253 rfl ?_
      refine s_iconst hG (v := (1 : Int32)) dL_isExport_255 (by decide) ?_
      refine s_iadd hG dL_isExport_256 ?_
      refine s_goto hG (tgt := 261) dL_isExport_257 (by decide) ?_
      refine s_lv hG [0, 1, 2, 3, 5] rfl ?_
      exact hb261 _ _ hm12 hrec12 _ _ (by omega) (by omega) _ _ _ _
  have hb197 : ∀ (m12 : Nat) (rec12 : HS × Int32 × Int32 × Int32 → Option (HS × Int32)) (hm12 : 1 + 0 ≤ m12) (hrec12 : ∀ (k n : Nat), k + m12 ≤ 1 → n + 6 * m12 ≤ 6 → ∀ (S : HS) (x3 : Int32) (x4 : Int32) (x5 : Int32), rec12 (S, x3, x4, x5) = some out → G k n S [(0, vR 0), (1, vI p1), (2, vR 38), (3, vI x3), (4, vI x4), (5, vI x5)] 12 []) (k n : Nat), k + (0 + m12) ≤ 1 → n + 6 * (0 + m12) ≤ 6 → ∀ (S : HS) (x3 : Int32) (x4 : Int32) (x5 : Int32) (x6 : Int32) (x7 : Int32), f_L_isExport_b197 p1 rec12 S x3 x4 x5 x6 x7 = some out → G k n S [(0, vR 0), (1, vI p1), (2, vR 38), (3, vI x3), (4, vI x4), (5, vI x5), (6, vI x6), (7, vI x7)] 197 [] := by
    intro m12 rec12 hm12 hrec12 k n hk hn S x3 x4 x5 x6 x7
    unfold f_L_isExport_b197
    refine s_iload hG dL_isExport_197 rfl ?_
    refine s_if_lt hG (tgt := 260) dL_isExport_199 (by decide) ?_ ?_
    · refine s_lv hG [0, 1, 2, 3, 5] rfl ?_
      exact hb260 _ _ hm12 hrec12 _ _ (by omega) (by omega) _ _ _
    · refine s_iload hG dL_isExport_202 rfl ?_
      refine s_bipush hG (v := (98 : Int32)) dL_isExport_204 (by decide) ?_
      refine s_icmp_eq hG (tgt := 236) dL_isExport_206 (by decide) ?_ ?_
      · refine s_lv hG [0, 1, 2, 3, 4, 5] rfl ?_
        exact hb236 _ _ hm12 hrec12 _ _ (by omega) (by omega) _ _ _ _
      · refine s_iload hG dL_isExport_209 rfl ?_
        refine s_iconst hG (v := (1 : Int32)) dL_isExport_211 (by decide) ?_
        refine s_icmp_le hG (tgt := 260) dL_isExport_212 (by decide) ?_ ?_
        · refine s_lv hG [0, 1, 2, 3, 5] rfl ?_
          exact hb260 _ _ hm12 hrec12 _ _ (by omega) (by omega) _ _ _
        · refine s_iload hG dL_isExport_215 rfl ?_
          refine s_bipush hG (v := (11 : Int32)) dL_isExport_217 (by decide) ?_
          refine s_icmp_gt hG (tgt := 260) dL_isExport_219 (by decide) ?_ ?_
          · refine s_lv hG [0, 1, 2, 3, 5] rfl ?_
            exact hb260 _ _ hm12 hrec12 _ _ (by omega) (by omega) _ _ _
          · refine s_iload hG dL_isExport_222 rfl ?_
            refine s_aload_n hG dL_isExport_224 rfl ?_
            refine s_iload hG dL_isExport_225 rfl ?_
            refine s_iconst hG (v := (2 : Int32)) dL_isExport_227 (by decide) ?_
            refine s_dI hG (as := [vI x5, vI (2 : Int32)]) (st := [vI x7]) (rm := rm_X7_number) (rmT := rmT_X7_number) (by decide) dL_isExport_228 ml_RL_44 (rfl) (tb10 (mem_i 19 rfl)) rfl ⟨rfl, rfl⟩ ⟨Nat.le_of_ble_eq_true rfl, Nat.le_of_ble_eq_true rfl⟩ (Nat.le_of_ble_eq_true rfl) ⟨by omega, by omega⟩ rfl (fun o h => c_X7_number l hl9 _ _ _ o h) (fun o228 => ?_)
            refine s_iconst hG (v := (2 : Int32)) dL_isExport_231 (by decide) ?_
            refine s_idiv hG dL_isExport_232 ?_
            refine s_icmp_le hG (tgt := 260) dL_isExport_233 (by decide) ?_ ?_
            · refine s_lv hG [0, 1, 2, 3, 5] rfl ?_
              exact hb260 _ _ hm12 hrec12 _ _ (by omega) (by omega) _ _ _
            · refine s_lv hG [0, 1, 2, 3, 4, 5] rfl ?_
              exact hb236 _ _ hm12 hrec12 _ _ (by omega) (by omega) _ _ _ _
  have hb152 : ∀ (m12 : Nat) (rec12 : HS × Int32 × Int32 × Int32 → Option (HS × Int32)) (hm12 : 1 + 0 ≤ m12) (hrec12 : ∀ (k n : Nat), k + m12 ≤ 1 → n + 6 * m12 ≤ 6 → ∀ (S : HS) (x3 : Int32) (x4 : Int32) (x5 : Int32), rec12 (S, x3, x4, x5) = some out → G k n S [(0, vR 0), (1, vI p1), (2, vR 38), (3, vI x3), (4, vI x4), (5, vI x5)] 12 []), ∀ (k n : Nat), k + (0 * FU + 0 + m12) ≤ 1 → n + 6 * (0 * FU + 0 + m12) ≤ 6 → ∀ (S : HS) (x3 : Int32) (x4 : Int32) (x5 : Int32) (x6 : Int32) (x7 : Int32), f_L_isExport_b152 p1 rec12 S x3 x4 x5 x6 x7 = some out → G k n S [(0, vR 0), (1, vI p1), (2, vR 38), (3, vI x3), (4, vI x4), (5, vI x5), (6, vI x6), (7, vI x7)] 152 [] := by
    intro m12 rec12 hm12 hrec12
    suffices H : ∀ (nf k n : Nat), k + (0 * nf + 0 + m12) ≤ 1 → n + 6 * (0 * nf + 0 + m12) ≤ 6 → ∀ (S : HS) (x3 : Int32) (x4 : Int32) (x5 : Int32) (x6 : Int32) (x7 : Int32), fx (F_L_isExport_b152 p1 rec12) nf (S, x3, x4, x5, x6, x7) = some out → G k n S [(0, vR 0), (1, vI p1), (2, vR 38), (3, vI x3), (4, vI x4), (5, vI x5), (6, vI x6), (7, vI x7)] 152 [] from fun k n hk hn S x3 x4 x5 x6 x7 => H FU k n hk hn S x3 x4 x5 x6 x7
    intro nf
    induction nf with
    | zero => intro k n _ _ S x3 x4 x5 x6 x7 h9; cases h9
    | succ nf hrec152 =>
      intro k n hk0 hn0 S x3 x4 x5 x6 x7
      show F_L_isExport_b152 p1 rec12 (fx (F_L_isExport_b152 p1 rec12) nf) (S, x3, x4, x5, x6, x7) = some out → _
      generalize fx (F_L_isExport_b152 p1 rec12) nf = rec152 at hrec152
      obtain ⟨m152, hq152⟩ : ∃ m, m = 0 * nf + 0 + m12 := ⟨_, rfl⟩
      rw [← hq152] at hrec152
      have hm152 : 0 + m12 ≤ m152 := by omega
      have hk : k + (0 + m152) ≤ 1 := by omega
      have hn : n + 6 * (0 + m152) ≤ 6 := by omega
      clear hk0 hn0 hq152
      unfold F_L_isExport_b152
      dsimp only
      refine s_iload hG dL_isExport_152 rfl ?_
      refine s_if_lt hG (tgt := 197) dL_isExport_154 (by decide) ?_ ?_
      · exact hb197 _ _ hm12 hrec12 _ _ (by omega) (by omega) _ _ _ _ _ _
      · refine s_iload hG dL_isExport_157 rfl ?_
        refine s_bipush hG (v := (116 : Int32)) dL_isExport_159 (by decide) ?_
        refine s_icmp_ne hG (tgt := 197) dL_isExport_161 (by decide) ?_ ?_
        · exact hb197 _ _ hm12 hrec12 _ _ (by omega) (by omega) _ _ _ _ _ _
        · refine s_iload hG dL_isExport_164 rfl ?_
          refine s_bipush hG (v := (11 : Int32)) dL_isExport_166 (by decide) ?_
          refine s_icmp_ge hG (tgt := 197) dL_isExport_168 (by decide) ?_ ?_
          · exact hb197 _ _ hm12 hrec12 _ _ (by omega) (by omega) _ _ _ _ _ _
          · refine s_aload_n hG dL_isExport_171 rfl ?_
            refine s_bipush hG (v := (12 : Int32)) dL_isExport_172 (by decide) ?_
            refine s_iload_n hG dL_isExport_174 rfl ?_
            refine s_iload hG dL_isExport_175 rfl ?_
            refine s_iconst hG (v := (0 : Int32)) dL_isExport_177 (by decide) ?_
            refine s_iconst hG (v := (0 : Int32)) dL_isExport_178 (by decide) ?_
            refine s_iconst hG (v := (0 : Int32)) dL_isExport_179 (by decide) ?_
            refine s_aN hG (as := [vR 0, vI (12 : Int32), vI p1, vI x4, vI (0 : Int32), vI (0 : Int32), vI (0 : Int32)]) (st := []) (rm := rm_L_asks) (hh := hh_L_asks) dL_isExport_180 ml_RL_68 (tb4 (mem_i 23 rfl)) (exin (mem_i 45 (by decide +kernel))) rfl ⟨rfl, rfl⟩ ⟨Nat.le_of_ble_eq_true rfl, Nat.le_of_ble_eq_true rfl⟩ (Nat.le_of_ble_eq_true rfl) ⟨by omega, by omega⟩ rfl (fun o mc h01 h => c_L_asks l hl9 _ _ _ _ _ _ _ o mc h01 h) (fun o180 => ?_)
            refine s_bipush hG (v := (59 : Int32)) dL_isExport_183 (by decide) ?_
            refine s_icmp_eq hG (tgt := 197) dL_isExport_185 (by decide) ?_ ?_
            · exact hb197 _ _ hm12 hrec12 _ _ (by omega) (by omega) _ _ _ _ _ _
            · refine s_iinc hG (v := (x4 + (1 : Int32))) (lv' := [(4, vI (x4 + (1 : Int32))), (0, vR 0), (1, vI p1), (2, vR 38), (3, vI x3), (5, vI x5), (6, vI x6), (7, vI x7)]) dL_isExport_188 rfl rfl (by decide) rfl ?_
              refine s_iinc hG (v := (x7 + (1 : Int32))) (lv' := [(7, vI (x7 + (1 : Int32))), (4, vI (x4 + (1 : Int32))), (0, vR 0), (1, vI p1), (2, vR 38), (3, vI x3), (5, vI x5), (6, vI x6)]) dL_isExport_191 rfl rfl (by decide) rfl ?_
              refine s_goto hG (tgt := 152) dL_isExport_194 (by decide) ?_
              refine s_lv hG [2, 3, 4, 5, 1, 6, 7, 0] rfl ?_
              exact hrec152 _ _ (by omega) (by omega) _ _ _ _ _ _
  have hb149 : ∀ (m12 : Nat) (rec12 : HS × Int32 × Int32 × Int32 → Option (HS × Int32)) (hm12 : 1 + 0 ≤ m12) (hrec12 : ∀ (k n : Nat), k + m12 ≤ 1 → n + 6 * m12 ≤ 6 → ∀ (S : HS) (x3 : Int32) (x4 : Int32) (x5 : Int32), rec12 (S, x3, x4, x5) = some out → G k n S [(0, vR 0), (1, vI p1), (2, vR 38), (3, vI x3), (4, vI x4), (5, vI x5)] 12 []) (k n : Nat), k + (0 + m12) ≤ 1 → n + 6 * (0 + m12) ≤ 6 → ∀ (S : HS) (x3 : Int32) (x4 : Int32) (x5 : Int32) (x6 : Int32), f_L_isExport_b149 p1 rec12 S x3 x4 x5 x6 = some out → G k n S [(0, vR 0), (1, vI p1), (2, vR 38), (3, vI x3), (4, vI x4), (5, vI x5), (6, vI x6)] 149 [] := by
    intro m12 rec12 hm12 hrec12 k n hk hn S x3 x4 x5 x6
    unfold f_L_isExport_b149
    refine s_iconst hG (v := (0 : Int32)) dL_isExport_149 (by decide) ?_
    refine s_istore hG (lv' := [(7, vI (0 : Int32)), (0, vR 0), (1, vI p1), (2, vR 38), (3, vI x3), (4, vI x4), (5, vI x5), (6, vI x6)]) dL_isExport_150 (by decide) rfl ?_
    refine s_lv hG [1, 2, 3, 4, 5, 6, 7, 0] rfl ?_
    exact hb152 _ _ hm12 hrec12 _ _ (by omega) (by omega) _ _ _ _ _ _
  have hb141 : ∀ (m12 : Nat) (rec12 : HS × Int32 × Int32 × Int32 → Option (HS × Int32)) (hm12 : 1 + 0 ≤ m12) (hrec12 : ∀ (k n : Nat), k + m12 ≤ 1 → n + 6 * m12 ≤ 6 → ∀ (S : HS) (x3 : Int32) (x4 : Int32) (x5 : Int32), rec12 (S, x3, x4, x5) = some out → G k n S [(0, vR 0), (1, vI p1), (2, vR 38), (3, vI x3), (4, vI x4), (5, vI x5)] 12 []) (m82 : Nat) (rec82 : HS × Int32 × Int32 × Int32 × Int32 × Int32 → Option (HS × Int32)) (hm82 : 0 + m12 ≤ m82) (hrec82 : ∀ (k n : Nat), k + m82 ≤ 1 → n + 6 * m82 ≤ 6 → ∀ (S : HS) (x3 : Int32) (x4 : Int32) (x5 : Int32) (x6 : Int32) (x7 : Int32), rec82 (S, x3, x4, x5, x6, x7) = some out → G k n S [(0, vR 0), (1, vI p1), (2, vR 38), (3, vI x3), (4, vI x4), (5, vI x5), (6, vI x6), (7, vI x7)] 82 []) (k n : Nat), k + (0 + m82) ≤ 1 → n + 6 * (0 + m82) ≤ 6 → ∀ (S : HS) (x3 : Int32) (x5 : Int32) (x6 : Int32) (x7 : Int32) (t0 : Int32), f_L_isExport_b141 p1 rec12 rec82 S x3 x5 x6 x7 t0 = some out → G k n S [(0, vR 0), (1, vI p1), (2, vR 38), (3, vI x3), (5, vI x5), (6, vI x6), (7, vI x7)] 141 [vI t0] := by
    intro m12 rec12 hm12 hrec12 m82 rec82 hm82 hrec82 k n hk hn S x3 x5 x6 x7 t0
    unfold f_L_isExport_b141
    refine s_istore hG (lv' := [(4, vI t0), (0, vR 0), (1, vI p1), (2, vR 38), (3, vI x3), (5, vI x5), (6, vI x6), (7, vI x7)]) dL_isExport_141 (by decide) rfl ?_
    refine s_iinc hG (v := (x7 + (1 : Int32))) (lv' := [(7, vI (x7 + (1 : Int32))), (4, vI t0), (0, vR 0), (1, vI p1), (2, vR 38), (3, vI x3), (5, vI x5), (6, vI x6)]) dL_isExport_143 rfl rfl (by decide) rfl ?_
    refine s_goto hG (tgt := 82) dL_isExport_146 (by decide) ?_
    refine s_lv hG [2, 3, 4, 5, 1, 6, 7, 0] rfl ?_
    exact hrec82 _ _ (by omega) (by omega) _ _ _ _ _ _
  have hb117 : ∀ (m12 : Nat) (rec12 : HS × Int32 × Int32 × Int32 → Option (HS × Int32)) (hm12 : 1 + 0 ≤ m12) (hrec12 : ∀ (k n : Nat), k + m12 ≤ 1 → n + 6 * m12 ≤ 6 → ∀ (S : HS) (x3 : Int32) (x4 : Int32) (x5 : Int32), rec12 (S, x3, x4, x5) = some out → G k n S [(0, vR 0), (1, vI p1), (2, vR 38), (3, vI x3), (4, vI x4), (5, vI x5)] 12 []) (m82 : Nat) (rec82 : HS × Int32 × Int32 × Int32 × Int32 × Int32 → Option (HS × Int32)) (hm82 : 0 + m12 ≤ m82) (hrec82 : ∀ (k n : Nat), k + m82 ≤ 1 → n + 6 * m82 ≤ 6 → ∀ (S : HS) (x3 : Int32) (x4 : Int32) (x5 : Int32) (x6 : Int32) (x7 : Int32), rec82 (S, x3, x4, x5, x6, x7) = some out → G k n S [(0, vR 0), (1, vI p1), (2, vR 38), (3, vI x3), (4, vI x4), (5, vI x5), (6, vI x6), (7, vI x7)] 82 []) (k n : Nat), k + (0 + m82) ≤ 1 → n + 6 * (0 + m82) ≤ 6 → ∀ (S : HS) (x3 : Int32) (x4 : Int32) (x5 : Int32) (x6 : Int32) (x7 : Int32) (t0 : Int32) (t1 : Int32), f_L_isExport_b117 p1 rec12 rec82 S x3 x4 x5 x6 x7 t0 t1 = some out → G k n S [(0, vR 0), (1, vI p1), (2, vR 38), (3, vI x3), (4, vI x4), (5, vI x5), (6, vI x6), (7, vI x7)] 117 [vI t1, vI t0] := by
    intro m12 rec12 hm12 hrec12 m82 rec82 hm82 hrec82 k n hk hn S x3 x4 x5 x6 x7 t0 t1
    unfold f_L_isExport_b117
    refine s_icmp_ne hG (tgt := 140) dL_isExport_117 (by decide) ?_ ?_
    · refine s_iconst hG (v := (-1 : Int32)) dL_isExport_140 (by decide) ?_
      refine s_lv hG [0, 1, 2, 3, 5, 6, 7] rfl ?_
      exact hb141 _ _ hm12 hrec12 _ _ hm82 hrec82 _ _ (by omega) (by omega) _ _ _ _ _ _
    · refine s_aload_n hG dL_isExport_120 rfl ?_
      refine s_iload_n hG dL_isExport_121 rfl ?_
      refine s_iload hG dL_isExport_122 rfl ?_
      refine s_iconst hG (v := (1 : Int32)) dL_isExport_124 (by decide) ?_
      refine s_iadd hG dL_isExport_125 ?_
      refine s_aload_n hG dL_isExport_126 rfl ?_
      refine s_iload hG dL_isExport_127 rfl ?_
      refine s_iload hG dL_isExport_129 rfl ?_
      refine s_dI hG (as := [vI x5, vI x7]) (st := [vI (x4 + (1 : Int32)), vI p1, vR 0]) (rm := rm_X7_number) (rmT := rmT_X7_number) (by decide) dL_isExport_131 ml_RL_44 (rfl) (tb10 (mem_i 19 rfl)) rfl ⟨rfl, rfl⟩ ⟨Nat.le_of_ble_eq_true rfl, Nat.le_of_ble_eq_true rfl⟩ (Nat.le_of_ble_eq_true rfl) ⟨by omega, by omega⟩ rfl (fun o h => c_X7_number l hl9 _ _ _ o h) (fun o131 => ?_)
      refine s_csKI hG (as := [vR 0, vI p1, vI (x4 + (1 : Int32)), vI o131.2.2]) (st := []) (rm := rm_L_reads) (KK := 0) (NN := 0) dL_isExport_134 ml_RL_112 (tb14 (mem_i 24 rfl)) rfl ⟨rfl, rfl⟩ ⟨Nat.le_of_ble_eq_true rfl, Nat.le_of_ble_eq_true rfl⟩ (Nat.le_of_ble_eq_true rfl) ⟨by omega, by omega⟩ rfl (fun o h => c_L_reads l hl9 _ _ _ _ o h) (fun o134 => ?_)
      refine s_goto hG (tgt := 141) dL_isExport_137 (by decide) ?_
      refine s_lv hG [0, 1, 2, 3, 5, 6, 7] rfl ?_
      exact hb141 _ _ hm12 hrec12 _ _ hm82 hrec82 _ _ (by omega) (by omega) _ _ _ _ _ _
  have hb82 : ∀ (m12 : Nat) (rec12 : HS × Int32 × Int32 × Int32 → Option (HS × Int32)) (hm12 : 1 + 0 ≤ m12) (hrec12 : ∀ (k n : Nat), k + m12 ≤ 1 → n + 6 * m12 ≤ 6 → ∀ (S : HS) (x3 : Int32) (x4 : Int32) (x5 : Int32), rec12 (S, x3, x4, x5) = some out → G k n S [(0, vR 0), (1, vI p1), (2, vR 38), (3, vI x3), (4, vI x4), (5, vI x5)] 12 []), ∀ (k n : Nat), k + (0 * FU + 0 + m12) ≤ 1 → n + 6 * (0 * FU + 0 + m12) ≤ 6 → ∀ (S : HS) (x3 : Int32) (x4 : Int32) (x5 : Int32) (x6 : Int32) (x7 : Int32), f_L_isExport_b82 p1 rec12 S x3 x4 x5 x6 x7 = some out → G k n S [(0, vR 0), (1, vI p1), (2, vR 38), (3, vI x3), (4, vI x4), (5, vI x5), (6, vI x6), (7, vI x7)] 82 [] := by
    intro m12 rec12 hm12 hrec12
    suffices H : ∀ (nf k n : Nat), k + (0 * nf + 0 + m12) ≤ 1 → n + 6 * (0 * nf + 0 + m12) ≤ 6 → ∀ (S : HS) (x3 : Int32) (x4 : Int32) (x5 : Int32) (x6 : Int32) (x7 : Int32), fx (F_L_isExport_b82 p1 rec12) nf (S, x3, x4, x5, x6, x7) = some out → G k n S [(0, vR 0), (1, vI p1), (2, vR 38), (3, vI x3), (4, vI x4), (5, vI x5), (6, vI x6), (7, vI x7)] 82 [] from fun k n hk hn S x3 x4 x5 x6 x7 => H FU k n hk hn S x3 x4 x5 x6 x7
    intro nf
    induction nf with
    | zero => intro k n _ _ S x3 x4 x5 x6 x7 h9; cases h9
    | succ nf hrec82 =>
      intro k n hk0 hn0 S x3 x4 x5 x6 x7
      show F_L_isExport_b82 p1 rec12 (fx (F_L_isExport_b82 p1 rec12) nf) (S, x3, x4, x5, x6, x7) = some out → _
      generalize fx (F_L_isExport_b82 p1 rec12) nf = rec82 at hrec82
      obtain ⟨m82, hq82⟩ : ∃ m, m = 0 * nf + 0 + m12 := ⟨_, rfl⟩
      rw [← hq82] at hrec82
      have hm82 : 0 + m12 ≤ m82 := by omega
      have hk : k + (0 + m82) ≤ 1 := by omega
      have hn : n + 6 * (0 + m82) ≤ 6 := by omega
      clear hk0 hn0 hq82
      unfold F_L_isExport_b82
      dsimp only
      refine s_iload hG dL_isExport_82 rfl ?_
      refine s_iconst hG (v := (4 : Int32)) dL_isExport_84 (by decide) ?_
      refine s_icmp_ge hG (tgt := 149) dL_isExport_85 (by decide) ?_ ?_
      · refine s_lv hG [0, 1, 2, 3, 4, 5, 6] rfl ?_
        exact hb149 _ _ hm12 hrec12 _ _ (by omega) (by omega) _ _ _ _ _
      · refine s_iload hG dL_isExport_88 rfl ?_
        refine s_if_lt hG (tgt := 149) dL_isExport_90 (by decide) ?_ ?_
        · refine s_lv hG [0, 1, 2, 3, 4, 5, 6] rfl ?_
          exact hb149 _ _ hm12 hrec12 _ _ (by omega) (by omega) _ _ _ _ _
        · refine s_aload_n hG dL_isExport_93 rfl ?_
          refine s_bipush hG (v := (12 : Int32)) dL_isExport_94 (by decide) ?_
          refine s_iload_n hG dL_isExport_96 rfl ?_
          refine s_iload hG dL_isExport_97 rfl ?_
          refine s_iconst hG (v := (0 : Int32)) dL_isExport_99 (by decide) ?_
          refine s_iconst hG (v := (0 : Int32)) dL_isExport_100 (by decide) ?_
          refine s_iconst hG (v := (0 : Int32)) dL_isExport_101 (by decide) ?_
          refine s_aN hG (as := [vR 0, vI (12 : Int32), vI p1, vI x4, vI (0 : Int32), vI (0 : Int32), vI (0 : Int32)]) (st := []) (rm := rm_L_asks) (hh := hh_L_asks) dL_isExport_102 ml_RL_68 (tb4 (mem_i 23 rfl)) (exin (mem_i 45 (by decide +kernel))) rfl ⟨rfl, rfl⟩ ⟨Nat.le_of_ble_eq_true rfl, Nat.le_of_ble_eq_true rfl⟩ (Nat.le_of_ble_eq_true rfl) ⟨by omega, by omega⟩ rfl (fun o mc h01 h => c_L_asks l hl9 _ _ _ _ _ _ _ o mc h01 h) (fun o102 => ?_)
          refine s_iload hG dL_isExport_105 rfl ?_
          refine s_if_ne hG (tgt := 115) dL_isExport_107 (by decide) ?_ ?_
          · refine s_bipush hG (v := (44 : Int32)) dL_isExport_115 (by decide) ?_
            exact hb117 _ _ hm12 hrec12 _ _ hm82 hrec82 _ _ (by omega) (by omega) _ _ _ _ _ _ _ _
          · refine s_bipush hG (v := (58 : Int32)) dL_isExport_110 (by decide) ?_
            refine s_goto hG (tgt := 117) dL_isExport_112 (by decide) ?_
            exact hb117 _ _ hm12 hrec12 _ _ hm82 hrec82 _ _ (by omega) (by omega) _ _ _ _ _ _ _ _
  have hb72 : ∀ (m12 : Nat) (rec12 : HS × Int32 × Int32 × Int32 → Option (HS × Int32)) (hm12 : 1 + 0 ≤ m12) (hrec12 : ∀ (k n : Nat), k + m12 ≤ 1 → n + 6 * m12 ≤ 6 → ∀ (S : HS) (x3 : Int32) (x4 : Int32) (x5 : Int32), rec12 (S, x3, x4, x5) = some out → G k n S [(0, vR 0), (1, vI p1), (2, vR 38), (3, vI x3), (4, vI x4), (5, vI x5)] 12 []) (k n : Nat), k + (0 + m12) ≤ 1 → n + 6 * (0 + m12) ≤ 6 → ∀ (S : HS) (x3 : Int32) (x5 : Int32) (x6 : Int32) (t1 : Int32) (t2 : Int32), f_L_isExport_b72 p1 rec12 S x3 x5 x6 t1 t2 = some out → G k n S [(0, vR 0), (1, vI p1), (2, vR 38), (3, vI x3), (5, vI x5), (6, vI x6)] 72 [vI t2, vI t1, vR 0] := by
    intro m12 rec12 hm12 hrec12 k n hk hn S x3 x5 x6 t1 t2
    unfold f_L_isExport_b72
    refine s_iload hG dL_isExport_72 rfl ?_
    refine s_csKI hG (as := [vR 0, vI t1, vI t2, vI x5]) (st := []) (rm := rm_L_reads) (KK := 0) (NN := 0) dL_isExport_74 ml_RL_112 (tb14 (mem_i 24 rfl)) rfl ⟨rfl, rfl⟩ ⟨Nat.le_of_ble_eq_true rfl, Nat.le_of_ble_eq_true rfl⟩ (Nat.le_of_ble_eq_true rfl) ⟨by omega, by omega⟩ rfl (fun o h => c_L_reads l hl9 _ _ _ _ o h) (fun o74 => ?_)
    refine s_istore hG (lv' := [(4, vI o74.2), (0, vR 0), (1, vI p1), (2, vR 38), (3, vI x3), (5, vI x5), (6, vI x6)]) dL_isExport_77 (by decide) rfl ?_
    refine s_iconst hG (v := (0 : Int32)) dL_isExport_79 (by decide) ?_
    refine s_istore hG (lv' := [(7, vI (0 : Int32)), (4, vI o74.2), (0, vR 0), (1, vI p1), (2, vR 38), (3, vI x3), (5, vI x5), (6, vI x6)]) dL_isExport_80 (by decide) rfl ?_
    refine s_lv hG [2, 3, 4, 5, 1, 6, 7, 0] rfl ?_
    exact hb82 _ _ hm12 hrec12 _ _ (by omega) (by omega) _ _ _ _ _ _
  have hb64 : ∀ (m12 : Nat) (rec12 : HS × Int32 × Int32 × Int32 → Option (HS × Int32)) (hm12 : 1 + 0 ≤ m12) (hrec12 : ∀ (k n : Nat), k + m12 ≤ 1 → n + 6 * m12 ≤ 6 → ∀ (S : HS) (x3 : Int32) (x4 : Int32) (x5 : Int32), rec12 (S, x3, x4, x5) = some out → G k n S [(0, vR 0), (1, vI p1), (2, vR 38), (3, vI x3), (4, vI x4), (5, vI x5)] 12 []) (k n : Nat), k + (0 + m12) ≤ 1 → n + 6 * (0 + m12) ≤ 6 → ∀ (S : HS) (x3 : Int32) (x4 : Int32) (x5 : Int32) (x6 : Int32) (t1 : Int32), f_L_isExport_b64 p1 rec12 S x3 x4 x5 x6 t1 = some out → G k n S [(0, vR 0), (1, vI p1), (2, vR 38), (3, vI x3), (4, vI x4), (5, vI x5), (6, vI x6)] 64 [vI t1, vR 0] := by
    intro m12 rec12 hm12 hrec12 k n hk hn S x3 x4 x5 x6 t1
    unfold f_L_isExport_b64
    refine s_iload hG dL_isExport_64 rfl ?_
    refine s_iconst hG (v := (1 : Int32)) dL_isExport_66 (by decide) ?_
    refine s_iadd hG dL_isExport_67 ?_
    refine s_goto hG (tgt := 72) dL_isExport_68 (by decide) ?_
    refine s_lv hG [0, 1, 2, 3, 5, 6] rfl ?_
    exact hb72 _ _ hm12 hrec12 _ _ (by omega) (by omega) _ _ _ _ _ _
  have hb12 : ∀ (k n : Nat), k + (0 * FU + 1 + 0) ≤ 1 → n + 6 * (0 * FU + 1 + 0) ≤ 6 → ∀ (S : HS) (x3 : Int32) (x4 : Int32) (x5 : Int32), f_L_isExport_b12 p1 S x3 x4 x5 = some out → G k n S [(0, vR 0), (1, vI p1), (2, vR 38), (3, vI x3), (4, vI x4), (5, vI x5)] 12 [] := by
    suffices H : ∀ (nf k n : Nat), k + (0 * nf + 1 + 0) ≤ 1 → n + 6 * (0 * nf + 1 + 0) ≤ 6 → ∀ (S : HS) (x3 : Int32) (x4 : Int32) (x5 : Int32), fx (F_L_isExport_b12 p1) nf (S, x3, x4, x5) = some out → G k n S [(0, vR 0), (1, vI p1), (2, vR 38), (3, vI x3), (4, vI x4), (5, vI x5)] 12 [] from fun k n hk hn S x3 x4 x5 => H FU k n hk hn S x3 x4 x5
    intro nf
    induction nf with
    | zero => intro k n _ _ S x3 x4 x5 h9; cases h9
    | succ nf hrec12 =>
      intro k n hk0 hn0 S x3 x4 x5
      show F_L_isExport_b12 p1 (fx (F_L_isExport_b12 p1) nf) (S, x3, x4, x5) = some out → _
      generalize fx (F_L_isExport_b12 p1) nf = rec12 at hrec12
      obtain ⟨m12, hq12⟩ : ∃ m, m = 0 * nf + 1 + 0 := ⟨_, rfl⟩
      rw [← hq12] at hrec12
      have hm12 : 1 + 0 ≤ m12 := by omega
      have hk : k + (0 + m12) ≤ 1 := by omega
      have hn : n + 6 * (0 + m12) ≤ 6 := by omega
      clear hk0 hn0 hq12
      unfold F_L_isExport_b12
      dsimp only
      refine s_iload hG dL_isExport_12 rfl ?_
      refine s_aload_n hG dL_isExport_14 rfl ?_
      refine s_iconst hG (v := (1 : Int32)) dL_isExport_15 (by decide) ?_
      refine s_iaload hG dL_isExport_16 (rfl) ?_
      refine s_icmp_ge hG (tgt := 269) dL_isExport_17 (by decide) ?_ ?_
      · refine s_lv hG [0, 1, 2, 3, 4] rfl ?_
        exact hb269  _ _ (by omega) (by omega) _ _ _
      · refine s_iload hG dL_isExport_20 rfl ?_
        refine s_if_lt hG (tgt := 269) dL_isExport_22 (by decide) ?_ ?_
        · refine s_lv hG [0, 1, 2, 3, 4] rfl ?_
          exact hb269  _ _ (by omega) (by omega) _ _ _
        · refine s_aload_n hG dL_isExport_25 rfl ?_
          refine s_iload hG dL_isExport_26 rfl ?_
          refine s_dI hG (as := [vI x5]) (st := []) (rm := rm_X7_isThere) (rmT := rmT_X7_isThere) (by decide) dL_isExport_28 ml_RL_65 (rfl) (tb12 (mem_i 1 rfl)) rfl ⟨rfl, rfl⟩ ⟨Nat.le_of_ble_eq_true rfl, Nat.le_of_ble_eq_true rfl⟩ (Nat.le_of_ble_eq_true rfl) ⟨by omega, by omega⟩ rfl (fun o h => c_X7_isThere l hl9 _ _ o h) (fun o28 => ?_)
          refine s_if_eq hG (tgt := 263) dL_isExport_31 (by decide) ?_ ?_
          · exact hb263 _ _ hm12 hrec12 _ _ (by omega) (by omega) _ _ _ _
          · refine s_aload_n hG dL_isExport_34 rfl ?_
            refine s_bipush hG (v := (12 : Int32)) dL_isExport_35 (by decide) ?_
            refine s_iload_n hG dL_isExport_37 rfl ?_
            refine s_iload hG dL_isExport_38 rfl ?_
            refine s_iconst hG (v := (0 : Int32)) dL_isExport_40 (by decide) ?_
            refine s_iconst hG (v := (0 : Int32)) dL_isExport_41 (by decide) ?_
            refine s_iconst hG (v := (0 : Int32)) dL_isExport_42 (by decide) ?_
            refine s_aN hG (as := [vR 0, vI (12 : Int32), vI p1, vI x4, vI (0 : Int32), vI (0 : Int32), vI (0 : Int32)]) (st := []) (rm := rm_L_asks) (hh := hh_L_asks) dL_isExport_43 ml_RL_68 (tb4 (mem_i 23 rfl)) (exin (mem_i 45 (by decide +kernel))) rfl ⟨rfl, rfl⟩ ⟨Nat.le_of_ble_eq_true rfl, Nat.le_of_ble_eq_true rfl⟩ (Nat.le_of_ble_eq_true rfl) ⟨by omega, by omega⟩ rfl (fun o mc h01 h => c_L_asks l hl9 _ _ _ _ _ _ _ o mc h01 h) (fun o43 => ?_)
            refine s_istore hG (lv' := [(6, vI o43.2.2), (0, vR 0), (1, vI p1), (2, vR 38), (3, vI x3), (4, vI x4), (5, vI x5)]) dL_isExport_46 (by decide) rfl ?_
            refine s_aload_n hG dL_isExport_48 rfl ?_
            refine s_iload_n hG dL_isExport_49 rfl ?_
            refine s_iload hG dL_isExport_50 rfl ?_
            refine s_bipush hG (v := (98 : Int32)) dL_isExport_52 (by decide) ?_
            refine s_icmp_eq hG (tgt := 64) dL_isExport_54 (by decide) ?_ ?_
            · refine s_lv hG [1, 2, 3, 4, 5, 6, 0] rfl ?_
              exact hb64 _ _ hm12 hrec12 _ _ (by omega) (by omega) _ _ _ _ _ _
            · refine s_iload hG dL_isExport_57 rfl ?_
              refine s_bipush hG (v := (116 : Int32)) dL_isExport_59 (by decide) ?_
              refine s_icmp_ne hG (tgt := 71) dL_isExport_61 (by decide) ?_ ?_
              · refine s_iconst hG (v := (-1 : Int32)) dL_isExport_71 (by decide) ?_
                refine s_lv hG [1, 2, 3, 4, 6, 0] rfl ?_
                exact hb72 _ _ hm12 hrec12 _ _ (by omega) (by omega) _ _ _ _ _ _
              · refine s_lv hG [1, 2, 3, 4, 5, 6, 0] rfl ?_
                exact hb64 _ _ hm12 hrec12 _ _ (by omega) (by omega) _ _ _ _ _ _
  unfold f_L_isExport
  refine s_aload_n hG dL_isExport_0 rfl ?_
  refine s_iload_n hG dL_isExport_1 rfl ?_
  refine s_dI hG (as := [vI p1]) (st := []) (rm := rm_X7_length) (rmT := rmT_X7_length) (by decide) dL_isExport_2 ml_RL_109 (rfl) (tb14 (mem_i 21 rfl)) rfl ⟨rfl, rfl⟩ ⟨Nat.le_of_ble_eq_true rfl, Nat.le_of_ble_eq_true rfl⟩ (Nat.le_of_ble_eq_true rfl) ⟨by omega, by omega⟩ rfl (fun o h => c_X7_length l hl9 _ _ o h) (fun o2 => ?_)
  refine s_istore_n hG (lv' := [(3, vI o2.2.2), (0, vR 0), (1, vI p1), (2, vR 38)]) dL_isExport_5 (by decide) rfl ?_
  refine s_iconst hG (v := (0 : Int32)) dL_isExport_6 (by decide) ?_
  refine s_istore hG (lv' := [(4, vI (0 : Int32)), (3, vI o2.2.2), (0, vR 0), (1, vI p1), (2, vR 38)]) dL_isExport_7 (by decide) rfl ?_
  refine s_iconst hG (v := (0 : Int32)) dL_isExport_9 (by decide) ?_
  refine s_istore hG (lv' := [(5, vI (0 : Int32)), (4, vI (0 : Int32)), (3, vI o2.2.2), (0, vR 0), (1, vI p1), (2, vR 38)]) dL_isExport_10 (by decide) rfl ?_
  refine s_lv hG [3, 4, 5, 2, 1, 0] rfl ?_
  exact hb12  _ _ (by omega) (by omega) _ _ _ _
