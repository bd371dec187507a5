/-! 19.law4: by program (wip/p31/gen.py) -/
theorem dL_adds_0 : decode cL_adds 0 = .ok (.iload_n 2, 1) := by decide +kernel
theorem dL_adds_1 : decode cL_adds 1 = .ok (.bipush 61, 2) := by decide +kernel
theorem dL_adds_3 : decode cL_adds 3 = .ok (.irem, 1) := by decide +kernel
theorem dL_adds_4 : decode cL_adds 4 = .ok (.bipush 30, 2) := by decide +kernel
theorem dL_adds_6 : decode cL_adds 6 = .ok (.isub, 1) := by decide +kernel
theorem dL_adds_7 : decode cL_adds 7 = .ok (.istore 8, 2) := by decide +kernel
theorem dL_adds_9 : decode cL_adds 9 = .ok (.iload_n 3, 1) := by decide +kernel
theorem dL_adds_10 : decode cL_adds 10 = .ok (.bipush 61, 2) := by decide +kernel
theorem dL_adds_12 : decode cL_adds 12 = .ok (.irem, 1) := by decide +kernel
theorem dL_adds_13 : decode cL_adds 13 = .ok (.bipush 30, 2) := by decide +kernel
theorem dL_adds_15 : decode cL_adds 15 = .ok (.isub, 1) := by decide +kernel
theorem dL_adds_16 : decode cL_adds 16 = .ok (.istore 9, 2) := by decide +kernel
theorem dL_adds_18 : decode cL_adds 18 = .ok (.iload_n 2, 1) := by decide +kernel
theorem dL_adds_19 : decode cL_adds 19 = .ok (.bipush 61, 2) := by decide +kernel
theorem dL_adds_21 : decode cL_adds 21 = .ok (.idiv, 1) := by decide +kernel
theorem dL_adds_22 : decode cL_adds 22 = .ok (.iconst 3, 1) := by decide +kernel
theorem dL_adds_23 : decode cL_adds 23 = .ok (.irem, 1) := by decide +kernel
theorem dL_adds_24 : decode cL_adds 24 = .ok (.ifCond .le 7, 3) := by decide +kernel
theorem dL_adds_27 : decode cL_adds 27 = .ok (.iconst 1, 1) := by decide +kernel
theorem dL_adds_28 : decode cL_adds 28 = .ok (.goto 4, 3) := by decide +kernel
theorem dL_adds_31 : decode cL_adds 31 = .ok (.iconst 0, 1) := by decide +kernel
theorem dL_adds_32 : decode cL_adds 32 = .ok (.istore 10, 2) := by decide +kernel
theorem dL_adds_34 : decode cL_adds 34 = .ok (.aload 5, 2) := by decide +kernel
theorem dL_adds_36 : decode cL_adds 36 = .ok (.iconst 1, 1) := by decide +kernel
theorem dL_adds_37 : decode cL_adds 37 = .ok (.iaload, 1) := by decide +kernel
theorem dL_adds_38 : decode cL_adds 38 = .ok (.bipush 10, 2) := by decide +kernel
theorem dL_adds_40 : decode cL_adds 40 = .ok (.if_icmp .ge 26, 3) := by decide +kernel
theorem dL_adds_43 : decode cL_adds 43 = .ok (.aload 5, 2) := by decide +kernel
theorem dL_adds_45 : decode cL_adds 45 = .ok (.iconst 0, 1) := by decide +kernel
theorem dL_adds_46 : decode cL_adds 46 = .ok (.iaload, 1) := by decide +kernel
theorem dL_adds_47 : decode cL_adds 47 = .ok (.bipush 60, 2) := by decide +kernel
theorem dL_adds_49 : decode cL_adds 49 = .ok (.if_icmp .ge 17, 3) := by decide +kernel
theorem dL_adds_52 : decode cL_adds 52 = .ok (.iload 10, 2) := by decide +kernel
theorem dL_adds_54 : decode cL_adds 54 = .ok (.ifCond .ne 8, 3) := by decide +kernel
theorem dL_adds_57 : decode cL_adds 57 = .ok (.iload 7, 2) := by decide +kernel
theorem dL_adds_59 : decode cL_adds 59 = .ok (.ifCond .le 7, 3) := by decide +kernel
theorem dL_adds_62 : decode cL_adds 62 = .ok (.iconst 1, 1) := by decide +kernel
theorem dL_adds_63 : decode cL_adds 63 = .ok (.goto 4, 3) := by decide +kernel
theorem dL_adds_66 : decode cL_adds 66 = .ok (.iconst 0, 1) := by decide +kernel
theorem dL_adds_67 : decode cL_adds 67 = .ok (.istore 11, 2) := by decide +kernel
theorem dL_adds_69 : decode cL_adds 69 = .ok (.iconst 1, 1) := by decide +kernel
theorem dL_adds_70 : decode cL_adds 70 = .ok (.iload_n 3, 1) := by decide +kernel
theorem dL_adds_71 : decode cL_adds 71 = .ok (.bipush 61, 2) := by decide +kernel
theorem dL_adds_73 : decode cL_adds 73 = .ok (.idiv, 1) := by decide +kernel
theorem dL_adds_74 : decode cL_adds 74 = .ok (.bipush 12, 2) := by decide +kernel
theorem dL_adds_76 : decode cL_adds 76 = .ok (.irem, 1) := by decide +kernel
theorem dL_adds_77 : decode cL_adds 77 = .ok (.iadd, 1) := by decide +kernel
theorem dL_adds_78 : decode cL_adds 78 = .ok (.istore 12, 2) := by decide +kernel
theorem dL_adds_80 : decode cL_adds 80 = .ok (.iload 10, 2) := by decide +kernel
theorem dL_adds_82 : decode cL_adds 82 = .ok (.ifCond .eq 28, 3) := by decide +kernel
theorem dL_adds_85 : decode cL_adds 85 = .ok (.aload_n 0, 1) := by decide +kernel
theorem dL_adds_86 : decode cL_adds 86 = .ok (.iconst 0, 1) := by decide +kernel
theorem dL_adds_87 : decode cL_adds 87 = .ok (.iload_n 1, 1) := by decide +kernel
theorem dL_adds_88 : decode cL_adds 88 = .ok (.iload 8, 2) := by decide +kernel
theorem dL_adds_90 : decode cL_adds 90 = .ok (.iload 9, 2) := by decide +kernel
theorem dL_adds_92 : decode cL_adds 92 = .ok (.iload 12, 2) := by decide +kernel
theorem dL_adds_94 : decode cL_adds 94 = .ok (.iconst 1, 1) := by decide +kernel
theorem dL_adds_95 : decode cL_adds 95 = .ok (.iload_n 2, 1) := by decide +kernel
theorem dL_adds_96 : decode cL_adds 96 = .ok (.sipush 183, 3) := by decide +kernel
theorem dL_adds_99 : decode cL_adds 99 = .ok (.idiv, 1) := by decide +kernel
theorem dL_adds_100 : decode cL_adds 100 = .ok (.bipush 9, 2) := by decide +kernel
theorem dL_adds_102 : decode cL_adds 102 = .ok (.irem, 1) := by decide +kernel
theorem dL_adds_103 : decode cL_adds 103 = .ok (.iadd, 1) := by decide +kernel
theorem dL_adds_104 : decode cL_adds 104 = .ok (.invokestatic 68, 3) := by decide +kernel
theorem dL_adds_107 : decode cL_adds 107 = .ok (.goto 21, 3) := by decide +kernel
theorem dL_adds_110 : decode cL_adds 110 = .ok (.aload_n 0, 1) := by decide +kernel
theorem dL_adds_111 : decode cL_adds 111 = .ok (.iconst 1, 1) := by decide +kernel
theorem dL_adds_112 : decode cL_adds 112 = .ok (.iload_n 1, 1) := by decide +kernel
theorem dL_adds_113 : decode cL_adds 113 = .ok (.iload 8, 2) := by decide +kernel
theorem dL_adds_115 : decode cL_adds 115 = .ok (.iload 9, 2) := by decide +kernel
theorem dL_adds_117 : decode cL_adds 117 = .ok (.iload_n 2, 1) := by decide +kernel
theorem dL_adds_118 : decode cL_adds 118 = .ok (.sipush 183, 3) := by decide +kernel
theorem dL_adds_121 : decode cL_adds 121 = .ok (.idiv, 1) := by decide +kernel
theorem dL_adds_122 : decode cL_adds 122 = .ok (.iconst 2, 1) := by decide +kernel
theorem dL_adds_123 : decode cL_adds 123 = .ok (.irem, 1) := by decide +kernel
theorem dL_adds_124 : decode cL_adds 124 = .ok (.iconst 0, 1) := by decide +kernel
theorem dL_adds_125 : decode cL_adds 125 = .ok (.invokestatic 68, 3) := by decide +kernel
theorem dL_adds_128 : decode cL_adds 128 = .ok (.istore 13, 2) := by decide +kernel
theorem dL_adds_130 : decode cL_adds 130 = .ok (.iload 11, 2) := by decide +kernel
theorem dL_adds_132 : decode cL_adds 132 = .ok (.ifCond .ne 17, 3) := by decide +kernel
theorem dL_adds_135 : decode cL_adds 135 = .ok (.iload 13, 2) := by decide +kernel
theorem dL_adds_137 : decode cL_adds 137 = .ok (.sipush (-5008), 3) := by decide +kernel
theorem dL_adds_140 : decode cL_adds 140 = .ok (.if_icmp .ne 7, 3) := by decide +kernel
theorem dL_adds_143 : decode cL_adds 143 = .ok (.iconst 1, 1) := by decide +kernel
theorem dL_adds_144 : decode cL_adds 144 = .ok (.goto 4, 3) := by decide +kernel
theorem dL_adds_147 : decode cL_adds 147 = .ok (.iconst 0, 1) := by decide +kernel
theorem dL_adds_148 : decode cL_adds 148 = .ok (.ireturn, 1) := by decide +kernel
theorem dL_adds_149 : decode cL_adds 149 = .ok (.aload 4, 2) := by decide +kernel
theorem dL_adds_151 : decode cL_adds 151 = .ok (.aload 5, 2) := by decide +kernel
theorem dL_adds_153 : decode cL_adds 153 = .ok (.aload 6, 2) := by decide +kernel
theorem dL_adds_155 : decode cL_adds 155 = .ok (.iload_n 1, 1) := by decide +kernel
theorem dL_adds_156 : decode cL_adds 156 = .ok (.iconst 1, 1) := by decide +kernel
theorem dL_adds_157 : decode cL_adds 157 = .ok (.invokestatic 119, 3) := by decide +kernel
theorem dL_adds_160 : decode cL_adds 160 = .ok (.aload 5, 2) := by decide +kernel
theorem dL_adds_162 : decode cL_adds 162 = .ok (.iconst 1, 1) := by decide +kernel
theorem dL_adds_163 : decode cL_adds 163 = .ok (.dup2, 1) := by decide +kernel
theorem dL_adds_164 : decode cL_adds 164 = .ok (.iaload, 1) := by decide +kernel
theorem dL_adds_165 : decode cL_adds 165 = .ok (.iconst 1, 1) := by decide +kernel
theorem dL_adds_166 : decode cL_adds 166 = .ok (.iadd, 1) := by decide +kernel
theorem dL_adds_167 : decode cL_adds 167 = .ok (.iastore, 1) := by decide +kernel
theorem dL_adds_168 : decode cL_adds 168 = .ok (.iload 13, 2) := by decide +kernel
theorem dL_adds_170 : decode cL_adds 170 = .ok (.aload 5, 2) := by decide +kernel
theorem dL_adds_172 : decode cL_adds 172 = .ok (.iconst 1, 1) := by decide +kernel
theorem dL_adds_173 : decode cL_adds 173 = .ok (.iaload, 1) := by decide +kernel
theorem dL_adds_174 : decode cL_adds 174 = .ok (.iconst 1, 1) := by decide +kernel
theorem dL_adds_175 : decode cL_adds 175 = .ok (.isub, 1) := by decide +kernel
theorem dL_adds_176 : decode cL_adds 176 = .ok (.if_icmp .ne 80, 3) := by decide +kernel
theorem dL_adds_179 : decode cL_adds 179 = .ok (.aload_n 0, 1) := by decide +kernel
theorem dL_adds_180 : decode cL_adds 180 = .ok (.iload 13, 2) := by decide +kernel
theorem dL_adds_182 : decode cL_adds 182 = .ok (.invokevirtual 65, 3) := by decide +kernel
theorem dL_adds_185 : decode cL_adds 185 = .ok (.ifCond .eq 71, 3) := by decide +kernel
theorem dL_adds_188 : decode cL_adds 188 = .ok (.aload_n 0, 1) := by decide +kernel
theorem dL_adds_189 : decode cL_adds 189 = .ok (.iload 13, 2) := by decide +kernel
theorem dL_adds_191 : decode cL_adds 191 = .ok (.iconst 0, 1) := by decide +kernel
theorem dL_adds_192 : decode cL_adds 192 = .ok (.invokevirtual 44, 3) := by decide +kernel
theorem dL_adds_195 : decode cL_adds 195 = .ok (.iload 8, 2) := by decide +kernel
theorem dL_adds_197 : decode cL_adds 197 = .ok (.if_icmp .ne 59, 3) := by decide +kernel
theorem dL_adds_200 : decode cL_adds 200 = .ok (.aload_n 0, 1) := by decide +kernel
theorem dL_adds_201 : decode cL_adds 201 = .ok (.iload 13, 2) := by decide +kernel
theorem dL_adds_203 : decode cL_adds 203 = .ok (.iconst 1, 1) := by decide +kernel
theorem dL_adds_204 : decode cL_adds 204 = .ok (.invokevirtual 44, 3) := by decide +kernel
theorem dL_adds_207 : decode cL_adds 207 = .ok (.iload 9, 2) := by decide +kernel
theorem dL_adds_209 : decode cL_adds 209 = .ok (.if_icmp .ne 47, 3) := by decide +kernel
theorem dL_adds_212 : decode cL_adds 212 = .ok (.aload_n 0, 1) := by decide +kernel
theorem dL_adds_213 : decode cL_adds 213 = .ok (.iload 13, 2) := by decide +kernel
theorem dL_adds_215 : decode cL_adds 215 = .ok (.iconst 2, 1) := by decide +kernel
theorem dL_adds_216 : decode cL_adds 216 = .ok (.invokevirtual 44, 3) := by decide +kernel
theorem dL_adds_219 : decode cL_adds 219 = .ok (.iload 10, 2) := by decide +kernel
theorem dL_adds_221 : decode cL_adds 221 = .ok (.ifCond .eq 8, 3) := by decide +kernel
theorem dL_adds_224 : decode cL_adds 224 = .ok (.iload 12, 2) := by decide +kernel
theorem dL_adds_226 : decode cL_adds 226 = .ok (.goto 7, 3) := by decide +kernel
theorem dL_adds_229 : decode cL_adds 229 = .ok (.iconst 2, 1) := by decide +kernel
theorem dL_adds_230 : decode cL_adds 230 = .ok (.iload 7, 2) := by decide +kernel
theorem dL_adds_232 : decode cL_adds 232 = .ok (.imul, 1) := by decide +kernel
theorem dL_adds_233 : decode cL_adds 233 = .ok (.if_icmp .ne 23, 3) := by decide +kernel
theorem dL_adds_236 : decode cL_adds 236 = .ok (.iload 10, 2) := by decide +kernel
theorem dL_adds_238 : decode cL_adds 238 = .ok (.ifCond .ne 14, 3) := by decide +kernel
theorem dL_adds_241 : decode cL_adds 241 = .ok (.aload_n 0, 1) := by decide +kernel
theorem dL_adds_242 : decode cL_adds 242 = .ok (.iload 13, 2) := by decide +kernel
theorem dL_adds_244 : decode cL_adds 244 = .ok (.iconst 3, 1) := by decide +kernel
theorem dL_adds_245 : decode cL_adds 245 = .ok (.invokevirtual 44, 3) := by decide +kernel
theorem dL_adds_248 : decode cL_adds 248 = .ok (.iconst 2, 1) := by decide +kernel
theorem dL_adds_249 : decode cL_adds 249 = .ok (.if_icmp .ne 7, 3) := by decide +kernel
theorem dL_adds_252 : decode cL_adds 252 = .ok (.iconst 1, 1) := by decide +kernel
theorem dL_adds_253 : decode cL_adds 253 = .ok (.goto 4, 3) := by decide +kernel
theorem dL_adds_256 : decode cL_adds 256 = .ok (.iconst 0, 1) := by decide +kernel
theorem dL_adds_257 : decode cL_adds 257 = .ok (.ireturn, 1) := by decide +kernel
theorem dL_acts_0 : decode cL_acts 0 = .ok (.aload 7, 2) := by decide +kernel
theorem dL_acts_2 : decode cL_acts 2 = .ok (.iconst 1, 1) := by decide +kernel
theorem dL_acts_3 : decode cL_acts 3 = .ok (.iaload, 1) := by decide +kernel
theorem dL_acts_4 : decode cL_acts 4 = .ok (.ifCond .ne 5, 3) := by decide +kernel
theorem dL_acts_7 : decode cL_acts 7 = .ok (.iconst 1, 1) := by decide +kernel
theorem dL_acts_8 : decode cL_acts 8 = .ok (.ireturn, 1) := by decide +kernel
theorem dL_acts_9 : decode cL_acts 9 = .ok (.iload_n 3, 1) := by decide +kernel
theorem dL_acts_10 : decode cL_acts 10 = .ok (.aload 7, 2) := by decide +kernel
theorem dL_acts_12 : decode cL_acts 12 = .ok (.iconst 1, 1) := by decide +kernel
theorem dL_acts_13 : decode cL_acts 13 = .ok (.iaload, 1) := by decide +kernel
theorem dL_acts_14 : decode cL_acts 14 = .ok (.irem, 1) := by decide +kernel
theorem dL_acts_15 : decode cL_acts 15 = .ok (.istore 10, 2) := by decide +kernel
theorem dL_acts_17 : decode cL_acts 17 = .ok (.aload_n 0, 1) := by decide +kernel
theorem dL_acts_18 : decode cL_acts 18 = .ok (.aload 7, 2) := by decide +kernel
theorem dL_acts_20 : decode cL_acts 20 = .ok (.aload 9, 2) := by decide +kernel
theorem dL_acts_22 : decode cL_acts 22 = .ok (.invokestatic 123, 3) := by decide +kernel
theorem dL_acts_25 : decode cL_acts 25 = .ok (.iload_n 1, 1) := by decide +kernel
theorem dL_acts_26 : decode cL_acts 26 = .ok (.iconst 2, 1) := by decide +kernel
theorem dL_acts_27 : decode cL_acts 27 = .ok (.if_icmp .ne 116, 3) := by decide +kernel
theorem dL_acts_30 : decode cL_acts 30 = .ok (.iload 4, 2) := by decide +kernel
theorem dL_acts_32 : decode cL_acts 32 = .ok (.iconst 5, 1) := by decide +kernel
theorem dL_acts_33 : decode cL_acts 33 = .ok (.irem, 1) := by decide +kernel
theorem dL_acts_34 : decode cL_acts 34 = .ok (.ifCond .ne 18, 3) := by decide +kernel
theorem dL_acts_37 : decode cL_acts 37 = .ok (.iload 4, 2) := by decide +kernel
theorem dL_acts_39 : decode cL_acts 39 = .ok (.iconst 5, 1) := by decide +kernel
theorem dL_acts_40 : decode cL_acts 40 = .ok (.idiv, 1) := by decide +kernel
theorem dL_acts_41 : decode cL_acts 41 = .ok (.sipush 1999, 3) := by decide +kernel
theorem dL_acts_44 : decode cL_acts 44 = .ok (.irem, 1) := by decide +kernel
theorem dL_acts_45 : decode cL_acts 45 = .ok (.sipush 999, 3) := by decide +kernel
theorem dL_acts_48 : decode cL_acts 48 = .ok (.isub, 1) := by decide +kernel
theorem dL_acts_49 : decode cL_acts 49 = .ok (.goto 13, 3) := by decide +kernel
theorem dL_acts_52 : decode cL_acts 52 = .ok (.iload 4, 2) := by decide +kernel
theorem dL_acts_54 : decode cL_acts 54 = .ok (.iconst 5, 1) := by decide +kernel
theorem dL_acts_55 : decode cL_acts 55 = .ok (.idiv, 1) := by decide +kernel
theorem dL_acts_56 : decode cL_acts 56 = .ok (.bipush 81, 2) := by decide +kernel
theorem dL_acts_58 : decode cL_acts 58 = .ok (.irem, 1) := by decide +kernel
theorem dL_acts_59 : decode cL_acts 59 = .ok (.bipush 40, 2) := by decide +kernel
theorem dL_acts_61 : decode cL_acts 61 = .ok (.isub, 1) := by decide +kernel
theorem dL_acts_62 : decode cL_acts 62 = .ok (.istore 13, 2) := by decide +kernel
theorem dL_acts_64 : decode cL_acts 64 = .ok (.iload_n 3, 1) := by decide +kernel
theorem dL_acts_65 : decode cL_acts 65 = .ok (.bipush 10, 2) := by decide +kernel
theorem dL_acts_67 : decode cL_acts 67 = .ok (.idiv, 1) := by decide +kernel
theorem dL_acts_68 : decode cL_acts 68 = .ok (.bipush 81, 2) := by decide +kernel
theorem dL_acts_70 : decode cL_acts 70 = .ok (.irem, 1) := by decide +kernel
theorem dL_acts_71 : decode cL_acts 71 = .ok (.bipush 40, 2) := by decide +kernel
theorem dL_acts_73 : decode cL_acts 73 = .ok (.isub, 1) := by decide +kernel
theorem dL_acts_74 : decode cL_acts 74 = .ok (.istore 14, 2) := by decide +kernel
theorem dL_acts_76 : decode cL_acts 76 = .ok (.aload_n 0, 1) := by decide +kernel
theorem dL_acts_77 : decode cL_acts 77 = .ok (.iconst 2, 1) := by decide +kernel
theorem dL_acts_78 : decode cL_acts 78 = .ok (.iload_n 2, 1) := by decide +kernel
theorem dL_acts_79 : decode cL_acts 79 = .ok (.iload 10, 2) := by decide +kernel
theorem dL_acts_81 : decode cL_acts 81 = .ok (.iload 13, 2) := by decide +kernel
theorem dL_acts_83 : decode cL_acts 83 = .ok (.iload 14, 2) := by decide +kernel
theorem dL_acts_85 : decode cL_acts 85 = .ok (.iconst 0, 1) := by decide +kernel
theorem dL_acts_86 : decode cL_acts 86 = .ok (.invokestatic 68, 3) := by decide +kernel
theorem dL_acts_89 : decode cL_acts 89 = .ok (.istore 11, 2) := by decide +kernel
theorem dL_acts_91 : decode cL_acts 91 = .ok (.iload 11, 2) := by decide +kernel
theorem dL_acts_93 : decode cL_acts 93 = .ok (.ifCond .lt 40, 3) := by decide +kernel
theorem dL_acts_96 : decode cL_acts 96 = .ok (.iload 11, 2) := by decide +kernel
theorem dL_acts_98 : decode cL_acts 98 = .ok (.aload_n 0, 1) := by decide +kernel
theorem dL_acts_99 : decode cL_acts 99 = .ok (.aload 7, 2) := by decide +kernel
theorem dL_acts_101 : decode cL_acts 101 = .ok (.aload 9, 2) := by decide +kernel
theorem dL_acts_103 : decode cL_acts 103 = .ok (.invokestatic 127, 3) := by decide +kernel
theorem dL_acts_106 : decode cL_acts 106 = .ok (.if_icmp .ne 31, 3) := by decide +kernel
theorem dL_acts_109 : decode cL_acts 109 = .ok (.aload_n 0, 1) := by decide +kernel
theorem dL_acts_110 : decode cL_acts 110 = .ok (.iload 10, 2) := by decide +kernel
theorem dL_acts_112 : decode cL_acts 112 = .ok (.iconst 0, 1) := by decide +kernel
theorem dL_acts_113 : decode cL_acts 113 = .ok (.invokevirtual 44, 3) := by decide +kernel
theorem dL_acts_116 : decode cL_acts 116 = .ok (.iload 13, 2) := by decide +kernel
theorem dL_acts_118 : decode cL_acts 118 = .ok (.if_icmp .ne 19, 3) := by decide +kernel
theorem dL_acts_121 : decode cL_acts 121 = .ok (.aload_n 0, 1) := by decide +kernel
theorem dL_acts_122 : decode cL_acts 122 = .ok (.iload 10, 2) := by decide +kernel
theorem dL_acts_124 : decode cL_acts 124 = .ok (.iconst 1, 1) := by decide +kernel
theorem dL_acts_125 : decode cL_acts 125 = .ok (.invokevirtual 44, 3) := by decide +kernel
theorem dL_acts_128 : decode cL_acts 128 = .ok (.iload 14, 2) := by decide +kernel
theorem dL_acts_130 : decode cL_acts 130 = .ok (.if_icmp .ne 7, 3) := by decide +kernel
theorem dL_acts_133 : decode cL_acts 133 = .ok (.iconst 1, 1) := by decide +kernel
theorem dL_acts_134 : decode cL_acts 134 = .ok (.goto 4, 3) := by decide +kernel
theorem dL_acts_137 : decode cL_acts 137 = .ok (.iconst 0, 1) := by decide +kernel
theorem dL_acts_138 : decode cL_acts 138 = .ok (.istore 12, 2) := by decide +kernel
theorem dL_acts_140 : decode cL_acts 140 = .ok (.goto 379, 3) := by decide +kernel
theorem dL_acts_143 : decode cL_acts 143 = .ok (.iload_n 1, 1) := by decide +kernel
theorem dL_acts_144 : decode cL_acts 144 = .ok (.iconst 3, 1) := by decide +kernel
theorem dL_acts_145 : decode cL_acts 145 = .ok (.if_icmp .ne 103, 3) := by decide +kernel
theorem dL_acts_148 : decode cL_acts 148 = .ok (.iconst 1, 1) := by decide +kernel
theorem dL_acts_149 : decode cL_acts 149 = .ok (.iload 4, 2) := by decide +kernel
theorem dL_acts_151 : decode cL_acts 151 = .ok (.bipush 14, 2) := by decide +kernel
theorem dL_acts_153 : decode cL_acts 153 = .ok (.irem, 1) := by decide +kernel
theorem dL_acts_154 : decode cL_acts 154 = .ok (.iadd, 1) := by decide +kernel
theorem dL_acts_155 : decode cL_acts 155 = .ok (.istore 13, 2) := by decide +kernel
theorem dL_acts_157 : decode cL_acts 157 = .ok (.iload_n 3, 1) := by decide +kernel
theorem dL_acts_158 : decode cL_acts 158 = .ok (.bipush 10, 2) := by decide +kernel
theorem dL_acts_160 : decode cL_acts 160 = .ok (.idiv, 1) := by decide +kernel
theorem dL_acts_161 : decode cL_acts 161 = .ok (.iconst 3, 1) := by decide +kernel
theorem dL_acts_162 : decode cL_acts 162 = .ok (.irem, 1) := by decide +kernel
theorem dL_acts_163 : decode cL_acts 163 = .ok (.ifCond .ne 7, 3) := by decide +kernel
theorem dL_acts_166 : decode cL_acts 166 = .ok (.iconst 2, 1) := by decide +kernel
theorem dL_acts_167 : decode cL_acts 167 = .ok (.goto 12, 3) := by decide +kernel
theorem dL_acts_170 : decode cL_acts 170 = .ok (.iconst 1, 1) := by decide +kernel
theorem dL_acts_171 : decode cL_acts 171 = .ok (.iload_n 3, 1) := by decide +kernel
theorem dL_acts_172 : decode cL_acts 172 = .ok (.bipush 30, 2) := by decide +kernel
theorem dL_acts_174 : decode cL_acts 174 = .ok (.idiv, 1) := by decide +kernel
theorem dL_acts_175 : decode cL_acts 175 = .ok (.bipush 14, 2) := by decide +kernel
theorem dL_acts_177 : decode cL_acts 177 = .ok (.irem, 1) := by decide +kernel
theorem dL_acts_178 : decode cL_acts 178 = .ok (.iadd, 1) := by decide +kernel
theorem dL_acts_179 : decode cL_acts 179 = .ok (.istore 14, 2) := by decide +kernel
theorem dL_acts_181 : decode cL_acts 181 = .ok (.aload_n 0, 1) := by decide +kernel
theorem dL_acts_182 : decode cL_acts 182 = .ok (.iconst 3, 1) := by decide +kernel
theorem dL_acts_183 : decode cL_acts 183 = .ok (.iload_n 2, 1) := by decide +kernel
theorem dL_acts_184 : decode cL_acts 184 = .ok (.iload 10, 2) := by decide +kernel
theorem dL_acts_186 : decode cL_acts 186 = .ok (.iload 13, 2) := by decide +kernel
theorem dL_acts_188 : decode cL_acts 188 = .ok (.iload 14, 2) := by decide +kernel
theorem dL_acts_190 : decode cL_acts 190 = .ok (.iconst 0, 1) := by decide +kernel
theorem dL_acts_191 : decode cL_acts 191 = .ok (.invokestatic 68, 3) := by decide +kernel
theorem dL_acts_194 : decode cL_acts 194 = .ok (.istore 11, 2) := by decide +kernel
theorem dL_acts_196 : decode cL_acts 196 = .ok (.iload 11, 2) := by decide +kernel
theorem dL_acts_198 : decode cL_acts 198 = .ok (.ifCond .lt 40, 3) := by decide +kernel
theorem dL_acts_201 : decode cL_acts 201 = .ok (.iload 11, 2) := by decide +kernel
theorem dL_acts_203 : decode cL_acts 203 = .ok (.aload_n 0, 1) := by decide +kernel
theorem dL_acts_204 : decode cL_acts 204 = .ok (.aload 7, 2) := by decide +kernel
theorem dL_acts_206 : decode cL_acts 206 = .ok (.aload 9, 2) := by decide +kernel
theorem dL_acts_208 : decode cL_acts 208 = .ok (.invokestatic 127, 3) := by decide +kernel
theorem dL_acts_211 : decode cL_acts 211 = .ok (.if_icmp .ne 31, 3) := by decide +kernel
theorem dL_acts_214 : decode cL_acts 214 = .ok (.aload_n 0, 1) := by decide +kernel
theorem dL_acts_215 : decode cL_acts 215 = .ok (.iload 10, 2) := by decide +kernel
theorem dL_acts_217 : decode cL_acts 217 = .ok (.iconst 2, 1) := by decide +kernel
theorem dL_acts_218 : decode cL_acts 218 = .ok (.invokevirtual 44, 3) := by decide +kernel
theorem dL_acts_221 : decode cL_acts 221 = .ok (.iload 13, 2) := by decide +kernel
theorem dL_acts_223 : decode cL_acts 223 = .ok (.if_icmp .ne 19, 3) := by decide +kernel
theorem dL_acts_226 : decode cL_acts 226 = .ok (.aload_n 0, 1) := by decide +kernel
theorem dL_acts_227 : decode cL_acts 227 = .ok (.iload 10, 2) := by decide +kernel
theorem dL_acts_229 : decode cL_acts 229 = .ok (.iconst 3, 1) := by decide +kernel
theorem dL_acts_230 : decode cL_acts 230 = .ok (.invokevirtual 44, 3) := by decide +kernel
theorem dL_acts_233 : decode cL_acts 233 = .ok (.iload 14, 2) := by decide +kernel
theorem dL_acts_235 : decode cL_acts 235 = .ok (.if_icmp .ne 7, 3) := by decide +kernel
theorem dL_acts_238 : decode cL_acts 238 = .ok (.iconst 1, 1) := by decide +kernel
theorem dL_acts_239 : decode cL_acts 239 = .ok (.goto 4, 3) := by decide +kernel
theorem dL_acts_242 : decode cL_acts 242 = .ok (.iconst 0, 1) := by decide +kernel
theorem dL_acts_243 : decode cL_acts 243 = .ok (.istore 12, 2) := by decide +kernel
theorem dL_acts_245 : decode cL_acts 245 = .ok (.goto 274, 3) := by decide +kernel
theorem dL_acts_248 : decode cL_acts 248 = .ok (.iload_n 1, 1) := by decide +kernel
theorem dL_acts_249 : decode cL_acts 249 = .ok (.iconst 4, 1) := by decide +kernel
theorem dL_acts_250 : decode cL_acts 250 = .ok (.if_icmp .ne 124, 3) := by decide +kernel
theorem dL_acts_253 : decode cL_acts 253 = .ok (.iload 4, 2) := by decide +kernel
theorem dL_acts_255 : decode cL_acts 255 = .ok (.aload 7, 2) := by decide +kernel
theorem dL_acts_257 : decode cL_acts 257 = .ok (.iconst 1, 1) := by decide +kernel
theorem dL_acts_258 : decode cL_acts 258 = .ok (.iaload, 1) := by decide +kernel
theorem dL_acts_259 : decode cL_acts 259 = .ok (.irem, 1) := by decide +kernel
theorem dL_acts_260 : decode cL_acts 260 = .ok (.istore 13, 2) := by decide +kernel
theorem dL_acts_262 : decode cL_acts 262 = .ok (.iload_n 3, 1) := by decide +kernel
theorem dL_acts_263 : decode cL_acts 263 = .ok (.bipush 10, 2) := by decide +kernel
theorem dL_acts_265 : decode cL_acts 265 = .ok (.idiv, 1) := by decide +kernel
theorem dL_acts_266 : decode cL_acts 266 = .ok (.bipush 7, 2) := by decide +kernel
theorem dL_acts_268 : decode cL_acts 268 = .ok (.irem, 1) := by decide +kernel
theorem dL_acts_269 : decode cL_acts 269 = .ok (.istore 14, 2) := by decide +kernel
theorem dL_acts_271 : decode cL_acts 271 = .ok (.iload 10, 2) := by decide +kernel
theorem dL_acts_273 : decode cL_acts 273 = .ok (.iload 13, 2) := by decide +kernel
theorem dL_acts_275 : decode cL_acts 275 = .ok (.if_icmp .ne 5, 3) := by decide +kernel
theorem dL_acts_278 : decode cL_acts 278 = .ok (.iconst 1, 1) := by decide +kernel
theorem dL_acts_279 : decode cL_acts 279 = .ok (.ireturn, 1) := by decide +kernel
theorem dL_acts_280 : decode cL_acts 280 = .ok (.aload_n 0, 1) := by decide +kernel
theorem dL_acts_281 : decode cL_acts 281 = .ok (.iconst 4, 1) := by decide +kernel
theorem dL_acts_282 : decode cL_acts 282 = .ok (.iload_n 2, 1) := by decide +kernel
theorem dL_acts_283 : decode cL_acts 283 = .ok (.iload 14, 2) := by decide +kernel
theorem dL_acts_285 : decode cL_acts 285 = .ok (.iload 10, 2) := by decide +kernel
theorem dL_acts_287 : decode cL_acts 287 = .ok (.iload 13, 2) := by decide +kernel
theorem dL_acts_289 : decode cL_acts 289 = .ok (.iconst 0, 1) := by decide +kernel
theorem dL_acts_290 : decode cL_acts 290 = .ok (.invokestatic 68, 3) := by decide +kernel
theorem dL_acts_293 : decode cL_acts 293 = .ok (.istore 11, 2) := by decide +kernel
theorem dL_acts_295 : decode cL_acts 295 = .ok (.iload 11, 2) := by decide +kernel
theorem dL_acts_297 : decode cL_acts 297 = .ok (.ifCond .lt 21, 3) := by decide +kernel
theorem dL_acts_300 : decode cL_acts 300 = .ok (.aload 7, 2) := by decide +kernel
theorem dL_acts_302 : decode cL_acts 302 = .ok (.iconst 2, 1) := by decide +kernel
theorem dL_acts_303 : decode cL_acts 303 = .ok (.iaload, 1) := by decide +kernel
theorem dL_acts_304 : decode cL_acts 304 = .ok (.bipush 12, 2) := by decide +kernel
theorem dL_acts_306 : decode cL_acts 306 = .ok (.if_icmp .ge 16, 3) := by decide +kernel
theorem dL_acts_309 : decode cL_acts 309 = .ok (.iload 11, 2) := by decide +kernel
theorem dL_acts_311 : decode cL_acts 311 = .ok (.aload 7, 2) := by decide +kernel
theorem dL_acts_313 : decode cL_acts 313 = .ok (.iconst 2, 1) := by decide +kernel
theorem dL_acts_314 : decode cL_acts 314 = .ok (.iaload, 1) := by decide +kernel
theorem dL_acts_315 : decode cL_acts 315 = .ok (.if_icmp .ne 7, 3) := by decide +kernel
theorem dL_acts_318 : decode cL_acts 318 = .ok (.iconst 1, 1) := by decide +kernel
theorem dL_acts_319 : decode cL_acts 319 = .ok (.goto 4, 3) := by decide +kernel
theorem dL_acts_322 : decode cL_acts 322 = .ok (.iconst 0, 1) := by decide +kernel
theorem dL_acts_323 : decode cL_acts 323 = .ok (.istore 12, 2) := by decide +kernel
theorem dL_acts_325 : decode cL_acts 325 = .ok (.iload 11, 2) := by decide +kernel
theorem dL_acts_327 : decode cL_acts 327 = .ok (.ifCond .lt 44, 3) := by decide +kernel
theorem dL_acts_330 : decode cL_acts 330 = .ok (.iload 12, 2) := by decide +kernel
theorem dL_acts_332 : decode cL_acts 332 = .ok (.ifCond .eq 39, 3) := by decide +kernel
theorem dL_acts_335 : decode cL_acts 335 = .ok (.aload 6, 2) := by decide +kernel
theorem dL_acts_337 : decode cL_acts 337 = .ok (.aload 7, 2) := by decide +kernel
theorem dL_acts_339 : decode cL_acts 339 = .ok (.iconst 2, 1) := by decide +kernel
theorem dL_acts_340 : decode cL_acts 340 = .ok (.iaload, 1) := by decide +kernel
theorem dL_acts_341 : decode cL_acts 341 = .ok (.iload 14, 2) := by decide +kernel
theorem dL_acts_343 : decode cL_acts 343 = .ok (.iload 10, 2) := by decide +kernel
theorem dL_acts_345 : decode cL_acts 345 = .ok (.iconst 3, 1) := by decide +kernel
theorem dL_acts_346 : decode cL_acts 346 = .ok (.ishl, 1) := by decide +kernel
theorem dL_acts_347 : decode cL_acts 347 = .ok (.ior, 1) := by decide +kernel
theorem dL_acts_348 : decode cL_acts 348 = .ok (.iload 13, 2) := by decide +kernel
theorem dL_acts_350 : decode cL_acts 350 = .ok (.bipush 7, 2) := by decide +kernel
theorem dL_acts_352 : decode cL_acts 352 = .ok (.ishl, 1) := by decide +kernel
theorem dL_acts_353 : decode cL_acts 353 = .ok (.ior, 1) := by decide +kernel
theorem dL_acts_354 : decode cL_acts 354 = .ok (.aload 7, 2) := by decide +kernel
theorem dL_acts_356 : decode cL_acts 356 = .ok (.iconst 0, 1) := by decide +kernel
theorem dL_acts_357 : decode cL_acts 357 = .ok (.iaload, 1) := by decide +kernel
theorem dL_acts_358 : decode cL_acts 358 = .ok (.bipush 11, 2) := by decide +kernel
theorem dL_acts_360 : decode cL_acts 360 = .ok (.ishl, 1) := by decide +kernel
theorem dL_acts_361 : decode cL_acts 361 = .ok (.ior, 1) := by decide +kernel
theorem dL_acts_362 : decode cL_acts 362 = .ok (.iastore, 1) := by decide +kernel
theorem dL_acts_363 : decode cL_acts 363 = .ok (.aload 7, 2) := by decide +kernel
theorem dL_acts_365 : decode cL_acts 365 = .ok (.iconst 2, 1) := by decide +kernel
theorem dL_acts_366 : decode cL_acts 366 = .ok (.dup2, 1) := by decide +kernel
theorem dL_acts_367 : decode cL_acts 367 = .ok (.iaload, 1) := by decide +kernel
theorem dL_acts_368 : decode cL_acts 368 = .ok (.iconst 1, 1) := by decide +kernel
theorem dL_acts_369 : decode cL_acts 369 = .ok (.iadd, 1) := by decide +kernel
theorem dL_acts_370 : decode cL_acts 370 = .ok (.iastore, 1) := by decide +kernel
theorem dL_acts_371 : decode cL_acts 371 = .ok (.goto 148, 3) := by decide +kernel
theorem dL_acts_374 : decode cL_acts 374 = .ok (.aload 7, 2) := by decide +kernel
theorem dL_acts_376 : decode cL_acts 376 = .ok (.iconst 2, 1) := by decide +kernel
theorem dL_acts_377 : decode cL_acts 377 = .ok (.iaload, 1) := by decide +kernel
theorem dL_acts_378 : decode cL_acts 378 = .ok (.ifCond .ne 5, 3) := by decide +kernel
theorem dL_acts_381 : decode cL_acts 381 = .ok (.iconst 1, 1) := by decide +kernel
theorem dL_acts_382 : decode cL_acts 382 = .ok (.ireturn, 1) := by decide +kernel
theorem dL_acts_383 : decode cL_acts 383 = .ok (.iload 4, 2) := by decide +kernel
theorem dL_acts_385 : decode cL_acts 385 = .ok (.aload 7, 2) := by decide +kernel
theorem dL_acts_387 : decode cL_acts 387 = .ok (.iconst 2, 1) := by decide +kernel
theorem dL_acts_388 : decode cL_acts 388 = .ok (.iaload, 1) := by decide +kernel
theorem dL_acts_389 : decode cL_acts 389 = .ok (.irem, 1) := by decide +kernel
theorem dL_acts_390 : decode cL_acts 390 = .ok (.istore 13, 2) := by decide +kernel
theorem dL_acts_392 : decode cL_acts 392 = .ok (.aload_n 0, 1) := by decide +kernel
theorem dL_acts_393 : decode cL_acts 393 = .ok (.iload 13, 2) := by decide +kernel
theorem dL_acts_395 : decode cL_acts 395 = .ok (.invokevirtual 80, 3) := by decide +kernel
theorem dL_acts_398 : decode cL_acts 398 = .ok (.istore 14, 2) := by decide +kernel
theorem dL_acts_400 : decode cL_acts 400 = .ok (.iconst 0, 1) := by decide +kernel
theorem dL_acts_401 : decode cL_acts 401 = .ok (.istore 15, 2) := by decide +kernel
theorem dL_acts_403 : decode cL_acts 403 = .ok (.aload_n 0, 1) := by decide +kernel
theorem dL_acts_404 : decode cL_acts 404 = .ok (.iconst 5, 1) := by decide +kernel
theorem dL_acts_405 : decode cL_acts 405 = .ok (.iload_n 2, 1) := by decide +kernel
theorem dL_acts_406 : decode cL_acts 406 = .ok (.iload 13, 2) := by decide +kernel
theorem dL_acts_408 : decode cL_acts 408 = .ok (.iconst 0, 1) := by decide +kernel
theorem dL_acts_409 : decode cL_acts 409 = .ok (.iconst 0, 1) := by decide +kernel
theorem dL_acts_410 : decode cL_acts 410 = .ok (.iconst 0, 1) := by decide +kernel
theorem dL_acts_411 : decode cL_acts 411 = .ok (.invokestatic 68, 3) := by decide +kernel
theorem dL_acts_414 : decode cL_acts 414 = .ok (.istore 11, 2) := by decide +kernel
theorem dL_acts_416 : decode cL_acts 416 = .ok (.iconst 0, 1) := by decide +kernel
theorem dL_acts_417 : decode cL_acts 417 = .ok (.istore 16, 2) := by decide +kernel
theorem dL_acts_419 : decode cL_acts 419 = .ok (.iload 16, 2) := by decide +kernel
theorem dL_acts_421 : decode cL_acts 421 = .ok (.aload 7, 2) := by decide +kernel
theorem dL_acts_423 : decode cL_acts 423 = .ok (.iconst 2, 1) := by decide +kernel
theorem dL_acts_424 : decode cL_acts 424 = .ok (.iaload, 1) := by decide +kernel
theorem dL_acts_425 : decode cL_acts 425 = .ok (.if_icmp .ge 28, 3) := by decide +kernel
theorem dL_acts_428 : decode cL_acts 428 = .ok (.iload 15, 2) := by decide +kernel
theorem dL_acts_430 : decode cL_acts 430 = .ok (.aload_n 0, 1) := by decide +kernel
theorem dL_acts_431 : decode cL_acts 431 = .ok (.iload 16, 2) := by decide +kernel
theorem dL_acts_433 : decode cL_acts 433 = .ok (.invokevirtual 80, 3) := by decide +kernel
theorem dL_acts_436 : decode cL_acts 436 = .ok (.ifCond .eq 7, 3) := by decide +kernel
theorem dL_acts_439 : decode cL_acts 439 = .ok (.iconst 1, 1) := by decide +kernel
theorem dL_acts_440 : decode cL_acts 440 = .ok (.goto 4, 3) := by decide +kernel
theorem dL_acts_443 : decode cL_acts 443 = .ok (.iconst 0, 1) := by decide +kernel
theorem dL_acts_444 : decode cL_acts 444 = .ok (.iadd, 1) := by decide +kernel
theorem dL_acts_445 : decode cL_acts 445 = .ok (.istore 15, 2) := by decide +kernel
theorem dL_acts_447 : decode cL_acts 447 = .ok (.iinc 16 1, 3) := by decide +kernel
theorem dL_acts_450 : decode cL_acts 450 = .ok (.goto (-31), 3) := by decide +kernel
theorem dL_acts_453 : decode cL_acts 453 = .ok (.iload 11, 2) := by decide +kernel
theorem dL_acts_455 : decode cL_acts 455 = .ok (.ifCond .ge 25, 3) := by decide +kernel
theorem dL_acts_458 : decode cL_acts 458 = .ok (.iload 14, 2) := by decide +kernel
theorem dL_acts_460 : decode cL_acts 460 = .ok (.ifCond .eq 12, 3) := by decide +kernel
theorem dL_acts_463 : decode cL_acts 463 = .ok (.aload 7, 2) := by decide +kernel
theorem dL_acts_465 : decode cL_acts 465 = .ok (.iconst 0, 1) := by decide +kernel
theorem dL_acts_466 : decode cL_acts 466 = .ok (.iaload, 1) := by decide +kernel
theorem dL_acts_467 : decode cL_acts 467 = .ok (.bipush 60, 2) := by decide +kernel
theorem dL_acts_469 : decode cL_acts 469 = .ok (.if_icmp .ne 7, 3) := by decide +kernel
theorem dL_acts_472 : decode cL_acts 472 = .ok (.iconst 1, 1) := by decide +kernel
theorem dL_acts_473 : decode cL_acts 473 = .ok (.goto 44, 3) := by decide +kernel
theorem dL_acts_476 : decode cL_acts 476 = .ok (.iconst 0, 1) := by decide +kernel
theorem dL_acts_477 : decode cL_acts 477 = .ok (.goto 40, 3) := by decide +kernel
theorem dL_acts_480 : decode cL_acts 480 = .ok (.iload 14, 2) := by decide +kernel
theorem dL_acts_482 : decode cL_acts 482 = .ok (.ifCond .eq 34, 3) := by decide +kernel
theorem dL_acts_485 : decode cL_acts 485 = .ok (.iload 11, 2) := by decide +kernel
theorem dL_acts_487 : decode cL_acts 487 = .ok (.iload 15, 2) := by decide +kernel
theorem dL_acts_489 : decode cL_acts 489 = .ok (.if_icmp .ne 27, 3) := by decide +kernel
theorem dL_acts_492 : decode cL_acts 492 = .ok (.aload_n 0, 1) := by decide +kernel
theorem dL_acts_493 : decode cL_acts 493 = .ok (.iload 13, 2) := by decide +kernel
theorem dL_acts_495 : decode cL_acts 495 = .ok (.invokevirtual 80, 3) := by decide +kernel
theorem dL_acts_498 : decode cL_acts 498 = .ok (.ifCond .ne 18, 3) := by decide +kernel
theorem dL_acts_501 : decode cL_acts 501 = .ok (.aload_n 0, 1) := by decide +kernel
theorem dL_acts_502 : decode cL_acts 502 = .ok (.aload 7, 2) := by decide +kernel
theorem dL_acts_504 : decode cL_acts 504 = .ok (.aload 9, 2) := by decide +kernel
theorem dL_acts_506 : decode cL_acts 506 = .ok (.invokestatic 127, 3) := by decide +kernel
theorem dL_acts_509 : decode cL_acts 509 = .ok (.ifCond .ne 7, 3) := by decide +kernel
theorem dL_acts_512 : decode cL_acts 512 = .ok (.iconst 1, 1) := by decide +kernel
theorem dL_acts_513 : decode cL_acts 513 = .ok (.goto 4, 3) := by decide +kernel
theorem dL_acts_516 : decode cL_acts 516 = .ok (.iconst 0, 1) := by decide +kernel
theorem dL_acts_517 : decode cL_acts 517 = .ok (.istore 12, 2) := by decide +kernel
theorem dL_acts_519 : decode cL_acts 519 = .ok (.iload 11, 2) := by decide +kernel
theorem dL_acts_521 : decode cL_acts 521 = .ok (.ifCond .ge 44, 3) := by decide +kernel
theorem dL_acts_524 : decode cL_acts 524 = .ok (.iload 11, 2) := by decide +kernel
theorem dL_acts_526 : decode cL_acts 526 = .ok (.sipush (-5008), 3) := by decide +kernel
theorem dL_acts_529 : decode cL_acts 529 = .ok (.if_icmp .ne 34, 3) := by decide +kernel
theorem dL_acts_532 : decode cL_acts 532 = .ok (.iload 12, 2) := by decide +kernel
theorem dL_acts_534 : decode cL_acts 534 = .ok (.ifCond .eq 29, 3) := by decide +kernel
theorem dL_acts_537 : decode cL_acts 537 = .ok (.aload_n 0, 1) := by decide +kernel
theorem dL_acts_538 : decode cL_acts 538 = .ok (.aload 7, 2) := by decide +kernel
theorem dL_acts_540 : decode cL_acts 540 = .ok (.aload 9, 2) := by decide +kernel
theorem dL_acts_542 : decode cL_acts 542 = .ok (.invokestatic 127, 3) := by decide +kernel
theorem dL_acts_545 : decode cL_acts 545 = .ok (.ifCond .ne 18, 3) := by decide +kernel
theorem dL_acts_548 : decode cL_acts 548 = .ok (.aload_n 0, 1) := by decide +kernel
theorem dL_acts_549 : decode cL_acts 549 = .ok (.invokevirtual 93, 3) := by decide +kernel
theorem dL_acts_552 : decode cL_acts 552 = .ok (.aload 7, 2) := by decide +kernel
theorem dL_acts_554 : decode cL_acts 554 = .ok (.iconst 0, 1) := by decide +kernel
theorem dL_acts_555 : decode cL_acts 555 = .ok (.iaload, 1) := by decide +kernel
theorem dL_acts_556 : decode cL_acts 556 = .ok (.if_icmp .ne 7, 3) := by decide +kernel
theorem dL_acts_559 : decode cL_acts 559 = .ok (.iconst 1, 1) := by decide +kernel
theorem dL_acts_560 : decode cL_acts 560 = .ok (.goto 4, 3) := by decide +kernel
theorem dL_acts_563 : decode cL_acts 563 = .ok (.iconst 0, 1) := by decide +kernel
theorem dL_acts_564 : decode cL_acts 564 = .ok (.ireturn, 1) := by decide +kernel
theorem dL_acts_565 : decode cL_acts 565 = .ok (.aload 5, 2) := by decide +kernel
theorem dL_acts_567 : decode cL_acts 567 = .ok (.aload 7, 2) := by decide +kernel
theorem dL_acts_569 : decode cL_acts 569 = .ok (.aload 8, 2) := by decide +kernel
theorem dL_acts_571 : decode cL_acts 571 = .ok (.iload_n 2, 1) := by decide +kernel
theorem dL_acts_572 : decode cL_acts 572 = .ok (.iconst 0, 1) := by decide +kernel
theorem dL_acts_573 : decode cL_acts 573 = .ok (.invokestatic 119, 3) := by decide +kernel
theorem dL_acts_576 : decode cL_acts 576 = .ok (.iload 12, 2) := by decide +kernel
theorem dL_acts_578 : decode cL_acts 578 = .ok (.ifCond .eq 40, 3) := by decide +kernel
theorem dL_acts_581 : decode cL_acts 581 = .ok (.aload 7, 2) := by decide +kernel
theorem dL_acts_583 : decode cL_acts 583 = .ok (.iconst 0, 1) := by decide +kernel
theorem dL_acts_584 : decode cL_acts 584 = .ok (.iaload, 1) := by decide +kernel
theorem dL_acts_585 : decode cL_acts 585 = .ok (.bipush 60, 2) := by decide +kernel
theorem dL_acts_587 : decode cL_acts 587 = .ok (.if_icmp .gt 31, 3) := by decide +kernel
theorem dL_acts_590 : decode cL_acts 590 = .ok (.aload_n 0, 1) := by decide +kernel
theorem dL_acts_591 : decode cL_acts 591 = .ok (.invokevirtual 93, 3) := by decide +kernel
theorem dL_acts_594 : decode cL_acts 594 = .ok (.aload 7, 2) := by decide +kernel
theorem dL_acts_596 : decode cL_acts 596 = .ok (.iconst 0, 1) := by decide +kernel
theorem dL_acts_597 : decode cL_acts 597 = .ok (.iaload, 1) := by decide +kernel
theorem dL_acts_598 : decode cL_acts 598 = .ok (.if_icmp .ne 20, 3) := by decide +kernel
theorem dL_acts_601 : decode cL_acts 601 = .ok (.aload_n 0, 1) := by decide +kernel
theorem dL_acts_602 : decode cL_acts 602 = .ok (.aload 7, 2) := by decide +kernel
theorem dL_acts_604 : decode cL_acts 604 = .ok (.iconst 0, 1) := by decide +kernel
theorem dL_acts_605 : decode cL_acts 605 = .ok (.iaload, 1) := by decide +kernel
theorem dL_acts_606 : decode cL_acts 606 = .ok (.iconst 1, 1) := by decide +kernel
theorem dL_acts_607 : decode cL_acts 607 = .ok (.isub, 1) := by decide +kernel
theorem dL_acts_608 : decode cL_acts 608 = .ok (.invokevirtual 83, 3) := by decide +kernel
theorem dL_acts_611 : decode cL_acts 611 = .ok (.ifCond .ne 7, 3) := by decide +kernel
theorem dL_acts_614 : decode cL_acts 614 = .ok (.iconst 1, 1) := by decide +kernel
theorem dL_acts_615 : decode cL_acts 615 = .ok (.goto 4, 3) := by decide +kernel
theorem dL_acts_618 : decode cL_acts 618 = .ok (.iconst 0, 1) := by decide +kernel
theorem dL_acts_619 : decode cL_acts 619 = .ok (.ireturn, 1) := by decide +kernel
theorem ml_RL_119 : MS RL 119 yL_makes 5 := ⟨⟨by decide +kernel, by decide +kernel, by decide +kernel⟩, tb11 (mem_i 26 rfl), tb0 (mem_i 0 rfl), Or.inl (tb11 (mem_i 25 rfl))⟩
theorem ml_RL_127 : MS RL 127 yL_differs 3 := ⟨⟨by decide +kernel, by decide +kernel, by decide +kernel⟩, tb12 (mem_i 9 rfl), tb0 (mem_i 0 rfl), Or.inl (tb12 (mem_i 8 rfl))⟩
theorem ml_RL_123 : MS RL 123 yL_notes 3 := ⟨⟨by decide +kernel, by decide +kernel, by decide +kernel⟩, tb12 (mem_i 6 rfl), tb0 (mem_i 0 rfl), Or.inl (tb12 (mem_i 5 rfl))⟩
def f_L_adds_b257 (p1 : Int32) (p2 : Int32) (p3 : Int32) (p7 : Int32)  (S : HS) (t0 : Int32) : Option (HS × Int32) :=
if nz t0 = true then some (S, t0) else none
def f_L_adds_b256 (p1 : Int32) (p2 : Int32) (p3 : Int32) (p7 : Int32)  (S : HS) : Option (HS × Int32) :=
f_L_adds_b257 p1 p2 p3 p7  S (0 : Int32)
def f_L_adds_b252 (p1 : Int32) (p2 : Int32) (p3 : Int32) (p7 : Int32)  (S : HS) : Option (HS × Int32) :=
f_L_adds_b257 p1 p2 p3 p7  S (1 : Int32)
def f_L_adds_b233 (p1 : Int32) (p2 : Int32) (p3 : Int32) (p7 : Int32)  (S : HS) (x10 : Int32) (x13 : Int32) (t0 : Int32) (t1 : Int32) : Option (HS × Int32) :=
if t0 = t1 then
if x10 = 0 then
(f_X7_number x13 (3 : Int32) S).bind (fun o245 => if o245.2.1 = 0 then
(fun (o245 : XO) =>
if o245.2.2 = (2 : Int32) then
f_L_adds_b252 p1 p2 p3 p7  o245.1
else
f_L_adds_b256 p1 p2 p3 p7  o245.1) o245
else none)
else
f_L_adds_b252 p1 p2 p3 p7  S
else
f_L_adds_b256 p1 p2 p3 p7  S
def f_L_adds_b148 (p1 : Int32) (p2 : Int32) (p3 : Int32) (p7 : Int32)  (S : HS) (t0 : Int32) : Option (HS × Int32) :=
if nz t0 = true then some (S, t0) else none
def f_L_adds_b128 (p1 : Int32) (p2 : Int32) (p3 : Int32) (p7 : Int32)  (S : HS) (x8 : Int32) (x9 : Int32) (x10 : Int32) (x11 : Int32) (x12 : Int32) (t0 : Int32) : Option (HS × Int32) :=
if x11 = 0 then
if t0 = (-5008 : Int32) then
f_L_adds_b148 p1 p2 p3 p7  S (1 : Int32)
else
f_L_adds_b148 p1 p2 p3 p7  S (0 : Int32)
else
(f_L_makes p1 (1 : Int32) S).bind (fun o157 =>
if ib (1 : Int32) (5) = true then
if ib (1 : Int32) (5) = true then
if ib (1 : Int32) (5) = true then
if t0 = (((sI o157 38 (1 : Int32).toNatClampNeg ((o157.1 38 (1 : Int32).toNatClampNeg) + (1 : Int32))).1 38 (1 : Int32).toNatClampNeg) - (1 : Int32)) then
(f_X7_isThere t0 (sI o157 38 (1 : Int32).toNatClampNeg ((o157.1 38 (1 : Int32).toNatClampNeg) + (1 : Int32)))).bind (fun o182 => if o182.2.1 = 0 then
(fun (o182 : XO) =>
if o182.2.2 = 0 then
f_L_adds_b256 p1 p2 p3 p7  o182.1
else
(f_X7_number t0 (0 : Int32) o182.1).bind (fun o192 => if o192.2.1 = 0 then
(fun (o192 : XO) =>
if o192.2.2 = x8 then
(f_X7_number t0 (1 : Int32) o192.1).bind (fun o204 => if o204.2.1 = 0 then
(fun (o204 : XO) =>
if o204.2.2 = x9 then
(f_X7_number t0 (2 : Int32) o204.1).bind (fun o216 => if o216.2.1 = 0 then
(fun (o216 : XO) =>
if x10 = 0 then
f_L_adds_b233 p1 p2 p3 p7  o216.1 x10 t0 o216.2.2 ((2 : Int32) * p7)
else
f_L_adds_b233 p1 p2 p3 p7  o216.1 x10 t0 o216.2.2 x12) o216
else none)
else
f_L_adds_b256 p1 p2 p3 p7  o204.1) o204
else none)
else
f_L_adds_b256 p1 p2 p3 p7  o192.1) o192
else none)) o182
else none)
else
f_L_adds_b256 p1 p2 p3 p7  (sI o157 38 (1 : Int32).toNatClampNeg ((o157.1 38 (1 : Int32).toNatClampNeg) + (1 : Int32)))
else none
else none
else none)
def f_L_adds_b67 (p1 : Int32) (p2 : Int32) (p3 : Int32) (p7 : Int32)  (S : HS) (x8 : Int32) (x9 : Int32) (x10 : Int32) (t0 : Int32) : Option (HS × Int32) :=
if (61 : Int32) = 0 then none else
if (12 : Int32) = 0 then none else
if x10 = 0 then
if (183 : Int32) = 0 then none else
if (2 : Int32) = 0 then none else
(f_L_asks (1 : Int32) p1 x8 x9 ((p2 / (183 : Int32)) - (p2 / (183 : Int32)) / (2 : Int32) * (2 : Int32)) (0 : Int32) S).bind (fun o125 =>
f_L_adds_b128 p1 p2 p3 p7  o125.1 x8 x9 x10 t0 ((1 : Int32) + ((p3 / (61 : Int32)) - (p3 / (61 : Int32)) / (12 : Int32) * (12 : Int32))) o125.2.2)
else
if (183 : Int32) = 0 then none else
if (9 : Int32) = 0 then none else
(f_L_asks (0 : Int32) p1 x8 x9 ((1 : Int32) + ((p3 / (61 : Int32)) - (p3 / (61 : Int32)) / (12 : Int32) * (12 : Int32))) ((1 : Int32) + ((p2 / (183 : Int32)) - (p2 / (183 : Int32)) / (9 : Int32) * (9 : Int32))) S).bind (fun o104 =>
f_L_adds_b128 p1 p2 p3 p7  o104.1 x8 x9 x10 t0 ((1 : Int32) + ((p3 / (61 : Int32)) - (p3 / (61 : Int32)) / (12 : Int32) * (12 : Int32))) o104.2.2)
def f_L_adds_b66 (p1 : Int32) (p2 : Int32) (p3 : Int32) (p7 : Int32)  (S : HS) (x8 : Int32) (x9 : Int32) (x10 : Int32) : Option (HS × Int32) :=
f_L_adds_b67 p1 p2 p3 p7  S x8 x9 x10 (0 : Int32)
def f_L_adds_b62 (p1 : Int32) (p2 : Int32) (p3 : Int32) (p7 : Int32)  (S : HS) (x8 : Int32) (x9 : Int32) (x10 : Int32) : Option (HS × Int32) :=
f_L_adds_b67 p1 p2 p3 p7  S x8 x9 x10 (1 : Int32)
def f_L_adds_b32 (p1 : Int32) (p2 : Int32) (p3 : Int32) (p7 : Int32)  (S : HS) (x8 : Int32) (x9 : Int32) (t0 : Int32) : Option (HS × Int32) :=
if ib (1 : Int32) (5) = true then
if (10 : Int32) ≤ (S.1 38 (1 : Int32).toNatClampNeg) then
f_L_adds_b66 p1 p2 p3 p7  S x8 x9 t0
else
if ib (0 : Int32) (5) = true then
if (60 : Int32) ≤ (S.1 38 (0 : Int32).toNatClampNeg) then
f_L_adds_b66 p1 p2 p3 p7  S x8 x9 t0
else
if t0 = 0 then
if p7 ≤ 0 then
f_L_adds_b66 p1 p2 p3 p7  S x8 x9 t0
else
f_L_adds_b62 p1 p2 p3 p7  S x8 x9 t0
else
f_L_adds_b62 p1 p2 p3 p7  S x8 x9 t0
else none
else none
def f_L_adds (p1 : Int32) (p2 : Int32) (p3 : Int32) (p7 : Int32) (S : HS) : Option (HS × Int32) :=
if (61 : Int32) = 0 then none else
if (61 : Int32) = 0 then none else
if (61 : Int32) = 0 then none else
if (3 : Int32) = 0 then none else
if ((p2 / (61 : Int32)) - (p2 / (61 : Int32)) / (3 : Int32) * (3 : Int32)) ≤ 0 then
f_L_adds_b32 p1 p2 p3 p7  S ((p2 - p2 / (61 : Int32) * (61 : Int32)) - (30 : Int32)) ((p3 - p3 / (61 : Int32) * (61 : Int32)) - (30 : Int32)) (0 : Int32)
else
f_L_adds_b32 p1 p2 p3 p7  S ((p2 - p2 / (61 : Int32) * (61 : Int32)) - (30 : Int32)) ((p3 - p3 / (61 : Int32) * (61 : Int32)) - (30 : Int32)) (1 : Int32)
def rm_L_adds : Room := { frames := 9, cells := 1, slots := 6, locals := 237 }
set_option maxRecDepth 100000 in
set_option maxHeartbeats 40000000 in
theorem c_L_adds (l : Launch) (hl9 : l.stackTraces = false) (p1 : Int32) (p2 : Int32) (p3 : Int32) (p7 : Int32) (S : HS) (out : HS × Int32) (h : f_L_adds p1 p2 p3 p7 S = some out) : CtK l yL_adds cL_adds 14 (some .boolean) rm_L_adds [vR 0, vI p1, vI p2, vI p3, vR 36, vR 38, vR 39, vI p7] S (some (vI out.2)) out.1 := by
  refine CtK.intro (own := RL) (lv := [(0, vR 0), (1, vI p1), (2, vI p2), (3, vI p3), (4, vR 36), (5, vR 38), (6, vR 39), (7, vI p7)]) (by decide +kernel) rfl rfl (Nat.le_of_ble_eq_true rfl) ?_
  intro G hG hR
  have hRc : rm_L_adds.cells = 1 := rfl
  have hRs : rm_L_adds.slots = 6 := rfl
  revert h
  have hb257 : ∀ (k n : Nat), k + (0 + 0) ≤ 1 → n + 6 * (0 + 0) ≤ 6 → ∀ (S : HS) (t0 : Int32), f_L_adds_b257 p1 p2 p3 p7 S t0 = some out → G k n S [] 257 [vI t0] := by
    intro  k n hk hn S t0
    unfold f_L_adds_b257
    exact s_rKZ hR (by omega) (by omega) dL_adds_257
  have hb256 : ∀ (k n : Nat), k + (0 + 0) ≤ 1 → n + 6 * (0 + 0) ≤ 6 → ∀ (S : HS), f_L_adds_b256 p1 p2 p3 p7 S = some out → G k n S [] 256 [] := by
    intro  k n hk hn S
    unfold f_L_adds_b256
    refine s_iconst hG (v := (0 : Int32)) dL_adds_256 (by decide) ?_
    exact hb257  _ _ (by omega) (by omega) _ _
  have hb252 : ∀ (k n : Nat), k + (0 + 0) ≤ 1 → n + 6 * (0 + 0) ≤ 6 → ∀ (S : HS), f_L_adds_b252 p1 p2 p3 p7 S = some out → G k n S [] 252 [] := by
    intro  k n hk hn S
    unfold f_L_adds_b252
    refine s_iconst hG (v := (1 : Int32)) dL_adds_252 (by decide) ?_
    refine s_goto hG (tgt := 257) dL_adds_253 (by decide) ?_
    exact hb257  _ _ (by omega) (by omega) _ _
  have hb233 : ∀ (k n : Nat), k + (0 + 0) ≤ 1 → n + 6 * (0 + 0) ≤ 6 → ∀ (S : HS) (x10 : Int32) (x13 : Int32) (t0 : Int32) (t1 : Int32), f_L_adds_b233 p1 p2 p3 p7 S x10 x13 t0 t1 = some out → G k n S [(0, vR 0), (10, vI x10), (13, vI x13)] 233 [vI t1, vI t0] := by
    intro  k n hk hn S x10 x13 t0 t1
    unfold f_L_adds_b233
    refine s_icmp_ne hG (tgt := 256) dL_adds_233 (by decide) ?_ ?_
    · refine s_lv hG [] rfl ?_
      exact hb256  _ _ (by omega) (by omega) _
    · refine s_iload hG dL_adds_236 rfl ?_
      refine s_if_ne hG (tgt := 252) dL_adds_238 (by decide) ?_ ?_
      · refine s_lv hG [] rfl ?_
        exact hb252  _ _ (by omega) (by omega) _
      · refine s_aload_n hG dL_adds_241 rfl ?_
        refine s_iload hG dL_adds_242 rfl ?_
        refine s_iconst hG (v := (3 : Int32)) dL_adds_244 (by decide) ?_
        refine s_dI hG (as := [vI x13, vI (3 : Int32)]) (st := []) (rm := rm_X7_number) (rmT := rmT_X7_number) (by decide) dL_adds_245 ml_RL_44 (rfl) (tb10 (mem_i 19 rfl)) rfl ⟨rfl, rfl⟩ ⟨Nat.le_of_ble_eq_true rfl, Nat.le_of_ble_eq_true rfl⟩ (Nat.le_of_ble_eq_true rfl) ⟨by omega, by omega⟩ rfl (fun o h => c_X7_number l hl9 _ _ _ o h) (fun o245 => ?_)
        refine s_iconst hG (v := (2 : Int32)) dL_adds_248 (by decide) ?_
        refine s_icmp_ne hG (tgt := 256) dL_adds_249 (by decide) ?_ ?_
        · refine s_lv hG [] rfl ?_
          exact hb256  _ _ (by omega) (by omega) _
        · refine s_lv hG [] rfl ?_
          exact hb252  _ _ (by omega) (by omega) _
  have hb148 : ∀ (k n : Nat), k + (0 + 0) ≤ 1 → n + 6 * (0 + 0) ≤ 6 → ∀ (S : HS) (t0 : Int32), f_L_adds_b148 p1 p2 p3 p7 S t0 = some out → G k n S [] 148 [vI t0] := by
    intro  k n hk hn S t0
    unfold f_L_adds_b148
    exact s_rKZ hR (by omega) (by omega) dL_adds_148
  have hb128 : ∀ (k n : Nat), k + (0 + 0) ≤ 1 → n + 6 * (0 + 0) ≤ 6 → ∀ (S : HS) (x8 : Int32) (x9 : Int32) (x10 : Int32) (x11 : Int32) (x12 : Int32) (t0 : Int32), f_L_adds_b128 p1 p2 p3 p7 S x8 x9 x10 x11 x12 t0 = some out → G k n S [(0, vR 0), (1, vI p1), (4, vR 36), (5, vR 38), (6, vR 39), (7, vI p7), (8, vI x8), (9, vI x9), (10, vI x10), (11, vI x11), (12, vI x12)] 128 [vI t0] := by
    intro  k n hk hn S x8 x9 x10 x11 x12 t0
    unfold f_L_adds_b128
    refine s_istore hG (lv' := [(13, vI t0), (0, vR 0), (1, vI p1), (4, vR 36), (5, vR 38), (6, vR 39), (7, vI p7), (8, vI x8), (9, vI x9), (10, vI x10), (11, vI x11), (12, vI x12)]) dL_adds_128 (by decide) rfl ?_
    refine s_iload hG dL_adds_130 rfl ?_
    refine s_if_ne hG (tgt := 149) dL_adds_132 (by decide) ?_ ?_
    · refine s_aload hG dL_adds_149 rfl ?_
      refine s_aload hG dL_adds_151 rfl ?_
      refine s_aload hG dL_adds_153 rfl ?_
      refine s_iload_n hG dL_adds_155 rfl ?_
      refine s_iconst hG (v := (1 : Int32)) dL_adds_156 (by decide) ?_
      refine s_csV hG (as := [vR 36, vR 38, vR 39, vI p1, vI (1 : Int32)]) (st := []) (rm := rm_L_makes) dL_adds_157 ml_RL_119 (tb11 (mem_i 27 rfl)) rfl ⟨rfl, rfl⟩ ⟨Nat.le_of_ble_eq_true rfl, Nat.le_of_ble_eq_true rfl⟩ (Nat.le_of_ble_eq_true rfl) ⟨by omega, by omega⟩ rfl (fun o h => c_L_makes l _ _ _ o h) (fun o157 => ?_)
      refine s_aload hG dL_adds_160 rfl ?_
      refine s_iconst hG (v := (1 : Int32)) dL_adds_162 (by decide) ?_
      refine s_dup2 hG dL_adds_163 rfl rfl ?_
      refine s_iaload hG dL_adds_164 (rfl) ?_
      refine s_iconst hG (v := (1 : Int32)) dL_adds_165 (by decide) ?_
      refine s_iadd hG dL_adds_166 ?_
      refine s_iastore hG dL_adds_167 (rfl) ?_
      refine s_iload hG dL_adds_168 rfl ?_
      refine s_aload hG dL_adds_170 rfl ?_
      refine s_iconst hG (v := (1 : Int32)) dL_adds_172 (by decide) ?_
      refine s_iaload hG dL_adds_173 (rfl) ?_
      refine s_iconst hG (v := (1 : Int32)) dL_adds_174 (by decide) ?_
      refine s_isub hG dL_adds_175 ?_
      refine s_icmp_ne hG (tgt := 256) dL_adds_176 (by decide) ?_ ?_
      · refine s_lv hG [] rfl ?_
        exact hb256  _ _ (by omega) (by omega) _
      · refine s_aload_n hG dL_adds_179 rfl ?_
        refine s_iload hG dL_adds_180 rfl ?_
        refine s_dI hG (as := [vI t0]) (st := []) (rm := rm_X7_isThere) (rmT := rmT_X7_isThere) (by decide) dL_adds_182 ml_RL_65 (rfl) (tb12 (mem_i 1 rfl)) rfl ⟨rfl, rfl⟩ ⟨Nat.le_of_ble_eq_true rfl, Nat.le_of_ble_eq_true rfl⟩ (Nat.le_of_ble_eq_true rfl) ⟨by omega, by omega⟩ rfl (fun o h => c_X7_isThere l hl9 _ _ o h) (fun o182 => ?_)
        refine s_if_eq hG (tgt := 256) dL_adds_185 (by decide) ?_ ?_
        · refine s_lv hG [] rfl ?_
          exact hb256  _ _ (by omega) (by omega) _
        · refine s_aload_n hG dL_adds_188 rfl ?_
          refine s_iload hG dL_adds_189 rfl ?_
          refine s_iconst hG (v := (0 : Int32)) dL_adds_191 (by decide) ?_
          refine s_dI hG (as := [vI t0, vI (0 : Int32)]) (st := []) (rm := rm_X7_number) (rmT := rmT_X7_number) (by decide) dL_adds_192 ml_RL_44 (rfl) (tb10 (mem_i 19 rfl)) rfl ⟨rfl, rfl⟩ ⟨Nat.le_of_ble_eq_true rfl, Nat.le_of_ble_eq_true rfl⟩ (Nat.le_of_ble_eq_true rfl) ⟨by omega, by omega⟩ rfl (fun o h => c_X7_number l hl9 _ _ _ o h) (fun o192 => ?_)
          refine s_iload hG dL_adds_195 rfl ?_
          refine s_icmp_ne hG (tgt := 256) dL_adds_197 (by decide) ?_ ?_
          · refine s_lv hG [] rfl ?_
            exact hb256  _ _ (by omega) (by omega) _
          · refine s_aload_n hG dL_adds_200 rfl ?_
            refine s_iload hG dL_adds_201 rfl ?_
            refine s_iconst hG (v := (1 : Int32)) dL_adds_203 (by decide) ?_
            refine s_dI hG (as := [vI t0, vI (1 : Int32)]) (st := []) (rm := rm_X7_number) (rmT := rmT_X7_number) (by decide) dL_adds_204 ml_RL_44 (rfl) (tb10 (mem_i 19 rfl)) rfl ⟨rfl, rfl⟩ ⟨Nat.le_of_ble_eq_true rfl, Nat.le_of_ble_eq_true rfl⟩ (Nat.le_of_ble_eq_true rfl) ⟨by omega, by omega⟩ rfl (fun o h => c_X7_number l hl9 _ _ _ o h) (fun o204 => ?_)
            refine s_iload hG dL_adds_207 rfl ?_
            refine s_icmp_ne hG (tgt := 256) dL_adds_209 (by decide) ?_ ?_
            · refine s_lv hG [] rfl ?_
              exact hb256  _ _ (by omega) (by omega) _
            · refine s_aload_n hG dL_adds_212 rfl ?_
              refine s_iload hG dL_adds_213 rfl ?_
              refine s_iconst hG (v := (2 : Int32)) dL_adds_215 (by decide) ?_
              refine s_dI hG (as := [vI t0, vI (2 : Int32)]) (st := []) (rm := rm_X7_number) (rmT := rmT_X7_number) (by decide) dL_adds_216 ml_RL_44 (rfl) (tb10 (mem_i 19 rfl)) rfl ⟨rfl, rfl⟩ ⟨Nat.le_of_ble_eq_true rfl, Nat.le_of_ble_eq_true rfl⟩ (Nat.le_of_ble_eq_true rfl) ⟨by omega, by omega⟩ rfl (fun o h => c_X7_number l hl9 _ _ _ o h) (fun o216 => ?_)
              refine s_iload hG dL_adds_219 rfl ?_
              refine s_if_eq hG (tgt := 229) dL_adds_221 (by decide) ?_ ?_
              · refine s_iconst hG (v := (2 : Int32)) dL_adds_229 (by decide) ?_
                refine s_iload hG dL_adds_230 rfl ?_
                refine s_imul hG dL_adds_232 ?_
                refine s_lv hG [1, 9, 0] rfl ?_
                exact hb233  _ _ (by omega) (by omega) _ _ _ _ _
              · refine s_iload hG dL_adds_224 rfl ?_
                refine s_goto hG (tgt := 233) dL_adds_226 (by decide) ?_
                refine s_lv hG [1, 9, 0] rfl ?_
                exact hb233  _ _ (by omega) (by omega) _ _ _ _ _
    · refine s_iload hG dL_adds_135 rfl ?_
      refine s_sipush hG (v := (-5008 : Int32)) dL_adds_137 (by decide) ?_
      refine s_icmp_ne hG (tgt := 147) dL_adds_140 (by decide) ?_ ?_
      · refine s_iconst hG (v := (0 : Int32)) dL_adds_147 (by decide) ?_
        refine s_lv hG [] rfl ?_
        exact hb148  _ _ (by omega) (by omega) _ _
      · refine s_iconst hG (v := (1 : Int32)) dL_adds_143 (by decide) ?_
        refine s_goto hG (tgt := 148) dL_adds_144 (by decide) ?_
        refine s_lv hG [] rfl ?_
        exact hb148  _ _ (by omega) (by omega) _ _
  have hb67 : ∀ (k n : Nat), k + (1 + 0) ≤ 1 → n + 6 * (1 + 0) ≤ 6 → ∀ (S : HS) (x8 : Int32) (x9 : Int32) (x10 : Int32) (t0 : Int32), f_L_adds_b67 p1 p2 p3 p7 S x8 x9 x10 t0 = some out → G k n S [(0, vR 0), (1, vI p1), (2, vI p2), (3, vI p3), (4, vR 36), (5, vR 38), (6, vR 39), (7, vI p7), (8, vI x8), (9, vI x9), (10, vI x10)] 67 [vI t0] := by
    intro  k n hk hn S x8 x9 x10 t0
    unfold f_L_adds_b67
    refine s_istore hG (lv' := [(11, vI t0), (0, vR 0), (1, vI p1), (2, vI p2), (3, vI p3), (4, vR 36), (5, vR 38), (6, vR 39), (7, vI p7), (8, vI x8), (9, vI x9), (10, vI x10)]) dL_adds_67 (by decide) rfl ?_
    refine s_iconst hG (v := (1 : Int32)) dL_adds_69 (by decide) ?_
    refine s_iload_n hG dL_adds_70 rfl ?_
    refine s_bipush hG (v := (61 : Int32)) dL_adds_71 (by decide) ?_
    refine s_idiv hG dL_adds_73 ?_
    refine s_bipush hG (v := (12 : Int32)) dL_adds_74 (by decide) ?_
    refine s_irem hG dL_adds_76 ?_
    refine s_iadd hG dL_adds_77 ?_
    refine s_istore hG (lv' := [(12, vI ((1 : Int32) + ((p3 / (61 : Int32)) - (p3 / (61 : Int32)) / (12 : Int32) * (12 : Int32)))), (11, vI t0), (0, vR 0), (1, vI p1), (2, vI p2), (3, vI p3), (4, vR 36), (5, vR 38), (6, vR 39), (7, vI p7), (8, vI x8), (9, vI x9), (10, vI x10)]) dL_adds_78 (by decide) rfl ?_
    refine s_iload hG dL_adds_80 rfl ?_
    refine s_if_eq hG (tgt := 110) dL_adds_82 (by decide) ?_ ?_
    · refine s_aload_n hG dL_adds_110 rfl ?_
      refine s_iconst hG (v := (1 : Int32)) dL_adds_111 (by decide) ?_
      refine s_iload_n hG dL_adds_112 rfl ?_
      refine s_iload hG dL_adds_113 rfl ?_
      refine s_iload hG dL_adds_115 rfl ?_
      refine s_iload_n hG dL_adds_117 rfl ?_
      refine s_sipush hG (v := (183 : Int32)) dL_adds_118 (by decide) ?_
      refine s_idiv hG dL_adds_121 ?_
      refine s_iconst hG (v := (2 : Int32)) dL_adds_122 (by decide) ?_
      refine s_irem hG dL_adds_123 ?_
      refine s_iconst hG (v := (0 : Int32)) dL_adds_124 (by decide) ?_
      refine s_aY hG (as := [vR 0, vI (1 : Int32), vI p1, vI x8, vI x9, vI ((p2 / (183 : Int32)) - (p2 / (183 : Int32)) / (2 : Int32) * (2 : Int32)), vI (0 : Int32)]) (st := []) (rm := rm_L_asks) (hh := hh_L_asks) dL_adds_125 ml_RL_68 (tb4 (mem_i 23 rfl)) (exin (mem_i 45 (by decide +kernel))) rfl ⟨rfl, rfl⟩ ⟨Nat.le_of_ble_eq_true rfl, Nat.le_of_ble_eq_true rfl⟩ (Nat.le_of_ble_eq_true rfl) ⟨by omega, by omega⟩ rfl (fun o mc h01 h => c_L_asks l hl9 _ _ _ _ _ _ _ o mc h01 h) (fun o125 => ?_)
      refine s_lv hG [2, 3, 6, 7, 8, 9, 10, 11, 12, 1, 0] rfl ?_
      exact hb128  _ _ (by omega) (by omega) _ _ _ _ _ _ _
    · refine s_aload_n hG dL_adds_85 rfl ?_
      refine s_iconst hG (v := (0 : Int32)) dL_adds_86 (by decide) ?_
      refine s_iload_n hG dL_adds_87 rfl ?_
      refine s_iload hG dL_adds_88 rfl ?_
      refine s_iload hG dL_adds_90 rfl ?_
      refine s_iload hG dL_adds_92 rfl ?_
      refine s_iconst hG (v := (1 : Int32)) dL_adds_94 (by decide) ?_
      refine s_iload_n hG dL_adds_95 rfl ?_
      refine s_sipush hG (v := (183 : Int32)) dL_adds_96 (by decide) ?_
      refine s_idiv hG dL_adds_99 ?_
      refine s_bipush hG (v := (9 : Int32)) dL_adds_100 (by decide) ?_
      refine s_irem hG dL_adds_102 ?_
      refine s_iadd hG dL_adds_103 ?_
      refine s_aY hG (as := [vR 0, vI (0 : Int32), vI p1, vI x8, vI x9, vI ((1 : Int32) + ((p3 / (61 : Int32)) - (p3 / (61 : Int32)) / (12 : Int32) * (12 : Int32))), vI ((1 : Int32) + ((p2 / (183 : Int32)) - (p2 / (183 : Int32)) / (9 : Int32) * (9 : Int32)))]) (st := []) (rm := rm_L_asks) (hh := hh_L_asks) dL_adds_104 ml_RL_68 (tb4 (mem_i 23 rfl)) (exin (mem_i 45 (by decide +kernel))) rfl ⟨rfl, rfl⟩ ⟨Nat.le_of_ble_eq_true rfl, Nat.le_of_ble_eq_true rfl⟩ (Nat.le_of_ble_eq_true rfl) ⟨by omega, by omega⟩ rfl (fun o mc h01 h => c_L_asks l hl9 _ _ _ _ _ _ _ o mc h01 h) (fun o104 => ?_)
      refine s_goto hG (tgt := 128) dL_adds_107 (by decide) ?_
      refine s_lv hG [2, 3, 6, 7, 8, 9, 10, 11, 12, 1, 0] rfl ?_
      exact hb128  _ _ (by omega) (by omega) _ _ _ _ _ _ _
  have hb66 : ∀ (k n : Nat), k + (1 + 0) ≤ 1 → n + 6 * (1 + 0) ≤ 6 → ∀ (S : HS) (x8 : Int32) (x9 : Int32) (x10 : Int32), f_L_adds_b66 p1 p2 p3 p7 S x8 x9 x10 = some out → G k n S [(0, vR 0), (1, vI p1), (2, vI p2), (3, vI p3), (4, vR 36), (5, vR 38), (6, vR 39), (7, vI p7), (8, vI x8), (9, vI x9), (10, vI x10)] 66 [] := by
    intro  k n hk hn S x8 x9 x10
    unfold f_L_adds_b66
    refine s_iconst hG (v := (0 : Int32)) dL_adds_66 (by decide) ?_
    exact hb67  _ _ (by omega) (by omega) _ _ _ _ _
  have hb62 : ∀ (k n : Nat), k + (1 + 0) ≤ 1 → n + 6 * (1 + 0) ≤ 6 → ∀ (S : HS) (x8 : Int32) (x9 : Int32) (x10 : Int32), f_L_adds_b62 p1 p2 p3 p7 S x8 x9 x10 = some out → G k n S [(0, vR 0), (1, vI p1), (2, vI p2), (3, vI p3), (4, vR 36), (5, vR 38), (6, vR 39), (7, vI p7), (8, vI x8), (9, vI x9), (10, vI x10)] 62 [] := by
    intro  k n hk hn S x8 x9 x10
    unfold f_L_adds_b62
    refine s_iconst hG (v := (1 : Int32)) dL_adds_62 (by decide) ?_
    refine s_goto hG (tgt := 67) dL_adds_63 (by decide) ?_
    exact hb67  _ _ (by omega) (by omega) _ _ _ _ _
  have hb32 : ∀ (k n : Nat), k + (1 + 0) ≤ 1 → n + 6 * (1 + 0) ≤ 6 → ∀ (S : HS) (x8 : Int32) (x9 : Int32) (t0 : Int32), f_L_adds_b32 p1 p2 p3 p7 S x8 x9 t0 = some out → G k n S [(0, vR 0), (1, vI p1), (2, vI p2), (3, vI p3), (4, vR 36), (5, vR 38), (6, vR 39), (7, vI p7), (8, vI x8), (9, vI x9)] 32 [vI t0] := by
    intro  k n hk hn S x8 x9 t0
    unfold f_L_adds_b32
    refine s_istore hG (lv' := [(10, vI t0), (0, vR 0), (1, vI p1), (2, vI p2), (3, vI p3), (4, vR 36), (5, vR 38), (6, vR 39), (7, vI p7), (8, vI x8), (9, vI x9)]) dL_adds_32 (by decide) rfl ?_
    refine s_aload hG dL_adds_34 rfl ?_
    refine s_iconst hG (v := (1 : Int32)) dL_adds_36 (by decide) ?_
    refine s_iaload hG dL_adds_37 (rfl) ?_
    refine s_bipush hG (v := (10 : Int32)) dL_adds_38 (by decide) ?_
    refine s_icmp_ge hG (tgt := 66) dL_adds_40 (by decide) ?_ ?_
    · refine s_lv hG [1, 2, 3, 4, 5, 6, 7, 8, 9, 10, 0] rfl ?_
      exact hb66  _ _ (by omega) (by omega) _ _ _ _
    · refine s_aload hG dL_adds_43 rfl ?_
      refine s_iconst hG (v := (0 : Int32)) dL_adds_45 (by decide) ?_
      refine s_iaload hG dL_adds_46 (rfl) ?_
      refine s_bipush hG (v := (60 : Int32)) dL_adds_47 (by decide) ?_
      refine s_icmp_ge hG (tgt := 66) dL_adds_49 (by decide) ?_ ?_
      · refine s_lv hG [1, 2, 3, 4, 5, 6, 7, 8, 9, 10, 0] rfl ?_
        exact hb66  _ _ (by omega) (by omega) _ _ _ _
      · refine s_iload hG dL_adds_52 rfl ?_
        refine s_if_ne hG (tgt := 62) dL_adds_54 (by decide) ?_ ?_
        · refine s_lv hG [1, 2, 3, 4, 5, 6, 7, 8, 9, 10, 0] rfl ?_
          exact hb62  _ _ (by omega) (by omega) _ _ _ _
        · refine s_iload hG dL_adds_57 rfl ?_
          refine s_if_le hG (tgt := 66) dL_adds_59 (by decide) ?_ ?_
          · refine s_lv hG [1, 2, 3, 4, 5, 6, 7, 8, 9, 10, 0] rfl ?_
            exact hb66  _ _ (by omega) (by omega) _ _ _ _
          · refine s_lv hG [1, 2, 3, 4, 5, 6, 7, 8, 9, 10, 0] rfl ?_
            exact hb62  _ _ (by omega) (by omega) _ _ _ _
  unfold f_L_adds
  refine s_iload_n hG dL_adds_0 rfl ?_
  refine s_bipush hG (v := (61 : Int32)) dL_adds_1 (by decide) ?_
  refine s_irem hG dL_adds_3 ?_
  refine s_bipush hG (v := (30 : Int32)) dL_adds_4 (by decide) ?_
  refine s_isub hG dL_adds_6 ?_
  refine s_istore hG (lv' := [(8, vI ((p2 - p2 / (61 : Int32) * (61 : Int32)) - (30 : Int32))), (0, vR 0), (1, vI p1), (2, vI p2), (3, vI p3), (4, vR 36), (5, vR 38), (6, vR 39), (7, vI p7)]) dL_adds_7 (by decide) rfl ?_
  refine s_iload_n hG dL_adds_9 rfl ?_
  refine s_bipush hG (v := (61 : Int32)) dL_adds_10 (by decide) ?_
  refine s_irem hG dL_adds_12 ?_
  refine s_bipush hG (v := (30 : Int32)) dL_adds_13 (by decide) ?_
  refine s_isub hG dL_adds_15 ?_
  refine s_istore hG (lv' := [(9, vI ((p3 - p3 / (61 : Int32) * (61 : Int32)) - (30 : Int32))), (8, vI ((p2 - p2 / (61 : Int32) * (61 : Int32)) - (30 : Int32))), (0, vR 0), (1, vI p1), (2, vI p2), (3, vI p3), (4, vR 36), (5, vR 38), (6, vR 39), (7, vI p7)]) dL_adds_16 (by decide) rfl ?_
  refine s_iload_n hG dL_adds_18 rfl ?_
  refine s_bipush hG (v := (61 : Int32)) dL_adds_19 (by decide) ?_
  refine s_idiv hG dL_adds_21 ?_
  refine s_iconst hG (v := (3 : Int32)) dL_adds_22 (by decide) ?_
  refine s_irem hG dL_adds_23 ?_
  refine s_if_le hG (tgt := 31) dL_adds_24 (by decide) ?_ ?_
  · refine s_iconst hG (v := (0 : Int32)) dL_adds_31 (by decide) ?_
    refine s_lv hG [2, 3, 4, 5, 6, 7, 8, 9, 1, 0] rfl ?_
    exact hb32  _ _ (by omega) (by omega) _ _ _ _
  · refine s_iconst hG (v := (1 : Int32)) dL_adds_27 (by decide) ?_
    refine s_goto hG (tgt := 32) dL_adds_28 (by decide) ?_
    refine s_lv hG [2, 3, 4, 5, 6, 7, 8, 9, 1, 0] rfl ?_
    exact hb32  _ _ (by omega) (by omega) _ _ _ _

def f_L_acts_b619 (p1 : Int32) (p2 : Int32) (p3 : Int32) (p4 : Int32)  (S : HS) (t0 : Int32) : Option (HS × Int32) :=
if nz t0 = true then some (S, t0) else none
def f_L_acts_b618 (p1 : Int32) (p2 : Int32) (p3 : Int32) (p4 : Int32)  (S : HS) : Option (HS × Int32) :=
f_L_acts_b619 p1 p2 p3 p4  S (0 : Int32)
def f_L_acts_b564 (p1 : Int32) (p2 : Int32) (p3 : Int32) (p4 : Int32)  (S : HS) (t0 : Int32) : Option (HS × Int32) :=
if nz t0 = true then some (S, t0) else none
def f_L_acts_b563 (p1 : Int32) (p2 : Int32) (p3 : Int32) (p4 : Int32)  (S : HS) : Option (HS × Int32) :=
f_L_acts_b564 p1 p2 p3 p4  S (0 : Int32)
def f_L_acts_b519 (p1 : Int32) (p2 : Int32) (p3 : Int32) (p4 : Int32)  (S : HS) (x11 : Int32) (x12 : Int32) : Option (HS × Int32) :=
if 0 ≤ x11 then
(f_L_makes p2 (0 : Int32) S).bind (fun o573 =>
if x12 = 0 then
f_L_acts_b618 p1 p2 p3 p4  o573
else
if ib (0 : Int32) (5) = true then
if (60 : Int32) < (o573.1 38 (0 : Int32).toNatClampNeg) then
f_L_acts_b618 p1 p2 p3 p4  o573
else
(f_X7_acts o573).bind (fun o591 =>
if ib (0 : Int32) (5) = true then
if o591 = (o573.1 38 (0 : Int32).toNatClampNeg) then
if ib (0 : Int32) (5) = true then
(f_X7_isVoid ((o573.1 38 (0 : Int32).toNatClampNeg) - (1 : Int32)) o573).bind (fun o608 => if o608.2.1 = 0 then
(fun (o608 : XO) =>
if o608.2.2 = 0 then
f_L_acts_b619 p1 p2 p3 p4  o608.1 (1 : Int32)
else
f_L_acts_b618 p1 p2 p3 p4  o608.1) o608
else none)
else none
else
f_L_acts_b618 p1 p2 p3 p4  o573
else none)
else none)
else
if x11 = (-5008 : Int32) then
if x12 = 0 then
f_L_acts_b563 p1 p2 p3 p4  S
else
(f_L_differs S).bind (fun o542 =>
if o542.2 = 0 then
(f_X7_acts o542.1).bind (fun o549 =>
if ib (0 : Int32) (5) = true then
if o549 = (o542.1.1 38 (0 : Int32).toNatClampNeg) then
f_L_acts_b564 p1 p2 p3 p4  o542.1 (1 : Int32)
else
f_L_acts_b563 p1 p2 p3 p4  o542.1
else none)
else
f_L_acts_b563 p1 p2 p3 p4  o542.1)
else
f_L_acts_b563 p1 p2 p3 p4  S
def f_L_acts_b517 (p1 : Int32) (p2 : Int32) (p3 : Int32) (p4 : Int32)  (S : HS) (x11 : Int32) (t0 : Int32) : Option (HS × Int32) :=
f_L_acts_b519 p1 p2 p3 p4  S x11 t0
def f_L_acts_b516 (p1 : Int32) (p2 : Int32) (p3 : Int32) (p4 : Int32)  (S : HS) (x11 : Int32) : Option (HS × Int32) :=
f_L_acts_b517 p1 p2 p3 p4  S x11 (0 : Int32)
def f_L_acts_b472 (p1 : Int32) (p2 : Int32) (p3 : Int32) (p4 : Int32)  (S : HS) (x11 : Int32) : Option (HS × Int32) :=
f_L_acts_b517 p1 p2 p3 p4  S x11 (1 : Int32)
def f_L_acts_b444 (p1 : Int32) (p2 : Int32) (p3 : Int32) (p4 : Int32) (rec419 : HS × Int32 × Int32 × Int32 × Int32 × Int32 → Option (HS × Int32)) (S : HS) (x11 : Int32) (x13 : Int32) (x14 : Int32) (x16 : Int32) (t0 : Int32) (t1 : Int32) : Option (HS × Int32) :=
rec419 (S, x11, x13, x14, (t0 + t1), (x16 + (1 : Int32)))
def F_L_acts_b419 (p1 : Int32) (p2 : Int32) (p3 : Int32) (p4 : Int32)  (rec419 : HS × Int32 × Int32 × Int32 × Int32 × Int32 → Option (HS × Int32)) : HS × Int32 × Int32 × Int32 × Int32 × Int32 → Option (HS × Int32) := fun q => match q with
  | (S, x11, x13, x14, x15, x16) =>
    if ib (2 : Int32) (5) = true then
    if (S.1 38 (2 : Int32).toNatClampNeg) ≤ x16 then
    if 0 ≤ x11 then
    if x14 = 0 then
    f_L_acts_b516 p1 p2 p3 p4  S x11
    else
    if x11 = x15 then
    (f_X7_isInForce x13 S).bind (fun o495 => if o495.2.1 = 0 then
    (fun (o495 : XO) =>
    if o495.2.2 = 0 then
    (f_L_differs o495.1).bind (fun o506 =>
    if o506.2 = 0 then
    f_L_acts_b517 p1 p2 p3 p4  o506.1 x11 (1 : Int32)
    else
    f_L_acts_b516 p1 p2 p3 p4  o506.1 x11)
    else
    f_L_acts_b516 p1 p2 p3 p4  o495.1 x11) o495
    else none)
    else
    f_L_acts_b516 p1 p2 p3 p4  S x11
    else
    if x14 = 0 then
    f_L_acts_b472 p1 p2 p3 p4  S x11
    else
    if ib (0 : Int32) (5) = true then
    if (S.1 38 (0 : Int32).toNatClampNeg) = (60 : Int32) then
    f_L_acts_b472 p1 p2 p3 p4  S x11
    else
    f_L_acts_b517 p1 p2 p3 p4  S x11 (0 : Int32)
    else none
    else
    (f_X7_isInForce x16 S).bind (fun o433 => if o433.2.1 = 0 then
    (fun (o433 : XO) =>
    if o433.2.2 = 0 then
    f_L_acts_b444 p1 p2 p3 p4 rec419 o433.1 x11 x13 x14 x16 x15 (0 : Int32)
    else
    f_L_acts_b444 p1 p2 p3 p4 rec419 o433.1 x11 x13 x14 x16 x15 (1 : Int32)) o433
    else none)
    else none
def f_L_acts_b419 (p1 : Int32) (p2 : Int32) (p3 : Int32) (p4 : Int32)  (S : HS) (x11 : Int32) (x13 : Int32) (x14 : Int32) (x15 : Int32) (x16 : Int32) : Option (HS × Int32) := fx (F_L_acts_b419 p1 p2 p3 p4) FU (S, x11, x13, x14, x15, x16)
def f_L_acts_b371 (p1 : Int32) (p2 : Int32) (p3 : Int32) (p4 : Int32)  (S : HS) (x11 : Int32) (x12 : Int32) : Option (HS × Int32) :=
f_L_acts_b519 p1 p2 p3 p4  S x11 x12
def f_L_acts_b323 (p1 : Int32) (p2 : Int32) (p3 : Int32) (p4 : Int32)  (S : HS) (x10 : Int32) (x11 : Int32) (x13 : Int32) (x14 : Int32) (t0 : Int32) : Option (HS × Int32) :=
if x11 < 0 then
f_L_acts_b371 p1 p2 p3 p4  S x11 t0
else
if t0 = 0 then
f_L_acts_b371 p1 p2 p3 p4  S x11 t0
else
if ib (2 : Int32) (5) = true then
if ib (0 : Int32) (5) = true then
if ib (S.1 38 (2 : Int32).toNatClampNeg) (12) = true then
if ib (2 : Int32) (5) = true then
if ib (2 : Int32) (5) = true then
f_L_acts_b371 p1 p2 p3 p4  (sI (sI S 37 (S.1 38 (2 : Int32).toNatClampNeg).toNatClampNeg (((x14 ||| (x10 <<< ((3 : Int32) &&& 31))) ||| (x13 <<< ((7 : Int32) &&& 31))) ||| ((S.1 38 (0 : Int32).toNatClampNeg) <<< ((11 : Int32) &&& 31)))) 38 (2 : Int32).toNatClampNeg (((sI S 37 (S.1 38 (2 : Int32).toNatClampNeg).toNatClampNeg (((x14 ||| (x10 <<< ((3 : Int32) &&& 31))) ||| (x13 <<< ((7 : Int32) &&& 31))) ||| ((S.1 38 (0 : Int32).toNatClampNeg) <<< ((11 : Int32) &&& 31)))).1 38 (2 : Int32).toNatClampNeg) + (1 : Int32))) x11 t0
else none
else none
else none
else none
else none
def f_L_acts_b318 (p1 : Int32) (p2 : Int32) (p3 : Int32) (p4 : Int32)  (S : HS) (x10 : Int32) (x11 : Int32) (x13 : Int32) (x14 : Int32) : Option (HS × Int32) :=
f_L_acts_b323 p1 p2 p3 p4  S x10 x11 x13 x14 (1 : Int32)
def f_L_acts_b322 (p1 : Int32) (p2 : Int32) (p3 : Int32) (p4 : Int32)  (S : HS) (x10 : Int32) (x11 : Int32) (x13 : Int32) (x14 : Int32) : Option (HS × Int32) :=
f_L_acts_b323 p1 p2 p3 p4  S x10 x11 x13 x14 (0 : Int32)
def f_L_acts_b243 (p1 : Int32) (p2 : Int32) (p3 : Int32) (p4 : Int32)  (S : HS) (x11 : Int32) (t0 : Int32) : Option (HS × Int32) :=
f_L_acts_b519 p1 p2 p3 p4  S x11 t0
def f_L_acts_b238 (p1 : Int32) (p2 : Int32) (p3 : Int32) (p4 : Int32)  (S : HS) (x11 : Int32) : Option (HS × Int32) :=
f_L_acts_b243 p1 p2 p3 p4  S x11 (1 : Int32)
def f_L_acts_b242 (p1 : Int32) (p2 : Int32) (p3 : Int32) (p4 : Int32)  (S : HS) (x11 : Int32) : Option (HS × Int32) :=
f_L_acts_b243 p1 p2 p3 p4  S x11 (0 : Int32)
def f_L_acts_b179 (p1 : Int32) (p2 : Int32) (p3 : Int32) (p4 : Int32)  (S : HS) (x10 : Int32) (x13 : Int32) (t0 : Int32) : Option (HS × Int32) :=
(f_L_asks (3 : Int32) p2 x10 x13 t0 (0 : Int32) S).bind (fun o191 =>
if o191.2.2 < 0 then
f_L_acts_b238 p1 p2 p3 p4  o191.1 o191.2.2
else
(f_L_differs o191.1).bind (fun o208 =>
if o191.2.2 = o208.2 then
(f_X7_number x10 (2 : Int32) o208.1).bind (fun o218 => if o218.2.1 = 0 then
(fun (o218 : XO) =>
if o218.2.2 = x13 then
(f_X7_number x10 (3 : Int32) o218.1).bind (fun o230 => if o230.2.1 = 0 then
(fun (o230 : XO) =>
if o230.2.2 = t0 then
f_L_acts_b238 p1 p2 p3 p4  o230.1 o191.2.2
else
f_L_acts_b242 p1 p2 p3 p4  o230.1 o191.2.2) o230
else none)
else
f_L_acts_b242 p1 p2 p3 p4  o218.1 o191.2.2) o218
else none)
else
f_L_acts_b242 p1 p2 p3 p4  o208.1 o191.2.2))
def f_L_acts_b138 (p1 : Int32) (p2 : Int32) (p3 : Int32) (p4 : Int32)  (S : HS) (x11 : Int32) (t0 : Int32) : Option (HS × Int32) :=
f_L_acts_b519 p1 p2 p3 p4  S x11 t0
def f_L_acts_b133 (p1 : Int32) (p2 : Int32) (p3 : Int32) (p4 : Int32)  (S : HS) (x11 : Int32) : Option (HS × Int32) :=
f_L_acts_b138 p1 p2 p3 p4  S x11 (1 : Int32)
def f_L_acts_b137 (p1 : Int32) (p2 : Int32) (p3 : Int32) (p4 : Int32)  (S : HS) (x11 : Int32) : Option (HS × Int32) :=
f_L_acts_b138 p1 p2 p3 p4  S x11 (0 : Int32)
def f_L_acts_b62 (p1 : Int32) (p2 : Int32) (p3 : Int32) (p4 : Int32)  (S : HS) (x10 : Int32) (t0 : Int32) : Option (HS × Int32) :=
if (10 : Int32) = 0 then none else
if (81 : Int32) = 0 then none else
(f_L_asks (2 : Int32) p2 x10 t0 (((p3 / (10 : Int32)) - (p3 / (10 : Int32)) / (81 : Int32) * (81 : Int32)) - (40 : Int32)) (0 : Int32) S).bind (fun o86 =>
if o86.2.2 < 0 then
f_L_acts_b133 p1 p2 p3 p4  o86.1 o86.2.2
else
(f_L_differs o86.1).bind (fun o103 =>
if o86.2.2 = o103.2 then
(f_X7_number x10 (0 : Int32) o103.1).bind (fun o113 => if o113.2.1 = 0 then
(fun (o113 : XO) =>
if o113.2.2 = t0 then
(f_X7_number x10 (1 : Int32) o113.1).bind (fun o125 => if o125.2.1 = 0 then
(fun (o125 : XO) =>
if o125.2.2 = (((p3 / (10 : Int32)) - (p3 / (10 : Int32)) / (81 : Int32) * (81 : Int32)) - (40 : Int32)) then
f_L_acts_b133 p1 p2 p3 p4  o125.1 o86.2.2
else
f_L_acts_b137 p1 p2 p3 p4  o125.1 o86.2.2) o125
else none)
else
f_L_acts_b137 p1 p2 p3 p4  o113.1 o86.2.2) o113
else none)
else
f_L_acts_b137 p1 p2 p3 p4  o103.1 o86.2.2))
def f_L_acts (p1 : Int32) (p2 : Int32) (p3 : Int32) (p4 : Int32) (S : HS) : Option (HS × Int32) :=
if ib (1 : Int32) (5) = true then
if (S.1 38 (1 : Int32).toNatClampNeg) = 0 then
if nz (1 : Int32) = true then some (S, (1 : Int32)) else none
else
if ib (1 : Int32) (5) = true then
if (S.1 38 (1 : Int32).toNatClampNeg) = 0 then none else
(f_L_notes S).bind (fun o22 =>
if p1 = (2 : Int32) then
if (5 : Int32) = 0 then none else
if (p4 - p4 / (5 : Int32) * (5 : Int32)) = 0 then
if (5 : Int32) = 0 then none else
if (1999 : Int32) = 0 then none else
f_L_acts_b62 p1 p2 p3 p4  o22 (p3 - p3 / (S.1 38 (1 : Int32).toNatClampNeg) * (S.1 38 (1 : Int32).toNatClampNeg)) (((p4 / (5 : Int32)) - (p4 / (5 : Int32)) / (1999 : Int32) * (1999 : Int32)) - (999 : Int32))
else
if (5 : Int32) = 0 then none else
if (81 : Int32) = 0 then none else
f_L_acts_b62 p1 p2 p3 p4  o22 (p3 - p3 / (S.1 38 (1 : Int32).toNatClampNeg) * (S.1 38 (1 : Int32).toNatClampNeg)) (((p4 / (5 : Int32)) - (p4 / (5 : Int32)) / (81 : Int32) * (81 : Int32)) - (40 : Int32))
else
if p1 = (3 : Int32) then
if (14 : Int32) = 0 then none else
if (10 : Int32) = 0 then none else
if (3 : Int32) = 0 then none else
if ((p3 / (10 : Int32)) - (p3 / (10 : Int32)) / (3 : Int32) * (3 : Int32)) = 0 then
f_L_acts_b179 p1 p2 p3 p4  o22 (p3 - p3 / (S.1 38 (1 : Int32).toNatClampNeg) * (S.1 38 (1 : Int32).toNatClampNeg)) ((1 : Int32) + (p4 - p4 / (14 : Int32) * (14 : Int32))) (2 : Int32)
else
if (30 : Int32) = 0 then none else
if (14 : Int32) = 0 then none else
f_L_acts_b179 p1 p2 p3 p4  o22 (p3 - p3 / (S.1 38 (1 : Int32).toNatClampNeg) * (S.1 38 (1 : Int32).toNatClampNeg)) ((1 : Int32) + (p4 - p4 / (14 : Int32) * (14 : Int32))) ((1 : Int32) + ((p3 / (30 : Int32)) - (p3 / (30 : Int32)) / (14 : Int32) * (14 : Int32)))
else
if p1 = (4 : Int32) then
if ib (1 : Int32) (5) = true then
if (o22.1 38 (1 : Int32).toNatClampNeg) = 0 then none else
if (10 : Int32) = 0 then none else
if (7 : Int32) = 0 then none else
if (p3 - p3 / (S.1 38 (1 : Int32).toNatClampNeg) * (S.1 38 (1 : Int32).toNatClampNeg)) = (p4 - p4 / (o22.1 38 (1 : Int32).toNatClampNeg) * (o22.1 38 (1 : Int32).toNatClampNeg)) then
if nz (1 : Int32) = true then some (o22, (1 : Int32)) else none
else
(f_L_asks (4 : Int32) p2 ((p3 / (10 : Int32)) - (p3 / (10 : Int32)) / (7 : Int32) * (7 : Int32)) (p3 - p3 / (S.1 38 (1 : Int32).toNatClampNeg) * (S.1 38 (1 : Int32).toNatClampNeg)) (p4 - p4 / (o22.1 38 (1 : Int32).toNatClampNeg) * (o22.1 38 (1 : Int32).toNatClampNeg)) (0 : Int32) o22).bind (fun o290 =>
if o290.2.2 < 0 then
f_L_acts_b318 p1 p2 p3 p4  o290.1 (p3 - p3 / (S.1 38 (1 : Int32).toNatClampNeg) * (S.1 38 (1 : Int32).toNatClampNeg)) o290.2.2 (p4 - p4 / (o22.1 38 (1 : Int32).toNatClampNeg) * (o22.1 38 (1 : Int32).toNatClampNeg)) ((p3 / (10 : Int32)) - (p3 / (10 : Int32)) / (7 : Int32) * (7 : Int32))
else
if ib (2 : Int32) (5) = true then
if (12 : Int32) ≤ (o290.1.1 38 (2 : Int32).toNatClampNeg) then
f_L_acts_b322 p1 p2 p3 p4  o290.1 (p3 - p3 / (S.1 38 (1 : Int32).toNatClampNeg) * (S.1 38 (1 : Int32).toNatClampNeg)) o290.2.2 (p4 - p4 / (o22.1 38 (1 : Int32).toNatClampNeg) * (o22.1 38 (1 : Int32).toNatClampNeg)) ((p3 / (10 : Int32)) - (p3 / (10 : Int32)) / (7 : Int32) * (7 : Int32))
else
if ib (2 : Int32) (5) = true then
if o290.2.2 = (o290.1.1 38 (2 : Int32).toNatClampNeg) then
f_L_acts_b318 p1 p2 p3 p4  o290.1 (p3 - p3 / (S.1 38 (1 : Int32).toNatClampNeg) * (S.1 38 (1 : Int32).toNatClampNeg)) o290.2.2 (p4 - p4 / (o22.1 38 (1 : Int32).toNatClampNeg) * (o22.1 38 (1 : Int32).toNatClampNeg)) ((p3 / (10 : Int32)) - (p3 / (10 : Int32)) / (7 : Int32) * (7 : Int32))
else
f_L_acts_b322 p1 p2 p3 p4  o290.1 (p3 - p3 / (S.1 38 (1 : Int32).toNatClampNeg) * (S.1 38 (1 : Int32).toNatClampNeg)) o290.2.2 (p4 - p4 / (o22.1 38 (1 : Int32).toNatClampNeg) * (o22.1 38 (1 : Int32).toNatClampNeg)) ((p3 / (10 : Int32)) - (p3 / (10 : Int32)) / (7 : Int32) * (7 : Int32))
else none
else none)
else none
else
if ib (2 : Int32) (5) = true then
if (o22.1 38 (2 : Int32).toNatClampNeg) = 0 then
if nz (1 : Int32) = true then some (o22, (1 : Int32)) else none
else
if ib (2 : Int32) (5) = true then
if (o22.1 38 (2 : Int32).toNatClampNeg) = 0 then none else
(f_X7_isInForce (p4 - p4 / (o22.1 38 (2 : Int32).toNatClampNeg) * (o22.1 38 (2 : Int32).toNatClampNeg)) o22).bind (fun o395 => if o395.2.1 = 0 then
(fun (o395 : XO) =>
(f_L_asks (5 : Int32) p2 (p4 - p4 / (o22.1 38 (2 : Int32).toNatClampNeg) * (o22.1 38 (2 : Int32).toNatClampNeg)) (0 : Int32) (0 : Int32) (0 : Int32) o395.1).bind (fun o411 =>
f_L_acts_b419 p1 p2 p3 p4  o411.1 o411.2.2 (p4 - p4 / (o22.1 38 (2 : Int32).toNatClampNeg) * (o22.1 38 (2 : Int32).toNatClampNeg)) o395.2.2 (0 : Int32) (0 : Int32))) o395
else none)
else none
else none)
else none
else none
def rm_L_acts : Room := { frames := 9, cells := 1, slots := 6, locals := 237 }
set_option maxRecDepth 100000 in
set_option maxHeartbeats 40000000 in
theorem c_L_acts (l : Launch) (hl9 : l.stackTraces = false) (p1 : Int32) (p2 : Int32) (p3 : Int32) (p4 : Int32) (S : HS) (out : HS × Int32) (h : f_L_acts p1 p2 p3 p4 S = some out) : CtK l yL_acts cL_acts 17 (some .boolean) rm_L_acts [vR 0, vI p1, vI p2, vI p3, vI p4, vR 36, vR 37, vR 38, vR 39, vR 40] S (some (vI out.2)) out.1 := by
  refine CtK.intro (own := RL) (lv := [(0, vR 0), (1, vI p1), (2, vI p2), (3, vI p3), (4, vI p4), (5, vR 36), (6, vR 37), (7, vR 38), (8, vR 39), (9, vR 40)]) (by decide +kernel) rfl rfl (Nat.le_of_ble_eq_true rfl) ?_
  intro G hG hR
  have hRc : rm_L_acts.cells = 1 := rfl
  have hRs : rm_L_acts.slots = 6 := rfl
  revert h
  have hb619 : ∀ (k n : Nat), k + (0 + 0) ≤ 1 → n + 6 * (0 + 0) ≤ 6 → ∀ (S : HS) (t0 : Int32), f_L_acts_b619 p1 p2 p3 p4 S t0 = some out → G k n S [] 619 [vI t0] := by
    intro  k n hk hn S t0
    unfold f_L_acts_b619
    exact s_rKZ hR (by omega) (by omega) dL_acts_619
  have hb618 : ∀ (k n : Nat), k + (0 + 0) ≤ 1 → n + 6 * (0 + 0) ≤ 6 → ∀ (S : HS), f_L_acts_b618 p1 p2 p3 p4 S = some out → G k n S [] 618 [] := by
    intro  k n hk hn S
    unfold f_L_acts_b618
    refine s_iconst hG (v := (0 : Int32)) dL_acts_618 (by decide) ?_
    exact hb619  _ _ (by omega) (by omega) _ _
  have hb564 : ∀ (k n : Nat), k + (0 + 0) ≤ 1 → n + 6 * (0 + 0) ≤ 6 → ∀ (S : HS) (t0 : Int32), f_L_acts_b564 p1 p2 p3 p4 S t0 = some out → G k n S [] 564 [vI t0] := by
    intro  k n hk hn S t0
    unfold f_L_acts_b564
    exact s_rKZ hR (by omega) (by omega) dL_acts_564
  have hb563 : ∀ (k n : Nat), k + (0 + 0) ≤ 1 → n + 6 * (0 + 0) ≤ 6 → ∀ (S : HS), f_L_acts_b563 p1 p2 p3 p4 S = some out → G k n S [] 563 [] := by
    intro  k n hk hn S
    unfold f_L_acts_b563
    refine s_iconst hG (v := (0 : Int32)) dL_acts_563 (by decide) ?_
    exact hb564  _ _ (by omega) (by omega) _ _
  have hb519 : ∀ (k n : Nat), k + (0 + 0) ≤ 1 → n + 6 * (0 + 0) ≤ 6 → ∀ (S : HS) (x11 : Int32) (x12 : Int32), f_L_acts_b519 p1 p2 p3 p4 S x11 x12 = some out → G k n S [(0, vR 0), (2, vI p2), (5, vR 36), (7, vR 38), (8, vR 39), (9, vR 40), (11, vI x11), (12, vI x12)] 519 [] := by
    intro  k n hk hn S x11 x12
    unfold f_L_acts_b519
    refine s_iload hG dL_acts_519 rfl ?_
    refine s_if_ge hG (tgt := 565) dL_acts_521 (by decide) ?_ ?_
    · refine s_aload hG dL_acts_565 rfl ?_
      refine s_aload hG dL_acts_567 rfl ?_
      refine s_aload hG dL_acts_569 rfl ?_
      refine s_iload_n hG dL_acts_571 rfl ?_
      refine s_iconst hG (v := (0 : Int32)) dL_acts_572 (by decide) ?_
      refine s_csV hG (as := [vR 36, vR 38, vR 39, vI p2, vI (0 : Int32)]) (st := []) (rm := rm_L_makes) dL_acts_573 ml_RL_119 (tb11 (mem_i 27 rfl)) rfl ⟨rfl, rfl⟩ ⟨Nat.le_of_ble_eq_true rfl, Nat.le_of_ble_eq_true rfl⟩ (Nat.le_of_ble_eq_true rfl) ⟨by omega, by omega⟩ rfl (fun o h => c_L_makes l _ _ _ o h) (fun o573 => ?_)
      refine s_iload hG dL_acts_576 rfl ?_
      refine s_if_eq hG (tgt := 618) dL_acts_578 (by decide) ?_ ?_
      · refine s_lv hG [] rfl ?_
        exact hb618  _ _ (by omega) (by omega) _
      · refine s_aload hG dL_acts_581 rfl ?_
        refine s_iconst hG (v := (0 : Int32)) dL_acts_583 (by decide) ?_
        refine s_iaload hG dL_acts_584 (rfl) ?_
        refine s_bipush hG (v := (60 : Int32)) dL_acts_585 (by decide) ?_
        refine s_icmp_gt hG (tgt := 618) dL_acts_587 (by decide) ?_ ?_
        · refine s_lv hG [] rfl ?_
          exact hb618  _ _ (by omega) (by omega) _
        · refine s_aload_n hG dL_acts_590 rfl ?_
          refine s_cvP hG (as := []) (st := []) (rm := rm_X7_acts) dL_acts_591 ml_RL_93 (rfl) (tb12 (mem_i 18 rfl)) rfl ⟨rfl, rfl⟩ ⟨Nat.le_of_ble_eq_true rfl, Nat.le_of_ble_eq_true rfl⟩ (Nat.le_of_ble_eq_true rfl) ⟨by omega, by omega⟩ rfl (fun o h => c_X7_acts l  _ o h) (fun o591 => ?_)
          refine s_aload hG dL_acts_594 rfl ?_
          refine s_iconst hG (v := (0 : Int32)) dL_acts_596 (by decide) ?_
          refine s_iaload hG dL_acts_597 (rfl) ?_
          refine s_icmp_ne hG (tgt := 618) dL_acts_598 (by decide) ?_ ?_
          · refine s_lv hG [] rfl ?_
            exact hb618  _ _ (by omega) (by omega) _
          · refine s_aload_n hG dL_acts_601 rfl ?_
            refine s_aload hG dL_acts_602 rfl ?_
            refine s_iconst hG (v := (0 : Int32)) dL_acts_604 (by decide) ?_
            refine s_iaload hG dL_acts_605 (rfl) ?_
            refine s_iconst hG (v := (1 : Int32)) dL_acts_606 (by decide) ?_
            refine s_isub hG dL_acts_607 ?_
            refine s_dI hG (as := [vI ((o573.1 38 (0 : Int32).toNatClampNeg) - (1 : Int32))]) (st := []) (rm := rm_X7_isVoid) (rmT := rmT_X7_isVoid) (by decide) dL_acts_608 ml_RL_83 (rfl) (tb12 (mem_i 22 rfl)) rfl ⟨rfl, rfl⟩ ⟨Nat.le_of_ble_eq_true rfl, Nat.le_of_ble_eq_true rfl⟩ (Nat.le_of_ble_eq_true rfl) ⟨by omega, by omega⟩ rfl (fun o h => c_X7_isVoid l hl9 _ _ o h) (fun o608 => ?_)
            refine s_if_ne hG (tgt := 618) dL_acts_611 (by decide) ?_ ?_
            · refine s_lv hG [] rfl ?_
              exact hb618  _ _ (by omega) (by omega) _
            · refine s_iconst hG (v := (1 : Int32)) dL_acts_614 (by decide) ?_
              refine s_goto hG (tgt := 619) dL_acts_615 (by decide) ?_
              refine s_lv hG [] rfl ?_
              exact hb619  _ _ (by omega) (by omega) _ _
    · refine s_iload hG dL_acts_524 rfl ?_
      refine s_sipush hG (v := (-5008 : Int32)) dL_acts_526 (by decide) ?_
      refine s_icmp_ne hG (tgt := 563) dL_acts_529 (by decide) ?_ ?_
      · refine s_lv hG [] rfl ?_
        exact hb563  _ _ (by omega) (by omega) _
      · refine s_iload hG dL_acts_532 rfl ?_
        refine s_if_eq hG (tgt := 563) dL_acts_534 (by decide) ?_ ?_
        · refine s_lv hG [] rfl ?_
          exact hb563  _ _ (by omega) (by omega) _
        · refine s_aload_n hG dL_acts_537 rfl ?_
          refine s_aload hG dL_acts_538 rfl ?_
          refine s_aload hG dL_acts_540 rfl ?_
          refine s_csKI hG (as := [vR 0, vR 38, vR 40]) (st := []) (rm := rm_L_differs) (KK := 0) (NN := 0) dL_acts_542 ml_RL_127 (tb12 (mem_i 10 rfl)) rfl ⟨rfl, rfl⟩ ⟨Nat.le_of_ble_eq_true rfl, Nat.le_of_ble_eq_true rfl⟩ (Nat.le_of_ble_eq_true rfl) ⟨by omega, by omega⟩ rfl (fun o h => c_L_differs l hl9  _ o h) (fun o542 => ?_)
          refine s_if_ne hG (tgt := 563) dL_acts_545 (by decide) ?_ ?_
          · refine s_lv hG [] rfl ?_
            exact hb563  _ _ (by omega) (by omega) _
          · refine s_aload_n hG dL_acts_548 rfl ?_
            refine s_cvP hG (as := []) (st := []) (rm := rm_X7_acts) dL_acts_549 ml_RL_93 (rfl) (tb12 (mem_i 18 rfl)) rfl ⟨rfl, rfl⟩ ⟨Nat.le_of_ble_eq_true rfl, Nat.le_of_ble_eq_true rfl⟩ (Nat.le_of_ble_eq_true rfl) ⟨by omega, by omega⟩ rfl (fun o h => c_X7_acts l  _ o h) (fun o549 => ?_)
            refine s_aload hG dL_acts_552 rfl ?_
            refine s_iconst hG (v := (0 : Int32)) dL_acts_554 (by decide) ?_
            refine s_iaload hG dL_acts_555 (rfl) ?_
            refine s_icmp_ne hG (tgt := 563) dL_acts_556 (by decide) ?_ ?_
            · refine s_lv hG [] rfl ?_
              exact hb563  _ _ (by omega) (by omega) _
            · refine s_iconst hG (v := (1 : Int32)) dL_acts_559 (by decide) ?_
              refine s_goto hG (tgt := 564) dL_acts_560 (by decide) ?_
              refine s_lv hG [] rfl ?_
              exact hb564  _ _ (by omega) (by omega) _ _
  have hb517 : ∀ (k n : Nat), k + (0 + 0) ≤ 1 → n + 6 * (0 + 0) ≤ 6 → ∀ (S : HS) (x11 : Int32) (t0 : Int32), f_L_acts_b517 p1 p2 p3 p4 S x11 t0 = some out → G k n S [(0, vR 0), (2, vI p2), (5, vR 36), (7, vR 38), (8, vR 39), (9, vR 40), (11, vI x11)] 517 [vI t0] := by
    intro  k n hk hn S x11 t0
    unfold f_L_acts_b517
    refine s_istore hG (lv' := [(12, vI t0), (0, vR 0), (2, vI p2), (5, vR 36), (7, vR 38), (8, vR 39), (9, vR 40), (11, vI x11)]) dL_acts_517 (by decide) rfl ?_
    refine s_lv hG [1, 2, 3, 4, 5, 6, 7, 0] rfl ?_
    exact hb519  _ _ (by omega) (by omega) _ _ _
  have hb516 : ∀ (k n : Nat), k + (0 + 0) ≤ 1 → n + 6 * (0 + 0) ≤ 6 → ∀ (S : HS) (x11 : Int32), f_L_acts_b516 p1 p2 p3 p4 S x11 = some out → G k n S [(0, vR 0), (2, vI p2), (5, vR 36), (7, vR 38), (8, vR 39), (9, vR 40), (11, vI x11)] 516 [] := by
    intro  k n hk hn S x11
    unfold f_L_acts_b516
    refine s_iconst hG (v := (0 : Int32)) dL_acts_516 (by decide) ?_
    exact hb517  _ _ (by omega) (by omega) _ _ _
  have hb472 : ∀ (k n : Nat), k + (0 + 0) ≤ 1 → n + 6 * (0 + 0) ≤ 6 → ∀ (S : HS) (x11 : Int32), f_L_acts_b472 p1 p2 p3 p4 S x11 = some out → G k n S [(0, vR 0), (2, vI p2), (5, vR 36), (7, vR 38), (8, vR 39), (9, vR 40), (11, vI x11)] 472 [] := by
    intro  k n hk hn S x11
    unfold f_L_acts_b472
    refine s_iconst hG (v := (1 : Int32)) dL_acts_472 (by decide) ?_
    refine s_goto hG (tgt := 517) dL_acts_473 (by decide) ?_
    exact hb517  _ _ (by omega) (by omega) _ _ _
  have hb444 : ∀ (m419 : Nat) (rec419 : HS × Int32 × Int32 × Int32 × Int32 × Int32 → Option (HS × Int32)) (hm419 : 0 + 0 ≤ m419) (hrec419 : ∀ (k n : Nat), k + m419 ≤ 1 → n + 6 * m419 ≤ 6 → ∀ (S : HS) (x11 : Int32) (x13 : Int32) (x14 : Int32) (x15 : Int32) (x16 : Int32), rec419 (S, x11, x13, x14, x15, x16) = some out → G k n S [(0, vR 0), (2, vI p2), (5, vR 36), (7, vR 38), (8, vR 39), (9, vR 40), (11, vI x11), (13, vI x13), (14, vI x14), (15, vI x15), (16, vI x16)] 419 []) (k n : Nat), k + (0 + m419) ≤ 1 → n + 6 * (0 + m419) ≤ 6 → ∀ (S : HS) (x11 : Int32) (x13 : Int32) (x14 : Int32) (x16 : Int32) (t0 : Int32) (t1 : Int32), f_L_acts_b444 p1 p2 p3 p4 rec419 S x11 x13 x14 x16 t0 t1 = some out → G k n S [(0, vR 0), (2, vI p2), (5, vR 36), (7, vR 38), (8, vR 39), (9, vR 40), (11, vI x11), (13, vI x13), (14, vI x14), (16, vI x16)] 444 [vI t1, vI t0] := by
    intro m419 rec419 hm419 hrec419 k n hk hn S x11 x13 x14 x16 t0 t1
    unfold f_L_acts_b444
    refine s_iadd hG dL_acts_444 ?_
    refine s_istore hG (lv' := [(15, vI (t0 + t1)), (0, vR 0), (2, vI p2), (5, vR 36), (7, vR 38), (8, vR 39), (9, vR 40), (11, vI x11), (13, vI x13), (14, vI x14), (16, vI x16)]) dL_acts_445 (by decide) rfl ?_
    refine s_iinc hG (v := (x16 + (1 : Int32))) (lv' := [(16, vI (x16 + (1 : Int32))), (15, vI (t0 + t1)), (0, vR 0), (2, vI p2), (5, vR 36), (7, vR 38), (8, vR 39), (9, vR 40), (11, vI x11), (13, vI x13), (14, vI x14)]) dL_acts_447 rfl rfl (by decide) rfl ?_
    refine s_goto hG (tgt := 419) dL_acts_450 (by decide) ?_
    refine s_lv hG [2, 3, 4, 5, 6, 7, 8, 9, 10, 1, 0] rfl ?_
    exact hrec419 _ _ (by omega) (by omega) _ _ _ _ _ _
  have hb419 : ∀ (k n : Nat), k + (0 * FU + 0 + 0) ≤ 1 → n + 6 * (0 * FU + 0 + 0) ≤ 6 → ∀ (S : HS) (x11 : Int32) (x13 : Int32) (x14 : Int32) (x15 : Int32) (x16 : Int32), f_L_acts_b419 p1 p2 p3 p4 S x11 x13 x14 x15 x16 = some out → G k n S [(0, vR 0), (2, vI p2), (5, vR 36), (7, vR 38), (8, vR 39), (9, vR 40), (11, vI x11), (13, vI x13), (14, vI x14), (15, vI x15), (16, vI x16)] 419 [] := by
    suffices H : ∀ (nf k n : Nat), k + (0 * nf + 0 + 0) ≤ 1 → n + 6 * (0 * nf + 0 + 0) ≤ 6 → ∀ (S : HS) (x11 : Int32) (x13 : Int32) (x14 : Int32) (x15 : Int32) (x16 : Int32), fx (F_L_acts_b419 p1 p2 p3 p4) nf (S, x11, x13, x14, x15, x16) = some out → G k n S [(0, vR 0), (2, vI p2), (5, vR 36), (7, vR 38), (8, vR 39), (9, vR 40), (11, vI x11), (13, vI x13), (14, vI x14), (15, vI x15), (16, vI x16)] 419 [] from fun k n hk hn S x11 x13 x14 x15 x16 => H FU k n hk hn S x11 x13 x14 x15 x16
    intro nf
    induction nf with
    | zero => intro k n _ _ S x11 x13 x14 x15 x16 h9; cases h9
    | succ nf hrec419 =>
      intro k n hk0 hn0 S x11 x13 x14 x15 x16
      show F_L_acts_b419 p1 p2 p3 p4 (fx (F_L_acts_b419 p1 p2 p3 p4) nf) (S, x11, x13, x14, x15, x16) = some out → _
      generalize fx (F_L_acts_b419 p1 p2 p3 p4) nf = rec419 at hrec419
      obtain ⟨m419, hq419⟩ : ∃ m, m = 0 * nf + 0 + 0 := ⟨_, rfl⟩
      rw [← hq419] at hrec419
      have hm419 : 0 + 0 ≤ m419 := by omega
      have hk : k + (0 + m419) ≤ 1 := by omega
      have hn : n + 6 * (0 + m419) ≤ 6 := by omega
      clear hk0 hn0 hq419
      unfold F_L_acts_b419
      dsimp only
      refine s_iload hG dL_acts_419 rfl ?_
      refine s_aload hG dL_acts_421 rfl ?_
      refine s_iconst hG (v := (2 : Int32)) dL_acts_423 (by decide) ?_
      refine s_iaload hG dL_acts_424 (rfl) ?_
      refine s_icmp_ge hG (tgt := 453) dL_acts_425 (by decide) ?_ ?_
      · refine s_iload hG dL_acts_453 rfl ?_
        refine s_if_ge hG (tgt := 480) dL_acts_455 (by decide) ?_ ?_
        · refine s_iload hG dL_acts_480 rfl ?_
          refine s_if_eq hG (tgt := 516) dL_acts_482 (by decide) ?_ ?_
          · refine s_lv hG [0, 1, 2, 3, 4, 5, 6] rfl ?_
            exact hb516  _ _ (by omega) (by omega) _ _
          · refine s_iload hG dL_acts_485 rfl ?_
            refine s_iload hG dL_acts_487 rfl ?_
            refine s_icmp_ne hG (tgt := 516) dL_acts_489 (by decide) ?_ ?_
            · refine s_lv hG [0, 1, 2, 3, 4, 5, 6] rfl ?_
              exact hb516  _ _ (by omega) (by omega) _ _
            · refine s_aload_n hG dL_acts_492 rfl ?_
              refine s_iload hG dL_acts_493 rfl ?_
              refine s_dI hG (as := [vI x13]) (st := []) (rm := rm_X7_isInForce) (rmT := rmT_X7_isInForce) (by decide) dL_acts_495 ml_RL_80 (rfl) (tb12 (mem_i 14 rfl)) rfl ⟨rfl, rfl⟩ ⟨Nat.le_of_ble_eq_true rfl, Nat.le_of_ble_eq_true rfl⟩ (Nat.le_of_ble_eq_true rfl) ⟨by omega, by omega⟩ rfl (fun o h => c_X7_isInForce l hl9 _ _ o h) (fun o495 => ?_)
              refine s_if_ne hG (tgt := 516) dL_acts_498 (by decide) ?_ ?_
              · refine s_lv hG [0, 1, 2, 3, 4, 5, 6] rfl ?_
                exact hb516  _ _ (by omega) (by omega) _ _
              · refine s_aload_n hG dL_acts_501 rfl ?_
                refine s_aload hG dL_acts_502 rfl ?_
                refine s_aload hG dL_acts_504 rfl ?_
                refine s_csKI hG (as := [vR 0, vR 38, vR 40]) (st := []) (rm := rm_L_differs) (KK := 0) (NN := 0) dL_acts_506 ml_RL_127 (tb12 (mem_i 10 rfl)) rfl ⟨rfl, rfl⟩ ⟨Nat.le_of_ble_eq_true rfl, Nat.le_of_ble_eq_true rfl⟩ (Nat.le_of_ble_eq_true rfl) ⟨by omega, by omega⟩ rfl (fun o h => c_L_differs l hl9  _ o h) (fun o506 => ?_)
                refine s_if_ne hG (tgt := 516) dL_acts_509 (by decide) ?_ ?_
                · refine s_lv hG [0, 1, 2, 3, 4, 5, 6] rfl ?_
                  exact hb516  _ _ (by omega) (by omega) _ _
                · refine s_iconst hG (v := (1 : Int32)) dL_acts_512 (by decide) ?_
                  refine s_goto hG (tgt := 517) dL_acts_513 (by decide) ?_
                  refine s_lv hG [0, 1, 2, 3, 4, 5, 6] rfl ?_
                  exact hb517  _ _ (by omega) (by omega) _ _ _
        · refine s_iload hG dL_acts_458 rfl ?_
          refine s_if_eq hG (tgt := 472) dL_acts_460 (by decide) ?_ ?_
          · refine s_lv hG [0, 1, 2, 3, 4, 5, 6] rfl ?_
            exact hb472  _ _ (by omega) (by omega) _ _
          · refine s_aload hG dL_acts_463 rfl ?_
            refine s_iconst hG (v := (0 : Int32)) dL_acts_465 (by decide) ?_
            refine s_iaload hG dL_acts_466 (rfl) ?_
            refine s_bipush hG (v := (60 : Int32)) dL_acts_467 (by decide) ?_
            refine s_icmp_ne hG (tgt := 476) dL_acts_469 (by decide) ?_ ?_
            · refine s_iconst hG (v := (0 : Int32)) dL_acts_476 (by decide) ?_
              refine s_goto hG (tgt := 517) dL_acts_477 (by decide) ?_
              refine s_lv hG [0, 1, 2, 3, 4, 5, 6] rfl ?_
              exact hb517  _ _ (by omega) (by omega) _ _ _
            · refine s_lv hG [0, 1, 2, 3, 4, 5, 6] rfl ?_
              exact hb472  _ _ (by omega) (by omega) _ _
      · refine s_iload hG dL_acts_428 rfl ?_
        refine s_aload_n hG dL_acts_430 rfl ?_
        refine s_iload hG dL_acts_431 rfl ?_
        refine s_dI hG (as := [vI x16]) (st := [vI x15]) (rm := rm_X7_isInForce) (rmT := rmT_X7_isInForce) (by decide) dL_acts_433 ml_RL_80 (rfl) (tb12 (mem_i 14 rfl)) rfl ⟨rfl, rfl⟩ ⟨Nat.le_of_ble_eq_true rfl, Nat.le_of_ble_eq_true rfl⟩ (Nat.le_of_ble_eq_true rfl) ⟨by omega, by omega⟩ rfl (fun o h => c_X7_isInForce l hl9 _ _ o h) (fun o433 => ?_)
        refine s_if_eq hG (tgt := 443) dL_acts_436 (by decide) ?_ ?_
        · refine s_iconst hG (v := (0 : Int32)) dL_acts_443 (by decide) ?_
          refine s_lv hG [0, 1, 2, 3, 4, 5, 6, 7, 8, 10] rfl ?_
          exact hb444 _ _ hm419 hrec419 _ _ (by omega) (by omega) _ _ _ _ _ _ _
        · refine s_iconst hG (v := (1 : Int32)) dL_acts_439 (by decide) ?_
          refine s_goto hG (tgt := 444) dL_acts_440 (by decide) ?_
          refine s_lv hG [0, 1, 2, 3, 4, 5, 6, 7, 8, 10] rfl ?_
          exact hb444 _ _ hm419 hrec419 _ _ (by omega) (by omega) _ _ _ _ _ _ _
  have hb371 : ∀ (k n : Nat), k + (0 + 0) ≤ 1 → n + 6 * (0 + 0) ≤ 6 → ∀ (S : HS) (x11 : Int32) (x12 : Int32), f_L_acts_b371 p1 p2 p3 p4 S x11 x12 = some out → G k n S [(0, vR 0), (2, vI p2), (5, vR 36), (7, vR 38), (8, vR 39), (9, vR 40), (11, vI x11), (12, vI x12)] 371 [] := by
    intro  k n hk hn S x11 x12
    unfold f_L_acts_b371
    refine s_goto hG (tgt := 519) dL_acts_371 (by decide) ?_
    exact hb519  _ _ (by omega) (by omega) _ _ _
  have hb323 : ∀ (k n : Nat), k + (0 + 0) ≤ 1 → n + 6 * (0 + 0) ≤ 6 → ∀ (S : HS) (x10 : Int32) (x11 : Int32) (x13 : Int32) (x14 : Int32) (t0 : Int32), f_L_acts_b323 p1 p2 p3 p4 S x10 x11 x13 x14 t0 = some out → G k n S [(0, vR 0), (2, vI p2), (5, vR 36), (6, vR 37), (7, vR 38), (8, vR 39), (9, vR 40), (10, vI x10), (11, vI x11), (13, vI x13), (14, vI x14)] 323 [vI t0] := by
    intro  k n hk hn S x10 x11 x13 x14 t0
    unfold f_L_acts_b323
    refine s_istore hG (lv' := [(12, vI t0), (0, vR 0), (2, vI p2), (5, vR 36), (6, vR 37), (7, vR 38), (8, vR 39), (9, vR 40), (10, vI x10), (11, vI x11), (13, vI x13), (14, vI x14)]) dL_acts_323 (by decide) rfl ?_
    refine s_iload hG dL_acts_325 rfl ?_
    refine s_if_lt hG (tgt := 371) dL_acts_327 (by decide) ?_ ?_
    · refine s_lv hG [1, 2, 3, 5, 6, 7, 9, 0] rfl ?_
      exact hb371  _ _ (by omega) (by omega) _ _ _
    · refine s_iload hG dL_acts_330 rfl ?_
      refine s_if_eq hG (tgt := 371) dL_acts_332 (by decide) ?_ ?_
      · refine s_lv hG [1, 2, 3, 5, 6, 7, 9, 0] rfl ?_
        exact hb371  _ _ (by omega) (by omega) _ _ _
      · refine s_aload hG dL_acts_335 rfl ?_
        refine s_aload hG dL_acts_337 rfl ?_
        refine s_iconst hG (v := (2 : Int32)) dL_acts_339 (by decide) ?_
        refine s_iaload hG dL_acts_340 (rfl) ?_
        refine s_iload hG dL_acts_341 rfl ?_
        refine s_iload hG dL_acts_343 rfl ?_
        refine s_iconst hG (v := (3 : Int32)) dL_acts_345 (by decide) ?_
        refine s_ishl hG dL_acts_346 ?_
        refine s_ior hG dL_acts_347 ?_
        refine s_iload hG dL_acts_348 rfl ?_
        refine s_bipush hG (v := (7 : Int32)) dL_acts_350 (by decide) ?_
        refine s_ishl hG dL_acts_352 ?_
        refine s_ior hG dL_acts_353 ?_
        refine s_aload hG dL_acts_354 rfl ?_
        refine s_iconst hG (v := (0 : Int32)) dL_acts_356 (by decide) ?_
        refine s_iaload hG dL_acts_357 (rfl) ?_
        refine s_bipush hG (v := (11 : Int32)) dL_acts_358 (by decide) ?_
        refine s_ishl hG dL_acts_360 ?_
        refine s_ior hG dL_acts_361 ?_
        refine s_iastore hG dL_acts_362 (rfl) ?_
        refine s_aload hG dL_acts_363 rfl ?_
        refine s_iconst hG (v := (2 : Int32)) dL_acts_365 (by decide) ?_
        refine s_dup2 hG dL_acts_366 rfl rfl ?_
        refine s_iaload hG dL_acts_367 (rfl) ?_
        refine s_iconst hG (v := (1 : Int32)) dL_acts_368 (by decide) ?_
        refine s_iadd hG dL_acts_369 ?_
        refine s_iastore hG dL_acts_370 (rfl) ?_
        refine s_lv hG [1, 2, 3, 5, 6, 7, 9, 0] rfl ?_
        exact hb371  _ _ (by omega) (by omega) _ _ _
  have hb318 : ∀ (k n : Nat), k + (0 + 0) ≤ 1 → n + 6 * (0 + 0) ≤ 6 → ∀ (S : HS) (x10 : Int32) (x11 : Int32) (x13 : Int32) (x14 : Int32), f_L_acts_b318 p1 p2 p3 p4 S x10 x11 x13 x14 = some out → G k n S [(0, vR 0), (2, vI p2), (5, vR 36), (6, vR 37), (7, vR 38), (8, vR 39), (9, vR 40), (10, vI x10), (11, vI x11), (13, vI x13), (14, vI x14)] 318 [] := by
    intro  k n hk hn S x10 x11 x13 x14
    unfold f_L_acts_b318
    refine s_iconst hG (v := (1 : Int32)) dL_acts_318 (by decide) ?_
    refine s_goto hG (tgt := 323) dL_acts_319 (by decide) ?_
    exact hb323  _ _ (by omega) (by omega) _ _ _ _ _ _
  have hb322 : ∀ (k n : Nat), k + (0 + 0) ≤ 1 → n + 6 * (0 + 0) ≤ 6 → ∀ (S : HS) (x10 : Int32) (x11 : Int32) (x13 : Int32) (x14 : Int32), f_L_acts_b322 p1 p2 p3 p4 S x10 x11 x13 x14 = some out → G k n S [(0, vR 0), (2, vI p2), (5, vR 36), (6, vR 37), (7, vR 38), (8, vR 39), (9, vR 40), (10, vI x10), (11, vI x11), (13, vI x13), (14, vI x14)] 322 [] := by
    intro  k n hk hn S x10 x11 x13 x14
    unfold f_L_acts_b322
    refine s_iconst hG (v := (0 : Int32)) dL_acts_322 (by decide) ?_
    exact hb323  _ _ (by omega) (by omega) _ _ _ _ _ _
  have hb243 : ∀ (k n : Nat), k + (0 + 0) ≤ 1 → n + 6 * (0 + 0) ≤ 6 → ∀ (S : HS) (x11 : Int32) (t0 : Int32), f_L_acts_b243 p1 p2 p3 p4 S x11 t0 = some out → G k n S [(0, vR 0), (2, vI p2), (5, vR 36), (7, vR 38), (8, vR 39), (9, vR 40), (11, vI x11)] 243 [vI t0] := by
    intro  k n hk hn S x11 t0
    unfold f_L_acts_b243
    refine s_istore hG (lv' := [(12, vI t0), (0, vR 0), (2, vI p2), (5, vR 36), (7, vR 38), (8, vR 39), (9, vR 40), (11, vI x11)]) dL_acts_243 (by decide) rfl ?_
    refine s_goto hG (tgt := 519) dL_acts_245 (by decide) ?_
    refine s_lv hG [1, 2, 3, 4, 5, 6, 7, 0] rfl ?_
    exact hb519  _ _ (by omega) (by omega) _ _ _
  have hb238 : ∀ (k n : Nat), k + (0 + 0) ≤ 1 → n + 6 * (0 + 0) ≤ 6 → ∀ (S : HS) (x11 : Int32), f_L_acts_b238 p1 p2 p3 p4 S x11 = some out → G k n S [(0, vR 0), (2, vI p2), (5, vR 36), (7, vR 38), (8, vR 39), (9, vR 40), (11, vI x11)] 238 [] := by
    intro  k n hk hn S x11
    unfold f_L_acts_b238
    refine s_iconst hG (v := (1 : Int32)) dL_acts_238 (by decide) ?_
    refine s_goto hG (tgt := 243) dL_acts_239 (by decide) ?_
    exact hb243  _ _ (by omega) (by omega) _ _ _
  have hb242 : ∀ (k n : Nat), k + (0 + 0) ≤ 1 → n + 6 * (0 + 0) ≤ 6 → ∀ (S : HS) (x11 : Int32), f_L_acts_b242 p1 p2 p3 p4 S x11 = some out → G k n S [(0, vR 0), (2, vI p2), (5, vR 36), (7, vR 38), (8, vR 39), (9, vR 40), (11, vI x11)] 242 [] := by
    intro  k n hk hn S x11
    unfold f_L_acts_b242
    refine s_iconst hG (v := (0 : Int32)) dL_acts_242 (by decide) ?_
    exact hb243  _ _ (by omega) (by omega) _ _ _
  have hb179 : ∀ (k n : Nat), k + (1 + 0) ≤ 1 → n + 6 * (1 + 0) ≤ 6 → ∀ (S : HS) (x10 : Int32) (x13 : Int32) (t0 : Int32), f_L_acts_b179 p1 p2 p3 p4 S x10 x13 t0 = some out → G k n S [(0, vR 0), (2, vI p2), (5, vR 36), (7, vR 38), (8, vR 39), (9, vR 40), (10, vI x10), (13, vI x13)] 179 [vI t0] := by
    intro  k n hk hn S x10 x13 t0
    unfold f_L_acts_b179
    refine s_istore hG (lv' := [(14, vI t0), (0, vR 0), (2, vI p2), (5, vR 36), (7, vR 38), (8, vR 39), (9, vR 40), (10, vI x10), (13, vI x13)]) dL_acts_179 (by decide) rfl ?_
    refine s_aload_n hG dL_acts_181 rfl ?_
    refine s_iconst hG (v := (3 : Int32)) dL_acts_182 (by decide) ?_
    refine s_iload_n hG dL_acts_183 rfl ?_
    refine s_iload hG dL_acts_184 rfl ?_
    refine s_iload hG dL_acts_186 rfl ?_
    refine s_iload hG dL_acts_188 rfl ?_
    refine s_iconst hG (v := (0 : Int32)) dL_acts_190 (by decide) ?_
    refine s_aY hG (as := [vR 0, vI (3 : Int32), vI p2, vI x10, vI x13, vI t0, vI (0 : Int32)]) (st := []) (rm := rm_L_asks) (hh := hh_L_asks) dL_acts_191 ml_RL_68 (tb4 (mem_i 23 rfl)) (exin (mem_i 45 (by decide +kernel))) rfl ⟨rfl, rfl⟩ ⟨Nat.le_of_ble_eq_true rfl, Nat.le_of_ble_eq_true rfl⟩ (Nat.le_of_ble_eq_true rfl) ⟨by omega, by omega⟩ rfl (fun o mc h01 h => c_L_asks l hl9 _ _ _ _ _ _ _ o mc h01 h) (fun o191 => ?_)
    refine s_istore hG (lv' := [(11, vI o191.2.2), (14, vI t0), (0, vR 0), (2, vI p2), (5, vR 36), (7, vR 38), (8, vR 39), (9, vR 40), (10, vI x10), (13, vI x13)]) dL_acts_194 (by decide) rfl ?_
    refine s_iload hG dL_acts_196 rfl ?_
    refine s_if_lt hG (tgt := 238) dL_acts_198 (by decide) ?_ ?_
    · refine s_lv hG [2, 3, 4, 5, 6, 7, 0] rfl ?_
      exact hb238  _ _ (by omega) (by omega) _ _
    · refine s_iload hG dL_acts_201 rfl ?_
      refine s_aload_n hG dL_acts_203 rfl ?_
      refine s_aload hG dL_acts_204 rfl ?_
      refine s_aload hG dL_acts_206 rfl ?_
      refine s_csKI hG (as := [vR 0, vR 38, vR 40]) (st := [vI o191.2.2]) (rm := rm_L_differs) (KK := 0) (NN := 0) dL_acts_208 ml_RL_127 (tb12 (mem_i 10 rfl)) rfl ⟨rfl, rfl⟩ ⟨Nat.le_of_ble_eq_true rfl, Nat.le_of_ble_eq_true rfl⟩ (Nat.le_of_ble_eq_true rfl) ⟨by omega, by omega⟩ rfl (fun o h => c_L_differs l hl9  _ o h) (fun o208 => ?_)
      refine s_icmp_ne hG (tgt := 242) dL_acts_211 (by decide) ?_ ?_
      · refine s_lv hG [2, 3, 4, 5, 6, 7, 0] rfl ?_
        exact hb242  _ _ (by omega) (by omega) _ _
      · refine s_aload_n hG dL_acts_214 rfl ?_
        refine s_iload hG dL_acts_215 rfl ?_
        refine s_iconst hG (v := (2 : Int32)) dL_acts_217 (by decide) ?_
        refine s_dI hG (as := [vI x10, vI (2 : Int32)]) (st := []) (rm := rm_X7_number) (rmT := rmT_X7_number) (by decide) dL_acts_218 ml_RL_44 (rfl) (tb10 (mem_i 19 rfl)) rfl ⟨rfl, rfl⟩ ⟨Nat.le_of_ble_eq_true rfl, Nat.le_of_ble_eq_true rfl⟩ (Nat.le_of_ble_eq_true rfl) ⟨by omega, by omega⟩ rfl (fun o h => c_X7_number l hl9 _ _ _ o h) (fun o218 => ?_)
        refine s_iload hG dL_acts_221 rfl ?_
        refine s_icmp_ne hG (tgt := 242) dL_acts_223 (by decide) ?_ ?_
        · refine s_lv hG [2, 3, 4, 5, 6, 7, 0] rfl ?_
          exact hb242  _ _ (by omega) (by omega) _ _
        · refine s_aload_n hG dL_acts_226 rfl ?_
          refine s_iload hG dL_acts_227 rfl ?_
          refine s_iconst hG (v := (3 : Int32)) dL_acts_229 (by decide) ?_
          refine s_dI hG (as := [vI x10, vI (3 : Int32)]) (st := []) (rm := rm_X7_number) (rmT := rmT_X7_number) (by decide) dL_acts_230 ml_RL_44 (rfl) (tb10 (mem_i 19 rfl)) rfl ⟨rfl, rfl⟩ ⟨Nat.le_of_ble_eq_true rfl, Nat.le_of_ble_eq_true rfl⟩ (Nat.le_of_ble_eq_true rfl) ⟨by omega, by omega⟩ rfl (fun o h => c_X7_number l hl9 _ _ _ o h) (fun o230 => ?_)
          refine s_iload hG dL_acts_233 rfl ?_
          refine s_icmp_ne hG (tgt := 242) dL_acts_235 (by decide) ?_ ?_
          · refine s_lv hG [2, 3, 4, 5, 6, 7, 0] rfl ?_
            exact hb242  _ _ (by omega) (by omega) _ _
          · refine s_lv hG [2, 3, 4, 5, 6, 7, 0] rfl ?_
            exact hb238  _ _ (by omega) (by omega) _ _
  have hb138 : ∀ (k n : Nat), k + (0 + 0) ≤ 1 → n + 6 * (0 + 0) ≤ 6 → ∀ (S : HS) (x11 : Int32) (t0 : Int32), f_L_acts_b138 p1 p2 p3 p4 S x11 t0 = some out → G k n S [(0, vR 0), (2, vI p2), (5, vR 36), (7, vR 38), (8, vR 39), (9, vR 40), (11, vI x11)] 138 [vI t0] := by
    intro  k n hk hn S x11 t0
    unfold f_L_acts_b138
    refine s_istore hG (lv' := [(12, vI t0), (0, vR 0), (2, vI p2), (5, vR 36), (7, vR 38), (8, vR 39), (9, vR 40), (11, vI x11)]) dL_acts_138 (by decide) rfl ?_
    refine s_goto hG (tgt := 519) dL_acts_140 (by decide) ?_
    refine s_lv hG [1, 2, 3, 4, 5, 6, 7, 0] rfl ?_
    exact hb519  _ _ (by omega) (by omega) _ _ _
  have hb133 : ∀ (k n : Nat), k + (0 + 0) ≤ 1 → n + 6 * (0 + 0) ≤ 6 → ∀ (S : HS) (x11 : Int32), f_L_acts_b133 p1 p2 p3 p4 S x11 = some out → G k n S [(0, vR 0), (2, vI p2), (5, vR 36), (7, vR 38), (8, vR 39), (9, vR 40), (11, vI x11)] 133 [] := by
    intro  k n hk hn S x11
    unfold f_L_acts_b133
    refine s_iconst hG (v := (1 : Int32)) dL_acts_133 (by decide) ?_
    refine s_goto hG (tgt := 138) dL_acts_134 (by decide) ?_
    exact hb138  _ _ (by omega) (by omega) _ _ _
  have hb137 : ∀ (k n : Nat), k + (0 + 0) ≤ 1 → n + 6 * (0 + 0) ≤ 6 → ∀ (S : HS) (x11 : Int32), f_L_acts_b137 p1 p2 p3 p4 S x11 = some out → G k n S [(0, vR 0), (2, vI p2), (5, vR 36), (7, vR 38), (8, vR 39), (9, vR 40), (11, vI x11)] 137 [] := by
    intro  k n hk hn S x11
    unfold f_L_acts_b137
    refine s_iconst hG (v := (0 : Int32)) dL_acts_137 (by decide) ?_
    exact hb138  _ _ (by omega) (by omega) _ _ _
  have hb62 : ∀ (k n : Nat), k + (1 + 0) ≤ 1 → n + 6 * (1 + 0) ≤ 6 → ∀ (S : HS) (x10 : Int32) (t0 : Int32), f_L_acts_b62 p1 p2 p3 p4 S x10 t0 = some out → G k n S [(0, vR 0), (2, vI p2), (3, vI p3), (5, vR 36), (7, vR 38), (8, vR 39), (9, vR 40), (10, vI x10)] 62 [vI t0] := by
    intro  k n hk hn S x10 t0
    unfold f_L_acts_b62
    refine s_istore hG (lv' := [(13, vI t0), (0, vR 0), (2, vI p2), (3, vI p3), (5, vR 36), (7, vR 38), (8, vR 39), (9, vR 40), (10, vI x10)]) dL_acts_62 (by decide) rfl ?_
    refine s_iload_n hG dL_acts_64 rfl ?_
    refine s_bipush hG (v := (10 : Int32)) dL_acts_65 (by decide) ?_
    refine s_idiv hG dL_acts_67 ?_
    refine s_bipush hG (v := (81 : Int32)) dL_acts_68 (by decide) ?_
    refine s_irem hG dL_acts_70 ?_
    refine s_bipush hG (v := (40 : Int32)) dL_acts_71 (by decide) ?_
    refine s_isub hG dL_acts_73 ?_
    refine s_istore hG (lv' := [(14, vI (((p3 / (10 : Int32)) - (p3 / (10 : Int32)) / (81 : Int32) * (81 : Int32)) - (40 : Int32))), (13, vI t0), (0, vR 0), (2, vI p2), (3, vI p3), (5, vR 36), (7, vR 38), (8, vR 39), (9, vR 40), (10, vI x10)]) dL_acts_74 (by decide) rfl ?_
    refine s_aload_n hG dL_acts_76 rfl ?_
    refine s_iconst hG (v := (2 : Int32)) dL_acts_77 (by decide) ?_
    refine s_iload_n hG dL_acts_78 rfl ?_
    refine s_iload hG dL_acts_79 rfl ?_
    refine s_iload hG dL_acts_81 rfl ?_
    refine s_iload hG dL_acts_83 rfl ?_
    refine s_iconst hG (v := (0 : Int32)) dL_acts_85 (by decide) ?_
    refine s_aY hG (as := [vR 0, vI (2 : Int32), vI p2, vI x10, vI t0, vI (((p3 / (10 : Int32)) - (p3 / (10 : Int32)) / (81 : Int32) * (81 : Int32)) - (40 : Int32)), vI (0 : Int32)]) (st := []) (rm := rm_L_asks) (hh := hh_L_asks) dL_acts_86 ml_RL_68 (tb4 (mem_i 23 rfl)) (exin (mem_i 45 (by decide +kernel))) rfl ⟨rfl, rfl⟩ ⟨Nat.le_of_ble_eq_true rfl, Nat.le_of_ble_eq_true rfl⟩ (Nat.le_of_ble_eq_true rfl) ⟨by omega, by omega⟩ rfl (fun o mc h01 h => c_L_asks l hl9 _ _ _ _ _ _ _ o mc h01 h) (fun o86 => ?_)
    refine s_istore hG (lv' := [(11, vI o86.2.2), (14, vI (((p3 / (10 : Int32)) - (p3 / (10 : Int32)) / (81 : Int32) * (81 : Int32)) - (40 : Int32))), (13, vI t0), (0, vR 0), (2, vI p2), (3, vI p3), (5, vR 36), (7, vR 38), (8, vR 39), (9, vR 40), (10, vI x10)]) dL_acts_89 (by decide) rfl ?_
    refine s_iload hG dL_acts_91 rfl ?_
    refine s_if_lt hG (tgt := 133) dL_acts_93 (by decide) ?_ ?_
    · refine s_lv hG [3, 4, 6, 7, 8, 9, 0] rfl ?_
      exact hb133  _ _ (by omega) (by omega) _ _
    · refine s_iload hG dL_acts_96 rfl ?_
      refine s_aload_n hG dL_acts_98 rfl ?_
      refine s_aload hG dL_acts_99 rfl ?_
      refine s_aload hG dL_acts_101 rfl ?_
      refine s_csKI hG (as := [vR 0, vR 38, vR 40]) (st := [vI o86.2.2]) (rm := rm_L_differs) (KK := 0) (NN := 0) dL_acts_103 ml_RL_127 (tb12 (mem_i 10 rfl)) rfl ⟨rfl, rfl⟩ ⟨Nat.le_of_ble_eq_true rfl, Nat.le_of_ble_eq_true rfl⟩ (Nat.le_of_ble_eq_true rfl) ⟨by omega, by omega⟩ rfl (fun o h => c_L_differs l hl9  _ o h) (fun o103 => ?_)
      refine s_icmp_ne hG (tgt := 137) dL_acts_106 (by decide) ?_ ?_
      · refine s_lv hG [3, 4, 6, 7, 8, 9, 0] rfl ?_
        exact hb137  _ _ (by omega) (by omega) _ _
      · refine s_aload_n hG dL_acts_109 rfl ?_
        refine s_iload hG dL_acts_110 rfl ?_
        refine s_iconst hG (v := (0 : Int32)) dL_acts_112 (by decide) ?_
        refine s_dI hG (as := [vI x10, vI (0 : Int32)]) (st := []) (rm := rm_X7_number) (rmT := rmT_X7_number) (by decide) dL_acts_113 ml_RL_44 (rfl) (tb10 (mem_i 19 rfl)) rfl ⟨rfl, rfl⟩ ⟨Nat.le_of_ble_eq_true rfl, Nat.le_of_ble_eq_true rfl⟩ (Nat.le_of_ble_eq_true rfl) ⟨by omega, by omega⟩ rfl (fun o h => c_X7_number l hl9 _ _ _ o h) (fun o113 => ?_)
        refine s_iload hG dL_acts_116 rfl ?_
        refine s_icmp_ne hG (tgt := 137) dL_acts_118 (by decide) ?_ ?_
        · refine s_lv hG [3, 4, 6, 7, 8, 9, 0] rfl ?_
          exact hb137  _ _ (by omega) (by omega) _ _
        · refine s_aload_n hG dL_acts_121 rfl ?_
          refine s_iload hG dL_acts_122 rfl ?_
          refine s_iconst hG (v := (1 : Int32)) dL_acts_124 (by decide) ?_
          refine s_dI hG (as := [vI x10, vI (1 : Int32)]) (st := []) (rm := rm_X7_number) (rmT := rmT_X7_number) (by decide) dL_acts_125 ml_RL_44 (rfl) (tb10 (mem_i 19 rfl)) rfl ⟨rfl, rfl⟩ ⟨Nat.le_of_ble_eq_true rfl, Nat.le_of_ble_eq_true rfl⟩ (Nat.le_of_ble_eq_true rfl) ⟨by omega, by omega⟩ rfl (fun o h => c_X7_number l hl9 _ _ _ o h) (fun o125 => ?_)
          refine s_iload hG dL_acts_128 rfl ?_
          refine s_icmp_ne hG (tgt := 137) dL_acts_130 (by decide) ?_ ?_
          · refine s_lv hG [3, 4, 6, 7, 8, 9, 0] rfl ?_
            exact hb137  _ _ (by omega) (by omega) _ _
          · refine s_lv hG [3, 4, 6, 7, 8, 9, 0] rfl ?_
            exact hb133  _ _ (by omega) (by omega) _ _
  unfold f_L_acts
  refine s_aload hG dL_acts_0 rfl ?_
  refine s_iconst hG (v := (1 : Int32)) dL_acts_2 (by decide) ?_
  refine s_iaload hG dL_acts_3 (rfl) ?_
  refine s_if_ne hG (tgt := 9) dL_acts_4 (by decide) ?_ ?_
  · refine s_iload_n hG dL_acts_9 rfl ?_
    refine s_aload hG dL_acts_10 rfl ?_
    refine s_iconst hG (v := (1 : Int32)) dL_acts_12 (by decide) ?_
    refine s_iaload hG dL_acts_13 (rfl) ?_
    refine s_irem hG dL_acts_14 ?_
    refine s_istore hG (lv' := [(10, vI (p3 - p3 / (S.1 38 (1 : Int32).toNatClampNeg) * (S.1 38 (1 : Int32).toNatClampNeg))), (0, vR 0), (1, vI p1), (2, vI p2), (3, vI p3), (4, vI p4), (5, vR 36), (6, vR 37), (7, vR 38), (8, vR 39), (9, vR 40)]) dL_acts_15 (by decide) rfl ?_
    refine s_aload_n hG dL_acts_17 rfl ?_
    refine s_aload hG dL_acts_18 rfl ?_
    refine s_aload hG dL_acts_20 rfl ?_
    refine s_csKV hG (as := [vR 0, vR 38, vR 40]) (st := []) (rm := rm_L_notes) (KK := 0) (NN := 0) dL_acts_22 ml_RL_123 (tb12 (mem_i 7 rfl)) rfl ⟨rfl, rfl⟩ ⟨Nat.le_of_ble_eq_true rfl, Nat.le_of_ble_eq_true rfl⟩ (Nat.le_of_ble_eq_true rfl) ⟨by omega, by omega⟩ rfl (fun o h => c_L_notes l hl9  _ o h) (fun o22 => ?_)
    refine s_iload_n hG dL_acts_25 rfl ?_
    refine s_iconst hG (v := (2 : Int32)) dL_acts_26 (by decide) ?_
    refine s_icmp_ne hG (tgt := 143) dL_acts_27 (by decide) ?_ ?_
    · refine s_iload_n hG dL_acts_143 rfl ?_
      refine s_iconst hG (v := (3 : Int32)) dL_acts_144 (by decide) ?_
      refine s_icmp_ne hG (tgt := 248) dL_acts_145 (by decide) ?_ ?_
      · refine s_iload_n hG dL_acts_248 rfl ?_
        refine s_iconst hG (v := (4 : Int32)) dL_acts_249 (by decide) ?_
        refine s_icmp_ne hG (tgt := 374) dL_acts_250 (by decide) ?_ ?_
        · refine s_aload hG dL_acts_374 rfl ?_
          refine s_iconst hG (v := (2 : Int32)) dL_acts_376 (by decide) ?_
          refine s_iaload hG dL_acts_377 (rfl) ?_
          refine s_if_ne hG (tgt := 383) dL_acts_378 (by decide) ?_ ?_
          · refine s_iload hG dL_acts_383 rfl ?_
            refine s_aload hG dL_acts_385 rfl ?_
            refine s_iconst hG (v := (2 : Int32)) dL_acts_387 (by decide) ?_
            refine s_iaload hG dL_acts_388 (rfl) ?_
            refine s_irem hG dL_acts_389 ?_
            refine s_istore hG (lv' := [(13, vI (p4 - p4 / (o22.1 38 (2 : Int32).toNatClampNeg) * (o22.1 38 (2 : Int32).toNatClampNeg))), (10, vI (p3 - p3 / (S.1 38 (1 : Int32).toNatClampNeg) * (S.1 38 (1 : Int32).toNatClampNeg))), (0, vR 0), (1, vI p1), (2, vI p2), (3, vI p3), (4, vI p4), (5, vR 36), (6, vR 37), (7, vR 38), (8, vR 39), (9, vR 40)]) dL_acts_390 (by decide) rfl ?_
            refine s_aload_n hG dL_acts_392 rfl ?_
            refine s_iload hG dL_acts_393 rfl ?_
            refine s_dI hG (as := [vI (p4 - p4 / (o22.1 38 (2 : Int32).toNatClampNeg) * (o22.1 38 (2 : Int32).toNatClampNeg))]) (st := []) (rm := rm_X7_isInForce) (rmT := rmT_X7_isInForce) (by decide) dL_acts_395 ml_RL_80 (rfl) (tb12 (mem_i 14 rfl)) rfl ⟨rfl, rfl⟩ ⟨Nat.le_of_ble_eq_true rfl, Nat.le_of_ble_eq_true rfl⟩ (Nat.le_of_ble_eq_true rfl) ⟨by omega, by omega⟩ rfl (fun o h => c_X7_isInForce l hl9 _ _ o h) (fun o395 => ?_)
            refine s_istore hG (lv' := [(14, vI o395.2.2), (13, vI (p4 - p4 / (o22.1 38 (2 : Int32).toNatClampNeg) * (o22.1 38 (2 : Int32).toNatClampNeg))), (10, vI (p3 - p3 / (S.1 38 (1 : Int32).toNatClampNeg) * (S.1 38 (1 : Int32).toNatClampNeg))), (0, vR 0), (1, vI p1), (2, vI p2), (3, vI p3), (4, vI p4), (5, vR 36), (6, vR 37), (7, vR 38), (8, vR 39), (9, vR 40)]) dL_acts_398 (by decide) rfl ?_
            refine s_iconst hG (v := (0 : Int32)) dL_acts_400 (by decide) ?_
            refine s_istore hG (lv' := [(15, vI (0 : Int32)), (14, vI o395.2.2), (13, vI (p4 - p4 / (o22.1 38 (2 : Int32).toNatClampNeg) * (o22.1 38 (2 : Int32).toNatClampNeg))), (10, vI (p3 - p3 / (S.1 38 (1 : Int32).toNatClampNeg) * (S.1 38 (1 : Int32).toNatClampNeg))), (0, vR 0), (1, vI p1), (2, vI p2), (3, vI p3), (4, vI p4), (5, vR 36), (6, vR 37), (7, vR 38), (8, vR 39), (9, vR 40)]) dL_acts_401 (by decide) rfl ?_
            refine s_aload_n hG dL_acts_403 rfl ?_
            refine s_iconst hG (v := (5 : Int32)) dL_acts_404 (by decide) ?_
            refine s_iload_n hG dL_acts_405 rfl ?_
            refine s_iload hG dL_acts_406 rfl ?_
            refine s_iconst hG (v := (0 : Int32)) dL_acts_408 (by decide) ?_
            refine s_iconst hG (v := (0 : Int32)) dL_acts_409 (by decide) ?_
            refine s_iconst hG (v := (0 : Int32)) dL_acts_410 (by decide) ?_
            refine s_aY hG (as := [vR 0, vI (5 : Int32), vI p2, vI (p4 - p4 / (o22.1 38 (2 : Int32).toNatClampNeg) * (o22.1 38 (2 : Int32).toNatClampNeg)), vI (0 : Int32), vI (0 : Int32), vI (0 : Int32)]) (st := []) (rm := rm_L_asks) (hh := hh_L_asks) dL_acts_411 ml_RL_68 (tb4 (mem_i 23 rfl)) (exin (mem_i 45 (by decide +kernel))) rfl ⟨rfl, rfl⟩ ⟨Nat.le_of_ble_eq_true rfl, Nat.le_of_ble_eq_true rfl⟩ (Nat.le_of_ble_eq_true rfl) ⟨by omega, by omega⟩ rfl (fun o mc h01 h => c_L_asks l hl9 _ _ _ _ _ _ _ o mc h01 h) (fun o411 => ?_)
            refine s_istore hG (lv' := [(11, vI o411.2.2), (15, vI (0 : Int32)), (14, vI o395.2.2), (13, vI (p4 - p4 / (o22.1 38 (2 : Int32).toNatClampNeg) * (o22.1 38 (2 : Int32).toNatClampNeg))), (10, vI (p3 - p3 / (S.1 38 (1 : Int32).toNatClampNeg) * (S.1 38 (1 : Int32).toNatClampNeg))), (0, vR 0), (1, vI p1), (2, vI p2), (3, vI p3), (4, vI p4), (5, vR 36), (6, vR 37), (7, vR 38), (8, vR 39), (9, vR 40)]) dL_acts_414 (by decide) rfl ?_
            refine s_iconst hG (v := (0 : Int32)) dL_acts_416 (by decide) ?_
            refine s_istore hG (lv' := [(16, vI (0 : Int32)), (11, vI o411.2.2), (15, vI (0 : Int32)), (14, vI o395.2.2), (13, vI (p4 - p4 / (o22.1 38 (2 : Int32).toNatClampNeg) * (o22.1 38 (2 : Int32).toNatClampNeg))), (10, vI (p3 - p3 / (S.1 38 (1 : Int32).toNatClampNeg) * (S.1 38 (1 : Int32).toNatClampNeg))), (0, vR 0), (1, vI p1), (2, vI p2), (3, vI p3), (4, vI p4), (5, vR 36), (6, vR 37), (7, vR 38), (8, vR 39), (9, vR 40)]) dL_acts_417 (by decide) rfl ?_
            refine s_lv hG [6, 8, 11, 13, 14, 15, 1, 4, 3, 2, 0] rfl ?_
            exact hb419  _ _ (by omega) (by omega) _ _ _ _ _ _
          · refine s_iconst hG (v := (1 : Int32)) dL_acts_381 (by decide) ?_
            exact s_rKZ hR (by omega) (by omega) dL_acts_382
        · refine s_iload hG dL_acts_253 rfl ?_
          refine s_aload hG dL_acts_255 rfl ?_
          refine s_iconst hG (v := (1 : Int32)) dL_acts_257 (by decide) ?_
          refine s_iaload hG dL_acts_258 (rfl) ?_
          refine s_irem hG dL_acts_259 ?_
          refine s_istore hG (lv' := [(13, vI (p4 - p4 / (o22.1 38 (1 : Int32).toNatClampNeg) * (o22.1 38 (1 : Int32).toNatClampNeg))), (10, vI (p3 - p3 / (S.1 38 (1 : Int32).toNatClampNeg) * (S.1 38 (1 : Int32).toNatClampNeg))), (0, vR 0), (1, vI p1), (2, vI p2), (3, vI p3), (4, vI p4), (5, vR 36), (6, vR 37), (7, vR 38), (8, vR 39), (9, vR 40)]) dL_acts_260 (by decide) rfl ?_
          refine s_iload_n hG dL_acts_262 rfl ?_
          refine s_bipush hG (v := (10 : Int32)) dL_acts_263 (by decide) ?_
          refine s_idiv hG dL_acts_265 ?_
          refine s_bipush hG (v := (7 : Int32)) dL_acts_266 (by decide) ?_
          refine s_irem hG dL_acts_268 ?_
          refine s_istore hG (lv' := [(14, vI ((p3 / (10 : Int32)) - (p3 / (10 : Int32)) / (7 : Int32) * (7 : Int32))), (13, vI (p4 - p4 / (o22.1 38 (1 : Int32).toNatClampNeg) * (o22.1 38 (1 : Int32).toNatClampNeg))), (10, vI (p3 - p3 / (S.1 38 (1 : Int32).toNatClampNeg) * (S.1 38 (1 : Int32).toNatClampNeg))), (0, vR 0), (1, vI p1), (2, vI p2), (3, vI p3), (4, vI p4), (5, vR 36), (6, vR 37), (7, vR 38), (8, vR 39), (9, vR 40)]) dL_acts_269 (by decide) rfl ?_
          refine s_iload hG dL_acts_271 rfl ?_
          refine s_iload hG dL_acts_273 rfl ?_
          refine s_icmp_ne hG (tgt := 280) dL_acts_275 (by decide) ?_ ?_
          · refine s_aload_n hG dL_acts_280 rfl ?_
            refine s_iconst hG (v := (4 : Int32)) dL_acts_281 (by decide) ?_
            refine s_iload_n hG dL_acts_282 rfl ?_
            refine s_iload hG dL_acts_283 rfl ?_
            refine s_iload hG dL_acts_285 rfl ?_
            refine s_iload hG dL_acts_287 rfl ?_
            refine s_iconst hG (v := (0 : Int32)) dL_acts_289 (by decide) ?_
            refine s_aY hG (as := [vR 0, vI (4 : Int32), vI p2, vI ((p3 / (10 : Int32)) - (p3 / (10 : Int32)) / (7 : Int32) * (7 : Int32)), vI (p3 - p3 / (S.1 38 (1 : Int32).toNatClampNeg) * (S.1 38 (1 : Int32).toNatClampNeg)), vI (p4 - p4 / (o22.1 38 (1 : Int32).toNatClampNeg) * (o22.1 38 (1 : Int32).toNatClampNeg)), vI (0 : Int32)]) (st := []) (rm := rm_L_asks) (hh := hh_L_asks) dL_acts_290 ml_RL_68 (tb4 (mem_i 23 rfl)) (exin (mem_i 45 (by decide +kernel))) rfl ⟨rfl, rfl⟩ ⟨Nat.le_of_ble_eq_true rfl, Nat.le_of_ble_eq_true rfl⟩ (Nat.le_of_ble_eq_true rfl) ⟨by omega, by omega⟩ rfl (fun o mc h01 h => c_L_asks l hl9 _ _ _ _ _ _ _ o mc h01 h) (fun o290 => ?_)
            refine s_istore hG (lv' := [(11, vI o290.2.2), (14, vI ((p3 / (10 : Int32)) - (p3 / (10 : Int32)) / (7 : Int32) * (7 : Int32))), (13, vI (p4 - p4 / (o22.1 38 (1 : Int32).toNatClampNeg) * (o22.1 38 (1 : Int32).toNatClampNeg))), (10, vI (p3 - p3 / (S.1 38 (1 : Int32).toNatClampNeg) * (S.1 38 (1 : Int32).toNatClampNeg))), (0, vR 0), (1, vI p1), (2, vI p2), (3, vI p3), (4, vI p4), (5, vR 36), (6, vR 37), (7, vR 38), (8, vR 39), (9, vR 40)]) dL_acts_293 (by decide) rfl ?_
            refine s_iload hG dL_acts_295 rfl ?_
            refine s_if_lt hG (tgt := 318) dL_acts_297 (by decide) ?_ ?_
            · refine s_lv hG [4, 6, 9, 10, 11, 12, 13, 3, 0, 2, 1] rfl ?_
              exact hb318  _ _ (by omega) (by omega) _ _ _ _ _
            · refine s_aload hG dL_acts_300 rfl ?_
              refine s_iconst hG (v := (2 : Int32)) dL_acts_302 (by decide) ?_
              refine s_iaload hG dL_acts_303 (rfl) ?_
              refine s_bipush hG (v := (12 : Int32)) dL_acts_304 (by decide) ?_
              refine s_icmp_ge hG (tgt := 322) dL_acts_306 (by decide) ?_ ?_
              · refine s_lv hG [4, 6, 9, 10, 11, 12, 13, 3, 0, 2, 1] rfl ?_
                exact hb322  _ _ (by omega) (by omega) _ _ _ _ _
              · refine s_iload hG dL_acts_309 rfl ?_
                refine s_aload hG dL_acts_311 rfl ?_
                refine s_iconst hG (v := (2 : Int32)) dL_acts_313 (by decide) ?_
                refine s_iaload hG dL_acts_314 (rfl) ?_
                refine s_icmp_ne hG (tgt := 322) dL_acts_315 (by decide) ?_ ?_
                · refine s_lv hG [4, 6, 9, 10, 11, 12, 13, 3, 0, 2, 1] rfl ?_
                  exact hb322  _ _ (by omega) (by omega) _ _ _ _ _
                · refine s_lv hG [4, 6, 9, 10, 11, 12, 13, 3, 0, 2, 1] rfl ?_
                  exact hb318  _ _ (by omega) (by omega) _ _ _ _ _
          · refine s_iconst hG (v := (1 : Int32)) dL_acts_278 (by decide) ?_
            exact s_rKZ hR (by omega) (by omega) dL_acts_279
      · refine s_iconst hG (v := (1 : Int32)) dL_acts_148 (by decide) ?_
        refine s_iload hG dL_acts_149 rfl ?_
        refine s_bipush hG (v := (14 : Int32)) dL_acts_151 (by decide) ?_
        refine s_irem hG dL_acts_153 ?_
        refine s_iadd hG dL_acts_154 ?_
        refine s_istore hG (lv' := [(13, vI ((1 : Int32) + (p4 - p4 / (14 : Int32) * (14 : Int32)))), (10, vI (p3 - p3 / (S.1 38 (1 : Int32).toNatClampNeg) * (S.1 38 (1 : Int32).toNatClampNeg))), (0, vR 0), (1, vI p1), (2, vI p2), (3, vI p3), (4, vI p4), (5, vR 36), (6, vR 37), (7, vR 38), (8, vR 39), (9, vR 40)]) dL_acts_155 (by decide) rfl ?_
        refine s_iload_n hG dL_acts_157 rfl ?_
        refine s_bipush hG (v := (10 : Int32)) dL_acts_158 (by decide) ?_
        refine s_idiv hG dL_acts_160 ?_
        refine s_iconst hG (v := (3 : Int32)) dL_acts_161 (by decide) ?_
        refine s_irem hG dL_acts_162 ?_
        refine s_if_ne hG (tgt := 170) dL_acts_163 (by decide) ?_ ?_
        · refine s_iconst hG (v := (1 : Int32)) dL_acts_170 (by decide) ?_
          refine s_iload_n hG dL_acts_171 rfl ?_
          refine s_bipush hG (v := (30 : Int32)) dL_acts_172 (by decide) ?_
          refine s_idiv hG dL_acts_174 ?_
          refine s_bipush hG (v := (14 : Int32)) dL_acts_175 (by decide) ?_
          refine s_irem hG dL_acts_177 ?_
          refine s_iadd hG dL_acts_178 ?_
          refine s_lv hG [2, 4, 7, 9, 10, 11, 1, 0] rfl ?_
          exact hb179  _ _ (by omega) (by omega) _ _ _ _
        · refine s_iconst hG (v := (2 : Int32)) dL_acts_166 (by decide) ?_
          refine s_goto hG (tgt := 179) dL_acts_167 (by decide) ?_
          refine s_lv hG [2, 4, 7, 9, 10, 11, 1, 0] rfl ?_
          exact hb179  _ _ (by omega) (by omega) _ _ _ _
    · refine s_iload hG dL_acts_30 rfl ?_
      refine s_iconst hG (v := (5 : Int32)) dL_acts_32 (by decide) ?_
      refine s_irem hG dL_acts_33 ?_
      refine s_if_ne hG (tgt := 52) dL_acts_34 (by decide) ?_ ?_
      · refine s_iload hG dL_acts_52 rfl ?_
        refine s_iconst hG (v := (5 : Int32)) dL_acts_54 (by decide) ?_
        refine s_idiv hG dL_acts_55 ?_
        refine s_bipush hG (v := (81 : Int32)) dL_acts_56 (by decide) ?_
        refine s_irem hG dL_acts_58 ?_
        refine s_bipush hG (v := (40 : Int32)) dL_acts_59 (by decide) ?_
        refine s_isub hG dL_acts_61 ?_
        refine s_lv hG [1, 3, 4, 6, 8, 9, 10, 0] rfl ?_
        exact hb62  _ _ (by omega) (by omega) _ _ _
      · refine s_iload hG dL_acts_37 rfl ?_
        refine s_iconst hG (v := (5 : Int32)) dL_acts_39 (by decide) ?_
        refine s_idiv hG dL_acts_40 ?_
        refine s_sipush hG (v := (1999 : Int32)) dL_acts_41 (by decide) ?_
        refine s_irem hG dL_acts_44 ?_
        refine s_sipush hG (v := (999 : Int32)) dL_acts_45 (by decide) ?_
        refine s_isub hG dL_acts_48 ?_
        refine s_goto hG (tgt := 62) dL_acts_49 (by decide) ?_
        refine s_lv hG [1, 3, 4, 6, 8, 9, 10, 0] rfl ?_
        exact hb62  _ _ (by omega) (by omega) _ _ _
  · refine s_iconst hG (v := (1 : Int32)) dL_acts_7 (by decide) ?_
    exact s_rKZ hR (by omega) (by omega) dL_acts_8
