/-! 18.asks: by program (wip/p31/gen.py) -/
theorem dL_asks_0 : decode cL_asks 0 = .ok (.iload_n 1, 1) := by decide +kernel
theorem dL_asks_1 : decode cL_asks 1 = .ok (.ifCond .ne 18, 3) := by decide +kernel
theorem dL_asks_4 : decode cL_asks 4 = .ok (.aload_n 0, 1) := by decide +kernel
theorem dL_asks_5 : decode cL_asks 5 = .ok (.iload_n 2, 1) := by decide +kernel
theorem dL_asks_6 : decode cL_asks 6 = .ok (.iload_n 3, 1) := by decide +kernel
theorem dL_asks_7 : decode cL_asks 7 = .ok (.iload 4, 2) := by decide +kernel
theorem dL_asks_9 : decode cL_asks 9 = .ok (.iload 5, 2) := by decide +kernel
theorem dL_asks_11 : decode cL_asks 11 = .ok (.iload 6, 2) := by decide +kernel
theorem dL_asks_13 : decode cL_asks 13 = .ok (.invokevirtual 10, 3) := by decide +kernel
theorem dL_asks_16 : decode cL_asks 16 = .ok (.goto 206, 3) := by decide +kernel
theorem dL_asks_19 : decode cL_asks 19 = .ok (.iload_n 1, 1) := by decide +kernel
theorem dL_asks_20 : decode cL_asks 20 = .ok (.iconst 1, 1) := by decide +kernel
theorem dL_asks_21 : decode cL_asks 21 = .ok (.if_icmp .ne 24, 3) := by decide +kernel
theorem dL_asks_24 : decode cL_asks 24 = .ok (.aload_n 0, 1) := by decide +kernel
theorem dL_asks_25 : decode cL_asks 25 = .ok (.iload_n 2, 1) := by decide +kernel
theorem dL_asks_26 : decode cL_asks 26 = .ok (.iload_n 3, 1) := by decide +kernel
theorem dL_asks_27 : decode cL_asks 27 = .ok (.iload 4, 2) := by decide +kernel
theorem dL_asks_29 : decode cL_asks 29 = .ok (.iload 5, 2) := by decide +kernel
theorem dL_asks_31 : decode cL_asks 31 = .ok (.ifCond .le 7, 3) := by decide +kernel
theorem dL_asks_34 : decode cL_asks 34 = .ok (.iconst 1, 1) := by decide +kernel
theorem dL_asks_35 : decode cL_asks 35 = .ok (.goto 4, 3) := by decide +kernel
theorem dL_asks_38 : decode cL_asks 38 = .ok (.iconst 0, 1) := by decide +kernel
theorem dL_asks_39 : decode cL_asks 39 = .ok (.invokevirtual 16, 3) := by decide +kernel
theorem dL_asks_42 : decode cL_asks 42 = .ok (.goto 180, 3) := by decide +kernel
theorem dL_asks_45 : decode cL_asks 45 = .ok (.iload_n 1, 1) := by decide +kernel
theorem dL_asks_46 : decode cL_asks 46 = .ok (.iconst 2, 1) := by decide +kernel
theorem dL_asks_47 : decode cL_asks 47 = .ok (.if_icmp .ne 16, 3) := by decide +kernel
theorem dL_asks_50 : decode cL_asks 50 = .ok (.aload_n 0, 1) := by decide +kernel
theorem dL_asks_51 : decode cL_asks 51 = .ok (.iload_n 2, 1) := by decide +kernel
theorem dL_asks_52 : decode cL_asks 52 = .ok (.iload_n 3, 1) := by decide +kernel
theorem dL_asks_53 : decode cL_asks 53 = .ok (.iload 4, 2) := by decide +kernel
theorem dL_asks_55 : decode cL_asks 55 = .ok (.iload 5, 2) := by decide +kernel
theorem dL_asks_57 : decode cL_asks 57 = .ok (.invokevirtual 20, 3) := by decide +kernel
theorem dL_asks_60 : decode cL_asks 60 = .ok (.goto 162, 3) := by decide +kernel
theorem dL_asks_63 : decode cL_asks 63 = .ok (.iload_n 1, 1) := by decide +kernel
theorem dL_asks_64 : decode cL_asks 64 = .ok (.iconst 3, 1) := by decide +kernel
theorem dL_asks_65 : decode cL_asks 65 = .ok (.if_icmp .ne 16, 3) := by decide +kernel
theorem dL_asks_68 : decode cL_asks 68 = .ok (.aload_n 0, 1) := by decide +kernel
theorem dL_asks_69 : decode cL_asks 69 = .ok (.iload_n 2, 1) := by decide +kernel
theorem dL_asks_70 : decode cL_asks 70 = .ok (.iload_n 3, 1) := by decide +kernel
theorem dL_asks_71 : decode cL_asks 71 = .ok (.iload 4, 2) := by decide +kernel
theorem dL_asks_73 : decode cL_asks 73 = .ok (.iload 5, 2) := by decide +kernel
theorem dL_asks_75 : decode cL_asks 75 = .ok (.invokevirtual 24, 3) := by decide +kernel
theorem dL_asks_78 : decode cL_asks 78 = .ok (.goto 144, 3) := by decide +kernel
theorem dL_asks_81 : decode cL_asks 81 = .ok (.iload_n 1, 1) := by decide +kernel
theorem dL_asks_82 : decode cL_asks 82 = .ok (.iconst 4, 1) := by decide +kernel
theorem dL_asks_83 : decode cL_asks 83 = .ok (.if_icmp .ne 16, 3) := by decide +kernel
theorem dL_asks_86 : decode cL_asks 86 = .ok (.aload_n 0, 1) := by decide +kernel
theorem dL_asks_87 : decode cL_asks 87 = .ok (.iload_n 2, 1) := by decide +kernel
theorem dL_asks_88 : decode cL_asks 88 = .ok (.iload_n 3, 1) := by decide +kernel
theorem dL_asks_89 : decode cL_asks 89 = .ok (.iload 4, 2) := by decide +kernel
theorem dL_asks_91 : decode cL_asks 91 = .ok (.iload 5, 2) := by decide +kernel
theorem dL_asks_93 : decode cL_asks 93 = .ok (.invokevirtual 27, 3) := by decide +kernel
theorem dL_asks_96 : decode cL_asks 96 = .ok (.goto 126, 3) := by decide +kernel
theorem dL_asks_99 : decode cL_asks 99 = .ok (.iload_n 1, 1) := by decide +kernel
theorem dL_asks_100 : decode cL_asks 100 = .ok (.iconst 5, 1) := by decide +kernel
theorem dL_asks_101 : decode cL_asks 101 = .ok (.if_icmp .ne 12, 3) := by decide +kernel
theorem dL_asks_104 : decode cL_asks 104 = .ok (.aload_n 0, 1) := by decide +kernel
theorem dL_asks_105 : decode cL_asks 105 = .ok (.iload_n 2, 1) := by decide +kernel
theorem dL_asks_106 : decode cL_asks 106 = .ok (.iload_n 3, 1) := by decide +kernel
theorem dL_asks_107 : decode cL_asks 107 = .ok (.invokevirtual 30, 3) := by decide +kernel
theorem dL_asks_110 : decode cL_asks 110 = .ok (.goto 112, 3) := by decide +kernel
theorem dL_asks_113 : decode cL_asks 113 = .ok (.iload_n 1, 1) := by decide +kernel
theorem dL_asks_114 : decode cL_asks 114 = .ok (.bipush 6, 2) := by decide +kernel
theorem dL_asks_116 : decode cL_asks 116 = .ok (.if_icmp .ne 11, 3) := by decide +kernel
theorem dL_asks_119 : decode cL_asks 119 = .ok (.aload_n 0, 1) := by decide +kernel
theorem dL_asks_120 : decode cL_asks 120 = .ok (.iload_n 2, 1) := by decide +kernel
theorem dL_asks_121 : decode cL_asks 121 = .ok (.invokevirtual 34, 3) := by decide +kernel
theorem dL_asks_124 : decode cL_asks 124 = .ok (.goto 98, 3) := by decide +kernel
theorem dL_asks_127 : decode cL_asks 127 = .ok (.iload_n 1, 1) := by decide +kernel
theorem dL_asks_128 : decode cL_asks 128 = .ok (.bipush 7, 2) := by decide +kernel
theorem dL_asks_130 : decode cL_asks 130 = .ok (.if_icmp .ne 12, 3) := by decide +kernel
theorem dL_asks_133 : decode cL_asks 133 = .ok (.aload_n 0, 1) := by decide +kernel
theorem dL_asks_134 : decode cL_asks 134 = .ok (.iload_n 2, 1) := by decide +kernel
theorem dL_asks_135 : decode cL_asks 135 = .ok (.iload_n 3, 1) := by decide +kernel
theorem dL_asks_136 : decode cL_asks 136 = .ok (.invokevirtual 38, 3) := by decide +kernel
theorem dL_asks_139 : decode cL_asks 139 = .ok (.goto 83, 3) := by decide +kernel
theorem dL_asks_142 : decode cL_asks 142 = .ok (.iload_n 1, 1) := by decide +kernel
theorem dL_asks_143 : decode cL_asks 143 = .ok (.bipush 8, 2) := by decide +kernel
theorem dL_asks_145 : decode cL_asks 145 = .ok (.if_icmp .ne 11, 3) := by decide +kernel
theorem dL_asks_148 : decode cL_asks 148 = .ok (.aload_n 0, 1) := by decide +kernel
theorem dL_asks_149 : decode cL_asks 149 = .ok (.iload_n 2, 1) := by decide +kernel
theorem dL_asks_150 : decode cL_asks 150 = .ok (.invokevirtual 41, 3) := by decide +kernel
theorem dL_asks_153 : decode cL_asks 153 = .ok (.goto 69, 3) := by decide +kernel
theorem dL_asks_156 : decode cL_asks 156 = .ok (.iload_n 1, 1) := by decide +kernel
theorem dL_asks_157 : decode cL_asks 157 = .ok (.bipush 9, 2) := by decide +kernel
theorem dL_asks_159 : decode cL_asks 159 = .ok (.if_icmp .ne 12, 3) := by decide +kernel
theorem dL_asks_162 : decode cL_asks 162 = .ok (.aload_n 0, 1) := by decide +kernel
theorem dL_asks_163 : decode cL_asks 163 = .ok (.iload_n 2, 1) := by decide +kernel
theorem dL_asks_164 : decode cL_asks 164 = .ok (.iload_n 3, 1) := by decide +kernel
theorem dL_asks_165 : decode cL_asks 165 = .ok (.invokevirtual 44, 3) := by decide +kernel
theorem dL_asks_168 : decode cL_asks 168 = .ok (.goto 54, 3) := by decide +kernel
theorem dL_asks_171 : decode cL_asks 171 = .ok (.iload_n 1, 1) := by decide +kernel
theorem dL_asks_172 : decode cL_asks 172 = .ok (.bipush 10, 2) := by decide +kernel
theorem dL_asks_174 : decode cL_asks 174 = .ok (.if_icmp .ne 19, 3) := by decide +kernel
theorem dL_asks_177 : decode cL_asks 177 = .ok (.aload_n 0, 1) := by decide +kernel
theorem dL_asks_178 : decode cL_asks 178 = .ok (.iload_n 2, 1) := by decide +kernel
theorem dL_asks_179 : decode cL_asks 179 = .ok (.invokevirtual 47, 3) := by decide +kernel
theorem dL_asks_182 : decode cL_asks 182 = .ok (.ifCond .eq 7, 3) := by decide +kernel
theorem dL_asks_185 : decode cL_asks 185 = .ok (.iconst 1, 1) := by decide +kernel
theorem dL_asks_186 : decode cL_asks 186 = .ok (.goto 36, 3) := by decide +kernel
theorem dL_asks_189 : decode cL_asks 189 = .ok (.iconst 0, 1) := by decide +kernel
theorem dL_asks_190 : decode cL_asks 190 = .ok (.goto 32, 3) := by decide +kernel
theorem dL_asks_193 : decode cL_asks 193 = .ok (.iload_n 1, 1) := by decide +kernel
theorem dL_asks_194 : decode cL_asks 194 = .ok (.bipush 11, 2) := by decide +kernel
theorem dL_asks_196 : decode cL_asks 196 = .ok (.if_icmp .ne 20, 3) := by decide +kernel
theorem dL_asks_199 : decode cL_asks 199 = .ok (.aload_n 0, 1) := by decide +kernel
theorem dL_asks_200 : decode cL_asks 200 = .ok (.iload_n 2, 1) := by decide +kernel
theorem dL_asks_201 : decode cL_asks 201 = .ok (.iload_n 3, 1) := by decide +kernel
theorem dL_asks_202 : decode cL_asks 202 = .ok (.ifCond .le 7, 3) := by decide +kernel
theorem dL_asks_205 : decode cL_asks 205 = .ok (.iconst 1, 1) := by decide +kernel
theorem dL_asks_206 : decode cL_asks 206 = .ok (.goto 4, 3) := by decide +kernel
theorem dL_asks_209 : decode cL_asks 209 = .ok (.iconst 0, 1) := by decide +kernel
theorem dL_asks_210 : decode cL_asks 210 = .ok (.invokevirtual 51, 3) := by decide +kernel
theorem dL_asks_213 : decode cL_asks 213 = .ok (.goto 9, 3) := by decide +kernel
theorem dL_asks_216 : decode cL_asks 216 = .ok (.aload_n 0, 1) := by decide +kernel
theorem dL_asks_217 : decode cL_asks 217 = .ok (.iload_n 2, 1) := by decide +kernel
theorem dL_asks_218 : decode cL_asks 218 = .ok (.iload_n 3, 1) := by decide +kernel
theorem dL_asks_219 : decode cL_asks 219 = .ok (.invokevirtual 55, 3) := by decide +kernel
theorem dL_asks_222 : decode cL_asks 222 = .ok (.ireturn, 1) := by decide +kernel
theorem dL_asks_223 : decode cL_asks 223 = .ok (.astore 7, 2) := by decide +kernel
theorem dL_asks_225 : decode cL_asks 225 = .ok (.sipush (-5007), 3) := by decide +kernel
theorem dL_asks_228 : decode cL_asks 228 = .ok (.ireturn, 1) := by decide +kernel
theorem dL_asks_229 : decode cL_asks 229 = .ok (.astore 7, 2) := by decide +kernel
theorem dL_asks_231 : decode cL_asks 231 = .ok (.sipush (-5008), 3) := by decide +kernel
theorem dL_asks_234 : decode cL_asks 234 = .ok (.ireturn, 1) := by decide +kernel
theorem dL_asks_235 : decode cL_asks 235 = .ok (.astore 7, 2) := by decide +kernel
theorem dL_asks_237 : decode cL_asks 237 = .ok (.sipush (-5004), 3) := by decide +kernel
theorem dL_asks_240 : decode cL_asks 240 = .ok (.ireturn, 1) := by decide +kernel
theorem dL_part_0 : decode cL_part 0 = .ok (.iload_n 0, 1) := by decide +kernel
theorem dL_part_1 : decode cL_part 1 = .ok (.iload_n 1, 1) := by decide +kernel
theorem dL_part_2 : decode cL_part 2 = .ok (.ishr, 1) := by decide +kernel
theorem dL_part_3 : decode cL_part 3 = .ok (.iconst 1, 1) := by decide +kernel
theorem dL_part_4 : decode cL_part 4 = .ok (.iload_n 2, 1) := by decide +kernel
theorem dL_part_5 : decode cL_part 5 = .ok (.ishl, 1) := by decide +kernel
theorem dL_part_6 : decode cL_part 6 = .ok (.iconst 1, 1) := by decide +kernel
theorem dL_part_7 : decode cL_part 7 = .ok (.isub, 1) := by decide +kernel
theorem dL_part_8 : decode cL_part 8 = .ok (.iand, 1) := by decide +kernel
theorem dL_part_9 : decode cL_part 9 = .ok (.ireturn, 1) := by decide +kernel
theorem dL_isOn_0 : decode cL_isOn 0 = .ok (.aload_n 1, 1) := by decide +kernel
theorem dL_isOn_1 : decode cL_isOn 1 = .ok (.aload_n 0, 1) := by decide +kernel
theorem dL_isOn_2 : decode cL_isOn 2 = .ok (.iload_n 2, 1) := by decide +kernel
theorem dL_isOn_3 : decode cL_isOn 3 = .ok (.iaload, 1) := by decide +kernel
theorem dL_isOn_4 : decode cL_isOn 4 = .ok (.iconst 0, 1) := by decide +kernel
theorem dL_isOn_5 : decode cL_isOn 5 = .ok (.iconst 2, 1) := by decide +kernel
theorem dL_isOn_6 : decode cL_isOn 6 = .ok (.invokestatic 77, 3) := by decide +kernel
theorem dL_isOn_9 : decode cL_isOn 9 = .ok (.iaload, 1) := by decide +kernel
theorem dL_isOn_10 : decode cL_isOn 10 = .ok (.istore_n 3, 1) := by decide +kernel
theorem dL_isOn_11 : decode cL_isOn 11 = .ok (.iload_n 3, 1) := by decide +kernel
theorem dL_isOn_12 : decode cL_isOn 12 = .ok (.ifCond .le 25, 3) := by decide +kernel
theorem dL_isOn_15 : decode cL_isOn 15 = .ok (.iload_n 3, 1) := by decide +kernel
theorem dL_isOn_16 : decode cL_isOn 16 = .ok (.iload_n 2, 1) := by decide +kernel
theorem dL_isOn_17 : decode cL_isOn 17 = .ok (.iconst 1, 1) := by decide +kernel
theorem dL_isOn_18 : decode cL_isOn 18 = .ok (.iadd, 1) := by decide +kernel
theorem dL_isOn_19 : decode cL_isOn 19 = .ok (.if_icmp .eq 18, 3) := by decide +kernel
theorem dL_isOn_22 : decode cL_isOn 22 = .ok (.aload_n 0, 1) := by decide +kernel
theorem dL_isOn_23 : decode cL_isOn 23 = .ok (.iload_n 3, 1) := by decide +kernel
theorem dL_isOn_24 : decode cL_isOn 24 = .ok (.iconst 1, 1) := by decide +kernel
theorem dL_isOn_25 : decode cL_isOn 25 = .ok (.isub, 1) := by decide +kernel
theorem dL_isOn_26 : decode cL_isOn 26 = .ok (.iaload, 1) := by decide +kernel
theorem dL_isOn_27 : decode cL_isOn 27 = .ok (.iconst 2, 1) := by decide +kernel
theorem dL_isOn_28 : decode cL_isOn 28 = .ok (.bipush 6, 2) := by decide +kernel
theorem dL_isOn_30 : decode cL_isOn 30 = .ok (.invokestatic 77, 3) := by decide +kernel
theorem dL_isOn_33 : decode cL_isOn 33 = .ok (.istore_n 3, 1) := by decide +kernel
theorem dL_isOn_34 : decode cL_isOn 34 = .ok (.goto (-23), 3) := by decide +kernel
theorem dL_isOn_37 : decode cL_isOn 37 = .ok (.iload_n 3, 1) := by decide +kernel
theorem dL_isOn_38 : decode cL_isOn 38 = .ok (.iload_n 2, 1) := by decide +kernel
theorem dL_isOn_39 : decode cL_isOn 39 = .ok (.iconst 1, 1) := by decide +kernel
theorem dL_isOn_40 : decode cL_isOn 40 = .ok (.iadd, 1) := by decide +kernel
theorem dL_isOn_41 : decode cL_isOn 41 = .ok (.if_icmp .ne 7, 3) := by decide +kernel
theorem dL_isOn_44 : decode cL_isOn 44 = .ok (.iconst 1, 1) := by decide +kernel
theorem dL_isOn_45 : decode cL_isOn 45 = .ok (.goto 4, 3) := by decide +kernel
theorem dL_isOn_48 : decode cL_isOn 48 = .ok (.iconst 0, 1) := by decide +kernel
theorem dL_isOn_49 : decode cL_isOn 49 = .ok (.ireturn, 1) := by decide +kernel
theorem dL_draw_0 : decode cL_draw 0 = .ok (.iload_n 1, 1) := by decide +kernel
theorem dL_draw_1 : decode cL_draw 1 = .ok (.aload_n 0, 1) := by decide +kernel
theorem dL_draw_2 : decode cL_draw 2 = .ok (.arraylength, 1) := by decide +kernel
theorem dL_draw_3 : decode cL_draw 3 = .ok (.if_icmp .ge 9, 3) := by decide +kernel
theorem dL_draw_6 : decode cL_draw 6 = .ok (.aload_n 0, 1) := by decide +kernel
theorem dL_draw_7 : decode cL_draw 7 = .ok (.iload_n 1, 1) := by decide +kernel
theorem dL_draw_8 : decode cL_draw 8 = .ok (.iaload, 1) := by decide +kernel
theorem dL_draw_9 : decode cL_draw 9 = .ok (.goto 14, 3) := by decide +kernel
theorem dL_draw_12 : decode cL_draw 12 = .ok (.ldc 7, 2) := by decide +kernel
theorem dL_draw_14 : decode cL_draw 14 = .ok (.iload_n 1, 1) := by decide +kernel
theorem dL_draw_15 : decode cL_draw 15 = .ok (.sipush 569, 3) := by decide +kernel
theorem dL_draw_18 : decode cL_draw 18 = .ok (.iadd, 1) := by decide +kernel
theorem dL_draw_19 : decode cL_draw 19 = .ok (.imul, 1) := by decide +kernel
theorem dL_draw_20 : decode cL_draw 20 = .ok (.ldc 8, 2) := by decide +kernel
theorem dL_draw_22 : decode cL_draw 22 = .ok (.iadd, 1) := by decide +kernel
theorem dL_draw_23 : decode cL_draw 23 = .ok (.istore_n 3, 1) := by decide +kernel
theorem dL_draw_24 : decode cL_draw 24 = .ok (.iload_n 3, 1) := by decide +kernel
theorem dL_draw_25 : decode cL_draw 25 = .ok (.ldc 9, 2) := by decide +kernel
theorem dL_draw_27 : decode cL_draw 27 = .ok (.iand, 1) := by decide +kernel
theorem dL_draw_28 : decode cL_draw 28 = .ok (.iload_n 2, 1) := by decide +kernel
theorem dL_draw_29 : decode cL_draw 29 = .ok (.irem, 1) := by decide +kernel
theorem dL_draw_30 : decode cL_draw 30 = .ok (.ireturn, 1) := by decide +kernel
theorem dL_makes_0 : decode cL_makes 0 = .ok (.aload_n 0, 1) := by decide +kernel
theorem dL_makes_1 : decode cL_makes 1 = .ok (.aload_n 1, 1) := by decide +kernel
theorem dL_makes_2 : decode cL_makes 2 = .ok (.iconst 0, 1) := by decide +kernel
theorem dL_makes_3 : decode cL_makes 3 = .ok (.iaload, 1) := by decide +kernel
theorem dL_makes_4 : decode cL_makes 4 = .ok (.iload_n 3, 1) := by decide +kernel
theorem dL_makes_5 : decode cL_makes 5 = .ok (.aload_n 2, 1) := by decide +kernel
theorem dL_makes_6 : decode cL_makes 6 = .ok (.iload_n 3, 1) := by decide +kernel
theorem dL_makes_7 : decode cL_makes 7 = .ok (.iaload, 1) := by decide +kernel
theorem dL_makes_8 : decode cL_makes 8 = .ok (.iconst 2, 1) := by decide +kernel
theorem dL_makes_9 : decode cL_makes 9 = .ok (.ishl, 1) := by decide +kernel
theorem dL_makes_10 : decode cL_makes 10 = .ok (.ior, 1) := by decide +kernel
theorem dL_makes_11 : decode cL_makes 11 = .ok (.iload 4, 2) := by decide +kernel
theorem dL_makes_13 : decode cL_makes 13 = .ok (.bipush 8, 2) := by decide +kernel
theorem dL_makes_15 : decode cL_makes 15 = .ok (.ishl, 1) := by decide +kernel
theorem dL_makes_16 : decode cL_makes 16 = .ok (.ior, 1) := by decide +kernel
theorem dL_makes_17 : decode cL_makes 17 = .ok (.iastore, 1) := by decide +kernel
theorem dL_makes_18 : decode cL_makes 18 = .ok (.aload_n 1, 1) := by decide +kernel
theorem dL_makes_19 : decode cL_makes 19 = .ok (.iconst 0, 1) := by decide +kernel
theorem dL_makes_20 : decode cL_makes 20 = .ok (.dup2, 1) := by decide +kernel
theorem dL_makes_21 : decode cL_makes 21 = .ok (.iaload, 1) := by decide +kernel
theorem dL_makes_22 : decode cL_makes 22 = .ok (.iconst 1, 1) := by decide +kernel
theorem dL_makes_23 : decode cL_makes 23 = .ok (.iadd, 1) := by decide +kernel
theorem dL_makes_24 : decode cL_makes 24 = .ok (.iastore, 1) := by decide +kernel
theorem dL_makes_25 : decode cL_makes 25 = .ok (.aload_n 2, 1) := by decide +kernel
theorem dL_makes_26 : decode cL_makes 26 = .ok (.iload_n 3, 1) := by decide +kernel
theorem dL_makes_27 : decode cL_makes 27 = .ok (.aload_n 1, 1) := by decide +kernel
theorem dL_makes_28 : decode cL_makes 28 = .ok (.iconst 0, 1) := by decide +kernel
theorem dL_makes_29 : decode cL_makes 29 = .ok (.iaload, 1) := by decide +kernel
theorem dL_makes_30 : decode cL_makes 30 = .ok (.iastore, 1) := by decide +kernel
theorem dL_makes_31 : decode cL_makes 31 = .ok (.return_, 1) := by decide +kernel
def hh_L_asks : List (Nat × Nat × Nat × Nat) := [(0, 222, 223, 59), (0, 222, 229, 61), (0, 222, 235, 63)]
theorem ml_RL_51 : MV RL 51 7 yX7_part 2 := ⟨⟨by decide +kernel, by decide +kernel, by decide +kernel⟩, tb11 (mem_i 4 rfl), tb0 (mem_i 1 rfl), Or.inl (tb11 (mem_i 3 rfl)), RX7, TX7, 9, rfl, rfl, tb11 (mem_i 5 rfl)⟩
theorem ctb_L_asks_210_1 : CTb RL (tableOf hh_L_asks) 210 1 223 := ⟨[], ⟨0, 222, 223, 59⟩, [⟨0, 222, 229, 61⟩, ⟨0, 222, 235, 63⟩], "java/lang/IndexOutOfBoundsException", rfl, (fun z hz => by
    cases hz), rfl, by decide, exin (mem_i 46 (by decide +kernel)), nf2 (mem_i 22 (by decide +kernel)), rfl⟩
theorem ctb_L_asks_210_3 : CTb RL (tableOf hh_L_asks) 210 3 229 := ⟨[⟨0, 222, 223, 59⟩], ⟨0, 222, 229, 61⟩, [⟨0, 222, 235, 63⟩], "java/lang/IllegalStateException", rfl, (fun z hz => by
    rcases List.mem_cons.mp hz with rfl | hz
    · exact Or.inr ⟨by decide, "java/lang/IndexOutOfBoundsException", exin (mem_i 46 (by decide +kernel)), mem_i 5 (by decide +kernel)⟩
    cases hz), rfl, by decide, exin (mem_i 47 (by decide +kernel)), nf3 (mem_i 0 (by decide +kernel)), rfl⟩
theorem ctb_L_asks_210_4 : CTb RL (tableOf hh_L_asks) 210 4 235 := ⟨[⟨0, 222, 223, 59⟩, ⟨0, 222, 229, 61⟩], ⟨0, 222, 235, 63⟩, [], "java/util/NoSuchElementException", rfl, (fun z hz => by
    rcases List.mem_cons.mp hz with rfl | hz
    · exact Or.inr ⟨by decide, "java/lang/IndexOutOfBoundsException", exin (mem_i 46 (by decide +kernel)), mem_i 7 (by decide +kernel)⟩
    rcases List.mem_cons.mp hz with rfl | hz
    · exact Or.inr ⟨by decide, "java/lang/IllegalStateException", exin (mem_i 47 (by decide +kernel)), mem_i 8 (by decide +kernel)⟩
    cases hz), rfl, by decide, exin (mem_i 48 (by decide +kernel)), nf3 (mem_i 1 (by decide +kernel)), rfl⟩
theorem ml_RL_16 : MV RL 16 7 yX7_addLabel 4 := ⟨⟨by decide +kernel, by decide +kernel, by decide +kernel⟩, tb8 (mem_i 2 rfl), tb0 (mem_i 1 rfl), Or.inl (tb8 (mem_i 1 rfl)), RX7, TX7, 9, rfl, rfl, tb8 (mem_i 3 rfl)⟩
theorem ctb_L_asks_39_1 : CTb RL (tableOf hh_L_asks) 39 1 223 := ⟨[], ⟨0, 222, 223, 59⟩, [⟨0, 222, 229, 61⟩, ⟨0, 222, 235, 63⟩], "java/lang/IndexOutOfBoundsException", rfl, (fun z hz => by
    cases hz), rfl, by decide, exin (mem_i 46 (by decide +kernel)), nf2 (mem_i 22 (by decide +kernel)), rfl⟩
theorem ctb_L_asks_39_3 : CTb RL (tableOf hh_L_asks) 39 3 229 := ⟨[⟨0, 222, 223, 59⟩], ⟨0, 222, 229, 61⟩, [⟨0, 222, 235, 63⟩], "java/lang/IllegalStateException", rfl, (fun z hz => by
    rcases List.mem_cons.mp hz with rfl | hz
    · exact Or.inr ⟨by decide, "java/lang/IndexOutOfBoundsException", exin (mem_i 46 (by decide +kernel)), mem_i 5 (by decide +kernel)⟩
    cases hz), rfl, by decide, exin (mem_i 47 (by decide +kernel)), nf3 (mem_i 0 (by decide +kernel)), rfl⟩
theorem ctb_L_asks_39_4 : CTb RL (tableOf hh_L_asks) 39 4 235 := ⟨[⟨0, 222, 223, 59⟩, ⟨0, 222, 229, 61⟩], ⟨0, 222, 235, 63⟩, [], "java/util/NoSuchElementException", rfl, (fun z hz => by
    rcases List.mem_cons.mp hz with rfl | hz
    · exact Or.inr ⟨by decide, "java/lang/IndexOutOfBoundsException", exin (mem_i 46 (by decide +kernel)), mem_i 7 (by decide +kernel)⟩
    rcases List.mem_cons.mp hz with rfl | hz
    · exact Or.inr ⟨by decide, "java/lang/IllegalStateException", exin (mem_i 47 (by decide +kernel)), mem_i 8 (by decide +kernel)⟩
    cases hz), rfl, by decide, exin (mem_i 48 (by decide +kernel)), nf3 (mem_i 1 (by decide +kernel)), rfl⟩
theorem ml_RL_55 : MV RL 55 7 yX7_charAt 2 := ⟨⟨by decide +kernel, by decide +kernel, by decide +kernel⟩, tb11 (mem_i 8 rfl), tb0 (mem_i 1 rfl), Or.inl (tb11 (mem_i 7 rfl)), RX7, TX7, 9, rfl, rfl, tb11 (mem_i 9 rfl)⟩
theorem ctb_L_asks_219_1 : CTb RL (tableOf hh_L_asks) 219 1 223 := ⟨[], ⟨0, 222, 223, 59⟩, [⟨0, 222, 229, 61⟩, ⟨0, 222, 235, 63⟩], "java/lang/IndexOutOfBoundsException", rfl, (fun z hz => by
    cases hz), rfl, by decide, exin (mem_i 46 (by decide +kernel)), nf2 (mem_i 22 (by decide +kernel)), rfl⟩
theorem ctb_L_asks_219_3 : CTb RL (tableOf hh_L_asks) 219 3 229 := ⟨[⟨0, 222, 223, 59⟩], ⟨0, 222, 229, 61⟩, [⟨0, 222, 235, 63⟩], "java/lang/IllegalStateException", rfl, (fun z hz => by
    rcases List.mem_cons.mp hz with rfl | hz
    · exact Or.inr ⟨by decide, "java/lang/IndexOutOfBoundsException", exin (mem_i 46 (by decide +kernel)), mem_i 5 (by decide +kernel)⟩
    cases hz), rfl, by decide, exin (mem_i 47 (by decide +kernel)), nf3 (mem_i 0 (by decide +kernel)), rfl⟩
theorem ctb_L_asks_219_4 : CTb RL (tableOf hh_L_asks) 219 4 235 := ⟨[⟨0, 222, 223, 59⟩, ⟨0, 222, 229, 61⟩], ⟨0, 222, 235, 63⟩, [], "java/util/NoSuchElementException", rfl, (fun z hz => by
    rcases List.mem_cons.mp hz with rfl | hz
    · exact Or.inr ⟨by decide, "java/lang/IndexOutOfBoundsException", exin (mem_i 46 (by decide +kernel)), mem_i 7 (by decide +kernel)⟩
    rcases List.mem_cons.mp hz with rfl | hz
    · exact Or.inr ⟨by decide, "java/lang/IllegalStateException", exin (mem_i 47 (by decide +kernel)), mem_i 8 (by decide +kernel)⟩
    cases hz), rfl, by decide, exin (mem_i 48 (by decide +kernel)), nf3 (mem_i 1 (by decide +kernel)), rfl⟩
theorem ml_RL_47 : MV RL 47 7 yX7_holds 1 := ⟨⟨by decide +kernel, by decide +kernel, by decide +kernel⟩, tb10 (mem_i 28 rfl), tb0 (mem_i 1 rfl), Or.inl (tb10 (mem_i 27 rfl)), RX7, TX7, 9, rfl, rfl, tb10 (mem_i 29 rfl)⟩
theorem ctb_L_asks_179_1 : CTb RL (tableOf hh_L_asks) 179 1 223 := ⟨[], ⟨0, 222, 223, 59⟩, [⟨0, 222, 229, 61⟩, ⟨0, 222, 235, 63⟩], "java/lang/IndexOutOfBoundsException", rfl, (fun z hz => by
    cases hz), rfl, by decide, exin (mem_i 46 (by decide +kernel)), nf2 (mem_i 22 (by decide +kernel)), rfl⟩
theorem ctb_L_asks_179_3 : CTb RL (tableOf hh_L_asks) 179 3 229 := ⟨[⟨0, 222, 223, 59⟩], ⟨0, 222, 229, 61⟩, [⟨0, 222, 235, 63⟩], "java/lang/IllegalStateException", rfl, (fun z hz => by
    rcases List.mem_cons.mp hz with rfl | hz
    · exact Or.inr ⟨by decide, "java/lang/IndexOutOfBoundsException", exin (mem_i 46 (by decide +kernel)), mem_i 5 (by decide +kernel)⟩
    cases hz), rfl, by decide, exin (mem_i 47 (by decide +kernel)), nf3 (mem_i 0 (by decide +kernel)), rfl⟩
theorem ctb_L_asks_179_4 : CTb RL (tableOf hh_L_asks) 179 4 235 := ⟨[⟨0, 222, 223, 59⟩, ⟨0, 222, 229, 61⟩], ⟨0, 222, 235, 63⟩, [], "java/util/NoSuchElementException", rfl, (fun z hz => by
    rcases List.mem_cons.mp hz with rfl | hz
    · exact Or.inr ⟨by decide, "java/lang/IndexOutOfBoundsException", exin (mem_i 46 (by decide +kernel)), mem_i 7 (by decide +kernel)⟩
    rcases List.mem_cons.mp hz with rfl | hz
    · exact Or.inr ⟨by decide, "java/lang/IllegalStateException", exin (mem_i 47 (by decide +kernel)), mem_i 8 (by decide +kernel)⟩
    cases hz), rfl, by decide, exin (mem_i 48 (by decide +kernel)), nf3 (mem_i 1 (by decide +kernel)), rfl⟩
theorem ml_RL_44 : MV RL 44 7 yX7_number 2 := ⟨⟨by decide +kernel, by decide +kernel, by decide +kernel⟩, tb10 (mem_i 17 rfl), tb0 (mem_i 1 rfl), Or.inl (tb10 (mem_i 16 rfl)), RX7, TX7, 9, rfl, rfl, tb10 (mem_i 18 rfl)⟩
theorem ctb_L_asks_165_1 : CTb RL (tableOf hh_L_asks) 165 1 223 := ⟨[], ⟨0, 222, 223, 59⟩, [⟨0, 222, 229, 61⟩, ⟨0, 222, 235, 63⟩], "java/lang/IndexOutOfBoundsException", rfl, (fun z hz => by
    cases hz), rfl, by decide, exin (mem_i 46 (by decide +kernel)), nf2 (mem_i 22 (by decide +kernel)), rfl⟩
theorem ctb_L_asks_165_3 : CTb RL (tableOf hh_L_asks) 165 3 229 := ⟨[⟨0, 222, 223, 59⟩], ⟨0, 222, 229, 61⟩, [⟨0, 222, 235, 63⟩], "java/lang/IllegalStateException", rfl, (fun z hz => by
    rcases List.mem_cons.mp hz with rfl | hz
    · exact Or.inr ⟨by decide, "java/lang/IndexOutOfBoundsException", exin (mem_i 46 (by decide +kernel)), mem_i 5 (by decide +kernel)⟩
    cases hz), rfl, by decide, exin (mem_i 47 (by decide +kernel)), nf3 (mem_i 0 (by decide +kernel)), rfl⟩
theorem ctb_L_asks_165_4 : CTb RL (tableOf hh_L_asks) 165 4 235 := ⟨[⟨0, 222, 223, 59⟩, ⟨0, 222, 229, 61⟩], ⟨0, 222, 235, 63⟩, [], "java/util/NoSuchElementException", rfl, (fun z hz => by
    rcases List.mem_cons.mp hz with rfl | hz
    · exact Or.inr ⟨by decide, "java/lang/IndexOutOfBoundsException", exin (mem_i 46 (by decide +kernel)), mem_i 7 (by decide +kernel)⟩
    rcases List.mem_cons.mp hz with rfl | hz
    · exact Or.inr ⟨by decide, "java/lang/IllegalStateException", exin (mem_i 47 (by decide +kernel)), mem_i 8 (by decide +kernel)⟩
    cases hz), rfl, by decide, exin (mem_i 48 (by decide +kernel)), nf3 (mem_i 1 (by decide +kernel)), rfl⟩
theorem ml_RL_41 : MV RL 41 7 yX7_spell 1 := ⟨⟨by decide +kernel, by decide +kernel, by decide +kernel⟩, tb10 (mem_i 11 rfl), tb0 (mem_i 1 rfl), Or.inl (tb10 (mem_i 10 rfl)), RX7, TX7, 9, rfl, rfl, tb10 (mem_i 12 rfl)⟩
theorem ctb_L_asks_150_1 : CTb RL (tableOf hh_L_asks) 150 1 223 := ⟨[], ⟨0, 222, 223, 59⟩, [⟨0, 222, 229, 61⟩, ⟨0, 222, 235, 63⟩], "java/lang/IndexOutOfBoundsException", rfl, (fun z hz => by
    cases hz), rfl, by decide, exin (mem_i 46 (by decide +kernel)), nf2 (mem_i 22 (by decide +kernel)), rfl⟩
theorem ctb_L_asks_150_3 : CTb RL (tableOf hh_L_asks) 150 3 229 := ⟨[⟨0, 222, 223, 59⟩], ⟨0, 222, 229, 61⟩, [⟨0, 222, 235, 63⟩], "java/lang/IllegalStateException", rfl, (fun z hz => by
    rcases List.mem_cons.mp hz with rfl | hz
    · exact Or.inr ⟨by decide, "java/lang/IndexOutOfBoundsException", exin (mem_i 46 (by decide +kernel)), mem_i 5 (by decide +kernel)⟩
    cases hz), rfl, by decide, exin (mem_i 47 (by decide +kernel)), nf3 (mem_i 0 (by decide +kernel)), rfl⟩
theorem ctb_L_asks_150_4 : CTb RL (tableOf hh_L_asks) 150 4 235 := ⟨[⟨0, 222, 223, 59⟩, ⟨0, 222, 229, 61⟩], ⟨0, 222, 235, 63⟩, [], "java/util/NoSuchElementException", rfl, (fun z hz => by
    rcases List.mem_cons.mp hz with rfl | hz
    · exact Or.inr ⟨by decide, "java/lang/IndexOutOfBoundsException", exin (mem_i 46 (by decide +kernel)), mem_i 7 (by decide +kernel)⟩
    rcases List.mem_cons.mp hz with rfl | hz
    · exact Or.inr ⟨by decide, "java/lang/IllegalStateException", exin (mem_i 47 (by decide +kernel)), mem_i 8 (by decide +kernel)⟩
    cases hz), rfl, by decide, exin (mem_i 48 (by decide +kernel)), nf3 (mem_i 1 (by decide +kernel)), rfl⟩
theorem ml_RL_38 : MV RL 38 7 yX7_on 2 := ⟨⟨by decide +kernel, by decide +kernel, by decide +kernel⟩, tb10 (mem_i 2 rfl), tb0 (mem_i 1 rfl), Or.inl (tb10 (mem_i 1 rfl)), RX7, TX7, 9, rfl, rfl, tb10 (mem_i 3 rfl)⟩
theorem ctb_L_asks_136_1 : CTb RL (tableOf hh_L_asks) 136 1 223 := ⟨[], ⟨0, 222, 223, 59⟩, [⟨0, 222, 229, 61⟩, ⟨0, 222, 235, 63⟩], "java/lang/IndexOutOfBoundsException", rfl, (fun z hz => by
    cases hz), rfl, by decide, exin (mem_i 46 (by decide +kernel)), nf2 (mem_i 22 (by decide +kernel)), rfl⟩
theorem ctb_L_asks_136_3 : CTb RL (tableOf hh_L_asks) 136 3 229 := ⟨[⟨0, 222, 223, 59⟩], ⟨0, 222, 229, 61⟩, [⟨0, 222, 235, 63⟩], "java/lang/IllegalStateException", rfl, (fun z hz => by
    rcases List.mem_cons.mp hz with rfl | hz
    · exact Or.inr ⟨by decide, "java/lang/IndexOutOfBoundsException", exin (mem_i 46 (by decide +kernel)), mem_i 5 (by decide +kernel)⟩
    cases hz), rfl, by decide, exin (mem_i 47 (by decide +kernel)), nf3 (mem_i 0 (by decide +kernel)), rfl⟩
theorem ctb_L_asks_136_4 : CTb RL (tableOf hh_L_asks) 136 4 235 := ⟨[⟨0, 222, 223, 59⟩, ⟨0, 222, 229, 61⟩], ⟨0, 222, 235, 63⟩, [], "java/util/NoSuchElementException", rfl, (fun z hz => by
    rcases List.mem_cons.mp hz with rfl | hz
    · exact Or.inr ⟨by decide, "java/lang/IndexOutOfBoundsException", exin (mem_i 46 (by decide +kernel)), mem_i 7 (by decide +kernel)⟩
    rcases List.mem_cons.mp hz with rfl | hz
    · exact Or.inr ⟨by decide, "java/lang/IllegalStateException", exin (mem_i 47 (by decide +kernel)), mem_i 8 (by decide +kernel)⟩
    cases hz), rfl, by decide, exin (mem_i 48 (by decide +kernel)), nf3 (mem_i 1 (by decide +kernel)), rfl⟩
theorem ml_RL_34 : MV RL 34 7 yX7_back 1 := ⟨⟨by decide +kernel, by decide +kernel, by decide +kernel⟩, tb9 (mem_i 10 rfl), tb0 (mem_i 1 rfl), Or.inl (tb9 (mem_i 9 rfl)), RX7, TX7, 9, rfl, rfl, tb9 (mem_i 11 rfl)⟩
theorem ctb_L_asks_121_1 : CTb RL (tableOf hh_L_asks) 121 1 223 := ⟨[], ⟨0, 222, 223, 59⟩, [⟨0, 222, 229, 61⟩, ⟨0, 222, 235, 63⟩], "java/lang/IndexOutOfBoundsException", rfl, (fun z hz => by
    cases hz), rfl, by decide, exin (mem_i 46 (by decide +kernel)), nf2 (mem_i 22 (by decide +kernel)), rfl⟩
theorem ctb_L_asks_121_3 : CTb RL (tableOf hh_L_asks) 121 3 229 := ⟨[⟨0, 222, 223, 59⟩], ⟨0, 222, 229, 61⟩, [⟨0, 222, 235, 63⟩], "java/lang/IllegalStateException", rfl, (fun z hz => by
    rcases List.mem_cons.mp hz with rfl | hz
    · exact Or.inr ⟨by decide, "java/lang/IndexOutOfBoundsException", exin (mem_i 46 (by decide +kernel)), mem_i 5 (by decide +kernel)⟩
    cases hz), rfl, by decide, exin (mem_i 47 (by decide +kernel)), nf3 (mem_i 0 (by decide +kernel)), rfl⟩
theorem ctb_L_asks_121_4 : CTb RL (tableOf hh_L_asks) 121 4 235 := ⟨[⟨0, 222, 223, 59⟩, ⟨0, 222, 229, 61⟩], ⟨0, 222, 235, 63⟩, [], "java/util/NoSuchElementException", rfl, (fun z hz => by
    rcases List.mem_cons.mp hz with rfl | hz
    · exact Or.inr ⟨by decide, "java/lang/IndexOutOfBoundsException", exin (mem_i 46 (by decide +kernel)), mem_i 7 (by decide +kernel)⟩
    rcases List.mem_cons.mp hz with rfl | hz
    · exact Or.inr ⟨by decide, "java/lang/IllegalStateException", exin (mem_i 47 (by decide +kernel)), mem_i 8 (by decide +kernel)⟩
    cases hz), rfl, by decide, exin (mem_i 48 (by decide +kernel)), nf3 (mem_i 1 (by decide +kernel)), rfl⟩
theorem ml_RL_30 : MV RL 30 7 yX7_drop 2 := ⟨⟨by decide +kernel, by decide +kernel, by decide +kernel⟩, tb8 (mem_i 27 rfl), tb0 (mem_i 1 rfl), Or.inl (tb8 (mem_i 26 rfl)), RX7, TX7, 9, rfl, rfl, tb8 (mem_i 28 rfl)⟩
theorem ctb_L_asks_107_1 : CTb RL (tableOf hh_L_asks) 107 1 223 := ⟨[], ⟨0, 222, 223, 59⟩, [⟨0, 222, 229, 61⟩, ⟨0, 222, 235, 63⟩], "java/lang/IndexOutOfBoundsException", rfl, (fun z hz => by
    cases hz), rfl, by decide, exin (mem_i 46 (by decide +kernel)), nf2 (mem_i 22 (by decide +kernel)), rfl⟩
theorem ctb_L_asks_107_3 : CTb RL (tableOf hh_L_asks) 107 3 229 := ⟨[⟨0, 222, 223, 59⟩], ⟨0, 222, 229, 61⟩, [⟨0, 222, 235, 63⟩], "java/lang/IllegalStateException", rfl, (fun z hz => by
    rcases List.mem_cons.mp hz with rfl | hz
    · exact Or.inr ⟨by decide, "java/lang/IndexOutOfBoundsException", exin (mem_i 46 (by decide +kernel)), mem_i 5 (by decide +kernel)⟩
    cases hz), rfl, by decide, exin (mem_i 47 (by decide +kernel)), nf3 (mem_i 0 (by decide +kernel)), rfl⟩
theorem ctb_L_asks_107_4 : CTb RL (tableOf hh_L_asks) 107 4 235 := ⟨[⟨0, 222, 223, 59⟩, ⟨0, 222, 229, 61⟩], ⟨0, 222, 235, 63⟩, [], "java/util/NoSuchElementException", rfl, (fun z hz => by
    rcases List.mem_cons.mp hz with rfl | hz
    · exact Or.inr ⟨by decide, "java/lang/IndexOutOfBoundsException", exin (mem_i 46 (by decide +kernel)), mem_i 7 (by decide +kernel)⟩
    rcases List.mem_cons.mp hz with rfl | hz
    · exact Or.inr ⟨by decide, "java/lang/IllegalStateException", exin (mem_i 47 (by decide +kernel)), mem_i 8 (by decide +kernel)⟩
    cases hz), rfl, by decide, exin (mem_i 48 (by decide +kernel)), nf3 (mem_i 1 (by decide +kernel)), rfl⟩
theorem ml_RL_27 : MV RL 27 7 yX7_lay 4 := ⟨⟨by decide +kernel, by decide +kernel, by decide +kernel⟩, tb8 (mem_i 21 rfl), tb0 (mem_i 1 rfl), Or.inl (tb8 (mem_i 20 rfl)), RX7, TX7, 9, rfl, rfl, tb8 (mem_i 22 rfl)⟩
theorem ctb_L_asks_93_1 : CTb RL (tableOf hh_L_asks) 93 1 223 := ⟨[], ⟨0, 222, 223, 59⟩, [⟨0, 222, 229, 61⟩, ⟨0, 222, 235, 63⟩], "java/lang/IndexOutOfBoundsException", rfl, (fun z hz => by
    cases hz), rfl, by decide, exin (mem_i 46 (by decide +kernel)), nf2 (mem_i 22 (by decide +kernel)), rfl⟩
theorem ctb_L_asks_93_3 : CTb RL (tableOf hh_L_asks) 93 3 229 := ⟨[⟨0, 222, 223, 59⟩], ⟨0, 222, 229, 61⟩, [⟨0, 222, 235, 63⟩], "java/lang/IllegalStateException", rfl, (fun z hz => by
    rcases List.mem_cons.mp hz with rfl | hz
    · exact Or.inr ⟨by decide, "java/lang/IndexOutOfBoundsException", exin (mem_i 46 (by decide +kernel)), mem_i 5 (by decide +kernel)⟩
    cases hz), rfl, by decide, exin (mem_i 47 (by decide +kernel)), nf3 (mem_i 0 (by decide +kernel)), rfl⟩
theorem ctb_L_asks_93_4 : CTb RL (tableOf hh_L_asks) 93 4 235 := ⟨[⟨0, 222, 223, 59⟩, ⟨0, 222, 229, 61⟩], ⟨0, 222, 235, 63⟩, [], "java/util/NoSuchElementException", rfl, (fun z hz => by
    rcases List.mem_cons.mp hz with rfl | hz
    · exact Or.inr ⟨by decide, "java/lang/IndexOutOfBoundsException", exin (mem_i 46 (by decide +kernel)), mem_i 7 (by decide +kernel)⟩
    rcases List.mem_cons.mp hz with rfl | hz
    · exact Or.inr ⟨by decide, "java/lang/IllegalStateException", exin (mem_i 47 (by decide +kernel)), mem_i 8 (by decide +kernel)⟩
    cases hz), rfl, by decide, exin (mem_i 48 (by decide +kernel)), nf3 (mem_i 1 (by decide +kernel)), rfl⟩
theorem ml_RL_24 : MV RL 24 7 yX7_resize 4 := ⟨⟨by decide +kernel, by decide +kernel, by decide +kernel⟩, tb8 (mem_i 17 rfl), tb0 (mem_i 1 rfl), Or.inl (tb8 (mem_i 16 rfl)), RX7, TX7, 9, rfl, rfl, tb8 (mem_i 18 rfl)⟩
theorem ctb_L_asks_75_1 : CTb RL (tableOf hh_L_asks) 75 1 223 := ⟨[], ⟨0, 222, 223, 59⟩, [⟨0, 222, 229, 61⟩, ⟨0, 222, 235, 63⟩], "java/lang/IndexOutOfBoundsException", rfl, (fun z hz => by
    cases hz), rfl, by decide, exin (mem_i 46 (by decide +kernel)), nf2 (mem_i 22 (by decide +kernel)), rfl⟩
theorem ctb_L_asks_75_3 : CTb RL (tableOf hh_L_asks) 75 3 229 := ⟨[⟨0, 222, 223, 59⟩], ⟨0, 222, 229, 61⟩, [⟨0, 222, 235, 63⟩], "java/lang/IllegalStateException", rfl, (fun z hz => by
    rcases List.mem_cons.mp hz with rfl | hz
    · exact Or.inr ⟨by decide, "java/lang/IndexOutOfBoundsException", exin (mem_i 46 (by decide +kernel)), mem_i 5 (by decide +kernel)⟩
    cases hz), rfl, by decide, exin (mem_i 47 (by decide +kernel)), nf3 (mem_i 0 (by decide +kernel)), rfl⟩
theorem ctb_L_asks_75_4 : CTb RL (tableOf hh_L_asks) 75 4 235 := ⟨[⟨0, 222, 223, 59⟩, ⟨0, 222, 229, 61⟩], ⟨0, 222, 235, 63⟩, [], "java/util/NoSuchElementException", rfl, (fun z hz => by
    rcases List.mem_cons.mp hz with rfl | hz
    · exact Or.inr ⟨by decide, "java/lang/IndexOutOfBoundsException", exin (mem_i 46 (by decide +kernel)), mem_i 7 (by decide +kernel)⟩
    rcases List.mem_cons.mp hz with rfl | hz
    · exact Or.inr ⟨by decide, "java/lang/IllegalStateException", exin (mem_i 47 (by decide +kernel)), mem_i 8 (by decide +kernel)⟩
    cases hz), rfl, by decide, exin (mem_i 48 (by decide +kernel)), nf3 (mem_i 1 (by decide +kernel)), rfl⟩
theorem ml_RL_20 : MV RL 20 7 yX7_move 4 := ⟨⟨by decide +kernel, by decide +kernel, by decide +kernel⟩, tb8 (mem_i 6 rfl), tb0 (mem_i 1 rfl), Or.inl (tb8 (mem_i 5 rfl)), RX7, TX7, 9, rfl, rfl, tb8 (mem_i 7 rfl)⟩
theorem ctb_L_asks_57_1 : CTb RL (tableOf hh_L_asks) 57 1 223 := ⟨[], ⟨0, 222, 223, 59⟩, [⟨0, 222, 229, 61⟩, ⟨0, 222, 235, 63⟩], "java/lang/IndexOutOfBoundsException", rfl, (fun z hz => by
    cases hz), rfl, by decide, exin (mem_i 46 (by decide +kernel)), nf2 (mem_i 22 (by decide +kernel)), rfl⟩
theorem ctb_L_asks_57_3 : CTb RL (tableOf hh_L_asks) 57 3 229 := ⟨[⟨0, 222, 223, 59⟩], ⟨0, 222, 229, 61⟩, [⟨0, 222, 235, 63⟩], "java/lang/IllegalStateException", rfl, (fun z hz => by
    rcases List.mem_cons.mp hz with rfl | hz
    · exact Or.inr ⟨by decide, "java/lang/IndexOutOfBoundsException", exin (mem_i 46 (by decide +kernel)), mem_i 5 (by decide +kernel)⟩
    cases hz), rfl, by decide, exin (mem_i 47 (by decide +kernel)), nf3 (mem_i 0 (by decide +kernel)), rfl⟩
theorem ctb_L_asks_57_4 : CTb RL (tableOf hh_L_asks) 57 4 235 := ⟨[⟨0, 222, 223, 59⟩, ⟨0, 222, 229, 61⟩], ⟨0, 222, 235, 63⟩, [], "java/util/NoSuchElementException", rfl, (fun z hz => by
    rcases List.mem_cons.mp hz with rfl | hz
    · exact Or.inr ⟨by decide, "java/lang/IndexOutOfBoundsException", exin (mem_i 46 (by decide +kernel)), mem_i 7 (by decide +kernel)⟩
    rcases List.mem_cons.mp hz with rfl | hz
    · exact Or.inr ⟨by decide, "java/lang/IllegalStateException", exin (mem_i 47 (by decide +kernel)), mem_i 8 (by decide +kernel)⟩
    cases hz), rfl, by decide, exin (mem_i 48 (by decide +kernel)), nf3 (mem_i 1 (by decide +kernel)), rfl⟩
theorem ml_RL_10 : MV RL 10 7 yX7_addBox 5 := ⟨⟨by decide +kernel, by decide +kernel, by decide +kernel⟩, tb4 (mem_i 26 rfl), tb0 (mem_i 1 rfl), Or.inl (tb4 (mem_i 25 rfl)), RX7, TX7, 9, rfl, rfl, tb4 (mem_i 27 rfl)⟩
theorem ctb_L_asks_13_1 : CTb RL (tableOf hh_L_asks) 13 1 223 := ⟨[], ⟨0, 222, 223, 59⟩, [⟨0, 222, 229, 61⟩, ⟨0, 222, 235, 63⟩], "java/lang/IndexOutOfBoundsException", rfl, (fun z hz => by
    cases hz), rfl, by decide, exin (mem_i 46 (by decide +kernel)), nf2 (mem_i 22 (by decide +kernel)), rfl⟩
theorem ctb_L_asks_13_3 : CTb RL (tableOf hh_L_asks) 13 3 229 := ⟨[⟨0, 222, 223, 59⟩], ⟨0, 222, 229, 61⟩, [⟨0, 222, 235, 63⟩], "java/lang/IllegalStateException", rfl, (fun z hz => by
    rcases List.mem_cons.mp hz with rfl | hz
    · exact Or.inr ⟨by decide, "java/lang/IndexOutOfBoundsException", exin (mem_i 46 (by decide +kernel)), mem_i 5 (by decide +kernel)⟩
    cases hz), rfl, by decide, exin (mem_i 47 (by decide +kernel)), nf3 (mem_i 0 (by decide +kernel)), rfl⟩
theorem ctb_L_asks_13_4 : CTb RL (tableOf hh_L_asks) 13 4 235 := ⟨[⟨0, 222, 223, 59⟩, ⟨0, 222, 229, 61⟩], ⟨0, 222, 235, 63⟩, [], "java/util/NoSuchElementException", rfl, (fun z hz => by
    rcases List.mem_cons.mp hz with rfl | hz
    · exact Or.inr ⟨by decide, "java/lang/IndexOutOfBoundsException", exin (mem_i 46 (by decide +kernel)), mem_i 7 (by decide +kernel)⟩
    rcases List.mem_cons.mp hz with rfl | hz
    · exact Or.inr ⟨by decide, "java/lang/IllegalStateException", exin (mem_i 47 (by decide +kernel)), mem_i 8 (by decide +kernel)⟩
    cases hz), rfl, by decide, exin (mem_i 48 (by decide +kernel)), nf3 (mem_i 1 (by decide +kernel)), rfl⟩
theorem ml_RL_77 : MS RL 77 yL_part 3 := ⟨⟨by decide +kernel, by decide +kernel, by decide +kernel⟩, tb13 (mem_i 0 rfl), tb0 (mem_i 0 rfl), Or.inl (tb12 (mem_i 29 rfl))⟩
def f_L_asks_b222 (p1 : Int32) (p2 : Int32) (p3 : Int32) (p4 : Int32) (p5 : Int32) (p6 : Int32)  (S : HS) (t0 : Int32) : Option (XO) :=
some (S, ((0 : Nat), t0))
def f_L_asks_b210 (p1 : Int32) (p2 : Int32) (p3 : Int32) (p4 : Int32) (p5 : Int32) (p6 : Int32)  (S : HS) (t1 : Int32) (t2 : Int32) : Option (XO) :=
(f_X7_part t1 t2 S).bind (fun o210 => if o210.2.1 = 0 then
(fun (o210 : XO) =>
f_L_asks_b222 p1 p2 p3 p4 p5 p6  o210.1 o210.2.2) o210
else (fun (o210 : XO) => if o210.2.1 = 1 then some (o210.1, ((1 : Nat), (-5007 : Int32))) else if o210.2.1 = 3 then some (o210.1, ((3 : Nat), (-5008 : Int32))) else if o210.2.1 = 4 then some (o210.1, ((4 : Nat), (-5004 : Int32))) else none) o210)
def f_L_asks_b39 (p1 : Int32) (p2 : Int32) (p3 : Int32) (p4 : Int32) (p5 : Int32) (p6 : Int32)  (S : HS) (t1 : Int32) (t2 : Int32) (t3 : Int32) (t4 : Int32) : Option (XO) :=
(f_X7_addLabel t1 t2 t3 t4 S).bind (fun o39 => if o39.2.1 = 0 then
(fun (o39 : XO) =>
f_L_asks_b222 p1 p2 p3 p4 p5 p6  o39.1 o39.2.2) o39
else (fun (o39 : XO) => if o39.2.1 = 1 then some (o39.1, ((1 : Nat), (-5007 : Int32))) else if o39.2.1 = 3 then some (o39.1, ((3 : Nat), (-5008 : Int32))) else if o39.2.1 = 4 then some (o39.1, ((4 : Nat), (-5004 : Int32))) else none) o39)
def f_L_asks (p1 : Int32) (p2 : Int32) (p3 : Int32) (p4 : Int32) (p5 : Int32) (p6 : Int32) (S : HS) : Option (XO) :=
if p1 = 0 then
(f_X7_addBox p2 p3 p4 p5 p6 S).bind (fun o13 => if o13.2.1 = 0 then
(fun (o13 : XO) =>
f_L_asks_b222 p1 p2 p3 p4 p5 p6  o13.1 o13.2.2) o13
else (fun (o13 : XO) => if o13.2.1 = 1 then some (o13.1, ((1 : Nat), (-5007 : Int32))) else if o13.2.1 = 3 then some (o13.1, ((3 : Nat), (-5008 : Int32))) else if o13.2.1 = 4 then some (o13.1, ((4 : Nat), (-5004 : Int32))) else none) o13)
else
if p1 = (1 : Int32) then
if p5 ≤ 0 then
f_L_asks_b39 p1 p2 p3 p4 p5 p6  S p2 p3 p4 (0 : Int32)
else
f_L_asks_b39 p1 p2 p3 p4 p5 p6  S p2 p3 p4 (1 : Int32)
else
if p1 = (2 : Int32) then
(f_X7_move p2 p3 p4 p5 S).bind (fun o57 => if o57.2.1 = 0 then
(fun (o57 : XO) =>
f_L_asks_b222 p1 p2 p3 p4 p5 p6  o57.1 o57.2.2) o57
else (fun (o57 : XO) => if o57.2.1 = 1 then some (o57.1, ((1 : Nat), (-5007 : Int32))) else if o57.2.1 = 3 then some (o57.1, ((3 : Nat), (-5008 : Int32))) else if o57.2.1 = 4 then some (o57.1, ((4 : Nat), (-5004 : Int32))) else none) o57)
else
if p1 = (3 : Int32) then
(f_X7_resize p2 p3 p4 p5 S).bind (fun o75 => if o75.2.1 = 0 then
(fun (o75 : XO) =>
f_L_asks_b222 p1 p2 p3 p4 p5 p6  o75.1 o75.2.2) o75
else (fun (o75 : XO) => if o75.2.1 = 1 then some (o75.1, ((1 : Nat), (-5007 : Int32))) else if o75.2.1 = 3 then some (o75.1, ((3 : Nat), (-5008 : Int32))) else if o75.2.1 = 4 then some (o75.1, ((4 : Nat), (-5004 : Int32))) else none) o75)
else
if p1 = (4 : Int32) then
(f_X7_lay p2 p3 p4 p5 S).bind (fun o93 => if o93.2.1 = 0 then
(fun (o93 : XO) =>
f_L_asks_b222 p1 p2 p3 p4 p5 p6  o93.1 o93.2.2) o93
else (fun (o93 : XO) => if o93.2.1 = 1 then some (o93.1, ((1 : Nat), (-5007 : Int32))) else if o93.2.1 = 3 then some (o93.1, ((3 : Nat), (-5008 : Int32))) else if o93.2.1 = 4 then some (o93.1, ((4 : Nat), (-5004 : Int32))) else none) o93)
else
if p1 = (5 : Int32) then
(f_X7_drop p2 p3 S).bind (fun o107 => if o107.2.1 = 0 then
(fun (o107 : XO) =>
f_L_asks_b222 p1 p2 p3 p4 p5 p6  o107.1 o107.2.2) o107
else (fun (o107 : XO) => if o107.2.1 = 1 then some (o107.1, ((1 : Nat), (-5007 : Int32))) else if o107.2.1 = 3 then some (o107.1, ((3 : Nat), (-5008 : Int32))) else if o107.2.1 = 4 then some (o107.1, ((4 : Nat), (-5004 : Int32))) else none) o107)
else
if p1 = (6 : Int32) then
(f_X7_back p2 S).bind (fun o121 => if o121.2.1 = 0 then
(fun (o121 : XO) =>
f_L_asks_b222 p1 p2 p3 p4 p5 p6  o121.1 o121.2.2) o121
else (fun (o121 : XO) => if o121.2.1 = 1 then some (o121.1, ((1 : Nat), (-5007 : Int32))) else if o121.2.1 = 3 then some (o121.1, ((3 : Nat), (-5008 : Int32))) else if o121.2.1 = 4 then some (o121.1, ((4 : Nat), (-5004 : Int32))) else none) o121)
else
if p1 = (7 : Int32) then
(f_X7_on p2 p3 S).bind (fun o136 => if o136.2.1 = 0 then
(fun (o136 : XO) =>
f_L_asks_b222 p1 p2 p3 p4 p5 p6  o136.1 o136.2.2) o136
else (fun (o136 : XO) => if o136.2.1 = 1 then some (o136.1, ((1 : Nat), (-5007 : Int32))) else if o136.2.1 = 3 then some (o136.1, ((3 : Nat), (-5008 : Int32))) else if o136.2.1 = 4 then some (o136.1, ((4 : Nat), (-5004 : Int32))) else none) o136)
else
if p1 = (8 : Int32) then
(f_X7_spell p2 S).bind (fun o150 => if o150.2.1 = 0 then
(fun (o150 : XO) =>
f_L_asks_b222 p1 p2 p3 p4 p5 p6  o150.1 o150.2.2) o150
else (fun (o150 : XO) => if o150.2.1 = 1 then some (o150.1, ((1 : Nat), (-5007 : Int32))) else if o150.2.1 = 3 then some (o150.1, ((3 : Nat), (-5008 : Int32))) else if o150.2.1 = 4 then some (o150.1, ((4 : Nat), (-5004 : Int32))) else none) o150)
else
if p1 = (9 : Int32) then
(f_X7_number p2 p3 S).bind (fun o165 => if o165.2.1 = 0 then
(fun (o165 : XO) =>
f_L_asks_b222 p1 p2 p3 p4 p5 p6  o165.1 o165.2.2) o165
else (fun (o165 : XO) => if o165.2.1 = 1 then some (o165.1, ((1 : Nat), (-5007 : Int32))) else if o165.2.1 = 3 then some (o165.1, ((3 : Nat), (-5008 : Int32))) else if o165.2.1 = 4 then some (o165.1, ((4 : Nat), (-5004 : Int32))) else none) o165)
else
if p1 = (10 : Int32) then
(f_X7_holds p2 S).bind (fun o179 => if o179.2.1 = 0 then
(fun (o179 : XO) =>
if o179.2.2 = 0 then
f_L_asks_b222 p1 p2 p3 p4 p5 p6  o179.1 (0 : Int32)
else
f_L_asks_b222 p1 p2 p3 p4 p5 p6  o179.1 (1 : Int32)) o179
else (fun (o179 : XO) => if o179.2.1 = 1 then some (o179.1, ((1 : Nat), (-5007 : Int32))) else if o179.2.1 = 3 then some (o179.1, ((3 : Nat), (-5008 : Int32))) else if o179.2.1 = 4 then some (o179.1, ((4 : Nat), (-5004 : Int32))) else none) o179)
else
if p1 = (11 : Int32) then
if p3 ≤ 0 then
f_L_asks_b210 p1 p2 p3 p4 p5 p6  S p2 (0 : Int32)
else
f_L_asks_b210 p1 p2 p3 p4 p5 p6  S p2 (1 : Int32)
else
(f_X7_charAt p2 p3 S).bind (fun o219 => if o219.2.1 = 0 then
(fun (o219 : XO) =>
f_L_asks_b222 p1 p2 p3 p4 p5 p6  o219.1 o219.2.2) o219
else (fun (o219 : XO) => if o219.2.1 = 1 then some (o219.1, ((1 : Nat), (-5007 : Int32))) else if o219.2.1 = 3 then some (o219.1, ((3 : Nat), (-5008 : Int32))) else if o219.2.1 = 4 then some (o219.1, ((4 : Nat), (-5004 : Int32))) else none) o219)
def rm_L_asks (mc : Nat) : Room := { frames := 8, cells := mc, slots := 6 * mc, locals := 210 }
set_option maxRecDepth 100000 in
set_option maxHeartbeats 4000000 in
theorem c_L_asks (l : Launch) (hl9 : l.stackTraces = false) (p1 : Int32) (p2 : Int32) (p3 : Int32) (p4 : Int32) (p5 : Int32) (p6 : Int32)  (S : HS) (out : XO) (mc : Nat) (h01 : mc = 1 ∨ (mc = 0 ∧ out.2.1 = 0)) (h : f_L_asks p1 p2 p3 p4 p5 p6 S = some out) : CtA l yL_asks cL_asks 8 hh_L_asks (rm_L_asks mc) [vR 0, vI p1, vI p2, vI p3, vI p4, vI p5, vI p6] S (some (vI out.2.2)) out.1 := by
  refine CtA.intro (mc := mc) (own := RL) (lv := [(0, vR 0), (1, vI p1), (2, vI p2), (3, vI p3), (4, vI p4), (5, vI p5), (6, vI p6)]) (by decide +kernel) rfl ⟨rfl, rfl⟩ rfl (Nat.le_of_ble_eq_true rfl) ?_
  intro G Gx hGT hR
  have hG := hGT.ok
  revert h
  have hb222 : ∀ (S : HS) (t0 : Int32), f_L_asks_b222 p1 p2 p3 p4 p5 p6 S t0 = some out → G 0 0 S [] 222 [vI t0] := by
    intro S t0
    unfold f_L_asks_b222
    exact s_wri0 hR dL_asks_222
  have hb210 : ∀ (S : HS) (t1 : Int32) (t2 : Int32), f_L_asks_b210 p1 p2 p3 p4 p5 p6 S t1 t2 = some out → G 0 0 S [] 210 [vI t2, vI t1, vR 0] := by
    intro S t1 t2
    unfold f_L_asks_b210
    refine s_wx2 hGT (mc := mc) h01 (as := [vI t1, vI t2]) (st := []) (rm := rm_X7_part) (rmT := rmT_X7_part) (by decide) dL_asks_210 ml_RL_51 (tb11 (mem_i 3 rfl)) (rfl) (tb11 (mem_i 6 rfl)) rfl ⟨rfl, rfl⟩ ⟨rfl, rfl, rfl, rfl⟩ ⟨Nat.le_of_ble_eq_true rfl, Nat.le_of_ble_eq_true rfl⟩ ⟨rfl, rfl⟩ (Nat.le_of_ble_eq_true rfl) rfl (fun o h => c_X7_part l hl9 _ _ _ o h) (fun o r => hx1 (hx2 (e := 1) (by decide)) (hx1 (hx2 (e := 3) (by decide)) (hx1 (hx2 (e := 4) (by decide)) (hx0)))) (fun o210 => ?_) (fun o210 => ?_)
    · refine s_goto hG (tgt := 222) dL_asks_213 (by decide) ?_
      exact hb222 _ _
    · refine s_cx1 ?_ ?_
      · refine s_catchA hGT (lv' := []) ctb_L_asks_210_1 dL_asks_223 (by decide) rfl ?_
        refine s_sipush hG (v := (-5007 : Int32)) dL_asks_225 (by decide) ?_
        exact s_wriE hR h01 (by decide) dL_asks_228
      refine s_cx1 ?_ ?_
      · refine s_catchA hGT (lv' := []) ctb_L_asks_210_3 dL_asks_229 (by decide) rfl ?_
        refine s_sipush hG (v := (-5008 : Int32)) dL_asks_231 (by decide) ?_
        exact s_wriE hR h01 (by decide) dL_asks_234
      refine s_cx1 ?_ ?_
      · refine s_catchA hGT (lv' := []) ctb_L_asks_210_4 dL_asks_235 (by decide) rfl ?_
        refine s_sipush hG (v := (-5004 : Int32)) dL_asks_237 (by decide) ?_
        exact s_wriE hR h01 (by decide) dL_asks_240
      exact s_cx0
  have hb39 : ∀ (S : HS) (t1 : Int32) (t2 : Int32) (t3 : Int32) (t4 : Int32), f_L_asks_b39 p1 p2 p3 p4 p5 p6 S t1 t2 t3 t4 = some out → G 0 0 S [] 39 [vI t4, vI t3, vI t2, vI t1, vR 0] := by
    intro S t1 t2 t3 t4
    unfold f_L_asks_b39
    refine s_wx2 hGT (mc := mc) h01 (as := [vI t1, vI t2, vI t3, vI t4]) (st := []) (rm := rm_X7_addLabel) (rmT := rmT_X7_addLabel) (by decide) dL_asks_39 ml_RL_16 (tb8 (mem_i 1 rfl)) (rfl) (tb8 (mem_i 4 rfl)) rfl ⟨rfl, rfl⟩ ⟨rfl, rfl, rfl, rfl⟩ ⟨Nat.le_of_ble_eq_true rfl, Nat.le_of_ble_eq_true rfl⟩ ⟨rfl, rfl⟩ (Nat.le_of_ble_eq_true rfl) rfl (fun o h => c_X7_addLabel l hl9 _ _ _ _ _ o h) (fun o r => hx1 (hx2 (e := 1) (by decide)) (hx1 (hx2 (e := 3) (by decide)) (hx1 (hx2 (e := 4) (by decide)) (hx0)))) (fun o39 => ?_) (fun o39 => ?_)
    · refine s_goto hG (tgt := 222) dL_asks_42 (by decide) ?_
      exact hb222 _ _
    · refine s_cx1 ?_ ?_
      · refine s_catchA hGT (lv' := []) ctb_L_asks_39_1 dL_asks_223 (by decide) rfl ?_
        refine s_sipush hG (v := (-5007 : Int32)) dL_asks_225 (by decide) ?_
        exact s_wriE hR h01 (by decide) dL_asks_228
      refine s_cx1 ?_ ?_
      · refine s_catchA hGT (lv' := []) ctb_L_asks_39_3 dL_asks_229 (by decide) rfl ?_
        refine s_sipush hG (v := (-5008 : Int32)) dL_asks_231 (by decide) ?_
        exact s_wriE hR h01 (by decide) dL_asks_234
      refine s_cx1 ?_ ?_
      · refine s_catchA hGT (lv' := []) ctb_L_asks_39_4 dL_asks_235 (by decide) rfl ?_
        refine s_sipush hG (v := (-5004 : Int32)) dL_asks_237 (by decide) ?_
        exact s_wriE hR h01 (by decide) dL_asks_240
      exact s_cx0
  unfold f_L_asks
  refine s_iload_n hG dL_asks_0 rfl ?_
  refine s_if_ne hG (tgt := 19) dL_asks_1 (by decide) ?_ ?_
  · refine s_iload_n hG dL_asks_19 rfl ?_
    refine s_iconst hG (v := (1 : Int32)) dL_asks_20 (by decide) ?_
    refine s_icmp_ne hG (tgt := 45) dL_asks_21 (by decide) ?_ ?_
    · refine s_iload_n hG dL_asks_45 rfl ?_
      refine s_iconst hG (v := (2 : Int32)) dL_asks_46 (by decide) ?_
      refine s_icmp_ne hG (tgt := 63) dL_asks_47 (by decide) ?_ ?_
      · refine s_iload_n hG dL_asks_63 rfl ?_
        refine s_iconst hG (v := (3 : Int32)) dL_asks_64 (by decide) ?_
        refine s_icmp_ne hG (tgt := 81) dL_asks_65 (by decide) ?_ ?_
        · refine s_iload_n hG dL_asks_81 rfl ?_
          refine s_iconst hG (v := (4 : Int32)) dL_asks_82 (by decide) ?_
          refine s_icmp_ne hG (tgt := 99) dL_asks_83 (by decide) ?_ ?_
          · refine s_iload_n hG dL_asks_99 rfl ?_
            refine s_iconst hG (v := (5 : Int32)) dL_asks_100 (by decide) ?_
            refine s_icmp_ne hG (tgt := 113) dL_asks_101 (by decide) ?_ ?_
            · refine s_iload_n hG dL_asks_113 rfl ?_
              refine s_bipush hG (v := (6 : Int32)) dL_asks_114 (by decide) ?_
              refine s_icmp_ne hG (tgt := 127) dL_asks_116 (by decide) ?_ ?_
              · refine s_iload_n hG dL_asks_127 rfl ?_
                refine s_bipush hG (v := (7 : Int32)) dL_asks_128 (by decide) ?_
                refine s_icmp_ne hG (tgt := 142) dL_asks_130 (by decide) ?_ ?_
                · refine s_iload_n hG dL_asks_142 rfl ?_
                  refine s_bipush hG (v := (8 : Int32)) dL_asks_143 (by decide) ?_
                  refine s_icmp_ne hG (tgt := 156) dL_asks_145 (by decide) ?_ ?_
                  · refine s_iload_n hG dL_asks_156 rfl ?_
                    refine s_bipush hG (v := (9 : Int32)) dL_asks_157 (by decide) ?_
                    refine s_icmp_ne hG (tgt := 171) dL_asks_159 (by decide) ?_ ?_
                    · refine s_iload_n hG dL_asks_171 rfl ?_
                      refine s_bipush hG (v := (10 : Int32)) dL_asks_172 (by decide) ?_
                      refine s_icmp_ne hG (tgt := 193) dL_asks_174 (by decide) ?_ ?_
                      · refine s_iload_n hG dL_asks_193 rfl ?_
                        refine s_bipush hG (v := (11 : Int32)) dL_asks_194 (by decide) ?_
                        refine s_icmp_ne hG (tgt := 216) dL_asks_196 (by decide) ?_ ?_
                        · refine s_aload_n hG dL_asks_216 rfl ?_
                          refine s_iload_n hG dL_asks_217 rfl ?_
                          refine s_iload_n hG dL_asks_218 rfl ?_
                          refine s_wx2 hGT (mc := mc) h01 (as := [vI p2, vI p3]) (st := []) (rm := rm_X7_charAt) (rmT := rmT_X7_charAt) (by decide) dL_asks_219 ml_RL_55 (tb11 (mem_i 7 rfl)) (rfl) (tb11 (mem_i 10 rfl)) rfl ⟨rfl, rfl⟩ ⟨rfl, rfl, rfl, rfl⟩ ⟨Nat.le_of_ble_eq_true rfl, Nat.le_of_ble_eq_true rfl⟩ ⟨rfl, rfl⟩ (Nat.le_of_ble_eq_true rfl) rfl (fun o h => c_X7_charAt l hl9 _ _ _ o h) (fun o r => hx1 (hx2 (e := 1) (by decide)) (hx1 (hx2 (e := 3) (by decide)) (hx1 (hx2 (e := 4) (by decide)) (hx0)))) (fun o219 => ?_) (fun o219 => ?_)
                          · refine s_lv hG [] rfl ?_
                            exact hb222 _ _
                          · refine s_cx1 ?_ ?_
                            · refine s_catchA hGT (lv' := [(0, vR 0), (1, vI p1), (2, vI p2), (3, vI p3), (4, vI p4), (5, vI p5), (6, vI p6)]) ctb_L_asks_219_1 dL_asks_223 (by decide) rfl ?_
                              refine s_sipush hG (v := (-5007 : Int32)) dL_asks_225 (by decide) ?_
                              exact s_wriE hR h01 (by decide) dL_asks_228
                            refine s_cx1 ?_ ?_
                            · refine s_catchA hGT (lv' := [(0, vR 0), (1, vI p1), (2, vI p2), (3, vI p3), (4, vI p4), (5, vI p5), (6, vI p6)]) ctb_L_asks_219_3 dL_asks_229 (by decide) rfl ?_
                              refine s_sipush hG (v := (-5008 : Int32)) dL_asks_231 (by decide) ?_
                              exact s_wriE hR h01 (by decide) dL_asks_234
                            refine s_cx1 ?_ ?_
                            · refine s_catchA hGT (lv' := [(0, vR 0), (1, vI p1), (2, vI p2), (3, vI p3), (4, vI p4), (5, vI p5), (6, vI p6)]) ctb_L_asks_219_4 dL_asks_235 (by decide) rfl ?_
                              refine s_sipush hG (v := (-5004 : Int32)) dL_asks_237 (by decide) ?_
                              exact s_wriE hR h01 (by decide) dL_asks_240
                            exact s_cx0
                        · refine s_aload_n hG dL_asks_199 rfl ?_
                          refine s_iload_n hG dL_asks_200 rfl ?_
                          refine s_iload_n hG dL_asks_201 rfl ?_
                          refine s_if_le hG (tgt := 209) dL_asks_202 (by decide) ?_ ?_
                          · refine s_iconst hG (v := (0 : Int32)) dL_asks_209 (by decide) ?_
                            refine s_lv hG [] rfl ?_
                            exact hb210 _ _ _
                          · refine s_iconst hG (v := (1 : Int32)) dL_asks_205 (by decide) ?_
                            refine s_goto hG (tgt := 210) dL_asks_206 (by decide) ?_
                            refine s_lv hG [] rfl ?_
                            exact hb210 _ _ _
                      · refine s_aload_n hG dL_asks_177 rfl ?_
                        refine s_iload_n hG dL_asks_178 rfl ?_
                        refine s_wx2 hGT (mc := mc) h01 (as := [vI p2]) (st := []) (rm := rm_X7_holds) (rmT := rmT_X7_holds) (by decide) dL_asks_179 ml_RL_47 (tb10 (mem_i 27 rfl)) (rfl) (tb11 (mem_i 0 rfl)) rfl ⟨rfl, rfl⟩ ⟨rfl, rfl, rfl, rfl⟩ ⟨Nat.le_of_ble_eq_true rfl, Nat.le_of_ble_eq_true rfl⟩ ⟨rfl, rfl⟩ (Nat.le_of_ble_eq_true rfl) rfl (fun o h => c_X7_holds l hl9 _ _ o h) (fun o r => hx1 (hx2 (e := 1) (by decide)) (hx1 (hx2 (e := 3) (by decide)) (hx1 (hx2 (e := 4) (by decide)) (hx0)))) (fun o179 => ?_) (fun o179 => ?_)
                        · refine s_if_eq hG (tgt := 189) dL_asks_182 (by decide) ?_ ?_
                          · refine s_iconst hG (v := (0 : Int32)) dL_asks_189 (by decide) ?_
                            refine s_goto hG (tgt := 222) dL_asks_190 (by decide) ?_
                            refine s_lv hG [] rfl ?_
                            exact hb222 _ _
                          · refine s_iconst hG (v := (1 : Int32)) dL_asks_185 (by decide) ?_
                            refine s_goto hG (tgt := 222) dL_asks_186 (by decide) ?_
                            refine s_lv hG [] rfl ?_
                            exact hb222 _ _
                        · refine s_cx1 ?_ ?_
                          · refine s_catchA hGT (lv' := [(0, vR 0), (1, vI p1), (2, vI p2), (3, vI p3), (4, vI p4), (5, vI p5), (6, vI p6)]) ctb_L_asks_179_1 dL_asks_223 (by decide) rfl ?_
                            refine s_sipush hG (v := (-5007 : Int32)) dL_asks_225 (by decide) ?_
                            exact s_wriE hR h01 (by decide) dL_asks_228
                          refine s_cx1 ?_ ?_
                          · refine s_catchA hGT (lv' := [(0, vR 0), (1, vI p1), (2, vI p2), (3, vI p3), (4, vI p4), (5, vI p5), (6, vI p6)]) ctb_L_asks_179_3 dL_asks_229 (by decide) rfl ?_
                            refine s_sipush hG (v := (-5008 : Int32)) dL_asks_231 (by decide) ?_
                            exact s_wriE hR h01 (by decide) dL_asks_234
                          refine s_cx1 ?_ ?_
                          · refine s_catchA hGT (lv' := [(0, vR 0), (1, vI p1), (2, vI p2), (3, vI p3), (4, vI p4), (5, vI p5), (6, vI p6)]) ctb_L_asks_179_4 dL_asks_235 (by decide) rfl ?_
                            refine s_sipush hG (v := (-5004 : Int32)) dL_asks_237 (by decide) ?_
                            exact s_wriE hR h01 (by decide) dL_asks_240
                          exact s_cx0
                    · refine s_aload_n hG dL_asks_162 rfl ?_
                      refine s_iload_n hG dL_asks_163 rfl ?_
                      refine s_iload_n hG dL_asks_164 rfl ?_
                      refine s_wx2 hGT (mc := mc) h01 (as := [vI p2, vI p3]) (st := []) (rm := rm_X7_number) (rmT := rmT_X7_number) (by decide) dL_asks_165 ml_RL_44 (tb10 (mem_i 16 rfl)) (rfl) (tb10 (mem_i 19 rfl)) rfl ⟨rfl, rfl⟩ ⟨rfl, rfl, rfl, rfl⟩ ⟨Nat.le_of_ble_eq_true rfl, Nat.le_of_ble_eq_true rfl⟩ ⟨rfl, rfl⟩ (Nat.le_of_ble_eq_true rfl) rfl (fun o h => c_X7_number l hl9 _ _ _ o h) (fun o r => hx1 (hx2 (e := 1) (by decide)) (hx1 (hx2 (e := 3) (by decide)) (hx1 (hx2 (e := 4) (by decide)) (hx0)))) (fun o165 => ?_) (fun o165 => ?_)
                      · refine s_goto hG (tgt := 222) dL_asks_168 (by decide) ?_
                        refine s_lv hG [] rfl ?_
                        exact hb222 _ _
                      · refine s_cx1 ?_ ?_
                        · refine s_catchA hGT (lv' := [(0, vR 0), (1, vI p1), (2, vI p2), (3, vI p3), (4, vI p4), (5, vI p5), (6, vI p6)]) ctb_L_asks_165_1 dL_asks_223 (by decide) rfl ?_
                          refine s_sipush hG (v := (-5007 : Int32)) dL_asks_225 (by decide) ?_
                          exact s_wriE hR h01 (by decide) dL_asks_228
                        refine s_cx1 ?_ ?_
                        · refine s_catchA hGT (lv' := [(0, vR 0), (1, vI p1), (2, vI p2), (3, vI p3), (4, vI p4), (5, vI p5), (6, vI p6)]) ctb_L_asks_165_3 dL_asks_229 (by decide) rfl ?_
                          refine s_sipush hG (v := (-5008 : Int32)) dL_asks_231 (by decide) ?_
                          exact s_wriE hR h01 (by decide) dL_asks_234
                        refine s_cx1 ?_ ?_
                        · refine s_catchA hGT (lv' := [(0, vR 0), (1, vI p1), (2, vI p2), (3, vI p3), (4, vI p4), (5, vI p5), (6, vI p6)]) ctb_L_asks_165_4 dL_asks_235 (by decide) rfl ?_
                          refine s_sipush hG (v := (-5004 : Int32)) dL_asks_237 (by decide) ?_
                          exact s_wriE hR h01 (by decide) dL_asks_240
                        exact s_cx0
                  · refine s_aload_n hG dL_asks_148 rfl ?_
                    refine s_iload_n hG dL_asks_149 rfl ?_
                    refine s_wx2 hGT (mc := mc) h01 (as := [vI p2]) (st := []) (rm := rm_X7_spell) (rmT := rmT_X7_spell) (by decide) dL_asks_150 ml_RL_41 (tb10 (mem_i 10 rfl)) (rfl) (tb10 (mem_i 13 rfl)) rfl ⟨rfl, rfl⟩ ⟨rfl, rfl, rfl, rfl⟩ ⟨Nat.le_of_ble_eq_true rfl, Nat.le_of_ble_eq_true rfl⟩ ⟨rfl, rfl⟩ (Nat.le_of_ble_eq_true rfl) rfl (fun o h => c_X7_spell l hl9 _ _ o h) (fun o r => hx1 (hx2 (e := 1) (by decide)) (hx1 (hx2 (e := 3) (by decide)) (hx1 (hx2 (e := 4) (by decide)) (hx0)))) (fun o150 => ?_) (fun o150 => ?_)
                    · refine s_goto hG (tgt := 222) dL_asks_153 (by decide) ?_
                      refine s_lv hG [] rfl ?_
                      exact hb222 _ _
                    · refine s_cx1 ?_ ?_
                      · refine s_catchA hGT (lv' := [(0, vR 0), (1, vI p1), (2, vI p2), (3, vI p3), (4, vI p4), (5, vI p5), (6, vI p6)]) ctb_L_asks_150_1 dL_asks_223 (by decide) rfl ?_
                        refine s_sipush hG (v := (-5007 : Int32)) dL_asks_225 (by decide) ?_
                        exact s_wriE hR h01 (by decide) dL_asks_228
                      refine s_cx1 ?_ ?_
                      · refine s_catchA hGT (lv' := [(0, vR 0), (1, vI p1), (2, vI p2), (3, vI p3), (4, vI p4), (5, vI p5), (6, vI p6)]) ctb_L_asks_150_3 dL_asks_229 (by decide) rfl ?_
                        refine s_sipush hG (v := (-5008 : Int32)) dL_asks_231 (by decide) ?_
                        exact s_wriE hR h01 (by decide) dL_asks_234
                      refine s_cx1 ?_ ?_
                      · refine s_catchA hGT (lv' := [(0, vR 0), (1, vI p1), (2, vI p2), (3, vI p3), (4, vI p4), (5, vI p5), (6, vI p6)]) ctb_L_asks_150_4 dL_asks_235 (by decide) rfl ?_
                        refine s_sipush hG (v := (-5004 : Int32)) dL_asks_237 (by decide) ?_
                        exact s_wriE hR h01 (by decide) dL_asks_240
                      exact s_cx0
                · refine s_aload_n hG dL_asks_133 rfl ?_
                  refine s_iload_n hG dL_asks_134 rfl ?_
                  refine s_iload_n hG dL_asks_135 rfl ?_
                  refine s_wx2 hGT (mc := mc) h01 (as := [vI p2, vI p3]) (st := []) (rm := rm_X7_on) (rmT := rmT_X7_on) (by decide) dL_asks_136 ml_RL_38 (tb10 (mem_i 1 rfl)) (rfl) (tb10 (mem_i 4 rfl)) rfl ⟨rfl, rfl⟩ ⟨rfl, rfl, rfl, rfl⟩ ⟨Nat.le_of_ble_eq_true rfl, Nat.le_of_ble_eq_true rfl⟩ ⟨rfl, rfl⟩ (Nat.le_of_ble_eq_true rfl) rfl (fun o h => c_X7_on l hl9 _ _ _ o h) (fun o r => hx1 (hx2 (e := 1) (by decide)) (hx1 (hx2 (e := 3) (by decide)) (hx1 (hx2 (e := 4) (by decide)) (hx0)))) (fun o136 => ?_) (fun o136 => ?_)
                  · refine s_goto hG (tgt := 222) dL_asks_139 (by decide) ?_
                    refine s_lv hG [] rfl ?_
                    exact hb222 _ _
                  · refine s_cx1 ?_ ?_
                    · refine s_catchA hGT (lv' := [(0, vR 0), (1, vI p1), (2, vI p2), (3, vI p3), (4, vI p4), (5, vI p5), (6, vI p6)]) ctb_L_asks_136_1 dL_asks_223 (by decide) rfl ?_
                      refine s_sipush hG (v := (-5007 : Int32)) dL_asks_225 (by decide) ?_
                      exact s_wriE hR h01 (by decide) dL_asks_228
                    refine s_cx1 ?_ ?_
                    · refine s_catchA hGT (lv' := [(0, vR 0), (1, vI p1), (2, vI p2), (3, vI p3), (4, vI p4), (5, vI p5), (6, vI p6)]) ctb_L_asks_136_3 dL_asks_229 (by decide) rfl ?_
                      refine s_sipush hG (v := (-5008 : Int32)) dL_asks_231 (by decide) ?_
                      exact s_wriE hR h01 (by decide) dL_asks_234
                    refine s_cx1 ?_ ?_
                    · refine s_catchA hGT (lv' := [(0, vR 0), (1, vI p1), (2, vI p2), (3, vI p3), (4, vI p4), (5, vI p5), (6, vI p6)]) ctb_L_asks_136_4 dL_asks_235 (by decide) rfl ?_
                      refine s_sipush hG (v := (-5004 : Int32)) dL_asks_237 (by decide) ?_
                      exact s_wriE hR h01 (by decide) dL_asks_240
                    exact s_cx0
              · refine s_aload_n hG dL_asks_119 rfl ?_
                refine s_iload_n hG dL_asks_120 rfl ?_
                refine s_wx2 hGT (mc := mc) h01 (as := [vI p2]) (st := []) (rm := rm_X7_back) (rmT := rmT_X7_back) (by decide) dL_asks_121 ml_RL_34 (tb9 (mem_i 9 rfl)) (rfl) (tb9 (mem_i 12 rfl)) rfl ⟨rfl, rfl⟩ ⟨rfl, rfl, rfl, rfl⟩ ⟨Nat.le_of_ble_eq_true rfl, Nat.le_of_ble_eq_true rfl⟩ ⟨rfl, rfl⟩ (Nat.le_of_ble_eq_true rfl) rfl (fun o h => c_X7_back l hl9 _ _ o h) (fun o r => hx1 (hx2 (e := 1) (by decide)) (hx1 (hx2 (e := 3) (by decide)) (hx1 (hx2 (e := 4) (by decide)) (hx0)))) (fun o121 => ?_) (fun o121 => ?_)
                · refine s_goto hG (tgt := 222) dL_asks_124 (by decide) ?_
                  refine s_lv hG [] rfl ?_
                  exact hb222 _ _
                · refine s_cx1 ?_ ?_
                  · refine s_catchA hGT (lv' := [(0, vR 0), (1, vI p1), (2, vI p2), (3, vI p3), (4, vI p4), (5, vI p5), (6, vI p6)]) ctb_L_asks_121_1 dL_asks_223 (by decide) rfl ?_
                    refine s_sipush hG (v := (-5007 : Int32)) dL_asks_225 (by decide) ?_
                    exact s_wriE hR h01 (by decide) dL_asks_228
                  refine s_cx1 ?_ ?_
                  · refine s_catchA hGT (lv' := [(0, vR 0), (1, vI p1), (2, vI p2), (3, vI p3), (4, vI p4), (5, vI p5), (6, vI p6)]) ctb_L_asks_121_3 dL_asks_229 (by decide) rfl ?_
                    refine s_sipush hG (v := (-5008 : Int32)) dL_asks_231 (by decide) ?_
                    exact s_wriE hR h01 (by decide) dL_asks_234
                  refine s_cx1 ?_ ?_
                  · refine s_catchA hGT (lv' := [(0, vR 0), (1, vI p1), (2, vI p2), (3, vI p3), (4, vI p4), (5, vI p5), (6, vI p6)]) ctb_L_asks_121_4 dL_asks_235 (by decide) rfl ?_
                    refine s_sipush hG (v := (-5004 : Int32)) dL_asks_237 (by decide) ?_
                    exact s_wriE hR h01 (by decide) dL_asks_240
                  exact s_cx0
            · refine s_aload_n hG dL_asks_104 rfl ?_
              refine s_iload_n hG dL_asks_105 rfl ?_
              refine s_iload_n hG dL_asks_106 rfl ?_
              refine s_wx2 hGT (mc := mc) h01 (as := [vI p2, vI p3]) (st := []) (rm := rm_X7_drop) (rmT := rmT_X7_drop) (by decide) dL_asks_107 ml_RL_30 (tb8 (mem_i 26 rfl)) (rfl) (tb8 (mem_i 29 rfl)) rfl ⟨rfl, rfl⟩ ⟨rfl, rfl, rfl, rfl⟩ ⟨Nat.le_of_ble_eq_true rfl, Nat.le_of_ble_eq_true rfl⟩ ⟨rfl, rfl⟩ (Nat.le_of_ble_eq_true rfl) rfl (fun o h => c_X7_drop l hl9 _ _ _ o h) (fun o r => hx1 (hx2 (e := 1) (by decide)) (hx1 (hx2 (e := 3) (by decide)) (hx1 (hx2 (e := 4) (by decide)) (hx0)))) (fun o107 => ?_) (fun o107 => ?_)
              · refine s_goto hG (tgt := 222) dL_asks_110 (by decide) ?_
                refine s_lv hG [] rfl ?_
                exact hb222 _ _
              · refine s_cx1 ?_ ?_
                · refine s_catchA hGT (lv' := [(0, vR 0), (1, vI p1), (2, vI p2), (3, vI p3), (4, vI p4), (5, vI p5), (6, vI p6)]) ctb_L_asks_107_1 dL_asks_223 (by decide) rfl ?_
                  refine s_sipush hG (v := (-5007 : Int32)) dL_asks_225 (by decide) ?_
                  exact s_wriE hR h01 (by decide) dL_asks_228
                refine s_cx1 ?_ ?_
                · refine s_catchA hGT (lv' := [(0, vR 0), (1, vI p1), (2, vI p2), (3, vI p3), (4, vI p4), (5, vI p5), (6, vI p6)]) ctb_L_asks_107_3 dL_asks_229 (by decide) rfl ?_
                  refine s_sipush hG (v := (-5008 : Int32)) dL_asks_231 (by decide) ?_
                  exact s_wriE hR h01 (by decide) dL_asks_234
                refine s_cx1 ?_ ?_
                · refine s_catchA hGT (lv' := [(0, vR 0), (1, vI p1), (2, vI p2), (3, vI p3), (4, vI p4), (5, vI p5), (6, vI p6)]) ctb_L_asks_107_4 dL_asks_235 (by decide) rfl ?_
                  refine s_sipush hG (v := (-5004 : Int32)) dL_asks_237 (by decide) ?_
                  exact s_wriE hR h01 (by decide) dL_asks_240
                exact s_cx0
          · refine s_aload_n hG dL_asks_86 rfl ?_
            refine s_iload_n hG dL_asks_87 rfl ?_
            refine s_iload_n hG dL_asks_88 rfl ?_
            refine s_iload hG dL_asks_89 rfl ?_
            refine s_iload hG dL_asks_91 rfl ?_
            refine s_wx2 hGT (mc := mc) h01 (as := [vI p2, vI p3, vI p4, vI p5]) (st := []) (rm := rm_X7_lay) (rmT := rmT_X7_lay) (by decide) dL_asks_93 ml_RL_27 (tb8 (mem_i 20 rfl)) (rfl) (tb8 (mem_i 23 rfl)) rfl ⟨rfl, rfl⟩ ⟨rfl, rfl, rfl, rfl⟩ ⟨Nat.le_of_ble_eq_true rfl, Nat.le_of_ble_eq_true rfl⟩ ⟨rfl, rfl⟩ (Nat.le_of_ble_eq_true rfl) rfl (fun o h => c_X7_lay l hl9 _ _ _ _ _ o h) (fun o r => hx1 (hx2 (e := 1) (by decide)) (hx1 (hx2 (e := 3) (by decide)) (hx1 (hx2 (e := 4) (by decide)) (hx0)))) (fun o93 => ?_) (fun o93 => ?_)
            · refine s_goto hG (tgt := 222) dL_asks_96 (by decide) ?_
              refine s_lv hG [] rfl ?_
              exact hb222 _ _
            · refine s_cx1 ?_ ?_
              · refine s_catchA hGT (lv' := [(0, vR 0), (1, vI p1), (2, vI p2), (3, vI p3), (4, vI p4), (5, vI p5), (6, vI p6)]) ctb_L_asks_93_1 dL_asks_223 (by decide) rfl ?_
                refine s_sipush hG (v := (-5007 : Int32)) dL_asks_225 (by decide) ?_
                exact s_wriE hR h01 (by decide) dL_asks_228
              refine s_cx1 ?_ ?_
              · refine s_catchA hGT (lv' := [(0, vR 0), (1, vI p1), (2, vI p2), (3, vI p3), (4, vI p4), (5, vI p5), (6, vI p6)]) ctb_L_asks_93_3 dL_asks_229 (by decide) rfl ?_
                refine s_sipush hG (v := (-5008 : Int32)) dL_asks_231 (by decide) ?_
                exact s_wriE hR h01 (by decide) dL_asks_234
              refine s_cx1 ?_ ?_
              · refine s_catchA hGT (lv' := [(0, vR 0), (1, vI p1), (2, vI p2), (3, vI p3), (4, vI p4), (5, vI p5), (6, vI p6)]) ctb_L_asks_93_4 dL_asks_235 (by decide) rfl ?_
                refine s_sipush hG (v := (-5004 : Int32)) dL_asks_237 (by decide) ?_
                exact s_wriE hR h01 (by decide) dL_asks_240
              exact s_cx0
        · refine s_aload_n hG dL_asks_68 rfl ?_
          refine s_iload_n hG dL_asks_69 rfl ?_
          refine s_iload_n hG dL_asks_70 rfl ?_
          refine s_iload hG dL_asks_71 rfl ?_
          refine s_iload hG dL_asks_73 rfl ?_
          refine s_wx2 hGT (mc := mc) h01 (as := [vI p2, vI p3, vI p4, vI p5]) (st := []) (rm := rm_X7_resize) (rmT := rmT_X7_resize) (by decide) dL_asks_75 ml_RL_24 (tb8 (mem_i 16 rfl)) (rfl) (tb8 (mem_i 19 rfl)) rfl ⟨rfl, rfl⟩ ⟨rfl, rfl, rfl, rfl⟩ ⟨Nat.le_of_ble_eq_true rfl, Nat.le_of_ble_eq_true rfl⟩ ⟨rfl, rfl⟩ (Nat.le_of_ble_eq_true rfl) rfl (fun o h => c_X7_resize l hl9 _ _ _ _ _ o h) (fun o r => hx1 (hx2 (e := 1) (by decide)) (hx1 (hx2 (e := 3) (by decide)) (hx1 (hx2 (e := 4) (by decide)) (hx0)))) (fun o75 => ?_) (fun o75 => ?_)
          · refine s_goto hG (tgt := 222) dL_asks_78 (by decide) ?_
            refine s_lv hG [] rfl ?_
            exact hb222 _ _
          · refine s_cx1 ?_ ?_
            · refine s_catchA hGT (lv' := [(0, vR 0), (1, vI p1), (2, vI p2), (3, vI p3), (4, vI p4), (5, vI p5), (6, vI p6)]) ctb_L_asks_75_1 dL_asks_223 (by decide) rfl ?_
              refine s_sipush hG (v := (-5007 : Int32)) dL_asks_225 (by decide) ?_
              exact s_wriE hR h01 (by decide) dL_asks_228
            refine s_cx1 ?_ ?_
            · refine s_catchA hGT (lv' := [(0, vR 0), (1, vI p1), (2, vI p2), (3, vI p3), (4, vI p4), (5, vI p5), (6, vI p6)]) ctb_L_asks_75_3 dL_asks_229 (by decide) rfl ?_
              refine s_sipush hG (v := (-5008 : Int32)) dL_asks_231 (by decide) ?_
              exact s_wriE hR h01 (by decide) dL_asks_234
            refine s_cx1 ?_ ?_
            · refine s_catchA hGT (lv' := [(0, vR 0), (1, vI p1), (2, vI p2), (3, vI p3), (4, vI p4), (5, vI p5), (6, vI p6)]) ctb_L_asks_75_4 dL_asks_235 (by decide) rfl ?_
              refine s_sipush hG (v := (-5004 : Int32)) dL_asks_237 (by decide) ?_
              exact s_wriE hR h01 (by decide) dL_asks_240
            exact s_cx0
      · refine s_aload_n hG dL_asks_50 rfl ?_
        refine s_iload_n hG dL_asks_51 rfl ?_
        refine s_iload_n hG dL_asks_52 rfl ?_
        refine s_iload hG dL_asks_53 rfl ?_
        refine s_iload hG dL_asks_55 rfl ?_
        refine s_wx2 hGT (mc := mc) h01 (as := [vI p2, vI p3, vI p4, vI p5]) (st := []) (rm := rm_X7_move) (rmT := rmT_X7_move) (by decide) dL_asks_57 ml_RL_20 (tb8 (mem_i 5 rfl)) (rfl) (tb8 (mem_i 8 rfl)) rfl ⟨rfl, rfl⟩ ⟨rfl, rfl, rfl, rfl⟩ ⟨Nat.le_of_ble_eq_true rfl, Nat.le_of_ble_eq_true rfl⟩ ⟨rfl, rfl⟩ (Nat.le_of_ble_eq_true rfl) rfl (fun o h => c_X7_move l hl9 _ _ _ _ _ o h) (fun o r => hx1 (hx2 (e := 1) (by decide)) (hx1 (hx2 (e := 3) (by decide)) (hx1 (hx2 (e := 4) (by decide)) (hx0)))) (fun o57 => ?_) (fun o57 => ?_)
        · refine s_goto hG (tgt := 222) dL_asks_60 (by decide) ?_
          refine s_lv hG [] rfl ?_
          exact hb222 _ _
        · refine s_cx1 ?_ ?_
          · refine s_catchA hGT (lv' := [(0, vR 0), (1, vI p1), (2, vI p2), (3, vI p3), (4, vI p4), (5, vI p5), (6, vI p6)]) ctb_L_asks_57_1 dL_asks_223 (by decide) rfl ?_
            refine s_sipush hG (v := (-5007 : Int32)) dL_asks_225 (by decide) ?_
            exact s_wriE hR h01 (by decide) dL_asks_228
          refine s_cx1 ?_ ?_
          · refine s_catchA hGT (lv' := [(0, vR 0), (1, vI p1), (2, vI p2), (3, vI p3), (4, vI p4), (5, vI p5), (6, vI p6)]) ctb_L_asks_57_3 dL_asks_229 (by decide) rfl ?_
            refine s_sipush hG (v := (-5008 : Int32)) dL_asks_231 (by decide) ?_
            exact s_wriE hR h01 (by decide) dL_asks_234
          refine s_cx1 ?_ ?_
          · refine s_catchA hGT (lv' := [(0, vR 0), (1, vI p1), (2, vI p2), (3, vI p3), (4, vI p4), (5, vI p5), (6, vI p6)]) ctb_L_asks_57_4 dL_asks_235 (by decide) rfl ?_
            refine s_sipush hG (v := (-5004 : Int32)) dL_asks_237 (by decide) ?_
            exact s_wriE hR h01 (by decide) dL_asks_240
          exact s_cx0
    · refine s_aload_n hG dL_asks_24 rfl ?_
      refine s_iload_n hG dL_asks_25 rfl ?_
      refine s_iload_n hG dL_asks_26 rfl ?_
      refine s_iload hG dL_asks_27 rfl ?_
      refine s_iload hG dL_asks_29 rfl ?_
      refine s_if_le hG (tgt := 38) dL_asks_31 (by decide) ?_ ?_
      · refine s_iconst hG (v := (0 : Int32)) dL_asks_38 (by decide) ?_
        refine s_lv hG [] rfl ?_
        exact hb39 _ _ _ _ _
      · refine s_iconst hG (v := (1 : Int32)) dL_asks_34 (by decide) ?_
        refine s_goto hG (tgt := 39) dL_asks_35 (by decide) ?_
        refine s_lv hG [] rfl ?_
        exact hb39 _ _ _ _ _
  · refine s_aload_n hG dL_asks_4 rfl ?_
    refine s_iload_n hG dL_asks_5 rfl ?_
    refine s_iload_n hG dL_asks_6 rfl ?_
    refine s_iload hG dL_asks_7 rfl ?_
    refine s_iload hG dL_asks_9 rfl ?_
    refine s_iload hG dL_asks_11 rfl ?_
    refine s_wx2 hGT (mc := mc) h01 (as := [vI p2, vI p3, vI p4, vI p5, vI p6]) (st := []) (rm := rm_X7_addBox) (rmT := rmT_X7_addBox) (by decide) dL_asks_13 ml_RL_10 (tb4 (mem_i 25 rfl)) (rfl) (tb4 (mem_i 28 rfl)) rfl ⟨rfl, rfl⟩ ⟨rfl, rfl, rfl, rfl⟩ ⟨Nat.le_of_ble_eq_true rfl, Nat.le_of_ble_eq_true rfl⟩ ⟨rfl, rfl⟩ (Nat.le_of_ble_eq_true rfl) rfl (fun o h => c_X7_addBox l hl9 _ _ _ _ _ _ o h) (fun o r => hx1 (hx2 (e := 1) (by decide)) (hx1 (hx2 (e := 3) (by decide)) (hx1 (hx2 (e := 4) (by decide)) (hx0)))) (fun o13 => ?_) (fun o13 => ?_)
    · refine s_goto hG (tgt := 222) dL_asks_16 (by decide) ?_
      refine s_lv hG [] rfl ?_
      exact hb222 _ _
    · refine s_cx1 ?_ ?_
      · refine s_catchA hGT (lv' := [(0, vR 0), (1, vI p1), (2, vI p2), (3, vI p3), (4, vI p4), (5, vI p5), (6, vI p6)]) ctb_L_asks_13_1 dL_asks_223 (by decide) rfl ?_
        refine s_sipush hG (v := (-5007 : Int32)) dL_asks_225 (by decide) ?_
        exact s_wriE hR h01 (by decide) dL_asks_228
      refine s_cx1 ?_ ?_
      · refine s_catchA hGT (lv' := [(0, vR 0), (1, vI p1), (2, vI p2), (3, vI p3), (4, vI p4), (5, vI p5), (6, vI p6)]) ctb_L_asks_13_3 dL_asks_229 (by decide) rfl ?_
        refine s_sipush hG (v := (-5008 : Int32)) dL_asks_231 (by decide) ?_
        exact s_wriE hR h01 (by decide) dL_asks_234
      refine s_cx1 ?_ ?_
      · refine s_catchA hGT (lv' := [(0, vR 0), (1, vI p1), (2, vI p2), (3, vI p3), (4, vI p4), (5, vI p5), (6, vI p6)]) ctb_L_asks_13_4 dL_asks_235 (by decide) rfl ?_
        refine s_sipush hG (v := (-5004 : Int32)) dL_asks_237 (by decide) ?_
        exact s_wriE hR h01 (by decide) dL_asks_240
      exact s_cx0

def f_L_part (p0 : Int32) (p1 : Int32) (p2 : Int32) (S : HS) : Option (Int32) :=
some ((p0 >>> (p1 &&& 31)) &&& (((1 : Int32) <<< (p2 &&& 31)) - (1 : Int32)))
def rm_L_part : Room := { frames := 0, cells := 0, slots := 0, locals := 0 }
set_option maxRecDepth 100000 in
set_option maxHeartbeats 4000000 in
theorem c_L_part (l : Launch) (p0 : Int32) (p1 : Int32) (p2 : Int32)  (S : HS) (out : Int32) (h : f_L_part p0 p1 p2 S = some out) : Ct l yL_part cL_part 3 (some .int) rm_L_part [vI p0, vI p1, vI p2] S (some (vI out)) S := by
  refine Ct.intro (own := RL) (lv := [(0, vI p0), (1, vI p1), (2, vI p2)]) (by decide +kernel) rfl ⟨rfl, rfl⟩ rfl (Nat.le_of_ble_eq_true rfl) ?_
  intro G hG hR
  revert h
  unfold f_L_part
  refine s_iload_n hG dL_part_0 rfl ?_
  refine s_iload_n hG dL_part_1 rfl ?_
  refine s_ishr hG dL_part_2 ?_
  refine s_iconst hG (v := (1 : Int32)) dL_part_3 (by decide) ?_
  refine s_iload_n hG dL_part_4 rfl ?_
  refine s_ishl hG dL_part_5 ?_
  refine s_iconst hG (v := (1 : Int32)) dL_part_6 (by decide) ?_
  refine s_isub hG dL_part_7 ?_
  refine s_iand hG dL_part_8 ?_
  exact s_riP hR dL_part_9

def f_L_isOn_b49 (p2 : Int32)  (S : HS) (t0 : Int32) : Option (Int32) :=
if nz t0 = true then some t0 else none
def f_L_isOn_b37 (p2 : Int32)  (S : HS) (x3 : Int32) : Option (Int32) :=
if x3 = (p2 + (1 : Int32)) then
f_L_isOn_b49 p2  S (1 : Int32)
else
f_L_isOn_b49 p2  S (0 : Int32)
def F_L_isOn_b11 (p2 : Int32)  (S : HS) (rec11 : Int32 → Option (Int32)) : Int32 → Option (Int32) := fun q => match q with
  | (x3) =>
    if x3 ≤ 0 then
    f_L_isOn_b37 p2  S x3
    else
    if x3 = (p2 + (1 : Int32)) then
    f_L_isOn_b37 p2  S x3
    else
    if ib (x3 - (1 : Int32)) (60) = true then
    (f_L_part (S.1 36 (x3 - (1 : Int32)).toNatClampNeg) (2 : Int32) (6 : Int32) S).bind (fun o30 =>
    rec11 (o30))
    else none
def f_L_isOn_b11 (p2 : Int32)  (S : HS) (x3 : Int32) : Option (Int32) := fx (F_L_isOn_b11 p2 S) FU (x3)
def f_L_isOn (p2 : Int32) (S : HS) : Option (Int32) :=
if ib p2 (60) = true then
(f_L_part (S.1 36 p2.toNatClampNeg) (0 : Int32) (2 : Int32) S).bind (fun o6 =>
if ib o6 (4) = true then
f_L_isOn_b11 p2  S (S.1 39 o6.toNatClampNeg)
else none)
else none
def rm_L_isOn : Room := { frames := 1, cells := 0, slots := 0, locals := 22 }
set_option maxRecDepth 100000 in
set_option maxHeartbeats 4000000 in
theorem c_L_isOn (l : Launch) (p2 : Int32)  (S : HS) (out : Int32) (h : f_L_isOn p2 S = some out) : Ct l yL_isOn cL_isOn 4 (some .boolean) rm_L_isOn [vR 36, vR 39, vI p2] S (some (vI out)) S := by
  refine Ct.intro (own := RL) (lv := [(0, vR 36), (1, vR 39), (2, vI p2)]) (by decide +kernel) rfl ⟨rfl, rfl⟩ rfl (Nat.le_of_ble_eq_true rfl) ?_
  intro G hG hR
  revert h
  have hb49 : ∀ (t0 : Int32), f_L_isOn_b49 p2 S t0 = some out → G 0 0 S [] 49 [vI t0] := by
    intro t0
    unfold f_L_isOn_b49
    exact s_rzP hR dL_isOn_49
  have hb37 : ∀ (x3 : Int32), f_L_isOn_b37 p2 S x3 = some out → G 0 0 S [(2, vI p2), (3, vI x3)] 37 [] := by
    intro x3
    unfold f_L_isOn_b37
    refine s_iload_n hG dL_isOn_37 rfl ?_
    refine s_iload_n hG dL_isOn_38 rfl ?_
    refine s_iconst hG (v := (1 : Int32)) dL_isOn_39 (by decide) ?_
    refine s_iadd hG dL_isOn_40 ?_
    refine s_icmp_ne hG (tgt := 48) dL_isOn_41 (by decide) ?_ ?_
    · refine s_iconst hG (v := (0 : Int32)) dL_isOn_48 (by decide) ?_
      refine s_lv hG [] rfl ?_
      exact hb49 _
    · refine s_iconst hG (v := (1 : Int32)) dL_isOn_44 (by decide) ?_
      refine s_goto hG (tgt := 49) dL_isOn_45 (by decide) ?_
      refine s_lv hG [] rfl ?_
      exact hb49 _
  have hb11 : ∀ (x3 : Int32), f_L_isOn_b11 p2 S x3 = some out → G 0 0 S [(0, vR 36), (2, vI p2), (3, vI x3)] 11 [] := by
    intro  x3
    unfold f_L_isOn_b11
    generalize FU = nf
    revert x3
    induction nf with
    | zero => intro x3 h9; cases h9
    | succ nf hrec11 =>
      intro x3
      show F_L_isOn_b11 p2 S (fx (F_L_isOn_b11 p2 S) nf) (x3) = some out → _
      generalize fx (F_L_isOn_b11 p2 S) nf = rec11 at hrec11
      unfold F_L_isOn_b11
      dsimp only
      refine s_iload_n hG dL_isOn_11 rfl ?_
      refine s_if_le hG (tgt := 37) dL_isOn_12 (by decide) ?_ ?_
      · refine s_lv hG [1, 2] rfl ?_
        exact hb37 _
      · refine s_iload_n hG dL_isOn_15 rfl ?_
        refine s_iload_n hG dL_isOn_16 rfl ?_
        refine s_iconst hG (v := (1 : Int32)) dL_isOn_17 (by decide) ?_
        refine s_iadd hG dL_isOn_18 ?_
        refine s_icmp_eq hG (tgt := 37) dL_isOn_19 (by decide) ?_ ?_
        · refine s_lv hG [1, 2] rfl ?_
          exact hb37 _
        · refine s_aload_n hG dL_isOn_22 rfl ?_
          refine s_iload_n hG dL_isOn_23 rfl ?_
          refine s_iconst hG (v := (1 : Int32)) dL_isOn_24 (by decide) ?_
          refine s_isub hG dL_isOn_25 ?_
          refine s_iaload hG dL_isOn_26 (rfl) ?_
          refine s_iconst hG (v := (2 : Int32)) dL_isOn_27 (by decide) ?_
          refine s_bipush hG (v := (6 : Int32)) dL_isOn_28 (by decide) ?_
          refine s_csP hG (as := [vI (S.1 36 (x3 - (1 : Int32)).toNatClampNeg), vI (2 : Int32), vI (6 : Int32)]) (st := []) (rm := rm_L_part) dL_isOn_30 ml_RL_77 (tb13 (mem_i 1 rfl)) rfl ⟨rfl, rfl⟩ ⟨by decide, by decide⟩ (Nat.le_of_ble_eq_true rfl) ⟨Nat.zero_le _, Nat.zero_le _⟩ rfl (fun o h => c_L_part l _ _ _ _ o h) (fun o30 => ?_)
          refine s_istore_n hG (lv' := [(3, vI o30), (0, vR 36), (2, vI p2)]) dL_isOn_33 (by decide) rfl ?_
          refine s_goto hG (tgt := 11) dL_isOn_34 (by decide) ?_
          refine s_lv hG [1, 2, 0] rfl ?_
          exact hrec11 _
  unfold f_L_isOn
  refine s_aload_n hG dL_isOn_0 rfl ?_
  refine s_aload_n hG dL_isOn_1 rfl ?_
  refine s_iload_n hG dL_isOn_2 rfl ?_
  refine s_iaload hG dL_isOn_3 (rfl) ?_
  refine s_iconst hG (v := (0 : Int32)) dL_isOn_4 (by decide) ?_
  refine s_iconst hG (v := (2 : Int32)) dL_isOn_5 (by decide) ?_
  refine s_csP hG (as := [vI (S.1 36 p2.toNatClampNeg), vI (0 : Int32), vI (2 : Int32)]) (st := [vR 39]) (rm := rm_L_part) dL_isOn_6 ml_RL_77 (tb13 (mem_i 1 rfl)) rfl ⟨rfl, rfl⟩ ⟨by decide, by decide⟩ (Nat.le_of_ble_eq_true rfl) ⟨Nat.zero_le _, Nat.zero_le _⟩ rfl (fun o h => c_L_part l _ _ _ _ o h) (fun o6 => ?_)
  refine s_iaload hG dL_isOn_9 (rfl) ?_
  refine s_istore_n hG (lv' := [(3, vI (S.1 39 o6.toNatClampNeg)), (0, vR 36), (1, vR 39), (2, vI p2)]) dL_isOn_10 (by decide) rfl ?_
  refine s_lv hG [1, 3, 0] rfl ?_
  exact hb11 _

def f_L_draw_b23 (xs : Nat → Int32) (L : Nat) (p1 : Int32) (p2 : Int32)  (S : HS) (t0 : Int32) : Option (Int32) :=
if p2 = 0 then none else
some ((t0 &&& (2147483647 : Int32)) - (t0 &&& (2147483647 : Int32)) / p2 * p2)
def f_L_draw (xs : Nat → Int32) (L : Nat) (p1 : Int32) (p2 : Int32) (S : HS) : Option (Int32) :=
if (Int32.ofNat L) ≤ p1 then
f_L_draw_b23 xs L p1 p2  S (((935978451 : Int32) * (p1 + (569 : Int32))) + (732018677 : Int32))
else
if ib p1 L = true then
f_L_draw_b23 xs L p1 p2  S (xs p1.toNatClampNeg)
else none
def rm_L_draw : Room := { frames := 0, cells := 0, slots := 0, locals := 0 }
set_option maxRecDepth 100000 in
set_option maxHeartbeats 4000000 in
theorem c_L_draw (l : Launch) (xs : Nat → Int32) (L : Nat) (p1 p2 : Int32) (S : HS) (out : Int32) (h : f_L_draw xs L p1 p2 S = some out) : CtD l yL_draw cL_draw 4 (some .int) rm_L_draw xs L [vR 41, vI p1, vI p2] S (some (vI out)) S := by
  refine CtD.intro (own := RL) (lv := [(0, vR 41), (1, vI p1), (2, vI p2)]) (by decide +kernel) rfl rfl (Nat.le_of_ble_eq_true rfl) ?_
  intro G hGL hR
  have hG := hGL.ok
  revert h
  have hb23 : ∀ (t0 : Int32), f_L_draw_b23 xs L p1 p2 S t0 = some out → G 0 0 S [(2, vI p2)] 23 [vI t0] := by
    intro t0
    unfold f_L_draw_b23
    refine s_istore_n hG (lv' := [(3, vI t0), (2, vI p2)]) dL_draw_23 (by decide) rfl ?_
    refine s_iload_n hG dL_draw_24 rfl ?_
    refine s_ldc hG (v := (2147483647 : Int32)) dL_draw_25 (tb4 (mem_i 22 rfl)) ?_
    refine s_iand hG dL_draw_27 ?_
    refine s_iload_n hG dL_draw_28 rfl ?_
    refine s_irem hG dL_draw_29 ?_
    exact s_riP hR dL_draw_30
  unfold f_L_draw
  refine s_iload_n hG dL_draw_0 rfl ?_
  refine s_aload_n hG dL_draw_1 rfl ?_
  refine s_slen hGL dL_draw_2 ?_
  refine s_icmp_ge hG (tgt := 12) dL_draw_3 (by decide) ?_ ?_
  · refine s_ldc hG (v := (935978451 : Int32)) dL_draw_12 (tb4 (mem_i 20 rfl)) ?_
    refine s_iload_n hG dL_draw_14 rfl ?_
    refine s_sipush hG (v := (569 : Int32)) dL_draw_15 (by decide) ?_
    refine s_iadd hG dL_draw_18 ?_
    refine s_imul hG dL_draw_19 ?_
    refine s_ldc hG (v := (732018677 : Int32)) dL_draw_20 (tb4 (mem_i 21 rfl)) ?_
    refine s_iadd hG dL_draw_22 ?_
    refine s_lv hG [2] rfl ?_
    exact hb23 _
  · refine s_aload_n hG dL_draw_6 rfl ?_
    refine s_iload_n hG dL_draw_7 rfl ?_
    refine s_sld hGL dL_draw_8 ?_
    refine s_goto hG (tgt := 23) dL_draw_9 (by decide) ?_
    refine s_lv hG [2] rfl ?_
    exact hb23 _

def f_L_makes (p3 : Int32) (p4 : Int32) (S : HS) : Option (HS) :=
if ib (0 : Int32) (5) = true then
if ib p3 (4) = true then
if ib (S.1 38 (0 : Int32).toNatClampNeg) (60) = true then
if ib (0 : Int32) (5) = true then
if ib (0 : Int32) (5) = true then
if ib (0 : Int32) (5) = true then
if ib p3 (4) = true then
some (sI (sI (sI S 36 (S.1 38 (0 : Int32).toNatClampNeg).toNatClampNeg ((p3 ||| ((S.1 39 p3.toNatClampNeg) <<< ((2 : Int32) &&& 31))) ||| (p4 <<< ((8 : Int32) &&& 31)))) 38 (0 : Int32).toNatClampNeg (((sI S 36 (S.1 38 (0 : Int32).toNatClampNeg).toNatClampNeg ((p3 ||| ((S.1 39 p3.toNatClampNeg) <<< ((2 : Int32) &&& 31))) ||| (p4 <<< ((8 : Int32) &&& 31)))).1 38 (0 : Int32).toNatClampNeg) + (1 : Int32))) 39 p3.toNatClampNeg ((sI (sI S 36 (S.1 38 (0 : Int32).toNatClampNeg).toNatClampNeg ((p3 ||| ((S.1 39 p3.toNatClampNeg) <<< ((2 : Int32) &&& 31))) ||| (p4 <<< ((8 : Int32) &&& 31)))) 38 (0 : Int32).toNatClampNeg (((sI S 36 (S.1 38 (0 : Int32).toNatClampNeg).toNatClampNeg ((p3 ||| ((S.1 39 p3.toNatClampNeg) <<< ((2 : Int32) &&& 31))) ||| (p4 <<< ((8 : Int32) &&& 31)))).1 38 (0 : Int32).toNatClampNeg) + (1 : Int32))).1 38 (0 : Int32).toNatClampNeg))
else none
else none
else none
else none
else none
else none
else none
def rm_L_makes : Room := { frames := 0, cells := 0, slots := 0, locals := 0 }
set_option maxRecDepth 100000 in
set_option maxHeartbeats 4000000 in
theorem c_L_makes (l : Launch) (p3 : Int32) (p4 : Int32)  (S : HS) (out : HS) (h : f_L_makes p3 p4 S = some out) : Ct l yL_makes cL_makes 5 none rm_L_makes [vR 36, vR 38, vR 39, vI p3, vI p4] S none out := by
  refine Ct.intro (own := RL) (lv := [(0, vR 36), (1, vR 38), (2, vR 39), (3, vI p3), (4, vI p4)]) (by decide +kernel) rfl ⟨rfl, rfl⟩ rfl (Nat.le_of_ble_eq_true rfl) ?_
  intro G hG hR
  revert h
  unfold f_L_makes
  refine s_aload_n hG dL_makes_0 rfl ?_
  refine s_aload_n hG dL_makes_1 rfl ?_
  refine s_iconst hG (v := (0 : Int32)) dL_makes_2 (by decide) ?_
  refine s_iaload hG dL_makes_3 (rfl) ?_
  refine s_iload_n hG dL_makes_4 rfl ?_
  refine s_aload_n hG dL_makes_5 rfl ?_
  refine s_iload_n hG dL_makes_6 rfl ?_
  refine s_iaload hG dL_makes_7 (rfl) ?_
  refine s_iconst hG (v := (2 : Int32)) dL_makes_8 (by decide) ?_
  refine s_ishl hG dL_makes_9 ?_
  refine s_ior hG dL_makes_10 ?_
  refine s_iload hG dL_makes_11 rfl ?_
  refine s_bipush hG (v := (8 : Int32)) dL_makes_13 (by decide) ?_
  refine s_ishl hG dL_makes_15 ?_
  refine s_ior hG dL_makes_16 ?_
  refine s_iastore hG dL_makes_17 (rfl) ?_
  refine s_aload_n hG dL_makes_18 rfl ?_
  refine s_iconst hG (v := (0 : Int32)) dL_makes_19 (by decide) ?_
  refine s_dup2 hG dL_makes_20 rfl rfl ?_
  refine s_iaload hG dL_makes_21 (rfl) ?_
  refine s_iconst hG (v := (1 : Int32)) dL_makes_22 (by decide) ?_
  refine s_iadd hG dL_makes_23 ?_
  refine s_iastore hG dL_makes_24 (rfl) ?_
  refine s_aload_n hG dL_makes_25 rfl ?_
  refine s_iload_n hG dL_makes_26 rfl ?_
  refine s_aload_n hG dL_makes_27 rfl ?_
  refine s_iconst hG (v := (0 : Int32)) dL_makes_28 (by decide) ?_
  refine s_iaload hG dL_makes_29 (rfl) ?_
  refine s_iastore hG dL_makes_30 (rfl) ?_
  exact s_rvC hR dL_makes_31
