/-! 19.law5: by program (wip/p31/gen.py) -/
theorem dL_goes_0 : decode cL_goes 0 = .ok (.iload_n 2, 1) := by decide +kernel
theorem dL_goes_1 : decode cL_goes 1 = .ok (.iconst 3, 1) := by decide +kernel
theorem dL_goes_2 : decode cL_goes 2 = .ok (.irem, 1) := by decide +kernel
theorem dL_goes_3 : decode cL_goes 3 = .ok (.ifCond .le 75, 3) := by decide +kernel
theorem dL_goes_6 : decode cL_goes 6 = .ok (.aload 6, 2) := by decide +kernel
theorem dL_goes_8 : decode cL_goes 8 = .ok (.iload_n 1, 1) := by decide +kernel
theorem dL_goes_9 : decode cL_goes 9 = .ok (.iaload, 1) := by decide +kernel
theorem dL_goes_10 : decode cL_goes 10 = .ok (.istore 8, 2) := by decide +kernel
theorem dL_goes_12 : decode cL_goes 12 = .ok (.aload_n 0, 1) := by decide +kernel
theorem dL_goes_13 : decode cL_goes 13 = .ok (.bipush 6, 2) := by decide +kernel
theorem dL_goes_15 : decode cL_goes 15 = .ok (.iload_n 1, 1) := by decide +kernel
theorem dL_goes_16 : decode cL_goes 16 = .ok (.iconst 0, 1) := by decide +kernel
theorem dL_goes_17 : decode cL_goes 17 = .ok (.iconst 0, 1) := by decide +kernel
theorem dL_goes_18 : decode cL_goes 18 = .ok (.iconst 0, 1) := by decide +kernel
theorem dL_goes_19 : decode cL_goes 19 = .ok (.iconst 0, 1) := by decide +kernel
theorem dL_goes_20 : decode cL_goes 20 = .ok (.invokestatic 68, 3) := by decide +kernel
theorem dL_goes_23 : decode cL_goes 23 = .ok (.istore 9, 2) := by decide +kernel
theorem dL_goes_25 : decode cL_goes 25 = .ok (.iload 8, 2) := by decide +kernel
theorem dL_goes_27 : decode cL_goes 27 = .ok (.ifCond .ne 17, 3) := by decide +kernel
theorem dL_goes_30 : decode cL_goes 30 = .ok (.iload 9, 2) := by decide +kernel
theorem dL_goes_32 : decode cL_goes 32 = .ok (.sipush (-5008), 3) := by decide +kernel
theorem dL_goes_35 : decode cL_goes 35 = .ok (.if_icmp .ne 7, 3) := by decide +kernel
theorem dL_goes_38 : decode cL_goes 38 = .ok (.iconst 1, 1) := by decide +kernel
theorem dL_goes_39 : decode cL_goes 39 = .ok (.goto 4, 3) := by decide +kernel
theorem dL_goes_42 : decode cL_goes 42 = .ok (.iconst 0, 1) := by decide +kernel
theorem dL_goes_43 : decode cL_goes 43 = .ok (.ireturn, 1) := by decide +kernel
theorem dL_goes_44 : decode cL_goes 44 = .ok (.aload 6, 2) := by decide +kernel
theorem dL_goes_46 : decode cL_goes 46 = .ok (.iload_n 1, 1) := by decide +kernel
theorem dL_goes_47 : decode cL_goes 47 = .ok (.aload 4, 2) := by decide +kernel
theorem dL_goes_49 : decode cL_goes 49 = .ok (.iload 8, 2) := by decide +kernel
theorem dL_goes_51 : decode cL_goes 51 = .ok (.iconst 1, 1) := by decide +kernel
theorem dL_goes_52 : decode cL_goes 52 = .ok (.isub, 1) := by decide +kernel
theorem dL_goes_53 : decode cL_goes 53 = .ok (.iaload, 1) := by decide +kernel
theorem dL_goes_54 : decode cL_goes 54 = .ok (.iconst 2, 1) := by decide +kernel
theorem dL_goes_55 : decode cL_goes 55 = .ok (.bipush 6, 2) := by decide +kernel
theorem dL_goes_57 : decode cL_goes 57 = .ok (.invokestatic 77, 3) := by decide +kernel
theorem dL_goes_60 : decode cL_goes 60 = .ok (.iastore, 1) := by decide +kernel
theorem dL_goes_61 : decode cL_goes 61 = .ok (.iload 9, 2) := by decide +kernel
theorem dL_goes_63 : decode cL_goes 63 = .ok (.aload_n 0, 1) := by decide +kernel
theorem dL_goes_64 : decode cL_goes 64 = .ok (.aload 5, 2) := by decide +kernel
theorem dL_goes_66 : decode cL_goes 66 = .ok (.invokestatic 131, 3) := by decide +kernel
theorem dL_goes_69 : decode cL_goes 69 = .ok (.if_icmp .ne 7, 3) := by decide +kernel
theorem dL_goes_72 : decode cL_goes 72 = .ok (.iconst 1, 1) := by decide +kernel
theorem dL_goes_73 : decode cL_goes 73 = .ok (.goto 4, 3) := by decide +kernel
theorem dL_goes_76 : decode cL_goes 76 = .ok (.iconst 0, 1) := by decide +kernel
theorem dL_goes_77 : decode cL_goes 77 = .ok (.ireturn, 1) := by decide +kernel
theorem dL_goes_78 : decode cL_goes 78 = .ok (.aload_n 0, 1) := by decide +kernel
theorem dL_goes_79 : decode cL_goes 79 = .ok (.iload_n 1, 1) := by decide +kernel
theorem dL_goes_80 : decode cL_goes 80 = .ok (.invokevirtual 103, 3) := by decide +kernel
theorem dL_goes_83 : decode cL_goes 83 = .ok (.istore 8, 2) := by decide +kernel
theorem dL_goes_85 : decode cL_goes 85 = .ok (.iload 8, 2) := by decide +kernel
theorem dL_goes_87 : decode cL_goes 87 = .ok (.ifCond .ne 43, 3) := by decide +kernel
theorem dL_goes_90 : decode cL_goes 90 = .ok (.aload_n 0, 1) := by decide +kernel
theorem dL_goes_91 : decode cL_goes 91 = .ok (.bipush 7, 2) := by decide +kernel
theorem dL_goes_93 : decode cL_goes 93 = .ok (.iload_n 1, 1) := by decide +kernel
theorem dL_goes_94 : decode cL_goes 94 = .ok (.iconst 0, 1) := by decide +kernel
theorem dL_goes_95 : decode cL_goes 95 = .ok (.iconst 0, 1) := by decide +kernel
theorem dL_goes_96 : decode cL_goes 96 = .ok (.iconst 0, 1) := by decide +kernel
theorem dL_goes_97 : decode cL_goes 97 = .ok (.iconst 0, 1) := by decide +kernel
theorem dL_goes_98 : decode cL_goes 98 = .ok (.invokestatic 68, 3) := by decide +kernel
theorem dL_goes_101 : decode cL_goes 101 = .ok (.sipush (-5007), 3) := by decide +kernel
theorem dL_goes_104 : decode cL_goes 104 = .ok (.if_icmp .ne 24, 3) := by decide +kernel
theorem dL_goes_107 : decode cL_goes 107 = .ok (.aload_n 0, 1) := by decide +kernel
theorem dL_goes_108 : decode cL_goes 108 = .ok (.bipush 7, 2) := by decide +kernel
theorem dL_goes_110 : decode cL_goes 110 = .ok (.iload_n 1, 1) := by decide +kernel
theorem dL_goes_111 : decode cL_goes 111 = .ok (.iconst (-1), 1) := by decide +kernel
theorem dL_goes_112 : decode cL_goes 112 = .ok (.iconst 0, 1) := by decide +kernel
theorem dL_goes_113 : decode cL_goes 113 = .ok (.iconst 0, 1) := by decide +kernel
theorem dL_goes_114 : decode cL_goes 114 = .ok (.iconst 0, 1) := by decide +kernel
theorem dL_goes_115 : decode cL_goes 115 = .ok (.invokestatic 68, 3) := by decide +kernel
theorem dL_goes_118 : decode cL_goes 118 = .ok (.sipush (-5007), 3) := by decide +kernel
theorem dL_goes_121 : decode cL_goes 121 = .ok (.if_icmp .ne 7, 3) := by decide +kernel
theorem dL_goes_124 : decode cL_goes 124 = .ok (.iconst 1, 1) := by decide +kernel
theorem dL_goes_125 : decode cL_goes 125 = .ok (.goto 4, 3) := by decide +kernel
theorem dL_goes_128 : decode cL_goes 128 = .ok (.iconst 0, 1) := by decide +kernel
theorem dL_goes_129 : decode cL_goes 129 = .ok (.ireturn, 1) := by decide +kernel
theorem dL_goes_130 : decode cL_goes 130 = .ok (.iload_n 3, 1) := by decide +kernel
theorem dL_goes_131 : decode cL_goes 131 = .ok (.iload 8, 2) := by decide +kernel
theorem dL_goes_133 : decode cL_goes 133 = .ok (.irem, 1) := by decide +kernel
theorem dL_goes_134 : decode cL_goes 134 = .ok (.istore 9, 2) := by decide +kernel
theorem dL_goes_136 : decode cL_goes 136 = .ok (.iload 9, 2) := by decide +kernel
theorem dL_goes_138 : decode cL_goes 138 = .ok (.istore 10, 2) := by decide +kernel
theorem dL_goes_140 : decode cL_goes 140 = .ok (.iconst (-1), 1) := by decide +kernel
theorem dL_goes_141 : decode cL_goes 141 = .ok (.istore 11, 2) := by decide +kernel
theorem dL_goes_143 : decode cL_goes 143 = .ok (.iconst 0, 1) := by decide +kernel
theorem dL_goes_144 : decode cL_goes 144 = .ok (.istore 12, 2) := by decide +kernel
theorem dL_goes_146 : decode cL_goes 146 = .ok (.iload 12, 2) := by decide +kernel
theorem dL_goes_148 : decode cL_goes 148 = .ok (.aload 5, 2) := by decide +kernel
theorem dL_goes_150 : decode cL_goes 150 = .ok (.iconst 0, 1) := by decide +kernel
theorem dL_goes_151 : decode cL_goes 151 = .ok (.iaload, 1) := by decide +kernel
theorem dL_goes_152 : decode cL_goes 152 = .ok (.if_icmp .ge 60, 3) := by decide +kernel
theorem dL_goes_155 : decode cL_goes 155 = .ok (.aload 4, 2) := by decide +kernel
theorem dL_goes_157 : decode cL_goes 157 = .ok (.iload 12, 2) := by decide +kernel
theorem dL_goes_159 : decode cL_goes 159 = .ok (.iaload, 1) := by decide +kernel
theorem dL_goes_160 : decode cL_goes 160 = .ok (.iconst 0, 1) := by decide +kernel
theorem dL_goes_161 : decode cL_goes 161 = .ok (.iconst 2, 1) := by decide +kernel
theorem dL_goes_162 : decode cL_goes 162 = .ok (.invokestatic 77, 3) := by decide +kernel
theorem dL_goes_165 : decode cL_goes 165 = .ok (.iload_n 1, 1) := by decide +kernel
theorem dL_goes_166 : decode cL_goes 166 = .ok (.if_icmp .ne 40, 3) := by decide +kernel
theorem dL_goes_169 : decode cL_goes 169 = .ok (.aload 4, 2) := by decide +kernel
theorem dL_goes_171 : decode cL_goes 171 = .ok (.iload 12, 2) := by decide +kernel
theorem dL_goes_173 : decode cL_goes 173 = .ok (.iaload, 1) := by decide +kernel
theorem dL_goes_174 : decode cL_goes 174 = .ok (.iconst 2, 1) := by decide +kernel
theorem dL_goes_175 : decode cL_goes 175 = .ok (.bipush 6, 2) := by decide +kernel
theorem dL_goes_177 : decode cL_goes 177 = .ok (.invokestatic 77, 3) := by decide +kernel
theorem dL_goes_180 : decode cL_goes 180 = .ok (.aload 6, 2) := by decide +kernel
theorem dL_goes_182 : decode cL_goes 182 = .ok (.iload_n 1, 1) := by decide +kernel
theorem dL_goes_183 : decode cL_goes 183 = .ok (.iaload, 1) := by decide +kernel
theorem dL_goes_184 : decode cL_goes 184 = .ok (.if_icmp .ne 22, 3) := by decide +kernel
theorem dL_goes_187 : decode cL_goes 187 = .ok (.iload 10, 2) := by decide +kernel
theorem dL_goes_189 : decode cL_goes 189 = .ok (.ifCond .ne 10, 3) := by decide +kernel
theorem dL_goes_192 : decode cL_goes 192 = .ok (.iload 12, 2) := by decide +kernel
theorem dL_goes_194 : decode cL_goes 194 = .ok (.iconst 1, 1) := by decide +kernel
theorem dL_goes_195 : decode cL_goes 195 = .ok (.iadd, 1) := by decide +kernel
theorem dL_goes_196 : decode cL_goes 196 = .ok (.goto 5, 3) := by decide +kernel
theorem dL_goes_199 : decode cL_goes 199 = .ok (.iload 11, 2) := by decide +kernel
theorem dL_goes_201 : decode cL_goes 201 = .ok (.istore 11, 2) := by decide +kernel
theorem dL_goes_203 : decode cL_goes 203 = .ok (.iinc 10 (-1), 3) := by decide +kernel
theorem dL_goes_206 : decode cL_goes 206 = .ok (.iinc 12 1, 3) := by decide +kernel
theorem dL_goes_209 : decode cL_goes 209 = .ok (.goto (-63), 3) := by decide +kernel
theorem dL_goes_212 : decode cL_goes 212 = .ok (.aload_n 0, 1) := by decide +kernel
theorem dL_goes_213 : decode cL_goes 213 = .ok (.bipush 7, 2) := by decide +kernel
theorem dL_goes_215 : decode cL_goes 215 = .ok (.iload_n 1, 1) := by decide +kernel
theorem dL_goes_216 : decode cL_goes 216 = .ok (.iload 9, 2) := by decide +kernel
theorem dL_goes_218 : decode cL_goes 218 = .ok (.iconst 0, 1) := by decide +kernel
theorem dL_goes_219 : decode cL_goes 219 = .ok (.iconst 0, 1) := by decide +kernel
theorem dL_goes_220 : decode cL_goes 220 = .ok (.iconst 0, 1) := by decide +kernel
theorem dL_goes_221 : decode cL_goes 221 = .ok (.invokestatic 68, 3) := by decide +kernel
theorem dL_goes_224 : decode cL_goes 224 = .ok (.istore 12, 2) := by decide +kernel
theorem dL_goes_226 : decode cL_goes 226 = .ok (.aload 6, 2) := by decide +kernel
theorem dL_goes_228 : decode cL_goes 228 = .ok (.iload_n 1, 1) := by decide +kernel
theorem dL_goes_229 : decode cL_goes 229 = .ok (.iload 11, 2) := by decide +kernel
theorem dL_goes_231 : decode cL_goes 231 = .ok (.iastore, 1) := by decide +kernel
theorem dL_goes_232 : decode cL_goes 232 = .ok (.iload 12, 2) := by decide +kernel
theorem dL_goes_234 : decode cL_goes 234 = .ok (.aload_n 0, 1) := by decide +kernel
theorem dL_goes_235 : decode cL_goes 235 = .ok (.aload 5, 2) := by decide +kernel
theorem dL_goes_237 : decode cL_goes 237 = .ok (.invokestatic 131, 3) := by decide +kernel
theorem dL_goes_240 : decode cL_goes 240 = .ok (.if_icmp .ne 7, 3) := by decide +kernel
theorem dL_goes_243 : decode cL_goes 243 = .ok (.iconst 1, 1) := by decide +kernel
theorem dL_goes_244 : decode cL_goes 244 = .ok (.goto 4, 3) := by decide +kernel
theorem dL_goes_247 : decode cL_goes 247 = .ok (.iconst 0, 1) := by decide +kernel
theorem dL_goes_248 : decode cL_goes 248 = .ok (.istore 13, 2) := by decide +kernel
theorem dL_goes_250 : decode cL_goes 250 = .ok (.aload_n 0, 1) := by decide +kernel
theorem dL_goes_251 : decode cL_goes 251 = .ok (.aload 5, 2) := by decide +kernel
theorem dL_goes_253 : decode cL_goes 253 = .ok (.aload 7, 2) := by decide +kernel
theorem dL_goes_255 : decode cL_goes 255 = .ok (.invokestatic 123, 3) := by decide +kernel
theorem dL_goes_258 : decode cL_goes 258 = .ok (.iload 13, 2) := by decide +kernel
theorem dL_goes_260 : decode cL_goes 260 = .ok (.ifCond .eq 49, 3) := by decide +kernel
theorem dL_goes_263 : decode cL_goes 263 = .ok (.aload_n 0, 1) := by decide +kernel
theorem dL_goes_264 : decode cL_goes 264 = .ok (.bipush 6, 2) := by decide +kernel
theorem dL_goes_266 : decode cL_goes 266 = .ok (.iload_n 1, 1) := by decide +kernel
theorem dL_goes_267 : decode cL_goes 267 = .ok (.iconst 0, 1) := by decide +kernel
theorem dL_goes_268 : decode cL_goes 268 = .ok (.iconst 0, 1) := by decide +kernel
theorem dL_goes_269 : decode cL_goes 269 = .ok (.iconst 0, 1) := by decide +kernel
theorem dL_goes_270 : decode cL_goes 270 = .ok (.iconst 0, 1) := by decide +kernel
theorem dL_goes_271 : decode cL_goes 271 = .ok (.invokestatic 68, 3) := by decide +kernel
theorem dL_goes_274 : decode cL_goes 274 = .ok (.ifCond .lt 35, 3) := by decide +kernel
theorem dL_goes_277 : decode cL_goes 277 = .ok (.aload_n 0, 1) := by decide +kernel
theorem dL_goes_278 : decode cL_goes 278 = .ok (.bipush 7, 2) := by decide +kernel
theorem dL_goes_280 : decode cL_goes 280 = .ok (.iload_n 1, 1) := by decide +kernel
theorem dL_goes_281 : decode cL_goes 281 = .ok (.iload 9, 2) := by decide +kernel
theorem dL_goes_283 : decode cL_goes 283 = .ok (.iconst 0, 1) := by decide +kernel
theorem dL_goes_284 : decode cL_goes 284 = .ok (.iconst 0, 1) := by decide +kernel
theorem dL_goes_285 : decode cL_goes 285 = .ok (.iconst 0, 1) := by decide +kernel
theorem dL_goes_286 : decode cL_goes 286 = .ok (.invokestatic 68, 3) := by decide +kernel
theorem dL_goes_289 : decode cL_goes 289 = .ok (.iload 12, 2) := by decide +kernel
theorem dL_goes_291 : decode cL_goes 291 = .ok (.if_icmp .ne 18, 3) := by decide +kernel
theorem dL_goes_294 : decode cL_goes 294 = .ok (.aload_n 0, 1) := by decide +kernel
theorem dL_goes_295 : decode cL_goes 295 = .ok (.aload 5, 2) := by decide +kernel
theorem dL_goes_297 : decode cL_goes 297 = .ok (.aload 7, 2) := by decide +kernel
theorem dL_goes_299 : decode cL_goes 299 = .ok (.invokestatic 127, 3) := by decide +kernel
theorem dL_goes_302 : decode cL_goes 302 = .ok (.ifCond .ne 7, 3) := by decide +kernel
theorem dL_goes_305 : decode cL_goes 305 = .ok (.iconst 1, 1) := by decide +kernel
theorem dL_goes_306 : decode cL_goes 306 = .ok (.goto 4, 3) := by decide +kernel
theorem dL_goes_309 : decode cL_goes 309 = .ok (.iconst 0, 1) := by decide +kernel
theorem dL_goes_310 : decode cL_goes 310 = .ok (.ireturn, 1) := by decide +kernel
theorem ml_RL_131 : MS RL 131 yL_voids 2 := ⟨⟨by decide +kernel, by decide +kernel, by decide +kernel⟩, tb13 (mem_i 3 rfl), tb0 (mem_i 0 rfl), Or.inl (tb13 (mem_i 2 rfl))⟩
def f_L_goes_b310 (p1 : Int32) (p2 : Int32) (p3 : Int32)  (S : HS) (t0 : Int32) : Option (HS × Int32) :=
if nz t0 = true then some (S, t0) else none
def f_L_goes_b309 (p1 : Int32) (p2 : Int32) (p3 : Int32)  (S : HS) : Option (HS × Int32) :=
f_L_goes_b310 p1 p2 p3  S (0 : Int32)
def f_L_goes_b248 (p1 : Int32) (p2 : Int32) (p3 : Int32)  (S : HS) (x9 : Int32) (x12 : Int32) (t0 : Int32) : Option (HS × Int32) :=
(f_L_notes S).bind (fun o255 =>
if t0 = 0 then
f_L_goes_b309 p1 p2 p3  o255
else
(f_L_asks (6 : Int32) p1 (0 : Int32) (0 : Int32) (0 : Int32) (0 : Int32) o255).bind (fun o271 =>
if o271.2.2 < 0 then
f_L_goes_b309 p1 p2 p3  o271.1
else
(f_L_asks (7 : Int32) p1 x9 (0 : Int32) (0 : Int32) (0 : Int32) o271.1).bind (fun o286 =>
if o286.2.2 = x12 then
(f_L_differs o286.1).bind (fun o299 =>
if o299.2 = 0 then
f_L_goes_b310 p1 p2 p3  o299.1 (1 : Int32)
else
f_L_goes_b309 p1 p2 p3  o299.1)
else
f_L_goes_b309 p1 p2 p3  o286.1)))
def f_L_goes_b206 (p1 : Int32) (p2 : Int32) (p3 : Int32) (rec146 : HS × Int32 × Int32 × Int32 × Int32 → Option (HS × Int32)) (S : HS) (x9 : Int32) (x10 : Int32) (x11 : Int32) (x12 : Int32) : Option (HS × Int32) :=
rec146 (S, x9, x10, x11, (x12 + (1 : Int32)))
def f_L_goes_b201 (p1 : Int32) (p2 : Int32) (p3 : Int32) (rec146 : HS × Int32 × Int32 × Int32 × Int32 → Option (HS × Int32)) (S : HS) (x9 : Int32) (x10 : Int32) (x12 : Int32) (t0 : Int32) : Option (HS × Int32) :=
f_L_goes_b206 p1 p2 p3 rec146 S x9 (x10 + (-1 : Int32)) t0 x12
def F_L_goes_b146 (p1 : Int32) (p2 : Int32) (p3 : Int32)  (rec146 : HS × Int32 × Int32 × Int32 × Int32 → Option (HS × Int32)) : HS × Int32 × Int32 × Int32 × Int32 → Option (HS × Int32) := fun q => match q with
  | (S, x9, x10, x11, x12) =>
    if ib (0 : Int32) (5) = true then
    if (S.1 38 (0 : Int32).toNatClampNeg) ≤ x12 then
    (f_L_asks (7 : Int32) p1 x9 (0 : Int32) (0 : Int32) (0 : Int32) S).bind (fun o221 =>
    if ib p1 (4) = true then
    (f_L_voids (sI o221.1 39 p1.toNatClampNeg x11)).bind (fun o237 =>
    if o221.2.2 = o237.2 then
    f_L_goes_b248 p1 p2 p3  o237.1 x9 o221.2.2 (1 : Int32)
    else
    f_L_goes_b248 p1 p2 p3  o237.1 x9 o221.2.2 (0 : Int32))
    else none)
    else
    if ib x12 (60) = true then
    (f_L_part (S.1 36 x12.toNatClampNeg) (0 : Int32) (2 : Int32) S).bind (fun o162 =>
    if o162 = p1 then
    if ib x12 (60) = true then
    (f_L_part (S.1 36 x12.toNatClampNeg) (2 : Int32) (6 : Int32) S).bind (fun o177 =>
    if ib p1 (4) = true then
    if o177 = (S.1 39 p1.toNatClampNeg) then
    if x10 = 0 then
    f_L_goes_b201 p1 p2 p3 rec146 S x9 x10 x12 (x12 + (1 : Int32))
    else
    f_L_goes_b201 p1 p2 p3 rec146 S x9 x10 x12 x11
    else
    f_L_goes_b206 p1 p2 p3 rec146 S x9 x10 x11 x12
    else none)
    else none
    else
    f_L_goes_b206 p1 p2 p3 rec146 S x9 x10 x11 x12)
    else none
    else none
def f_L_goes_b146 (p1 : Int32) (p2 : Int32) (p3 : Int32)  (S : HS) (x9 : Int32) (x10 : Int32) (x11 : Int32) (x12 : Int32) : Option (HS × Int32) := fx (F_L_goes_b146 p1 p2 p3) FU (S, x9, x10, x11, x12)
def f_L_goes_b129 (p1 : Int32) (p2 : Int32) (p3 : Int32)  (S : HS) (t0 : Int32) : Option (HS × Int32) :=
if nz t0 = true then some (S, t0) else none
def f_L_goes_b128 (p1 : Int32) (p2 : Int32) (p3 : Int32)  (S : HS) : Option (HS × Int32) :=
f_L_goes_b129 p1 p2 p3  S (0 : Int32)
def f_L_goes_b77 (p1 : Int32) (p2 : Int32) (p3 : Int32)  (S : HS) (t0 : Int32) : Option (HS × Int32) :=
if nz t0 = true then some (S, t0) else none
def f_L_goes_b43 (p1 : Int32) (p2 : Int32) (p3 : Int32)  (S : HS) (t0 : Int32) : Option (HS × Int32) :=
if nz t0 = true then some (S, t0) else none
def f_L_goes (p1 : Int32) (p2 : Int32) (p3 : Int32) (S : HS) : Option (HS × Int32) :=
if (3 : Int32) = 0 then none else
if (p2 - p2 / (3 : Int32) * (3 : Int32)) ≤ 0 then
(f_X7_branches p1 S).bind (fun o80 => if o80.2.1 = 0 then
(fun (o80 : XO) =>
if o80.2.2 = 0 then
(f_L_asks (7 : Int32) p1 (0 : Int32) (0 : Int32) (0 : Int32) (0 : Int32) o80.1).bind (fun o98 =>
if o98.2.2 = (-5007 : Int32) then
(f_L_asks (7 : Int32) p1 (-1 : Int32) (0 : Int32) (0 : Int32) (0 : Int32) o98.1).bind (fun o115 =>
if o115.2.2 = (-5007 : Int32) then
f_L_goes_b129 p1 p2 p3  o115.1 (1 : Int32)
else
f_L_goes_b128 p1 p2 p3  o115.1)
else
f_L_goes_b128 p1 p2 p3  o98.1)
else
if o80.2.2 = 0 then none else
f_L_goes_b146 p1 p2 p3  o80.1 (p3 - p3 / o80.2.2 * o80.2.2) (p3 - p3 / o80.2.2 * o80.2.2) (-1 : Int32) (0 : Int32)) o80
else none)
else
if ib p1 (4) = true then
(f_L_asks (6 : Int32) p1 (0 : Int32) (0 : Int32) (0 : Int32) (0 : Int32) S).bind (fun o20 =>
if (S.1 39 p1.toNatClampNeg) = 0 then
if o20.2.2 = (-5008 : Int32) then
f_L_goes_b43 p1 p2 p3  o20.1 (1 : Int32)
else
f_L_goes_b43 p1 p2 p3  o20.1 (0 : Int32)
else
if ib ((S.1 39 p1.toNatClampNeg) - (1 : Int32)) (60) = true then
(f_L_part (o20.1.1 36 ((S.1 39 p1.toNatClampNeg) - (1 : Int32)).toNatClampNeg) (2 : Int32) (6 : Int32) o20.1).bind (fun o57 =>
if ib p1 (4) = true then
(f_L_voids (sI o20.1 39 p1.toNatClampNeg o57)).bind (fun o66 =>
if o20.2.2 = o66.2 then
f_L_goes_b77 p1 p2 p3  o66.1 (1 : Int32)
else
f_L_goes_b77 p1 p2 p3  o66.1 (0 : Int32))
else none)
else none)
else none
def rm_L_goes : Room := { frames := 9, cells := 3, slots := 18, locals := 237 }
set_option maxRecDepth 100000 in
set_option maxHeartbeats 40000000 in
theorem c_L_goes (l : Launch) (hl9 : l.stackTraces = false) (p1 : Int32) (p2 : Int32) (p3 : Int32) (S : HS) (out : HS × Int32) (h : f_L_goes p1 p2 p3 S = some out) : CtK l yL_goes cL_goes 14 (some .boolean) rm_L_goes [vR 0, vI p1, vI p2, vI p3, vR 36, vR 38, vR 39, vR 40] S (some (vI out.2)) out.1 := by
  refine CtK.intro (own := RL) (lv := [(0, vR 0), (1, vI p1), (2, vI p2), (3, vI p3), (4, vR 36), (5, vR 38), (6, vR 39), (7, vR 40)]) (by decide +kernel) rfl rfl (Nat.le_of_ble_eq_true rfl) ?_
  intro G hG hR
  have hRc : rm_L_goes.cells = 3 := rfl
  have hRs : rm_L_goes.slots = 18 := rfl
  revert h
  have hb310 : ∀ (k n : Nat), k + (0 + 0) ≤ 3 → n + 6 * (0 + 0) ≤ 18 → ∀ (S : HS) (t0 : Int32), f_L_goes_b310 p1 p2 p3 S t0 = some out → G k n S [] 310 [vI t0] := by
    intro  k n hk hn S t0
    unfold f_L_goes_b310
    exact s_rKZ hR (by omega) (by omega) dL_goes_310
  have hb309 : ∀ (k n : Nat), k + (0 + 0) ≤ 3 → n + 6 * (0 + 0) ≤ 18 → ∀ (S : HS), f_L_goes_b309 p1 p2 p3 S = some out → G k n S [] 309 [] := by
    intro  k n hk hn S
    unfold f_L_goes_b309
    refine s_iconst hG (v := (0 : Int32)) dL_goes_309 (by decide) ?_
    exact hb310  _ _ (by omega) (by omega) _ _
  have hb248 : ∀ (k n : Nat), k + (2 + 0) ≤ 3 → n + 6 * (2 + 0) ≤ 18 → ∀ (S : HS) (x9 : Int32) (x12 : Int32) (t0 : Int32), f_L_goes_b248 p1 p2 p3 S x9 x12 t0 = some out → G k n S [(0, vR 0), (1, vI p1), (5, vR 38), (7, vR 40), (9, vI x9), (12, vI x12)] 248 [vI t0] := by
    intro  k n hk hn S x9 x12 t0
    unfold f_L_goes_b248
    refine s_istore hG (lv' := [(13, vI t0), (0, vR 0), (1, vI p1), (5, vR 38), (7, vR 40), (9, vI x9), (12, vI x12)]) dL_goes_248 (by decide) rfl ?_
    refine s_aload_n hG dL_goes_250 rfl ?_
    refine s_aload hG dL_goes_251 rfl ?_
    refine s_aload hG dL_goes_253 rfl ?_
    refine s_csKV hG (as := [vR 0, vR 38, vR 40]) (st := []) (rm := rm_L_notes) (KK := 0) (NN := 0) dL_goes_255 ml_RL_123 (tb12 (mem_i 7 rfl)) rfl ⟨rfl, rfl⟩ ⟨Nat.le_of_ble_eq_true rfl, Nat.le_of_ble_eq_true rfl⟩ (Nat.le_of_ble_eq_true rfl) ⟨by omega, by omega⟩ rfl (fun o h => c_L_notes l hl9  _ o h) (fun o255 => ?_)
    refine s_iload hG dL_goes_258 rfl ?_
    refine s_if_eq hG (tgt := 309) dL_goes_260 (by decide) ?_ ?_
    · refine s_lv hG [] rfl ?_
      exact hb309  _ _ (by omega) (by omega) _
    · refine s_aload_n hG dL_goes_263 rfl ?_
      refine s_bipush hG (v := (6 : Int32)) dL_goes_264 (by decide) ?_
      refine s_iload_n hG dL_goes_266 rfl ?_
      refine s_iconst hG (v := (0 : Int32)) dL_goes_267 (by decide) ?_
      refine s_iconst hG (v := (0 : Int32)) dL_goes_268 (by decide) ?_
      refine s_iconst hG (v := (0 : Int32)) dL_goes_269 (by decide) ?_
      refine s_iconst hG (v := (0 : Int32)) dL_goes_270 (by decide) ?_
      refine s_aY hG (as := [vR 0, vI (6 : Int32), vI p1, vI (0 : Int32), vI (0 : Int32), vI (0 : Int32), vI (0 : Int32)]) (st := []) (rm := rm_L_asks) (hh := hh_L_asks) dL_goes_271 ml_RL_68 (tb4 (mem_i 23 rfl)) (exin (mem_i 45 (by decide +kernel))) rfl ⟨rfl, rfl⟩ ⟨Nat.le_of_ble_eq_true rfl, Nat.le_of_ble_eq_true rfl⟩ (Nat.le_of_ble_eq_true rfl) ⟨by omega, by omega⟩ rfl (fun o mc h01 h => c_L_asks l hl9 _ _ _ _ _ _ _ o mc h01 h) (fun o271 => ?_)
      refine s_if_lt hG (tgt := 309) dL_goes_274 (by decide) ?_ ?_
      · refine s_lv hG [] rfl ?_
        exact hb309  _ _ (by omega) (by omega) _
      · refine s_aload_n hG dL_goes_277 rfl ?_
        refine s_bipush hG (v := (7 : Int32)) dL_goes_278 (by decide) ?_
        refine s_iload_n hG dL_goes_280 rfl ?_
        refine s_iload hG dL_goes_281 rfl ?_
        refine s_iconst hG (v := (0 : Int32)) dL_goes_283 (by decide) ?_
        refine s_iconst hG (v := (0 : Int32)) dL_goes_284 (by decide) ?_
        refine s_iconst hG (v := (0 : Int32)) dL_goes_285 (by decide) ?_
        refine s_aY hG (as := [vR 0, vI (7 : Int32), vI p1, vI x9, vI (0 : Int32), vI (0 : Int32), vI (0 : Int32)]) (st := []) (rm := rm_L_asks) (hh := hh_L_asks) dL_goes_286 ml_RL_68 (tb4 (mem_i 23 rfl)) (exin (mem_i 45 (by decide +kernel))) rfl ⟨rfl, rfl⟩ ⟨Nat.le_of_ble_eq_true rfl, Nat.le_of_ble_eq_true rfl⟩ (Nat.le_of_ble_eq_true rfl) ⟨by omega, by omega⟩ rfl (fun o mc h01 h => c_L_asks l hl9 _ _ _ _ _ _ _ o mc h01 h) (fun o286 => ?_)
        refine s_iload hG dL_goes_289 rfl ?_
        refine s_icmp_ne hG (tgt := 309) dL_goes_291 (by decide) ?_ ?_
        · refine s_lv hG [] rfl ?_
          exact hb309  _ _ (by omega) (by omega) _
        · refine s_aload_n hG dL_goes_294 rfl ?_
          refine s_aload hG dL_goes_295 rfl ?_
          refine s_aload hG dL_goes_297 rfl ?_
          refine s_csKI hG (as := [vR 0, vR 38, vR 40]) (st := []) (rm := rm_L_differs) (KK := 0) (NN := 0) dL_goes_299 ml_RL_127 (tb12 (mem_i 10 rfl)) rfl ⟨rfl, rfl⟩ ⟨Nat.le_of_ble_eq_true rfl, Nat.le_of_ble_eq_true rfl⟩ (Nat.le_of_ble_eq_true rfl) ⟨by omega, by omega⟩ rfl (fun o h => c_L_differs l hl9  _ o h) (fun o299 => ?_)
          refine s_if_ne hG (tgt := 309) dL_goes_302 (by decide) ?_ ?_
          · refine s_lv hG [] rfl ?_
            exact hb309  _ _ (by omega) (by omega) _
          · refine s_iconst hG (v := (1 : Int32)) dL_goes_305 (by decide) ?_
            refine s_goto hG (tgt := 310) dL_goes_306 (by decide) ?_
            refine s_lv hG [] rfl ?_
            exact hb310  _ _ (by omega) (by omega) _ _
  have hb206 : ∀ (m146 : Nat) (rec146 : HS × Int32 × Int32 × Int32 × Int32 → Option (HS × Int32)) (hm146 : 3 + 0 ≤ m146) (hrec146 : ∀ (k n : Nat), k + m146 ≤ 3 → n + 6 * m146 ≤ 18 → ∀ (S : HS) (x9 : Int32) (x10 : Int32) (x11 : Int32) (x12 : Int32), rec146 (S, x9, x10, x11, x12) = some out → G k n S [(0, vR 0), (1, vI p1), (4, vR 36), (5, vR 38), (6, vR 39), (7, vR 40), (9, vI x9), (10, vI x10), (11, vI x11), (12, vI x12)] 146 []) (k n : Nat), k + (0 + m146) ≤ 3 → n + 6 * (0 + m146) ≤ 18 → ∀ (S : HS) (x9 : Int32) (x10 : Int32) (x11 : Int32) (x12 : Int32), f_L_goes_b206 p1 p2 p3 rec146 S x9 x10 x11 x12 = some out → G k n S [(0, vR 0), (1, vI p1), (4, vR 36), (5, vR 38), (6, vR 39), (7, vR 40), (9, vI x9), (10, vI x10), (11, vI x11), (12, vI x12)] 206 [] := by
    intro m146 rec146 hm146 hrec146 k n hk hn S x9 x10 x11 x12
    unfold f_L_goes_b206
    refine s_iinc hG (v := (x12 + (1 : Int32))) (lv' := [(12, vI (x12 + (1 : Int32))), (0, vR 0), (1, vI p1), (4, vR 36), (5, vR 38), (6, vR 39), (7, vR 40), (9, vI x9), (10, vI x10), (11, vI x11)]) dL_goes_206 rfl rfl (by decide) rfl ?_
    refine s_goto hG (tgt := 146) dL_goes_209 (by decide) ?_
    refine s_lv hG [1, 2, 3, 4, 5, 6, 7, 8, 9, 0] rfl ?_
    exact hrec146 _ _ (by omega) (by omega) _ _ _ _ _
  have hb201 : ∀ (m146 : Nat) (rec146 : HS × Int32 × Int32 × Int32 × Int32 → Option (HS × Int32)) (hm146 : 3 + 0 ≤ m146) (hrec146 : ∀ (k n : Nat), k + m146 ≤ 3 → n + 6 * m146 ≤ 18 → ∀ (S : HS) (x9 : Int32) (x10 : Int32) (x11 : Int32) (x12 : Int32), rec146 (S, x9, x10, x11, x12) = some out → G k n S [(0, vR 0), (1, vI p1), (4, vR 36), (5, vR 38), (6, vR 39), (7, vR 40), (9, vI x9), (10, vI x10), (11, vI x11), (12, vI x12)] 146 []) (k n : Nat), k + (0 + m146) ≤ 3 → n + 6 * (0 + m146) ≤ 18 → ∀ (S : HS) (x9 : Int32) (x10 : Int32) (x12 : Int32) (t0 : Int32), f_L_goes_b201 p1 p2 p3 rec146 S x9 x10 x12 t0 = some out → G k n S [(0, vR 0), (1, vI p1), (4, vR 36), (5, vR 38), (6, vR 39), (7, vR 40), (9, vI x9), (10, vI x10), (12, vI x12)] 201 [vI t0] := by
    intro m146 rec146 hm146 hrec146 k n hk hn S x9 x10 x12 t0
    unfold f_L_goes_b201
    refine s_istore hG (lv' := [(11, vI t0), (0, vR 0), (1, vI p1), (4, vR 36), (5, vR 38), (6, vR 39), (7, vR 40), (9, vI x9), (10, vI x10), (12, vI x12)]) dL_goes_201 (by decide) rfl ?_
    refine s_iinc hG (v := (x10 + (-1 : Int32))) (lv' := [(10, vI (x10 + (-1 : Int32))), (11, vI t0), (0, vR 0), (1, vI p1), (4, vR 36), (5, vR 38), (6, vR 39), (7, vR 40), (9, vI x9), (12, vI x12)]) dL_goes_203 rfl rfl (by decide) rfl ?_
    refine s_lv hG [2, 3, 4, 5, 6, 7, 8, 0, 1, 9] rfl ?_
    exact hb206 _ _ hm146 hrec146 _ _ (by omega) (by omega) _ _ _ _ _
  have hb146 : ∀ (k n : Nat), k + (0 * FU + 3 + 0) ≤ 3 → n + 6 * (0 * FU + 3 + 0) ≤ 18 → ∀ (S : HS) (x9 : Int32) (x10 : Int32) (x11 : Int32) (x12 : Int32), f_L_goes_b146 p1 p2 p3 S x9 x10 x11 x12 = some out → G k n S [(0, vR 0), (1, vI p1), (4, vR 36), (5, vR 38), (6, vR 39), (7, vR 40), (9, vI x9), (10, vI x10), (11, vI x11), (12, vI x12)] 146 [] := by
    suffices H : ∀ (nf k n : Nat), k + (0 * nf + 3 + 0) ≤ 3 → n + 6 * (0 * nf + 3 + 0) ≤ 18 → ∀ (S : HS) (x9 : Int32) (x10 : Int32) (x11 : Int32) (x12 : Int32), fx (F_L_goes_b146 p1 p2 p3) nf (S, x9, x10, x11, x12) = some out → G k n S [(0, vR 0), (1, vI p1), (4, vR 36), (5, vR 38), (6, vR 39), (7, vR 40), (9, vI x9), (10, vI x10), (11, vI x11), (12, vI x12)] 146 [] from fun k n hk hn S x9 x10 x11 x12 => H FU k n hk hn S x9 x10 x11 x12
    intro nf
    induction nf with
    | zero => intro k n _ _ S x9 x10 x11 x12 h9; cases h9
    | succ nf hrec146 =>
      intro k n hk0 hn0 S x9 x10 x11 x12
      show F_L_goes_b146 p1 p2 p3 (fx (F_L_goes_b146 p1 p2 p3) nf) (S, x9, x10, x11, x12) = some out → _
      generalize fx (F_L_goes_b146 p1 p2 p3) nf = rec146 at hrec146
      obtain ⟨m146, hq146⟩ : ∃ m, m = 0 * nf + 3 + 0 := ⟨_, rfl⟩
      rw [← hq146] at hrec146
      have hm146 : 3 + 0 ≤ m146 := by omega
      have hk : k + (0 + m146) ≤ 3 := by omega
      have hn : n + 6 * (0 + m146) ≤ 18 := by omega
      clear hk0 hn0 hq146
      unfold F_L_goes_b146
      dsimp only
      refine s_iload hG dL_goes_146 rfl ?_
      refine s_aload hG dL_goes_148 rfl ?_
      refine s_iconst hG (v := (0 : Int32)) dL_goes_150 (by decide) ?_
      refine s_iaload hG dL_goes_151 (rfl) ?_
      refine s_icmp_ge hG (tgt := 212) dL_goes_152 (by decide) ?_ ?_
      · refine s_aload_n hG dL_goes_212 rfl ?_
        refine s_bipush hG (v := (7 : Int32)) dL_goes_213 (by decide) ?_
        refine s_iload_n hG dL_goes_215 rfl ?_
        refine s_iload hG dL_goes_216 rfl ?_
        refine s_iconst hG (v := (0 : Int32)) dL_goes_218 (by decide) ?_
        refine s_iconst hG (v := (0 : Int32)) dL_goes_219 (by decide) ?_
        refine s_iconst hG (v := (0 : Int32)) dL_goes_220 (by decide) ?_
        refine s_aY hG (as := [vR 0, vI (7 : Int32), vI p1, vI x9, vI (0 : Int32), vI (0 : Int32), vI (0 : Int32)]) (st := []) (rm := rm_L_asks) (hh := hh_L_asks) dL_goes_221 ml_RL_68 (tb4 (mem_i 23 rfl)) (exin (mem_i 45 (by decide +kernel))) rfl ⟨rfl, rfl⟩ ⟨Nat.le_of_ble_eq_true rfl, Nat.le_of_ble_eq_true rfl⟩ (Nat.le_of_ble_eq_true rfl) ⟨by omega, by omega⟩ rfl (fun o mc h01 h => c_L_asks l hl9 _ _ _ _ _ _ _ o mc h01 h) (fun o221 => ?_)
        refine s_istore hG (lv' := [(12, vI o221.2.2), (0, vR 0), (1, vI p1), (4, vR 36), (5, vR 38), (6, vR 39), (7, vR 40), (9, vI x9), (10, vI x10), (11, vI x11)]) dL_goes_224 (by decide) rfl ?_
        refine s_aload hG dL_goes_226 rfl ?_
        refine s_iload_n hG dL_goes_228 rfl ?_
        refine s_iload hG dL_goes_229 rfl ?_
        refine s_iastore hG dL_goes_231 (rfl) ?_
        refine s_iload hG dL_goes_232 rfl ?_
        refine s_aload_n hG dL_goes_234 rfl ?_
        refine s_aload hG dL_goes_235 rfl ?_
        refine s_csKI hG (as := [vR 0, vR 38]) (st := [vI o221.2.2]) (rm := rm_L_voids) (KK := 0) (NN := 0) dL_goes_237 ml_RL_131 (tb13 (mem_i 4 rfl)) rfl ⟨rfl, rfl⟩ ⟨Nat.le_of_ble_eq_true rfl, Nat.le_of_ble_eq_true rfl⟩ (Nat.le_of_ble_eq_true rfl) ⟨by omega, by omega⟩ rfl (fun o h => c_L_voids l hl9  _ o h) (fun o237 => ?_)
        refine s_icmp_ne hG (tgt := 247) dL_goes_240 (by decide) ?_ ?_
        · refine s_iconst hG (v := (0 : Int32)) dL_goes_247 (by decide) ?_
          refine s_lv hG [1, 2, 4, 6, 7, 0] rfl ?_
          exact hb248  _ _ (by omega) (by omega) _ _ _ _
        · refine s_iconst hG (v := (1 : Int32)) dL_goes_243 (by decide) ?_
          refine s_goto hG (tgt := 248) dL_goes_244 (by decide) ?_
          refine s_lv hG [1, 2, 4, 6, 7, 0] rfl ?_
          exact hb248  _ _ (by omega) (by omega) _ _ _ _
      · refine s_aload hG dL_goes_155 rfl ?_
        refine s_iload hG dL_goes_157 rfl ?_
        refine s_iaload hG dL_goes_159 (rfl) ?_
        refine s_iconst hG (v := (0 : Int32)) dL_goes_160 (by decide) ?_
        refine s_iconst hG (v := (2 : Int32)) dL_goes_161 (by decide) ?_
        refine s_csP hG (as := [vI (S.1 36 x12.toNatClampNeg), vI (0 : Int32), vI (2 : Int32)]) (st := []) (rm := rm_L_part) dL_goes_162 ml_RL_77 (tb13 (mem_i 1 rfl)) rfl ⟨rfl, rfl⟩ ⟨Nat.le_of_ble_eq_true rfl, Nat.le_of_ble_eq_true rfl⟩ (Nat.le_of_ble_eq_true rfl) ⟨by omega, by omega⟩ rfl (fun o h => c_L_part l _ _ _ _ o h) (fun o162 => ?_)
        refine s_iload_n hG dL_goes_165 rfl ?_
        refine s_icmp_ne hG (tgt := 206) dL_goes_166 (by decide) ?_ ?_
        · exact hb206 _ _ hm146 hrec146 _ _ (by omega) (by omega) _ _ _ _ _
        · refine s_aload hG dL_goes_169 rfl ?_
          refine s_iload hG dL_goes_171 rfl ?_
          refine s_iaload hG dL_goes_173 (rfl) ?_
          refine s_iconst hG (v := (2 : Int32)) dL_goes_174 (by decide) ?_
          refine s_bipush hG (v := (6 : Int32)) dL_goes_175 (by decide) ?_
          refine s_csP hG (as := [vI (S.1 36 x12.toNatClampNeg), vI (2 : Int32), vI (6 : Int32)]) (st := []) (rm := rm_L_part) dL_goes_177 ml_RL_77 (tb13 (mem_i 1 rfl)) rfl ⟨rfl, rfl⟩ ⟨Nat.le_of_ble_eq_true rfl, Nat.le_of_ble_eq_true rfl⟩ (Nat.le_of_ble_eq_true rfl) ⟨by omega, by omega⟩ rfl (fun o h => c_L_part l _ _ _ _ o h) (fun o177 => ?_)
          refine s_aload hG dL_goes_180 rfl ?_
          refine s_iload_n hG dL_goes_182 rfl ?_
          refine s_iaload hG dL_goes_183 (rfl) ?_
          refine s_icmp_ne hG (tgt := 206) dL_goes_184 (by decide) ?_ ?_
          · exact hb206 _ _ hm146 hrec146 _ _ (by omega) (by omega) _ _ _ _ _
          · refine s_iload hG dL_goes_187 rfl ?_
            refine s_if_ne hG (tgt := 199) dL_goes_189 (by decide) ?_ ?_
            · refine s_iload hG dL_goes_199 rfl ?_
              refine s_lv hG [0, 1, 2, 3, 4, 5, 6, 7, 9] rfl ?_
              exact hb201 _ _ hm146 hrec146 _ _ (by omega) (by omega) _ _ _ _ _
            · refine s_iload hG dL_goes_192 rfl ?_
              refine s_iconst hG (v := (1 : Int32)) dL_goes_194 (by decide) ?_
              refine s_iadd hG dL_goes_195 ?_
              refine s_goto hG (tgt := 201) dL_goes_196 (by decide) ?_
              refine s_lv hG [0, 1, 2, 3, 4, 5, 6, 7, 9] rfl ?_
              exact hb201 _ _ hm146 hrec146 _ _ (by omega) (by omega) _ _ _ _ _
  have hb129 : ∀ (k n : Nat), k + (0 + 0) ≤ 3 → n + 6 * (0 + 0) ≤ 18 → ∀ (S : HS) (t0 : Int32), f_L_goes_b129 p1 p2 p3 S t0 = some out → G k n S [] 129 [vI t0] := by
    intro  k n hk hn S t0
    unfold f_L_goes_b129
    exact s_rKZ hR (by omega) (by omega) dL_goes_129
  have hb128 : ∀ (k n : Nat), k + (0 + 0) ≤ 3 → n + 6 * (0 + 0) ≤ 18 → ∀ (S : HS), f_L_goes_b128 p1 p2 p3 S = some out → G k n S [] 128 [] := by
    intro  k n hk hn S
    unfold f_L_goes_b128
    refine s_iconst hG (v := (0 : Int32)) dL_goes_128 (by decide) ?_
    exact hb129  _ _ (by omega) (by omega) _ _
  have hb77 : ∀ (k n : Nat), k + (0 + 0) ≤ 3 → n + 6 * (0 + 0) ≤ 18 → ∀ (S : HS) (t0 : Int32), f_L_goes_b77 p1 p2 p3 S t0 = some out → G k n S [] 77 [vI t0] := by
    intro  k n hk hn S t0
    unfold f_L_goes_b77
    exact s_rKZ hR (by omega) (by omega) dL_goes_77
  have hb43 : ∀ (k n : Nat), k + (0 + 0) ≤ 3 → n + 6 * (0 + 0) ≤ 18 → ∀ (S : HS) (t0 : Int32), f_L_goes_b43 p1 p2 p3 S t0 = some out → G k n S [] 43 [vI t0] := by
    intro  k n hk hn S t0
    unfold f_L_goes_b43
    exact s_rKZ hR (by omega) (by omega) dL_goes_43
  unfold f_L_goes
  refine s_iload_n hG dL_goes_0 rfl ?_
  refine s_iconst hG (v := (3 : Int32)) dL_goes_1 (by decide) ?_
  refine s_irem hG dL_goes_2 ?_
  refine s_if_le hG (tgt := 78) dL_goes_3 (by decide) ?_ ?_
  · refine s_aload_n hG dL_goes_78 rfl ?_
    refine s_iload_n hG dL_goes_79 rfl ?_
    refine s_dI hG (as := [vI p1]) (st := []) (rm := rm_X7_branches) (rmT := rmT_X7_branches) (by decide) dL_goes_80 ml_RL_103 (rfl) (tb13 (mem_i 8 rfl)) rfl ⟨rfl, rfl⟩ ⟨Nat.le_of_ble_eq_true rfl, Nat.le_of_ble_eq_true rfl⟩ (Nat.le_of_ble_eq_true rfl) ⟨by omega, by omega⟩ rfl (fun o h => c_X7_branches l hl9 _ _ o h) (fun o80 => ?_)
    refine s_istore hG (lv' := [(8, vI o80.2.2), (0, vR 0), (1, vI p1), (2, vI p2), (3, vI p3), (4, vR 36), (5, vR 38), (6, vR 39), (7, vR 40)]) dL_goes_83 (by decide) rfl ?_
    refine s_iload hG dL_goes_85 rfl ?_
    refine s_if_ne hG (tgt := 130) dL_goes_87 (by decide) ?_ ?_
    · refine s_iload_n hG dL_goes_130 rfl ?_
      refine s_iload hG dL_goes_131 rfl ?_
      refine s_irem hG dL_goes_133 ?_
      refine s_istore hG (lv' := [(9, vI (p3 - p3 / o80.2.2 * o80.2.2)), (8, vI o80.2.2), (0, vR 0), (1, vI p1), (2, vI p2), (3, vI p3), (4, vR 36), (5, vR 38), (6, vR 39), (7, vR 40)]) dL_goes_134 (by decide) rfl ?_
      refine s_iload hG dL_goes_136 rfl ?_
      refine s_istore hG (lv' := [(10, vI (p3 - p3 / o80.2.2 * o80.2.2)), (9, vI (p3 - p3 / o80.2.2 * o80.2.2)), (8, vI o80.2.2), (0, vR 0), (1, vI p1), (2, vI p2), (3, vI p3), (4, vR 36), (5, vR 38), (6, vR 39), (7, vR 40)]) dL_goes_138 (by decide) rfl ?_
      refine s_iconst hG (v := (-1 : Int32)) dL_goes_140 (by decide) ?_
      refine s_istore hG (lv' := [(11, vI (-1 : Int32)), (10, vI (p3 - p3 / o80.2.2 * o80.2.2)), (9, vI (p3 - p3 / o80.2.2 * o80.2.2)), (8, vI o80.2.2), (0, vR 0), (1, vI p1), (2, vI p2), (3, vI p3), (4, vR 36), (5, vR 38), (6, vR 39), (7, vR 40)]) dL_goes_141 (by decide) rfl ?_
      refine s_iconst hG (v := (0 : Int32)) dL_goes_143 (by decide) ?_
      refine s_istore hG (lv' := [(12, vI (0 : Int32)), (11, vI (-1 : Int32)), (10, vI (p3 - p3 / o80.2.2 * o80.2.2)), (9, vI (p3 - p3 / o80.2.2 * o80.2.2)), (8, vI o80.2.2), (0, vR 0), (1, vI p1), (2, vI p2), (3, vI p3), (4, vR 36), (5, vR 38), (6, vR 39), (7, vR 40)]) dL_goes_144 (by decide) rfl ?_
      refine s_lv hG [5, 6, 9, 10, 11, 12, 3, 2, 1, 0] rfl ?_
      exact hb146  _ _ (by omega) (by omega) _ _ _ _ _
    · refine s_aload_n hG dL_goes_90 rfl ?_
      refine s_bipush hG (v := (7 : Int32)) dL_goes_91 (by decide) ?_
      refine s_iload_n hG dL_goes_93 rfl ?_
      refine s_iconst hG (v := (0 : Int32)) dL_goes_94 (by decide) ?_
      refine s_iconst hG (v := (0 : Int32)) dL_goes_95 (by decide) ?_
      refine s_iconst hG (v := (0 : Int32)) dL_goes_96 (by decide) ?_
      refine s_iconst hG (v := (0 : Int32)) dL_goes_97 (by decide) ?_
      refine s_aY hG (as := [vR 0, vI (7 : Int32), vI p1, vI (0 : Int32), vI (0 : Int32), vI (0 : Int32), vI (0 : Int32)]) (st := []) (rm := rm_L_asks) (hh := hh_L_asks) dL_goes_98 ml_RL_68 (tb4 (mem_i 23 rfl)) (exin (mem_i 45 (by decide +kernel))) rfl ⟨rfl, rfl⟩ ⟨Nat.le_of_ble_eq_true rfl, Nat.le_of_ble_eq_true rfl⟩ (Nat.le_of_ble_eq_true rfl) ⟨by omega, by omega⟩ rfl (fun o mc h01 h => c_L_asks l hl9 _ _ _ _ _ _ _ o mc h01 h) (fun o98 => ?_)
      refine s_sipush hG (v := (-5007 : Int32)) dL_goes_101 (by decide) ?_
      refine s_icmp_ne hG (tgt := 128) dL_goes_104 (by decide) ?_ ?_
      · refine s_lv hG [] rfl ?_
        exact hb128  _ _ (by omega) (by omega) _
      · refine s_aload_n hG dL_goes_107 rfl ?_
        refine s_bipush hG (v := (7 : Int32)) dL_goes_108 (by decide) ?_
        refine s_iload_n hG dL_goes_110 rfl ?_
        refine s_iconst hG (v := (-1 : Int32)) dL_goes_111 (by decide) ?_
        refine s_iconst hG (v := (0 : Int32)) dL_goes_112 (by decide) ?_
        refine s_iconst hG (v := (0 : Int32)) dL_goes_113 (by decide) ?_
        refine s_iconst hG (v := (0 : Int32)) dL_goes_114 (by decide) ?_
        refine s_aY hG (as := [vR 0, vI (7 : Int32), vI p1, vI (-1 : Int32), vI (0 : Int32), vI (0 : Int32), vI (0 : Int32)]) (st := []) (rm := rm_L_asks) (hh := hh_L_asks) dL_goes_115 ml_RL_68 (tb4 (mem_i 23 rfl)) (exin (mem_i 45 (by decide +kernel))) rfl ⟨rfl, rfl⟩ ⟨Nat.le_of_ble_eq_true rfl, Nat.le_of_ble_eq_true rfl⟩ (Nat.le_of_ble_eq_true rfl) ⟨by omega, by omega⟩ rfl (fun o mc h01 h => c_L_asks l hl9 _ _ _ _ _ _ _ o mc h01 h) (fun o115 => ?_)
        refine s_sipush hG (v := (-5007 : Int32)) dL_goes_118 (by decide) ?_
        refine s_icmp_ne hG (tgt := 128) dL_goes_121 (by decide) ?_ ?_
        · refine s_lv hG [] rfl ?_
          exact hb128  _ _ (by omega) (by omega) _
        · refine s_iconst hG (v := (1 : Int32)) dL_goes_124 (by decide) ?_
          refine s_goto hG (tgt := 129) dL_goes_125 (by decide) ?_
          refine s_lv hG [] rfl ?_
          exact hb129  _ _ (by omega) (by omega) _ _
  · refine s_aload hG dL_goes_6 rfl ?_
    refine s_iload_n hG dL_goes_8 rfl ?_
    refine s_iaload hG dL_goes_9 (rfl) ?_
    refine s_istore hG (lv' := [(8, vI (S.1 39 p1.toNatClampNeg)), (0, vR 0), (1, vI p1), (2, vI p2), (3, vI p3), (4, vR 36), (5, vR 38), (6, vR 39), (7, vR 40)]) dL_goes_10 (by decide) rfl ?_
    refine s_aload_n hG dL_goes_12 rfl ?_
    refine s_bipush hG (v := (6 : Int32)) dL_goes_13 (by decide) ?_
    refine s_iload_n hG dL_goes_15 rfl ?_
    refine s_iconst hG (v := (0 : Int32)) dL_goes_16 (by decide) ?_
    refine s_iconst hG (v := (0 : Int32)) dL_goes_17 (by decide) ?_
    refine s_iconst hG (v := (0 : Int32)) dL_goes_18 (by decide) ?_
    refine s_iconst hG (v := (0 : Int32)) dL_goes_19 (by decide) ?_
    refine s_aY hG (as := [vR 0, vI (6 : Int32), vI p1, vI (0 : Int32), vI (0 : Int32), vI (0 : Int32), vI (0 : Int32)]) (st := []) (rm := rm_L_asks) (hh := hh_L_asks) dL_goes_20 ml_RL_68 (tb4 (mem_i 23 rfl)) (exin (mem_i 45 (by decide +kernel))) rfl ⟨rfl, rfl⟩ ⟨Nat.le_of_ble_eq_true rfl, Nat.le_of_ble_eq_true rfl⟩ (Nat.le_of_ble_eq_true rfl) ⟨by omega, by omega⟩ rfl (fun o mc h01 h => c_L_asks l hl9 _ _ _ _ _ _ _ o mc h01 h) (fun o20 => ?_)
    refine s_istore hG (lv' := [(9, vI o20.2.2), (8, vI (S.1 39 p1.toNatClampNeg)), (0, vR 0), (1, vI p1), (2, vI p2), (3, vI p3), (4, vR 36), (5, vR 38), (6, vR 39), (7, vR 40)]) dL_goes_23 (by decide) rfl ?_
    refine s_iload hG dL_goes_25 rfl ?_
    refine s_if_ne hG (tgt := 44) dL_goes_27 (by decide) ?_ ?_
    · refine s_aload hG dL_goes_44 rfl ?_
      refine s_iload_n hG dL_goes_46 rfl ?_
      refine s_aload hG dL_goes_47 rfl ?_
      refine s_iload hG dL_goes_49 rfl ?_
      refine s_iconst hG (v := (1 : Int32)) dL_goes_51 (by decide) ?_
      refine s_isub hG dL_goes_52 ?_
      refine s_iaload hG dL_goes_53 (rfl) ?_
      refine s_iconst hG (v := (2 : Int32)) dL_goes_54 (by decide) ?_
      refine s_bipush hG (v := (6 : Int32)) dL_goes_55 (by decide) ?_
      refine s_csP hG (as := [vI (o20.1.1 36 ((S.1 39 p1.toNatClampNeg) - (1 : Int32)).toNatClampNeg), vI (2 : Int32), vI (6 : Int32)]) (st := [vI p1, vR 39]) (rm := rm_L_part) dL_goes_57 ml_RL_77 (tb13 (mem_i 1 rfl)) rfl ⟨rfl, rfl⟩ ⟨Nat.le_of_ble_eq_true rfl, Nat.le_of_ble_eq_true rfl⟩ (Nat.le_of_ble_eq_true rfl) ⟨by omega, by omega⟩ rfl (fun o h => c_L_part l _ _ _ _ o h) (fun o57 => ?_)
      refine s_iastore hG dL_goes_60 (rfl) ?_
      refine s_iload hG dL_goes_61 rfl ?_
      refine s_aload_n hG dL_goes_63 rfl ?_
      refine s_aload hG dL_goes_64 rfl ?_
      refine s_csKI hG (as := [vR 0, vR 38]) (st := [vI o20.2.2]) (rm := rm_L_voids) (KK := 0) (NN := 0) dL_goes_66 ml_RL_131 (tb13 (mem_i 4 rfl)) rfl ⟨rfl, rfl⟩ ⟨Nat.le_of_ble_eq_true rfl, Nat.le_of_ble_eq_true rfl⟩ (Nat.le_of_ble_eq_true rfl) ⟨by omega, by omega⟩ rfl (fun o h => c_L_voids l hl9  _ o h) (fun o66 => ?_)
      refine s_icmp_ne hG (tgt := 76) dL_goes_69 (by decide) ?_ ?_
      · refine s_iconst hG (v := (0 : Int32)) dL_goes_76 (by decide) ?_
        refine s_lv hG [] rfl ?_
        exact hb77  _ _ (by omega) (by omega) _ _
      · refine s_iconst hG (v := (1 : Int32)) dL_goes_72 (by decide) ?_
        refine s_goto hG (tgt := 77) dL_goes_73 (by decide) ?_
        refine s_lv hG [] rfl ?_
        exact hb77  _ _ (by omega) (by omega) _ _
    · refine s_iload hG dL_goes_30 rfl ?_
      refine s_sipush hG (v := (-5008 : Int32)) dL_goes_32 (by decide) ?_
      refine s_icmp_ne hG (tgt := 42) dL_goes_35 (by decide) ?_ ?_
      · refine s_iconst hG (v := (0 : Int32)) dL_goes_42 (by decide) ?_
        refine s_lv hG [] rfl ?_
        exact hb43  _ _ (by omega) (by omega) _ _
      · refine s_iconst hG (v := (1 : Int32)) dL_goes_38 (by decide) ?_
        refine s_goto hG (tgt := 43) dL_goes_39 (by decide) ?_
        refine s_lv hG [] rfl ?_
        exact hb43  _ _ (by omega) (by omega) _ _
