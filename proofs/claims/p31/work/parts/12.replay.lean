/-! 12.replay: by program (wip/p31/gen.py) -/
theorem dX3_changedShapes_0 : decode cX3_changedShapes 0 = .ok (.iconst 0, 1) := by decide +kernel
theorem dX3_changedShapes_1 : decode cX3_changedShapes 1 = .ok (.istore_n 1, 1) := by decide +kernel
theorem dX3_changedShapes_2 : decode cX3_changedShapes 2 = .ok (.iconst 0, 1) := by decide +kernel
theorem dX3_changedShapes_3 : decode cX3_changedShapes 3 = .ok (.istore_n 2, 1) := by decide +kernel
theorem dX3_changedShapes_4 : decode cX3_changedShapes 4 = .ok (.iload_n 2, 1) := by decide +kernel
theorem dX3_changedShapes_5 : decode cX3_changedShapes 5 = .ok (.bipush 10, 2) := by decide +kernel
theorem dX3_changedShapes_7 : decode cX3_changedShapes 7 = .ok (.if_icmp .ge 42, 3) := by decide +kernel
theorem dX3_changedShapes_10 : decode cX3_changedShapes 10 = .ok (.aload_n 0, 1) := by decide +kernel
theorem dX3_changedShapes_11 : decode cX3_changedShapes 11 = .ok (.getfield 24, 3) := by decide +kernel
theorem dX3_changedShapes_14 : decode cX3_changedShapes 14 = .ok (.getfield 76, 3) := by decide +kernel
theorem dX3_changedShapes_17 : decode cX3_changedShapes 17 = .ok (.i2l, 1) := by decide +kernel
theorem dX3_changedShapes_18 : decode cX3_changedShapes 18 = .ok (.iload_n 2, 1) := by decide +kernel
theorem dX3_changedShapes_19 : decode cX3_changedShapes 19 = .ok (.invokestatic 34, 3) := by decide +kernel
theorem dX3_changedShapes_22 : decode cX3_changedShapes 22 = .ok (.ifCond .eq 21, 3) := by decide +kernel
theorem dX3_changedShapes_25 : decode cX3_changedShapes 25 = .ok (.aload_n 0, 1) := by decide +kernel
theorem dX3_changedShapes_26 : decode cX3_changedShapes 26 = .ok (.getfield 24, 3) := by decide +kernel
theorem dX3_changedShapes_29 : decode cX3_changedShapes 29 = .ok (.iload_n 2, 1) := by decide +kernel
theorem dX3_changedShapes_30 : decode cX3_changedShapes 30 = .ok (.aload_n 0, 1) := by decide +kernel
theorem dX3_changedShapes_31 : decode cX3_changedShapes 31 = .ok (.getfield 28, 3) := by decide +kernel
theorem dX3_changedShapes_34 : decode cX3_changedShapes 34 = .ok (.invokevirtual 80, 3) := by decide +kernel
theorem dX3_changedShapes_37 : decode cX3_changedShapes 37 = .ok (.ifCond .eq 6, 3) := by decide +kernel
theorem dX3_changedShapes_40 : decode cX3_changedShapes 40 = .ok (.iinc 1 1, 3) := by decide +kernel
theorem dX3_changedShapes_43 : decode cX3_changedShapes 43 = .ok (.iinc 2 1, 3) := by decide +kernel
theorem dX3_changedShapes_46 : decode cX3_changedShapes 46 = .ok (.goto (-42), 3) := by decide +kernel
theorem dX3_changedShapes_49 : decode cX3_changedShapes 49 = .ok (.iload_n 1, 1) := by decide +kernel
theorem dX3_changedShapes_50 : decode cX3_changedShapes 50 = .ok (.ireturn, 1) := by decide +kernel
theorem dX3_tryAct_0 : decode cX3_tryAct 0 = .ok (.aload_n 0, 1) := by decide +kernel
theorem dX3_tryAct_1 : decode cX3_tryAct 1 = .ok (.getfield 15, 3) := by decide +kernel
theorem dX3_tryAct_4 : decode cX3_tryAct 4 = .ok (.iload_n 1, 1) := by decide +kernel
theorem dX3_tryAct_5 : decode cX3_tryAct 5 = .ok (.invokevirtual 42, 3) := by decide +kernel
theorem dX3_tryAct_8 : decode cX3_tryAct 8 = .ok (.istore_n 2, 1) := by decide +kernel
theorem dX3_tryAct_9 : decode cX3_tryAct 9 = .ok (.aload_n 0, 1) := by decide +kernel
theorem dX3_tryAct_10 : decode cX3_tryAct 10 = .ok (.getfield 15, 3) := by decide +kernel
theorem dX3_tryAct_13 : decode cX3_tryAct 13 = .ok (.iload_n 1, 1) := by decide +kernel
theorem dX3_tryAct_14 : decode cX3_tryAct 14 = .ok (.iconst 0, 1) := by decide +kernel
theorem dX3_tryAct_15 : decode cX3_tryAct 15 = .ok (.invokevirtual 48, 3) := by decide +kernel
theorem dX3_tryAct_18 : decode cX3_tryAct 18 = .ok (.istore_n 3, 1) := by decide +kernel
theorem dX3_tryAct_19 : decode cX3_tryAct 19 = .ok (.aload_n 0, 1) := by decide +kernel
theorem dX3_tryAct_20 : decode cX3_tryAct 20 = .ok (.getfield 15, 3) := by decide +kernel
theorem dX3_tryAct_23 : decode cX3_tryAct 23 = .ok (.iload_n 1, 1) := by decide +kernel
theorem dX3_tryAct_24 : decode cX3_tryAct 24 = .ok (.iconst 1, 1) := by decide +kernel
theorem dX3_tryAct_25 : decode cX3_tryAct 25 = .ok (.invokevirtual 48, 3) := by decide +kernel
theorem dX3_tryAct_28 : decode cX3_tryAct 28 = .ok (.istore 4, 2) := by decide +kernel
theorem dX3_tryAct_30 : decode cX3_tryAct 30 = .ok (.aload_n 0, 1) := by decide +kernel
theorem dX3_tryAct_31 : decode cX3_tryAct 31 = .ok (.getfield 15, 3) := by decide +kernel
theorem dX3_tryAct_34 : decode cX3_tryAct 34 = .ok (.iload_n 1, 1) := by decide +kernel
theorem dX3_tryAct_35 : decode cX3_tryAct 35 = .ok (.iconst 2, 1) := by decide +kernel
theorem dX3_tryAct_36 : decode cX3_tryAct 36 = .ok (.invokevirtual 48, 3) := by decide +kernel
theorem dX3_tryAct_39 : decode cX3_tryAct 39 = .ok (.istore 5, 2) := by decide +kernel
theorem dX3_tryAct_41 : decode cX3_tryAct 41 = .ok (.aload_n 0, 1) := by decide +kernel
theorem dX3_tryAct_42 : decode cX3_tryAct 42 = .ok (.getfield 15, 3) := by decide +kernel
theorem dX3_tryAct_45 : decode cX3_tryAct 45 = .ok (.iload_n 1, 1) := by decide +kernel
theorem dX3_tryAct_46 : decode cX3_tryAct 46 = .ok (.iconst 3, 1) := by decide +kernel
theorem dX3_tryAct_47 : decode cX3_tryAct 47 = .ok (.invokevirtual 48, 3) := by decide +kernel
theorem dX3_tryAct_50 : decode cX3_tryAct 50 = .ok (.istore 6, 2) := by decide +kernel
theorem dX3_tryAct_52 : decode cX3_tryAct 52 = .ok (.iconst 0, 1) := by decide +kernel
theorem dX3_tryAct_53 : decode cX3_tryAct 53 = .ok (.istore 7, 2) := by decide +kernel
theorem dX3_tryAct_55 : decode cX3_tryAct 55 = .ok (.aload_n 0, 1) := by decide +kernel
theorem dX3_tryAct_56 : decode cX3_tryAct 56 = .ok (.getfield 28, 3) := by decide +kernel
theorem dX3_tryAct_59 : decode cX3_tryAct 59 = .ok (.aload_n 0, 1) := by decide +kernel
theorem dX3_tryAct_60 : decode cX3_tryAct 60 = .ok (.getfield 24, 3) := by decide +kernel
theorem dX3_tryAct_63 : decode cX3_tryAct 63 = .ok (.invokevirtual 52, 3) := by decide +kernel
theorem dX3_tryAct_66 : decode cX3_tryAct 66 = .ok (.aload_n 0, 1) := by decide +kernel
theorem dX3_tryAct_67 : decode cX3_tryAct 67 = .ok (.getfield 15, 3) := by decide +kernel
theorem dX3_tryAct_70 : decode cX3_tryAct 70 = .ok (.iload_n 1, 1) := by decide +kernel
theorem dX3_tryAct_71 : decode cX3_tryAct 71 = .ok (.invokevirtual 56, 3) := by decide +kernel
theorem dX3_tryAct_74 : decode cX3_tryAct 74 = .ok (.tableswitch 113 0 4 #[34, 54, 70, 87, 100], 34) := by decide +kernel
theorem dX3_tryAct_108 : decode cX3_tryAct 108 = .ok (.aload_n 0, 1) := by decide +kernel
theorem dX3_tryAct_109 : decode cX3_tryAct 109 = .ok (.getfield 28, 3) := by decide +kernel
theorem dX3_tryAct_112 : decode cX3_tryAct 112 = .ok (.iload_n 2, 1) := by decide +kernel
theorem dX3_tryAct_113 : decode cX3_tryAct 113 = .ok (.iload_n 3, 1) := by decide +kernel
theorem dX3_tryAct_114 : decode cX3_tryAct 114 = .ok (.iload 4, 2) := by decide +kernel
theorem dX3_tryAct_116 : decode cX3_tryAct 116 = .ok (.iload 5, 2) := by decide +kernel
theorem dX3_tryAct_118 : decode cX3_tryAct 118 = .ok (.iload 6, 2) := by decide +kernel
theorem dX3_tryAct_120 : decode cX3_tryAct 120 = .ok (.invokevirtual 59, 3) := by decide +kernel
theorem dX3_tryAct_123 : decode cX3_tryAct 123 = .ok (.istore 7, 2) := by decide +kernel
theorem dX3_tryAct_125 : decode cX3_tryAct 125 = .ok (.goto 62, 3) := by decide +kernel
theorem dX3_tryAct_128 : decode cX3_tryAct 128 = .ok (.aload_n 0, 1) := by decide +kernel
theorem dX3_tryAct_129 : decode cX3_tryAct 129 = .ok (.getfield 28, 3) := by decide +kernel
theorem dX3_tryAct_132 : decode cX3_tryAct 132 = .ok (.iload_n 2, 1) := by decide +kernel
theorem dX3_tryAct_133 : decode cX3_tryAct 133 = .ok (.iload_n 3, 1) := by decide +kernel
theorem dX3_tryAct_134 : decode cX3_tryAct 134 = .ok (.iload 4, 2) := by decide +kernel
theorem dX3_tryAct_136 : decode cX3_tryAct 136 = .ok (.invokevirtual 63, 3) := by decide +kernel
theorem dX3_tryAct_139 : decode cX3_tryAct 139 = .ok (.istore 7, 2) := by decide +kernel
theorem dX3_tryAct_141 : decode cX3_tryAct 141 = .ok (.goto 46, 3) := by decide +kernel
theorem dX3_tryAct_144 : decode cX3_tryAct 144 = .ok (.aload_n 0, 1) := by decide +kernel
theorem dX3_tryAct_145 : decode cX3_tryAct 145 = .ok (.getfield 28, 3) := by decide +kernel
theorem dX3_tryAct_148 : decode cX3_tryAct 148 = .ok (.iload_n 2, 1) := by decide +kernel
theorem dX3_tryAct_149 : decode cX3_tryAct 149 = .ok (.iload 5, 2) := by decide +kernel
theorem dX3_tryAct_151 : decode cX3_tryAct 151 = .ok (.iload 6, 2) := by decide +kernel
theorem dX3_tryAct_153 : decode cX3_tryAct 153 = .ok (.invokevirtual 67, 3) := by decide +kernel
theorem dX3_tryAct_156 : decode cX3_tryAct 156 = .ok (.istore 7, 2) := by decide +kernel
theorem dX3_tryAct_158 : decode cX3_tryAct 158 = .ok (.goto 29, 3) := by decide +kernel
theorem dX3_tryAct_161 : decode cX3_tryAct 161 = .ok (.aload_n 0, 1) := by decide +kernel
theorem dX3_tryAct_162 : decode cX3_tryAct 162 = .ok (.getfield 28, 3) := by decide +kernel
theorem dX3_tryAct_165 : decode cX3_tryAct 165 = .ok (.iload_n 2, 1) := by decide +kernel
theorem dX3_tryAct_166 : decode cX3_tryAct 166 = .ok (.invokevirtual 70, 3) := by decide +kernel
theorem dX3_tryAct_169 : decode cX3_tryAct 169 = .ok (.istore 7, 2) := by decide +kernel
theorem dX3_tryAct_171 : decode cX3_tryAct 171 = .ok (.goto 16, 3) := by decide +kernel
theorem dX3_tryAct_174 : decode cX3_tryAct 174 = .ok (.aload_n 0, 1) := by decide +kernel
theorem dX3_tryAct_175 : decode cX3_tryAct 175 = .ok (.getfield 28, 3) := by decide +kernel
theorem dX3_tryAct_178 : decode cX3_tryAct 178 = .ok (.iload_n 2, 1) := by decide +kernel
theorem dX3_tryAct_179 : decode cX3_tryAct 179 = .ok (.invokevirtual 73, 3) := by decide +kernel
theorem dX3_tryAct_182 : decode cX3_tryAct 182 = .ok (.istore 7, 2) := by decide +kernel
theorem dX3_tryAct_184 : decode cX3_tryAct 184 = .ok (.goto 3, 3) := by decide +kernel
theorem dX3_tryAct_187 : decode cX3_tryAct 187 = .ok (.iload 7, 2) := by decide +kernel
theorem dX3_tryAct_189 : decode cX3_tryAct 189 = .ok (.ifCond .eq 23, 3) := by decide +kernel
theorem dX3_tryAct_192 : decode cX3_tryAct 192 = .ok (.aload_n 0, 1) := by decide +kernel
theorem dX3_tryAct_193 : decode cX3_tryAct 193 = .ok (.getfield 24, 3) := by decide +kernel
theorem dX3_tryAct_196 : decode cX3_tryAct 196 = .ok (.astore 8, 2) := by decide +kernel
theorem dX3_tryAct_198 : decode cX3_tryAct 198 = .ok (.aload_n 0, 1) := by decide +kernel
theorem dX3_tryAct_199 : decode cX3_tryAct 199 = .ok (.aload_n 0, 1) := by decide +kernel
theorem dX3_tryAct_200 : decode cX3_tryAct 200 = .ok (.getfield 28, 3) := by decide +kernel
theorem dX3_tryAct_203 : decode cX3_tryAct 203 = .ok (.putfield 24, 3) := by decide +kernel
theorem dX3_tryAct_206 : decode cX3_tryAct 206 = .ok (.aload_n 0, 1) := by decide +kernel
theorem dX3_tryAct_207 : decode cX3_tryAct 207 = .ok (.aload 8, 2) := by decide +kernel
theorem dX3_tryAct_209 : decode cX3_tryAct 209 = .ok (.putfield 28, 3) := by decide +kernel
theorem dX3_tryAct_212 : decode cX3_tryAct 212 = .ok (.iload 7, 2) := by decide +kernel
theorem dX3_tryAct_214 : decode cX3_tryAct 214 = .ok (.ireturn, 1) := by decide +kernel
theorem dX3_redo_0 : decode cX3_redo 0 = .ok (.aload_n 0, 1) := by decide +kernel
theorem dX3_redo_1 : decode cX3_redo 1 = .ok (.getfield 24, 3) := by decide +kernel
theorem dX3_redo_4 : decode cX3_redo 4 = .ok (.invokevirtual 31, 3) := by decide +kernel
theorem dX3_redo_7 : decode cX3_redo 7 = .ok (.aload_n 0, 1) := by decide +kernel
theorem dX3_redo_8 : decode cX3_redo 8 = .ok (.lconst 0, 1) := by decide +kernel
theorem dX3_redo_9 : decode cX3_redo 9 = .ok (.putfield 9, 3) := by decide +kernel
theorem dX3_redo_12 : decode cX3_redo 12 = .ok (.iconst 0, 1) := by decide +kernel
theorem dX3_redo_13 : decode cX3_redo 13 = .ok (.istore_n 3, 1) := by decide +kernel
theorem dX3_redo_14 : decode cX3_redo 14 = .ok (.iload_n 3, 1) := by decide +kernel
theorem dX3_redo_15 : decode cX3_redo 15 = .ok (.bipush 60, 2) := by decide +kernel
theorem dX3_redo_17 : decode cX3_redo 17 = .ok (.if_icmp .ge 37, 3) := by decide +kernel
theorem dX3_redo_20 : decode cX3_redo 20 = .ok (.lload_n 1, 1) := by decide +kernel
theorem dX3_redo_21 : decode cX3_redo 21 = .ok (.iload_n 3, 1) := by decide +kernel
theorem dX3_redo_22 : decode cX3_redo 22 = .ok (.invokestatic 34, 3) := by decide +kernel
theorem dX3_redo_25 : decode cX3_redo 25 = .ok (.ifCond .eq 23, 3) := by decide +kernel
theorem dX3_redo_28 : decode cX3_redo 28 = .ok (.aload_n 0, 1) := by decide +kernel
theorem dX3_redo_29 : decode cX3_redo 29 = .ok (.iload_n 3, 1) := by decide +kernel
theorem dX3_redo_30 : decode cX3_redo 30 = .ok (.invokevirtual 38, 3) := by decide +kernel
theorem dX3_redo_33 : decode cX3_redo 33 = .ok (.ifCond .ne 15, 3) := by decide +kernel
theorem dX3_redo_36 : decode cX3_redo 36 = .ok (.aload_n 0, 1) := by decide +kernel
theorem dX3_redo_37 : decode cX3_redo 37 = .ok (.dup, 1) := by decide +kernel
theorem dX3_redo_38 : decode cX3_redo 38 = .ok (.getfield 9, 3) := by decide +kernel
theorem dX3_redo_41 : decode cX3_redo 41 = .ok (.lconst 1, 1) := by decide +kernel
theorem dX3_redo_42 : decode cX3_redo 42 = .ok (.iload_n 3, 1) := by decide +kernel
theorem dX3_redo_43 : decode cX3_redo 43 = .ok (.lshl, 1) := by decide +kernel
theorem dX3_redo_44 : decode cX3_redo 44 = .ok (.lor, 1) := by decide +kernel
theorem dX3_redo_45 : decode cX3_redo 45 = .ok (.putfield 9, 3) := by decide +kernel
theorem dX3_redo_48 : decode cX3_redo 48 = .ok (.iinc 3 1, 3) := by decide +kernel
theorem dX3_redo_51 : decode cX3_redo 51 = .ok (.goto (-37), 3) := by decide +kernel
theorem dX3_redo_54 : decode cX3_redo 54 = .ok (.return_, 1) := by decide +kernel
theorem fl_RX3_24 : FL RX3 24 3 1 (tyX3 1) := ⟨RX3, TX3, 4, tyX3, rfl, by decide, lyX3, tyX3_ok, nmX3, rfl, Or.inl (tb2 (mem_i 29 rfl))⟩
theorem fl_RX3_76 : FL RX3 76 0 5 .int := ⟨RX0, TX0, 7, tyX0, rfl, by decide, lyX0, tyX0_ok, nmX0, rfl, Or.inr ⟨_, nf0 (mem_i 15 rfl)⟩⟩
theorem ml_RX3_34 : MS RX3 34 yX7_has 2 := ⟨⟨by decide +kernel, by decide +kernel, by decide +kernel⟩, tb6 (mem_i 13 rfl), tb0 (mem_i 1 rfl), Or.inr ⟨_, nf1 (mem_i 21 rfl)⟩⟩
theorem fl_RX3_28 : FL RX3 28 3 2 (tyX3 2) := ⟨RX3, TX3, 4, tyX3, rfl, by decide, lyX3, tyX3_ok, nmX3, rfl, Or.inl (tb3 (mem_i 0 rfl))⟩
theorem ml_RX3_80 : MV RX3 80 0 yX0_differsAt 2 := ⟨⟨by decide +kernel, by decide +kernel, by decide +kernel⟩, tb8 (mem_i 14 rfl), tb0 (mem_i 6 rfl), Or.inr ⟨_, nf1 (mem_i 22 rfl)⟩, RX0, TX0, 7, rfl, rfl, tb17 (mem_i 4 rfl)⟩
theorem fp_3_1 : FP 3 1 := fun C T N h => by cases h; rfl
theorem fp_3_2 : FP 3 2 := fun C T N h => by cases h; rfl
theorem fl_RX3_15 : FL RX3 15 3 0 (tyX3 0) := ⟨RX3, TX3, 4, tyX3, rfl, by decide, lyX3, tyX3_ok, nmX3, rfl, Or.inl (tb2 (mem_i 28 rfl))⟩
theorem ml_RX3_42 : MV RX3 42 6 yX6_subjectOf 1 := ⟨⟨by decide +kernel, by decide +kernel, by decide +kernel⟩, tb5 (mem_i 25 rfl), tb0 (mem_i 4 rfl), Or.inr ⟨_, nf1 (mem_i 3 rfl)⟩, RX6, TX6, 7, rfl, rfl, tb16 (mem_i 10 rfl)⟩
theorem ml_RX3_48 : MV RX3 48 6 yX6_wantedBy 2 := ⟨⟨by decide +kernel, by decide +kernel, by decide +kernel⟩, tb5 (mem_i 27 rfl), tb0 (mem_i 4 rfl), Or.inr ⟨_, nf1 (mem_i 5 rfl)⟩, RX6, TX6, 7, rfl, rfl, tb16 (mem_i 11 rfl)⟩
theorem ml_RX3_52 : MV RX3 52 0 yX0_copyFrom 1 := ⟨⟨by decide +kernel, by decide +kernel, by decide +kernel⟩, tb5 (mem_i 29 rfl), tb0 (mem_i 6 rfl), Or.inr ⟨_, nf1 (mem_i 6 rfl)⟩, RX0, TX0, 7, rfl, rfl, tb16 (mem_i 12 rfl)⟩
theorem ml_RX3_56 : MV RX3 56 6 yX6_deedOf 1 := ⟨⟨by decide +kernel, by decide +kernel, by decide +kernel⟩, tb6 (mem_i 4 rfl), tb0 (mem_i 4 rfl), Or.inr ⟨_, nf1 (mem_i 7 rfl)⟩, RX6, TX6, 7, rfl, rfl, tb16 (mem_i 13 rfl)⟩
theorem ml_RX3_59 : MV RX3 59 0 yX0_addShape 5 := ⟨⟨by decide +kernel, by decide +kernel, by decide +kernel⟩, tb6 (mem_i 6 rfl), tb0 (mem_i 6 rfl), Or.inr ⟨_, nf1 (mem_i 8 rfl)⟩, RX0, TX0, 7, rfl, rfl, tb16 (mem_i 14 rfl)⟩
theorem ml_RX3_63 : MV RX3 63 0 yX0_moveTo 3 := ⟨⟨by decide +kernel, by decide +kernel, by decide +kernel⟩, tb6 (mem_i 11 rfl), tb0 (mem_i 6 rfl), Or.inr ⟨_, nf1 (mem_i 10 rfl)⟩, RX0, TX0, 7, rfl, rfl, tb16 (mem_i 16 rfl)⟩
theorem ml_RX3_67 : MV RX3 67 0 yX0_resizeTo 3 := ⟨⟨by decide +kernel, by decide +kernel, by decide +kernel⟩, tb7 (mem_i 1 rfl), tb0 (mem_i 6 rfl), Or.inr ⟨_, nf1 (mem_i 16 rfl)⟩, RX0, TX0, 7, rfl, rfl, tb16 (mem_i 22 rfl)⟩
theorem ml_RX3_70 : MV RX3 70 0 yX0_layRule 1 := ⟨⟨by decide +kernel, by decide +kernel, by decide +kernel⟩, tb7 (mem_i 22 rfl), tb0 (mem_i 6 rfl), Or.inr ⟨_, nf1 (mem_i 17 rfl)⟩, RX0, TX0, 7, rfl, rfl, tb16 (mem_i 28 rfl)⟩
theorem ml_RX3_73 : MV RX3 73 0 yX0_dropRule 1 := ⟨⟨by decide +kernel, by decide +kernel, by decide +kernel⟩, tb7 (mem_i 24 rfl), tb0 (mem_i 6 rfl), Or.inr ⟨_, nf1 (mem_i 18 rfl)⟩, RX0, TX0, 7, rfl, rfl, tb16 (mem_i 29 rfl)⟩
theorem ml_RX3_38 : MV RX3 38 3 yX3_tryAct 1 := ⟨⟨by decide +kernel, by decide +kernel, by decide +kernel⟩, tb5 (mem_i 23 rfl), tb0 (mem_i 5 rfl), Or.inl (tb9 (mem_i 24 rfl)), RX3, TX3, 4, rfl, rfl, tb16 (mem_i 9 rfl)⟩
theorem fl_RX3_9 : FL RX3 9 3 3 .long := ⟨RX3, TX3, 4, tyX3, rfl, by decide, lyX3, tyX3_ok, nmX3, rfl, Or.inl (tb3 (mem_i 1 rfl))⟩
theorem fp_3_3 : FP 3 3 := fun C T N h => by cases h; rfl
theorem ml_RX3_31 : MV RX3 31 0 yX0_clear 0 := ⟨⟨by decide +kernel, by decide +kernel, by decide +kernel⟩, tb9 (mem_i 22 rfl), tb0 (mem_i 6 rfl), Or.inr ⟨_, nf2 (mem_i 0 rfl)⟩, RX0, TX0, 7, rfl, rfl, tb17 (mem_i 11 rfl)⟩
def f_X3_changedShapes_b43 (a0 : Nat) (rec4 : Int32 × Int32 → Option (Int32)) (S : HS) (x1 : Int32) (x2 : Int32) : Option (Int32) :=
rec4 (x1, (x2 + (1 : Int32)))
def F_X3_changedShapes_b4 (a0 : Nat)  (S : HS) (rec4 : Int32 × Int32 → Option (Int32)) : Int32 × Int32 → Option (Int32) := fun q => match q with
  | (x1, x2) =>
    if (10 : Int32) ≤ x2 then
    some x1
    else
    rf (S.2.2 a0 1) 0 (fun b11 =>
    (f_X7_has ((S.1 b11 5).toInt64) x2 S).bind (fun o19 =>
    if o19 = 0 then
    f_X3_changedShapes_b43 a0 rec4 S x1 x2
    else
    rf (S.2.2 a0 1) 0 (fun b26 =>
    rf (S.2.2 a0 2) 0 (fun b31 =>
    (f_X0_differsAt b26 x2 b31 S).bind (fun o34 =>
    if o34 = 0 then
    f_X3_changedShapes_b43 a0 rec4 S x1 x2
    else
    f_X3_changedShapes_b43 a0 rec4 S (x1 + (1 : Int32)) x2)))))
def f_X3_changedShapes_b4 (a0 : Nat)  (S : HS) (x1 : Int32) (x2 : Int32) : Option (Int32) := fx (F_X3_changedShapes_b4 a0 S) FU (x1, x2)
def f_X3_changedShapes (a0 : Nat) (S : HS) : Option (Int32) :=
f_X3_changedShapes_b4 a0  S (0 : Int32) (0 : Int32)
def rm_X3_changedShapes : Room := { frames := 3, cells := 0, slots := 0, locals := 66 }
set_option maxRecDepth 100000 in
set_option maxHeartbeats 4000000 in
theorem c_X3_changedShapes (l : Launch) (a0 : Nat) (ha0 : oc a0 = some 3) (S : HS) (out : Int32) (h : f_X3_changedShapes a0 S = some out) : Ct l yX3_changedShapes cX3_changedShapes 3 (some .int) rm_X3_changedShapes [vR a0] S (some (vI out)) S := by
  refine Ct.intro (own := RX3) (lv := [(0, vR a0)]) (by decide +kernel) rfl ⟨rfl, rfl⟩ rfl (Nat.le_of_ble_eq_true rfl) ?_
  intro G hG hR
  revert h
  have hb43 : ∀ (rec4 : Int32 × Int32 → Option (Int32)) (hrec4 : ∀ (x1 : Int32) (x2 : Int32), rec4 (x1, x2) = some out → G 0 0 S [(0, vR a0), (1, vI x1), (2, vI x2)] 4 []) (x1 : Int32) (x2 : Int32), f_X3_changedShapes_b43 a0 rec4 S x1 x2 = some out → G 0 0 S [(0, vR a0), (1, vI x1), (2, vI x2)] 43 [] := by
    intro rec4 hrec4 x1 x2
    unfold f_X3_changedShapes_b43
    refine s_iinc hG (v := (x2 + (1 : Int32))) (lv' := [(2, vI (x2 + (1 : Int32))), (0, vR a0), (1, vI x1)]) dX3_changedShapes_43 rfl rfl (by decide) rfl ?_
    refine s_goto hG (tgt := 4) dX3_changedShapes_46 (by decide) ?_
    refine s_lv hG [1, 2, 0] rfl ?_
    exact hrec4 _ _
  have hb4 : ∀ (x1 : Int32) (x2 : Int32), f_X3_changedShapes_b4 a0 S x1 x2 = some out → G 0 0 S [(0, vR a0), (1, vI x1), (2, vI x2)] 4 [] := by
    intro  x1 x2
    unfold f_X3_changedShapes_b4
    generalize FU = nf
    revert x1 x2
    induction nf with
    | zero => intro x1 x2 h9; cases h9
    | succ nf hrec4 =>
      intro x1 x2
      show F_X3_changedShapes_b4 a0 S (fx (F_X3_changedShapes_b4 a0 S) nf) (x1, x2) = some out → _
      generalize fx (F_X3_changedShapes_b4 a0 S) nf = rec4 at hrec4
      unfold F_X3_changedShapes_b4
      dsimp only
      refine s_iload_n hG dX3_changedShapes_4 rfl ?_
      refine s_bipush hG (v := (10 : Int32)) dX3_changedShapes_5 (by decide) ?_
      refine s_icmp_ge hG (tgt := 49) dX3_changedShapes_7 (by decide) ?_ ?_
      · refine s_iload_n hG dX3_changedShapes_49 rfl ?_
        exact s_riP hR dX3_changedShapes_50
      · refine s_aload_n hG dX3_changedShapes_10 rfl ?_
        refine s_getR hG (cj := 0) dX3_changedShapes_11 fl_RX3_24 (fk3_1 _ ha0) (fun b11 hb_11 => ?_)
        refine s_getI hG dX3_changedShapes_14 fl_RX3_76 (fk0_5 _ hb_11) ?_
        refine s_i2l hG dX3_changedShapes_17 ?_
        refine s_iload_n hG dX3_changedShapes_18 rfl ?_
        refine s_csP hG (as := [vL ((S.1 b11 5).toInt64), vI x2]) (st := []) (rm := rm_X7_has) dX3_changedShapes_19 ml_RX3_34 (tb6 (mem_i 14 rfl)) rfl ⟨rfl, rfl⟩ ⟨by decide, by decide⟩ (Nat.le_of_ble_eq_true rfl) ⟨Nat.zero_le _, Nat.zero_le _⟩ rfl (fun o h => c_X7_has l _ _ _ o h) (fun o19 => ?_)
        refine s_if_eq hG (tgt := 43) dX3_changedShapes_22 (by decide) ?_ ?_
        · exact hb43 _ hrec4 _ _
        · refine s_aload_n hG dX3_changedShapes_25 rfl ?_
          refine s_getR hG (cj := 0) dX3_changedShapes_26 fl_RX3_24 (fk3_1 _ ha0) (fun b26 hb_26 => ?_)
          refine s_iload_n hG dX3_changedShapes_29 rfl ?_
          refine s_aload_n hG dX3_changedShapes_30 rfl ?_
          refine s_getR hG (cj := 0) dX3_changedShapes_31 fl_RX3_28 (fk3_2 _ ha0) (fun b31 hb_31 => ?_)
          refine s_cvP hG (as := [vI x2, vR b31]) (st := []) (rm := rm_X0_differsAt) dX3_changedShapes_34 ml_RX3_80 (hb_26) (tb8 (mem_i 15 rfl)) rfl ⟨rfl, rfl⟩ ⟨by decide, by decide⟩ (Nat.le_of_ble_eq_true rfl) ⟨Nat.zero_le _, Nat.zero_le _⟩ rfl (fun o h => c_X0_differsAt l _ _ _ (hb_26) (hb_31) _ o h) (fun o34 => ?_)
          refine s_if_eq hG (tgt := 43) dX3_changedShapes_37 (by decide) ?_ ?_
          · exact hb43 _ hrec4 _ _
          · refine s_iinc hG (v := (x1 + (1 : Int32))) (lv' := [(1, vI (x1 + (1 : Int32))), (0, vR a0), (2, vI x2)]) dX3_changedShapes_40 rfl rfl (by decide) rfl ?_
            refine s_lv hG [1, 0, 2] rfl ?_
            exact hb43 _ hrec4 _ _
  unfold f_X3_changedShapes
  refine s_iconst hG (v := (0 : Int32)) dX3_changedShapes_0 (by decide) ?_
  refine s_istore_n hG (lv' := [(1, vI (0 : Int32)), (0, vR a0)]) dX3_changedShapes_1 (by decide) rfl ?_
  refine s_iconst hG (v := (0 : Int32)) dX3_changedShapes_2 (by decide) ?_
  refine s_istore_n hG (lv' := [(2, vI (0 : Int32)), (1, vI (0 : Int32)), (0, vR a0)]) dX3_changedShapes_3 (by decide) rfl ?_
  refine s_lv hG [2, 1, 0] rfl ?_
  exact hb4 _ _

def f_X3_tryAct_b212 (a0 : Nat) (p1 : Int32)  (S : HS) (x7 : Int32) : Option (HS × Int32) :=
if nz x7 = true then some (S, x7) else none
def f_X3_tryAct_b187 (a0 : Nat) (p1 : Int32)  (S : HS) (x7 : Int32) : Option (HS × Int32) :=
if x7 = 0 then
f_X3_tryAct_b212 a0 p1  S x7
else
rf (S.2.2 a0 1) 0 (fun b193 =>
rf (S.2.2 a0 2) 0 (fun b200 =>
f_X3_tryAct_b212 a0 p1  (sR (sR S a0 1 (some b200)) a0 2 (some b193)) x7))
def f_X3_tryAct (a0 : Nat) (p1 : Int32) (S : HS) : Option (HS × Int32) :=
(f_X6_subjectOf p1 S).bind (fun o5 =>
(f_X6_wantedBy p1 (0 : Int32) S).bind (fun o15 =>
(f_X6_wantedBy p1 (1 : Int32) S).bind (fun o25 =>
(f_X6_wantedBy p1 (2 : Int32) S).bind (fun o36 =>
(f_X6_wantedBy p1 (3 : Int32) S).bind (fun o47 =>
rf (S.2.2 a0 2) 0 (fun b56 =>
rf (S.2.2 a0 1) 0 (fun b60 =>
(f_X0_copyFrom b56 b60 S).bind (fun o63 =>
(f_X6_deedOf p1 o63).bind (fun o71 =>
if o71 = (0 : Int32) then
rf (o63.2.2 a0 2) 0 (fun b109 =>
(f_X0_addShape b109 o5 o15 o25 o36 o47 o63).bind (fun o120 =>
f_X3_tryAct_b187 a0 p1  o120.1 o120.2))
else if o71 = (1 : Int32) then
rf (o63.2.2 a0 2) 0 (fun b129 =>
(f_X0_moveTo b129 o5 o15 o25 o63).bind (fun o136 =>
f_X3_tryAct_b187 a0 p1  o136.1 o136.2))
else if o71 = (2 : Int32) then
rf (o63.2.2 a0 2) 0 (fun b145 =>
(f_X0_resizeTo b145 o5 o36 o47 o63).bind (fun o153 =>
f_X3_tryAct_b187 a0 p1  o153.1 o153.2))
else if o71 = (3 : Int32) then
rf (o63.2.2 a0 2) 0 (fun b162 =>
(f_X0_layRule b162 o5 o63).bind (fun o166 =>
f_X3_tryAct_b187 a0 p1  o166.1 o166.2))
else if o71 = (4 : Int32) then
rf (o63.2.2 a0 2) 0 (fun b175 =>
(f_X0_dropRule b175 o5 o63).bind (fun o179 =>
f_X3_tryAct_b187 a0 p1  o179.1 o179.2))
else 
f_X3_tryAct_b187 a0 p1  o63 (0 : Int32))))))))))
def rm_X3_tryAct : Room := { frames := 5, cells := 0, slots := 0, locals := 135 }
set_option maxRecDepth 100000 in
set_option maxHeartbeats 4000000 in
theorem c_X3_tryAct (l : Launch) (a0 : Nat) (p1 : Int32) (ha0 : oc a0 = some 3) (S : HS) (out : HS × Int32) (h : f_X3_tryAct a0 p1 S = some out) : Ct l yX3_tryAct cX3_tryAct 9 (some .boolean) rm_X3_tryAct [vR a0, vI p1] S (some (vI out.2)) out.1 := by
  refine Ct.intro (own := RX3) (lv := [(0, vR a0), (1, vI p1)]) (by decide +kernel) rfl ⟨rfl, rfl⟩ rfl (Nat.le_of_ble_eq_true rfl) ?_
  intro G hG hR
  revert h
  have hb212 : ∀ (S : HS) (x7 : Int32), f_X3_tryAct_b212 a0 p1 S x7 = some out → G 0 0 S [(7, vI x7)] 212 [] := by
    intro S x7
    unfold f_X3_tryAct_b212
    refine s_iload hG dX3_tryAct_212 rfl ?_
    exact s_rzC hR dX3_tryAct_214
  have hb187 : ∀ (S : HS) (x7 : Int32), f_X3_tryAct_b187 a0 p1 S x7 = some out → G 0 0 S [(0, vR a0), (7, vI x7)] 187 [] := by
    intro S x7
    unfold f_X3_tryAct_b187
    refine s_iload hG dX3_tryAct_187 rfl ?_
    refine s_if_eq hG (tgt := 212) dX3_tryAct_189 (by decide) ?_ ?_
    · refine s_lv hG [1] rfl ?_
      exact hb212 _ _
    · refine s_aload_n hG dX3_tryAct_192 rfl ?_
      refine s_getR hG (cj := 0) dX3_tryAct_193 fl_RX3_24 (fk3_1 _ ha0) (fun b193 hb_193 => ?_)
      refine s_astore hG (lv' := [(8, vR b193), (0, vR a0), (7, vI x7)]) dX3_tryAct_196 (by decide) rfl ?_
      refine s_aload_n hG dX3_tryAct_198 rfl ?_
      refine s_aload_n hG dX3_tryAct_199 rfl ?_
      refine s_getR hG (cj := 0) dX3_tryAct_200 fl_RX3_28 (fk3_2 _ ha0) (fun b200 hb_200 => ?_)
      refine s_putR hG dX3_tryAct_203 fl_RX3_24 fp_3_1 (fk3_1 _ ha0) (fun _ => ⟨rfl, rfl⟩) ?_
      refine s_aload_n hG dX3_tryAct_206 rfl ?_
      refine s_aload hG dX3_tryAct_207 rfl ?_
      refine s_putR hG dX3_tryAct_209 fl_RX3_28 fp_3_2 (fk3_2 _ ha0) (fun _ => ⟨rfl, rfl⟩) ?_
      refine s_lv hG [2] rfl ?_
      exact hb212 _ _
  unfold f_X3_tryAct
  refine s_aload_n hG dX3_tryAct_0 rfl ?_
  refine s_getC hG dX3_tryAct_1 fl_RX3_15 (fk3_0 _ ha0) ?_
  refine s_iload_n hG dX3_tryAct_4 rfl ?_
  refine s_cvP hG (as := [vI p1]) (st := []) (rm := rm_X6_subjectOf) dX3_tryAct_5 ml_RX3_42 (rfl) (tb5 (mem_i 26 rfl)) rfl ⟨rfl, rfl⟩ ⟨by decide, by decide⟩ (Nat.le_of_ble_eq_true rfl) ⟨Nat.zero_le _, Nat.zero_le _⟩ rfl (fun o h => c_X6_subjectOf l _ _ o h) (fun o5 => ?_)
  refine s_istore_n hG (lv' := [(2, vI o5), (0, vR a0), (1, vI p1)]) dX3_tryAct_8 (by decide) rfl ?_
  refine s_aload_n hG dX3_tryAct_9 rfl ?_
  refine s_getC hG dX3_tryAct_10 fl_RX3_15 (fk3_0 _ ha0) ?_
  refine s_iload_n hG dX3_tryAct_13 rfl ?_
  refine s_iconst hG (v := (0 : Int32)) dX3_tryAct_14 (by decide) ?_
  refine s_cvP hG (as := [vI p1, vI (0 : Int32)]) (st := []) (rm := rm_X6_wantedBy) dX3_tryAct_15 ml_RX3_48 (rfl) (tb5 (mem_i 28 rfl)) rfl ⟨rfl, rfl⟩ ⟨by decide, by decide⟩ (Nat.le_of_ble_eq_true rfl) ⟨Nat.zero_le _, Nat.zero_le _⟩ rfl (fun o h => c_X6_wantedBy l _ _ _ o h) (fun o15 => ?_)
  refine s_istore_n hG (lv' := [(3, vI o15), (2, vI o5), (0, vR a0), (1, vI p1)]) dX3_tryAct_18 (by decide) rfl ?_
  refine s_aload_n hG dX3_tryAct_19 rfl ?_
  refine s_getC hG dX3_tryAct_20 fl_RX3_15 (fk3_0 _ ha0) ?_
  refine s_iload_n hG dX3_tryAct_23 rfl ?_
  refine s_iconst hG (v := (1 : Int32)) dX3_tryAct_24 (by decide) ?_
  refine s_cvP hG (as := [vI p1, vI (1 : Int32)]) (st := []) (rm := rm_X6_wantedBy) dX3_tryAct_25 ml_RX3_48 (rfl) (tb5 (mem_i 28 rfl)) rfl ⟨rfl, rfl⟩ ⟨by decide, by decide⟩ (Nat.le_of_ble_eq_true rfl) ⟨Nat.zero_le _, Nat.zero_le _⟩ rfl (fun o h => c_X6_wantedBy l _ _ _ o h) (fun o25 => ?_)
  refine s_istore hG (lv' := [(4, vI o25), (3, vI o15), (2, vI o5), (0, vR a0), (1, vI p1)]) dX3_tryAct_28 (by decide) rfl ?_
  refine s_aload_n hG dX3_tryAct_30 rfl ?_
  refine s_getC hG dX3_tryAct_31 fl_RX3_15 (fk3_0 _ ha0) ?_
  refine s_iload_n hG dX3_tryAct_34 rfl ?_
  refine s_iconst hG (v := (2 : Int32)) dX3_tryAct_35 (by decide) ?_
  refine s_cvP hG (as := [vI p1, vI (2 : Int32)]) (st := []) (rm := rm_X6_wantedBy) dX3_tryAct_36 ml_RX3_48 (rfl) (tb5 (mem_i 28 rfl)) rfl ⟨rfl, rfl⟩ ⟨by decide, by decide⟩ (Nat.le_of_ble_eq_true rfl) ⟨Nat.zero_le _, Nat.zero_le _⟩ rfl (fun o h => c_X6_wantedBy l _ _ _ o h) (fun o36 => ?_)
  refine s_istore hG (lv' := [(5, vI o36), (4, vI o25), (3, vI o15), (2, vI o5), (0, vR a0), (1, vI p1)]) dX3_tryAct_39 (by decide) rfl ?_
  refine s_aload_n hG dX3_tryAct_41 rfl ?_
  refine s_getC hG dX3_tryAct_42 fl_RX3_15 (fk3_0 _ ha0) ?_
  refine s_iload_n hG dX3_tryAct_45 rfl ?_
  refine s_iconst hG (v := (3 : Int32)) dX3_tryAct_46 (by decide) ?_
  refine s_cvP hG (as := [vI p1, vI (3 : Int32)]) (st := []) (rm := rm_X6_wantedBy) dX3_tryAct_47 ml_RX3_48 (rfl) (tb5 (mem_i 28 rfl)) rfl ⟨rfl, rfl⟩ ⟨by decide, by decide⟩ (Nat.le_of_ble_eq_true rfl) ⟨Nat.zero_le _, Nat.zero_le _⟩ rfl (fun o h => c_X6_wantedBy l _ _ _ o h) (fun o47 => ?_)
  refine s_istore hG (lv' := [(6, vI o47), (5, vI o36), (4, vI o25), (3, vI o15), (2, vI o5), (0, vR a0), (1, vI p1)]) dX3_tryAct_50 (by decide) rfl ?_
  refine s_iconst hG (v := (0 : Int32)) dX3_tryAct_52 (by decide) ?_
  refine s_istore hG (lv' := [(7, vI (0 : Int32)), (6, vI o47), (5, vI o36), (4, vI o25), (3, vI o15), (2, vI o5), (0, vR a0), (1, vI p1)]) dX3_tryAct_53 (by decide) rfl ?_
  refine s_aload_n hG dX3_tryAct_55 rfl ?_
  refine s_getR hG (cj := 0) dX3_tryAct_56 fl_RX3_28 (fk3_2 _ ha0) (fun b56 hb_56 => ?_)
  refine s_aload_n hG dX3_tryAct_59 rfl ?_
  refine s_getR hG (cj := 0) dX3_tryAct_60 fl_RX3_24 (fk3_1 _ ha0) (fun b60 hb_60 => ?_)
  refine s_cvV hG (as := [vR b60]) (st := []) (rm := rm_X0_copyFrom) dX3_tryAct_63 ml_RX3_52 (hb_56) (tb6 (mem_i 0 rfl)) rfl ⟨rfl, rfl⟩ ⟨by decide, by decide⟩ (Nat.le_of_ble_eq_true rfl) ⟨Nat.zero_le _, Nat.zero_le _⟩ rfl (fun o h => c_X0_copyFrom l _ _ (hb_56) (hb_60) _ o h) (fun o63 => ?_)
  refine s_aload_n hG dX3_tryAct_66 rfl ?_
  refine s_getC hG dX3_tryAct_67 fl_RX3_15 (fk3_0 _ ha0) ?_
  refine s_iload_n hG dX3_tryAct_70 rfl ?_
  refine s_cvP hG (as := [vI p1]) (st := []) (rm := rm_X6_deedOf) dX3_tryAct_71 ml_RX3_56 (rfl) (tb6 (mem_i 5 rfl)) rfl ⟨rfl, rfl⟩ ⟨by decide, by decide⟩ (Nat.le_of_ble_eq_true rfl) ⟨Nat.zero_le _, Nat.zero_le _⟩ rfl (fun o h => c_X6_deedOf l _ _ o h) (fun o71 => ?_)
  refine s_tsw1 hG (v := (0 : Int32)) (tgt := 108) dX3_tryAct_74 (by decide) (by decide) rfl (by decide) ?_ (fun n74_0 => ?_)
  · refine s_aload_n hG dX3_tryAct_108 rfl ?_
    refine s_getR hG (cj := 0) dX3_tryAct_109 fl_RX3_28 (fk3_2 _ ha0) (fun b109 hb_109 => ?_)
    refine s_iload_n hG dX3_tryAct_112 rfl ?_
    refine s_iload_n hG dX3_tryAct_113 rfl ?_
    refine s_iload hG dX3_tryAct_114 rfl ?_
    refine s_iload hG dX3_tryAct_116 rfl ?_
    refine s_iload hG dX3_tryAct_118 rfl ?_
    refine s_cvI hG (as := [vI o5, vI o15, vI o25, vI o36, vI o47]) (st := []) (rm := rm_X0_addShape) dX3_tryAct_120 ml_RX3_59 (hb_109) (tb6 (mem_i 7 rfl)) rfl ⟨rfl, rfl⟩ ⟨by decide, by decide⟩ (Nat.le_of_ble_eq_true rfl) ⟨Nat.zero_le _, Nat.zero_le _⟩ rfl (fun o h => c_X0_addShape l _ _ _ _ _ _ (hb_109) _ o h) (fun o120 => ?_)
    refine s_istore hG (lv' := [(7, vI o120.2), (6, vI o47), (5, vI o36), (4, vI o25), (3, vI o15), (2, vI o5), (0, vR a0), (1, vI p1)]) dX3_tryAct_123 (by decide) rfl ?_
    refine s_goto hG (tgt := 187) dX3_tryAct_125 (by decide) ?_
    refine s_lv hG [6, 0] rfl ?_
    exact hb187 _ _
  refine s_tsw1 hG (v := (1 : Int32)) (tgt := 128) dX3_tryAct_74 (by decide) (by decide) rfl (by decide) ?_ (fun n74_1 => ?_)
  · refine s_aload_n hG dX3_tryAct_128 rfl ?_
    refine s_getR hG (cj := 0) dX3_tryAct_129 fl_RX3_28 (fk3_2 _ ha0) (fun b129 hb_129 => ?_)
    refine s_iload_n hG dX3_tryAct_132 rfl ?_
    refine s_iload_n hG dX3_tryAct_133 rfl ?_
    refine s_iload hG dX3_tryAct_134 rfl ?_
    refine s_cvI hG (as := [vI o5, vI o15, vI o25]) (st := []) (rm := rm_X0_moveTo) dX3_tryAct_136 ml_RX3_63 (hb_129) (tb6 (mem_i 12 rfl)) rfl ⟨rfl, rfl⟩ ⟨by decide, by decide⟩ (Nat.le_of_ble_eq_true rfl) ⟨Nat.zero_le _, Nat.zero_le _⟩ rfl (fun o h => c_X0_moveTo l _ _ _ _ (hb_129) _ o h) (fun o136 => ?_)
    refine s_istore hG (lv' := [(7, vI o136.2), (6, vI o47), (5, vI o36), (4, vI o25), (3, vI o15), (2, vI o5), (0, vR a0), (1, vI p1)]) dX3_tryAct_139 (by decide) rfl ?_
    refine s_goto hG (tgt := 187) dX3_tryAct_141 (by decide) ?_
    refine s_lv hG [6, 0] rfl ?_
    exact hb187 _ _
  refine s_tsw1 hG (v := (2 : Int32)) (tgt := 144) dX3_tryAct_74 (by decide) (by decide) rfl (by decide) ?_ (fun n74_2 => ?_)
  · refine s_aload_n hG dX3_tryAct_144 rfl ?_
    refine s_getR hG (cj := 0) dX3_tryAct_145 fl_RX3_28 (fk3_2 _ ha0) (fun b145 hb_145 => ?_)
    refine s_iload_n hG dX3_tryAct_148 rfl ?_
    refine s_iload hG dX3_tryAct_149 rfl ?_
    refine s_iload hG dX3_tryAct_151 rfl ?_
    refine s_cvI hG (as := [vI o5, vI o36, vI o47]) (st := []) (rm := rm_X0_resizeTo) dX3_tryAct_153 ml_RX3_67 (hb_145) (tb7 (mem_i 2 rfl)) rfl ⟨rfl, rfl⟩ ⟨by decide, by decide⟩ (Nat.le_of_ble_eq_true rfl) ⟨Nat.zero_le _, Nat.zero_le _⟩ rfl (fun o h => c_X0_resizeTo l _ _ _ _ (hb_145) _ o h) (fun o153 => ?_)
    refine s_istore hG (lv' := [(7, vI o153.2), (6, vI o47), (5, vI o36), (4, vI o25), (3, vI o15), (2, vI o5), (0, vR a0), (1, vI p1)]) dX3_tryAct_156 (by decide) rfl ?_
    refine s_goto hG (tgt := 187) dX3_tryAct_158 (by decide) ?_
    refine s_lv hG [6, 0] rfl ?_
    exact hb187 _ _
  refine s_tsw1 hG (v := (3 : Int32)) (tgt := 161) dX3_tryAct_74 (by decide) (by decide) rfl (by decide) ?_ (fun n74_3 => ?_)
  · refine s_aload_n hG dX3_tryAct_161 rfl ?_
    refine s_getR hG (cj := 0) dX3_tryAct_162 fl_RX3_28 (fk3_2 _ ha0) (fun b162 hb_162 => ?_)
    refine s_iload_n hG dX3_tryAct_165 rfl ?_
    refine s_cvI hG (as := [vI o5]) (st := []) (rm := rm_X0_layRule) dX3_tryAct_166 ml_RX3_70 (hb_162) (tb7 (mem_i 23 rfl)) rfl ⟨rfl, rfl⟩ ⟨by decide, by decide⟩ (Nat.le_of_ble_eq_true rfl) ⟨Nat.zero_le _, Nat.zero_le _⟩ rfl (fun o h => c_X0_layRule l _ _ (hb_162) _ o h) (fun o166 => ?_)
    refine s_istore hG (lv' := [(7, vI o166.2), (6, vI o47), (5, vI o36), (4, vI o25), (3, vI o15), (2, vI o5), (0, vR a0), (1, vI p1)]) dX3_tryAct_169 (by decide) rfl ?_
    refine s_goto hG (tgt := 187) dX3_tryAct_171 (by decide) ?_
    refine s_lv hG [6, 0] rfl ?_
    exact hb187 _ _
  refine s_tsw1 hG (v := (4 : Int32)) (tgt := 174) dX3_tryAct_74 (by decide) (by decide) rfl (by decide) ?_ (fun n74_4 => ?_)
  · refine s_aload_n hG dX3_tryAct_174 rfl ?_
    refine s_getR hG (cj := 0) dX3_tryAct_175 fl_RX3_28 (fk3_2 _ ha0) (fun b175 hb_175 => ?_)
    refine s_iload_n hG dX3_tryAct_178 rfl ?_
    refine s_cvI hG (as := [vI o5]) (st := []) (rm := rm_X0_dropRule) dX3_tryAct_179 ml_RX3_73 (hb_175) (tb7 (mem_i 25 rfl)) rfl ⟨rfl, rfl⟩ ⟨by decide, by decide⟩ (Nat.le_of_ble_eq_true rfl) ⟨Nat.zero_le _, Nat.zero_le _⟩ rfl (fun o h => c_X0_dropRule l _ _ (hb_175) _ o h) (fun o179 => ?_)
    refine s_istore hG (lv' := [(7, vI o179.2), (6, vI o47), (5, vI o36), (4, vI o25), (3, vI o15), (2, vI o5), (0, vR a0), (1, vI p1)]) dX3_tryAct_182 (by decide) rfl ?_
    refine s_goto hG (tgt := 187) dX3_tryAct_184 (by decide) ?_
    refine s_lv hG [6, 0] rfl ?_
    exact hb187 _ _
  refine s_tswD hG (tgt := 187) dX3_tryAct_74 (by have h0 := sw_ne n74_0 (z := 0) (by decide); have h1 := sw_ne n74_1 (z := 1) (by decide); have h2 := sw_ne n74_2 (z := 2) (by decide); have h3 := sw_ne n74_3 (z := 3) (by decide); have h4 := sw_ne n74_4 (z := 4) (by decide); omega) (by decide) ?_
  refine s_lv hG [6, 0] rfl ?_
  exact hb187 _ _

def f_X3_redo_b48 (a0 : Nat) (p1 : Int64) (rec14 : HS × Int32 → Option (HS)) (S : HS) (x3 : Int32) : Option (HS) :=
rec14 (S, (x3 + (1 : Int32)))
def F_X3_redo_b14 (a0 : Nat) (p1 : Int64)  (rec14 : HS × Int32 → Option (HS)) : HS × Int32 → Option (HS) := fun q => match q with
  | (S, x3) =>
    if (60 : Int32) ≤ x3 then
    some S
    else
    (f_X7_has p1 x3 S).bind (fun o22 =>
    if o22 = 0 then
    f_X3_redo_b48 a0 p1 rec14 S x3
    else
    (f_X3_tryAct a0 x3 S).bind (fun o30 =>
    if o30.2 = 0 then
    f_X3_redo_b48 a0 p1 rec14 (sL o30.1 a0 3 ((o30.1.2.1 a0 3) ||| ((1 : Int64) <<< (x3.toInt64 &&& 63)))) x3
    else
    f_X3_redo_b48 a0 p1 rec14 o30.1 x3))
def f_X3_redo_b14 (a0 : Nat) (p1 : Int64)  (S : HS) (x3 : Int32) : Option (HS) := fx (F_X3_redo_b14 a0 p1) FU (S, x3)
def f_X3_redo (a0 : Nat) (p1 : Int64) (S : HS) : Option (HS) :=
rf (S.2.2 a0 1) 0 (fun b1 =>
(f_X0_clear b1 S).bind (fun o4 =>
f_X3_redo_b14 a0 p1  (sL o4 a0 3 (0 : Int64)) (0 : Int32)))
def rm_X3_redo : Room := { frames := 6, cells := 0, slots := 0, locals := 163 }
set_option maxRecDepth 100000 in
set_option maxHeartbeats 4000000 in
theorem c_X3_redo (l : Launch) (a0 : Nat) (p1 : Int64) (ha0 : oc a0 = some 3) (S : HS) (out : HS) (h : f_X3_redo a0 p1 S = some out) : Ct l yX3_redo cX3_redo 4 none rm_X3_redo [vR a0, vL p1] S none out := by
  refine Ct.intro (own := RX3) (lv := [(0, vR a0), (1, vL p1)]) (by decide +kernel) rfl ⟨rfl, rfl⟩ rfl (Nat.le_of_ble_eq_true rfl) ?_
  intro G hG hR
  revert h
  have hb48 : ∀ (rec14 : HS × Int32 → Option (HS)) (hrec14 : ∀ (S : HS) (x3 : Int32), rec14 (S, x3) = some out → G 0 0 S [(0, vR a0), (1, vL p1), (3, vI x3)] 14 []) (S : HS) (x3 : Int32), f_X3_redo_b48 a0 p1 rec14 S x3 = some out → G 0 0 S [(0, vR a0), (1, vL p1), (3, vI x3)] 48 [] := by
    intro rec14 hrec14 S x3
    unfold f_X3_redo_b48
    refine s_iinc hG (v := (x3 + (1 : Int32))) (lv' := [(3, vI (x3 + (1 : Int32))), (0, vR a0), (1, vL p1)]) dX3_redo_48 rfl rfl (by decide) rfl ?_
    refine s_goto hG (tgt := 14) dX3_redo_51 (by decide) ?_
    refine s_lv hG [1, 2, 0] rfl ?_
    exact hrec14 _ _
  have hb14 : ∀ (S : HS) (x3 : Int32), f_X3_redo_b14 a0 p1 S x3 = some out → G 0 0 S [(0, vR a0), (1, vL p1), (3, vI x3)] 14 [] := by
    intro  S x3
    unfold f_X3_redo_b14
    generalize FU = nf
    revert S x3
    induction nf with
    | zero => intro S x3 h9; cases h9
    | succ nf hrec14 =>
      intro S x3
      show F_X3_redo_b14 a0 p1 (fx (F_X3_redo_b14 a0 p1) nf) (S, x3) = some out → _
      generalize fx (F_X3_redo_b14 a0 p1) nf = rec14 at hrec14
      unfold F_X3_redo_b14
      dsimp only
      refine s_iload_n hG dX3_redo_14 rfl ?_
      refine s_bipush hG (v := (60 : Int32)) dX3_redo_15 (by decide) ?_
      refine s_icmp_ge hG (tgt := 54) dX3_redo_17 (by decide) ?_ ?_
      · exact s_rvC hR dX3_redo_54
      · refine s_lload_n hG dX3_redo_20 rfl ?_
        refine s_iload_n hG dX3_redo_21 rfl ?_
        refine s_csP hG (as := [vL p1, vI x3]) (st := []) (rm := rm_X7_has) dX3_redo_22 ml_RX3_34 (tb6 (mem_i 14 rfl)) rfl ⟨rfl, rfl⟩ ⟨by decide, by decide⟩ (Nat.le_of_ble_eq_true rfl) ⟨Nat.zero_le _, Nat.zero_le _⟩ rfl (fun o h => c_X7_has l _ _ _ o h) (fun o22 => ?_)
        refine s_if_eq hG (tgt := 48) dX3_redo_25 (by decide) ?_ ?_
        · exact hb48 _ hrec14 _ _
        · refine s_aload_n hG dX3_redo_28 rfl ?_
          refine s_iload_n hG dX3_redo_29 rfl ?_
          refine s_cvI hG (as := [vI x3]) (st := []) (rm := rm_X3_tryAct) dX3_redo_30 ml_RX3_38 (ha0) (tb5 (mem_i 24 rfl)) rfl ⟨rfl, rfl⟩ ⟨by decide, by decide⟩ (Nat.le_of_ble_eq_true rfl) ⟨Nat.zero_le _, Nat.zero_le _⟩ rfl (fun o h => c_X3_tryAct l _ _ (ha0) _ o h) (fun o30 => ?_)
          refine s_if_ne hG (tgt := 48) dX3_redo_33 (by decide) ?_ ?_
          · exact hb48 _ hrec14 _ _
          · refine s_aload_n hG dX3_redo_36 rfl ?_
            refine s_dup hG dX3_redo_37 rfl ?_
            refine s_getL hG dX3_redo_38 fl_RX3_9 (fk3_3 _ ha0) ?_
            refine s_lconst hG (v := (1 : Int64)) dX3_redo_41 (by decide) ?_
            refine s_iload_n hG dX3_redo_42 rfl ?_
            refine s_lshl hG dX3_redo_43 ?_
            refine s_lor hG dX3_redo_44 ?_
            refine s_putL hG dX3_redo_45 fl_RX3_9 fp_3_3 (fk3_3 _ ha0) ⟨rfl, rfl⟩ ?_
            exact hb48 _ hrec14 _ _
  unfold f_X3_redo
  refine s_aload_n hG dX3_redo_0 rfl ?_
  refine s_getR hG (cj := 0) dX3_redo_1 fl_RX3_24 (fk3_1 _ ha0) (fun b1 hb_1 => ?_)
  refine s_cvV hG (as := []) (st := []) (rm := rm_X0_clear) dX3_redo_4 ml_RX3_31 (hb_1) (tb9 (mem_i 23 rfl)) rfl ⟨rfl, rfl⟩ ⟨by decide, by decide⟩ (Nat.le_of_ble_eq_true rfl) ⟨Nat.zero_le _, Nat.zero_le _⟩ rfl (fun o h => c_X0_clear l _ (hb_1) _ o h) (fun o4 => ?_)
  refine s_aload_n hG dX3_redo_7 rfl ?_
  refine s_lconst hG (v := (0 : Int64)) dX3_redo_8 (by decide) ?_
  refine s_putL hG dX3_redo_9 fl_RX3_9 fp_3_3 (fk3_3 _ ha0) ⟨rfl, rfl⟩ ?_
  refine s_iconst hG (v := (0 : Int32)) dX3_redo_12 (by decide) ?_
  refine s_istore_n hG (lv' := [(3, vI (0 : Int32)), (0, vR a0), (1, vL p1)]) dX3_redo_13 (by decide) rfl ?_
  refine s_lv hG [1, 2, 0] rfl ?_
  exact hb14 _ _
