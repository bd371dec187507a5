/-! 16.model3: by program (wip/whole/gen.py) -/
theorem dX8_acts_0 : decode cX8_acts 0 = .ok (.aload_n 0, 1) := by decide +kernel
theorem dX8_acts_1 : decode cX8_acts 1 = .ok (.iconst 0, 1) := by decide +kernel
theorem dX8_acts_2 : decode cX8_acts 2 = .ok (.putfield 80, 3) := by decide +kernel
theorem dX8_acts_5 : decode cX8_acts 5 = .ok (.aload_n 0, 1) := by decide +kernel
theorem dX8_acts_6 : decode cX8_acts 6 = .ok (.getfield 94, 3) := by decide +kernel
theorem dX8_acts_9 : decode cX8_acts 9 = .ok (.ireturn, 1) := by decide +kernel
theorem dX8_adds_0 : decode cX8_adds 0 = .ok (.aload_n 0, 1) := by decide +kernel
theorem dX8_adds_1 : decode cX8_adds 1 = .ok (.iload_n 1, 1) := by decide +kernel
theorem dX8_adds_2 : decode cX8_adds 2 = .ok (.iconst 0, 1) := by decide +kernel
theorem dX8_adds_3 : decode cX8_adds 3 = .ok (.aload_n 0, 1) := by decide +kernel
theorem dX8_adds_4 : decode cX8_adds 4 = .ok (.getfield 88, 3) := by decide +kernel
theorem dX8_adds_7 : decode cX8_adds 7 = .ok (.iload_n 2, 1) := by decide +kernel
theorem dX8_adds_8 : decode cX8_adds 8 = .ok (.iload_n 3, 1) := by decide +kernel
theorem dX8_adds_9 : decode cX8_adds 9 = .ok (.iload 4, 2) := by decide +kernel
theorem dX8_adds_11 : decode cX8_adds 11 = .ok (.iload 5, 2) := by decide +kernel
theorem dX8_adds_13 : decode cX8_adds 13 = .ok (.invokevirtual 166, 3) := by decide +kernel
theorem dX8_adds_16 : decode cX8_adds 16 = .ok (.aload_n 0, 1) := by decide +kernel
theorem dX8_adds_17 : decode cX8_adds 17 = .ok (.dup, 1) := by decide +kernel
theorem dX8_adds_18 : decode cX8_adds 18 = .ok (.getfield 88, 3) := by decide +kernel
theorem dX8_adds_21 : decode cX8_adds 21 = .ok (.iconst 1, 1) := by decide +kernel
theorem dX8_adds_22 : decode cX8_adds 22 = .ok (.iadd, 1) := by decide +kernel
theorem dX8_adds_23 : decode cX8_adds 23 = .ok (.putfield 88, 3) := by decide +kernel
theorem dX8_adds_26 : decode cX8_adds 26 = .ok (.aload_n 0, 1) := by decide +kernel
theorem dX8_adds_27 : decode cX8_adds 27 = .ok (.aload_n 0, 1) := by decide +kernel
theorem dX8_adds_28 : decode cX8_adds 28 = .ok (.getfield 94, 3) := by decide +kernel
theorem dX8_adds_31 : decode cX8_adds 31 = .ok (.invokevirtual 159, 3) := by decide +kernel
theorem dX8_adds_34 : decode cX8_adds 34 = .ok (.pop, 1) := by decide +kernel
theorem dX8_adds_35 : decode cX8_adds 35 = .ok (.aload_n 0, 1) := by decide +kernel
theorem dX8_adds_36 : decode cX8_adds 36 = .ok (.invokevirtual 170, 3) := by decide +kernel
theorem dX8_adds_39 : decode cX8_adds 39 = .ok (.pop, 1) := by decide +kernel
theorem dX8_adds_40 : decode cX8_adds 40 = .ok (.aload_n 0, 1) := by decide +kernel
theorem dX8_adds_41 : decode cX8_adds 41 = .ok (.getfield 88, 3) := by decide +kernel
theorem dX8_adds_44 : decode cX8_adds 44 = .ok (.iconst 1, 1) := by decide +kernel
theorem dX8_adds_45 : decode cX8_adds 45 = .ok (.isub, 1) := by decide +kernel
theorem dX8_adds_46 : decode cX8_adds 46 = .ok (.ireturn, 1) := by decide +kernel
theorem dX8_isPlace_0 : decode cX8_isPlace 0 = .ok (.iload_n 0, 1) := by decide +kernel
theorem dX8_isPlace_1 : decode cX8_isPlace 1 = .ok (.sipush (-999), 3) := by decide +kernel
theorem dX8_isPlace_4 : decode cX8_isPlace 4 = .ok (.sipush 999, 3) := by decide +kernel
theorem dX8_isPlace_7 : decode cX8_isPlace 7 = .ok (.invokestatic 84, 3) := by decide +kernel
theorem dX8_isPlace_10 : decode cX8_isPlace 10 = .ok (.ifCond .eq 20, 3) := by decide +kernel
theorem dX8_isPlace_13 : decode cX8_isPlace 13 = .ok (.iload_n 1, 1) := by decide +kernel
theorem dX8_isPlace_14 : decode cX8_isPlace 14 = .ok (.sipush (-999), 3) := by decide +kernel
theorem dX8_isPlace_17 : decode cX8_isPlace 17 = .ok (.sipush 999, 3) := by decide +kernel
theorem dX8_isPlace_20 : decode cX8_isPlace 20 = .ok (.invokestatic 84, 3) := by decide +kernel
theorem dX8_isPlace_23 : decode cX8_isPlace 23 = .ok (.ifCond .eq 7, 3) := by decide +kernel
theorem dX8_isPlace_26 : decode cX8_isPlace 26 = .ok (.iconst 1, 1) := by decide +kernel
theorem dX8_isPlace_27 : decode cX8_isPlace 27 = .ok (.goto 4, 3) := by decide +kernel
theorem dX8_isPlace_30 : decode cX8_isPlace 30 = .ok (.iconst 0, 1) := by decide +kernel
theorem dX8_isPlace_31 : decode cX8_isPlace 31 = .ok (.ireturn, 1) := by decide +kernel
theorem dX8_isSize_0 : decode cX8_isSize 0 = .ok (.iload_n 0, 1) := by decide +kernel
theorem dX8_isSize_1 : decode cX8_isSize 1 = .ok (.iconst 1, 1) := by decide +kernel
theorem dX8_isSize_2 : decode cX8_isSize 2 = .ok (.bipush 99, 2) := by decide +kernel
theorem dX8_isSize_4 : decode cX8_isSize 4 = .ok (.invokestatic 84, 3) := by decide +kernel
theorem dX8_isSize_7 : decode cX8_isSize 7 = .ok (.ifCond .eq 17, 3) := by decide +kernel
theorem dX8_isSize_10 : decode cX8_isSize 10 = .ok (.iload_n 1, 1) := by decide +kernel
theorem dX8_isSize_11 : decode cX8_isSize 11 = .ok (.iconst 1, 1) := by decide +kernel
theorem dX8_isSize_12 : decode cX8_isSize 12 = .ok (.bipush 99, 2) := by decide +kernel
theorem dX8_isSize_14 : decode cX8_isSize 14 = .ok (.invokestatic 84, 3) := by decide +kernel
theorem dX8_isSize_17 : decode cX8_isSize 17 = .ok (.ifCond .eq 7, 3) := by decide +kernel
theorem dX8_isSize_20 : decode cX8_isSize 20 = .ok (.iconst 1, 1) := by decide +kernel
theorem dX8_isSize_21 : decode cX8_isSize 21 = .ok (.goto 4, 3) := by decide +kernel
theorem dX8_isSize_24 : decode cX8_isSize 24 = .ok (.iconst 0, 1) := by decide +kernel
theorem dX8_isSize_25 : decode cX8_isSize 25 = .ok (.ireturn, 1) := by decide +kernel
theorem dX8_addBox_0 : decode cX8_addBox 0 = .ok (.iload_n 2, 1) := by decide +kernel
theorem dX8_addBox_1 : decode cX8_addBox 1 = .ok (.iload_n 3, 1) := by decide +kernel
theorem dX8_addBox_2 : decode cX8_addBox 2 = .ok (.invokestatic 173, 3) := by decide +kernel
theorem dX8_addBox_5 : decode cX8_addBox 5 = .ok (.ifCond .eq 17, 3) := by decide +kernel
theorem dX8_addBox_8 : decode cX8_addBox 8 = .ok (.iload 4, 2) := by decide +kernel
theorem dX8_addBox_10 : decode cX8_addBox 10 = .ok (.iload 5, 2) := by decide +kernel
theorem dX8_addBox_12 : decode cX8_addBox 12 = .ok (.invokestatic 176, 3) := by decide +kernel
theorem dX8_addBox_15 : decode cX8_addBox 15 = .ok (.ifCond .eq 7, 3) := by decide +kernel
theorem dX8_addBox_18 : decode cX8_addBox 18 = .ok (.iconst 1, 1) := by decide +kernel
theorem dX8_addBox_19 : decode cX8_addBox 19 = .ok (.goto 4, 3) := by decide +kernel
theorem dX8_addBox_22 : decode cX8_addBox 22 = .ok (.iconst 0, 1) := by decide +kernel
theorem dX8_addBox_23 : decode cX8_addBox 23 = .ok (.istore 6, 2) := by decide +kernel
theorem dX8_addBox_25 : decode cX8_addBox 25 = .ok (.aload_n 0, 1) := by decide +kernel
theorem dX8_addBox_26 : decode cX8_addBox 26 = .ok (.iload_n 1, 1) := by decide +kernel
theorem dX8_addBox_27 : decode cX8_addBox 27 = .ok (.invokestatic 179, 3) := by decide +kernel
theorem dX8_addBox_30 : decode cX8_addBox 30 = .ok (.ifCond .ne 7, 3) := by decide +kernel
theorem dX8_addBox_33 : decode cX8_addBox 33 = .ok (.iconst 1, 1) := by decide +kernel
theorem dX8_addBox_34 : decode cX8_addBox 34 = .ok (.goto 35, 3) := by decide +kernel
theorem dX8_addBox_37 : decode cX8_addBox 37 = .ok (.iload 6, 2) := by decide +kernel
theorem dX8_addBox_39 : decode cX8_addBox 39 = .ok (.ifCond .ne 7, 3) := by decide +kernel
theorem dX8_addBox_42 : decode cX8_addBox 42 = .ok (.iconst 2, 1) := by decide +kernel
theorem dX8_addBox_43 : decode cX8_addBox 43 = .ok (.goto 26, 3) := by decide +kernel
theorem dX8_addBox_46 : decode cX8_addBox 46 = .ok (.aload_n 0, 1) := by decide +kernel
theorem dX8_addBox_47 : decode cX8_addBox 47 = .ok (.getfield 88, 3) := by decide +kernel
theorem dX8_addBox_50 : decode cX8_addBox 50 = .ok (.bipush 10, 2) := by decide +kernel
theorem dX8_addBox_52 : decode cX8_addBox 52 = .ok (.if_icmp .eq 12, 3) := by decide +kernel
theorem dX8_addBox_55 : decode cX8_addBox 55 = .ok (.aload_n 0, 1) := by decide +kernel
theorem dX8_addBox_56 : decode cX8_addBox 56 = .ok (.getfield 94, 3) := by decide +kernel
theorem dX8_addBox_59 : decode cX8_addBox 59 = .ok (.bipush 60, 2) := by decide +kernel
theorem dX8_addBox_61 : decode cX8_addBox 61 = .ok (.if_icmp .ne 7, 3) := by decide +kernel
theorem dX8_addBox_64 : decode cX8_addBox 64 = .ok (.iconst 3, 1) := by decide +kernel
theorem dX8_addBox_65 : decode cX8_addBox 65 = .ok (.goto 4, 3) := by decide +kernel
theorem dX8_addBox_68 : decode cX8_addBox 68 = .ok (.iconst 0, 1) := by decide +kernel
theorem dX8_addBox_69 : decode cX8_addBox 69 = .ok (.invokevirtual 100, 3) := by decide +kernel
theorem dX8_addBox_72 : decode cX8_addBox 72 = .ok (.ifCond .ne 5, 3) := by decide +kernel
theorem dX8_addBox_75 : decode cX8_addBox 75 = .ok (.iconst 0, 1) := by decide +kernel
theorem dX8_addBox_76 : decode cX8_addBox 76 = .ok (.ireturn, 1) := by decide +kernel
theorem dX8_addBox_77 : decode cX8_addBox 77 = .ok (.aload_n 0, 1) := by decide +kernel
theorem dX8_addBox_78 : decode cX8_addBox 78 = .ok (.getfield 13, 3) := by decide +kernel
theorem dX8_addBox_81 : decode cX8_addBox 81 = .ok (.aload_n 0, 1) := by decide +kernel
theorem dX8_addBox_82 : decode cX8_addBox 82 = .ok (.getfield 88, 3) := by decide +kernel
theorem dX8_addBox_85 : decode cX8_addBox 85 = .ok (.iconst 0, 1) := by decide +kernel
theorem dX8_addBox_86 : decode cX8_addBox 86 = .ok (.bastore, 1) := by decide +kernel
theorem dX8_addBox_87 : decode cX8_addBox 87 = .ok (.aload_n 0, 1) := by decide +kernel
theorem dX8_addBox_88 : decode cX8_addBox 88 = .ok (.iload_n 1, 1) := by decide +kernel
theorem dX8_addBox_89 : decode cX8_addBox 89 = .ok (.iload_n 2, 1) := by decide +kernel
theorem dX8_addBox_90 : decode cX8_addBox 90 = .ok (.iload_n 3, 1) := by decide +kernel
theorem dX8_addBox_91 : decode cX8_addBox 91 = .ok (.iload 4, 2) := by decide +kernel
theorem dX8_addBox_93 : decode cX8_addBox 93 = .ok (.iload 5, 2) := by decide +kernel
theorem dX8_addBox_95 : decode cX8_addBox 95 = .ok (.invokevirtual 182, 3) := by decide +kernel
theorem dX8_addBox_98 : decode cX8_addBox 98 = .ok (.ireturn, 1) := by decide +kernel
theorem dX8_addLabel_0 : decode cX8_addLabel 0 = .ok (.aload_n 0, 1) := by decide +kernel
theorem dX8_addLabel_1 : decode cX8_addLabel 1 = .ok (.iload_n 1, 1) := by decide +kernel
theorem dX8_addLabel_2 : decode cX8_addLabel 2 = .ok (.invokestatic 179, 3) := by decide +kernel
theorem dX8_addLabel_5 : decode cX8_addLabel 5 = .ok (.ifCond .ne 7, 3) := by decide +kernel
theorem dX8_addLabel_8 : decode cX8_addLabel 8 = .ok (.iconst 1, 1) := by decide +kernel
theorem dX8_addLabel_9 : decode cX8_addLabel 9 = .ok (.goto 45, 3) := by decide +kernel
theorem dX8_addLabel_12 : decode cX8_addLabel 12 = .ok (.iload_n 2, 1) := by decide +kernel
theorem dX8_addLabel_13 : decode cX8_addLabel 13 = .ok (.iload_n 3, 1) := by decide +kernel
theorem dX8_addLabel_14 : decode cX8_addLabel 14 = .ok (.invokestatic 173, 3) := by decide +kernel
theorem dX8_addLabel_17 : decode cX8_addLabel 17 = .ok (.ifCond .ne 7, 3) := by decide +kernel
theorem dX8_addLabel_20 : decode cX8_addLabel 20 = .ok (.iconst 2, 1) := by decide +kernel
theorem dX8_addLabel_21 : decode cX8_addLabel 21 = .ok (.goto 33, 3) := by decide +kernel
theorem dX8_addLabel_24 : decode cX8_addLabel 24 = .ok (.aload_n 0, 1) := by decide +kernel
theorem dX8_addLabel_25 : decode cX8_addLabel 25 = .ok (.getfield 97, 3) := by decide +kernel
theorem dX8_addLabel_28 : decode cX8_addLabel 28 = .ok (.ifCond .eq 21, 3) := by decide +kernel
theorem dX8_addLabel_31 : decode cX8_addLabel 31 = .ok (.aload_n 0, 1) := by decide +kernel
theorem dX8_addLabel_32 : decode cX8_addLabel 32 = .ok (.getfield 88, 3) := by decide +kernel
theorem dX8_addLabel_35 : decode cX8_addLabel 35 = .ok (.bipush 10, 2) := by decide +kernel
theorem dX8_addLabel_37 : decode cX8_addLabel 37 = .ok (.if_icmp .eq 12, 3) := by decide +kernel
theorem dX8_addLabel_40 : decode cX8_addLabel 40 = .ok (.aload_n 0, 1) := by decide +kernel
theorem dX8_addLabel_41 : decode cX8_addLabel 41 = .ok (.getfield 94, 3) := by decide +kernel
theorem dX8_addLabel_44 : decode cX8_addLabel 44 = .ok (.bipush 60, 2) := by decide +kernel
theorem dX8_addLabel_46 : decode cX8_addLabel 46 = .ok (.if_icmp .ne 7, 3) := by decide +kernel
theorem dX8_addLabel_49 : decode cX8_addLabel 49 = .ok (.iconst 3, 1) := by decide +kernel
theorem dX8_addLabel_50 : decode cX8_addLabel 50 = .ok (.goto 4, 3) := by decide +kernel
theorem dX8_addLabel_53 : decode cX8_addLabel 53 = .ok (.iconst 0, 1) := by decide +kernel
theorem dX8_addLabel_54 : decode cX8_addLabel 54 = .ok (.invokevirtual 100, 3) := by decide +kernel
theorem dX8_addLabel_57 : decode cX8_addLabel 57 = .ok (.ifCond .ne 5, 3) := by decide +kernel
theorem dX8_addLabel_60 : decode cX8_addLabel 60 = .ok (.iconst 0, 1) := by decide +kernel
theorem dX8_addLabel_61 : decode cX8_addLabel 61 = .ok (.ireturn, 1) := by decide +kernel
theorem dX8_addLabel_62 : decode cX8_addLabel 62 = .ok (.aload_n 0, 1) := by decide +kernel
theorem dX8_addLabel_63 : decode cX8_addLabel 63 = .ok (.getfield 13, 3) := by decide +kernel
theorem dX8_addLabel_66 : decode cX8_addLabel 66 = .ok (.aload_n 0, 1) := by decide +kernel
theorem dX8_addLabel_67 : decode cX8_addLabel 67 = .ok (.getfield 88, 3) := by decide +kernel
theorem dX8_addLabel_70 : decode cX8_addLabel 70 = .ok (.iconst 1, 1) := by decide +kernel
theorem dX8_addLabel_71 : decode cX8_addLabel 71 = .ok (.bastore, 1) := by decide +kernel
theorem dX8_addLabel_72 : decode cX8_addLabel 72 = .ok (.aload_n 0, 1) := by decide +kernel
theorem dX8_addLabel_73 : decode cX8_addLabel 73 = .ok (.getfield 17, 3) := by decide +kernel
theorem dX8_addLabel_76 : decode cX8_addLabel 76 = .ok (.aload_n 0, 1) := by decide +kernel
theorem dX8_addLabel_77 : decode cX8_addLabel 77 = .ok (.getfield 88, 3) := by decide +kernel
theorem dX8_addLabel_80 : decode cX8_addLabel 80 = .ok (.iload 4, 2) := by decide +kernel
theorem dX8_addLabel_82 : decode cX8_addLabel 82 = .ok (.bastore, 1) := by decide +kernel
theorem dX8_addLabel_83 : decode cX8_addLabel 83 = .ok (.aload_n 0, 1) := by decide +kernel
theorem dX8_addLabel_84 : decode cX8_addLabel 84 = .ok (.getfield 20, 3) := by decide +kernel
theorem dX8_addLabel_87 : decode cX8_addLabel 87 = .ok (.aload_n 0, 1) := by decide +kernel
theorem dX8_addLabel_88 : decode cX8_addLabel 88 = .ok (.getfield 88, 3) := by decide +kernel
theorem dX8_addLabel_91 : decode cX8_addLabel 91 = .ok (.aload_n 0, 1) := by decide +kernel
theorem dX8_addLabel_92 : decode cX8_addLabel 92 = .ok (.getfield 97, 3) := by decide +kernel
theorem dX8_addLabel_95 : decode cX8_addLabel 95 = .ok (.iastore, 1) := by decide +kernel
theorem dX8_addLabel_96 : decode cX8_addLabel 96 = .ok (.iconst 0, 1) := by decide +kernel
theorem dX8_addLabel_97 : decode cX8_addLabel 97 = .ok (.istore 5, 2) := by decide +kernel
theorem dX8_addLabel_99 : decode cX8_addLabel 99 = .ok (.iload 5, 2) := by decide +kernel
theorem dX8_addLabel_101 : decode cX8_addLabel 101 = .ok (.aload_n 0, 1) := by decide +kernel
theorem dX8_addLabel_102 : decode cX8_addLabel 102 = .ok (.getfield 97, 3) := by decide +kernel
theorem dX8_addLabel_105 : decode cX8_addLabel 105 = .ok (.if_icmp .ge 30, 3) := by decide +kernel
theorem dX8_addLabel_108 : decode cX8_addLabel 108 = .ok (.aload_n 0, 1) := by decide +kernel
theorem dX8_addLabel_109 : decode cX8_addLabel 109 = .ok (.getfield 23, 3) := by decide +kernel
theorem dX8_addLabel_112 : decode cX8_addLabel 112 = .ok (.iconst 5, 1) := by decide +kernel
theorem dX8_addLabel_113 : decode cX8_addLabel 113 = .ok (.aload_n 0, 1) := by decide +kernel
theorem dX8_addLabel_114 : decode cX8_addLabel 114 = .ok (.getfield 88, 3) := by decide +kernel
theorem dX8_addLabel_117 : decode cX8_addLabel 117 = .ok (.imul, 1) := by decide +kernel
theorem dX8_addLabel_118 : decode cX8_addLabel 118 = .ok (.iload 5, 2) := by decide +kernel
theorem dX8_addLabel_120 : decode cX8_addLabel 120 = .ok (.iadd, 1) := by decide +kernel
theorem dX8_addLabel_121 : decode cX8_addLabel 121 = .ok (.aload_n 0, 1) := by decide +kernel
theorem dX8_addLabel_122 : decode cX8_addLabel 122 = .ok (.getfield 7, 3) := by decide +kernel
theorem dX8_addLabel_125 : decode cX8_addLabel 125 = .ok (.iload 5, 2) := by decide +kernel
theorem dX8_addLabel_127 : decode cX8_addLabel 127 = .ok (.iaload, 1) := by decide +kernel
theorem dX8_addLabel_128 : decode cX8_addLabel 128 = .ok (.iastore, 1) := by decide +kernel
theorem dX8_addLabel_129 : decode cX8_addLabel 129 = .ok (.iinc 5 1, 3) := by decide +kernel
theorem dX8_addLabel_132 : decode cX8_addLabel 132 = .ok (.goto (-33), 3) := by decide +kernel
theorem dX8_addLabel_135 : decode cX8_addLabel 135 = .ok (.aload_n 0, 1) := by decide +kernel
theorem dX8_addLabel_136 : decode cX8_addLabel 136 = .ok (.iload_n 1, 1) := by decide +kernel
theorem dX8_addLabel_137 : decode cX8_addLabel 137 = .ok (.iload_n 2, 1) := by decide +kernel
theorem dX8_addLabel_138 : decode cX8_addLabel 138 = .ok (.iload_n 3, 1) := by decide +kernel
theorem dX8_addLabel_139 : decode cX8_addLabel 139 = .ok (.iconst 2, 1) := by decide +kernel
theorem dX8_addLabel_140 : decode cX8_addLabel 140 = .ok (.aload_n 0, 1) := by decide +kernel
theorem dX8_addLabel_141 : decode cX8_addLabel 141 = .ok (.getfield 97, 3) := by decide +kernel
theorem dX8_addLabel_144 : decode cX8_addLabel 144 = .ok (.imul, 1) := by decide +kernel
theorem dX8_addLabel_145 : decode cX8_addLabel 145 = .ok (.iconst 2, 1) := by decide +kernel
theorem dX8_addLabel_146 : decode cX8_addLabel 146 = .ok (.invokevirtual 182, 3) := by decide +kernel
theorem dX8_addLabel_149 : decode cX8_addLabel 149 = .ok (.ireturn, 1) := by decide +kernel
theorem dX8_ask_0 : decode cX8_ask 0 = .ok (.aload_n 0, 1) := by decide +kernel
theorem dX8_ask_1 : decode cX8_ask 1 = .ok (.aload_n 0, 1) := by decide +kernel
theorem dX8_ask_2 : decode cX8_ask 2 = .ok (.getfield 215, 3) := by decide +kernel
theorem dX8_ask_5 : decode cX8_ask 5 = .ok (.bipush 10, 2) := by decide +kernel
theorem dX8_ask_7 : decode cX8_ask 7 = .ok (.if_icmp .ne 7, 3) := by decide +kernel
theorem dX8_ask_10 : decode cX8_ask 10 = .ok (.iconst 1, 1) := by decide +kernel
theorem dX8_ask_11 : decode cX8_ask 11 = .ok (.goto 4, 3) := by decide +kernel
theorem dX8_ask_14 : decode cX8_ask 14 = .ok (.iconst 0, 1) := by decide +kernel
theorem dX8_ask_15 : decode cX8_ask 15 = .ok (.invokevirtual 100, 3) := by decide +kernel
theorem dX8_ask_18 : decode cX8_ask 18 = .ok (.ifCond .ne 5, 3) := by decide +kernel
theorem dX8_ask_21 : decode cX8_ask 21 = .ok (.iconst 0, 1) := by decide +kernel
theorem dX8_ask_22 : decode cX8_ask 22 = .ok (.ireturn, 1) := by decide +kernel
theorem dX8_ask_23 : decode cX8_ask 23 = .ok (.aload_n 0, 1) := by decide +kernel
theorem dX8_ask_24 : decode cX8_ask 24 = .ok (.getfield 71, 3) := by decide +kernel
theorem dX8_ask_27 : decode cX8_ask 27 = .ok (.aload_n 0, 1) := by decide +kernel
theorem dX8_ask_28 : decode cX8_ask 28 = .ok (.getfield 215, 3) := by decide +kernel
theorem dX8_ask_31 : decode cX8_ask 31 = .ok (.aload_n 0, 1) := by decide +kernel
theorem dX8_ask_32 : decode cX8_ask 32 = .ok (.getfield 142, 3) := by decide +kernel
theorem dX8_ask_35 : decode cX8_ask 35 = .ok (.iastore, 1) := by decide +kernel
theorem dX8_ask_36 : decode cX8_ask 36 = .ok (.aload_n 0, 1) := by decide +kernel
theorem dX8_ask_37 : decode cX8_ask 37 = .ok (.getfield 77, 3) := by decide +kernel
theorem dX8_ask_40 : decode cX8_ask 40 = .ok (.aload_n 0, 1) := by decide +kernel
theorem dX8_ask_41 : decode cX8_ask 41 = .ok (.getfield 215, 3) := by decide +kernel
theorem dX8_ask_44 : decode cX8_ask 44 = .ok (.aload_n 0, 1) := by decide +kernel
theorem dX8_ask_45 : decode cX8_ask 45 = .ok (.getfield 145, 3) := by decide +kernel
theorem dX8_ask_48 : decode cX8_ask 48 = .ok (.iastore, 1) := by decide +kernel
theorem dX8_ask_49 : decode cX8_ask 49 = .ok (.iconst 0, 1) := by decide +kernel
theorem dX8_ask_50 : decode cX8_ask 50 = .ok (.istore_n 1, 1) := by decide +kernel
theorem dX8_ask_51 : decode cX8_ask 51 = .ok (.iload_n 1, 1) := by decide +kernel
theorem dX8_ask_52 : decode cX8_ask 52 = .ok (.bipush 40, 2) := by decide +kernel
theorem dX8_ask_54 : decode cX8_ask 54 = .ok (.if_icmp .ge 29, 3) := by decide +kernel
theorem dX8_ask_57 : decode cX8_ask 57 = .ok (.aload_n 0, 1) := by decide +kernel
theorem dX8_ask_58 : decode cX8_ask 58 = .ok (.getfield 74, 3) := by decide +kernel
theorem dX8_ask_61 : decode cX8_ask 61 = .ok (.bipush 40, 2) := by decide +kernel
theorem dX8_ask_63 : decode cX8_ask 63 = .ok (.aload_n 0, 1) := by decide +kernel
theorem dX8_ask_64 : decode cX8_ask 64 = .ok (.getfield 215, 3) := by decide +kernel
theorem dX8_ask_67 : decode cX8_ask 67 = .ok (.imul, 1) := by decide +kernel
theorem dX8_ask_68 : decode cX8_ask 68 = .ok (.iload_n 1, 1) := by decide +kernel
theorem dX8_ask_69 : decode cX8_ask 69 = .ok (.iadd, 1) := by decide +kernel
theorem dX8_ask_70 : decode cX8_ask 70 = .ok (.aload_n 0, 1) := by decide +kernel
theorem dX8_ask_71 : decode cX8_ask 71 = .ok (.getfield 59, 3) := by decide +kernel
theorem dX8_ask_74 : decode cX8_ask 74 = .ok (.iload_n 1, 1) := by decide +kernel
theorem dX8_ask_75 : decode cX8_ask 75 = .ok (.iaload, 1) := by decide +kernel
theorem dX8_ask_76 : decode cX8_ask 76 = .ok (.iastore, 1) := by decide +kernel
theorem dX8_ask_77 : decode cX8_ask 77 = .ok (.iinc 1 1, 3) := by decide +kernel
theorem dX8_ask_80 : decode cX8_ask 80 = .ok (.goto (-29), 3) := by decide +kernel
theorem dX8_ask_83 : decode cX8_ask 83 = .ok (.aload_n 0, 1) := by decide +kernel
theorem dX8_ask_84 : decode cX8_ask 84 = .ok (.dup, 1) := by decide +kernel
theorem dX8_ask_85 : decode cX8_ask 85 = .ok (.getfield 215, 3) := by decide +kernel
theorem dX8_ask_88 : decode cX8_ask 88 = .ok (.iconst 1, 1) := by decide +kernel
theorem dX8_ask_89 : decode cX8_ask 89 = .ok (.iadd, 1) := by decide +kernel
theorem dX8_ask_90 : decode cX8_ask 90 = .ok (.putfield 215, 3) := by decide +kernel
theorem dX8_ask_93 : decode cX8_ask 93 = .ok (.aload_n 0, 1) := by decide +kernel
theorem dX8_ask_94 : decode cX8_ask 94 = .ok (.getfield 215, 3) := by decide +kernel
theorem dX8_ask_97 : decode cX8_ask 97 = .ok (.iconst 1, 1) := by decide +kernel
theorem dX8_ask_98 : decode cX8_ask 98 = .ok (.isub, 1) := by decide +kernel
theorem dX8_ask_99 : decode cX8_ask 99 = .ok (.ireturn, 1) := by decide +kernel
theorem dX8_back_0 : decode cX8_back 0 = .ok (.aload_n 0, 1) := by decide +kernel
theorem dX8_back_1 : decode cX8_back 1 = .ok (.iload_n 1, 1) := by decide +kernel
theorem dX8_back_2 : decode cX8_back 2 = .ok (.invokestatic 179, 3) := by decide +kernel
theorem dX8_back_5 : decode cX8_back 5 = .ok (.ifCond .ne 7, 3) := by decide +kernel
theorem dX8_back_8 : decode cX8_back 8 = .ok (.iconst 1, 1) := by decide +kernel
theorem dX8_back_9 : decode cX8_back 9 = .ok (.goto 18, 3) := by decide +kernel
theorem dX8_back_12 : decode cX8_back 12 = .ok (.aload_n 0, 1) := by decide +kernel
theorem dX8_back_13 : decode cX8_back 13 = .ok (.getfield 56, 3) := by decide +kernel
theorem dX8_back_16 : decode cX8_back 16 = .ok (.iload_n 1, 1) := by decide +kernel
theorem dX8_back_17 : decode cX8_back 17 = .ok (.iaload, 1) := by decide +kernel
theorem dX8_back_18 : decode cX8_back 18 = .ok (.iconst (-1), 1) := by decide +kernel
theorem dX8_back_19 : decode cX8_back 19 = .ok (.if_icmp .ne 7, 3) := by decide +kernel
theorem dX8_back_22 : decode cX8_back 22 = .ok (.iconst 2, 1) := by decide +kernel
theorem dX8_back_23 : decode cX8_back 23 = .ok (.goto 4, 3) := by decide +kernel
theorem dX8_back_26 : decode cX8_back 26 = .ok (.iconst 0, 1) := by decide +kernel
theorem dX8_back_27 : decode cX8_back 27 = .ok (.invokevirtual 100, 3) := by decide +kernel
theorem dX8_back_30 : decode cX8_back 30 = .ok (.ifCond .ne 5, 3) := by decide +kernel
theorem dX8_back_33 : decode cX8_back 33 = .ok (.iconst 0, 1) := by decide +kernel
theorem dX8_back_34 : decode cX8_back 34 = .ok (.ireturn, 1) := by decide +kernel
theorem dX8_back_35 : decode cX8_back 35 = .ok (.aload_n 0, 1) := by decide +kernel
theorem dX8_back_36 : decode cX8_back 36 = .ok (.getfield 56, 3) := by decide +kernel
theorem dX8_back_39 : decode cX8_back 39 = .ok (.iload_n 1, 1) := by decide +kernel
theorem dX8_back_40 : decode cX8_back 40 = .ok (.aload_n 0, 1) := by decide +kernel
theorem dX8_back_41 : decode cX8_back 41 = .ok (.getfield 41, 3) := by decide +kernel
theorem dX8_back_44 : decode cX8_back 44 = .ok (.aload_n 0, 1) := by decide +kernel
theorem dX8_back_45 : decode cX8_back 45 = .ok (.getfield 56, 3) := by decide +kernel
theorem dX8_back_48 : decode cX8_back 48 = .ok (.iload_n 1, 1) := by decide +kernel
theorem dX8_back_49 : decode cX8_back 49 = .ok (.iaload, 1) := by decide +kernel
theorem dX8_back_50 : decode cX8_back 50 = .ok (.iaload, 1) := by decide +kernel
theorem dX8_back_51 : decode cX8_back 51 = .ok (.iastore, 1) := by decide +kernel
theorem dX8_back_52 : decode cX8_back 52 = .ok (.aload_n 0, 1) := by decide +kernel
theorem dX8_back_53 : decode cX8_back 53 = .ok (.invokevirtual 203, 3) := by decide +kernel
theorem dX8_back_56 : decode cX8_back 56 = .ok (.ireturn, 1) := by decide +kernel
theorem dX8_below_0 : decode cX8_below 0 = .ok (.iconst 0, 1) := by decide +kernel
theorem dX8_below_1 : decode cX8_below 1 = .ok (.istore_n 2, 1) := by decide +kernel
theorem dX8_below_2 : decode cX8_below 2 = .ok (.iconst 0, 1) := by decide +kernel
theorem dX8_below_3 : decode cX8_below 3 = .ok (.istore_n 3, 1) := by decide +kernel
theorem dX8_below_4 : decode cX8_below 4 = .ok (.iload_n 3, 1) := by decide +kernel
theorem dX8_below_5 : decode cX8_below 5 = .ok (.aload_n 0, 1) := by decide +kernel
theorem dX8_below_6 : decode cX8_below 6 = .ok (.getfield 94, 3) := by decide +kernel
theorem dX8_below_9 : decode cX8_below 9 = .ok (.if_icmp .ge 105, 3) := by decide +kernel
theorem dX8_below_12 : decode cX8_below 12 = .ok (.iload_n 1, 1) := by decide +kernel
theorem dX8_below_13 : decode cX8_below 13 = .ok (.invokestatic 179, 3) := by decide +kernel
theorem dX8_below_16 : decode cX8_below 16 = .ok (.ifCond .eq 98, 3) := by decide +kernel
theorem dX8_below_19 : decode cX8_below 19 = .ok (.aload_n 0, 1) := by decide +kernel
theorem dX8_below_20 : decode cX8_below 20 = .ok (.getfield 56, 3) := by decide +kernel
theorem dX8_below_23 : decode cX8_below 23 = .ok (.iload_n 1, 1) := by decide +kernel
theorem dX8_below_24 : decode cX8_below 24 = .ok (.iaload, 1) := by decide +kernel
theorem dX8_below_25 : decode cX8_below 25 = .ok (.iconst (-1), 1) := by decide +kernel
theorem dX8_below_26 : decode cX8_below 26 = .ok (.if_icmp .ne 7, 3) := by decide +kernel
theorem dX8_below_29 : decode cX8_below 29 = .ok (.iconst 1, 1) := by decide +kernel
theorem dX8_below_30 : decode cX8_below 30 = .ok (.goto 4, 3) := by decide +kernel
theorem dX8_below_33 : decode cX8_below 33 = .ok (.iconst 0, 1) := by decide +kernel
theorem dX8_below_34 : decode cX8_below 34 = .ok (.istore 4, 2) := by decide +kernel
theorem dX8_below_36 : decode cX8_below 36 = .ok (.aload_n 0, 1) := by decide +kernel
theorem dX8_below_37 : decode cX8_below 37 = .ok (.getfield 41, 3) := by decide +kernel
theorem dX8_below_40 : decode cX8_below 40 = .ok (.iload_n 3, 1) := by decide +kernel
theorem dX8_below_41 : decode cX8_below 41 = .ok (.iaload, 1) := by decide +kernel
theorem dX8_below_42 : decode cX8_below 42 = .ok (.istore 5, 2) := by decide +kernel
theorem dX8_below_44 : decode cX8_below 44 = .ok (.iload 5, 2) := by decide +kernel
theorem dX8_below_46 : decode cX8_below 46 = .ok (.iconst (-1), 1) := by decide +kernel
theorem dX8_below_47 : decode cX8_below 47 = .ok (.if_icmp .eq 38, 3) := by decide +kernel
theorem dX8_below_50 : decode cX8_below 50 = .ok (.iload 4, 2) := by decide +kernel
theorem dX8_below_52 : decode cX8_below 52 = .ok (.ifCond .ne 14, 3) := by decide +kernel
theorem dX8_below_55 : decode cX8_below 55 = .ok (.iload 5, 2) := by decide +kernel
theorem dX8_below_57 : decode cX8_below 57 = .ok (.aload_n 0, 1) := by decide +kernel
theorem dX8_below_58 : decode cX8_below 58 = .ok (.getfield 56, 3) := by decide +kernel
theorem dX8_below_61 : decode cX8_below 61 = .ok (.iload_n 1, 1) := by decide +kernel
theorem dX8_below_62 : decode cX8_below 62 = .ok (.iaload, 1) := by decide +kernel
theorem dX8_below_63 : decode cX8_below 63 = .ok (.if_icmp .ne 7, 3) := by decide +kernel
theorem dX8_below_66 : decode cX8_below 66 = .ok (.iconst 1, 1) := by decide +kernel
theorem dX8_below_67 : decode cX8_below 67 = .ok (.goto 4, 3) := by decide +kernel
theorem dX8_below_70 : decode cX8_below 70 = .ok (.iconst 0, 1) := by decide +kernel
theorem dX8_below_71 : decode cX8_below 71 = .ok (.istore 4, 2) := by decide +kernel
theorem dX8_below_73 : decode cX8_below 73 = .ok (.aload_n 0, 1) := by decide +kernel
theorem dX8_below_74 : decode cX8_below 74 = .ok (.getfield 41, 3) := by decide +kernel
theorem dX8_below_77 : decode cX8_below 77 = .ok (.iload 5, 2) := by decide +kernel
theorem dX8_below_79 : decode cX8_below 79 = .ok (.iaload, 1) := by decide +kernel
theorem dX8_below_80 : decode cX8_below 80 = .ok (.istore 5, 2) := by decide +kernel
theorem dX8_below_82 : decode cX8_below 82 = .ok (.goto (-38), 3) := by decide +kernel
theorem dX8_below_85 : decode cX8_below 85 = .ok (.iload_n 2, 1) := by decide +kernel
theorem dX8_below_86 : decode cX8_below 86 = .ok (.aload_n 0, 1) := by decide +kernel
theorem dX8_below_87 : decode cX8_below 87 = .ok (.getfield 38, 3) := by decide +kernel
theorem dX8_below_90 : decode cX8_below 90 = .ok (.iload_n 3, 1) := by decide +kernel
theorem dX8_below_91 : decode cX8_below 91 = .ok (.iaload, 1) := by decide +kernel
theorem dX8_below_92 : decode cX8_below 92 = .ok (.iload_n 1, 1) := by decide +kernel
theorem dX8_below_93 : decode cX8_below 93 = .ok (.if_icmp .ne 12, 3) := by decide +kernel
theorem dX8_below_96 : decode cX8_below 96 = .ok (.iload 4, 2) := by decide +kernel
theorem dX8_below_98 : decode cX8_below 98 = .ok (.ifCond .eq 7, 3) := by decide +kernel
theorem dX8_below_101 : decode cX8_below 101 = .ok (.iconst 1, 1) := by decide +kernel
theorem dX8_below_102 : decode cX8_below 102 = .ok (.goto 4, 3) := by decide +kernel
theorem dX8_below_105 : decode cX8_below 105 = .ok (.iconst 0, 1) := by decide +kernel
theorem dX8_below_106 : decode cX8_below 106 = .ok (.iadd, 1) := by decide +kernel
theorem dX8_below_107 : decode cX8_below 107 = .ok (.istore_n 2, 1) := by decide +kernel
theorem dX8_below_108 : decode cX8_below 108 = .ok (.iinc 3 1, 3) := by decide +kernel
theorem dX8_below_111 : decode cX8_below 111 = .ok (.goto (-107), 3) := by decide +kernel
theorem dX8_below_114 : decode cX8_below 114 = .ok (.aload_n 0, 1) := by decide +kernel
theorem dX8_below_115 : decode cX8_below 115 = .ok (.iload_n 1, 1) := by decide +kernel
theorem dX8_below_116 : decode cX8_below 116 = .ok (.invokestatic 179, 3) := by decide +kernel
theorem dX8_below_119 : decode cX8_below 119 = .ok (.ifCond .eq 7, 3) := by decide +kernel
theorem dX8_below_122 : decode cX8_below 122 = .ok (.iconst 0, 1) := by decide +kernel
theorem dX8_below_123 : decode cX8_below 123 = .ok (.goto 4, 3) := by decide +kernel
theorem dX8_below_126 : decode cX8_below 126 = .ok (.iconst 1, 1) := by decide +kernel
theorem dX8_below_127 : decode cX8_below 127 = .ok (.invokevirtual 100, 3) := by decide +kernel
theorem dX8_below_130 : decode cX8_below 130 = .ok (.ifCond .eq 7, 3) := by decide +kernel
theorem dX8_below_133 : decode cX8_below 133 = .ok (.iload_n 2, 1) := by decide +kernel
theorem dX8_below_134 : decode cX8_below 134 = .ok (.goto 4, 3) := by decide +kernel
theorem dX8_below_137 : decode cX8_below 137 = .ok (.iconst 0, 1) := by decide +kernel
theorem dX8_below_138 : decode cX8_below 138 = .ok (.ireturn, 1) := by decide +kernel
theorem dX8_branchOf_0 : decode cX8_branchOf 0 = .ok (.iload_n 2, 1) := by decide +kernel
theorem dX8_branchOf_1 : decode cX8_branchOf 1 = .ok (.istore_n 3, 1) := by decide +kernel
theorem dX8_branchOf_2 : decode cX8_branchOf 2 = .ok (.iconst (-1), 1) := by decide +kernel
theorem dX8_branchOf_3 : decode cX8_branchOf 3 = .ok (.istore 4, 2) := by decide +kernel
theorem dX8_branchOf_5 : decode cX8_branchOf 5 = .ok (.iconst 0, 1) := by decide +kernel
theorem dX8_branchOf_6 : decode cX8_branchOf 6 = .ok (.istore 5, 2) := by decide +kernel
theorem dX8_branchOf_8 : decode cX8_branchOf 8 = .ok (.iload 5, 2) := by decide +kernel
theorem dX8_branchOf_10 : decode cX8_branchOf 10 = .ok (.aload_n 0, 1) := by decide +kernel
theorem dX8_branchOf_11 : decode cX8_branchOf 11 = .ok (.getfield 94, 3) := by decide +kernel
theorem dX8_branchOf_14 : decode cX8_branchOf 14 = .ok (.if_icmp .ge 52, 3) := by decide +kernel
theorem dX8_branchOf_17 : decode cX8_branchOf 17 = .ok (.aload_n 0, 1) := by decide +kernel
theorem dX8_branchOf_18 : decode cX8_branchOf 18 = .ok (.getfield 38, 3) := by decide +kernel
theorem dX8_branchOf_21 : decode cX8_branchOf 21 = .ok (.iload 5, 2) := by decide +kernel
theorem dX8_branchOf_23 : decode cX8_branchOf 23 = .ok (.iaload, 1) := by decide +kernel
theorem dX8_branchOf_24 : decode cX8_branchOf 24 = .ok (.iload_n 1, 1) := by decide +kernel
theorem dX8_branchOf_25 : decode cX8_branchOf 25 = .ok (.if_icmp .ne 35, 3) := by decide +kernel
theorem dX8_branchOf_28 : decode cX8_branchOf 28 = .ok (.aload_n 0, 1) := by decide +kernel
theorem dX8_branchOf_29 : decode cX8_branchOf 29 = .ok (.getfield 41, 3) := by decide +kernel
theorem dX8_branchOf_32 : decode cX8_branchOf 32 = .ok (.iload 5, 2) := by decide +kernel
theorem dX8_branchOf_34 : decode cX8_branchOf 34 = .ok (.iaload, 1) := by decide +kernel
theorem dX8_branchOf_35 : decode cX8_branchOf 35 = .ok (.aload_n 0, 1) := by decide +kernel
theorem dX8_branchOf_36 : decode cX8_branchOf 36 = .ok (.getfield 56, 3) := by decide +kernel
theorem dX8_branchOf_39 : decode cX8_branchOf 39 = .ok (.iload_n 1, 1) := by decide +kernel
theorem dX8_branchOf_40 : decode cX8_branchOf 40 = .ok (.iaload, 1) := by decide +kernel
theorem dX8_branchOf_41 : decode cX8_branchOf 41 = .ok (.if_icmp .ne 19, 3) := by decide +kernel
theorem dX8_branchOf_44 : decode cX8_branchOf 44 = .ok (.iload_n 3, 1) := by decide +kernel
theorem dX8_branchOf_45 : decode cX8_branchOf 45 = .ok (.ifCond .ne 8, 3) := by decide +kernel
theorem dX8_branchOf_48 : decode cX8_branchOf 48 = .ok (.iload 5, 2) := by decide +kernel
theorem dX8_branchOf_50 : decode cX8_branchOf 50 = .ok (.goto 5, 3) := by decide +kernel
theorem dX8_branchOf_53 : decode cX8_branchOf 53 = .ok (.iload 4, 2) := by decide +kernel
theorem dX8_branchOf_55 : decode cX8_branchOf 55 = .ok (.istore 4, 2) := by decide +kernel
theorem dX8_branchOf_57 : decode cX8_branchOf 57 = .ok (.iinc 3 (-1), 3) := by decide +kernel
theorem dX8_branchOf_60 : decode cX8_branchOf 60 = .ok (.iinc 5 1, 3) := by decide +kernel
theorem dX8_branchOf_63 : decode cX8_branchOf 63 = .ok (.goto (-55), 3) := by decide +kernel
theorem dX8_branchOf_66 : decode cX8_branchOf 66 = .ok (.iload 4, 2) := by decide +kernel
theorem dX8_branchOf_68 : decode cX8_branchOf 68 = .ok (.ireturn, 1) := by decide +kernel
theorem dX8_branches_0 : decode cX8_branches 0 = .ok (.iconst 0, 1) := by decide +kernel
theorem dX8_branches_1 : decode cX8_branches 1 = .ok (.istore_n 2, 1) := by decide +kernel
theorem dX8_branches_2 : decode cX8_branches 2 = .ok (.iconst 0, 1) := by decide +kernel
theorem dX8_branches_3 : decode cX8_branches 3 = .ok (.istore_n 3, 1) := by decide +kernel
theorem dX8_branches_4 : decode cX8_branches 4 = .ok (.iload_n 3, 1) := by decide +kernel
theorem dX8_branches_5 : decode cX8_branches 5 = .ok (.aload_n 0, 1) := by decide +kernel
theorem dX8_branches_6 : decode cX8_branches 6 = .ok (.getfield 94, 3) := by decide +kernel
theorem dX8_branches_9 : decode cX8_branches 9 = .ok (.if_icmp .ge 49, 3) := by decide +kernel
theorem dX8_branches_12 : decode cX8_branches 12 = .ok (.iload_n 1, 1) := by decide +kernel
theorem dX8_branches_13 : decode cX8_branches 13 = .ok (.invokestatic 179, 3) := by decide +kernel
theorem dX8_branches_16 : decode cX8_branches 16 = .ok (.ifCond .eq 42, 3) := by decide +kernel
theorem dX8_branches_19 : decode cX8_branches 19 = .ok (.iload_n 2, 1) := by decide +kernel
theorem dX8_branches_20 : decode cX8_branches 20 = .ok (.aload_n 0, 1) := by decide +kernel
theorem dX8_branches_21 : decode cX8_branches 21 = .ok (.getfield 38, 3) := by decide +kernel
theorem dX8_branches_24 : decode cX8_branches 24 = .ok (.iload_n 3, 1) := by decide +kernel
theorem dX8_branches_25 : decode cX8_branches 25 = .ok (.iaload, 1) := by decide +kernel
theorem dX8_branches_26 : decode cX8_branches 26 = .ok (.iload_n 1, 1) := by decide +kernel
theorem dX8_branches_27 : decode cX8_branches 27 = .ok (.if_icmp .ne 22, 3) := by decide +kernel
theorem dX8_branches_30 : decode cX8_branches 30 = .ok (.aload_n 0, 1) := by decide +kernel
theorem dX8_branches_31 : decode cX8_branches 31 = .ok (.getfield 41, 3) := by decide +kernel
theorem dX8_branches_34 : decode cX8_branches 34 = .ok (.iload_n 3, 1) := by decide +kernel
theorem dX8_branches_35 : decode cX8_branches 35 = .ok (.iaload, 1) := by decide +kernel
theorem dX8_branches_36 : decode cX8_branches 36 = .ok (.aload_n 0, 1) := by decide +kernel
theorem dX8_branches_37 : decode cX8_branches 37 = .ok (.getfield 56, 3) := by decide +kernel
theorem dX8_branches_40 : decode cX8_branches 40 = .ok (.iload_n 1, 1) := by decide +kernel
theorem dX8_branches_41 : decode cX8_branches 41 = .ok (.iaload, 1) := by decide +kernel
theorem dX8_branches_42 : decode cX8_branches 42 = .ok (.if_icmp .ne 7, 3) := by decide +kernel
theorem dX8_branches_45 : decode cX8_branches 45 = .ok (.iconst 1, 1) := by decide +kernel
theorem dX8_branches_46 : decode cX8_branches 46 = .ok (.goto 4, 3) := by decide +kernel
theorem dX8_branches_49 : decode cX8_branches 49 = .ok (.iconst 0, 1) := by decide +kernel
theorem dX8_branches_50 : decode cX8_branches 50 = .ok (.iadd, 1) := by decide +kernel
theorem dX8_branches_51 : decode cX8_branches 51 = .ok (.istore_n 2, 1) := by decide +kernel
theorem dX8_branches_52 : decode cX8_branches 52 = .ok (.iinc 3 1, 3) := by decide +kernel
theorem dX8_branches_55 : decode cX8_branches 55 = .ok (.goto (-51), 3) := by decide +kernel
theorem dX8_branches_58 : decode cX8_branches 58 = .ok (.aload_n 0, 1) := by decide +kernel
theorem dX8_branches_59 : decode cX8_branches 59 = .ok (.iload_n 1, 1) := by decide +kernel
theorem dX8_branches_60 : decode cX8_branches 60 = .ok (.invokestatic 179, 3) := by decide +kernel
theorem dX8_branches_63 : decode cX8_branches 63 = .ok (.ifCond .eq 7, 3) := by decide +kernel
theorem dX8_branches_66 : decode cX8_branches 66 = .ok (.iconst 0, 1) := by decide +kernel
theorem dX8_branches_67 : decode cX8_branches 67 = .ok (.goto 4, 3) := by decide +kernel
theorem dX8_branches_70 : decode cX8_branches 70 = .ok (.iconst 1, 1) := by decide +kernel
theorem dX8_branches_71 : decode cX8_branches 71 = .ok (.invokevirtual 100, 3) := by decide +kernel
theorem dX8_branches_74 : decode cX8_branches 74 = .ok (.ifCond .eq 7, 3) := by decide +kernel
theorem dX8_branches_77 : decode cX8_branches 77 = .ok (.iload_n 2, 1) := by decide +kernel
theorem dX8_branches_78 : decode cX8_branches 78 = .ok (.goto 4, 3) := by decide +kernel
theorem dX8_branches_81 : decode cX8_branches 81 = .ok (.iconst 0, 1) := by decide +kernel
theorem dX8_branches_82 : decode cX8_branches 82 = .ok (.ireturn, 1) := by decide +kernel
theorem dX8_broken_0 : decode cX8_broken 0 = .ok (.aload_n 0, 1) := by decide +kernel
theorem dX8_broken_1 : decode cX8_broken 1 = .ok (.iconst 0, 1) := by decide +kernel
theorem dX8_broken_2 : decode cX8_broken 2 = .ok (.putfield 80, 3) := by decide +kernel
theorem dX8_broken_5 : decode cX8_broken 5 = .ok (.iconst 0, 1) := by decide +kernel
theorem dX8_broken_6 : decode cX8_broken 6 = .ok (.istore_n 1, 1) := by decide +kernel
theorem dX8_broken_7 : decode cX8_broken 7 = .ok (.iconst 0, 1) := by decide +kernel
theorem dX8_broken_8 : decode cX8_broken 8 = .ok (.istore_n 2, 1) := by decide +kernel
theorem dX8_broken_9 : decode cX8_broken 9 = .ok (.iload_n 2, 1) := by decide +kernel
theorem dX8_broken_10 : decode cX8_broken 10 = .ok (.aload_n 0, 1) := by decide +kernel
theorem dX8_broken_11 : decode cX8_broken 11 = .ok (.getfield 91, 3) := by decide +kernel
theorem dX8_broken_14 : decode cX8_broken 14 = .ok (.if_icmp .ge 31, 3) := by decide +kernel
theorem dX8_broken_17 : decode cX8_broken 17 = .ok (.iload_n 1, 1) := by decide +kernel
theorem dX8_broken_18 : decode cX8_broken 18 = .ok (.aload_n 0, 1) := by decide +kernel
theorem dX8_broken_19 : decode cX8_broken 19 = .ok (.getfield 53, 3) := by decide +kernel
theorem dX8_broken_22 : decode cX8_broken 22 = .ok (.aload_n 0, 1) := by decide +kernel
theorem dX8_broken_23 : decode cX8_broken 23 = .ok (.getfield 35, 3) := by decide +kernel
theorem dX8_broken_26 : decode cX8_broken 26 = .ok (.iload_n 2, 1) := by decide +kernel
theorem dX8_broken_27 : decode cX8_broken 27 = .ok (.iaload, 1) := by decide +kernel
theorem dX8_broken_28 : decode cX8_broken 28 = .ok (.baload, 1) := by decide +kernel
theorem dX8_broken_29 : decode cX8_broken 29 = .ok (.ifCond .eq 7, 3) := by decide +kernel
theorem dX8_broken_32 : decode cX8_broken 32 = .ok (.iconst 1, 1) := by decide +kernel
theorem dX8_broken_33 : decode cX8_broken 33 = .ok (.goto 4, 3) := by decide +kernel
theorem dX8_broken_36 : decode cX8_broken 36 = .ok (.iconst 0, 1) := by decide +kernel
theorem dX8_broken_37 : decode cX8_broken 37 = .ok (.iadd, 1) := by decide +kernel
theorem dX8_broken_38 : decode cX8_broken 38 = .ok (.istore_n 1, 1) := by decide +kernel
theorem dX8_broken_39 : decode cX8_broken 39 = .ok (.iinc 2 1, 3) := by decide +kernel
theorem dX8_broken_42 : decode cX8_broken 42 = .ok (.goto (-33), 3) := by decide +kernel
theorem dX8_broken_45 : decode cX8_broken 45 = .ok (.iload_n 1, 1) := by decide +kernel
theorem dX8_broken_46 : decode cX8_broken 46 = .ok (.ireturn, 1) := by decide +kernel
theorem dX8_isExport_0 : decode cX8_isExport 0 = .ok (.iload_n 1, 1) := by decide +kernel
theorem dX8_isExport_1 : decode cX8_isExport 1 = .ok (.iconst 0, 1) := by decide +kernel
theorem dX8_isExport_2 : decode cX8_isExport 2 = .ok (.aload_n 0, 1) := by decide +kernel
theorem dX8_isExport_3 : decode cX8_isExport 3 = .ok (.getfield 215, 3) := by decide +kernel
theorem dX8_isExport_6 : decode cX8_isExport 6 = .ok (.iconst 1, 1) := by decide +kernel
theorem dX8_isExport_7 : decode cX8_isExport 7 = .ok (.isub, 1) := by decide +kernel
theorem dX8_isExport_8 : decode cX8_isExport 8 = .ok (.invokestatic 84, 3) := by decide +kernel
theorem dX8_isExport_11 : decode cX8_isExport 11 = .ok (.ireturn, 1) := by decide +kernel
theorem dX8_sign_0 : decode cX8_sign 0 = .ok (.aload_n 0, 1) := by decide +kernel
theorem dX8_sign_1 : decode cX8_sign 1 = .ok (.aload_n 0, 1) := by decide +kernel
theorem dX8_sign_2 : decode cX8_sign 2 = .ok (.getfield 221, 3) := by decide +kernel
theorem dX8_sign_5 : decode cX8_sign 5 = .ok (.ifCond .ne 7, 3) := by decide +kernel
theorem dX8_sign_8 : decode cX8_sign 8 = .ok (.iload_n 1, 1) := by decide +kernel
theorem dX8_sign_9 : decode cX8_sign 9 = .ok (.goto 7, 3) := by decide +kernel
theorem dX8_sign_12 : decode cX8_sign 12 = .ok (.aload_n 0, 1) := by decide +kernel
theorem dX8_sign_13 : decode cX8_sign 13 = .ok (.getfield 224, 3) := by decide +kernel
theorem dX8_sign_16 : decode cX8_sign 16 = .ok (.putfield 224, 3) := by decide +kernel
theorem dX8_sign_19 : decode cX8_sign 19 = .ok (.aload_n 0, 1) := by decide +kernel
theorem dX8_sign_20 : decode cX8_sign 20 = .ok (.dup, 1) := by decide +kernel
theorem dX8_sign_21 : decode cX8_sign 21 = .ok (.getfield 221, 3) := by decide +kernel
theorem dX8_sign_24 : decode cX8_sign 24 = .ok (.iconst 1, 1) := by decide +kernel
theorem dX8_sign_25 : decode cX8_sign 25 = .ok (.isub, 1) := by decide +kernel
theorem dX8_sign_26 : decode cX8_sign 26 = .ok (.putfield 221, 3) := by decide +kernel
theorem dX8_sign_29 : decode cX8_sign 29 = .ok (.return_, 1) := by decide +kernel
theorem dX8_signs_0 : decode cX8_signs 0 = .ok (.iload_n 1, 1) := by decide +kernel
theorem dX8_signs_1 : decode cX8_signs 1 = .ok (.istore_n 2, 1) := by decide +kernel
theorem dX8_signs_2 : decode cX8_signs 2 = .ok (.iload_n 2, 1) := by decide +kernel
theorem dX8_signs_3 : decode cX8_signs 3 = .ok (.ifCond .ge 12, 3) := by decide +kernel
theorem dX8_signs_6 : decode cX8_signs 6 = .ok (.aload_n 0, 1) := by decide +kernel
theorem dX8_signs_7 : decode cX8_signs 7 = .ok (.bipush 45, 2) := by decide +kernel
theorem dX8_signs_9 : decode cX8_signs 9 = .ok (.invokevirtual 227, 3) := by decide +kernel
theorem dX8_signs_12 : decode cX8_signs 12 = .ok (.iload_n 2, 1) := by decide +kernel
theorem dX8_signs_13 : decode cX8_signs 13 = .ok (.ineg, 1) := by decide +kernel
theorem dX8_signs_14 : decode cX8_signs 14 = .ok (.istore_n 2, 1) := by decide +kernel
theorem dX8_signs_15 : decode cX8_signs 15 = .ok (.iconst 1, 1) := by decide +kernel
theorem dX8_signs_16 : decode cX8_signs 16 = .ok (.istore_n 3, 1) := by decide +kernel
theorem dX8_signs_17 : decode cX8_signs 17 = .ok (.iload_n 2, 1) := by decide +kernel
theorem dX8_signs_18 : decode cX8_signs 18 = .ok (.iload_n 3, 1) := by decide +kernel
theorem dX8_signs_19 : decode cX8_signs 19 = .ok (.idiv, 1) := by decide +kernel
theorem dX8_signs_20 : decode cX8_signs 20 = .ok (.bipush 9, 2) := by decide +kernel
theorem dX8_signs_22 : decode cX8_signs 22 = .ok (.if_icmp .le 11, 3) := by decide +kernel
theorem dX8_signs_25 : decode cX8_signs 25 = .ok (.iload_n 3, 1) := by decide +kernel
theorem dX8_signs_26 : decode cX8_signs 26 = .ok (.bipush 10, 2) := by decide +kernel
theorem dX8_signs_28 : decode cX8_signs 28 = .ok (.imul, 1) := by decide +kernel
theorem dX8_signs_29 : decode cX8_signs 29 = .ok (.istore_n 3, 1) := by decide +kernel
theorem dX8_signs_30 : decode cX8_signs 30 = .ok (.goto (-13), 3) := by decide +kernel
theorem dX8_signs_33 : decode cX8_signs 33 = .ok (.iload_n 3, 1) := by decide +kernel
theorem dX8_signs_34 : decode cX8_signs 34 = .ok (.ifCond .le 24, 3) := by decide +kernel
theorem dX8_signs_37 : decode cX8_signs 37 = .ok (.aload_n 0, 1) := by decide +kernel
theorem dX8_signs_38 : decode cX8_signs 38 = .ok (.bipush 48, 2) := by decide +kernel
theorem dX8_signs_40 : decode cX8_signs 40 = .ok (.iload_n 2, 1) := by decide +kernel
theorem dX8_signs_41 : decode cX8_signs 41 = .ok (.iload_n 3, 1) := by decide +kernel
theorem dX8_signs_42 : decode cX8_signs 42 = .ok (.idiv, 1) := by decide +kernel
theorem dX8_signs_43 : decode cX8_signs 43 = .ok (.bipush 10, 2) := by decide +kernel
theorem dX8_signs_45 : decode cX8_signs 45 = .ok (.irem, 1) := by decide +kernel
theorem dX8_signs_46 : decode cX8_signs 46 = .ok (.iadd, 1) := by decide +kernel
theorem dX8_signs_47 : decode cX8_signs 47 = .ok (.invokevirtual 227, 3) := by decide +kernel
theorem dX8_signs_50 : decode cX8_signs 50 = .ok (.iload_n 3, 1) := by decide +kernel
theorem dX8_signs_51 : decode cX8_signs 51 = .ok (.bipush 10, 2) := by decide +kernel
theorem dX8_signs_53 : decode cX8_signs 53 = .ok (.idiv, 1) := by decide +kernel
theorem dX8_signs_54 : decode cX8_signs 54 = .ok (.istore_n 3, 1) := by decide +kernel
theorem dX8_signs_55 : decode cX8_signs 55 = .ok (.goto (-22), 3) := by decide +kernel
theorem dX8_signs_58 : decode cX8_signs 58 = .ok (.return_, 1) := by decide +kernel
theorem dX8_tells_0 : decode cX8_tells 0 = .ok (.aload_n 0, 1) := by decide +kernel
theorem dX8_tells_1 : decode cX8_tells 1 = .ok (.bipush 44, 2) := by decide +kernel
theorem dX8_tells_3 : decode cX8_tells 3 = .ok (.invokevirtual 227, 3) := by decide +kernel
theorem dX8_tells_6 : decode cX8_tells 6 = .ok (.iconst 0, 1) := by decide +kernel
theorem dX8_tells_7 : decode cX8_tells 7 = .ok (.istore_n 2, 1) := by decide +kernel
theorem dX8_tells_8 : decode cX8_tells 8 = .ok (.iload_n 2, 1) := by decide +kernel
theorem dX8_tells_9 : decode cX8_tells 9 = .ok (.aload_n 0, 1) := by decide +kernel
theorem dX8_tells_10 : decode cX8_tells 10 = .ok (.getfield 20, 3) := by decide +kernel
theorem dX8_tells_13 : decode cX8_tells 13 = .ok (.iload_n 1, 1) := by decide +kernel
theorem dX8_tells_14 : decode cX8_tells 14 = .ok (.iaload, 1) := by decide +kernel
theorem dX8_tells_15 : decode cX8_tells 15 = .ok (.if_icmp .ge 73, 3) := by decide +kernel
theorem dX8_tells_18 : decode cX8_tells 18 = .ok (.aload_n 0, 1) := by decide +kernel
theorem dX8_tells_19 : decode cX8_tells 19 = .ok (.getfield 23, 3) := by decide +kernel
theorem dX8_tells_22 : decode cX8_tells 22 = .ok (.iconst 5, 1) := by decide +kernel
theorem dX8_tells_23 : decode cX8_tells 23 = .ok (.iload_n 1, 1) := by decide +kernel
theorem dX8_tells_24 : decode cX8_tells 24 = .ok (.imul, 1) := by decide +kernel
theorem dX8_tells_25 : decode cX8_tells 25 = .ok (.aload_n 0, 1) := by decide +kernel
theorem dX8_tells_26 : decode cX8_tells 26 = .ok (.getfield 17, 3) := by decide +kernel
theorem dX8_tells_29 : decode cX8_tells 29 = .ok (.iload_n 1, 1) := by decide +kernel
theorem dX8_tells_30 : decode cX8_tells 30 = .ok (.baload, 1) := by decide +kernel
theorem dX8_tells_31 : decode cX8_tells 31 = .ok (.ifCond .eq 16, 3) := by decide +kernel
theorem dX8_tells_34 : decode cX8_tells 34 = .ok (.aload_n 0, 1) := by decide +kernel
theorem dX8_tells_35 : decode cX8_tells 35 = .ok (.getfield 20, 3) := by decide +kernel
theorem dX8_tells_38 : decode cX8_tells 38 = .ok (.iload_n 1, 1) := by decide +kernel
theorem dX8_tells_39 : decode cX8_tells 39 = .ok (.iaload, 1) := by decide +kernel
theorem dX8_tells_40 : decode cX8_tells 40 = .ok (.iconst 1, 1) := by decide +kernel
theorem dX8_tells_41 : decode cX8_tells 41 = .ok (.isub, 1) := by decide +kernel
theorem dX8_tells_42 : decode cX8_tells 42 = .ok (.iload_n 2, 1) := by decide +kernel
theorem dX8_tells_43 : decode cX8_tells 43 = .ok (.isub, 1) := by decide +kernel
theorem dX8_tells_44 : decode cX8_tells 44 = .ok (.goto 4, 3) := by decide +kernel
theorem dX8_tells_47 : decode cX8_tells 47 = .ok (.iload_n 2, 1) := by decide +kernel
theorem dX8_tells_48 : decode cX8_tells 48 = .ok (.iadd, 1) := by decide +kernel
theorem dX8_tells_49 : decode cX8_tells 49 = .ok (.iaload, 1) := by decide +kernel
theorem dX8_tells_50 : decode cX8_tells 50 = .ok (.istore_n 3, 1) := by decide +kernel
theorem dX8_tells_51 : decode cX8_tells 51 = .ok (.aload_n 0, 1) := by decide +kernel
theorem dX8_tells_52 : decode cX8_tells 52 = .ok (.iload_n 3, 1) := by decide +kernel
theorem dX8_tells_53 : decode cX8_tells 53 = .ok (.bipush 26, 2) := by decide +kernel
theorem dX8_tells_55 : decode cX8_tells 55 = .ok (.if_icmp .ne 8, 3) := by decide +kernel
theorem dX8_tells_58 : decode cX8_tells 58 = .ok (.ldc 230, 2) := by decide +kernel
theorem dX8_tells_60 : decode cX8_tells 60 = .ok (.goto 7, 3) := by decide +kernel
theorem dX8_tells_63 : decode cX8_tells 63 = .ok (.bipush 97, 2) := by decide +kernel
theorem dX8_tells_65 : decode cX8_tells 65 = .ok (.iload_n 3, 1) := by decide +kernel
theorem dX8_tells_66 : decode cX8_tells 66 = .ok (.iadd, 1) := by decide +kernel
theorem dX8_tells_67 : decode cX8_tells 67 = .ok (.invokevirtual 227, 3) := by decide +kernel
theorem dX8_tells_70 : decode cX8_tells 70 = .ok (.iload_n 3, 1) := by decide +kernel
theorem dX8_tells_71 : decode cX8_tells 71 = .ok (.bipush 26, 2) := by decide +kernel
theorem dX8_tells_73 : decode cX8_tells 73 = .ok (.if_icmp .ne 9, 3) := by decide +kernel
theorem dX8_tells_76 : decode cX8_tells 76 = .ok (.aload_n 0, 1) := by decide +kernel
theorem dX8_tells_77 : decode cX8_tells 77 = .ok (.ldc 231, 2) := by decide +kernel
theorem dX8_tells_79 : decode cX8_tells 79 = .ok (.invokevirtual 227, 3) := by decide +kernel
theorem dX8_tells_82 : decode cX8_tells 82 = .ok (.iinc 2 1, 3) := by decide +kernel
theorem dX8_tells_85 : decode cX8_tells 85 = .ok (.goto (-77), 3) := by decide +kernel
theorem dX8_tells_88 : decode cX8_tells 88 = .ok (.return_, 1) := by decide +kernel
theorem dX8_goesThrough_0 : decode cX8_goesThrough 0 = .ok (.aload_n 0, 1) := by decide +kernel
theorem dX8_goesThrough_1 : decode cX8_goesThrough 1 = .ok (.iload_n 2, 1) := by decide +kernel
theorem dX8_goesThrough_2 : decode cX8_goesThrough 2 = .ok (.putfield 221, 3) := by decide +kernel
theorem dX8_goesThrough_5 : decode cX8_goesThrough 5 = .ok (.aload_n 0, 1) := by decide +kernel
theorem dX8_goesThrough_6 : decode cX8_goesThrough 6 = .ok (.iconst (-1), 1) := by decide +kernel
theorem dX8_goesThrough_7 : decode cX8_goesThrough 7 = .ok (.putfield 224, 3) := by decide +kernel
theorem dX8_goesThrough_10 : decode cX8_goesThrough 10 = .ok (.iconst 0, 1) := by decide +kernel
theorem dX8_goesThrough_11 : decode cX8_goesThrough 11 = .ok (.istore_n 3, 1) := by decide +kernel
theorem dX8_goesThrough_12 : decode cX8_goesThrough 12 = .ok (.iload_n 3, 1) := by decide +kernel
theorem dX8_goesThrough_13 : decode cX8_goesThrough 13 = .ok (.bipush 10, 2) := by decide +kernel
theorem dX8_goesThrough_15 : decode cX8_goesThrough 15 = .ok (.if_icmp .ge 118, 3) := by decide +kernel
theorem dX8_goesThrough_18 : decode cX8_goesThrough 18 = .ok (.aload_n 0, 1) := by decide +kernel
theorem dX8_goesThrough_19 : decode cX8_goesThrough 19 = .ok (.getfield 71, 3) := by decide +kernel
theorem dX8_goesThrough_22 : decode cX8_goesThrough 22 = .ok (.iload_n 1, 1) := by decide +kernel
theorem dX8_goesThrough_23 : decode cX8_goesThrough 23 = .ok (.iaload, 1) := by decide +kernel
theorem dX8_goesThrough_24 : decode cX8_goesThrough 24 = .ok (.iload_n 3, 1) := by decide +kernel
theorem dX8_goesThrough_25 : decode cX8_goesThrough 25 = .ok (.invokestatic 104, 3) := by decide +kernel
theorem dX8_goesThrough_28 : decode cX8_goesThrough 28 = .ok (.ifCond .eq 99, 3) := by decide +kernel
theorem dX8_goesThrough_31 : decode cX8_goesThrough 31 = .ok (.aload_n 0, 1) := by decide +kernel
theorem dX8_goesThrough_32 : decode cX8_goesThrough 32 = .ok (.aload_n 0, 1) := by decide +kernel
theorem dX8_goesThrough_33 : decode cX8_goesThrough 33 = .ok (.getfield 13, 3) := by decide +kernel
theorem dX8_goesThrough_36 : decode cX8_goesThrough 36 = .ok (.iload_n 3, 1) := by decide +kernel
theorem dX8_goesThrough_37 : decode cX8_goesThrough 37 = .ok (.baload, 1) := by decide +kernel
theorem dX8_goesThrough_38 : decode cX8_goesThrough 38 = .ok (.ifCond .eq 8, 3) := by decide +kernel
theorem dX8_goesThrough_41 : decode cX8_goesThrough 41 = .ok (.bipush 116, 2) := by decide +kernel
theorem dX8_goesThrough_43 : decode cX8_goesThrough 43 = .ok (.goto 5, 3) := by decide +kernel
theorem dX8_goesThrough_46 : decode cX8_goesThrough 46 = .ok (.bipush 98, 2) := by decide +kernel
theorem dX8_goesThrough_48 : decode cX8_goesThrough 48 = .ok (.invokevirtual 227, 3) := by decide +kernel
theorem dX8_goesThrough_51 : decode cX8_goesThrough 51 = .ok (.aload_n 0, 1) := by decide +kernel
theorem dX8_goesThrough_52 : decode cX8_goesThrough 52 = .ok (.iload_n 3, 1) := by decide +kernel
theorem dX8_goesThrough_53 : decode cX8_goesThrough 53 = .ok (.invokevirtual 232, 3) := by decide +kernel
theorem dX8_goesThrough_56 : decode cX8_goesThrough 56 = .ok (.iconst 0, 1) := by decide +kernel
theorem dX8_goesThrough_57 : decode cX8_goesThrough 57 = .ok (.istore 4, 2) := by decide +kernel
theorem dX8_goesThrough_59 : decode cX8_goesThrough 59 = .ok (.iload 4, 2) := by decide +kernel
theorem dX8_goesThrough_61 : decode cX8_goesThrough 61 = .ok (.iconst 4, 1) := by decide +kernel
theorem dX8_goesThrough_62 : decode cX8_goesThrough 62 = .ok (.if_icmp .ge 45, 3) := by decide +kernel
theorem dX8_goesThrough_65 : decode cX8_goesThrough 65 = .ok (.aload_n 0, 1) := by decide +kernel
theorem dX8_goesThrough_66 : decode cX8_goesThrough 66 = .ok (.iload 4, 2) := by decide +kernel
theorem dX8_goesThrough_68 : decode cX8_goesThrough 68 = .ok (.ifCond .ne 8, 3) := by decide +kernel
theorem dX8_goesThrough_71 : decode cX8_goesThrough 71 = .ok (.bipush 58, 2) := by decide +kernel
theorem dX8_goesThrough_73 : decode cX8_goesThrough 73 = .ok (.goto 5, 3) := by decide +kernel
theorem dX8_goesThrough_76 : decode cX8_goesThrough 76 = .ok (.bipush 44, 2) := by decide +kernel
theorem dX8_goesThrough_78 : decode cX8_goesThrough 78 = .ok (.invokevirtual 227, 3) := by decide +kernel
theorem dX8_goesThrough_81 : decode cX8_goesThrough 81 = .ok (.aload_n 0, 1) := by decide +kernel
theorem dX8_goesThrough_82 : decode cX8_goesThrough 82 = .ok (.aload_n 0, 1) := by decide +kernel
theorem dX8_goesThrough_83 : decode cX8_goesThrough 83 = .ok (.getfield 74, 3) := by decide +kernel
theorem dX8_goesThrough_86 : decode cX8_goesThrough 86 = .ok (.bipush 40, 2) := by decide +kernel
theorem dX8_goesThrough_88 : decode cX8_goesThrough 88 = .ok (.iload_n 1, 1) := by decide +kernel
theorem dX8_goesThrough_89 : decode cX8_goesThrough 89 = .ok (.imul, 1) := by decide +kernel
theorem dX8_goesThrough_90 : decode cX8_goesThrough 90 = .ok (.iconst 4, 1) := by decide +kernel
theorem dX8_goesThrough_91 : decode cX8_goesThrough 91 = .ok (.iload_n 3, 1) := by decide +kernel
theorem dX8_goesThrough_92 : decode cX8_goesThrough 92 = .ok (.imul, 1) := by decide +kernel
theorem dX8_goesThrough_93 : decode cX8_goesThrough 93 = .ok (.iadd, 1) := by decide +kernel
theorem dX8_goesThrough_94 : decode cX8_goesThrough 94 = .ok (.iload 4, 2) := by decide +kernel
theorem dX8_goesThrough_96 : decode cX8_goesThrough 96 = .ok (.iadd, 1) := by decide +kernel
theorem dX8_goesThrough_97 : decode cX8_goesThrough 97 = .ok (.iaload, 1) := by decide +kernel
theorem dX8_goesThrough_98 : decode cX8_goesThrough 98 = .ok (.invokevirtual 232, 3) := by decide +kernel
theorem dX8_goesThrough_101 : decode cX8_goesThrough 101 = .ok (.iinc 4 1, 3) := by decide +kernel
theorem dX8_goesThrough_104 : decode cX8_goesThrough 104 = .ok (.goto (-45), 3) := by decide +kernel
theorem dX8_goesThrough_107 : decode cX8_goesThrough 107 = .ok (.aload_n 0, 1) := by decide +kernel
theorem dX8_goesThrough_108 : decode cX8_goesThrough 108 = .ok (.getfield 13, 3) := by decide +kernel
theorem dX8_goesThrough_111 : decode cX8_goesThrough 111 = .ok (.iload_n 3, 1) := by decide +kernel
theorem dX8_goesThrough_112 : decode cX8_goesThrough 112 = .ok (.baload, 1) := by decide +kernel
theorem dX8_goesThrough_113 : decode cX8_goesThrough 113 = .ok (.ifCond .eq 8, 3) := by decide +kernel
theorem dX8_goesThrough_116 : decode cX8_goesThrough 116 = .ok (.aload_n 0, 1) := by decide +kernel
theorem dX8_goesThrough_117 : decode cX8_goesThrough 117 = .ok (.iload_n 3, 1) := by decide +kernel
theorem dX8_goesThrough_118 : decode cX8_goesThrough 118 = .ok (.invokevirtual 235, 3) := by decide +kernel
theorem dX8_goesThrough_121 : decode cX8_goesThrough 121 = .ok (.aload_n 0, 1) := by decide +kernel
theorem dX8_goesThrough_122 : decode cX8_goesThrough 122 = .ok (.bipush 59, 2) := by decide +kernel
theorem dX8_goesThrough_124 : decode cX8_goesThrough 124 = .ok (.invokevirtual 227, 3) := by decide +kernel
theorem dX8_goesThrough_127 : decode cX8_goesThrough 127 = .ok (.iinc 3 1, 3) := by decide +kernel
theorem dX8_goesThrough_130 : decode cX8_goesThrough 130 = .ok (.goto (-118), 3) := by decide +kernel
theorem dX8_goesThrough_133 : decode cX8_goesThrough 133 = .ok (.iconst 0, 1) := by decide +kernel
theorem dX8_goesThrough_134 : decode cX8_goesThrough 134 = .ok (.istore_n 3, 1) := by decide +kernel
theorem dX8_goesThrough_135 : decode cX8_goesThrough 135 = .ok (.iload_n 3, 1) := by decide +kernel
theorem dX8_goesThrough_136 : decode cX8_goesThrough 136 = .ok (.bipush 12, 2) := by decide +kernel
theorem dX8_goesThrough_138 : decode cX8_goesThrough 138 = .ok (.if_icmp .ge 39, 3) := by decide +kernel
theorem dX8_goesThrough_141 : decode cX8_goesThrough 141 = .ok (.aload_n 0, 1) := by decide +kernel
theorem dX8_goesThrough_142 : decode cX8_goesThrough 142 = .ok (.getfield 77, 3) := by decide +kernel
theorem dX8_goesThrough_145 : decode cX8_goesThrough 145 = .ok (.iload_n 1, 1) := by decide +kernel
theorem dX8_goesThrough_146 : decode cX8_goesThrough 146 = .ok (.iaload, 1) := by decide +kernel
theorem dX8_goesThrough_147 : decode cX8_goesThrough 147 = .ok (.iload_n 3, 1) := by decide +kernel
theorem dX8_goesThrough_148 : decode cX8_goesThrough 148 = .ok (.invokestatic 104, 3) := by decide +kernel
theorem dX8_goesThrough_151 : decode cX8_goesThrough 151 = .ok (.ifCond .eq 20, 3) := by decide +kernel
theorem dX8_goesThrough_154 : decode cX8_goesThrough 154 = .ok (.aload_n 0, 1) := by decide +kernel
theorem dX8_goesThrough_155 : decode cX8_goesThrough 155 = .ok (.bipush 114, 2) := by decide +kernel
theorem dX8_goesThrough_157 : decode cX8_goesThrough 157 = .ok (.invokevirtual 227, 3) := by decide +kernel
theorem dX8_goesThrough_160 : decode cX8_goesThrough 160 = .ok (.aload_n 0, 1) := by decide +kernel
theorem dX8_goesThrough_161 : decode cX8_goesThrough 161 = .ok (.iload_n 3, 1) := by decide +kernel
theorem dX8_goesThrough_162 : decode cX8_goesThrough 162 = .ok (.invokevirtual 232, 3) := by decide +kernel
theorem dX8_goesThrough_165 : decode cX8_goesThrough 165 = .ok (.aload_n 0, 1) := by decide +kernel
theorem dX8_goesThrough_166 : decode cX8_goesThrough 166 = .ok (.bipush 59, 2) := by decide +kernel
theorem dX8_goesThrough_168 : decode cX8_goesThrough 168 = .ok (.invokevirtual 227, 3) := by decide +kernel
theorem dX8_goesThrough_171 : decode cX8_goesThrough 171 = .ok (.iinc 3 1, 3) := by decide +kernel
theorem dX8_goesThrough_174 : decode cX8_goesThrough 174 = .ok (.goto (-39), 3) := by decide +kernel
theorem dX8_goesThrough_177 : decode cX8_goesThrough 177 = .ok (.iload_n 2, 1) := by decide +kernel
theorem dX8_goesThrough_178 : decode cX8_goesThrough 178 = .ok (.aload_n 0, 1) := by decide +kernel
theorem dX8_goesThrough_179 : decode cX8_goesThrough 179 = .ok (.getfield 221, 3) := by decide +kernel
theorem dX8_goesThrough_182 : decode cX8_goesThrough 182 = .ok (.isub, 1) := by decide +kernel
theorem dX8_goesThrough_183 : decode cX8_goesThrough 183 = .ok (.ireturn, 1) := by decide +kernel
theorem dX8_charOf_0 : decode cX8_charOf 0 = .ok (.aload_n 0, 1) := by decide +kernel
theorem dX8_charOf_1 : decode cX8_charOf 1 = .ok (.iload_n 1, 1) := by decide +kernel
theorem dX8_charOf_2 : decode cX8_charOf 2 = .ok (.invokevirtual 238, 3) := by decide +kernel
theorem dX8_charOf_5 : decode cX8_charOf 5 = .ok (.ifCond .eq 19, 3) := by decide +kernel
theorem dX8_charOf_8 : decode cX8_charOf 8 = .ok (.iload_n 1, 1) := by decide +kernel
theorem dX8_charOf_9 : decode cX8_charOf 9 = .ok (.aload_n 0, 1) := by decide +kernel
theorem dX8_charOf_10 : decode cX8_charOf 10 = .ok (.getfield 218, 3) := by decide +kernel
theorem dX8_charOf_13 : decode cX8_charOf 13 = .ok (.if_icmp .ge 11, 3) := by decide +kernel
theorem dX8_charOf_16 : decode cX8_charOf 16 = .ok (.iload_n 2, 1) := by decide +kernel
theorem dX8_charOf_17 : decode cX8_charOf 17 = .ok (.ifCond .lt 7, 3) := by decide +kernel
theorem dX8_charOf_20 : decode cX8_charOf 20 = .ok (.iconst 1, 1) := by decide +kernel
theorem dX8_charOf_21 : decode cX8_charOf 21 = .ok (.goto 4, 3) := by decide +kernel
theorem dX8_charOf_24 : decode cX8_charOf 24 = .ok (.iconst 0, 1) := by decide +kernel
theorem dX8_charOf_25 : decode cX8_charOf 25 = .ok (.istore_n 3, 1) := by decide +kernel
theorem dX8_charOf_26 : decode cX8_charOf 26 = .ok (.iload_n 3, 1) := by decide +kernel
theorem dX8_charOf_27 : decode cX8_charOf 27 = .ok (.ifCond .eq 10, 3) := by decide +kernel
theorem dX8_charOf_30 : decode cX8_charOf 30 = .ok (.aload_n 0, 1) := by decide +kernel
theorem dX8_charOf_31 : decode cX8_charOf 31 = .ok (.iload_n 1, 1) := by decide +kernel
theorem dX8_charOf_32 : decode cX8_charOf 32 = .ok (.iload_n 2, 1) := by decide +kernel
theorem dX8_charOf_33 : decode cX8_charOf 33 = .ok (.invokevirtual 241, 3) := by decide +kernel
theorem dX8_charOf_36 : decode cX8_charOf 36 = .ok (.pop, 1) := by decide +kernel
theorem dX8_charOf_37 : decode cX8_charOf 37 = .ok (.aload_n 0, 1) := by decide +kernel
theorem dX8_charOf_38 : decode cX8_charOf 38 = .ok (.aload_n 0, 1) := by decide +kernel
theorem dX8_charOf_39 : decode cX8_charOf 39 = .ok (.iload_n 1, 1) := by decide +kernel
theorem dX8_charOf_40 : decode cX8_charOf 40 = .ok (.invokevirtual 238, 3) := by decide +kernel
theorem dX8_charOf_43 : decode cX8_charOf 43 = .ok (.ifCond .ne 7, 3) := by decide +kernel
theorem dX8_charOf_46 : decode cX8_charOf 46 = .ok (.iconst 1, 1) := by decide +kernel
theorem dX8_charOf_47 : decode cX8_charOf 47 = .ok (.goto 20, 3) := by decide +kernel
theorem dX8_charOf_50 : decode cX8_charOf 50 = .ok (.iload_n 3, 1) := by decide +kernel
theorem dX8_charOf_51 : decode cX8_charOf 51 = .ok (.ifCond .eq 15, 3) := by decide +kernel
theorem dX8_charOf_54 : decode cX8_charOf 54 = .ok (.aload_n 0, 1) := by decide +kernel
theorem dX8_charOf_55 : decode cX8_charOf 55 = .ok (.getfield 224, 3) := by decide +kernel
theorem dX8_charOf_58 : decode cX8_charOf 58 = .ok (.iconst (-1), 1) := by decide +kernel
theorem dX8_charOf_59 : decode cX8_charOf 59 = .ok (.if_icmp .eq 7, 3) := by decide +kernel
theorem dX8_charOf_62 : decode cX8_charOf 62 = .ok (.iconst 0, 1) := by decide +kernel
theorem dX8_charOf_63 : decode cX8_charOf 63 = .ok (.goto 4, 3) := by decide +kernel
theorem dX8_charOf_66 : decode cX8_charOf 66 = .ok (.iconst 2, 1) := by decide +kernel
theorem dX8_charOf_67 : decode cX8_charOf 67 = .ok (.invokevirtual 100, 3) := by decide +kernel
theorem dX8_charOf_70 : decode cX8_charOf 70 = .ok (.ifCond .eq 11, 3) := by decide +kernel
theorem dX8_charOf_73 : decode cX8_charOf 73 = .ok (.aload_n 0, 1) := by decide +kernel
theorem dX8_charOf_74 : decode cX8_charOf 74 = .ok (.getfield 224, 3) := by decide +kernel
theorem dX8_charOf_77 : decode cX8_charOf 77 = .ok (.i2c, 1) := by decide +kernel
theorem dX8_charOf_78 : decode cX8_charOf 78 = .ok (.goto 5, 3) := by decide +kernel
theorem dX8_charOf_81 : decode cX8_charOf 81 = .ok (.bipush 97, 2) := by decide +kernel
theorem dX8_charOf_83 : decode cX8_charOf 83 = .ok (.ireturn, 1) := by decide +kernel
theorem dX8_charAnew_0 : decode cX8_charAnew 0 = .ok (.aload_n 0, 1) := by decide +kernel
theorem dX8_charAnew_1 : decode cX8_charAnew 1 = .ok (.iload_n 1, 1) := by decide +kernel
theorem dX8_charAnew_2 : decode cX8_charAnew 2 = .ok (.iload_n 2, 1) := by decide +kernel
theorem dX8_charAnew_3 : decode cX8_charAnew 3 = .ok (.invokevirtual 244, 3) := by decide +kernel
theorem dX8_charAnew_6 : decode cX8_charAnew 6 = .ok (.ireturn, 1) := by decide +kernel
theorem dX8_charAt_0 : decode cX8_charAt 0 = .ok (.aload_n 0, 1) := by decide +kernel
theorem dX8_charAt_1 : decode cX8_charAt 1 = .ok (.iload_n 1, 1) := by decide +kernel
theorem dX8_charAt_2 : decode cX8_charAt 2 = .ok (.iload_n 2, 1) := by decide +kernel
theorem dX8_charAt_3 : decode cX8_charAt 3 = .ok (.invokevirtual 244, 3) := by decide +kernel
theorem dX8_charAt_6 : decode cX8_charAt 6 = .ok (.ireturn, 1) := by decide +kernel
theorem dX8_isAct_0 : decode cX8_isAct 0 = .ok (.iload_n 1, 1) := by decide +kernel
theorem dX8_isAct_1 : decode cX8_isAct 1 = .ok (.iconst 0, 1) := by decide +kernel
theorem dX8_isAct_2 : decode cX8_isAct 2 = .ok (.aload_n 0, 1) := by decide +kernel
theorem dX8_isAct_3 : decode cX8_isAct 3 = .ok (.getfield 94, 3) := by decide +kernel
theorem dX8_isAct_6 : decode cX8_isAct 6 = .ok (.iconst 1, 1) := by decide +kernel
theorem dX8_isAct_7 : decode cX8_isAct 7 = .ok (.isub, 1) := by decide +kernel
theorem dX8_isAct_8 : decode cX8_isAct 8 = .ok (.invokestatic 84, 3) := by decide +kernel
theorem dX8_isAct_11 : decode cX8_isAct 11 = .ok (.ireturn, 1) := by decide +kernel
theorem dX8_counts_0 : decode cX8_counts 0 = .ok (.aload_n 0, 1) := by decide +kernel
theorem dX8_counts_1 : decode cX8_counts 1 = .ok (.aload_n 0, 1) := by decide +kernel
theorem dX8_counts_2 : decode cX8_counts 2 = .ok (.iload_n 1, 1) := by decide +kernel
theorem dX8_counts_3 : decode cX8_counts 3 = .ok (.invokevirtual 209, 3) := by decide +kernel
theorem dX8_counts_6 : decode cX8_counts 6 = .ok (.ifCond .eq 7, 3) := by decide +kernel
theorem dX8_counts_9 : decode cX8_counts 9 = .ok (.iconst 0, 1) := by decide +kernel
theorem dX8_counts_10 : decode cX8_counts 10 = .ok (.goto 4, 3) := by decide +kernel
theorem dX8_counts_13 : decode cX8_counts 13 = .ok (.iconst 1, 1) := by decide +kernel
theorem dX8_counts_14 : decode cX8_counts 14 = .ok (.invokevirtual 100, 3) := by decide +kernel
theorem dX8_counts_17 : decode cX8_counts 17 = .ok (.ifCond .eq 15, 3) := by decide +kernel
theorem dX8_counts_20 : decode cX8_counts 20 = .ok (.aload_n 0, 1) := by decide +kernel
theorem dX8_counts_21 : decode cX8_counts 21 = .ok (.iload_n 1, 1) := by decide +kernel
theorem dX8_counts_22 : decode cX8_counts 22 = .ok (.invokevirtual 156, 3) := by decide +kernel
theorem dX8_counts_25 : decode cX8_counts 25 = .ok (.ifCond .eq 7, 3) := by decide +kernel
theorem dX8_counts_28 : decode cX8_counts 28 = .ok (.iconst 1, 1) := by decide +kernel
theorem dX8_counts_29 : decode cX8_counts 29 = .ok (.goto 4, 3) := by decide +kernel
theorem dX8_counts_32 : decode cX8_counts 32 = .ok (.iconst 0, 1) := by decide +kernel
theorem dX8_counts_33 : decode cX8_counts 33 = .ok (.ireturn, 1) := by decide +kernel
theorem dX8_size_0 : decode cX8_size 0 = .ok (.iconst 0, 1) := by decide +kernel
theorem dX8_size_1 : decode cX8_size 1 = .ok (.istore_n 1, 1) := by decide +kernel
theorem dX8_size_2 : decode cX8_size 2 = .ok (.iconst 0, 1) := by decide +kernel
theorem dX8_size_3 : decode cX8_size 3 = .ok (.istore_n 2, 1) := by decide +kernel
theorem dX8_size_4 : decode cX8_size 4 = .ok (.iload_n 2, 1) := by decide +kernel
theorem dX8_size_5 : decode cX8_size 5 = .ok (.bipush 12, 2) := by decide +kernel
theorem dX8_size_7 : decode cX8_size 7 = .ok (.if_icmp .ge 17, 3) := by decide +kernel
theorem dX8_size_10 : decode cX8_size 10 = .ok (.iload_n 1, 1) := by decide +kernel
theorem dX8_size_11 : decode cX8_size 11 = .ok (.iload_n 0, 1) := by decide +kernel
theorem dX8_size_12 : decode cX8_size 12 = .ok (.iload_n 2, 1) := by decide +kernel
theorem dX8_size_13 : decode cX8_size 13 = .ok (.ishr, 1) := by decide +kernel
theorem dX8_size_14 : decode cX8_size 14 = .ok (.iconst 1, 1) := by decide +kernel
theorem dX8_size_15 : decode cX8_size 15 = .ok (.iand, 1) := by decide +kernel
theorem dX8_size_16 : decode cX8_size 16 = .ok (.iadd, 1) := by decide +kernel
theorem dX8_size_17 : decode cX8_size 17 = .ok (.istore_n 1, 1) := by decide +kernel
theorem dX8_size_18 : decode cX8_size 18 = .ok (.iinc 2 1, 3) := by decide +kernel
theorem dX8_size_21 : decode cX8_size 21 = .ok (.goto (-17), 3) := by decide +kernel
theorem dX8_size_24 : decode cX8_size 24 = .ok (.iload_n 1, 1) := by decide +kernel
theorem dX8_size_25 : decode cX8_size 25 = .ok (.ireturn, 1) := by decide +kernel
theorem dX8_isRule_0 : decode cX8_isRule 0 = .ok (.iload_n 1, 1) := by decide +kernel
theorem dX8_isRule_1 : decode cX8_isRule 1 = .ok (.iconst 0, 1) := by decide +kernel
theorem dX8_isRule_2 : decode cX8_isRule 2 = .ok (.aload_n 0, 1) := by decide +kernel
theorem dX8_isRule_3 : decode cX8_isRule 3 = .ok (.getfield 91, 3) := by decide +kernel
theorem dX8_isRule_6 : decode cX8_isRule 6 = .ok (.iconst 1, 1) := by decide +kernel
theorem dX8_isRule_7 : decode cX8_isRule 7 = .ok (.isub, 1) := by decide +kernel
theorem dX8_isRule_8 : decode cX8_isRule 8 = .ok (.invokestatic 84, 3) := by decide +kernel
theorem dX8_isRule_11 : decode cX8_isRule 11 = .ok (.ireturn, 1) := by decide +kernel
theorem dX8_drop_0 : decode cX8_drop 0 = .ok (.iload_n 1, 1) := by decide +kernel
theorem dX8_drop_1 : decode cX8_drop 1 = .ok (.invokestatic 179, 3) := by decide +kernel
theorem dX8_drop_4 : decode cX8_drop 4 = .ok (.ifCond .eq 15, 3) := by decide +kernel
theorem dX8_drop_7 : decode cX8_drop 7 = .ok (.aload_n 0, 1) := by decide +kernel
theorem dX8_drop_8 : decode cX8_drop 8 = .ok (.iload_n 2, 1) := by decide +kernel
theorem dX8_drop_9 : decode cX8_drop 9 = .ok (.invokevirtual 196, 3) := by decide +kernel
theorem dX8_drop_12 : decode cX8_drop 12 = .ok (.ifCond .eq 7, 3) := by decide +kernel
theorem dX8_drop_15 : decode cX8_drop 15 = .ok (.iconst 1, 1) := by decide +kernel
theorem dX8_drop_16 : decode cX8_drop 16 = .ok (.goto 4, 3) := by decide +kernel
theorem dX8_drop_19 : decode cX8_drop 19 = .ok (.iconst 0, 1) := by decide +kernel
theorem dX8_drop_20 : decode cX8_drop 20 = .ok (.istore_n 3, 1) := by decide +kernel
theorem dX8_drop_21 : decode cX8_drop 21 = .ok (.iload_n 3, 1) := by decide +kernel
theorem dX8_drop_22 : decode cX8_drop 22 = .ok (.ifCond .eq 16, 3) := by decide +kernel
theorem dX8_drop_25 : decode cX8_drop 25 = .ok (.aload_n 0, 1) := by decide +kernel
theorem dX8_drop_26 : decode cX8_drop 26 = .ok (.getfield 94, 3) := by decide +kernel
theorem dX8_drop_29 : decode cX8_drop 29 = .ok (.bipush 60, 2) := by decide +kernel
theorem dX8_drop_31 : decode cX8_drop 31 = .ok (.if_icmp .ge 7, 3) := by decide +kernel
theorem dX8_drop_34 : decode cX8_drop 34 = .ok (.iconst 1, 1) := by decide +kernel
theorem dX8_drop_35 : decode cX8_drop 35 = .ok (.goto 4, 3) := by decide +kernel
theorem dX8_drop_38 : decode cX8_drop 38 = .ok (.iconst 0, 1) := by decide +kernel
theorem dX8_drop_39 : decode cX8_drop 39 = .ok (.istore 4, 2) := by decide +kernel
theorem dX8_drop_41 : decode cX8_drop 41 = .ok (.iload 4, 2) := by decide +kernel
theorem dX8_drop_43 : decode cX8_drop 43 = .ok (.ifCond .eq 20, 3) := by decide +kernel
theorem dX8_drop_46 : decode cX8_drop 46 = .ok (.aload_n 0, 1) := by decide +kernel
theorem dX8_drop_47 : decode cX8_drop 47 = .ok (.iload_n 1, 1) := by decide +kernel
theorem dX8_drop_48 : decode cX8_drop 48 = .ok (.iconst 4, 1) := by decide +kernel
theorem dX8_drop_49 : decode cX8_drop 49 = .ok (.iload_n 2, 1) := by decide +kernel
theorem dX8_drop_50 : decode cX8_drop 50 = .ok (.iconst 0, 1) := by decide +kernel
theorem dX8_drop_51 : decode cX8_drop 51 = .ok (.iconst 0, 1) := by decide +kernel
theorem dX8_drop_52 : decode cX8_drop 52 = .ok (.iconst 0, 1) := by decide +kernel
theorem dX8_drop_53 : decode cX8_drop 53 = .ok (.iconst 0, 1) := by decide +kernel
theorem dX8_drop_54 : decode cX8_drop 54 = .ok (.invokevirtual 166, 3) := by decide +kernel
theorem dX8_drop_57 : decode cX8_drop 57 = .ok (.aload_n 0, 1) := by decide +kernel
theorem dX8_drop_58 : decode cX8_drop 58 = .ok (.invokevirtual 189, 3) := by decide +kernel
theorem dX8_drop_61 : decode cX8_drop 61 = .ok (.istore 4, 2) := by decide +kernel
theorem dX8_drop_63 : decode cX8_drop 63 = .ok (.aload_n 0, 1) := by decide +kernel
theorem dX8_drop_64 : decode cX8_drop 64 = .ok (.iload_n 3, 1) := by decide +kernel
theorem dX8_drop_65 : decode cX8_drop 65 = .ok (.ifCond .ne 7, 3) := by decide +kernel
theorem dX8_drop_68 : decode cX8_drop 68 = .ok (.iconst 1, 1) := by decide +kernel
theorem dX8_drop_69 : decode cX8_drop 69 = .ok (.goto 13, 3) := by decide +kernel
theorem dX8_drop_72 : decode cX8_drop 72 = .ok (.iload 4, 2) := by decide +kernel
theorem dX8_drop_74 : decode cX8_drop 74 = .ok (.ifCond .eq 7, 3) := by decide +kernel
theorem dX8_drop_77 : decode cX8_drop 77 = .ok (.iconst 0, 1) := by decide +kernel
theorem dX8_drop_78 : decode cX8_drop 78 = .ok (.goto 4, 3) := by decide +kernel
theorem dX8_drop_81 : decode cX8_drop 81 = .ok (.iconst 2, 1) := by decide +kernel
theorem dX8_drop_82 : decode cX8_drop 82 = .ok (.invokevirtual 100, 3) := by decide +kernel
theorem dX8_drop_85 : decode cX8_drop 85 = .ok (.ifCond .ne 5, 3) := by decide +kernel
theorem dX8_drop_88 : decode cX8_drop 88 = .ok (.iconst 0, 1) := by decide +kernel
theorem dX8_drop_89 : decode cX8_drop 89 = .ok (.ireturn, 1) := by decide +kernel
theorem dX8_drop_90 : decode cX8_drop 90 = .ok (.aload_n 0, 1) := by decide +kernel
theorem dX8_drop_91 : decode cX8_drop 91 = .ok (.invokevirtual 170, 3) := by decide +kernel
theorem dX8_drop_94 : decode cX8_drop 94 = .ok (.pop, 1) := by decide +kernel
theorem dX8_drop_95 : decode cX8_drop 95 = .ok (.aload_n 0, 1) := by decide +kernel
theorem dX8_drop_96 : decode cX8_drop 96 = .ok (.getfield 145, 3) := by decide +kernel
theorem dX8_drop_99 : decode cX8_drop 99 = .ok (.invokestatic 199, 3) := by decide +kernel
theorem dX8_drop_102 : decode cX8_drop 102 = .ok (.ireturn, 1) := by decide +kernel
theorem dX8_holds_0 : decode cX8_holds 0 = .ok (.aload_n 0, 1) := by decide +kernel
theorem dX8_holds_1 : decode cX8_holds 1 = .ok (.iload_n 1, 1) := by decide +kernel
theorem dX8_holds_2 : decode cX8_holds 2 = .ok (.invokevirtual 196, 3) := by decide +kernel
theorem dX8_holds_5 : decode cX8_holds 5 = .ok (.istore_n 2, 1) := by decide +kernel
theorem dX8_holds_6 : decode cX8_holds 6 = .ok (.iload_n 2, 1) := by decide +kernel
theorem dX8_holds_7 : decode cX8_holds 7 = .ok (.ifCond .eq 61, 3) := by decide +kernel
theorem dX8_holds_10 : decode cX8_holds 10 = .ok (.aload_n 0, 1) := by decide +kernel
theorem dX8_holds_11 : decode cX8_holds 11 = .ok (.getfield 142, 3) := by decide +kernel
theorem dX8_holds_14 : decode cX8_holds 14 = .ok (.aload_n 0, 1) := by decide +kernel
theorem dX8_holds_15 : decode cX8_holds 15 = .ok (.getfield 29, 3) := by decide +kernel
theorem dX8_holds_18 : decode cX8_holds 18 = .ok (.iload_n 1, 1) := by decide +kernel
theorem dX8_holds_19 : decode cX8_holds 19 = .ok (.iaload, 1) := by decide +kernel
theorem dX8_holds_20 : decode cX8_holds 20 = .ok (.invokestatic 104, 3) := by decide +kernel
theorem dX8_holds_23 : decode cX8_holds 23 = .ok (.ifCond .eq 45, 3) := by decide +kernel
theorem dX8_holds_26 : decode cX8_holds 26 = .ok (.aload_n 0, 1) := by decide +kernel
theorem dX8_holds_27 : decode cX8_holds 27 = .ok (.getfield 142, 3) := by decide +kernel
theorem dX8_holds_30 : decode cX8_holds 30 = .ok (.aload_n 0, 1) := by decide +kernel
theorem dX8_holds_31 : decode cX8_holds 31 = .ok (.getfield 32, 3) := by decide +kernel
theorem dX8_holds_34 : decode cX8_holds 34 = .ok (.iload_n 1, 1) := by decide +kernel
theorem dX8_holds_35 : decode cX8_holds 35 = .ok (.iaload, 1) := by decide +kernel
theorem dX8_holds_36 : decode cX8_holds 36 = .ok (.invokestatic 104, 3) := by decide +kernel
theorem dX8_holds_39 : decode cX8_holds 39 = .ok (.ifCond .eq 29, 3) := by decide +kernel
theorem dX8_holds_42 : decode cX8_holds 42 = .ok (.aload_n 0, 1) := by decide +kernel
theorem dX8_holds_43 : decode cX8_holds 43 = .ok (.getfield 26, 3) := by decide +kernel
theorem dX8_holds_46 : decode cX8_holds 46 = .ok (.iload_n 1, 1) := by decide +kernel
theorem dX8_holds_47 : decode cX8_holds 47 = .ok (.iaload, 1) := by decide +kernel
theorem dX8_holds_48 : decode cX8_holds 48 = .ok (.bipush 6, 2) := by decide +kernel
theorem dX8_holds_50 : decode cX8_holds 50 = .ok (.if_icmp .ne 14, 3) := by decide +kernel
theorem dX8_holds_53 : decode cX8_holds 53 = .ok (.aload_n 0, 1) := by decide +kernel
theorem dX8_holds_54 : decode cX8_holds 54 = .ok (.getfield 145, 3) := by decide +kernel
theorem dX8_holds_57 : decode cX8_holds 57 = .ok (.iload_n 1, 1) := by decide +kernel
theorem dX8_holds_58 : decode cX8_holds 58 = .ok (.invokestatic 104, 3) := by decide +kernel
theorem dX8_holds_61 : decode cX8_holds 61 = .ok (.ifCond .eq 7, 3) := by decide +kernel
theorem dX8_holds_64 : decode cX8_holds 64 = .ok (.iconst 1, 1) := by decide +kernel
theorem dX8_holds_65 : decode cX8_holds 65 = .ok (.goto 4, 3) := by decide +kernel
theorem dX8_holds_68 : decode cX8_holds 68 = .ok (.iconst 0, 1) := by decide +kernel
theorem dX8_holds_69 : decode cX8_holds 69 = .ok (.istore_n 3, 1) := by decide +kernel
theorem dX8_holds_70 : decode cX8_holds 70 = .ok (.aload_n 0, 1) := by decide +kernel
theorem dX8_holds_71 : decode cX8_holds 71 = .ok (.iload_n 2, 1) := by decide +kernel
theorem dX8_holds_72 : decode cX8_holds 72 = .ok (.ifCond .ne 7, 3) := by decide +kernel
theorem dX8_holds_75 : decode cX8_holds 75 = .ok (.iconst 1, 1) := by decide +kernel
theorem dX8_holds_76 : decode cX8_holds 76 = .ok (.goto 12, 3) := by decide +kernel
theorem dX8_holds_79 : decode cX8_holds 79 = .ok (.iload_n 3, 1) := by decide +kernel
theorem dX8_holds_80 : decode cX8_holds 80 = .ok (.ifCond .eq 7, 3) := by decide +kernel
theorem dX8_holds_83 : decode cX8_holds 83 = .ok (.iconst 0, 1) := by decide +kernel
theorem dX8_holds_84 : decode cX8_holds 84 = .ok (.goto 4, 3) := by decide +kernel
theorem dX8_holds_87 : decode cX8_holds 87 = .ok (.iconst 2, 1) := by decide +kernel
theorem dX8_holds_88 : decode cX8_holds 88 = .ok (.invokevirtual 100, 3) := by decide +kernel
theorem dX8_holds_91 : decode cX8_holds 91 = .ok (.ifCond .ne 5, 3) := by decide +kernel
theorem dX8_holds_94 : decode cX8_holds 94 = .ok (.iconst 0, 1) := by decide +kernel
theorem dX8_holds_95 : decode cX8_holds 95 = .ok (.ireturn, 1) := by decide +kernel
theorem dX8_holds_96 : decode cX8_holds 96 = .ok (.iconst 4, 1) := by decide +kernel
theorem dX8_holds_97 : decode cX8_holds 97 = .ok (.aload_n 0, 1) := by decide +kernel
theorem dX8_holds_98 : decode cX8_holds 98 = .ok (.getfield 29, 3) := by decide +kernel
theorem dX8_holds_101 : decode cX8_holds 101 = .ok (.iload_n 1, 1) := by decide +kernel
theorem dX8_holds_102 : decode cX8_holds 102 = .ok (.iaload, 1) := by decide +kernel
theorem dX8_holds_103 : decode cX8_holds 103 = .ok (.imul, 1) := by decide +kernel
theorem dX8_holds_104 : decode cX8_holds 104 = .ok (.istore 4, 2) := by decide +kernel
theorem dX8_holds_106 : decode cX8_holds 106 = .ok (.iconst 4, 1) := by decide +kernel
theorem dX8_holds_107 : decode cX8_holds 107 = .ok (.aload_n 0, 1) := by decide +kernel
theorem dX8_holds_108 : decode cX8_holds 108 = .ok (.getfield 32, 3) := by decide +kernel
theorem dX8_holds_111 : decode cX8_holds 111 = .ok (.iload_n 1, 1) := by decide +kernel
theorem dX8_holds_112 : decode cX8_holds 112 = .ok (.iaload, 1) := by decide +kernel
theorem dX8_holds_113 : decode cX8_holds 113 = .ok (.imul, 1) := by decide +kernel
theorem dX8_holds_114 : decode cX8_holds 114 = .ok (.istore 5, 2) := by decide +kernel
theorem dX8_holds_116 : decode cX8_holds 116 = .ok (.aload_n 0, 1) := by decide +kernel
theorem dX8_holds_117 : decode cX8_holds 117 = .ok (.getfield 26, 3) := by decide +kernel
theorem dX8_holds_120 : decode cX8_holds 120 = .ok (.iload_n 1, 1) := by decide +kernel
theorem dX8_holds_121 : decode cX8_holds 121 = .ok (.iaload, 1) := by decide +kernel
theorem dX8_holds_122 : decode cX8_holds 122 = .ok (.istore 6, 2) := by decide +kernel
theorem dX8_holds_124 : decode cX8_holds 124 = .ok (.iload 6, 2) := by decide +kernel
theorem dX8_holds_126 : decode cX8_holds 126 = .ok (.iconst 1, 1) := by decide +kernel
theorem dX8_holds_127 : decode cX8_holds 127 = .ok (.if_icmp .gt 36, 3) := by decide +kernel
theorem dX8_holds_130 : decode cX8_holds 130 = .ok (.aload_n 0, 1) := by decide +kernel
theorem dX8_holds_131 : decode cX8_holds 131 = .ok (.getfield 59, 3) := by decide +kernel
theorem dX8_holds_134 : decode cX8_holds 134 = .ok (.iload 4, 2) := by decide +kernel
theorem dX8_holds_136 : decode cX8_holds 136 = .ok (.iconst 2, 1) := by decide +kernel
theorem dX8_holds_137 : decode cX8_holds 137 = .ok (.iadd, 1) := by decide +kernel
theorem dX8_holds_138 : decode cX8_holds 138 = .ok (.iload 6, 2) := by decide +kernel
theorem dX8_holds_140 : decode cX8_holds 140 = .ok (.iadd, 1) := by decide +kernel
theorem dX8_holds_141 : decode cX8_holds 141 = .ok (.iaload, 1) := by decide +kernel
theorem dX8_holds_142 : decode cX8_holds 142 = .ok (.aload_n 0, 1) := by decide +kernel
theorem dX8_holds_143 : decode cX8_holds 143 = .ok (.getfield 59, 3) := by decide +kernel
theorem dX8_holds_146 : decode cX8_holds 146 = .ok (.iload 5, 2) := by decide +kernel
theorem dX8_holds_148 : decode cX8_holds 148 = .ok (.iconst 2, 1) := by decide +kernel
theorem dX8_holds_149 : decode cX8_holds 149 = .ok (.iadd, 1) := by decide +kernel
theorem dX8_holds_150 : decode cX8_holds 150 = .ok (.iload 6, 2) := by decide +kernel
theorem dX8_holds_152 : decode cX8_holds 152 = .ok (.iadd, 1) := by decide +kernel
theorem dX8_holds_153 : decode cX8_holds 153 = .ok (.iaload, 1) := by decide +kernel
theorem dX8_holds_154 : decode cX8_holds 154 = .ok (.if_icmp .ne 7, 3) := by decide +kernel
theorem dX8_holds_157 : decode cX8_holds 157 = .ok (.iconst 1, 1) := by decide +kernel
theorem dX8_holds_158 : decode cX8_holds 158 = .ok (.goto 4, 3) := by decide +kernel
theorem dX8_holds_161 : decode cX8_holds 161 = .ok (.iconst 0, 1) := by decide +kernel
theorem dX8_holds_162 : decode cX8_holds 162 = .ok (.ireturn, 1) := by decide +kernel
theorem dX8_holds_163 : decode cX8_holds 163 = .ok (.iload 6, 2) := by decide +kernel
theorem dX8_holds_165 : decode cX8_holds 165 = .ok (.bipush 6, 2) := by decide +kernel
theorem dX8_holds_167 : decode cX8_holds 167 = .ok (.if_icmp .ne 61, 3) := by decide +kernel
theorem dX8_holds_170 : decode cX8_holds 170 = .ok (.aload_n 0, 1) := by decide +kernel
theorem dX8_holds_171 : decode cX8_holds 171 = .ok (.getfield 59, 3) := by decide +kernel
theorem dX8_holds_174 : decode cX8_holds 174 = .ok (.iload 5, 2) := by decide +kernel
theorem dX8_holds_176 : decode cX8_holds 176 = .ok (.iaload, 1) := by decide +kernel
theorem dX8_holds_177 : decode cX8_holds 177 = .ok (.aload_n 0, 1) := by decide +kernel
theorem dX8_holds_178 : decode cX8_holds 178 = .ok (.getfield 59, 3) := by decide +kernel
theorem dX8_holds_181 : decode cX8_holds 181 = .ok (.iload 4, 2) := by decide +kernel
theorem dX8_holds_183 : decode cX8_holds 183 = .ok (.iaload, 1) := by decide +kernel
theorem dX8_holds_184 : decode cX8_holds 184 = .ok (.isub, 1) := by decide +kernel
theorem dX8_holds_185 : decode cX8_holds 185 = .ok (.aload_n 0, 1) := by decide +kernel
theorem dX8_holds_186 : decode cX8_holds 186 = .ok (.getfield 62, 3) := by decide +kernel
theorem dX8_holds_189 : decode cX8_holds 189 = .ok (.iload_n 1, 1) := by decide +kernel
theorem dX8_holds_190 : decode cX8_holds 190 = .ok (.iaload, 1) := by decide +kernel
theorem dX8_holds_191 : decode cX8_holds 191 = .ok (.if_icmp .ne 35, 3) := by decide +kernel
theorem dX8_holds_194 : decode cX8_holds 194 = .ok (.aload_n 0, 1) := by decide +kernel
theorem dX8_holds_195 : decode cX8_holds 195 = .ok (.getfield 59, 3) := by decide +kernel
theorem dX8_holds_198 : decode cX8_holds 198 = .ok (.iload 5, 2) := by decide +kernel
theorem dX8_holds_200 : decode cX8_holds 200 = .ok (.iconst 1, 1) := by decide +kernel
theorem dX8_holds_201 : decode cX8_holds 201 = .ok (.iadd, 1) := by decide +kernel
theorem dX8_holds_202 : decode cX8_holds 202 = .ok (.iaload, 1) := by decide +kernel
theorem dX8_holds_203 : decode cX8_holds 203 = .ok (.aload_n 0, 1) := by decide +kernel
theorem dX8_holds_204 : decode cX8_holds 204 = .ok (.getfield 59, 3) := by decide +kernel
theorem dX8_holds_207 : decode cX8_holds 207 = .ok (.iload 4, 2) := by decide +kernel
theorem dX8_holds_209 : decode cX8_holds 209 = .ok (.iconst 1, 1) := by decide +kernel
theorem dX8_holds_210 : decode cX8_holds 210 = .ok (.iadd, 1) := by decide +kernel
theorem dX8_holds_211 : decode cX8_holds 211 = .ok (.iaload, 1) := by decide +kernel
theorem dX8_holds_212 : decode cX8_holds 212 = .ok (.isub, 1) := by decide +kernel
theorem dX8_holds_213 : decode cX8_holds 213 = .ok (.aload_n 0, 1) := by decide +kernel
theorem dX8_holds_214 : decode cX8_holds 214 = .ok (.getfield 65, 3) := by decide +kernel
theorem dX8_holds_217 : decode cX8_holds 217 = .ok (.iload_n 1, 1) := by decide +kernel
theorem dX8_holds_218 : decode cX8_holds 218 = .ok (.iaload, 1) := by decide +kernel
theorem dX8_holds_219 : decode cX8_holds 219 = .ok (.if_icmp .ne 7, 3) := by decide +kernel
theorem dX8_holds_222 : decode cX8_holds 222 = .ok (.iconst 1, 1) := by decide +kernel
theorem dX8_holds_223 : decode cX8_holds 223 = .ok (.goto 4, 3) := by decide +kernel
theorem dX8_holds_226 : decode cX8_holds 226 = .ok (.iconst 0, 1) := by decide +kernel
theorem dX8_holds_227 : decode cX8_holds 227 = .ok (.ireturn, 1) := by decide +kernel
theorem dX8_holds_228 : decode cX8_holds 228 = .ok (.iload 6, 2) := by decide +kernel
theorem dX8_holds_230 : decode cX8_holds 230 = .ok (.iconst 3, 1) := by decide +kernel
theorem dX8_holds_231 : decode cX8_holds 231 = .ok (.if_icmp .gt 7, 3) := by decide +kernel
theorem dX8_holds_234 : decode cX8_holds 234 = .ok (.iconst 0, 1) := by decide +kernel
theorem dX8_holds_235 : decode cX8_holds 235 = .ok (.goto 4, 3) := by decide +kernel
theorem dX8_holds_238 : decode cX8_holds 238 = .ok (.iconst 1, 1) := by decide +kernel
theorem dX8_holds_239 : decode cX8_holds 239 = .ok (.istore 7, 2) := by decide +kernel
theorem dX8_holds_241 : decode cX8_holds 241 = .ok (.aload_n 0, 1) := by decide +kernel
theorem dX8_holds_242 : decode cX8_holds 242 = .ok (.getfield 59, 3) := by decide +kernel
theorem dX8_holds_245 : decode cX8_holds 245 = .ok (.iload 5, 2) := by decide +kernel
theorem dX8_holds_247 : decode cX8_holds 247 = .ok (.iload 7, 2) := by decide +kernel
theorem dX8_holds_249 : decode cX8_holds 249 = .ok (.iadd, 1) := by decide +kernel
theorem dX8_holds_250 : decode cX8_holds 250 = .ok (.iaload, 1) := by decide +kernel
theorem dX8_holds_251 : decode cX8_holds 251 = .ok (.aload_n 0, 1) := by decide +kernel
theorem dX8_holds_252 : decode cX8_holds 252 = .ok (.getfield 59, 3) := by decide +kernel
theorem dX8_holds_255 : decode cX8_holds 255 = .ok (.iload 4, 2) := by decide +kernel
theorem dX8_holds_257 : decode cX8_holds 257 = .ok (.iload 7, 2) := by decide +kernel
theorem dX8_holds_259 : decode cX8_holds 259 = .ok (.iadd, 1) := by decide +kernel
theorem dX8_holds_260 : decode cX8_holds 260 = .ok (.iaload, 1) := by decide +kernel
theorem dX8_holds_261 : decode cX8_holds 261 = .ok (.iload 6, 2) := by decide +kernel
theorem dX8_holds_263 : decode cX8_holds 263 = .ok (.iconst 2, 1) := by decide +kernel
theorem dX8_holds_264 : decode cX8_holds 264 = .ok (.if_icmp .eq 9, 3) := by decide +kernel
theorem dX8_holds_267 : decode cX8_holds 267 = .ok (.iload 6, 2) := by decide +kernel
theorem dX8_holds_269 : decode cX8_holds 269 = .ok (.iconst 4, 1) := by decide +kernel
theorem dX8_holds_270 : decode cX8_holds 270 = .ok (.if_icmp .ne 18, 3) := by decide +kernel
theorem dX8_holds_273 : decode cX8_holds 273 = .ok (.aload_n 0, 1) := by decide +kernel
theorem dX8_holds_274 : decode cX8_holds 274 = .ok (.getfield 59, 3) := by decide +kernel
theorem dX8_holds_277 : decode cX8_holds 277 = .ok (.iload 4, 2) := by decide +kernel
theorem dX8_holds_279 : decode cX8_holds 279 = .ok (.iconst 2, 1) := by decide +kernel
theorem dX8_holds_280 : decode cX8_holds 280 = .ok (.iadd, 1) := by decide +kernel
theorem dX8_holds_281 : decode cX8_holds 281 = .ok (.iload 7, 2) := by decide +kernel
theorem dX8_holds_283 : decode cX8_holds 283 = .ok (.iadd, 1) := by decide +kernel
theorem dX8_holds_284 : decode cX8_holds 284 = .ok (.iaload, 1) := by decide +kernel
theorem dX8_holds_285 : decode cX8_holds 285 = .ok (.goto 4, 3) := by decide +kernel
theorem dX8_holds_288 : decode cX8_holds 288 = .ok (.iconst 0, 1) := by decide +kernel
theorem dX8_holds_289 : decode cX8_holds 289 = .ok (.iadd, 1) := by decide +kernel
theorem dX8_holds_290 : decode cX8_holds 290 = .ok (.if_icmp .ne 7, 3) := by decide +kernel
theorem dX8_holds_293 : decode cX8_holds 293 = .ok (.iconst 1, 1) := by decide +kernel
theorem dX8_holds_294 : decode cX8_holds 294 = .ok (.goto 4, 3) := by decide +kernel
theorem dX8_holds_297 : decode cX8_holds 297 = .ok (.iconst 0, 1) := by decide +kernel
theorem dX8_holds_298 : decode cX8_holds 298 = .ok (.ireturn, 1) := by decide +kernel
theorem dX8_isInForce_0 : decode cX8_isInForce 0 = .ok (.aload_n 0, 1) := by decide +kernel
theorem dX8_isInForce_1 : decode cX8_isInForce 1 = .ok (.aload_n 0, 1) := by decide +kernel
theorem dX8_isInForce_2 : decode cX8_isInForce 2 = .ok (.iload_n 1, 1) := by decide +kernel
theorem dX8_isInForce_3 : decode cX8_isInForce 3 = .ok (.invokevirtual 196, 3) := by decide +kernel
theorem dX8_isInForce_6 : decode cX8_isInForce 6 = .ok (.ifCond .eq 7, 3) := by decide +kernel
theorem dX8_isInForce_9 : decode cX8_isInForce 9 = .ok (.iconst 0, 1) := by decide +kernel
theorem dX8_isInForce_10 : decode cX8_isInForce 10 = .ok (.goto 4, 3) := by decide +kernel
theorem dX8_isInForce_13 : decode cX8_isInForce 13 = .ok (.iconst 1, 1) := by decide +kernel
theorem dX8_isInForce_14 : decode cX8_isInForce 14 = .ok (.invokevirtual 100, 3) := by decide +kernel
theorem dX8_isInForce_17 : decode cX8_isInForce 17 = .ok (.ifCond .eq 18, 3) := by decide +kernel
theorem dX8_isInForce_20 : decode cX8_isInForce 20 = .ok (.aload_n 0, 1) := by decide +kernel
theorem dX8_isInForce_21 : decode cX8_isInForce 21 = .ok (.getfield 145, 3) := by decide +kernel
theorem dX8_isInForce_24 : decode cX8_isInForce 24 = .ok (.iload_n 1, 1) := by decide +kernel
theorem dX8_isInForce_25 : decode cX8_isInForce 25 = .ok (.invokestatic 104, 3) := by decide +kernel
theorem dX8_isInForce_28 : decode cX8_isInForce 28 = .ok (.ifCond .eq 7, 3) := by decide +kernel
theorem dX8_isInForce_31 : decode cX8_isInForce 31 = .ok (.iconst 1, 1) := by decide +kernel
theorem dX8_isInForce_32 : decode cX8_isInForce 32 = .ok (.goto 4, 3) := by decide +kernel
theorem dX8_isInForce_35 : decode cX8_isInForce 35 = .ok (.iconst 0, 1) := by decide +kernel
theorem dX8_isInForce_36 : decode cX8_isInForce 36 = .ok (.ireturn, 1) := by decide +kernel
theorem dX8_isThere_0 : decode cX8_isThere 0 = .ok (.aload_n 0, 1) := by decide +kernel
theorem dX8_isThere_1 : decode cX8_isThere 1 = .ok (.aload_n 0, 1) := by decide +kernel
theorem dX8_isThere_2 : decode cX8_isThere 2 = .ok (.iload_n 1, 1) := by decide +kernel
theorem dX8_isThere_3 : decode cX8_isThere 3 = .ok (.invokevirtual 186, 3) := by decide +kernel
theorem dX8_isThere_6 : decode cX8_isThere 6 = .ok (.ifCond .eq 7, 3) := by decide +kernel
theorem dX8_isThere_9 : decode cX8_isThere 9 = .ok (.iconst 0, 1) := by decide +kernel
theorem dX8_isThere_10 : decode cX8_isThere 10 = .ok (.goto 4, 3) := by decide +kernel
theorem dX8_isThere_13 : decode cX8_isThere 13 = .ok (.iconst 1, 1) := by decide +kernel
theorem dX8_isThere_14 : decode cX8_isThere 14 = .ok (.invokevirtual 100, 3) := by decide +kernel
theorem dX8_isThere_17 : decode cX8_isThere 17 = .ok (.ifCond .eq 18, 3) := by decide +kernel
theorem dX8_isThere_20 : decode cX8_isThere 20 = .ok (.aload_n 0, 1) := by decide +kernel
theorem dX8_isThere_21 : decode cX8_isThere 21 = .ok (.getfield 142, 3) := by decide +kernel
theorem dX8_isThere_24 : decode cX8_isThere 24 = .ok (.iload_n 1, 1) := by decide +kernel
theorem dX8_isThere_25 : decode cX8_isThere 25 = .ok (.invokestatic 104, 3) := by decide +kernel
theorem dX8_isThere_28 : decode cX8_isThere 28 = .ok (.ifCond .eq 7, 3) := by decide +kernel
theorem dX8_isThere_31 : decode cX8_isThere 31 = .ok (.iconst 1, 1) := by decide +kernel
theorem dX8_isThere_32 : decode cX8_isThere 32 = .ok (.goto 4, 3) := by decide +kernel
theorem dX8_isThere_35 : decode cX8_isThere 35 = .ok (.iconst 0, 1) := by decide +kernel
theorem dX8_isThere_36 : decode cX8_isThere 36 = .ok (.ireturn, 1) := by decide +kernel
theorem dX8_isVoid_0 : decode cX8_isVoid 0 = .ok (.aload_n 0, 1) := by decide +kernel
theorem dX8_isVoid_1 : decode cX8_isVoid 1 = .ok (.aload_n 0, 1) := by decide +kernel
theorem dX8_isVoid_2 : decode cX8_isVoid 2 = .ok (.iload_n 1, 1) := by decide +kernel
theorem dX8_isVoid_3 : decode cX8_isVoid 3 = .ok (.invokevirtual 209, 3) := by decide +kernel
theorem dX8_isVoid_6 : decode cX8_isVoid 6 = .ok (.ifCond .eq 7, 3) := by decide +kernel
theorem dX8_isVoid_9 : decode cX8_isVoid 9 = .ok (.iconst 0, 1) := by decide +kernel
theorem dX8_isVoid_10 : decode cX8_isVoid 10 = .ok (.goto 4, 3) := by decide +kernel
theorem dX8_isVoid_13 : decode cX8_isVoid 13 = .ok (.iconst 1, 1) := by decide +kernel
theorem dX8_isVoid_14 : decode cX8_isVoid 14 = .ok (.invokevirtual 100, 3) := by decide +kernel
theorem dX8_isVoid_17 : decode cX8_isVoid 17 = .ok (.ifCond .eq 16, 3) := by decide +kernel
theorem dX8_isVoid_20 : decode cX8_isVoid 20 = .ok (.aload_n 0, 1) := by decide +kernel
theorem dX8_isVoid_21 : decode cX8_isVoid 21 = .ok (.getfield 53, 3) := by decide +kernel
theorem dX8_isVoid_24 : decode cX8_isVoid 24 = .ok (.iload_n 1, 1) := by decide +kernel
theorem dX8_isVoid_25 : decode cX8_isVoid 25 = .ok (.baload, 1) := by decide +kernel
theorem dX8_isVoid_26 : decode cX8_isVoid 26 = .ok (.ifCond .eq 7, 3) := by decide +kernel
theorem dX8_isVoid_29 : decode cX8_isVoid 29 = .ok (.iconst 1, 1) := by decide +kernel
theorem dX8_isVoid_30 : decode cX8_isVoid 30 = .ok (.goto 4, 3) := by decide +kernel
theorem dX8_isVoid_33 : decode cX8_isVoid 33 = .ok (.iconst 0, 1) := by decide +kernel
theorem dX8_isVoid_34 : decode cX8_isVoid 34 = .ok (.ireturn, 1) := by decide +kernel
theorem dX8_lay_0 : decode cX8_lay 0 = .ok (.iload_n 1, 1) := by decide +kernel
theorem dX8_lay_1 : decode cX8_lay 1 = .ok (.invokestatic 179, 3) := by decide +kernel
theorem dX8_lay_4 : decode cX8_lay 4 = .ok (.ifCond .eq 24, 3) := by decide +kernel
theorem dX8_lay_7 : decode cX8_lay 7 = .ok (.aload_n 0, 1) := by decide +kernel
theorem dX8_lay_8 : decode cX8_lay 8 = .ok (.iload_n 3, 1) := by decide +kernel
theorem dX8_lay_9 : decode cX8_lay 9 = .ok (.invokevirtual 186, 3) := by decide +kernel
theorem dX8_lay_12 : decode cX8_lay 12 = .ok (.ifCond .eq 16, 3) := by decide +kernel
theorem dX8_lay_15 : decode cX8_lay 15 = .ok (.aload_n 0, 1) := by decide +kernel
theorem dX8_lay_16 : decode cX8_lay 16 = .ok (.iload 4, 2) := by decide +kernel
theorem dX8_lay_18 : decode cX8_lay 18 = .ok (.invokevirtual 186, 3) := by decide +kernel
theorem dX8_lay_21 : decode cX8_lay 21 = .ok (.ifCond .eq 7, 3) := by decide +kernel
theorem dX8_lay_24 : decode cX8_lay 24 = .ok (.iconst 1, 1) := by decide +kernel
theorem dX8_lay_25 : decode cX8_lay 25 = .ok (.goto 4, 3) := by decide +kernel
theorem dX8_lay_28 : decode cX8_lay 28 = .ok (.iconst 0, 1) := by decide +kernel
theorem dX8_lay_29 : decode cX8_lay 29 = .ok (.istore 5, 2) := by decide +kernel
theorem dX8_lay_31 : decode cX8_lay 31 = .ok (.iload_n 2, 1) := by decide +kernel
theorem dX8_lay_32 : decode cX8_lay 32 = .ok (.iconst 0, 1) := by decide +kernel
theorem dX8_lay_33 : decode cX8_lay 33 = .ok (.bipush 6, 2) := by decide +kernel
theorem dX8_lay_35 : decode cX8_lay 35 = .ok (.invokestatic 84, 3) := by decide +kernel
theorem dX8_lay_38 : decode cX8_lay 38 = .ok (.ifCond .eq 13, 3) := by decide +kernel
theorem dX8_lay_41 : decode cX8_lay 41 = .ok (.iload_n 3, 1) := by decide +kernel
theorem dX8_lay_42 : decode cX8_lay 42 = .ok (.iload 4, 2) := by decide +kernel
theorem dX8_lay_44 : decode cX8_lay 44 = .ok (.if_icmp .eq 7, 3) := by decide +kernel
theorem dX8_lay_47 : decode cX8_lay 47 = .ok (.iconst 1, 1) := by decide +kernel
theorem dX8_lay_48 : decode cX8_lay 48 = .ok (.goto 4, 3) := by decide +kernel
theorem dX8_lay_51 : decode cX8_lay 51 = .ok (.iconst 0, 1) := by decide +kernel
theorem dX8_lay_52 : decode cX8_lay 52 = .ok (.istore 6, 2) := by decide +kernel
theorem dX8_lay_54 : decode cX8_lay 54 = .ok (.iload 5, 2) := by decide +kernel
theorem dX8_lay_56 : decode cX8_lay 56 = .ok (.ifCond .eq 30, 3) := by decide +kernel
theorem dX8_lay_59 : decode cX8_lay 59 = .ok (.iload 6, 2) := by decide +kernel
theorem dX8_lay_61 : decode cX8_lay 61 = .ok (.ifCond .eq 25, 3) := by decide +kernel
theorem dX8_lay_64 : decode cX8_lay 64 = .ok (.aload_n 0, 1) := by decide +kernel
theorem dX8_lay_65 : decode cX8_lay 65 = .ok (.getfield 91, 3) := by decide +kernel
theorem dX8_lay_68 : decode cX8_lay 68 = .ok (.bipush 12, 2) := by decide +kernel
theorem dX8_lay_70 : decode cX8_lay 70 = .ok (.if_icmp .ge 16, 3) := by decide +kernel
theorem dX8_lay_73 : decode cX8_lay 73 = .ok (.aload_n 0, 1) := by decide +kernel
theorem dX8_lay_74 : decode cX8_lay 74 = .ok (.getfield 94, 3) := by decide +kernel
theorem dX8_lay_77 : decode cX8_lay 77 = .ok (.bipush 60, 2) := by decide +kernel
theorem dX8_lay_79 : decode cX8_lay 79 = .ok (.if_icmp .ge 7, 3) := by decide +kernel
theorem dX8_lay_82 : decode cX8_lay 82 = .ok (.iconst 1, 1) := by decide +kernel
theorem dX8_lay_83 : decode cX8_lay 83 = .ok (.goto 4, 3) := by decide +kernel
theorem dX8_lay_86 : decode cX8_lay 86 = .ok (.iconst 0, 1) := by decide +kernel
theorem dX8_lay_87 : decode cX8_lay 87 = .ok (.istore 7, 2) := by decide +kernel
theorem dX8_lay_89 : decode cX8_lay 89 = .ok (.iload 7, 2) := by decide +kernel
theorem dX8_lay_91 : decode cX8_lay 91 = .ok (.ifCond .eq 67, 3) := by decide +kernel
theorem dX8_lay_94 : decode cX8_lay 94 = .ok (.aload_n 0, 1) := by decide +kernel
theorem dX8_lay_95 : decode cX8_lay 95 = .ok (.getfield 26, 3) := by decide +kernel
theorem dX8_lay_98 : decode cX8_lay 98 = .ok (.aload_n 0, 1) := by decide +kernel
theorem dX8_lay_99 : decode cX8_lay 99 = .ok (.getfield 91, 3) := by decide +kernel
theorem dX8_lay_102 : decode cX8_lay 102 = .ok (.iload_n 2, 1) := by decide +kernel
theorem dX8_lay_103 : decode cX8_lay 103 = .ok (.iastore, 1) := by decide +kernel
theorem dX8_lay_104 : decode cX8_lay 104 = .ok (.aload_n 0, 1) := by decide +kernel
theorem dX8_lay_105 : decode cX8_lay 105 = .ok (.getfield 29, 3) := by decide +kernel
theorem dX8_lay_108 : decode cX8_lay 108 = .ok (.aload_n 0, 1) := by decide +kernel
theorem dX8_lay_109 : decode cX8_lay 109 = .ok (.getfield 91, 3) := by decide +kernel
theorem dX8_lay_112 : decode cX8_lay 112 = .ok (.iload_n 3, 1) := by decide +kernel
theorem dX8_lay_113 : decode cX8_lay 113 = .ok (.iastore, 1) := by decide +kernel
theorem dX8_lay_114 : decode cX8_lay 114 = .ok (.aload_n 0, 1) := by decide +kernel
theorem dX8_lay_115 : decode cX8_lay 115 = .ok (.getfield 32, 3) := by decide +kernel
theorem dX8_lay_118 : decode cX8_lay 118 = .ok (.aload_n 0, 1) := by decide +kernel
theorem dX8_lay_119 : decode cX8_lay 119 = .ok (.getfield 91, 3) := by decide +kernel
theorem dX8_lay_122 : decode cX8_lay 122 = .ok (.iload 4, 2) := by decide +kernel
theorem dX8_lay_124 : decode cX8_lay 124 = .ok (.iastore, 1) := by decide +kernel
theorem dX8_lay_125 : decode cX8_lay 125 = .ok (.aload_n 0, 1) := by decide +kernel
theorem dX8_lay_126 : decode cX8_lay 126 = .ok (.getfield 35, 3) := by decide +kernel
theorem dX8_lay_129 : decode cX8_lay 129 = .ok (.aload_n 0, 1) := by decide +kernel
theorem dX8_lay_130 : decode cX8_lay 130 = .ok (.getfield 91, 3) := by decide +kernel
theorem dX8_lay_133 : decode cX8_lay 133 = .ok (.aload_n 0, 1) := by decide +kernel
theorem dX8_lay_134 : decode cX8_lay 134 = .ok (.getfield 94, 3) := by decide +kernel
theorem dX8_lay_137 : decode cX8_lay 137 = .ok (.iastore, 1) := by decide +kernel
theorem dX8_lay_138 : decode cX8_lay 138 = .ok (.aload_n 0, 1) := by decide +kernel
theorem dX8_lay_139 : decode cX8_lay 139 = .ok (.iload_n 1, 1) := by decide +kernel
theorem dX8_lay_140 : decode cX8_lay 140 = .ok (.iconst 3, 1) := by decide +kernel
theorem dX8_lay_141 : decode cX8_lay 141 = .ok (.aload_n 0, 1) := by decide +kernel
theorem dX8_lay_142 : decode cX8_lay 142 = .ok (.getfield 91, 3) := by decide +kernel
theorem dX8_lay_145 : decode cX8_lay 145 = .ok (.iconst 0, 1) := by decide +kernel
theorem dX8_lay_146 : decode cX8_lay 146 = .ok (.iconst 0, 1) := by decide +kernel
theorem dX8_lay_147 : decode cX8_lay 147 = .ok (.iconst 0, 1) := by decide +kernel
theorem dX8_lay_148 : decode cX8_lay 148 = .ok (.iconst 0, 1) := by decide +kernel
theorem dX8_lay_149 : decode cX8_lay 149 = .ok (.invokevirtual 166, 3) := by decide +kernel
theorem dX8_lay_152 : decode cX8_lay 152 = .ok (.aload_n 0, 1) := by decide +kernel
theorem dX8_lay_153 : decode cX8_lay 153 = .ok (.invokevirtual 189, 3) := by decide +kernel
theorem dX8_lay_156 : decode cX8_lay 156 = .ok (.istore 7, 2) := by decide +kernel
theorem dX8_lay_158 : decode cX8_lay 158 = .ok (.aload_n 0, 1) := by decide +kernel
theorem dX8_lay_159 : decode cX8_lay 159 = .ok (.iload 5, 2) := by decide +kernel
theorem dX8_lay_161 : decode cX8_lay 161 = .ok (.ifCond .ne 7, 3) := by decide +kernel
theorem dX8_lay_164 : decode cX8_lay 164 = .ok (.iconst 1, 1) := by decide +kernel
theorem dX8_lay_165 : decode cX8_lay 165 = .ok (.goto 22, 3) := by decide +kernel
theorem dX8_lay_168 : decode cX8_lay 168 = .ok (.iload 6, 2) := by decide +kernel
theorem dX8_lay_170 : decode cX8_lay 170 = .ok (.ifCond .ne 7, 3) := by decide +kernel
theorem dX8_lay_173 : decode cX8_lay 173 = .ok (.iconst 2, 1) := by decide +kernel
theorem dX8_lay_174 : decode cX8_lay 174 = .ok (.goto 13, 3) := by decide +kernel
theorem dX8_lay_177 : decode cX8_lay 177 = .ok (.iload 7, 2) := by decide +kernel
theorem dX8_lay_179 : decode cX8_lay 179 = .ok (.ifCond .eq 7, 3) := by decide +kernel
theorem dX8_lay_182 : decode cX8_lay 182 = .ok (.iconst 0, 1) := by decide +kernel
theorem dX8_lay_183 : decode cX8_lay 183 = .ok (.goto 4, 3) := by decide +kernel
theorem dX8_lay_186 : decode cX8_lay 186 = .ok (.iconst 3, 1) := by decide +kernel
theorem dX8_lay_187 : decode cX8_lay 187 = .ok (.invokevirtual 100, 3) := by decide +kernel
theorem dX8_lay_190 : decode cX8_lay 190 = .ok (.ifCond .ne 5, 3) := by decide +kernel
theorem dX8_lay_193 : decode cX8_lay 193 = .ok (.iconst 0, 1) := by decide +kernel
theorem dX8_lay_194 : decode cX8_lay 194 = .ok (.ireturn, 1) := by decide +kernel
theorem dX8_lay_195 : decode cX8_lay 195 = .ok (.aload_n 0, 1) := by decide +kernel
theorem dX8_lay_196 : decode cX8_lay 196 = .ok (.invokevirtual 170, 3) := by decide +kernel
theorem dX8_lay_199 : decode cX8_lay 199 = .ok (.pop, 1) := by decide +kernel
theorem dX8_lay_200 : decode cX8_lay 200 = .ok (.aload_n 0, 1) := by decide +kernel
theorem dX8_lay_201 : decode cX8_lay 201 = .ok (.dup, 1) := by decide +kernel
theorem dX8_lay_202 : decode cX8_lay 202 = .ok (.getfield 91, 3) := by decide +kernel
theorem dX8_lay_205 : decode cX8_lay 205 = .ok (.iconst 1, 1) := by decide +kernel
theorem dX8_lay_206 : decode cX8_lay 206 = .ok (.iadd, 1) := by decide +kernel
theorem dX8_lay_207 : decode cX8_lay 207 = .ok (.putfield 91, 3) := by decide +kernel
theorem dX8_lay_210 : decode cX8_lay 210 = .ok (.aload_n 0, 1) := by decide +kernel
theorem dX8_lay_211 : decode cX8_lay 211 = .ok (.getfield 91, 3) := by decide +kernel
theorem dX8_lay_214 : decode cX8_lay 214 = .ok (.iconst 1, 1) := by decide +kernel
theorem dX8_lay_215 : decode cX8_lay 215 = .ok (.isub, 1) := by decide +kernel
theorem dX8_lay_216 : decode cX8_lay 216 = .ok (.ireturn, 1) := by decide +kernel
theorem dX8_length_0 : decode cX8_length 0 = .ok (.aload_n 0, 1) := by decide +kernel
theorem dX8_length_1 : decode cX8_length 1 = .ok (.aload_n 0, 1) := by decide +kernel
theorem dX8_length_2 : decode cX8_length 2 = .ok (.iload_n 1, 1) := by decide +kernel
theorem dX8_length_3 : decode cX8_length 3 = .ok (.invokevirtual 238, 3) := by decide +kernel
theorem dX8_length_6 : decode cX8_length 6 = .ok (.ifCond .ne 7, 3) := by decide +kernel
theorem dX8_length_9 : decode cX8_length 9 = .ok (.iconst 1, 1) := by decide +kernel
theorem dX8_length_10 : decode cX8_length 10 = .ok (.goto 16, 3) := by decide +kernel
theorem dX8_length_13 : decode cX8_length 13 = .ok (.iload_n 1, 1) := by decide +kernel
theorem dX8_length_14 : decode cX8_length 14 = .ok (.aload_n 0, 1) := by decide +kernel
theorem dX8_length_15 : decode cX8_length 15 = .ok (.getfield 218, 3) := by decide +kernel
theorem dX8_length_18 : decode cX8_length 18 = .ok (.if_icmp .ge 7, 3) := by decide +kernel
theorem dX8_length_21 : decode cX8_length 21 = .ok (.iconst 0, 1) := by decide +kernel
theorem dX8_length_22 : decode cX8_length 22 = .ok (.goto 4, 3) := by decide +kernel
theorem dX8_length_25 : decode cX8_length 25 = .ok (.iconst 2, 1) := by decide +kernel
theorem dX8_length_26 : decode cX8_length 26 = .ok (.invokevirtual 100, 3) := by decide +kernel
theorem dX8_length_29 : decode cX8_length 29 = .ok (.ifCond .eq 12, 3) := by decide +kernel
theorem dX8_length_32 : decode cX8_length 32 = .ok (.aload_n 0, 1) := by decide +kernel
theorem dX8_length_33 : decode cX8_length 33 = .ok (.iload_n 1, 1) := by decide +kernel
theorem dX8_length_34 : decode cX8_length 34 = .ok (.iconst 0, 1) := by decide +kernel
theorem dX8_length_35 : decode cX8_length 35 = .ok (.invokevirtual 241, 3) := by decide +kernel
theorem dX8_length_38 : decode cX8_length 38 = .ok (.goto 4, 3) := by decide +kernel
theorem dX8_length_41 : decode cX8_length 41 = .ok (.iconst 0, 1) := by decide +kernel
theorem dX8_length_42 : decode cX8_length 42 = .ok (.ireturn, 1) := by decide +kernel
theorem dX8_make_0 : decode cX8_make 0 = .ok (.aload_n 0, 1) := by decide +kernel
theorem dX8_make_1 : decode cX8_make 1 = .ok (.iconst 0, 1) := by decide +kernel
theorem dX8_make_2 : decode cX8_make 2 = .ok (.putfield 80, 3) := by decide +kernel
theorem dX8_make_5 : decode cX8_make 5 = .ok (.aload_n 0, 1) := by decide +kernel
theorem dX8_make_6 : decode cX8_make 6 = .ok (.getfield 218, 3) := by decide +kernel
theorem dX8_make_9 : decode cX8_make 9 = .ok (.aload_n 0, 1) := by decide +kernel
theorem dX8_make_10 : decode cX8_make 10 = .ok (.getfield 215, 3) := by decide +kernel
theorem dX8_make_13 : decode cX8_make 13 = .ok (.if_icmp .ne 5, 3) := by decide +kernel
theorem dX8_make_16 : decode cX8_make 16 = .ok (.iconst (-1), 1) := by decide +kernel
theorem dX8_make_17 : decode cX8_make 17 = .ok (.ireturn, 1) := by decide +kernel
theorem dX8_make_18 : decode cX8_make 18 = .ok (.aload_n 0, 1) := by decide +kernel
theorem dX8_make_19 : decode cX8_make 19 = .ok (.dup, 1) := by decide +kernel
theorem dX8_make_20 : decode cX8_make 20 = .ok (.getfield 218, 3) := by decide +kernel
theorem dX8_make_23 : decode cX8_make 23 = .ok (.iconst 1, 1) := by decide +kernel
theorem dX8_make_24 : decode cX8_make 24 = .ok (.iadd, 1) := by decide +kernel
theorem dX8_make_25 : decode cX8_make 25 = .ok (.putfield 218, 3) := by decide +kernel
theorem dX8_make_28 : decode cX8_make 28 = .ok (.aload_n 0, 1) := by decide +kernel
theorem dX8_make_29 : decode cX8_make 29 = .ok (.getfield 218, 3) := by decide +kernel
theorem dX8_make_32 : decode cX8_make 32 = .ok (.iconst 1, 1) := by decide +kernel
theorem dX8_make_33 : decode cX8_make 33 = .ok (.isub, 1) := by decide +kernel
theorem dX8_make_34 : decode cX8_make 34 = .ok (.ireturn, 1) := by decide +kernel
theorem dX8_move_0 : decode cX8_move 0 = .ok (.aload_n 0, 1) := by decide +kernel
theorem dX8_move_1 : decode cX8_move 1 = .ok (.iload_n 1, 1) := by decide +kernel
theorem dX8_move_2 : decode cX8_move 2 = .ok (.iconst 1, 1) := by decide +kernel
theorem dX8_move_3 : decode cX8_move 3 = .ok (.iload_n 2, 1) := by decide +kernel
theorem dX8_move_4 : decode cX8_move 4 = .ok (.iload_n 3, 1) := by decide +kernel
theorem dX8_move_5 : decode cX8_move 5 = .ok (.iload 4, 2) := by decide +kernel
theorem dX8_move_7 : decode cX8_move 7 = .ok (.iload_n 3, 1) := by decide +kernel
theorem dX8_move_8 : decode cX8_move 8 = .ok (.iload 4, 2) := by decide +kernel
theorem dX8_move_10 : decode cX8_move 10 = .ok (.invokestatic 173, 3) := by decide +kernel
theorem dX8_move_13 : decode cX8_move 13 = .ok (.invokevirtual 192, 3) := by decide +kernel
theorem dX8_move_16 : decode cX8_move 16 = .ok (.ireturn, 1) := by decide +kernel
theorem dX8_numberOf_0 : decode cX8_numberOf 0 = .ok (.aload_n 0, 1) := by decide +kernel
theorem dX8_numberOf_1 : decode cX8_numberOf 1 = .ok (.iload_n 1, 1) := by decide +kernel
theorem dX8_numberOf_2 : decode cX8_numberOf 2 = .ok (.invokevirtual 186, 3) := by decide +kernel
theorem dX8_numberOf_5 : decode cX8_numberOf 5 = .ok (.ifCond .ne 7, 3) := by decide +kernel
theorem dX8_numberOf_8 : decode cX8_numberOf 8 = .ok (.iconst 1, 1) := by decide +kernel
theorem dX8_numberOf_9 : decode cX8_numberOf 9 = .ok (.goto 32, 3) := by decide +kernel
theorem dX8_numberOf_12 : decode cX8_numberOf 12 = .ok (.iload_n 2, 1) := by decide +kernel
theorem dX8_numberOf_13 : decode cX8_numberOf 13 = .ok (.iconst 0, 1) := by decide +kernel
theorem dX8_numberOf_14 : decode cX8_numberOf 14 = .ok (.iconst 3, 1) := by decide +kernel
theorem dX8_numberOf_15 : decode cX8_numberOf 15 = .ok (.invokestatic 84, 3) := by decide +kernel
theorem dX8_numberOf_18 : decode cX8_numberOf 18 = .ok (.ifCond .ne 7, 3) := by decide +kernel
theorem dX8_numberOf_21 : decode cX8_numberOf 21 = .ok (.iconst 2, 1) := by decide +kernel
theorem dX8_numberOf_22 : decode cX8_numberOf 22 = .ok (.goto 19, 3) := by decide +kernel
theorem dX8_numberOf_25 : decode cX8_numberOf 25 = .ok (.aload_n 0, 1) := by decide +kernel
theorem dX8_numberOf_26 : decode cX8_numberOf 26 = .ok (.getfield 142, 3) := by decide +kernel
theorem dX8_numberOf_29 : decode cX8_numberOf 29 = .ok (.iload_n 1, 1) := by decide +kernel
theorem dX8_numberOf_30 : decode cX8_numberOf 30 = .ok (.invokestatic 104, 3) := by decide +kernel
theorem dX8_numberOf_33 : decode cX8_numberOf 33 = .ok (.ifCond .eq 7, 3) := by decide +kernel
theorem dX8_numberOf_36 : decode cX8_numberOf 36 = .ok (.iconst 0, 1) := by decide +kernel
theorem dX8_numberOf_37 : decode cX8_numberOf 37 = .ok (.goto 4, 3) := by decide +kernel
theorem dX8_numberOf_40 : decode cX8_numberOf 40 = .ok (.iconst 3, 1) := by decide +kernel
theorem dX8_numberOf_41 : decode cX8_numberOf 41 = .ok (.istore_n 3, 1) := by decide +kernel
theorem dX8_numberOf_42 : decode cX8_numberOf 42 = .ok (.aload_n 0, 1) := by decide +kernel
theorem dX8_numberOf_43 : decode cX8_numberOf 43 = .ok (.iload_n 3, 1) := by decide +kernel
theorem dX8_numberOf_44 : decode cX8_numberOf 44 = .ok (.invokevirtual 100, 3) := by decide +kernel
theorem dX8_numberOf_47 : decode cX8_numberOf 47 = .ok (.ifCond .eq 16, 3) := by decide +kernel
theorem dX8_numberOf_50 : decode cX8_numberOf 50 = .ok (.aload_n 0, 1) := by decide +kernel
theorem dX8_numberOf_51 : decode cX8_numberOf 51 = .ok (.getfield 59, 3) := by decide +kernel
theorem dX8_numberOf_54 : decode cX8_numberOf 54 = .ok (.iconst 4, 1) := by decide +kernel
theorem dX8_numberOf_55 : decode cX8_numberOf 55 = .ok (.iload_n 1, 1) := by decide +kernel
theorem dX8_numberOf_56 : decode cX8_numberOf 56 = .ok (.imul, 1) := by decide +kernel
theorem dX8_numberOf_57 : decode cX8_numberOf 57 = .ok (.iload_n 2, 1) := by decide +kernel
theorem dX8_numberOf_58 : decode cX8_numberOf 58 = .ok (.iadd, 1) := by decide +kernel
theorem dX8_numberOf_59 : decode cX8_numberOf 59 = .ok (.iaload, 1) := by decide +kernel
theorem dX8_numberOf_60 : decode cX8_numberOf 60 = .ok (.goto 4, 3) := by decide +kernel
theorem dX8_numberOf_63 : decode cX8_numberOf 63 = .ok (.iconst 0, 1) := by decide +kernel
theorem dX8_numberOf_64 : decode cX8_numberOf 64 = .ok (.ireturn, 1) := by decide +kernel
theorem dX8_number_0 : decode cX8_number 0 = .ok (.aload_n 0, 1) := by decide +kernel
theorem dX8_number_1 : decode cX8_number 1 = .ok (.iload_n 1, 1) := by decide +kernel
theorem dX8_number_2 : decode cX8_number 2 = .ok (.iload_n 2, 1) := by decide +kernel
theorem dX8_number_3 : decode cX8_number 3 = .ok (.invokevirtual 212, 3) := by decide +kernel
theorem dX8_number_6 : decode cX8_number 6 = .ok (.ireturn, 1) := by decide +kernel
theorem dX8_numberAnew_0 : decode cX8_numberAnew 0 = .ok (.aload_n 0, 1) := by decide +kernel
theorem dX8_numberAnew_1 : decode cX8_numberAnew 1 = .ok (.iload_n 1, 1) := by decide +kernel
theorem dX8_numberAnew_2 : decode cX8_numberAnew 2 = .ok (.iload_n 2, 1) := by decide +kernel
theorem dX8_numberAnew_3 : decode cX8_numberAnew 3 = .ok (.invokevirtual 212, 3) := by decide +kernel
theorem dX8_numberAnew_6 : decode cX8_numberAnew 6 = .ok (.ireturn, 1) := by decide +kernel
theorem dX8_on_0 : decode cX8_on 0 = .ok (.iload_n 1, 1) := by decide +kernel
theorem dX8_on_1 : decode cX8_on 1 = .ok (.invokestatic 179, 3) := by decide +kernel
theorem dX8_on_4 : decode cX8_on 4 = .ok (.ifCond .eq 16, 3) := by decide +kernel
theorem dX8_on_7 : decode cX8_on 7 = .ok (.iload_n 2, 1) := by decide +kernel
theorem dX8_on_8 : decode cX8_on 8 = .ok (.ifCond .lt 12, 3) := by decide +kernel
theorem dX8_on_11 : decode cX8_on 11 = .ok (.aload_n 0, 1) := by decide +kernel
theorem dX8_on_12 : decode cX8_on 12 = .ok (.iload_n 1, 1) := by decide +kernel
theorem dX8_on_13 : decode cX8_on 13 = .ok (.iload_n 2, 1) := by decide +kernel
theorem dX8_on_14 : decode cX8_on 14 = .ok (.invokevirtual 206, 3) := by decide +kernel
theorem dX8_on_17 : decode cX8_on 17 = .ok (.goto 4, 3) := by decide +kernel
theorem dX8_on_20 : decode cX8_on 20 = .ok (.iconst (-1), 1) := by decide +kernel
theorem dX8_on_21 : decode cX8_on 21 = .ok (.istore_n 3, 1) := by decide +kernel
theorem dX8_on_22 : decode cX8_on 22 = .ok (.aload_n 0, 1) := by decide +kernel
theorem dX8_on_23 : decode cX8_on 23 = .ok (.iload_n 3, 1) := by decide +kernel
theorem dX8_on_24 : decode cX8_on 24 = .ok (.iconst (-1), 1) := by decide +kernel
theorem dX8_on_25 : decode cX8_on 25 = .ok (.if_icmp .ne 7, 3) := by decide +kernel
theorem dX8_on_28 : decode cX8_on 28 = .ok (.iconst 1, 1) := by decide +kernel
theorem dX8_on_29 : decode cX8_on 29 = .ok (.goto 4, 3) := by decide +kernel
theorem dX8_on_32 : decode cX8_on 32 = .ok (.iconst 0, 1) := by decide +kernel
theorem dX8_on_33 : decode cX8_on 33 = .ok (.invokevirtual 100, 3) := by decide +kernel
theorem dX8_on_36 : decode cX8_on 36 = .ok (.ifCond .ne 5, 3) := by decide +kernel
theorem dX8_on_39 : decode cX8_on 39 = .ok (.iconst 0, 1) := by decide +kernel
theorem dX8_on_40 : decode cX8_on 40 = .ok (.ireturn, 1) := by decide +kernel
theorem dX8_on_41 : decode cX8_on 41 = .ok (.aload_n 0, 1) := by decide +kernel
theorem dX8_on_42 : decode cX8_on 42 = .ok (.getfield 56, 3) := by decide +kernel
theorem dX8_on_45 : decode cX8_on 45 = .ok (.iload_n 1, 1) := by decide +kernel
theorem dX8_on_46 : decode cX8_on 46 = .ok (.iload_n 3, 1) := by decide +kernel
theorem dX8_on_47 : decode cX8_on 47 = .ok (.iastore, 1) := by decide +kernel
theorem dX8_on_48 : decode cX8_on 48 = .ok (.aload_n 0, 1) := by decide +kernel
theorem dX8_on_49 : decode cX8_on 49 = .ok (.invokevirtual 203, 3) := by decide +kernel
theorem dX8_on_52 : decode cX8_on 52 = .ok (.ireturn, 1) := by decide +kernel
theorem dX8_part_0 : decode cX8_part 0 = .ok (.aload_n 0, 1) := by decide +kernel
theorem dX8_part_1 : decode cX8_part 1 = .ok (.iload_n 1, 1) := by decide +kernel
theorem dX8_part_2 : decode cX8_part 2 = .ok (.invokevirtual 186, 3) := by decide +kernel
theorem dX8_part_5 : decode cX8_part 5 = .ok (.istore_n 3, 1) := by decide +kernel
theorem dX8_part_6 : decode cX8_part 6 = .ok (.aload_n 0, 1) := by decide +kernel
theorem dX8_part_7 : decode cX8_part 7 = .ok (.iload_n 3, 1) := by decide +kernel
theorem dX8_part_8 : decode cX8_part 8 = .ok (.ifCond .ne 7, 3) := by decide +kernel
theorem dX8_part_11 : decode cX8_part 11 = .ok (.iconst 1, 1) := by decide +kernel
theorem dX8_part_12 : decode cX8_part 12 = .ok (.goto 19, 3) := by decide +kernel
theorem dX8_part_15 : decode cX8_part 15 = .ok (.aload_n 0, 1) := by decide +kernel
theorem dX8_part_16 : decode cX8_part 16 = .ok (.getfield 142, 3) := by decide +kernel
theorem dX8_part_19 : decode cX8_part 19 = .ok (.iload_n 1, 1) := by decide +kernel
theorem dX8_part_20 : decode cX8_part 20 = .ok (.invokestatic 104, 3) := by decide +kernel
theorem dX8_part_23 : decode cX8_part 23 = .ok (.ifCond .eq 7, 3) := by decide +kernel
theorem dX8_part_26 : decode cX8_part 26 = .ok (.iconst 0, 1) := by decide +kernel
theorem dX8_part_27 : decode cX8_part 27 = .ok (.goto 4, 3) := by decide +kernel
theorem dX8_part_30 : decode cX8_part 30 = .ok (.iconst 2, 1) := by decide +kernel
theorem dX8_part_31 : decode cX8_part 31 = .ok (.invokevirtual 100, 3) := by decide +kernel
theorem dX8_part_34 : decode cX8_part 34 = .ok (.ifCond .ne 5, 3) := by decide +kernel
theorem dX8_part_37 : decode cX8_part 37 = .ok (.iconst 0, 1) := by decide +kernel
theorem dX8_part_38 : decode cX8_part 38 = .ok (.ireturn, 1) := by decide +kernel
theorem dX8_part_39 : decode cX8_part 39 = .ok (.aload_n 0, 1) := by decide +kernel
theorem dX8_part_40 : decode cX8_part 40 = .ok (.iload_n 1, 1) := by decide +kernel
theorem dX8_part_41 : decode cX8_part 41 = .ok (.iload_n 2, 1) := by decide +kernel
theorem dX8_part_42 : decode cX8_part 42 = .ok (.ifCond .eq 7, 3) := by decide +kernel
theorem dX8_part_45 : decode cX8_part 45 = .ok (.iconst 0, 1) := by decide +kernel
theorem dX8_part_46 : decode cX8_part 46 = .ok (.goto 4, 3) := by decide +kernel
theorem dX8_part_49 : decode cX8_part 49 = .ok (.iconst 1, 1) := by decide +kernel
theorem dX8_part_50 : decode cX8_part 50 = .ok (.aload_n 0, 1) := by decide +kernel
theorem dX8_part_51 : decode cX8_part 51 = .ok (.getfield 145, 3) := by decide +kernel
theorem dX8_part_54 : decode cX8_part 54 = .ok (.invokevirtual 122, 3) := by decide +kernel
theorem dX8_part_57 : decode cX8_part 57 = .ok (.invokestatic 199, 3) := by decide +kernel
theorem dX8_part_60 : decode cX8_part 60 = .ok (.ireturn, 1) := by decide +kernel
theorem dX8_resize_0 : decode cX8_resize 0 = .ok (.aload_n 0, 1) := by decide +kernel
theorem dX8_resize_1 : decode cX8_resize 1 = .ok (.iload_n 1, 1) := by decide +kernel
theorem dX8_resize_2 : decode cX8_resize 2 = .ok (.iconst 2, 1) := by decide +kernel
theorem dX8_resize_3 : decode cX8_resize 3 = .ok (.iload_n 2, 1) := by decide +kernel
theorem dX8_resize_4 : decode cX8_resize 4 = .ok (.iload_n 3, 1) := by decide +kernel
theorem dX8_resize_5 : decode cX8_resize 5 = .ok (.iload 4, 2) := by decide +kernel
theorem dX8_resize_7 : decode cX8_resize 7 = .ok (.iload_n 3, 1) := by decide +kernel
theorem dX8_resize_8 : decode cX8_resize 8 = .ok (.iload 4, 2) := by decide +kernel
theorem dX8_resize_10 : decode cX8_resize 10 = .ok (.invokestatic 176, 3) := by decide +kernel
theorem dX8_resize_13 : decode cX8_resize 13 = .ok (.invokevirtual 192, 3) := by decide +kernel
theorem dX8_resize_16 : decode cX8_resize 16 = .ok (.ireturn, 1) := by decide +kernel
theorem dX8_standsAt_0 : decode cX8_standsAt 0 = .ok (.aload_n 0, 1) := by decide +kernel
theorem dX8_standsAt_1 : decode cX8_standsAt 1 = .ok (.iload_n 1, 1) := by decide +kernel
theorem dX8_standsAt_2 : decode cX8_standsAt 2 = .ok (.invokestatic 179, 3) := by decide +kernel
theorem dX8_standsAt_5 : decode cX8_standsAt 5 = .ok (.ifCond .eq 7, 3) := by decide +kernel
theorem dX8_standsAt_8 : decode cX8_standsAt 8 = .ok (.iconst 0, 1) := by decide +kernel
theorem dX8_standsAt_9 : decode cX8_standsAt 9 = .ok (.goto 4, 3) := by decide +kernel
theorem dX8_standsAt_12 : decode cX8_standsAt 12 = .ok (.iconst 1, 1) := by decide +kernel
theorem dX8_standsAt_13 : decode cX8_standsAt 13 = .ok (.invokevirtual 100, 3) := by decide +kernel
theorem dX8_standsAt_16 : decode cX8_standsAt 16 = .ok (.ifCond .eq 12, 3) := by decide +kernel
theorem dX8_standsAt_19 : decode cX8_standsAt 19 = .ok (.aload_n 0, 1) := by decide +kernel
theorem dX8_standsAt_20 : decode cX8_standsAt 20 = .ok (.getfield 56, 3) := by decide +kernel
theorem dX8_standsAt_23 : decode cX8_standsAt 23 = .ok (.iload_n 1, 1) := by decide +kernel
theorem dX8_standsAt_24 : decode cX8_standsAt 24 = .ok (.iaload, 1) := by decide +kernel
theorem dX8_standsAt_25 : decode cX8_standsAt 25 = .ok (.goto 4, 3) := by decide +kernel
theorem dX8_standsAt_28 : decode cX8_standsAt 28 = .ok (.iconst 0, 1) := by decide +kernel
theorem dX8_standsAt_29 : decode cX8_standsAt 29 = .ok (.ireturn, 1) := by decide +kernel
theorem dX8_thrown_0 : decode cX8_thrown 0 = .ok (.aload_n 0, 1) := by decide +kernel
theorem dX8_thrown_1 : decode cX8_thrown 1 = .ok (.getfield 80, 3) := by decide +kernel
theorem dX8_thrown_4 : decode cX8_thrown 4 = .ok (.ireturn, 1) := by decide +kernel
theorem fp_8_2 : FP 8 2 := fun C T N h => by cases h; rfl
theorem ml_RX8_182 : MV RX8 182 8 yX8_adds 5 := ⟨⟨by decide +kernel, by decide +kernel, by decide +kernel⟩, tb19 (mem_i 22 rfl), tb0 (mem_i 9 rfl), Or.inl (tb19 (mem_i 21 rfl)), RX8, TX8, 37, rfl, rfl, tb28 (mem_i 6 rfl)⟩
theorem ml_RX8_173 : MS RX8 173 yX8_isPlace 2 := ⟨⟨by decide +kernel, by decide +kernel, by decide +kernel⟩, tb19 (mem_i 13 rfl), tb0 (mem_i 9 rfl), Or.inl (tb19 (mem_i 12 rfl))⟩
theorem ml_RX8_176 : MS RX8 176 yX8_isSize 2 := ⟨⟨by decide +kernel, by decide +kernel, by decide +kernel⟩, tb19 (mem_i 16 rfl), tb0 (mem_i 9 rfl), Or.inl (tb19 (mem_i 15 rfl))⟩
theorem fl_RX8_23 : FL RX8 23 8 6 (tyX8 6) := ⟨RX8, TX8, 37, tyX8, rfl, by decide, lyX8, tyX8_ok, nmX8, rfl, Or.inl (tb16 (mem_i 11 rfl))⟩
theorem fl_RX8_17 : FL RX8 17 8 4 (tyX8 4) := ⟨RX8, TX8, 37, tyX8, rfl, by decide, lyX8, tyX8_ok, nmX8, rfl, Or.inl (tb16 (mem_i 9 rfl))⟩
theorem fl_RX8_20 : FL RX8 20 8 5 (tyX8 5) := ⟨RX8, TX8, 37, tyX8, rfl, by decide, lyX8, tyX8_ok, nmX8, rfl, Or.inl (tb16 (mem_i 10 rfl))⟩
theorem fl_RX8_215 : FL RX8 215 8 29 .int := ⟨RX8, TX8, 37, tyX8, rfl, by decide, lyX8, tyX8_ok, nmX8, rfl, Or.inl (tb17 (mem_i 4 rfl))⟩
theorem fp_8_29 : FP 8 29 := fun C T N h => by cases h; rfl
theorem fl_RX8_74 : FL RX8 74 8 32 (tyX8 32) := ⟨RX8, TX8, 37, tyX8, rfl, by decide, lyX8, tyX8_ok, nmX8, rfl, Or.inl (tb17 (mem_i 7 rfl))⟩
theorem fl_RX8_71 : FL RX8 71 8 31 (tyX8 31) := ⟨RX8, TX8, 37, tyX8, rfl, by decide, lyX8, tyX8_ok, nmX8, rfl, Or.inl (tb17 (mem_i 6 rfl))⟩
theorem fl_RX8_77 : FL RX8 77 8 33 (tyX8 33) := ⟨RX8, TX8, 37, tyX8, rfl, by decide, lyX8, tyX8_ok, nmX8, rfl, Or.inl (tb17 (mem_i 8 rfl))⟩
theorem ml_RX8_203 : MV RX8 203 8 yX8_doesAnew 0 := ⟨⟨by decide +kernel, by decide +kernel, by decide +kernel⟩, tb22 (mem_i 16 rfl), tb0 (mem_i 9 rfl), Or.inl (tb22 (mem_i 15 rfl)), RX8, TX8, 37, rfl, rfl, tb28 (mem_i 23 rfl)⟩
theorem fl_RX8_35 : FL RX8 35 8 11 (tyX8 11) := ⟨RX8, TX8, 37, tyX8, rfl, by decide, lyX8, tyX8_ok, nmX8, rfl, Or.inl (tb16 (mem_i 16 rfl))⟩
theorem fl_RX8_224 : FL RX8 224 8 35 .int := ⟨RX8, TX8, 37, tyX8, rfl, by decide, lyX8, tyX8_ok, nmX8, rfl, Or.inl (tb17 (mem_i 10 rfl))⟩
theorem ml_RX8_238 : MV RX8 238 8 yX8_isExport 1 := ⟨⟨by decide +kernel, by decide +kernel, by decide +kernel⟩, tb25 (mem_i 9 rfl), tb0 (mem_i 9 rfl), Or.inl (tb25 (mem_i 8 rfl)), RX8, TX8, 37, rfl, rfl, tb28 (mem_i 28 rfl)⟩
theorem fl_RX8_221 : FL RX8 221 8 34 .int := ⟨RX8, TX8, 37, tyX8, rfl, by decide, lyX8, tyX8_ok, nmX8, rfl, Or.inl (tb17 (mem_i 9 rfl))⟩
theorem fp_8_35 : FP 8 35 := fun C T N h => by cases h; rfl
theorem fp_8_34 : FP 8 34 := fun C T N h => by cases h; rfl
theorem ml_RX8_227 : MV RX8 227 8 yX8_sign 1 := ⟨⟨by decide +kernel, by decide +kernel, by decide +kernel⟩, tb25 (mem_i 15 rfl), tb0 (mem_i 9 rfl), Or.inl (tb25 (mem_i 14 rfl)), RX8, TX8, 37, rfl, rfl, tb29 (mem_i 0 rfl)⟩
theorem ml_RX8_232 : MV RX8 232 8 yX8_signs 1 := ⟨⟨by decide +kernel, by decide +kernel, by decide +kernel⟩, tb25 (mem_i 18 rfl), tb0 (mem_i 9 rfl), Or.inl (tb25 (mem_i 17 rfl)), RX8, TX8, 37, rfl, rfl, tb29 (mem_i 1 rfl)⟩
theorem ml_RX8_235 : MV RX8 235 8 yX8_tells 1 := ⟨⟨by decide +kernel, by decide +kernel, by decide +kernel⟩, tb25 (mem_i 21 rfl), tb0 (mem_i 9 rfl), Or.inl (tb25 (mem_i 20 rfl)), RX8, TX8, 37, rfl, rfl, tb29 (mem_i 2 rfl)⟩
theorem ml_RX8_241 : MV RX8 241 8 yX8_goesThrough 2 := ⟨⟨by decide +kernel, by decide +kernel, by decide +kernel⟩, tb25 (mem_i 12 rfl), tb0 (mem_i 9 rfl), Or.inl (tb25 (mem_i 11 rfl)), RX8, TX8, 37, rfl, rfl, tb28 (mem_i 29 rfl)⟩
theorem fl_RX8_218 : FL RX8 218 8 30 .int := ⟨RX8, TX8, 37, tyX8, rfl, by decide, lyX8, tyX8_ok, nmX8, rfl, Or.inl (tb17 (mem_i 5 rfl))⟩
theorem ml_RX8_244 : MV RX8 244 8 yX8_charOf 2 := ⟨⟨by decide +kernel, by decide +kernel, by decide +kernel⟩, tb26 (mem_i 0 rfl), tb0 (mem_i 9 rfl), Or.inl (tb25 (mem_i 29 rfl)), RX8, TX8, 37, rfl, rfl, tb29 (mem_i 3 rfl)⟩
theorem ml_RX8_209 : MV RX8 209 8 yX8_isAct 1 := ⟨⟨by decide +kernel, by decide +kernel, by decide +kernel⟩, tb23 (mem_i 19 rfl), tb0 (mem_i 9 rfl), Or.inl (tb23 (mem_i 18 rfl)), RX8, TX8, 37, rfl, rfl, tb28 (mem_i 26 rfl)⟩
theorem ml_RX8_199 : MS RX8 199 yX8_size 1 := ⟨⟨by decide +kernel, by decide +kernel, by decide +kernel⟩, tb22 (mem_i 9 rfl), tb0 (mem_i 9 rfl), Or.inl (tb22 (mem_i 8 rfl))⟩
theorem ml_RX8_196 : MV RX8 196 8 yX8_isRule 1 := ⟨⟨by decide +kernel, by decide +kernel, by decide +kernel⟩, tb22 (mem_i 6 rfl), tb0 (mem_i 9 rfl), Or.inl (tb22 (mem_i 5 rfl)), RX8, TX8, 37, rfl, rfl, tb28 (mem_i 22 rfl)⟩
theorem fp_8_7 : FP 8 7 := fun C T N h => by cases h; rfl
theorem fp_8_30 : FP 8 30 := fun C T N h => by cases h; rfl
theorem ml_RX8_192 : MV RX8 192 8 yX8_changes 6 := ⟨⟨by decide +kernel, by decide +kernel, by decide +kernel⟩, tb21 (mem_i 15 rfl), tb0 (mem_i 9 rfl), Or.inl (tb21 (mem_i 14 rfl)), RX8, TX8, 37, rfl, rfl, tb28 (mem_i 19 rfl)⟩
theorem ml_RX8_212 : MV RX8 212 8 yX8_numberOf 2 := ⟨⟨by decide +kernel, by decide +kernel, by decide +kernel⟩, tb24 (mem_i 4 rfl), tb0 (mem_i 9 rfl), Or.inl (tb24 (mem_i 3 rfl)), RX8, TX8, 37, rfl, rfl, tb28 (mem_i 27 rfl)⟩
theorem ml_RX8_206 : MV RX8 206 8 yX8_branchOf 2 := ⟨⟨by decide +kernel, by decide +kernel, by decide +kernel⟩, tb22 (mem_i 26 rfl), tb0 (mem_i 9 rfl), Or.inl (tb22 (mem_i 25 rfl)), RX8, TX8, 37, rfl, rfl, tb28 (mem_i 25 rfl)⟩
def f_X8_acts  (S : HS) : Option (HS × Int32) :=
some ((sI S 36 36 (0 : Int32)), ((sI S 36 36 (0 : Int32)).1 36 12))
def rm_X8_acts : Room := { frames := 0, cells := 0, slots := 0, locals := 0 }
set_option maxRecDepth 100000 in
set_option maxHeartbeats 4000000 in
theorem c_X8_acts (l : Launch)   (S : HS) (out : HS × Int32) (h : f_X8_acts  S = some out) : Ct l yX8_acts cX8_acts 1 (some .int) rm_X8_acts [vR 36] S (some (vI out.2)) out.1 := by
  refine Ct.intro (own := RX8) (lv := [(0, vR 36)]) (by decide +kernel) rfl ⟨rfl, rfl⟩ rfl (Nat.le_of_ble_eq_true rfl) ?_
  intro G hG hR
  revert h
  unfold f_X8_acts
  refine s_aload_n hG dX8_acts_0 rfl ?_
  refine s_iconst hG (v := (0 : Int32)) dX8_acts_1 (by decide) ?_
  refine s_putI hG dX8_acts_2 fl_RX8_80 fp_8_36 (rfl) ⟨rfl, rfl⟩ ?_
  refine s_aload_n hG dX8_acts_5 rfl ?_
  refine s_getI hG dX8_acts_6 fl_RX8_94 (rfl) ?_
  exact s_riC hR dX8_acts_9

def f_X8_adds (p1 : Int32) (p2 : Int32) (p3 : Int32) (p4 : Int32) (p5 : Int32) (S : HS) : Option (HS × Int32) :=
(f_X8_writes p1 (0 : Int32) (S.1 36 2) p2 p3 p4 p5 S).bind (fun o13 =>
(f_X8_tries ((sI o13 36 2 ((o13.1 36 2) + (1 : Int32))).1 36 12) (sI o13 36 2 ((o13.1 36 2) + (1 : Int32)))).bind (fun o31 =>
(f_X8_makes o31.1).bind (fun o36 =>
some (o36.1, ((o36.1.1 36 2) - (1 : Int32))))))
def rm_X8_adds : Room := { frames := 5, cells := 0, slots := 0, locals := 130 }
set_option maxRecDepth 100000 in
set_option maxHeartbeats 4000000 in
theorem c_X8_adds (l : Launch) (p1 : Int32) (p2 : Int32) (p3 : Int32) (p4 : Int32) (p5 : Int32)  (S : HS) (out : HS × Int32) (h : f_X8_adds p1 p2 p3 p4 p5 S = some out) : Ct l yX8_adds cX8_adds 6 (some .int) rm_X8_adds [vR 36, vI p1, vI p2, vI p3, vI p4, vI p5] S (some (vI out.2)) out.1 := by
  refine Ct.intro (own := RX8) (lv := [(0, vR 36), (1, vI p1), (2, vI p2), (3, vI p3), (4, vI p4), (5, vI p5)]) (by decide +kernel) rfl ⟨rfl, rfl⟩ rfl (Nat.le_of_ble_eq_true rfl) ?_
  intro G hG hR
  revert h
  unfold f_X8_adds
  refine s_aload_n hG dX8_adds_0 rfl ?_
  refine s_iload_n hG dX8_adds_1 rfl ?_
  refine s_iconst hG (v := (0 : Int32)) dX8_adds_2 (by decide) ?_
  refine s_aload_n hG dX8_adds_3 rfl ?_
  refine s_getI hG dX8_adds_4 fl_RX8_88 (rfl) ?_
  refine s_iload_n hG dX8_adds_7 rfl ?_
  refine s_iload_n hG dX8_adds_8 rfl ?_
  refine s_iload hG dX8_adds_9 rfl ?_
  refine s_iload hG dX8_adds_11 rfl ?_
  refine s_cvV hG (as := [vI p1, vI (0 : Int32), vI (S.1 36 2), vI p2, vI p3, vI p4, vI p5]) (st := []) (rm := rm_X8_writes) dX8_adds_13 ml_RX8_166 (rfl) (tb19 (mem_i 26 rfl)) rfl ⟨rfl, rfl⟩ ⟨by decide, by decide⟩ (Nat.le_of_ble_eq_true rfl) ⟨Nat.zero_le _, Nat.zero_le _⟩ rfl (fun o h => c_X8_writes l _ _ _ _ _ _ _ _ o h) (fun o13 => ?_)
  refine s_aload_n hG dX8_adds_16 rfl ?_
  refine s_dup hG dX8_adds_17 rfl ?_
  refine s_getI hG dX8_adds_18 fl_RX8_88 (rfl) ?_
  refine s_iconst hG (v := (1 : Int32)) dX8_adds_21 (by decide) ?_
  refine s_iadd hG dX8_adds_22 ?_
  refine s_putI hG dX8_adds_23 fl_RX8_88 fp_8_2 (rfl) ⟨rfl, rfl⟩ ?_
  refine s_aload_n hG dX8_adds_26 rfl ?_
  refine s_aload_n hG dX8_adds_27 rfl ?_
  refine s_getI hG dX8_adds_28 fl_RX8_94 (rfl) ?_
  refine s_cvI hG (as := [vI ((sI o13 36 2 ((o13.1 36 2) + (1 : Int32))).1 36 12)]) (st := []) (rm := rm_X8_tries) dX8_adds_31 ml_RX8_159 (rfl) (tb19 (mem_i 29 rfl)) rfl ⟨rfl, rfl⟩ ⟨by decide, by decide⟩ (Nat.le_of_ble_eq_true rfl) ⟨Nat.zero_le _, Nat.zero_le _⟩ rfl (fun o h => c_X8_tries l _ _ o h) (fun o31 => ?_)
  refine s_pop hG dX8_adds_34 rfl ?_
  refine s_aload_n hG dX8_adds_35 rfl ?_
  refine s_cvI hG (as := []) (st := []) (rm := rm_X8_makes) dX8_adds_36 ml_RX8_170 (rfl) (tb21 (mem_i 2 rfl)) rfl ⟨rfl, rfl⟩ ⟨by decide, by decide⟩ (Nat.le_of_ble_eq_true rfl) ⟨Nat.zero_le _, Nat.zero_le _⟩ rfl (fun o h => c_X8_makes l  _ o h) (fun o36 => ?_)
  refine s_pop hG dX8_adds_39 rfl ?_
  refine s_aload_n hG dX8_adds_40 rfl ?_
  refine s_getI hG dX8_adds_41 fl_RX8_88 (rfl) ?_
  refine s_iconst hG (v := (1 : Int32)) dX8_adds_44 (by decide) ?_
  refine s_isub hG dX8_adds_45 ?_
  exact s_riC hR dX8_adds_46

def f_X8_isPlace_b31 (p0 : Int32) (p1 : Int32)  (S : HS) (t0 : Int32) : Option (Int32) :=
if nz t0 = true then some t0 else none
def f_X8_isPlace_b30 (p0 : Int32) (p1 : Int32)  (S : HS)  : Option (Int32) :=
f_X8_isPlace_b31 p0 p1  S (0 : Int32)
def f_X8_isPlace (p0 : Int32) (p1 : Int32) (S : HS) : Option (Int32) :=
(f_X8_isIn p0 (-999 : Int32) (999 : Int32) S).bind (fun o7 =>
if o7 = 0 then
f_X8_isPlace_b30 p0 p1  S
else
(f_X8_isIn p1 (-999 : Int32) (999 : Int32) S).bind (fun o20 =>
if o20 = 0 then
f_X8_isPlace_b30 p0 p1  S
else
f_X8_isPlace_b31 p0 p1  S (1 : Int32)))
def rm_X8_isPlace : Room := { frames := 1, cells := 0, slots := 0, locals := 22 }
set_option maxRecDepth 100000 in
set_option maxHeartbeats 4000000 in
theorem c_X8_isPlace (l : Launch) (p0 : Int32) (p1 : Int32)  (S : HS) (out : Int32) (h : f_X8_isPlace p0 p1 S = some out) : Ct l yX8_isPlace cX8_isPlace 2 (some .boolean) rm_X8_isPlace [vI p0, vI p1] S (some (vI out)) S := by
  refine Ct.intro (own := RX8) (lv := [(0, vI p0), (1, vI p1)]) (by decide +kernel) rfl ⟨rfl, rfl⟩ rfl (Nat.le_of_ble_eq_true rfl) ?_
  intro G hG hR
  revert h
  have hb31 : ∀ (t0 : Int32), f_X8_isPlace_b31 p0 p1 S t0 = some out → G 0 0 S [] 31 [vI t0] := by
    intro t0
    unfold f_X8_isPlace_b31
    exact s_rzP hR dX8_isPlace_31
  have hb30 :  f_X8_isPlace_b30 p0 p1 S  = some out → G 0 0 S [] 30 [] := by
    skip
    unfold f_X8_isPlace_b30
    refine s_iconst hG (v := (0 : Int32)) dX8_isPlace_30 (by decide) ?_
    exact hb31 _
  unfold f_X8_isPlace
  refine s_iload_n hG dX8_isPlace_0 rfl ?_
  refine s_sipush hG (v := (-999 : Int32)) dX8_isPlace_1 (by decide) ?_
  refine s_sipush hG (v := (999 : Int32)) dX8_isPlace_4 (by decide) ?_
  refine s_csP hG (as := [vI p0, vI (-999 : Int32), vI (999 : Int32)]) (st := []) (rm := rm_X8_isIn) dX8_isPlace_7 ml_RX8_84 (tb19 (mem_i 0 rfl)) rfl ⟨rfl, rfl⟩ ⟨by decide, by decide⟩ (Nat.le_of_ble_eq_true rfl) ⟨Nat.zero_le _, Nat.zero_le _⟩ rfl (fun o h => c_X8_isIn l _ _ _ _ o h) (fun o7 => ?_)
  refine s_if_eq hG (tgt := 30) dX8_isPlace_10 (by decide) ?_ ?_
  · refine s_lv hG [] rfl ?_
    exact hb30 
  · refine s_iload_n hG dX8_isPlace_13 rfl ?_
    refine s_sipush hG (v := (-999 : Int32)) dX8_isPlace_14 (by decide) ?_
    refine s_sipush hG (v := (999 : Int32)) dX8_isPlace_17 (by decide) ?_
    refine s_csP hG (as := [vI p1, vI (-999 : Int32), vI (999 : Int32)]) (st := []) (rm := rm_X8_isIn) dX8_isPlace_20 ml_RX8_84 (tb19 (mem_i 0 rfl)) rfl ⟨rfl, rfl⟩ ⟨by decide, by decide⟩ (Nat.le_of_ble_eq_true rfl) ⟨Nat.zero_le _, Nat.zero_le _⟩ rfl (fun o h => c_X8_isIn l _ _ _ _ o h) (fun o20 => ?_)
    refine s_if_eq hG (tgt := 30) dX8_isPlace_23 (by decide) ?_ ?_
    · refine s_lv hG [] rfl ?_
      exact hb30 
    · refine s_iconst hG (v := (1 : Int32)) dX8_isPlace_26 (by decide) ?_
      refine s_goto hG (tgt := 31) dX8_isPlace_27 (by decide) ?_
      refine s_lv hG [] rfl ?_
      exact hb31 _

def f_X8_isSize_b25 (p0 : Int32) (p1 : Int32)  (S : HS) (t0 : Int32) : Option (Int32) :=
if nz t0 = true then some t0 else none
def f_X8_isSize_b24 (p0 : Int32) (p1 : Int32)  (S : HS)  : Option (Int32) :=
f_X8_isSize_b25 p0 p1  S (0 : Int32)
def f_X8_isSize (p0 : Int32) (p1 : Int32) (S : HS) : Option (Int32) :=
(f_X8_isIn p0 (1 : Int32) (99 : Int32) S).bind (fun o4 =>
if o4 = 0 then
f_X8_isSize_b24 p0 p1  S
else
(f_X8_isIn p1 (1 : Int32) (99 : Int32) S).bind (fun o14 =>
if o14 = 0 then
f_X8_isSize_b24 p0 p1  S
else
f_X8_isSize_b25 p0 p1  S (1 : Int32)))
def rm_X8_isSize : Room := { frames := 1, cells := 0, slots := 0, locals := 22 }
set_option maxRecDepth 100000 in
set_option maxHeartbeats 4000000 in
theorem c_X8_isSize (l : Launch) (p0 : Int32) (p1 : Int32)  (S : HS) (out : Int32) (h : f_X8_isSize p0 p1 S = some out) : Ct l yX8_isSize cX8_isSize 2 (some .boolean) rm_X8_isSize [vI p0, vI p1] S (some (vI out)) S := by
  refine Ct.intro (own := RX8) (lv := [(0, vI p0), (1, vI p1)]) (by decide +kernel) rfl ⟨rfl, rfl⟩ rfl (Nat.le_of_ble_eq_true rfl) ?_
  intro G hG hR
  revert h
  have hb25 : ∀ (t0 : Int32), f_X8_isSize_b25 p0 p1 S t0 = some out → G 0 0 S [] 25 [vI t0] := by
    intro t0
    unfold f_X8_isSize_b25
    exact s_rzP hR dX8_isSize_25
  have hb24 :  f_X8_isSize_b24 p0 p1 S  = some out → G 0 0 S [] 24 [] := by
    skip
    unfold f_X8_isSize_b24
    refine s_iconst hG (v := (0 : Int32)) dX8_isSize_24 (by decide) ?_
    exact hb25 _
  unfold f_X8_isSize
  refine s_iload_n hG dX8_isSize_0 rfl ?_
  refine s_iconst hG (v := (1 : Int32)) dX8_isSize_1 (by decide) ?_
  refine s_bipush hG (v := (99 : Int32)) dX8_isSize_2 (by decide) ?_
  refine s_csP hG (as := [vI p0, vI (1 : Int32), vI (99 : Int32)]) (st := []) (rm := rm_X8_isIn) dX8_isSize_4 ml_RX8_84 (tb19 (mem_i 0 rfl)) rfl ⟨rfl, rfl⟩ ⟨by decide, by decide⟩ (Nat.le_of_ble_eq_true rfl) ⟨Nat.zero_le _, Nat.zero_le _⟩ rfl (fun o h => c_X8_isIn l _ _ _ _ o h) (fun o4 => ?_)
  refine s_if_eq hG (tgt := 24) dX8_isSize_7 (by decide) ?_ ?_
  · refine s_lv hG [] rfl ?_
    exact hb24 
  · refine s_iload_n hG dX8_isSize_10 rfl ?_
    refine s_iconst hG (v := (1 : Int32)) dX8_isSize_11 (by decide) ?_
    refine s_bipush hG (v := (99 : Int32)) dX8_isSize_12 (by decide) ?_
    refine s_csP hG (as := [vI p1, vI (1 : Int32), vI (99 : Int32)]) (st := []) (rm := rm_X8_isIn) dX8_isSize_14 ml_RX8_84 (tb19 (mem_i 0 rfl)) rfl ⟨rfl, rfl⟩ ⟨by decide, by decide⟩ (Nat.le_of_ble_eq_true rfl) ⟨Nat.zero_le _, Nat.zero_le _⟩ rfl (fun o h => c_X8_isIn l _ _ _ _ o h) (fun o14 => ?_)
    refine s_if_eq hG (tgt := 24) dX8_isSize_17 (by decide) ?_ ?_
    · refine s_lv hG [] rfl ?_
      exact hb24 
    · refine s_iconst hG (v := (1 : Int32)) dX8_isSize_20 (by decide) ?_
      refine s_goto hG (tgt := 25) dX8_isSize_21 (by decide) ?_
      refine s_lv hG [] rfl ?_
      exact hb25 _

def f_X8_addBox_b69 (p1 : Int32) (p2 : Int32) (p3 : Int32) (p4 : Int32) (p5 : Int32)  (S : HS) (t1 : Int32) : Option (HS × Int32) :=
(f_X8_can t1 S).bind (fun o69 =>
if o69.2 = 0 then
some (o69.1, (0 : Int32))
else
if ib (o69.1.1 36 2) (10) = true then
(f_X8_adds p1 p2 p3 p4 p5 (sI o69.1 38 (o69.1.1 36 2).toNatClampNeg (vp_nar .boolean (0 : Int32)))).bind (fun o95 =>
some (o95.1, o95.2))
else none)
def f_X8_addBox_b64 (p1 : Int32) (p2 : Int32) (p3 : Int32) (p4 : Int32) (p5 : Int32)  (S : HS)  : Option (HS × Int32) :=
f_X8_addBox_b69 p1 p2 p3 p4 p5  S (3 : Int32)
def f_X8_addBox_b23 (p1 : Int32) (p2 : Int32) (p3 : Int32) (p4 : Int32) (p5 : Int32)  (S : HS) (t0 : Int32) : Option (HS × Int32) :=
(f_X8_isDrawer p1 S).bind (fun o27 =>
if o27 = 0 then
f_X8_addBox_b69 p1 p2 p3 p4 p5  S (1 : Int32)
else
if t0 = 0 then
f_X8_addBox_b69 p1 p2 p3 p4 p5  S (2 : Int32)
else
if (S.1 36 2) = (10 : Int32) then
f_X8_addBox_b64 p1 p2 p3 p4 p5  S
else
if (S.1 36 12) = (60 : Int32) then
f_X8_addBox_b64 p1 p2 p3 p4 p5  S
else
f_X8_addBox_b69 p1 p2 p3 p4 p5  S (0 : Int32))
def f_X8_addBox_b22 (p1 : Int32) (p2 : Int32) (p3 : Int32) (p4 : Int32) (p5 : Int32)  (S : HS)  : Option (HS × Int32) :=
f_X8_addBox_b23 p1 p2 p3 p4 p5  S (0 : Int32)
def f_X8_addBox (p1 : Int32) (p2 : Int32) (p3 : Int32) (p4 : Int32) (p5 : Int32) (S : HS) : Option (HS × Int32) :=
(f_X8_isPlace p2 p3 S).bind (fun o2 =>
if o2 = 0 then
f_X8_addBox_b22 p1 p2 p3 p4 p5  S
else
(f_X8_isSize p4 p5 S).bind (fun o12 =>
if o12 = 0 then
f_X8_addBox_b22 p1 p2 p3 p4 p5  S
else
f_X8_addBox_b23 p1 p2 p3 p4 p5  S (1 : Int32)))
def rm_X8_addBox : Room := { frames := 6, cells := 0, slots := 0, locals := 155 }
set_option maxRecDepth 100000 in
set_option maxHeartbeats 4000000 in
theorem c_X8_addBox (l : Launch) (p1 : Int32) (p2 : Int32) (p3 : Int32) (p4 : Int32) (p5 : Int32)  (S : HS) (out : HS × Int32) (h : f_X8_addBox p1 p2 p3 p4 p5 S = some out) : Ct l yX8_addBox cX8_addBox 7 (some .int) rm_X8_addBox [vR 36, vI p1, vI p2, vI p3, vI p4, vI p5] S (some (vI out.2)) out.1 := by
  refine Ct.intro (own := RX8) (lv := [(0, vR 36), (1, vI p1), (2, vI p2), (3, vI p3), (4, vI p4), (5, vI p5)]) (by decide +kernel) rfl ⟨rfl, rfl⟩ rfl (Nat.le_of_ble_eq_true rfl) ?_
  intro G hG hR
  revert h
  have hb69 : ∀ (S : HS) (t1 : Int32), f_X8_addBox_b69 p1 p2 p3 p4 p5 S t1 = some out → G 0 0 S [(0, vR 36), (1, vI p1), (2, vI p2), (3, vI p3), (4, vI p4), (5, vI p5)] 69 [vI t1, vR 36] := by
    intro S t1
    unfold f_X8_addBox_b69
    refine s_cvI hG (as := [vI t1]) (st := []) (rm := rm_X8_can) dX8_addBox_69 ml_RX8_100 (rfl) (tb19 (mem_i 3 rfl)) rfl ⟨rfl, rfl⟩ ⟨by decide, by decide⟩ (Nat.le_of_ble_eq_true rfl) ⟨Nat.zero_le _, Nat.zero_le _⟩ rfl (fun o h => c_X8_can l _ _ o h) (fun o69 => ?_)
    refine s_if_ne hG (tgt := 77) dX8_addBox_72 (by decide) ?_ ?_
    · refine s_aload_n hG dX8_addBox_77 rfl ?_
      refine s_getC hG dX8_addBox_78 fl_RX8_13 (rfl) ?_
      refine s_aload_n hG dX8_addBox_81 rfl ?_
      refine s_getI hG dX8_addBox_82 fl_RX8_88 (rfl) ?_
      refine s_iconst hG (v := (0 : Int32)) dX8_addBox_85 (by decide) ?_
      refine s_bastore hG dX8_addBox_86 (rfl) ?_
      refine s_aload_n hG dX8_addBox_87 rfl ?_
      refine s_iload_n hG dX8_addBox_88 rfl ?_
      refine s_iload_n hG dX8_addBox_89 rfl ?_
      refine s_iload_n hG dX8_addBox_90 rfl ?_
      refine s_iload hG dX8_addBox_91 rfl ?_
      refine s_iload hG dX8_addBox_93 rfl ?_
      refine s_cvI hG (as := [vI p1, vI p2, vI p3, vI p4, vI p5]) (st := []) (rm := rm_X8_adds) dX8_addBox_95 ml_RX8_182 (rfl) (tb19 (mem_i 23 rfl)) rfl ⟨rfl, rfl⟩ ⟨by decide, by decide⟩ (Nat.le_of_ble_eq_true rfl) ⟨Nat.zero_le _, Nat.zero_le _⟩ rfl (fun o h => c_X8_adds l _ _ _ _ _ _ o h) (fun o95 => ?_)
      exact s_riC hR dX8_addBox_98
    · refine s_iconst hG (v := (0 : Int32)) dX8_addBox_75 (by decide) ?_
      exact s_riC hR dX8_addBox_76
  have hb64 : ∀ (S : HS), f_X8_addBox_b64 p1 p2 p3 p4 p5 S  = some out → G 0 0 S [(0, vR 36), (1, vI p1), (2, vI p2), (3, vI p3), (4, vI p4), (5, vI p5)] 64 [vR 36] := by
    intro S
    unfold f_X8_addBox_b64
    refine s_iconst hG (v := (3 : Int32)) dX8_addBox_64 (by decide) ?_
    refine s_goto hG (tgt := 69) dX8_addBox_65 (by decide) ?_
    exact hb69 _ _
  have hb23 : ∀ (S : HS) (t0 : Int32), f_X8_addBox_b23 p1 p2 p3 p4 p5 S t0 = some out → G 0 0 S [(0, vR 36), (1, vI p1), (2, vI p2), (3, vI p3), (4, vI p4), (5, vI p5)] 23 [vI t0] := by
    intro S t0
    unfold f_X8_addBox_b23
    refine s_istore hG (lv' := [(6, vI t0), (0, vR 36), (1, vI p1), (2, vI p2), (3, vI p3), (4, vI p4), (5, vI p5)]) dX8_addBox_23 (by decide) rfl ?_
    refine s_aload_n hG dX8_addBox_25 rfl ?_
    refine s_iload_n hG dX8_addBox_26 rfl ?_
    refine s_csP hG (as := [vI p1]) (st := [vR 36]) (rm := rm_X8_isDrawer) dX8_addBox_27 ml_RX8_179 (tb19 (mem_i 20 rfl)) rfl ⟨rfl, rfl⟩ ⟨by decide, by decide⟩ (Nat.le_of_ble_eq_true rfl) ⟨Nat.zero_le _, Nat.zero_le _⟩ rfl (fun o h => c_X8_isDrawer l _ _ o h) (fun o27 => ?_)
    refine s_if_ne hG (tgt := 37) dX8_addBox_30 (by decide) ?_ ?_
    · refine s_iload hG dX8_addBox_37 rfl ?_
      refine s_if_ne hG (tgt := 46) dX8_addBox_39 (by decide) ?_ ?_
      · refine s_aload_n hG dX8_addBox_46 rfl ?_
        refine s_getI hG dX8_addBox_47 fl_RX8_88 (rfl) ?_
        refine s_bipush hG (v := (10 : Int32)) dX8_addBox_50 (by decide) ?_
        refine s_icmp_eq hG (tgt := 64) dX8_addBox_52 (by decide) ?_ ?_
        · refine s_lv hG [1, 2, 3, 4, 5, 6] rfl ?_
          exact hb64 _
        · refine s_aload_n hG dX8_addBox_55 rfl ?_
          refine s_getI hG dX8_addBox_56 fl_RX8_94 (rfl) ?_
          refine s_bipush hG (v := (60 : Int32)) dX8_addBox_59 (by decide) ?_
          refine s_icmp_ne hG (tgt := 68) dX8_addBox_61 (by decide) ?_ ?_
          · refine s_iconst hG (v := (0 : Int32)) dX8_addBox_68 (by decide) ?_
            refine s_lv hG [1, 2, 3, 4, 5, 6] rfl ?_
            exact hb69 _ _
          · refine s_lv hG [1, 2, 3, 4, 5, 6] rfl ?_
            exact hb64 _
      · refine s_iconst hG (v := (2 : Int32)) dX8_addBox_42 (by decide) ?_
        refine s_goto hG (tgt := 69) dX8_addBox_43 (by decide) ?_
        refine s_lv hG [1, 2, 3, 4, 5, 6] rfl ?_
        exact hb69 _ _
    · refine s_iconst hG (v := (1 : Int32)) dX8_addBox_33 (by decide) ?_
      refine s_goto hG (tgt := 69) dX8_addBox_34 (by decide) ?_
      refine s_lv hG [1, 2, 3, 4, 5, 6] rfl ?_
      exact hb69 _ _
  have hb22 : ∀ (S : HS), f_X8_addBox_b22 p1 p2 p3 p4 p5 S  = some out → G 0 0 S [(0, vR 36), (1, vI p1), (2, vI p2), (3, vI p3), (4, vI p4), (5, vI p5)] 22 [] := by
    intro S
    unfold f_X8_addBox_b22
    refine s_iconst hG (v := (0 : Int32)) dX8_addBox_22 (by decide) ?_
    exact hb23 _ _
  unfold f_X8_addBox
  refine s_iload_n hG dX8_addBox_0 rfl ?_
  refine s_iload_n hG dX8_addBox_1 rfl ?_
  refine s_csP hG (as := [vI p2, vI p3]) (st := []) (rm := rm_X8_isPlace) dX8_addBox_2 ml_RX8_173 (tb19 (mem_i 14 rfl)) rfl ⟨rfl, rfl⟩ ⟨by decide, by decide⟩ (Nat.le_of_ble_eq_true rfl) ⟨Nat.zero_le _, Nat.zero_le _⟩ rfl (fun o h => c_X8_isPlace l _ _ _ o h) (fun o2 => ?_)
  refine s_if_eq hG (tgt := 22) dX8_addBox_5 (by decide) ?_ ?_
  · exact hb22 _
  · refine s_iload hG dX8_addBox_8 rfl ?_
    refine s_iload hG dX8_addBox_10 rfl ?_
    refine s_csP hG (as := [vI p4, vI p5]) (st := []) (rm := rm_X8_isSize) dX8_addBox_12 ml_RX8_176 (tb19 (mem_i 17 rfl)) rfl ⟨rfl, rfl⟩ ⟨by decide, by decide⟩ (Nat.le_of_ble_eq_true rfl) ⟨Nat.zero_le _, Nat.zero_le _⟩ rfl (fun o h => c_X8_isSize l _ _ _ o h) (fun o12 => ?_)
    refine s_if_eq hG (tgt := 22) dX8_addBox_15 (by decide) ?_ ?_
    · exact hb22 _
    · refine s_iconst hG (v := (1 : Int32)) dX8_addBox_18 (by decide) ?_
      refine s_goto hG (tgt := 23) dX8_addBox_19 (by decide) ?_
      exact hb23 _ _

def F_X8_addLabel_b99 (p1 : Int32) (p2 : Int32) (p3 : Int32) (p4 : Int32)  (rec99 : HS × Int32 → Option (HS × Int32)) : HS × Int32 → Option (HS × Int32) := fun q => match q with
  | (S, x5) =>
    if (S.1 36 0) ≤ x5 then
    (f_X8_adds p1 p2 p3 ((2 : Int32) * (S.1 36 0)) (2 : Int32) S).bind (fun o146 =>
    some (o146.1, o146.2))
    else
    if ib x5 (5) = true then
    if ib (((5 : Int32) * (S.1 36 2)) + x5) (50) = true then
    rec99 ((sI S 41 (((5 : Int32) * (S.1 36 2)) + x5).toNatClampNeg (S.1 37 x5.toNatClampNeg)), (x5 + (1 : Int32)))
    else none
    else none
def f_X8_addLabel_b99 (p1 : Int32) (p2 : Int32) (p3 : Int32) (p4 : Int32)  (S : HS) (x5 : Int32) : Option (HS × Int32) := fx (F_X8_addLabel_b99 p1 p2 p3 p4) FU (S, x5)
def f_X8_addLabel_b54 (p1 : Int32) (p2 : Int32) (p3 : Int32) (p4 : Int32)  (S : HS) (t1 : Int32) : Option (HS × Int32) :=
(f_X8_can t1 S).bind (fun o54 =>
if o54.2 = 0 then
some (o54.1, (0 : Int32))
else
if ib (o54.1.1 36 2) (10) = true then
if ib ((sI o54.1 38 (o54.1.1 36 2).toNatClampNeg (vp_nar .boolean (1 : Int32))).1 36 2) (10) = true then
if ib ((sI (sI o54.1 38 (o54.1.1 36 2).toNatClampNeg (vp_nar .boolean (1 : Int32))) 39 ((sI o54.1 38 (o54.1.1 36 2).toNatClampNeg (vp_nar .boolean (1 : Int32))).1 36 2).toNatClampNeg (vp_nar .boolean p4)).1 36 2) (10) = true then
f_X8_addLabel_b99 p1 p2 p3 p4  (sI (sI (sI o54.1 38 (o54.1.1 36 2).toNatClampNeg (vp_nar .boolean (1 : Int32))) 39 ((sI o54.1 38 (o54.1.1 36 2).toNatClampNeg (vp_nar .boolean (1 : Int32))).1 36 2).toNatClampNeg (vp_nar .boolean p4)) 40 ((sI (sI o54.1 38 (o54.1.1 36 2).toNatClampNeg (vp_nar .boolean (1 : Int32))) 39 ((sI o54.1 38 (o54.1.1 36 2).toNatClampNeg (vp_nar .boolean (1 : Int32))).1 36 2).toNatClampNeg (vp_nar .boolean p4)).1 36 2).toNatClampNeg ((sI (sI o54.1 38 (o54.1.1 36 2).toNatClampNeg (vp_nar .boolean (1 : Int32))) 39 ((sI o54.1 38 (o54.1.1 36 2).toNatClampNeg (vp_nar .boolean (1 : Int32))).1 36 2).toNatClampNeg (vp_nar .boolean p4)).1 36 0)) (0 : Int32)
else none
else none
else none)
def f_X8_addLabel_b49 (p1 : Int32) (p2 : Int32) (p3 : Int32) (p4 : Int32)  (S : HS)  : Option (HS × Int32) :=
f_X8_addLabel_b54 p1 p2 p3 p4  S (3 : Int32)
def f_X8_addLabel (p1 : Int32) (p2 : Int32) (p3 : Int32) (p4 : Int32) (S : HS) : Option (HS × Int32) :=
(f_X8_isDrawer p1 S).bind (fun o2 =>
if o2 = 0 then
f_X8_addLabel_b54 p1 p2 p3 p4  S (1 : Int32)
else
(f_X8_isPlace p2 p3 S).bind (fun o14 =>
if o14 = 0 then
f_X8_addLabel_b54 p1 p2 p3 p4  S (2 : Int32)
else
if (S.1 36 0) = 0 then
f_X8_addLabel_b49 p1 p2 p3 p4  S
else
if (S.1 36 2) = (10 : Int32) then
f_X8_addLabel_b49 p1 p2 p3 p4  S
else
if (S.1 36 12) = (60 : Int32) then
f_X8_addLabel_b49 p1 p2 p3 p4  S
else
f_X8_addLabel_b54 p1 p2 p3 p4  S (0 : Int32)))
def rm_X8_addLabel : Room := { frames := 6, cells := 0, slots := 0, locals := 155 }
set_option maxRecDepth 100000 in
set_option maxHeartbeats 4000000 in
theorem c_X8_addLabel (l : Launch) (p1 : Int32) (p2 : Int32) (p3 : Int32) (p4 : Int32)  (S : HS) (out : HS × Int32) (h : f_X8_addLabel p1 p2 p3 p4 S = some out) : Ct l yX8_addLabel cX8_addLabel 6 (some .int) rm_X8_addLabel [vR 36, vI p1, vI p2, vI p3, vI p4] S (some (vI out.2)) out.1 := by
  refine Ct.intro (own := RX8) (lv := [(0, vR 36), (1, vI p1), (2, vI p2), (3, vI p3), (4, vI p4)]) (by decide +kernel) rfl ⟨rfl, rfl⟩ rfl (Nat.le_of_ble_eq_true rfl) ?_
  intro G hG hR
  revert h
  have hb99 : ∀ (S : HS) (x5 : Int32), f_X8_addLabel_b99 p1 p2 p3 p4 S x5 = some out → G 0 0 S [(0, vR 36), (1, vI p1), (2, vI p2), (3, vI p3), (5, vI x5)] 99 [] := by
    intro  S x5
    unfold f_X8_addLabel_b99
    generalize FU = nf
    revert S x5
    induction nf with
    | zero => intro S x5 h9; cases h9
    | succ nf hrec99 =>
      intro S x5
      show F_X8_addLabel_b99 p1 p2 p3 p4 (fx (F_X8_addLabel_b99 p1 p2 p3 p4) nf) (S, x5) = some out → _
      generalize fx (F_X8_addLabel_b99 p1 p2 p3 p4) nf = rec99 at hrec99
      unfold F_X8_addLabel_b99
      dsimp only
      refine s_iload hG dX8_addLabel_99 rfl ?_
      refine s_aload_n hG dX8_addLabel_101 rfl ?_
      refine s_getI hG dX8_addLabel_102 fl_RX8_97 (rfl) ?_
      refine s_icmp_ge hG (tgt := 135) dX8_addLabel_105 (by decide) ?_ ?_
      · refine s_aload_n hG dX8_addLabel_135 rfl ?_
        refine s_iload_n hG dX8_addLabel_136 rfl ?_
        refine s_iload_n hG dX8_addLabel_137 rfl ?_
        refine s_iload_n hG dX8_addLabel_138 rfl ?_
        refine s_iconst hG (v := (2 : Int32)) dX8_addLabel_139 (by decide) ?_
        refine s_aload_n hG dX8_addLabel_140 rfl ?_
        refine s_getI hG dX8_addLabel_141 fl_RX8_97 (rfl) ?_
        refine s_imul hG dX8_addLabel_144 ?_
        refine s_iconst hG (v := (2 : Int32)) dX8_addLabel_145 (by decide) ?_
        refine s_cvI hG (as := [vI p1, vI p2, vI p3, vI ((2 : Int32) * (S.1 36 0)), vI (2 : Int32)]) (st := []) (rm := rm_X8_adds) dX8_addLabel_146 ml_RX8_182 (rfl) (tb19 (mem_i 23 rfl)) rfl ⟨rfl, rfl⟩ ⟨by decide, by decide⟩ (Nat.le_of_ble_eq_true rfl) ⟨Nat.zero_le _, Nat.zero_le _⟩ rfl (fun o h => c_X8_adds l _ _ _ _ _ _ o h) (fun o146 => ?_)
        exact s_riC hR dX8_addLabel_149
      · refine s_aload_n hG dX8_addLabel_108 rfl ?_
        refine s_getC hG dX8_addLabel_109 fl_RX8_23 (rfl) ?_
        refine s_iconst hG (v := (5 : Int32)) dX8_addLabel_112 (by decide) ?_
        refine s_aload_n hG dX8_addLabel_113 rfl ?_
        refine s_getI hG dX8_addLabel_114 fl_RX8_88 (rfl) ?_
        refine s_imul hG dX8_addLabel_117 ?_
        refine s_iload hG dX8_addLabel_118 rfl ?_
        refine s_iadd hG dX8_addLabel_120 ?_
        refine s_aload_n hG dX8_addLabel_121 rfl ?_
        refine s_getC hG dX8_addLabel_122 fl_RX8_7 (rfl) ?_
        refine s_iload hG dX8_addLabel_125 rfl ?_
        refine s_iaload hG dX8_addLabel_127 (rfl) ?_
        refine s_iastore hG dX8_addLabel_128 (rfl) ?_
        refine s_iinc hG (v := (x5 + (1 : Int32))) (lv' := [(5, vI (x5 + (1 : Int32))), (0, vR 36), (1, vI p1), (2, vI p2), (3, vI p3)]) dX8_addLabel_129 rfl rfl (by decide) rfl ?_
        refine s_goto hG (tgt := 99) dX8_addLabel_132 (by decide) ?_
        refine s_lv hG [1, 2, 3, 4, 0] rfl ?_
        exact hrec99 _ _
  have hb54 : ∀ (S : HS) (t1 : Int32), f_X8_addLabel_b54 p1 p2 p3 p4 S t1 = some out → G 0 0 S [(0, vR 36), (1, vI p1), (2, vI p2), (3, vI p3), (4, vI p4)] 54 [vI t1, vR 36] := by
    intro S t1
    unfold f_X8_addLabel_b54
    refine s_cvI hG (as := [vI t1]) (st := []) (rm := rm_X8_can) dX8_addLabel_54 ml_RX8_100 (rfl) (tb19 (mem_i 3 rfl)) rfl ⟨rfl, rfl⟩ ⟨by decide, by decide⟩ (Nat.le_of_ble_eq_true rfl) ⟨Nat.zero_le _, Nat.zero_le _⟩ rfl (fun o h => c_X8_can l _ _ o h) (fun o54 => ?_)
    refine s_if_ne hG (tgt := 62) dX8_addLabel_57 (by decide) ?_ ?_
    · refine s_aload_n hG dX8_addLabel_62 rfl ?_
      refine s_getC hG dX8_addLabel_63 fl_RX8_13 (rfl) ?_
      refine s_aload_n hG dX8_addLabel_66 rfl ?_
      refine s_getI hG dX8_addLabel_67 fl_RX8_88 (rfl) ?_
      refine s_iconst hG (v := (1 : Int32)) dX8_addLabel_70 (by decide) ?_
      refine s_bastore hG dX8_addLabel_71 (rfl) ?_
      refine s_aload_n hG dX8_addLabel_72 rfl ?_
      refine s_getC hG dX8_addLabel_73 fl_RX8_17 (rfl) ?_
      refine s_aload_n hG dX8_addLabel_76 rfl ?_
      refine s_getI hG dX8_addLabel_77 fl_RX8_88 (rfl) ?_
      refine s_iload hG dX8_addLabel_80 rfl ?_
      refine s_bastore hG dX8_addLabel_82 (rfl) ?_
      refine s_aload_n hG dX8_addLabel_83 rfl ?_
      refine s_getC hG dX8_addLabel_84 fl_RX8_20 (rfl) ?_
      refine s_aload_n hG dX8_addLabel_87 rfl ?_
      refine s_getI hG dX8_addLabel_88 fl_RX8_88 (rfl) ?_
      refine s_aload_n hG dX8_addLabel_91 rfl ?_
      refine s_getI hG dX8_addLabel_92 fl_RX8_97 (rfl) ?_
      refine s_iastore hG dX8_addLabel_95 (rfl) ?_
      refine s_iconst hG (v := (0 : Int32)) dX8_addLabel_96 (by decide) ?_
      refine s_istore hG (lv' := [(5, vI (0 : Int32)), (0, vR 36), (1, vI p1), (2, vI p2), (3, vI p3), (4, vI p4)]) dX8_addLabel_97 (by decide) rfl ?_
      refine s_lv hG [1, 2, 3, 4, 0] rfl ?_
      exact hb99 _ _
    · refine s_iconst hG (v := (0 : Int32)) dX8_addLabel_60 (by decide) ?_
      exact s_riC hR dX8_addLabel_61
  have hb49 : ∀ (S : HS), f_X8_addLabel_b49 p1 p2 p3 p4 S  = some out → G 0 0 S [(0, vR 36), (1, vI p1), (2, vI p2), (3, vI p3), (4, vI p4)] 49 [vR 36] := by
    intro S
    unfold f_X8_addLabel_b49
    refine s_iconst hG (v := (3 : Int32)) dX8_addLabel_49 (by decide) ?_
    refine s_goto hG (tgt := 54) dX8_addLabel_50 (by decide) ?_
    exact hb54 _ _
  unfold f_X8_addLabel
  refine s_aload_n hG dX8_addLabel_0 rfl ?_
  refine s_iload_n hG dX8_addLabel_1 rfl ?_
  refine s_csP hG (as := [vI p1]) (st := [vR 36]) (rm := rm_X8_isDrawer) dX8_addLabel_2 ml_RX8_179 (tb19 (mem_i 20 rfl)) rfl ⟨rfl, rfl⟩ ⟨by decide, by decide⟩ (Nat.le_of_ble_eq_true rfl) ⟨Nat.zero_le _, Nat.zero_le _⟩ rfl (fun o h => c_X8_isDrawer l _ _ o h) (fun o2 => ?_)
  refine s_if_ne hG (tgt := 12) dX8_addLabel_5 (by decide) ?_ ?_
  · refine s_iload_n hG dX8_addLabel_12 rfl ?_
    refine s_iload_n hG dX8_addLabel_13 rfl ?_
    refine s_csP hG (as := [vI p2, vI p3]) (st := [vR 36]) (rm := rm_X8_isPlace) dX8_addLabel_14 ml_RX8_173 (tb19 (mem_i 14 rfl)) rfl ⟨rfl, rfl⟩ ⟨by decide, by decide⟩ (Nat.le_of_ble_eq_true rfl) ⟨Nat.zero_le _, Nat.zero_le _⟩ rfl (fun o h => c_X8_isPlace l _ _ _ o h) (fun o14 => ?_)
    refine s_if_ne hG (tgt := 24) dX8_addLabel_17 (by decide) ?_ ?_
    · refine s_aload_n hG dX8_addLabel_24 rfl ?_
      refine s_getI hG dX8_addLabel_25 fl_RX8_97 (rfl) ?_
      refine s_if_eq hG (tgt := 49) dX8_addLabel_28 (by decide) ?_ ?_
      · exact hb49 _
      · refine s_aload_n hG dX8_addLabel_31 rfl ?_
        refine s_getI hG dX8_addLabel_32 fl_RX8_88 (rfl) ?_
        refine s_bipush hG (v := (10 : Int32)) dX8_addLabel_35 (by decide) ?_
        refine s_icmp_eq hG (tgt := 49) dX8_addLabel_37 (by decide) ?_ ?_
        · exact hb49 _
        · refine s_aload_n hG dX8_addLabel_40 rfl ?_
          refine s_getI hG dX8_addLabel_41 fl_RX8_94 (rfl) ?_
          refine s_bipush hG (v := (60 : Int32)) dX8_addLabel_44 (by decide) ?_
          refine s_icmp_ne hG (tgt := 53) dX8_addLabel_46 (by decide) ?_ ?_
          · refine s_iconst hG (v := (0 : Int32)) dX8_addLabel_53 (by decide) ?_
            exact hb54 _ _
          · exact hb49 _
    · refine s_iconst hG (v := (2 : Int32)) dX8_addLabel_20 (by decide) ?_
      refine s_goto hG (tgt := 54) dX8_addLabel_21 (by decide) ?_
      exact hb54 _ _
  · refine s_iconst hG (v := (1 : Int32)) dX8_addLabel_8 (by decide) ?_
    refine s_goto hG (tgt := 54) dX8_addLabel_9 (by decide) ?_
    exact hb54 _ _

def F_X8_ask_b51   (rec51 : HS × Int32 → Option (HS × Int32)) : HS × Int32 → Option (HS × Int32) := fun q => match q with
  | (S, x1) =>
    if (40 : Int32) ≤ x1 then
    some ((sI S 36 29 ((S.1 36 29) + (1 : Int32))), (((sI S 36 29 ((S.1 36 29) + (1 : Int32))).1 36 29) - (1 : Int32)))
    else
    if ib x1 (40) = true then
    if ib (((40 : Int32) * (S.1 36 29)) + x1) (400) = true then
    rec51 ((sI S 58 (((40 : Int32) * (S.1 36 29)) + x1).toNatClampNeg (S.1 53 x1.toNatClampNeg)), (x1 + (1 : Int32)))
    else none
    else none
def f_X8_ask_b51   (S : HS) (x1 : Int32) : Option (HS × Int32) := fx (F_X8_ask_b51 ) FU (S, x1)
def f_X8_ask_b15   (S : HS) (t1 : Int32) : Option (HS × Int32) :=
(f_X8_can t1 S).bind (fun o15 =>
if o15.2 = 0 then
some (o15.1, (0 : Int32))
else
if ib (o15.1.1 36 29) (10) = true then
if ib ((sI o15.1 57 (o15.1.1 36 29).toNatClampNeg (o15.1.1 36 20)).1 36 29) (10) = true then
f_X8_ask_b51   (sI (sI o15.1 57 (o15.1.1 36 29).toNatClampNeg (o15.1.1 36 20)) 59 ((sI o15.1 57 (o15.1.1 36 29).toNatClampNeg (o15.1.1 36 20)).1 36 29).toNatClampNeg ((sI o15.1 57 (o15.1.1 36 29).toNatClampNeg (o15.1.1 36 20)).1 36 22)) (0 : Int32)
else none
else none)
def f_X8_ask  (S : HS) : Option (HS × Int32) :=
if (S.1 36 29) = (10 : Int32) then
f_X8_ask_b15   S (1 : Int32)
else
f_X8_ask_b15   S (0 : Int32)
def rm_X8_ask : Room := { frames := 1, cells := 0, slots := 0, locals := 21 }
set_option maxRecDepth 100000 in
set_option maxHeartbeats 4000000 in
theorem c_X8_ask (l : Launch)   (S : HS) (out : HS × Int32) (h : f_X8_ask  S = some out) : Ct l yX8_ask cX8_ask 2 (some .int) rm_X8_ask [vR 36] S (some (vI out.2)) out.1 := by
  refine Ct.intro (own := RX8) (lv := [(0, vR 36)]) (by decide +kernel) rfl ⟨rfl, rfl⟩ rfl (Nat.le_of_ble_eq_true rfl) ?_
  intro G hG hR
  revert h
  have hb51 : ∀ (S : HS) (x1 : Int32), f_X8_ask_b51  S x1 = some out → G 0 0 S [(0, vR 36), (1, vI x1)] 51 [] := by
    intro  S x1
    unfold f_X8_ask_b51
    generalize FU = nf
    revert S x1
    induction nf with
    | zero => intro S x1 h9; cases h9
    | succ nf hrec51 =>
      intro S x1
      show F_X8_ask_b51  (fx (F_X8_ask_b51 ) nf) (S, x1) = some out → _
      generalize fx (F_X8_ask_b51 ) nf = rec51 at hrec51
      unfold F_X8_ask_b51
      dsimp only
      refine s_iload_n hG dX8_ask_51 rfl ?_
      refine s_bipush hG (v := (40 : Int32)) dX8_ask_52 (by decide) ?_
      refine s_icmp_ge hG (tgt := 83) dX8_ask_54 (by decide) ?_ ?_
      · refine s_aload_n hG dX8_ask_83 rfl ?_
        refine s_dup hG dX8_ask_84 rfl ?_
        refine s_getI hG dX8_ask_85 fl_RX8_215 (rfl) ?_
        refine s_iconst hG (v := (1 : Int32)) dX8_ask_88 (by decide) ?_
        refine s_iadd hG dX8_ask_89 ?_
        refine s_putI hG dX8_ask_90 fl_RX8_215 fp_8_29 (rfl) ⟨rfl, rfl⟩ ?_
        refine s_aload_n hG dX8_ask_93 rfl ?_
        refine s_getI hG dX8_ask_94 fl_RX8_215 (rfl) ?_
        refine s_iconst hG (v := (1 : Int32)) dX8_ask_97 (by decide) ?_
        refine s_isub hG dX8_ask_98 ?_
        exact s_riC hR dX8_ask_99
      · refine s_aload_n hG dX8_ask_57 rfl ?_
        refine s_getC hG dX8_ask_58 fl_RX8_74 (rfl) ?_
        refine s_bipush hG (v := (40 : Int32)) dX8_ask_61 (by decide) ?_
        refine s_aload_n hG dX8_ask_63 rfl ?_
        refine s_getI hG dX8_ask_64 fl_RX8_215 (rfl) ?_
        refine s_imul hG dX8_ask_67 ?_
        refine s_iload_n hG dX8_ask_68 rfl ?_
        refine s_iadd hG dX8_ask_69 ?_
        refine s_aload_n hG dX8_ask_70 rfl ?_
        refine s_getC hG dX8_ask_71 fl_RX8_59 (rfl) ?_
        refine s_iload_n hG dX8_ask_74 rfl ?_
        refine s_iaload hG dX8_ask_75 (rfl) ?_
        refine s_iastore hG dX8_ask_76 (rfl) ?_
        refine s_iinc hG (v := (x1 + (1 : Int32))) (lv' := [(1, vI (x1 + (1 : Int32))), (0, vR 36)]) dX8_ask_77 rfl rfl (by decide) rfl ?_
        refine s_goto hG (tgt := 51) dX8_ask_80 (by decide) ?_
        refine s_lv hG [1, 0] rfl ?_
        exact hrec51 _ _
  have hb15 : ∀ (S : HS) (t1 : Int32), f_X8_ask_b15  S t1 = some out → G 0 0 S [(0, vR 36)] 15 [vI t1, vR 36] := by
    intro S t1
    unfold f_X8_ask_b15
    refine s_cvI hG (as := [vI t1]) (st := []) (rm := rm_X8_can) dX8_ask_15 ml_RX8_100 (rfl) (tb19 (mem_i 3 rfl)) rfl ⟨rfl, rfl⟩ ⟨by decide, by decide⟩ (Nat.le_of_ble_eq_true rfl) ⟨Nat.zero_le _, Nat.zero_le _⟩ rfl (fun o h => c_X8_can l _ _ o h) (fun o15 => ?_)
    refine s_if_ne hG (tgt := 23) dX8_ask_18 (by decide) ?_ ?_
    · refine s_aload_n hG dX8_ask_23 rfl ?_
      refine s_getC hG dX8_ask_24 fl_RX8_71 (rfl) ?_
      refine s_aload_n hG dX8_ask_27 rfl ?_
      refine s_getI hG dX8_ask_28 fl_RX8_215 (rfl) ?_
      refine s_aload_n hG dX8_ask_31 rfl ?_
      refine s_getI hG dX8_ask_32 fl_RX8_142 (rfl) ?_
      refine s_iastore hG dX8_ask_35 (rfl) ?_
      refine s_aload_n hG dX8_ask_36 rfl ?_
      refine s_getC hG dX8_ask_37 fl_RX8_77 (rfl) ?_
      refine s_aload_n hG dX8_ask_40 rfl ?_
      refine s_getI hG dX8_ask_41 fl_RX8_215 (rfl) ?_
      refine s_aload_n hG dX8_ask_44 rfl ?_
      refine s_getI hG dX8_ask_45 fl_RX8_145 (rfl) ?_
      refine s_iastore hG dX8_ask_48 (rfl) ?_
      refine s_iconst hG (v := (0 : Int32)) dX8_ask_49 (by decide) ?_
      refine s_istore_n hG (lv' := [(1, vI (0 : Int32)), (0, vR 36)]) dX8_ask_50 (by decide) rfl ?_
      refine s_lv hG [1, 0] rfl ?_
      exact hb51 _ _
    · refine s_iconst hG (v := (0 : Int32)) dX8_ask_21 (by decide) ?_
      exact s_riC hR dX8_ask_22
  unfold f_X8_ask
  refine s_aload_n hG dX8_ask_0 rfl ?_
  refine s_aload_n hG dX8_ask_1 rfl ?_
  refine s_getI hG dX8_ask_2 fl_RX8_215 (rfl) ?_
  refine s_bipush hG (v := (10 : Int32)) dX8_ask_5 (by decide) ?_
  refine s_icmp_ne hG (tgt := 14) dX8_ask_7 (by decide) ?_ ?_
  · refine s_iconst hG (v := (0 : Int32)) dX8_ask_14 (by decide) ?_
    exact hb15 _ _
  · refine s_iconst hG (v := (1 : Int32)) dX8_ask_10 (by decide) ?_
    refine s_goto hG (tgt := 15) dX8_ask_11 (by decide) ?_
    exact hb15 _ _

def f_X8_back_b27 (p1 : Int32)  (S : HS) (t1 : Int32) : Option (HS × Int32) :=
(f_X8_can t1 S).bind (fun o27 =>
if o27.2 = 0 then
some (o27.1, (0 : Int32))
else
if ib p1 (4) = true then
if ib (o27.1.1 52 p1.toNatClampNeg) (60) = true then
if ib p1 (4) = true then
(f_X8_doesAnew (sI o27.1 52 p1.toNatClampNeg (o27.1.1 47 (o27.1.1 52 p1.toNatClampNeg).toNatClampNeg))).bind (fun o53 =>
some (o53.1, o53.2))
else none
else none
else none)
def f_X8_back (p1 : Int32) (S : HS) : Option (HS × Int32) :=
(f_X8_isDrawer p1 S).bind (fun o2 =>
if o2 = 0 then
f_X8_back_b27 p1  S (1 : Int32)
else
if ib p1 (4) = true then
if (S.1 52 p1.toNatClampNeg) = (-1 : Int32) then
f_X8_back_b27 p1  S (2 : Int32)
else
f_X8_back_b27 p1  S (0 : Int32)
else none)
def rm_X8_back : Room := { frames := 6, cells := 0, slots := 0, locals := 152 }
set_option maxRecDepth 100000 in
set_option maxHeartbeats 4000000 in
theorem c_X8_back (l : Launch) (p1 : Int32)  (S : HS) (out : HS × Int32) (h : f_X8_back p1 S = some out) : Ct l yX8_back cX8_back 2 (some .int) rm_X8_back [vR 36, vI p1] S (some (vI out.2)) out.1 := by
  refine Ct.intro (own := RX8) (lv := [(0, vR 36), (1, vI p1)]) (by decide +kernel) rfl ⟨rfl, rfl⟩ rfl (Nat.le_of_ble_eq_true rfl) ?_
  intro G hG hR
  revert h
  have hb27 : ∀ (S : HS) (t1 : Int32), f_X8_back_b27 p1 S t1 = some out → G 0 0 S [(0, vR 36), (1, vI p1)] 27 [vI t1, vR 36] := by
    intro S t1
    unfold f_X8_back_b27
    refine s_cvI hG (as := [vI t1]) (st := []) (rm := rm_X8_can) dX8_back_27 ml_RX8_100 (rfl) (tb19 (mem_i 3 rfl)) rfl ⟨rfl, rfl⟩ ⟨by decide, by decide⟩ (Nat.le_of_ble_eq_true rfl) ⟨Nat.zero_le _, Nat.zero_le _⟩ rfl (fun o h => c_X8_can l _ _ o h) (fun o27 => ?_)
    refine s_if_ne hG (tgt := 35) dX8_back_30 (by decide) ?_ ?_
    · refine s_aload_n hG dX8_back_35 rfl ?_
      refine s_getC hG dX8_back_36 fl_RX8_56 (rfl) ?_
      refine s_iload_n hG dX8_back_39 rfl ?_
      refine s_aload_n hG dX8_back_40 rfl ?_
      refine s_getC hG dX8_back_41 fl_RX8_41 (rfl) ?_
      refine s_aload_n hG dX8_back_44 rfl ?_
      refine s_getC hG dX8_back_45 fl_RX8_56 (rfl) ?_
      refine s_iload_n hG dX8_back_48 rfl ?_
      refine s_iaload hG dX8_back_49 (rfl) ?_
      refine s_iaload hG dX8_back_50 (rfl) ?_
      refine s_iastore hG dX8_back_51 (rfl) ?_
      refine s_aload_n hG dX8_back_52 rfl ?_
      refine s_cvI hG (as := []) (st := []) (rm := rm_X8_doesAnew) dX8_back_53 ml_RX8_203 (rfl) (tb22 (mem_i 17 rfl)) rfl ⟨rfl, rfl⟩ ⟨by decide, by decide⟩ (Nat.le_of_ble_eq_true rfl) ⟨Nat.zero_le _, Nat.zero_le _⟩ rfl (fun o h => c_X8_doesAnew l  _ o h) (fun o53 => ?_)
      exact s_riC hR dX8_back_56
    · refine s_iconst hG (v := (0 : Int32)) dX8_back_33 (by decide) ?_
      exact s_riC hR dX8_back_34
  unfold f_X8_back
  refine s_aload_n hG dX8_back_0 rfl ?_
  refine s_iload_n hG dX8_back_1 rfl ?_
  refine s_csP hG (as := [vI p1]) (st := [vR 36]) (rm := rm_X8_isDrawer) dX8_back_2 ml_RX8_179 (tb19 (mem_i 20 rfl)) rfl ⟨rfl, rfl⟩ ⟨by decide, by decide⟩ (Nat.le_of_ble_eq_true rfl) ⟨Nat.zero_le _, Nat.zero_le _⟩ rfl (fun o h => c_X8_isDrawer l _ _ o h) (fun o2 => ?_)
  refine s_if_ne hG (tgt := 12) dX8_back_5 (by decide) ?_ ?_
  · refine s_aload_n hG dX8_back_12 rfl ?_
    refine s_getC hG dX8_back_13 fl_RX8_56 (rfl) ?_
    refine s_iload_n hG dX8_back_16 rfl ?_
    refine s_iaload hG dX8_back_17 (rfl) ?_
    refine s_iconst hG (v := (-1 : Int32)) dX8_back_18 (by decide) ?_
    refine s_icmp_ne hG (tgt := 26) dX8_back_19 (by decide) ?_ ?_
    · refine s_iconst hG (v := (0 : Int32)) dX8_back_26 (by decide) ?_
      exact hb27 _ _
    · refine s_iconst hG (v := (2 : Int32)) dX8_back_22 (by decide) ?_
      refine s_goto hG (tgt := 27) dX8_back_23 (by decide) ?_
      exact hb27 _ _
  · refine s_iconst hG (v := (1 : Int32)) dX8_back_8 (by decide) ?_
    refine s_goto hG (tgt := 27) dX8_back_9 (by decide) ?_
    exact hb27 _ _

def f_X8_below_b138 (p1 : Int32)  (S : HS) (t0 : Int32) : Option (HS × Int32) :=
some (S, t0)
def f_X8_below_b127 (p1 : Int32)  (S : HS) (x2 : Int32) (t1 : Int32) : Option (HS × Int32) :=
(f_X8_can t1 S).bind (fun o127 =>
if o127.2 = 0 then
f_X8_below_b138 p1  o127.1 (0 : Int32)
else
f_X8_below_b138 p1  o127.1 x2)
def f_X8_below_b114 (p1 : Int32)  (S : HS) (x2 : Int32) : Option (HS × Int32) :=
(f_X8_isDrawer p1 S).bind (fun o116 =>
if o116 = 0 then
f_X8_below_b127 p1  S x2 (1 : Int32)
else
f_X8_below_b127 p1  S x2 (0 : Int32))
def f_X8_below_b106 (p1 : Int32) (rec4 : HS × Int32 × Int32 → Option (HS × Int32)) (S : HS) (x3 : Int32) (t0 : Int32) (t1 : Int32) : Option (HS × Int32) :=
rec4 (S, (t0 + t1), (x3 + (1 : Int32)))
def f_X8_below_b105 (p1 : Int32) (rec4 : HS × Int32 × Int32 → Option (HS × Int32)) (S : HS) (x3 : Int32) (t0 : Int32) : Option (HS × Int32) :=
f_X8_below_b106 p1 rec4 S x3 t0 (0 : Int32)
def f_X8_below_b71 (p1 : Int32) (rec4 : HS × Int32 × Int32 → Option (HS × Int32)) (rec44 : HS × Int32 × Int32 × Int32 × Int32 → Option (HS × Int32)) (S : HS) (x2 : Int32) (x3 : Int32) (x5 : Int32) (t0 : Int32) : Option (HS × Int32) :=
if ib x5 (60) = true then
rec44 (S, x2, x3, t0, (S.1 47 x5.toNatClampNeg))
else none
def f_X8_below_b66 (p1 : Int32) (rec4 : HS × Int32 × Int32 → Option (HS × Int32)) (rec44 : HS × Int32 × Int32 × Int32 × Int32 → Option (HS × Int32)) (S : HS) (x2 : Int32) (x3 : Int32) (x5 : Int32) : Option (HS × Int32) :=
f_X8_below_b71 p1 rec4 rec44 S x2 x3 x5 (1 : Int32)
def F_X8_below_b44 (p1 : Int32) (rec4 : HS × Int32 × Int32 → Option (HS × Int32)) (rec44 : HS × Int32 × Int32 × Int32 × Int32 → Option (HS × Int32)) : HS × Int32 × Int32 × Int32 × Int32 → Option (HS × Int32) := fun q => match q with
  | (S, x2, x3, x4, x5) =>
    if x5 = (-1 : Int32) then
    if ib x3 (60) = true then
    if (S.1 46 x3.toNatClampNeg) = p1 then
    if x4 = 0 then
    f_X8_below_b105 p1 rec4 S x3 x2
    else
    f_X8_below_b106 p1 rec4 S x3 x2 (1 : Int32)
    else
    f_X8_below_b105 p1 rec4 S x3 x2
    else none
    else
    if x4 = 0 then
    if ib p1 (4) = true then
    if x5 = (S.1 52 p1.toNatClampNeg) then
    f_X8_below_b66 p1 rec4 rec44 S x2 x3 x5
    else
    f_X8_below_b71 p1 rec4 rec44 S x2 x3 x5 (0 : Int32)
    else none
    else
    f_X8_below_b66 p1 rec4 rec44 S x2 x3 x5
def f_X8_below_b44 (p1 : Int32) (rec4 : HS × Int32 × Int32 → Option (HS × Int32)) (S : HS) (x2 : Int32) (x3 : Int32) (x4 : Int32) (x5 : Int32) : Option (HS × Int32) := fx (F_X8_below_b44 p1 rec4) FU (S, x2, x3, x4, x5)
def f_X8_below_b34 (p1 : Int32) (rec4 : HS × Int32 × Int32 → Option (HS × Int32)) (S : HS) (x2 : Int32) (x3 : Int32) (t0 : Int32) : Option (HS × Int32) :=
if ib x3 (60) = true then
f_X8_below_b44 p1 rec4 S x2 x3 t0 (S.1 47 x3.toNatClampNeg)
else none
def F_X8_below_b4 (p1 : Int32)  (rec4 : HS × Int32 × Int32 → Option (HS × Int32)) : HS × Int32 × Int32 → Option (HS × Int32) := fun q => match q with
  | (S, x2, x3) =>
    if (S.1 36 12) ≤ x3 then
    f_X8_below_b114 p1  S x2
    else
    (f_X8_isDrawer p1 S).bind (fun o13 =>
    if o13 = 0 then
    f_X8_below_b114 p1  S x2
    else
    if ib p1 (4) = true then
    if (S.1 52 p1.toNatClampNeg) = (-1 : Int32) then
    f_X8_below_b34 p1 rec4 S x2 x3 (1 : Int32)
    else
    f_X8_below_b34 p1 rec4 S x2 x3 (0 : Int32)
    else none)
def f_X8_below_b4 (p1 : Int32)  (S : HS) (x2 : Int32) (x3 : Int32) : Option (HS × Int32) := fx (F_X8_below_b4 p1) FU (S, x2, x3)
def f_X8_below (p1 : Int32) (S : HS) : Option (HS × Int32) :=
f_X8_below_b4 p1  S (0 : Int32) (0 : Int32)
def rm_X8_below : Room := { frames := 2, cells := 0, slots := 0, locals := 42 }
set_option maxRecDepth 100000 in
set_option maxHeartbeats 4000000 in
theorem c_X8_below (l : Launch) (p1 : Int32)  (S : HS) (out : HS × Int32) (h : f_X8_below p1 S = some out) : Ct l yX8_below cX8_below 6 (some .int) rm_X8_below [vR 36, vI p1] S (some (vI out.2)) out.1 := by
  refine Ct.intro (own := RX8) (lv := [(0, vR 36), (1, vI p1)]) (by decide +kernel) rfl ⟨rfl, rfl⟩ rfl (Nat.le_of_ble_eq_true rfl) ?_
  intro G hG hR
  revert h
  have hb138 : ∀ (S : HS) (t0 : Int32), f_X8_below_b138 p1 S t0 = some out → G 0 0 S [] 138 [vI t0] := by
    intro S t0
    unfold f_X8_below_b138
    exact s_riC hR dX8_below_138
  have hb127 : ∀ (S : HS) (x2 : Int32) (t1 : Int32), f_X8_below_b127 p1 S x2 t1 = some out → G 0 0 S [(2, vI x2)] 127 [vI t1, vR 36] := by
    intro S x2 t1
    unfold f_X8_below_b127
    refine s_cvI hG (as := [vI t1]) (st := []) (rm := rm_X8_can) dX8_below_127 ml_RX8_100 (rfl) (tb19 (mem_i 3 rfl)) rfl ⟨rfl, rfl⟩ ⟨by decide, by decide⟩ (Nat.le_of_ble_eq_true rfl) ⟨Nat.zero_le _, Nat.zero_le _⟩ rfl (fun o h => c_X8_can l _ _ o h) (fun o127 => ?_)
    refine s_if_eq hG (tgt := 137) dX8_below_130 (by decide) ?_ ?_
    · refine s_iconst hG (v := (0 : Int32)) dX8_below_137 (by decide) ?_
      refine s_lv hG [] rfl ?_
      exact hb138 _ _
    · refine s_iload_n hG dX8_below_133 rfl ?_
      refine s_goto hG (tgt := 138) dX8_below_134 (by decide) ?_
      refine s_lv hG [] rfl ?_
      exact hb138 _ _
  have hb114 : ∀ (S : HS) (x2 : Int32), f_X8_below_b114 p1 S x2 = some out → G 0 0 S [(0, vR 36), (1, vI p1), (2, vI x2)] 114 [] := by
    intro S x2
    unfold f_X8_below_b114
    refine s_aload_n hG dX8_below_114 rfl ?_
    refine s_iload_n hG dX8_below_115 rfl ?_
    refine s_csP hG (as := [vI p1]) (st := [vR 36]) (rm := rm_X8_isDrawer) dX8_below_116 ml_RX8_179 (tb19 (mem_i 20 rfl)) rfl ⟨rfl, rfl⟩ ⟨by decide, by decide⟩ (Nat.le_of_ble_eq_true rfl) ⟨Nat.zero_le _, Nat.zero_le _⟩ rfl (fun o h => c_X8_isDrawer l _ _ o h) (fun o116 => ?_)
    refine s_if_eq hG (tgt := 126) dX8_below_119 (by decide) ?_ ?_
    · refine s_iconst hG (v := (1 : Int32)) dX8_below_126 (by decide) ?_
      refine s_lv hG [2] rfl ?_
      exact hb127 _ _ _
    · refine s_iconst hG (v := (0 : Int32)) dX8_below_122 (by decide) ?_
      refine s_goto hG (tgt := 127) dX8_below_123 (by decide) ?_
      refine s_lv hG [2] rfl ?_
      exact hb127 _ _ _
  have hb106 : ∀ (rec4 : HS × Int32 × Int32 → Option (HS × Int32)) (hrec4 : ∀ (S : HS) (x2 : Int32) (x3 : Int32), rec4 (S, x2, x3) = some out → G 0 0 S [(0, vR 36), (1, vI p1), (2, vI x2), (3, vI x3)] 4 []) (S : HS) (x3 : Int32) (t0 : Int32) (t1 : Int32), f_X8_below_b106 p1 rec4 S x3 t0 t1 = some out → G 0 0 S [(0, vR 36), (1, vI p1), (3, vI x3)] 106 [vI t1, vI t0] := by
    intro rec4 hrec4 S x3 t0 t1
    unfold f_X8_below_b106
    refine s_iadd hG dX8_below_106 ?_
    refine s_istore_n hG (lv' := [(2, vI (t0 + t1)), (0, vR 36), (1, vI p1), (3, vI x3)]) dX8_below_107 (by decide) rfl ?_
    refine s_iinc hG (v := (x3 + (1 : Int32))) (lv' := [(3, vI (x3 + (1 : Int32))), (2, vI (t0 + t1)), (0, vR 36), (1, vI p1)]) dX8_below_108 rfl rfl (by decide) rfl ?_
    refine s_goto hG (tgt := 4) dX8_below_111 (by decide) ?_
    refine s_lv hG [2, 3, 1, 0] rfl ?_
    exact hrec4 _ _ _
  have hb105 : ∀ (rec4 : HS × Int32 × Int32 → Option (HS × Int32)) (hrec4 : ∀ (S : HS) (x2 : Int32) (x3 : Int32), rec4 (S, x2, x3) = some out → G 0 0 S [(0, vR 36), (1, vI p1), (2, vI x2), (3, vI x3)] 4 []) (S : HS) (x3 : Int32) (t0 : Int32), f_X8_below_b105 p1 rec4 S x3 t0 = some out → G 0 0 S [(0, vR 36), (1, vI p1), (3, vI x3)] 105 [vI t0] := by
    intro rec4 hrec4 S x3 t0
    unfold f_X8_below_b105
    refine s_iconst hG (v := (0 : Int32)) dX8_below_105 (by decide) ?_
    exact hb106 _ hrec4 _ _ _ _
  have hb71 : ∀ (rec4 : HS × Int32 × Int32 → Option (HS × Int32)) (hrec4 : ∀ (S : HS) (x2 : Int32) (x3 : Int32), rec4 (S, x2, x3) = some out → G 0 0 S [(0, vR 36), (1, vI p1), (2, vI x2), (3, vI x3)] 4 []) (rec44 : HS × Int32 × Int32 × Int32 × Int32 → Option (HS × Int32)) (hrec44 : ∀ (S : HS) (x2 : Int32) (x3 : Int32) (x4 : Int32) (x5 : Int32), rec44 (S, x2, x3, x4, x5) = some out → G 0 0 S [(0, vR 36), (1, vI p1), (2, vI x2), (3, vI x3), (4, vI x4), (5, vI x5)] 44 []) (S : HS) (x2 : Int32) (x3 : Int32) (x5 : Int32) (t0 : Int32), f_X8_below_b71 p1 rec4 rec44 S x2 x3 x5 t0 = some out → G 0 0 S [(0, vR 36), (1, vI p1), (2, vI x2), (3, vI x3), (5, vI x5)] 71 [vI t0] := by
    intro rec4 hrec4 rec44 hrec44 S x2 x3 x5 t0
    unfold f_X8_below_b71
    refine s_istore hG (lv' := [(4, vI t0), (0, vR 36), (1, vI p1), (2, vI x2), (3, vI x3), (5, vI x5)]) dX8_below_71 (by decide) rfl ?_
    refine s_aload_n hG dX8_below_73 rfl ?_
    refine s_getC hG dX8_below_74 fl_RX8_41 (rfl) ?_
    refine s_iload hG dX8_below_77 rfl ?_
    refine s_iaload hG dX8_below_79 (rfl) ?_
    refine s_istore hG (lv' := [(5, vI (S.1 47 x5.toNatClampNeg)), (4, vI t0), (0, vR 36), (1, vI p1), (2, vI x2), (3, vI x3)]) dX8_below_80 (by decide) rfl ?_
    refine s_goto hG (tgt := 44) dX8_below_82 (by decide) ?_
    refine s_lv hG [2, 3, 4, 5, 1, 0] rfl ?_
    exact hrec44 _ _ _ _ _
  have hb66 : ∀ (rec4 : HS × Int32 × Int32 → Option (HS × Int32)) (hrec4 : ∀ (S : HS) (x2 : Int32) (x3 : Int32), rec4 (S, x2, x3) = some out → G 0 0 S [(0, vR 36), (1, vI p1), (2, vI x2), (3, vI x3)] 4 []) (rec44 : HS × Int32 × Int32 × Int32 × Int32 → Option (HS × Int32)) (hrec44 : ∀ (S : HS) (x2 : Int32) (x3 : Int32) (x4 : Int32) (x5 : Int32), rec44 (S, x2, x3, x4, x5) = some out → G 0 0 S [(0, vR 36), (1, vI p1), (2, vI x2), (3, vI x3), (4, vI x4), (5, vI x5)] 44 []) (S : HS) (x2 : Int32) (x3 : Int32) (x5 : Int32), f_X8_below_b66 p1 rec4 rec44 S x2 x3 x5 = some out → G 0 0 S [(0, vR 36), (1, vI p1), (2, vI x2), (3, vI x3), (5, vI x5)] 66 [] := by
    intro rec4 hrec4 rec44 hrec44 S x2 x3 x5
    unfold f_X8_below_b66
    refine s_iconst hG (v := (1 : Int32)) dX8_below_66 (by decide) ?_
    refine s_goto hG (tgt := 71) dX8_below_67 (by decide) ?_
    exact hb71 _ hrec4 _ hrec44 _ _ _ _ _
  have hb44 : ∀ (rec4 : HS × Int32 × Int32 → Option (HS × Int32)) (hrec4 : ∀ (S : HS) (x2 : Int32) (x3 : Int32), rec4 (S, x2, x3) = some out → G 0 0 S [(0, vR 36), (1, vI p1), (2, vI x2), (3, vI x3)] 4 []) (S : HS) (x2 : Int32) (x3 : Int32) (x4 : Int32) (x5 : Int32), f_X8_below_b44 p1 rec4 S x2 x3 x4 x5 = some out → G 0 0 S [(0, vR 36), (1, vI p1), (2, vI x2), (3, vI x3), (4, vI x4), (5, vI x5)] 44 [] := by
    intro rec4 hrec4 S x2 x3 x4 x5
    unfold f_X8_below_b44
    generalize FU = nf
    revert S x2 x3 x4 x5
    induction nf with
    | zero => intro S x2 x3 x4 x5 h9; cases h9
    | succ nf hrec44 =>
      intro S x2 x3 x4 x5
      show F_X8_below_b44 p1 rec4 (fx (F_X8_below_b44 p1 rec4) nf) (S, x2, x3, x4, x5) = some out → _
      generalize fx (F_X8_below_b44 p1 rec4) nf = rec44 at hrec44
      unfold F_X8_below_b44
      dsimp only
      refine s_iload hG dX8_below_44 rfl ?_
      refine s_iconst hG (v := (-1 : Int32)) dX8_below_46 (by decide) ?_
      refine s_icmp_eq hG (tgt := 85) dX8_below_47 (by decide) ?_ ?_
      · refine s_iload_n hG dX8_below_85 rfl ?_
        refine s_aload_n hG dX8_below_86 rfl ?_
        refine s_getC hG dX8_below_87 fl_RX8_38 (rfl) ?_
        refine s_iload_n hG dX8_below_90 rfl ?_
        refine s_iaload hG dX8_below_91 (rfl) ?_
        refine s_iload_n hG dX8_below_92 rfl ?_
        refine s_icmp_ne hG (tgt := 105) dX8_below_93 (by decide) ?_ ?_
        · refine s_lv hG [0, 1, 3] rfl ?_
          exact hb105 _ hrec4 _ _ _
        · refine s_iload hG dX8_below_96 rfl ?_
          refine s_if_eq hG (tgt := 105) dX8_below_98 (by decide) ?_ ?_
          · refine s_lv hG [0, 1, 3] rfl ?_
            exact hb105 _ hrec4 _ _ _
          · refine s_iconst hG (v := (1 : Int32)) dX8_below_101 (by decide) ?_
            refine s_goto hG (tgt := 106) dX8_below_102 (by decide) ?_
            refine s_lv hG [0, 1, 3] rfl ?_
            exact hb106 _ hrec4 _ _ _ _
      · refine s_iload hG dX8_below_50 rfl ?_
        refine s_if_ne hG (tgt := 66) dX8_below_52 (by decide) ?_ ?_
        · refine s_lv hG [0, 1, 2, 3, 5] rfl ?_
          exact hb66 _ hrec4 _ hrec44 _ _ _ _
        · refine s_iload hG dX8_below_55 rfl ?_
          refine s_aload_n hG dX8_below_57 rfl ?_
          refine s_getC hG dX8_below_58 fl_RX8_56 (rfl) ?_
          refine s_iload_n hG dX8_below_61 rfl ?_
          refine s_iaload hG dX8_below_62 (rfl) ?_
          refine s_icmp_ne hG (tgt := 70) dX8_below_63 (by decide) ?_ ?_
          · refine s_iconst hG (v := (0 : Int32)) dX8_below_70 (by decide) ?_
            refine s_lv hG [0, 1, 2, 3, 5] rfl ?_
            exact hb71 _ hrec4 _ hrec44 _ _ _ _ _
          · refine s_lv hG [0, 1, 2, 3, 5] rfl ?_
            exact hb66 _ hrec4 _ hrec44 _ _ _ _
  have hb34 : ∀ (rec4 : HS × Int32 × Int32 → Option (HS × Int32)) (hrec4 : ∀ (S : HS) (x2 : Int32) (x3 : Int32), rec4 (S, x2, x3) = some out → G 0 0 S [(0, vR 36), (1, vI p1), (2, vI x2), (3, vI x3)] 4 []) (S : HS) (x2 : Int32) (x3 : Int32) (t0 : Int32), f_X8_below_b34 p1 rec4 S x2 x3 t0 = some out → G 0 0 S [(0, vR 36), (1, vI p1), (2, vI x2), (3, vI x3)] 34 [vI t0] := by
    intro rec4 hrec4 S x2 x3 t0
    unfold f_X8_below_b34
    refine s_istore hG (lv' := [(4, vI t0), (0, vR 36), (1, vI p1), (2, vI x2), (3, vI x3)]) dX8_below_34 (by decide) rfl ?_
    refine s_aload_n hG dX8_below_36 rfl ?_
    refine s_getC hG dX8_below_37 fl_RX8_41 (rfl) ?_
    refine s_iload_n hG dX8_below_40 rfl ?_
    refine s_iaload hG dX8_below_41 (rfl) ?_
    refine s_istore hG (lv' := [(5, vI (S.1 47 x3.toNatClampNeg)), (4, vI t0), (0, vR 36), (1, vI p1), (2, vI x2), (3, vI x3)]) dX8_below_42 (by decide) rfl ?_
    refine s_lv hG [2, 3, 4, 5, 1, 0] rfl ?_
    exact hb44 _ hrec4 _ _ _ _ _
  have hb4 : ∀ (S : HS) (x2 : Int32) (x3 : Int32), f_X8_below_b4 p1 S x2 x3 = some out → G 0 0 S [(0, vR 36), (1, vI p1), (2, vI x2), (3, vI x3)] 4 [] := by
    intro  S x2 x3
    unfold f_X8_below_b4
    generalize FU = nf
    revert S x2 x3
    induction nf with
    | zero => intro S x2 x3 h9; cases h9
    | succ nf hrec4 =>
      intro S x2 x3
      show F_X8_below_b4 p1 (fx (F_X8_below_b4 p1) nf) (S, x2, x3) = some out → _
      generalize fx (F_X8_below_b4 p1) nf = rec4 at hrec4
      unfold F_X8_below_b4
      dsimp only
      refine s_iload_n hG dX8_below_4 rfl ?_
      refine s_aload_n hG dX8_below_5 rfl ?_
      refine s_getI hG dX8_below_6 fl_RX8_94 (rfl) ?_
      refine s_icmp_ge hG (tgt := 114) dX8_below_9 (by decide) ?_ ?_
      · refine s_lv hG [0, 1, 2] rfl ?_
        exact hb114 _ _
      · refine s_iload_n hG dX8_below_12 rfl ?_
        refine s_csP hG (as := [vI p1]) (st := []) (rm := rm_X8_isDrawer) dX8_below_13 ml_RX8_179 (tb19 (mem_i 20 rfl)) rfl ⟨rfl, rfl⟩ ⟨by decide, by decide⟩ (Nat.le_of_ble_eq_true rfl) ⟨Nat.zero_le _, Nat.zero_le _⟩ rfl (fun o h => c_X8_isDrawer l _ _ o h) (fun o13 => ?_)
        refine s_if_eq hG (tgt := 114) dX8_below_16 (by decide) ?_ ?_
        · refine s_lv hG [0, 1, 2] rfl ?_
          exact hb114 _ _
        · refine s_aload_n hG dX8_below_19 rfl ?_
          refine s_getC hG dX8_below_20 fl_RX8_56 (rfl) ?_
          refine s_iload_n hG dX8_below_23 rfl ?_
          refine s_iaload hG dX8_below_24 (rfl) ?_
          refine s_iconst hG (v := (-1 : Int32)) dX8_below_25 (by decide) ?_
          refine s_icmp_ne hG (tgt := 33) dX8_below_26 (by decide) ?_ ?_
          · refine s_iconst hG (v := (0 : Int32)) dX8_below_33 (by decide) ?_
            exact hb34 _ hrec4 _ _ _ _
          · refine s_iconst hG (v := (1 : Int32)) dX8_below_29 (by decide) ?_
            refine s_goto hG (tgt := 34) dX8_below_30 (by decide) ?_
            exact hb34 _ hrec4 _ _ _ _
  unfold f_X8_below
  refine s_iconst hG (v := (0 : Int32)) dX8_below_0 (by decide) ?_
  refine s_istore_n hG (lv' := [(2, vI (0 : Int32)), (0, vR 36), (1, vI p1)]) dX8_below_1 (by decide) rfl ?_
  refine s_iconst hG (v := (0 : Int32)) dX8_below_2 (by decide) ?_
  refine s_istore_n hG (lv' := [(3, vI (0 : Int32)), (2, vI (0 : Int32)), (0, vR 36), (1, vI p1)]) dX8_below_3 (by decide) rfl ?_
  refine s_lv hG [2, 3, 1, 0] rfl ?_
  exact hb4 _ _ _

def f_X8_branchOf_b60 (p1 : Int32) (p2 : Int32) (rec8 : Int32 × Int32 × Int32 → Option (Int32)) (S : HS) (x3 : Int32) (x4 : Int32) (x5 : Int32) : Option (Int32) :=
rec8 (x3, x4, (x5 + (1 : Int32)))
def f_X8_branchOf_b55 (p1 : Int32) (p2 : Int32) (rec8 : Int32 × Int32 × Int32 → Option (Int32)) (S : HS) (x3 : Int32) (x5 : Int32) (t0 : Int32) : Option (Int32) :=
f_X8_branchOf_b60 p1 p2 rec8 S (x3 + (-1 : Int32)) t0 x5
def F_X8_branchOf_b8 (p1 : Int32) (p2 : Int32)  (S : HS) (rec8 : Int32 × Int32 × Int32 → Option (Int32)) : Int32 × Int32 × Int32 → Option (Int32) := fun q => match q with
  | (x3, x4, x5) =>
    if (S.1 36 12) ≤ x5 then
    some x4
    else
    if ib x5 (60) = true then
    if (S.1 46 x5.toNatClampNeg) = p1 then
    if ib x5 (60) = true then
    if ib p1 (4) = true then
    if (S.1 47 x5.toNatClampNeg) = (S.1 52 p1.toNatClampNeg) then
    if x3 = 0 then
    f_X8_branchOf_b55 p1 p2 rec8 S x3 x5 x5
    else
    f_X8_branchOf_b55 p1 p2 rec8 S x3 x5 x4
    else
    f_X8_branchOf_b60 p1 p2 rec8 S x3 x4 x5
    else none
    else none
    else
    f_X8_branchOf_b60 p1 p2 rec8 S x3 x4 x5
    else none
def f_X8_branchOf_b8 (p1 : Int32) (p2 : Int32)  (S : HS) (x3 : Int32) (x4 : Int32) (x5 : Int32) : Option (Int32) := fx (F_X8_branchOf_b8 p1 p2 S) FU (x3, x4, x5)
def f_X8_branchOf (p1 : Int32) (p2 : Int32) (S : HS) : Option (Int32) :=
f_X8_branchOf_b8 p1 p2  S p2 (-1 : Int32) (0 : Int32)
def rm_X8_branchOf : Room := { frames := 0, cells := 0, slots := 0, locals := 0 }
set_option maxRecDepth 100000 in
set_option maxHeartbeats 4000000 in
theorem c_X8_branchOf (l : Launch) (p1 : Int32) (p2 : Int32)  (S : HS) (out : Int32) (h : f_X8_branchOf p1 p2 S = some out) : Ct l yX8_branchOf cX8_branchOf 6 (some .int) rm_X8_branchOf [vR 36, vI p1, vI p2] S (some (vI out)) S := by
  refine Ct.intro (own := RX8) (lv := [(0, vR 36), (1, vI p1), (2, vI p2)]) (by decide +kernel) rfl ⟨rfl, rfl⟩ rfl (Nat.le_of_ble_eq_true rfl) ?_
  intro G hG hR
  revert h
  have hb60 : ∀ (rec8 : Int32 × Int32 × Int32 → Option (Int32)) (hrec8 : ∀ (x3 : Int32) (x4 : Int32) (x5 : Int32), rec8 (x3, x4, x5) = some out → G 0 0 S [(0, vR 36), (1, vI p1), (3, vI x3), (4, vI x4), (5, vI x5)] 8 []) (x3 : Int32) (x4 : Int32) (x5 : Int32), f_X8_branchOf_b60 p1 p2 rec8 S x3 x4 x5 = some out → G 0 0 S [(0, vR 36), (1, vI p1), (3, vI x3), (4, vI x4), (5, vI x5)] 60 [] := by
    intro rec8 hrec8 x3 x4 x5
    unfold f_X8_branchOf_b60
    refine s_iinc hG (v := (x5 + (1 : Int32))) (lv' := [(5, vI (x5 + (1 : Int32))), (0, vR 36), (1, vI p1), (3, vI x3), (4, vI x4)]) dX8_branchOf_60 rfl rfl (by decide) rfl ?_
    refine s_goto hG (tgt := 8) dX8_branchOf_63 (by decide) ?_
    refine s_lv hG [1, 2, 3, 4, 0] rfl ?_
    exact hrec8 _ _ _
  have hb55 : ∀ (rec8 : Int32 × Int32 × Int32 → Option (Int32)) (hrec8 : ∀ (x3 : Int32) (x4 : Int32) (x5 : Int32), rec8 (x3, x4, x5) = some out → G 0 0 S [(0, vR 36), (1, vI p1), (3, vI x3), (4, vI x4), (5, vI x5)] 8 []) (x3 : Int32) (x5 : Int32) (t0 : Int32), f_X8_branchOf_b55 p1 p2 rec8 S x3 x5 t0 = some out → G 0 0 S [(0, vR 36), (1, vI p1), (3, vI x3), (5, vI x5)] 55 [vI t0] := by
    intro rec8 hrec8 x3 x5 t0
    unfold f_X8_branchOf_b55
    refine s_istore hG (lv' := [(4, vI t0), (0, vR 36), (1, vI p1), (3, vI x3), (5, vI x5)]) dX8_branchOf_55 (by decide) rfl ?_
    refine s_iinc hG (v := (x3 + (-1 : Int32))) (lv' := [(3, vI (x3 + (-1 : Int32))), (4, vI t0), (0, vR 36), (1, vI p1), (5, vI x5)]) dX8_branchOf_57 rfl rfl (by decide) rfl ?_
    refine s_lv hG [2, 3, 0, 1, 4] rfl ?_
    exact hb60 _ hrec8 _ _ _
  have hb8 : ∀ (x3 : Int32) (x4 : Int32) (x5 : Int32), f_X8_branchOf_b8 p1 p2 S x3 x4 x5 = some out → G 0 0 S [(0, vR 36), (1, vI p1), (3, vI x3), (4, vI x4), (5, vI x5)] 8 [] := by
    intro  x3 x4 x5
    unfold f_X8_branchOf_b8
    generalize FU = nf
    revert x3 x4 x5
    induction nf with
    | zero => intro x3 x4 x5 h9; cases h9
    | succ nf hrec8 =>
      intro x3 x4 x5
      show F_X8_branchOf_b8 p1 p2 S (fx (F_X8_branchOf_b8 p1 p2 S) nf) (x3, x4, x5) = some out → _
      generalize fx (F_X8_branchOf_b8 p1 p2 S) nf = rec8 at hrec8
      unfold F_X8_branchOf_b8
      dsimp only
      refine s_iload hG dX8_branchOf_8 rfl ?_
      refine s_aload_n hG dX8_branchOf_10 rfl ?_
      refine s_getI hG dX8_branchOf_11 fl_RX8_94 (rfl) ?_
      refine s_icmp_ge hG (tgt := 66) dX8_branchOf_14 (by decide) ?_ ?_
      · refine s_iload hG dX8_branchOf_66 rfl ?_
        exact s_riP hR dX8_branchOf_68
      · refine s_aload_n hG dX8_branchOf_17 rfl ?_
        refine s_getC hG dX8_branchOf_18 fl_RX8_38 (rfl) ?_
        refine s_iload hG dX8_branchOf_21 rfl ?_
        refine s_iaload hG dX8_branchOf_23 (rfl) ?_
        refine s_iload_n hG dX8_branchOf_24 rfl ?_
        refine s_icmp_ne hG (tgt := 60) dX8_branchOf_25 (by decide) ?_ ?_
        · exact hb60 _ hrec8 _ _ _
        · refine s_aload_n hG dX8_branchOf_28 rfl ?_
          refine s_getC hG dX8_branchOf_29 fl_RX8_41 (rfl) ?_
          refine s_iload hG dX8_branchOf_32 rfl ?_
          refine s_iaload hG dX8_branchOf_34 (rfl) ?_
          refine s_aload_n hG dX8_branchOf_35 rfl ?_
          refine s_getC hG dX8_branchOf_36 fl_RX8_56 (rfl) ?_
          refine s_iload_n hG dX8_branchOf_39 rfl ?_
          refine s_iaload hG dX8_branchOf_40 (rfl) ?_
          refine s_icmp_ne hG (tgt := 60) dX8_branchOf_41 (by decide) ?_ ?_
          · exact hb60 _ hrec8 _ _ _
          · refine s_iload_n hG dX8_branchOf_44 rfl ?_
            refine s_if_ne hG (tgt := 53) dX8_branchOf_45 (by decide) ?_ ?_
            · refine s_iload hG dX8_branchOf_53 rfl ?_
              refine s_lv hG [0, 1, 2, 4] rfl ?_
              exact hb55 _ hrec8 _ _ _
            · refine s_iload hG dX8_branchOf_48 rfl ?_
              refine s_goto hG (tgt := 55) dX8_branchOf_50 (by decide) ?_
              refine s_lv hG [0, 1, 2, 4] rfl ?_
              exact hb55 _ hrec8 _ _ _
  unfold f_X8_branchOf
  refine s_iload_n hG dX8_branchOf_0 rfl ?_
  refine s_istore_n hG (lv' := [(3, vI p2), (0, vR 36), (1, vI p1), (2, vI p2)]) dX8_branchOf_1 (by decide) rfl ?_
  refine s_iconst hG (v := (-1 : Int32)) dX8_branchOf_2 (by decide) ?_
  refine s_istore hG (lv' := [(4, vI (-1 : Int32)), (3, vI p2), (0, vR 36), (1, vI p1), (2, vI p2)]) dX8_branchOf_3 (by decide) rfl ?_
  refine s_iconst hG (v := (0 : Int32)) dX8_branchOf_5 (by decide) ?_
  refine s_istore hG (lv' := [(5, vI (0 : Int32)), (4, vI (-1 : Int32)), (3, vI p2), (0, vR 36), (1, vI p1), (2, vI p2)]) dX8_branchOf_6 (by decide) rfl ?_
  refine s_lv hG [3, 4, 2, 1, 0] rfl ?_
  exact hb8 _ _ _

def f_X8_branches_b82 (p1 : Int32)  (S : HS) (t0 : Int32) : Option (HS × Int32) :=
some (S, t0)
def f_X8_branches_b71 (p1 : Int32)  (S : HS) (x2 : Int32) (t1 : Int32) : Option (HS × Int32) :=
(f_X8_can t1 S).bind (fun o71 =>
if o71.2 = 0 then
f_X8_branches_b82 p1  o71.1 (0 : Int32)
else
f_X8_branches_b82 p1  o71.1 x2)
def f_X8_branches_b58 (p1 : Int32)  (S : HS) (x2 : Int32) : Option (HS × Int32) :=
(f_X8_isDrawer p1 S).bind (fun o60 =>
if o60 = 0 then
f_X8_branches_b71 p1  S x2 (1 : Int32)
else
f_X8_branches_b71 p1  S x2 (0 : Int32))
def f_X8_branches_b50 (p1 : Int32) (rec4 : HS × Int32 × Int32 → Option (HS × Int32)) (S : HS) (x3 : Int32) (t0 : Int32) (t1 : Int32) : Option (HS × Int32) :=
rec4 (S, (t0 + t1), (x3 + (1 : Int32)))
def f_X8_branches_b49 (p1 : Int32) (rec4 : HS × Int32 × Int32 → Option (HS × Int32)) (S : HS) (x3 : Int32) (t0 : Int32) : Option (HS × Int32) :=
f_X8_branches_b50 p1 rec4 S x3 t0 (0 : Int32)
def F_X8_branches_b4 (p1 : Int32)  (rec4 : HS × Int32 × Int32 → Option (HS × Int32)) : HS × Int32 × Int32 → Option (HS × Int32) := fun q => match q with
  | (S, x2, x3) =>
    if (S.1 36 12) ≤ x3 then
    f_X8_branches_b58 p1  S x2
    else
    (f_X8_isDrawer p1 S).bind (fun o13 =>
    if o13 = 0 then
    f_X8_branches_b58 p1  S x2
    else
    if ib x3 (60) = true then
    if (S.1 46 x3.toNatClampNeg) = p1 then
    if ib x3 (60) = true then
    if ib p1 (4) = true then
    if (S.1 47 x3.toNatClampNeg) = (S.1 52 p1.toNatClampNeg) then
    f_X8_branches_b50 p1 rec4 S x3 x2 (1 : Int32)
    else
    f_X8_branches_b49 p1 rec4 S x3 x2
    else none
    else none
    else
    f_X8_branches_b49 p1 rec4 S x3 x2
    else none)
def f_X8_branches_b4 (p1 : Int32)  (S : HS) (x2 : Int32) (x3 : Int32) : Option (HS × Int32) := fx (F_X8_branches_b4 p1) FU (S, x2, x3)
def f_X8_branches (p1 : Int32) (S : HS) : Option (HS × Int32) :=
f_X8_branches_b4 p1  S (0 : Int32) (0 : Int32)
def rm_X8_branches : Room := { frames := 2, cells := 0, slots := 0, locals := 42 }
set_option maxRecDepth 100000 in
set_option maxHeartbeats 4000000 in
theorem c_X8_branches (l : Launch) (p1 : Int32)  (S : HS) (out : HS × Int32) (h : f_X8_branches p1 S = some out) : Ct l yX8_branches cX8_branches 4 (some .int) rm_X8_branches [vR 36, vI p1] S (some (vI out.2)) out.1 := by
  refine Ct.intro (own := RX8) (lv := [(0, vR 36), (1, vI p1)]) (by decide +kernel) rfl ⟨rfl, rfl⟩ rfl (Nat.le_of_ble_eq_true rfl) ?_
  intro G hG hR
  revert h
  have hb82 : ∀ (S : HS) (t0 : Int32), f_X8_branches_b82 p1 S t0 = some out → G 0 0 S [] 82 [vI t0] := by
    intro S t0
    unfold f_X8_branches_b82
    exact s_riC hR dX8_branches_82
  have hb71 : ∀ (S : HS) (x2 : Int32) (t1 : Int32), f_X8_branches_b71 p1 S x2 t1 = some out → G 0 0 S [(2, vI x2)] 71 [vI t1, vR 36] := by
    intro S x2 t1
    unfold f_X8_branches_b71
    refine s_cvI hG (as := [vI t1]) (st := []) (rm := rm_X8_can) dX8_branches_71 ml_RX8_100 (rfl) (tb19 (mem_i 3 rfl)) rfl ⟨rfl, rfl⟩ ⟨by decide, by decide⟩ (Nat.le_of_ble_eq_true rfl) ⟨Nat.zero_le _, Nat.zero_le _⟩ rfl (fun o h => c_X8_can l _ _ o h) (fun o71 => ?_)
    refine s_if_eq hG (tgt := 81) dX8_branches_74 (by decide) ?_ ?_
    · refine s_iconst hG (v := (0 : Int32)) dX8_branches_81 (by decide) ?_
      refine s_lv hG [] rfl ?_
      exact hb82 _ _
    · refine s_iload_n hG dX8_branches_77 rfl ?_
      refine s_goto hG (tgt := 82) dX8_branches_78 (by decide) ?_
      refine s_lv hG [] rfl ?_
      exact hb82 _ _
  have hb58 : ∀ (S : HS) (x2 : Int32), f_X8_branches_b58 p1 S x2 = some out → G 0 0 S [(0, vR 36), (1, vI p1), (2, vI x2)] 58 [] := by
    intro S x2
    unfold f_X8_branches_b58
    refine s_aload_n hG dX8_branches_58 rfl ?_
    refine s_iload_n hG dX8_branches_59 rfl ?_
    refine s_csP hG (as := [vI p1]) (st := [vR 36]) (rm := rm_X8_isDrawer) dX8_branches_60 ml_RX8_179 (tb19 (mem_i 20 rfl)) rfl ⟨rfl, rfl⟩ ⟨by decide, by decide⟩ (Nat.le_of_ble_eq_true rfl) ⟨Nat.zero_le _, Nat.zero_le _⟩ rfl (fun o h => c_X8_isDrawer l _ _ o h) (fun o60 => ?_)
    refine s_if_eq hG (tgt := 70) dX8_branches_63 (by decide) ?_ ?_
    · refine s_iconst hG (v := (1 : Int32)) dX8_branches_70 (by decide) ?_
      refine s_lv hG [2] rfl ?_
      exact hb71 _ _ _
    · refine s_iconst hG (v := (0 : Int32)) dX8_branches_66 (by decide) ?_
      refine s_goto hG (tgt := 71) dX8_branches_67 (by decide) ?_
      refine s_lv hG [2] rfl ?_
      exact hb71 _ _ _
  have hb50 : ∀ (rec4 : HS × Int32 × Int32 → Option (HS × Int32)) (hrec4 : ∀ (S : HS) (x2 : Int32) (x3 : Int32), rec4 (S, x2, x3) = some out → G 0 0 S [(0, vR 36), (1, vI p1), (2, vI x2), (3, vI x3)] 4 []) (S : HS) (x3 : Int32) (t0 : Int32) (t1 : Int32), f_X8_branches_b50 p1 rec4 S x3 t0 t1 = some out → G 0 0 S [(0, vR 36), (1, vI p1), (3, vI x3)] 50 [vI t1, vI t0] := by
    intro rec4 hrec4 S x3 t0 t1
    unfold f_X8_branches_b50
    refine s_iadd hG dX8_branches_50 ?_
    refine s_istore_n hG (lv' := [(2, vI (t0 + t1)), (0, vR 36), (1, vI p1), (3, vI x3)]) dX8_branches_51 (by decide) rfl ?_
    refine s_iinc hG (v := (x3 + (1 : Int32))) (lv' := [(3, vI (x3 + (1 : Int32))), (2, vI (t0 + t1)), (0, vR 36), (1, vI p1)]) dX8_branches_52 rfl rfl (by decide) rfl ?_
    refine s_goto hG (tgt := 4) dX8_branches_55 (by decide) ?_
    refine s_lv hG [2, 3, 1, 0] rfl ?_
    exact hrec4 _ _ _
  have hb49 : ∀ (rec4 : HS × Int32 × Int32 → Option (HS × Int32)) (hrec4 : ∀ (S : HS) (x2 : Int32) (x3 : Int32), rec4 (S, x2, x3) = some out → G 0 0 S [(0, vR 36), (1, vI p1), (2, vI x2), (3, vI x3)] 4 []) (S : HS) (x3 : Int32) (t0 : Int32), f_X8_branches_b49 p1 rec4 S x3 t0 = some out → G 0 0 S [(0, vR 36), (1, vI p1), (3, vI x3)] 49 [vI t0] := by
    intro rec4 hrec4 S x3 t0
    unfold f_X8_branches_b49
    refine s_iconst hG (v := (0 : Int32)) dX8_branches_49 (by decide) ?_
    exact hb50 _ hrec4 _ _ _ _
  have hb4 : ∀ (S : HS) (x2 : Int32) (x3 : Int32), f_X8_branches_b4 p1 S x2 x3 = some out → G 0 0 S [(0, vR 36), (1, vI p1), (2, vI x2), (3, vI x3)] 4 [] := by
    intro  S x2 x3
    unfold f_X8_branches_b4
    generalize FU = nf
    revert S x2 x3
    induction nf with
    | zero => intro S x2 x3 h9; cases h9
    | succ nf hrec4 =>
      intro S x2 x3
      show F_X8_branches_b4 p1 (fx (F_X8_branches_b4 p1) nf) (S, x2, x3) = some out → _
      generalize fx (F_X8_branches_b4 p1) nf = rec4 at hrec4
      unfold F_X8_branches_b4
      dsimp only
      refine s_iload_n hG dX8_branches_4 rfl ?_
      refine s_aload_n hG dX8_branches_5 rfl ?_
      refine s_getI hG dX8_branches_6 fl_RX8_94 (rfl) ?_
      refine s_icmp_ge hG (tgt := 58) dX8_branches_9 (by decide) ?_ ?_
      · refine s_lv hG [0, 1, 2] rfl ?_
        exact hb58 _ _
      · refine s_iload_n hG dX8_branches_12 rfl ?_
        refine s_csP hG (as := [vI p1]) (st := []) (rm := rm_X8_isDrawer) dX8_branches_13 ml_RX8_179 (tb19 (mem_i 20 rfl)) rfl ⟨rfl, rfl⟩ ⟨by decide, by decide⟩ (Nat.le_of_ble_eq_true rfl) ⟨Nat.zero_le _, Nat.zero_le _⟩ rfl (fun o h => c_X8_isDrawer l _ _ o h) (fun o13 => ?_)
        refine s_if_eq hG (tgt := 58) dX8_branches_16 (by decide) ?_ ?_
        · refine s_lv hG [0, 1, 2] rfl ?_
          exact hb58 _ _
        · refine s_iload_n hG dX8_branches_19 rfl ?_
          refine s_aload_n hG dX8_branches_20 rfl ?_
          refine s_getC hG dX8_branches_21 fl_RX8_38 (rfl) ?_
          refine s_iload_n hG dX8_branches_24 rfl ?_
          refine s_iaload hG dX8_branches_25 (rfl) ?_
          refine s_iload_n hG dX8_branches_26 rfl ?_
          refine s_icmp_ne hG (tgt := 49) dX8_branches_27 (by decide) ?_ ?_
          · refine s_lv hG [0, 1, 3] rfl ?_
            exact hb49 _ hrec4 _ _ _
          · refine s_aload_n hG dX8_branches_30 rfl ?_
            refine s_getC hG dX8_branches_31 fl_RX8_41 (rfl) ?_
            refine s_iload_n hG dX8_branches_34 rfl ?_
            refine s_iaload hG dX8_branches_35 (rfl) ?_
            refine s_aload_n hG dX8_branches_36 rfl ?_
            refine s_getC hG dX8_branches_37 fl_RX8_56 (rfl) ?_
            refine s_iload_n hG dX8_branches_40 rfl ?_
            refine s_iaload hG dX8_branches_41 (rfl) ?_
            refine s_icmp_ne hG (tgt := 49) dX8_branches_42 (by decide) ?_ ?_
            · refine s_lv hG [0, 1, 3] rfl ?_
              exact hb49 _ hrec4 _ _ _
            · refine s_iconst hG (v := (1 : Int32)) dX8_branches_45 (by decide) ?_
              refine s_goto hG (tgt := 50) dX8_branches_46 (by decide) ?_
              refine s_lv hG [0, 1, 3] rfl ?_
              exact hb50 _ hrec4 _ _ _ _
  unfold f_X8_branches
  refine s_iconst hG (v := (0 : Int32)) dX8_branches_0 (by decide) ?_
  refine s_istore_n hG (lv' := [(2, vI (0 : Int32)), (0, vR 36), (1, vI p1)]) dX8_branches_1 (by decide) rfl ?_
  refine s_iconst hG (v := (0 : Int32)) dX8_branches_2 (by decide) ?_
  refine s_istore_n hG (lv' := [(3, vI (0 : Int32)), (2, vI (0 : Int32)), (0, vR 36), (1, vI p1)]) dX8_branches_3 (by decide) rfl ?_
  refine s_lv hG [2, 3, 1, 0] rfl ?_
  exact hb4 _ _ _

def f_X8_broken_b37  (rec9 : HS × Int32 × Int32 → Option (HS × Int32)) (S : HS) (x2 : Int32) (t0 : Int32) (t1 : Int32) : Option (HS × Int32) :=
rec9 (S, (t0 + t1), (x2 + (1 : Int32)))
def F_X8_broken_b9   (rec9 : HS × Int32 × Int32 → Option (HS × Int32)) : HS × Int32 × Int32 → Option (HS × Int32) := fun q => match q with
  | (S, x1, x2) =>
    if (S.1 36 7) ≤ x2 then
    some (S, x1)
    else
    if ib x2 (12) = true then
    if ib (S.1 45 x2.toNatClampNeg) (60) = true then
    if (S.1 51 (S.1 45 x2.toNatClampNeg).toNatClampNeg) = 0 then
    f_X8_broken_b37  rec9 S x2 x1 (0 : Int32)
    else
    f_X8_broken_b37  rec9 S x2 x1 (1 : Int32)
    else none
    else none
def f_X8_broken_b9   (S : HS) (x1 : Int32) (x2 : Int32) : Option (HS × Int32) := fx (F_X8_broken_b9 ) FU (S, x1, x2)
def f_X8_broken  (S : HS) : Option (HS × Int32) :=
f_X8_broken_b9   (sI S 36 36 (0 : Int32)) (0 : Int32) (0 : Int32)
def rm_X8_broken : Room := { frames := 0, cells := 0, slots := 0, locals := 0 }
set_option maxRecDepth 100000 in
set_option maxHeartbeats 4000000 in
theorem c_X8_broken (l : Launch)   (S : HS) (out : HS × Int32) (h : f_X8_broken  S = some out) : Ct l yX8_broken cX8_broken 3 (some .int) rm_X8_broken [vR 36] S (some (vI out.2)) out.1 := by
  refine Ct.intro (own := RX8) (lv := [(0, vR 36)]) (by decide +kernel) rfl ⟨rfl, rfl⟩ rfl (Nat.le_of_ble_eq_true rfl) ?_
  intro G hG hR
  revert h
  have hb37 : ∀ (rec9 : HS × Int32 × Int32 → Option (HS × Int32)) (hrec9 : ∀ (S : HS) (x1 : Int32) (x2 : Int32), rec9 (S, x1, x2) = some out → G 0 0 S [(0, vR 36), (1, vI x1), (2, vI x2)] 9 []) (S : HS) (x2 : Int32) (t0 : Int32) (t1 : Int32), f_X8_broken_b37  rec9 S x2 t0 t1 = some out → G 0 0 S [(0, vR 36), (2, vI x2)] 37 [vI t1, vI t0] := by
    intro rec9 hrec9 S x2 t0 t1
    unfold f_X8_broken_b37
    refine s_iadd hG dX8_broken_37 ?_
    refine s_istore_n hG (lv' := [(1, vI (t0 + t1)), (0, vR 36), (2, vI x2)]) dX8_broken_38 (by decide) rfl ?_
    refine s_iinc hG (v := (x2 + (1 : Int32))) (lv' := [(2, vI (x2 + (1 : Int32))), (1, vI (t0 + t1)), (0, vR 36)]) dX8_broken_39 rfl rfl (by decide) rfl ?_
    refine s_goto hG (tgt := 9) dX8_broken_42 (by decide) ?_
    refine s_lv hG [2, 1, 0] rfl ?_
    exact hrec9 _ _ _
  have hb9 : ∀ (S : HS) (x1 : Int32) (x2 : Int32), f_X8_broken_b9  S x1 x2 = some out → G 0 0 S [(0, vR 36), (1, vI x1), (2, vI x2)] 9 [] := by
    intro  S x1 x2
    unfold f_X8_broken_b9
    generalize FU = nf
    revert S x1 x2
    induction nf with
    | zero => intro S x1 x2 h9; cases h9
    | succ nf hrec9 =>
      intro S x1 x2
      show F_X8_broken_b9  (fx (F_X8_broken_b9 ) nf) (S, x1, x2) = some out → _
      generalize fx (F_X8_broken_b9 ) nf = rec9 at hrec9
      unfold F_X8_broken_b9
      dsimp only
      refine s_iload_n hG dX8_broken_9 rfl ?_
      refine s_aload_n hG dX8_broken_10 rfl ?_
      refine s_getI hG dX8_broken_11 fl_RX8_91 (rfl) ?_
      refine s_icmp_ge hG (tgt := 45) dX8_broken_14 (by decide) ?_ ?_
      · refine s_iload_n hG dX8_broken_45 rfl ?_
        exact s_riC hR dX8_broken_46
      · refine s_iload_n hG dX8_broken_17 rfl ?_
        refine s_aload_n hG dX8_broken_18 rfl ?_
        refine s_getC hG dX8_broken_19 fl_RX8_53 (rfl) ?_
        refine s_aload_n hG dX8_broken_22 rfl ?_
        refine s_getC hG dX8_broken_23 fl_RX8_35 (rfl) ?_
        refine s_iload_n hG dX8_broken_26 rfl ?_
        refine s_iaload hG dX8_broken_27 (rfl) ?_
        refine s_baload hG dX8_broken_28 (rfl) ?_
        refine s_if_eq hG (tgt := 36) dX8_broken_29 (by decide) ?_ ?_
        · refine s_iconst hG (v := (0 : Int32)) dX8_broken_36 (by decide) ?_
          refine s_lv hG [0, 2] rfl ?_
          exact hb37 _ hrec9 _ _ _ _
        · refine s_iconst hG (v := (1 : Int32)) dX8_broken_32 (by decide) ?_
          refine s_goto hG (tgt := 37) dX8_broken_33 (by decide) ?_
          refine s_lv hG [0, 2] rfl ?_
          exact hb37 _ hrec9 _ _ _ _
  unfold f_X8_broken
  refine s_aload_n hG dX8_broken_0 rfl ?_
  refine s_iconst hG (v := (0 : Int32)) dX8_broken_1 (by decide) ?_
  refine s_putI hG dX8_broken_2 fl_RX8_80 fp_8_36 (rfl) ⟨rfl, rfl⟩ ?_
  refine s_iconst hG (v := (0 : Int32)) dX8_broken_5 (by decide) ?_
  refine s_istore_n hG (lv' := [(1, vI (0 : Int32)), (0, vR 36)]) dX8_broken_6 (by decide) rfl ?_
  refine s_iconst hG (v := (0 : Int32)) dX8_broken_7 (by decide) ?_
  refine s_istore_n hG (lv' := [(2, vI (0 : Int32)), (1, vI (0 : Int32)), (0, vR 36)]) dX8_broken_8 (by decide) rfl ?_
  refine s_lv hG [2, 1, 0] rfl ?_
  exact hb9 _ _ _

def f_X8_isExport (p1 : Int32) (S : HS) : Option (Int32) :=
(f_X8_isIn p1 (0 : Int32) ((S.1 36 29) - (1 : Int32)) S).bind (fun o8 =>
if nz o8 = true then some o8 else none)
def rm_X8_isExport : Room := { frames := 1, cells := 0, slots := 0, locals := 22 }
set_option maxRecDepth 100000 in
set_option maxHeartbeats 4000000 in
theorem c_X8_isExport (l : Launch) (p1 : Int32)  (S : HS) (out : Int32) (h : f_X8_isExport p1 S = some out) : Ct l yX8_isExport cX8_isExport 2 (some .boolean) rm_X8_isExport [vR 36, vI p1] S (some (vI out)) S := by
  refine Ct.intro (own := RX8) (lv := [(0, vR 36), (1, vI p1)]) (by decide +kernel) rfl ⟨rfl, rfl⟩ rfl (Nat.le_of_ble_eq_true rfl) ?_
  intro G hG hR
  revert h
  unfold f_X8_isExport
  refine s_iload_n hG dX8_isExport_0 rfl ?_
  refine s_iconst hG (v := (0 : Int32)) dX8_isExport_1 (by decide) ?_
  refine s_aload_n hG dX8_isExport_2 rfl ?_
  refine s_getI hG dX8_isExport_3 fl_RX8_215 (rfl) ?_
  refine s_iconst hG (v := (1 : Int32)) dX8_isExport_6 (by decide) ?_
  refine s_isub hG dX8_isExport_7 ?_
  refine s_csP hG (as := [vI p1, vI (0 : Int32), vI ((S.1 36 29) - (1 : Int32))]) (st := []) (rm := rm_X8_isIn) dX8_isExport_8 ml_RX8_84 (tb19 (mem_i 0 rfl)) rfl ⟨rfl, rfl⟩ ⟨by decide, by decide⟩ (Nat.le_of_ble_eq_true rfl) ⟨Nat.zero_le _, Nat.zero_le _⟩ rfl (fun o h => c_X8_isIn l _ _ _ _ o h) (fun o8 => ?_)
  exact s_rzP hR dX8_isExport_11

def f_X8_sign_b16 (p1 : Int32)  (S : HS) (t1 : Int32) : Option (HS) :=
some (sI (sI S 36 35 t1) 36 34 (((sI S 36 35 t1).1 36 34) - (1 : Int32)))
def f_X8_sign (p1 : Int32) (S : HS) : Option (HS) :=
if (S.1 36 34) = 0 then
f_X8_sign_b16 p1  S p1
else
f_X8_sign_b16 p1  S (S.1 36 35)
def rm_X8_sign : Room := { frames := 0, cells := 0, slots := 0, locals := 0 }
set_option maxRecDepth 100000 in
set_option maxHeartbeats 4000000 in
theorem c_X8_sign (l : Launch) (p1 : Int32)  (S : HS) (out : HS) (h : f_X8_sign p1 S = some out) : Ct l yX8_sign cX8_sign 2 none rm_X8_sign [vR 36, vI p1] S none out := by
  refine Ct.intro (own := RX8) (lv := [(0, vR 36), (1, vI p1)]) (by decide +kernel) rfl ⟨rfl, rfl⟩ rfl (Nat.le_of_ble_eq_true rfl) ?_
  intro G hG hR
  revert h
  have hb16 : ∀ (S : HS) (t1 : Int32), f_X8_sign_b16 p1 S t1 = some out → G 0 0 S [(0, vR 36)] 16 [vI t1, vR 36] := by
    intro S t1
    unfold f_X8_sign_b16
    refine s_putI hG dX8_sign_16 fl_RX8_224 fp_8_35 (rfl) ⟨rfl, rfl⟩ ?_
    refine s_aload_n hG dX8_sign_19 rfl ?_
    refine s_dup hG dX8_sign_20 rfl ?_
    refine s_getI hG dX8_sign_21 fl_RX8_221 (rfl) ?_
    refine s_iconst hG (v := (1 : Int32)) dX8_sign_24 (by decide) ?_
    refine s_isub hG dX8_sign_25 ?_
    refine s_putI hG dX8_sign_26 fl_RX8_221 fp_8_34 (rfl) ⟨rfl, rfl⟩ ?_
    exact s_rvC hR dX8_sign_29
  unfold f_X8_sign
  refine s_aload_n hG dX8_sign_0 rfl ?_
  refine s_aload_n hG dX8_sign_1 rfl ?_
  refine s_getI hG dX8_sign_2 fl_RX8_221 (rfl) ?_
  refine s_if_ne hG (tgt := 12) dX8_sign_5 (by decide) ?_ ?_
  · refine s_aload_n hG dX8_sign_12 rfl ?_
    refine s_getI hG dX8_sign_13 fl_RX8_224 (rfl) ?_
    refine s_lv hG [0] rfl ?_
    exact hb16 _ _
  · refine s_iload_n hG dX8_sign_8 rfl ?_
    refine s_goto hG (tgt := 16) dX8_sign_9 (by decide) ?_
    refine s_lv hG [0] rfl ?_
    exact hb16 _ _

def F_X8_signs_b33 (p1 : Int32)  (rec33 : HS × Int32 × Int32 → Option (HS)) : HS × Int32 × Int32 → Option (HS) := fun q => match q with
  | (S, x2, x3) =>
    if x3 ≤ 0 then
    some S
    else
    if x3 = 0 then none else
    if (10 : Int32) = 0 then none else
    (f_X8_sign ((48 : Int32) + ((x2 / x3) - (x2 / x3) / (10 : Int32) * (10 : Int32))) S).bind (fun o47 =>
    if (10 : Int32) = 0 then none else
    rec33 (o47, x2, (x3 / (10 : Int32))))
def f_X8_signs_b33 (p1 : Int32)  (S : HS) (x2 : Int32) (x3 : Int32) : Option (HS) := fx (F_X8_signs_b33 p1) FU (S, x2, x3)
def F_X8_signs_b17 (p1 : Int32)  (rec17 : HS × Int32 × Int32 → Option (HS)) : HS × Int32 × Int32 → Option (HS) := fun q => match q with
  | (S, x2, x3) =>
    if x3 = 0 then none else
    if (x2 / x3) ≤ (9 : Int32) then
    f_X8_signs_b33 p1  S x2 x3
    else
    rec17 (S, x2, (x3 * (10 : Int32)))
def f_X8_signs_b17 (p1 : Int32)  (S : HS) (x2 : Int32) (x3 : Int32) : Option (HS) := fx (F_X8_signs_b17 p1) FU (S, x2, x3)
def f_X8_signs_b15 (p1 : Int32)  (S : HS) (x2 : Int32) : Option (HS) :=
f_X8_signs_b17 p1  S x2 (1 : Int32)
def f_X8_signs (p1 : Int32) (S : HS) : Option (HS) :=
if 0 ≤ p1 then
f_X8_signs_b15 p1  S p1
else
(f_X8_sign (45 : Int32) S).bind (fun o9 =>
f_X8_signs_b15 p1  o9 (-p1))
def rm_X8_signs : Room := { frames := 1, cells := 0, slots := 0, locals := 21 }
set_option maxRecDepth 100000 in
set_option maxHeartbeats 4000000 in
theorem c_X8_signs (l : Launch) (p1 : Int32)  (S : HS) (out : HS) (h : f_X8_signs p1 S = some out) : Ct l yX8_signs cX8_signs 4 none rm_X8_signs [vR 36, vI p1] S none out := by
  refine Ct.intro (own := RX8) (lv := [(0, vR 36), (1, vI p1)]) (by decide +kernel) rfl ⟨rfl, rfl⟩ rfl (Nat.le_of_ble_eq_true rfl) ?_
  intro G hG hR
  revert h
  have hb33 : ∀ (S : HS) (x2 : Int32) (x3 : Int32), f_X8_signs_b33 p1 S x2 x3 = some out → G 0 0 S [(0, vR 36), (2, vI x2), (3, vI x3)] 33 [] := by
    intro  S x2 x3
    unfold f_X8_signs_b33
    generalize FU = nf
    revert S x2 x3
    induction nf with
    | zero => intro S x2 x3 h9; cases h9
    | succ nf hrec33 =>
      intro S x2 x3
      show F_X8_signs_b33 p1 (fx (F_X8_signs_b33 p1) nf) (S, x2, x3) = some out → _
      generalize fx (F_X8_signs_b33 p1) nf = rec33 at hrec33
      unfold F_X8_signs_b33
      dsimp only
      refine s_iload_n hG dX8_signs_33 rfl ?_
      refine s_if_le hG (tgt := 58) dX8_signs_34 (by decide) ?_ ?_
      · exact s_rvC hR dX8_signs_58
      · refine s_aload_n hG dX8_signs_37 rfl ?_
        refine s_bipush hG (v := (48 : Int32)) dX8_signs_38 (by decide) ?_
        refine s_iload_n hG dX8_signs_40 rfl ?_
        refine s_iload_n hG dX8_signs_41 rfl ?_
        refine s_idiv hG dX8_signs_42 ?_
        refine s_bipush hG (v := (10 : Int32)) dX8_signs_43 (by decide) ?_
        refine s_irem hG dX8_signs_45 ?_
        refine s_iadd hG dX8_signs_46 ?_
        refine s_cvV hG (as := [vI ((48 : Int32) + ((x2 / x3) - (x2 / x3) / (10 : Int32) * (10 : Int32)))]) (st := []) (rm := rm_X8_sign) dX8_signs_47 ml_RX8_227 (rfl) (tb25 (mem_i 16 rfl)) rfl ⟨rfl, rfl⟩ ⟨by decide, by decide⟩ (Nat.le_of_ble_eq_true rfl) ⟨Nat.zero_le _, Nat.zero_le _⟩ rfl (fun o h => c_X8_sign l _ _ o h) (fun o47 => ?_)
        refine s_iload_n hG dX8_signs_50 rfl ?_
        refine s_bipush hG (v := (10 : Int32)) dX8_signs_51 (by decide) ?_
        refine s_idiv hG dX8_signs_53 ?_
        refine s_istore_n hG (lv' := [(3, vI (x3 / (10 : Int32))), (0, vR 36), (2, vI x2)]) dX8_signs_54 (by decide) rfl ?_
        refine s_goto hG (tgt := 33) dX8_signs_55 (by decide) ?_
        refine s_lv hG [1, 2, 0] rfl ?_
        exact hrec33 _ _ _
  have hb17 : ∀ (S : HS) (x2 : Int32) (x3 : Int32), f_X8_signs_b17 p1 S x2 x3 = some out → G 0 0 S [(0, vR 36), (2, vI x2), (3, vI x3)] 17 [] := by
    intro  S x2 x3
    unfold f_X8_signs_b17
    generalize FU = nf
    revert S x2 x3
    induction nf with
    | zero => intro S x2 x3 h9; cases h9
    | succ nf hrec17 =>
      intro S x2 x3
      show F_X8_signs_b17 p1 (fx (F_X8_signs_b17 p1) nf) (S, x2, x3) = some out → _
      generalize fx (F_X8_signs_b17 p1) nf = rec17 at hrec17
      unfold F_X8_signs_b17
      dsimp only
      refine s_iload_n hG dX8_signs_17 rfl ?_
      refine s_iload_n hG dX8_signs_18 rfl ?_
      refine s_idiv hG dX8_signs_19 ?_
      refine s_bipush hG (v := (9 : Int32)) dX8_signs_20 (by decide) ?_
      refine s_icmp_le hG (tgt := 33) dX8_signs_22 (by decide) ?_ ?_
      · exact hb33 _ _ _
      · refine s_iload_n hG dX8_signs_25 rfl ?_
        refine s_bipush hG (v := (10 : Int32)) dX8_signs_26 (by decide) ?_
        refine s_imul hG dX8_signs_28 ?_
        refine s_istore_n hG (lv' := [(3, vI (x3 * (10 : Int32))), (0, vR 36), (2, vI x2)]) dX8_signs_29 (by decide) rfl ?_
        refine s_goto hG (tgt := 17) dX8_signs_30 (by decide) ?_
        refine s_lv hG [1, 2, 0] rfl ?_
        exact hrec17 _ _ _
  have hb15 : ∀ (S : HS) (x2 : Int32), f_X8_signs_b15 p1 S x2 = some out → G 0 0 S [(0, vR 36), (2, vI x2)] 15 [] := by
    intro S x2
    unfold f_X8_signs_b15
    refine s_iconst hG (v := (1 : Int32)) dX8_signs_15 (by decide) ?_
    refine s_istore_n hG (lv' := [(3, vI (1 : Int32)), (0, vR 36), (2, vI x2)]) dX8_signs_16 (by decide) rfl ?_
    refine s_lv hG [1, 2, 0] rfl ?_
    exact hb17 _ _ _
  unfold f_X8_signs
  refine s_iload_n hG dX8_signs_0 rfl ?_
  refine s_istore_n hG (lv' := [(2, vI p1), (0, vR 36), (1, vI p1)]) dX8_signs_1 (by decide) rfl ?_
  refine s_iload_n hG dX8_signs_2 rfl ?_
  refine s_if_ge hG (tgt := 15) dX8_signs_3 (by decide) ?_ ?_
  · refine s_lv hG [1, 0] rfl ?_
    exact hb15 _ _
  · refine s_aload_n hG dX8_signs_6 rfl ?_
    refine s_bipush hG (v := (45 : Int32)) dX8_signs_7 (by decide) ?_
    refine s_cvV hG (as := [vI (45 : Int32)]) (st := []) (rm := rm_X8_sign) dX8_signs_9 ml_RX8_227 (rfl) (tb25 (mem_i 16 rfl)) rfl ⟨rfl, rfl⟩ ⟨by decide, by decide⟩ (Nat.le_of_ble_eq_true rfl) ⟨Nat.zero_le _, Nat.zero_le _⟩ rfl (fun o h => c_X8_sign l _ _ o h) (fun o9 => ?_)
    refine s_iload_n hG dX8_signs_12 rfl ?_
    refine s_ineg hG dX8_signs_13 ?_
    refine s_istore_n hG (lv' := [(2, vI (-p1)), (0, vR 36), (1, vI p1)]) dX8_signs_14 (by decide) rfl ?_
    refine s_lv hG [1, 0] rfl ?_
    exact hb15 _ _

def f_X8_tells_b82 (p1 : Int32) (rec8 : HS × Int32 → Option (HS)) (S : HS) (x2 : Int32) : Option (HS) :=
rec8 (S, (x2 + (1 : Int32)))
def f_X8_tells_b67 (p1 : Int32) (rec8 : HS × Int32 → Option (HS)) (S : HS) (x2 : Int32) (x3 : Int32) (t1 : Int32) : Option (HS) :=
(f_X8_sign t1 S).bind (fun o67 =>
if x3 = (26 : Int32) then
(f_X8_sign (56528 : Int32) o67).bind (fun o79 =>
f_X8_tells_b82 p1 rec8 o79 x2)
else
f_X8_tells_b82 p1 rec8 o67 x2)
def f_X8_tells_b48 (p1 : Int32) (rec8 : HS × Int32 → Option (HS)) (S : HS) (x2 : Int32) (t1 : Int32) (t2 : Int32) : Option (HS) :=
if ib (t1 + t2) (50) = true then
if (S.1 41 (t1 + t2).toNatClampNeg) = (26 : Int32) then
f_X8_tells_b67 p1 rec8 S x2 (S.1 41 (t1 + t2).toNatClampNeg) (55357 : Int32)
else
f_X8_tells_b67 p1 rec8 S x2 (S.1 41 (t1 + t2).toNatClampNeg) ((97 : Int32) + (S.1 41 (t1 + t2).toNatClampNeg))
else none
def F_X8_tells_b8 (p1 : Int32)  (rec8 : HS × Int32 → Option (HS)) : HS × Int32 → Option (HS) := fun q => match q with
  | (S, x2) =>
    if ib p1 (10) = true then
    if (S.1 40 p1.toNatClampNeg) ≤ x2 then
    some S
    else
    if ib p1 (10) = true then
    if (S.1 39 p1.toNatClampNeg) = 0 then
    f_X8_tells_b48 p1 rec8 S x2 ((5 : Int32) * p1) x2
    else
    if ib p1 (10) = true then
    f_X8_tells_b48 p1 rec8 S x2 ((5 : Int32) * p1) (((S.1 40 p1.toNatClampNeg) - (1 : Int32)) - x2)
    else none
    else none
    else none
def f_X8_tells_b8 (p1 : Int32)  (S : HS) (x2 : Int32) : Option (HS) := fx (F_X8_tells_b8 p1) FU (S, x2)
def f_X8_tells (p1 : Int32) (S : HS) : Option (HS) :=
(f_X8_sign (44 : Int32) S).bind (fun o3 =>
f_X8_tells_b8 p1  o3 (0 : Int32))
def rm_X8_tells : Room := { frames := 1, cells := 0, slots := 0, locals := 21 }
set_option maxRecDepth 100000 in
set_option maxHeartbeats 4000000 in
theorem c_X8_tells (l : Launch) (p1 : Int32)  (S : HS) (out : HS) (h : f_X8_tells p1 S = some out) : Ct l yX8_tells cX8_tells 4 none rm_X8_tells [vR 36, vI p1] S none out := by
  refine Ct.intro (own := RX8) (lv := [(0, vR 36), (1, vI p1)]) (by decide +kernel) rfl ⟨rfl, rfl⟩ rfl (Nat.le_of_ble_eq_true rfl) ?_
  intro G hG hR
  revert h
  have hb82 : ∀ (rec8 : HS × Int32 → Option (HS)) (hrec8 : ∀ (S : HS) (x2 : Int32), rec8 (S, x2) = some out → G 0 0 S [(0, vR 36), (1, vI p1), (2, vI x2)] 8 []) (S : HS) (x2 : Int32), f_X8_tells_b82 p1 rec8 S x2 = some out → G 0 0 S [(0, vR 36), (1, vI p1), (2, vI x2)] 82 [] := by
    intro rec8 hrec8 S x2
    unfold f_X8_tells_b82
    refine s_iinc hG (v := (x2 + (1 : Int32))) (lv' := [(2, vI (x2 + (1 : Int32))), (0, vR 36), (1, vI p1)]) dX8_tells_82 rfl rfl (by decide) rfl ?_
    refine s_goto hG (tgt := 8) dX8_tells_85 (by decide) ?_
    refine s_lv hG [1, 2, 0] rfl ?_
    exact hrec8 _ _
  have hb67 : ∀ (rec8 : HS × Int32 → Option (HS)) (hrec8 : ∀ (S : HS) (x2 : Int32), rec8 (S, x2) = some out → G 0 0 S [(0, vR 36), (1, vI p1), (2, vI x2)] 8 []) (S : HS) (x2 : Int32) (x3 : Int32) (t1 : Int32), f_X8_tells_b67 p1 rec8 S x2 x3 t1 = some out → G 0 0 S [(0, vR 36), (1, vI p1), (2, vI x2), (3, vI x3)] 67 [vI t1, vR 36] := by
    intro rec8 hrec8 S x2 x3 t1
    unfold f_X8_tells_b67
    refine s_cvV hG (as := [vI t1]) (st := []) (rm := rm_X8_sign) dX8_tells_67 ml_RX8_227 (rfl) (tb25 (mem_i 16 rfl)) rfl ⟨rfl, rfl⟩ ⟨by decide, by decide⟩ (Nat.le_of_ble_eq_true rfl) ⟨Nat.zero_le _, Nat.zero_le _⟩ rfl (fun o h => c_X8_sign l _ _ o h) (fun o67 => ?_)
    refine s_iload_n hG dX8_tells_70 rfl ?_
    refine s_bipush hG (v := (26 : Int32)) dX8_tells_71 (by decide) ?_
    refine s_icmp_ne hG (tgt := 82) dX8_tells_73 (by decide) ?_ ?_
    · refine s_lv hG [0, 1, 2] rfl ?_
      exact hb82 _ hrec8 _ _
    · refine s_aload_n hG dX8_tells_76 rfl ?_
      refine s_ldc hG (v := (56528 : Int32)) dX8_tells_77 (tb25 (mem_i 24 rfl)) ?_
      refine s_cvV hG (as := [vI (56528 : Int32)]) (st := []) (rm := rm_X8_sign) dX8_tells_79 ml_RX8_227 (rfl) (tb25 (mem_i 16 rfl)) rfl ⟨rfl, rfl⟩ ⟨by decide, by decide⟩ (Nat.le_of_ble_eq_true rfl) ⟨Nat.zero_le _, Nat.zero_le _⟩ rfl (fun o h => c_X8_sign l _ _ o h) (fun o79 => ?_)
      refine s_lv hG [0, 1, 2] rfl ?_
      exact hb82 _ hrec8 _ _
  have hb48 : ∀ (rec8 : HS × Int32 → Option (HS)) (hrec8 : ∀ (S : HS) (x2 : Int32), rec8 (S, x2) = some out → G 0 0 S [(0, vR 36), (1, vI p1), (2, vI x2)] 8 []) (S : HS) (x2 : Int32) (t1 : Int32) (t2 : Int32), f_X8_tells_b48 p1 rec8 S x2 t1 t2 = some out → G 0 0 S [(0, vR 36), (1, vI p1), (2, vI x2)] 48 [vI t2, vI t1, vR 41] := by
    intro rec8 hrec8 S x2 t1 t2
    unfold f_X8_tells_b48
    refine s_iadd hG dX8_tells_48 ?_
    refine s_iaload hG dX8_tells_49 (rfl) ?_
    refine s_istore_n hG (lv' := [(3, vI (S.1 41 (t1 + t2).toNatClampNeg)), (0, vR 36), (1, vI p1), (2, vI x2)]) dX8_tells_50 (by decide) rfl ?_
    refine s_aload_n hG dX8_tells_51 rfl ?_
    refine s_iload_n hG dX8_tells_52 rfl ?_
    refine s_bipush hG (v := (26 : Int32)) dX8_tells_53 (by decide) ?_
    refine s_icmp_ne hG (tgt := 63) dX8_tells_55 (by decide) ?_ ?_
    · refine s_bipush hG (v := (97 : Int32)) dX8_tells_63 (by decide) ?_
      refine s_iload_n hG dX8_tells_65 rfl ?_
      refine s_iadd hG dX8_tells_66 ?_
      refine s_lv hG [1, 2, 3, 0] rfl ?_
      exact hb67 _ hrec8 _ _ _ _
    · refine s_ldc hG (v := (55357 : Int32)) dX8_tells_58 (tb25 (mem_i 23 rfl)) ?_
      refine s_goto hG (tgt := 67) dX8_tells_60 (by decide) ?_
      refine s_lv hG [1, 2, 3, 0] rfl ?_
      exact hb67 _ hrec8 _ _ _ _
  have hb8 : ∀ (S : HS) (x2 : Int32), f_X8_tells_b8 p1 S x2 = some out → G 0 0 S [(0, vR 36), (1, vI p1), (2, vI x2)] 8 [] := by
    intro  S x2
    unfold f_X8_tells_b8
    generalize FU = nf
    revert S x2
    induction nf with
    | zero => intro S x2 h9; cases h9
    | succ nf hrec8 =>
      intro S x2
      show F_X8_tells_b8 p1 (fx (F_X8_tells_b8 p1) nf) (S, x2) = some out → _
      generalize fx (F_X8_tells_b8 p1) nf = rec8 at hrec8
      unfold F_X8_tells_b8
      dsimp only
      refine s_iload_n hG dX8_tells_8 rfl ?_
      refine s_aload_n hG dX8_tells_9 rfl ?_
      refine s_getC hG dX8_tells_10 fl_RX8_20 (rfl) ?_
      refine s_iload_n hG dX8_tells_13 rfl ?_
      refine s_iaload hG dX8_tells_14 (rfl) ?_
      refine s_icmp_ge hG (tgt := 88) dX8_tells_15 (by decide) ?_ ?_
      · exact s_rvC hR dX8_tells_88
      · refine s_aload_n hG dX8_tells_18 rfl ?_
        refine s_getC hG dX8_tells_19 fl_RX8_23 (rfl) ?_
        refine s_iconst hG (v := (5 : Int32)) dX8_tells_22 (by decide) ?_
        refine s_iload_n hG dX8_tells_23 rfl ?_
        refine s_imul hG dX8_tells_24 ?_
        refine s_aload_n hG dX8_tells_25 rfl ?_
        refine s_getC hG dX8_tells_26 fl_RX8_17 (rfl) ?_
        refine s_iload_n hG dX8_tells_29 rfl ?_
        refine s_baload hG dX8_tells_30 (rfl) ?_
        refine s_if_eq hG (tgt := 47) dX8_tells_31 (by decide) ?_ ?_
        · refine s_iload_n hG dX8_tells_47 rfl ?_
          exact hb48 _ hrec8 _ _ _ _
        · refine s_aload_n hG dX8_tells_34 rfl ?_
          refine s_getC hG dX8_tells_35 fl_RX8_20 (rfl) ?_
          refine s_iload_n hG dX8_tells_38 rfl ?_
          refine s_iaload hG dX8_tells_39 (rfl) ?_
          refine s_iconst hG (v := (1 : Int32)) dX8_tells_40 (by decide) ?_
          refine s_isub hG dX8_tells_41 ?_
          refine s_iload_n hG dX8_tells_42 rfl ?_
          refine s_isub hG dX8_tells_43 ?_
          refine s_goto hG (tgt := 48) dX8_tells_44 (by decide) ?_
          exact hb48 _ hrec8 _ _ _ _
  unfold f_X8_tells
  refine s_aload_n hG dX8_tells_0 rfl ?_
  refine s_bipush hG (v := (44 : Int32)) dX8_tells_1 (by decide) ?_
  refine s_cvV hG (as := [vI (44 : Int32)]) (st := []) (rm := rm_X8_sign) dX8_tells_3 ml_RX8_227 (rfl) (tb25 (mem_i 16 rfl)) rfl ⟨rfl, rfl⟩ ⟨by decide, by decide⟩ (Nat.le_of_ble_eq_true rfl) ⟨Nat.zero_le _, Nat.zero_le _⟩ rfl (fun o h => c_X8_sign l _ _ o h) (fun o3 => ?_)
  refine s_iconst hG (v := (0 : Int32)) dX8_tells_6 (by decide) ?_
  refine s_istore_n hG (lv' := [(2, vI (0 : Int32)), (0, vR 36), (1, vI p1)]) dX8_tells_7 (by decide) rfl ?_
  refine s_lv hG [1, 2, 0] rfl ?_
  exact hb8 _ _

def f_X8_goesThrough_b171 (p1 : Int32) (p2 : Int32) (rec135 : HS × Int32 → Option (HS × Int32)) (S : HS) (x3 : Int32) : Option (HS × Int32) :=
rec135 (S, (x3 + (1 : Int32)))
def F_X8_goesThrough_b135 (p1 : Int32) (p2 : Int32)  (rec135 : HS × Int32 → Option (HS × Int32)) : HS × Int32 → Option (HS × Int32) := fun q => match q with
  | (S, x3) =>
    if (12 : Int32) ≤ x3 then
    some (S, (p2 - (S.1 36 34)))
    else
    if ib p1 (10) = true then
    (f_X8_has (S.1 59 p1.toNatClampNeg) x3 S).bind (fun o148 =>
    if o148 = 0 then
    f_X8_goesThrough_b171 p1 p2 rec135 S x3
    else
    (f_X8_sign (114 : Int32) S).bind (fun o157 =>
    (f_X8_signs x3 o157).bind (fun o162 =>
    (f_X8_sign (59 : Int32) o162).bind (fun o168 =>
    f_X8_goesThrough_b171 p1 p2 rec135 o168 x3))))
    else none
def f_X8_goesThrough_b135 (p1 : Int32) (p2 : Int32)  (S : HS) (x3 : Int32) : Option (HS × Int32) := fx (F_X8_goesThrough_b135 p1 p2) FU (S, x3)
def f_X8_goesThrough_b127 (p1 : Int32) (p2 : Int32) (rec12 : HS × Int32 → Option (HS × Int32)) (S : HS) (x3 : Int32) : Option (HS × Int32) :=
rec12 (S, (x3 + (1 : Int32)))
def f_X8_goesThrough_b121 (p1 : Int32) (p2 : Int32) (rec12 : HS × Int32 → Option (HS × Int32)) (S : HS) (x3 : Int32) : Option (HS × Int32) :=
(f_X8_sign (59 : Int32) S).bind (fun o124 =>
f_X8_goesThrough_b127 p1 p2 rec12 o124 x3)
def f_X8_goesThrough_b78 (p1 : Int32) (p2 : Int32) (rec12 : HS × Int32 → Option (HS × Int32)) (rec59 : HS × Int32 × Int32 → Option (HS × Int32)) (S : HS) (x3 : Int32) (x4 : Int32) (t1 : Int32) : Option (HS × Int32) :=
(f_X8_sign t1 S).bind (fun o78 =>
if ib ((((40 : Int32) * p1) + ((4 : Int32) * x3)) + x4) (400) = true then
(f_X8_signs (o78.1 58 ((((40 : Int32) * p1) + ((4 : Int32) * x3)) + x4).toNatClampNeg) o78).bind (fun o98 =>
rec59 (o98, x3, (x4 + (1 : Int32))))
else none)
def F_X8_goesThrough_b59 (p1 : Int32) (p2 : Int32) (rec12 : HS × Int32 → Option (HS × Int32)) (rec59 : HS × Int32 × Int32 → Option (HS × Int32)) : HS × Int32 × Int32 → Option (HS × Int32) := fun q => match q with
  | (S, x3, x4) =>
    if (4 : Int32) ≤ x4 then
    if ib x3 (10) = true then
    if (S.1 38 x3.toNatClampNeg) = 0 then
    f_X8_goesThrough_b121 p1 p2 rec12 S x3
    else
    (f_X8_tells x3 S).bind (fun o118 =>
    f_X8_goesThrough_b121 p1 p2 rec12 o118 x3)
    else none
    else
    if x4 = 0 then
    f_X8_goesThrough_b78 p1 p2 rec12 rec59 S x3 x4 (58 : Int32)
    else
    f_X8_goesThrough_b78 p1 p2 rec12 rec59 S x3 x4 (44 : Int32)
def f_X8_goesThrough_b59 (p1 : Int32) (p2 : Int32) (rec12 : HS × Int32 → Option (HS × Int32)) (S : HS) (x3 : Int32) (x4 : Int32) : Option (HS × Int32) := fx (F_X8_goesThrough_b59 p1 p2 rec12) FU (S, x3, x4)
def f_X8_goesThrough_b48 (p1 : Int32) (p2 : Int32) (rec12 : HS × Int32 → Option (HS × Int32)) (S : HS) (x3 : Int32) (t1 : Int32) : Option (HS × Int32) :=
(f_X8_sign t1 S).bind (fun o48 =>
(f_X8_signs x3 o48).bind (fun o53 =>
f_X8_goesThrough_b59 p1 p2 rec12 o53 x3 (0 : Int32)))
def F_X8_goesThrough_b12 (p1 : Int32) (p2 : Int32)  (rec12 : HS × Int32 → Option (HS × Int32)) : HS × Int32 → Option (HS × Int32) := fun q => match q with
  | (S, x3) =>
    if (10 : Int32) ≤ x3 then
    f_X8_goesThrough_b135 p1 p2  S (0 : Int32)
    else
    if ib p1 (10) = true then
    (f_X8_has (S.1 57 p1.toNatClampNeg) x3 S).bind (fun o25 =>
    if o25 = 0 then
    f_X8_goesThrough_b127 p1 p2 rec12 S x3
    else
    if ib x3 (10) = true then
    if (S.1 38 x3.toNatClampNeg) = 0 then
    f_X8_goesThrough_b48 p1 p2 rec12 S x3 (98 : Int32)
    else
    f_X8_goesThrough_b48 p1 p2 rec12 S x3 (116 : Int32)
    else none)
    else none
def f_X8_goesThrough_b12 (p1 : Int32) (p2 : Int32)  (S : HS) (x3 : Int32) : Option (HS × Int32) := fx (F_X8_goesThrough_b12 p1 p2) FU (S, x3)
def f_X8_goesThrough (p1 : Int32) (p2 : Int32) (S : HS) : Option (HS × Int32) :=
f_X8_goesThrough_b12 p1 p2  (sI (sI S 36 34 p2) 36 35 (-1 : Int32)) (0 : Int32)
def rm_X8_goesThrough : Room := { frames := 2, cells := 0, slots := 0, locals := 44 }
set_option maxRecDepth 100000 in
set_option maxHeartbeats 4000000 in
theorem c_X8_goesThrough (l : Launch) (p1 : Int32) (p2 : Int32)  (S : HS) (out : HS × Int32) (h : f_X8_goesThrough p1 p2 S = some out) : Ct l yX8_goesThrough cX8_goesThrough 5 (some .int) rm_X8_goesThrough [vR 36, vI p1, vI p2] S (some (vI out.2)) out.1 := by
  refine Ct.intro (own := RX8) (lv := [(0, vR 36), (1, vI p1), (2, vI p2)]) (by decide +kernel) rfl ⟨rfl, rfl⟩ rfl (Nat.le_of_ble_eq_true rfl) ?_
  intro G hG hR
  revert h
  have hb171 : ∀ (rec135 : HS × Int32 → Option (HS × Int32)) (hrec135 : ∀ (S : HS) (x3 : Int32), rec135 (S, x3) = some out → G 0 0 S [(0, vR 36), (1, vI p1), (2, vI p2), (3, vI x3)] 135 []) (S : HS) (x3 : Int32), f_X8_goesThrough_b171 p1 p2 rec135 S x3 = some out → G 0 0 S [(0, vR 36), (1, vI p1), (2, vI p2), (3, vI x3)] 171 [] := by
    intro rec135 hrec135 S x3
    unfold f_X8_goesThrough_b171
    refine s_iinc hG (v := (x3 + (1 : Int32))) (lv' := [(3, vI (x3 + (1 : Int32))), (0, vR 36), (1, vI p1), (2, vI p2)]) dX8_goesThrough_171 rfl rfl (by decide) rfl ?_
    refine s_goto hG (tgt := 135) dX8_goesThrough_174 (by decide) ?_
    refine s_lv hG [1, 2, 3, 0] rfl ?_
    exact hrec135 _ _
  have hb135 : ∀ (S : HS) (x3 : Int32), f_X8_goesThrough_b135 p1 p2 S x3 = some out → G 0 0 S [(0, vR 36), (1, vI p1), (2, vI p2), (3, vI x3)] 135 [] := by
    intro  S x3
    unfold f_X8_goesThrough_b135
    generalize FU = nf
    revert S x3
    induction nf with
    | zero => intro S x3 h9; cases h9
    | succ nf hrec135 =>
      intro S x3
      show F_X8_goesThrough_b135 p1 p2 (fx (F_X8_goesThrough_b135 p1 p2) nf) (S, x3) = some out → _
      generalize fx (F_X8_goesThrough_b135 p1 p2) nf = rec135 at hrec135
      unfold F_X8_goesThrough_b135
      dsimp only
      refine s_iload_n hG dX8_goesThrough_135 rfl ?_
      refine s_bipush hG (v := (12 : Int32)) dX8_goesThrough_136 (by decide) ?_
      refine s_icmp_ge hG (tgt := 177) dX8_goesThrough_138 (by decide) ?_ ?_
      · refine s_iload_n hG dX8_goesThrough_177 rfl ?_
        refine s_aload_n hG dX8_goesThrough_178 rfl ?_
        refine s_getI hG dX8_goesThrough_179 fl_RX8_221 (rfl) ?_
        refine s_isub hG dX8_goesThrough_182 ?_
        exact s_riC hR dX8_goesThrough_183
      · refine s_aload_n hG dX8_goesThrough_141 rfl ?_
        refine s_getC hG dX8_goesThrough_142 fl_RX8_77 (rfl) ?_
        refine s_iload_n hG dX8_goesThrough_145 rfl ?_
        refine s_iaload hG dX8_goesThrough_146 (rfl) ?_
        refine s_iload_n hG dX8_goesThrough_147 rfl ?_
        refine s_csP hG (as := [vI (S.1 59 p1.toNatClampNeg), vI x3]) (st := []) (rm := rm_X8_has) dX8_goesThrough_148 ml_RX8_104 (tb20 (mem_i 2 rfl)) rfl ⟨rfl, rfl⟩ ⟨by decide, by decide⟩ (Nat.le_of_ble_eq_true rfl) ⟨Nat.zero_le _, Nat.zero_le _⟩ rfl (fun o h => c_X8_has l _ _ _ o h) (fun o148 => ?_)
        refine s_if_eq hG (tgt := 171) dX8_goesThrough_151 (by decide) ?_ ?_
        · exact hb171 _ hrec135 _ _
        · refine s_aload_n hG dX8_goesThrough_154 rfl ?_
          refine s_bipush hG (v := (114 : Int32)) dX8_goesThrough_155 (by decide) ?_
          refine s_cvV hG (as := [vI (114 : Int32)]) (st := []) (rm := rm_X8_sign) dX8_goesThrough_157 ml_RX8_227 (rfl) (tb25 (mem_i 16 rfl)) rfl ⟨rfl, rfl⟩ ⟨by decide, by decide⟩ (Nat.le_of_ble_eq_true rfl) ⟨Nat.zero_le _, Nat.zero_le _⟩ rfl (fun o h => c_X8_sign l _ _ o h) (fun o157 => ?_)
          refine s_aload_n hG dX8_goesThrough_160 rfl ?_
          refine s_iload_n hG dX8_goesThrough_161 rfl ?_
          refine s_cvV hG (as := [vI x3]) (st := []) (rm := rm_X8_signs) dX8_goesThrough_162 ml_RX8_232 (rfl) (tb25 (mem_i 19 rfl)) rfl ⟨rfl, rfl⟩ ⟨by decide, by decide⟩ (Nat.le_of_ble_eq_true rfl) ⟨Nat.zero_le _, Nat.zero_le _⟩ rfl (fun o h => c_X8_signs l _ _ o h) (fun o162 => ?_)
          refine s_aload_n hG dX8_goesThrough_165 rfl ?_
          refine s_bipush hG (v := (59 : Int32)) dX8_goesThrough_166 (by decide) ?_
          refine s_cvV hG (as := [vI (59 : Int32)]) (st := []) (rm := rm_X8_sign) dX8_goesThrough_168 ml_RX8_227 (rfl) (tb25 (mem_i 16 rfl)) rfl ⟨rfl, rfl⟩ ⟨by decide, by decide⟩ (Nat.le_of_ble_eq_true rfl) ⟨Nat.zero_le _, Nat.zero_le _⟩ rfl (fun o h => c_X8_sign l _ _ o h) (fun o168 => ?_)
          exact hb171 _ hrec135 _ _
  have hb127 : ∀ (rec12 : HS × Int32 → Option (HS × Int32)) (hrec12 : ∀ (S : HS) (x3 : Int32), rec12 (S, x3) = some out → G 0 0 S [(0, vR 36), (1, vI p1), (2, vI p2), (3, vI x3)] 12 []) (S : HS) (x3 : Int32), f_X8_goesThrough_b127 p1 p2 rec12 S x3 = some out → G 0 0 S [(0, vR 36), (1, vI p1), (2, vI p2), (3, vI x3)] 127 [] := by
    intro rec12 hrec12 S x3
    unfold f_X8_goesThrough_b127
    refine s_iinc hG (v := (x3 + (1 : Int32))) (lv' := [(3, vI (x3 + (1 : Int32))), (0, vR 36), (1, vI p1), (2, vI p2)]) dX8_goesThrough_127 rfl rfl (by decide) rfl ?_
    refine s_goto hG (tgt := 12) dX8_goesThrough_130 (by decide) ?_
    refine s_lv hG [1, 2, 3, 0] rfl ?_
    exact hrec12 _ _
  have hb121 : ∀ (rec12 : HS × Int32 → Option (HS × Int32)) (hrec12 : ∀ (S : HS) (x3 : Int32), rec12 (S, x3) = some out → G 0 0 S [(0, vR 36), (1, vI p1), (2, vI p2), (3, vI x3)] 12 []) (S : HS) (x3 : Int32), f_X8_goesThrough_b121 p1 p2 rec12 S x3 = some out → G 0 0 S [(0, vR 36), (1, vI p1), (2, vI p2), (3, vI x3)] 121 [] := by
    intro rec12 hrec12 S x3
    unfold f_X8_goesThrough_b121
    refine s_aload_n hG dX8_goesThrough_121 rfl ?_
    refine s_bipush hG (v := (59 : Int32)) dX8_goesThrough_122 (by decide) ?_
    refine s_cvV hG (as := [vI (59 : Int32)]) (st := []) (rm := rm_X8_sign) dX8_goesThrough_124 ml_RX8_227 (rfl) (tb25 (mem_i 16 rfl)) rfl ⟨rfl, rfl⟩ ⟨by decide, by decide⟩ (Nat.le_of_ble_eq_true rfl) ⟨Nat.zero_le _, Nat.zero_le _⟩ rfl (fun o h => c_X8_sign l _ _ o h) (fun o124 => ?_)
    exact hb127 _ hrec12 _ _
  have hb78 : ∀ (rec12 : HS × Int32 → Option (HS × Int32)) (hrec12 : ∀ (S : HS) (x3 : Int32), rec12 (S, x3) = some out → G 0 0 S [(0, vR 36), (1, vI p1), (2, vI p2), (3, vI x3)] 12 []) (rec59 : HS × Int32 × Int32 → Option (HS × Int32)) (hrec59 : ∀ (S : HS) (x3 : Int32) (x4 : Int32), rec59 (S, x3, x4) = some out → G 0 0 S [(0, vR 36), (1, vI p1), (2, vI p2), (3, vI x3), (4, vI x4)] 59 []) (S : HS) (x3 : Int32) (x4 : Int32) (t1 : Int32), f_X8_goesThrough_b78 p1 p2 rec12 rec59 S x3 x4 t1 = some out → G 0 0 S [(0, vR 36), (1, vI p1), (2, vI p2), (3, vI x3), (4, vI x4)] 78 [vI t1, vR 36] := by
    intro rec12 hrec12 rec59 hrec59 S x3 x4 t1
    unfold f_X8_goesThrough_b78
    refine s_cvV hG (as := [vI t1]) (st := []) (rm := rm_X8_sign) dX8_goesThrough_78 ml_RX8_227 (rfl) (tb25 (mem_i 16 rfl)) rfl ⟨rfl, rfl⟩ ⟨by decide, by decide⟩ (Nat.le_of_ble_eq_true rfl) ⟨Nat.zero_le _, Nat.zero_le _⟩ rfl (fun o h => c_X8_sign l _ _ o h) (fun o78 => ?_)
    refine s_aload_n hG dX8_goesThrough_81 rfl ?_
    refine s_aload_n hG dX8_goesThrough_82 rfl ?_
    refine s_getC hG dX8_goesThrough_83 fl_RX8_74 (rfl) ?_
    refine s_bipush hG (v := (40 : Int32)) dX8_goesThrough_86 (by decide) ?_
    refine s_iload_n hG dX8_goesThrough_88 rfl ?_
    refine s_imul hG dX8_goesThrough_89 ?_
    refine s_iconst hG (v := (4 : Int32)) dX8_goesThrough_90 (by decide) ?_
    refine s_iload_n hG dX8_goesThrough_91 rfl ?_
    refine s_imul hG dX8_goesThrough_92 ?_
    refine s_iadd hG dX8_goesThrough_93 ?_
    refine s_iload hG dX8_goesThrough_94 rfl ?_
    refine s_iadd hG dX8_goesThrough_96 ?_
    refine s_iaload hG dX8_goesThrough_97 (rfl) ?_
    refine s_cvV hG (as := [vI (o78.1 58 ((((40 : Int32) * p1) + ((4 : Int32) * x3)) + x4).toNatClampNeg)]) (st := []) (rm := rm_X8_signs) dX8_goesThrough_98 ml_RX8_232 (rfl) (tb25 (mem_i 19 rfl)) rfl ⟨rfl, rfl⟩ ⟨by decide, by decide⟩ (Nat.le_of_ble_eq_true rfl) ⟨Nat.zero_le _, Nat.zero_le _⟩ rfl (fun o h => c_X8_signs l _ _ o h) (fun o98 => ?_)
    refine s_iinc hG (v := (x4 + (1 : Int32))) (lv' := [(4, vI (x4 + (1 : Int32))), (0, vR 36), (1, vI p1), (2, vI p2), (3, vI x3)]) dX8_goesThrough_101 rfl rfl (by decide) rfl ?_
    refine s_goto hG (tgt := 59) dX8_goesThrough_104 (by decide) ?_
    refine s_lv hG [1, 2, 3, 4, 0] rfl ?_
    exact hrec59 _ _ _
  have hb59 : ∀ (rec12 : HS × Int32 → Option (HS × Int32)) (hrec12 : ∀ (S : HS) (x3 : Int32), rec12 (S, x3) = some out → G 0 0 S [(0, vR 36), (1, vI p1), (2, vI p2), (3, vI x3)] 12 []) (S : HS) (x3 : Int32) (x4 : Int32), f_X8_goesThrough_b59 p1 p2 rec12 S x3 x4 = some out → G 0 0 S [(0, vR 36), (1, vI p1), (2, vI p2), (3, vI x3), (4, vI x4)] 59 [] := by
    intro rec12 hrec12 S x3 x4
    unfold f_X8_goesThrough_b59
    generalize FU = nf
    revert S x3 x4
    induction nf with
    | zero => intro S x3 x4 h9; cases h9
    | succ nf hrec59 =>
      intro S x3 x4
      show F_X8_goesThrough_b59 p1 p2 rec12 (fx (F_X8_goesThrough_b59 p1 p2 rec12) nf) (S, x3, x4) = some out → _
      generalize fx (F_X8_goesThrough_b59 p1 p2 rec12) nf = rec59 at hrec59
      unfold F_X8_goesThrough_b59
      dsimp only
      refine s_iload hG dX8_goesThrough_59 rfl ?_
      refine s_iconst hG (v := (4 : Int32)) dX8_goesThrough_61 (by decide) ?_
      refine s_icmp_ge hG (tgt := 107) dX8_goesThrough_62 (by decide) ?_ ?_
      · refine s_aload_n hG dX8_goesThrough_107 rfl ?_
        refine s_getC hG dX8_goesThrough_108 fl_RX8_13 (rfl) ?_
        refine s_iload_n hG dX8_goesThrough_111 rfl ?_
        refine s_baload hG dX8_goesThrough_112 (rfl) ?_
        refine s_if_eq hG (tgt := 121) dX8_goesThrough_113 (by decide) ?_ ?_
        · refine s_lv hG [0, 1, 2, 3] rfl ?_
          exact hb121 _ hrec12 _ _
        · refine s_aload_n hG dX8_goesThrough_116 rfl ?_
          refine s_iload_n hG dX8_goesThrough_117 rfl ?_
          refine s_cvV hG (as := [vI x3]) (st := []) (rm := rm_X8_tells) dX8_goesThrough_118 ml_RX8_235 (rfl) (tb25 (mem_i 22 rfl)) rfl ⟨rfl, rfl⟩ ⟨by decide, by decide⟩ (Nat.le_of_ble_eq_true rfl) ⟨Nat.zero_le _, Nat.zero_le _⟩ rfl (fun o h => c_X8_tells l _ _ o h) (fun o118 => ?_)
          refine s_lv hG [0, 1, 2, 3] rfl ?_
          exact hb121 _ hrec12 _ _
      · refine s_aload_n hG dX8_goesThrough_65 rfl ?_
        refine s_iload hG dX8_goesThrough_66 rfl ?_
        refine s_if_ne hG (tgt := 76) dX8_goesThrough_68 (by decide) ?_ ?_
        · refine s_bipush hG (v := (44 : Int32)) dX8_goesThrough_76 (by decide) ?_
          exact hb78 _ hrec12 _ hrec59 _ _ _ _
        · refine s_bipush hG (v := (58 : Int32)) dX8_goesThrough_71 (by decide) ?_
          refine s_goto hG (tgt := 78) dX8_goesThrough_73 (by decide) ?_
          exact hb78 _ hrec12 _ hrec59 _ _ _ _
  have hb48 : ∀ (rec12 : HS × Int32 → Option (HS × Int32)) (hrec12 : ∀ (S : HS) (x3 : Int32), rec12 (S, x3) = some out → G 0 0 S [(0, vR 36), (1, vI p1), (2, vI p2), (3, vI x3)] 12 []) (S : HS) (x3 : Int32) (t1 : Int32), f_X8_goesThrough_b48 p1 p2 rec12 S x3 t1 = some out → G 0 0 S [(0, vR 36), (1, vI p1), (2, vI p2), (3, vI x3)] 48 [vI t1, vR 36] := by
    intro rec12 hrec12 S x3 t1
    unfold f_X8_goesThrough_b48
    refine s_cvV hG (as := [vI t1]) (st := []) (rm := rm_X8_sign) dX8_goesThrough_48 ml_RX8_227 (rfl) (tb25 (mem_i 16 rfl)) rfl ⟨rfl, rfl⟩ ⟨by decide, by decide⟩ (Nat.le_of_ble_eq_true rfl) ⟨Nat.zero_le _, Nat.zero_le _⟩ rfl (fun o h => c_X8_sign l _ _ o h) (fun o48 => ?_)
    refine s_aload_n hG dX8_goesThrough_51 rfl ?_
    refine s_iload_n hG dX8_goesThrough_52 rfl ?_
    refine s_cvV hG (as := [vI x3]) (st := []) (rm := rm_X8_signs) dX8_goesThrough_53 ml_RX8_232 (rfl) (tb25 (mem_i 19 rfl)) rfl ⟨rfl, rfl⟩ ⟨by decide, by decide⟩ (Nat.le_of_ble_eq_true rfl) ⟨Nat.zero_le _, Nat.zero_le _⟩ rfl (fun o h => c_X8_signs l _ _ o h) (fun o53 => ?_)
    refine s_iconst hG (v := (0 : Int32)) dX8_goesThrough_56 (by decide) ?_
    refine s_istore hG (lv' := [(4, vI (0 : Int32)), (0, vR 36), (1, vI p1), (2, vI p2), (3, vI x3)]) dX8_goesThrough_57 (by decide) rfl ?_
    refine s_lv hG [1, 2, 3, 4, 0] rfl ?_
    exact hb59 _ hrec12 _ _ _
  have hb12 : ∀ (S : HS) (x3 : Int32), f_X8_goesThrough_b12 p1 p2 S x3 = some out → G 0 0 S [(0, vR 36), (1, vI p1), (2, vI p2), (3, vI x3)] 12 [] := by
    intro  S x3
    unfold f_X8_goesThrough_b12
    generalize FU = nf
    revert S x3
    induction nf with
    | zero => intro S x3 h9; cases h9
    | succ nf hrec12 =>
      intro S x3
      show F_X8_goesThrough_b12 p1 p2 (fx (F_X8_goesThrough_b12 p1 p2) nf) (S, x3) = some out → _
      generalize fx (F_X8_goesThrough_b12 p1 p2) nf = rec12 at hrec12
      unfold F_X8_goesThrough_b12
      dsimp only
      refine s_iload_n hG dX8_goesThrough_12 rfl ?_
      refine s_bipush hG (v := (10 : Int32)) dX8_goesThrough_13 (by decide) ?_
      refine s_icmp_ge hG (tgt := 133) dX8_goesThrough_15 (by decide) ?_ ?_
      · refine s_iconst hG (v := (0 : Int32)) dX8_goesThrough_133 (by decide) ?_
        refine s_istore_n hG (lv' := [(3, vI (0 : Int32)), (0, vR 36), (1, vI p1), (2, vI p2)]) dX8_goesThrough_134 (by decide) rfl ?_
        refine s_lv hG [1, 2, 3, 0] rfl ?_
        exact hb135 _ _
      · refine s_aload_n hG dX8_goesThrough_18 rfl ?_
        refine s_getC hG dX8_goesThrough_19 fl_RX8_71 (rfl) ?_
        refine s_iload_n hG dX8_goesThrough_22 rfl ?_
        refine s_iaload hG dX8_goesThrough_23 (rfl) ?_
        refine s_iload_n hG dX8_goesThrough_24 rfl ?_
        refine s_csP hG (as := [vI (S.1 57 p1.toNatClampNeg), vI x3]) (st := []) (rm := rm_X8_has) dX8_goesThrough_25 ml_RX8_104 (tb20 (mem_i 2 rfl)) rfl ⟨rfl, rfl⟩ ⟨by decide, by decide⟩ (Nat.le_of_ble_eq_true rfl) ⟨Nat.zero_le _, Nat.zero_le _⟩ rfl (fun o h => c_X8_has l _ _ _ o h) (fun o25 => ?_)
        refine s_if_eq hG (tgt := 127) dX8_goesThrough_28 (by decide) ?_ ?_
        · exact hb127 _ hrec12 _ _
        · refine s_aload_n hG dX8_goesThrough_31 rfl ?_
          refine s_aload_n hG dX8_goesThrough_32 rfl ?_
          refine s_getC hG dX8_goesThrough_33 fl_RX8_13 (rfl) ?_
          refine s_iload_n hG dX8_goesThrough_36 rfl ?_
          refine s_baload hG dX8_goesThrough_37 (rfl) ?_
          refine s_if_eq hG (tgt := 46) dX8_goesThrough_38 (by decide) ?_ ?_
          · refine s_bipush hG (v := (98 : Int32)) dX8_goesThrough_46 (by decide) ?_
            exact hb48 _ hrec12 _ _ _
          · refine s_bipush hG (v := (116 : Int32)) dX8_goesThrough_41 (by decide) ?_
            refine s_goto hG (tgt := 48) dX8_goesThrough_43 (by decide) ?_
            exact hb48 _ hrec12 _ _ _
  unfold f_X8_goesThrough
  refine s_aload_n hG dX8_goesThrough_0 rfl ?_
  refine s_iload_n hG dX8_goesThrough_1 rfl ?_
  refine s_putI hG dX8_goesThrough_2 fl_RX8_221 fp_8_34 (rfl) ⟨rfl, rfl⟩ ?_
  refine s_aload_n hG dX8_goesThrough_5 rfl ?_
  refine s_iconst hG (v := (-1 : Int32)) dX8_goesThrough_6 (by decide) ?_
  refine s_putI hG dX8_goesThrough_7 fl_RX8_224 fp_8_35 (rfl) ⟨rfl, rfl⟩ ?_
  refine s_iconst hG (v := (0 : Int32)) dX8_goesThrough_10 (by decide) ?_
  refine s_istore_n hG (lv' := [(3, vI (0 : Int32)), (0, vR 36), (1, vI p1), (2, vI p2)]) dX8_goesThrough_11 (by decide) rfl ?_
  refine s_lv hG [1, 2, 3, 0] rfl ?_
  exact hb12 _ _

def f_X8_charOf_b83 (p1 : Int32) (p2 : Int32)  (S : HS) (t0 : Int32) : Option (HS × Int32) :=
if ch t0 = true then some (S, t0) else none
def f_X8_charOf_b67 (p1 : Int32) (p2 : Int32)  (S : HS) (t1 : Int32) : Option (HS × Int32) :=
(f_X8_can t1 S).bind (fun o67 =>
if o67.2 = 0 then
f_X8_charOf_b83 p1 p2  o67.1 (97 : Int32)
else
f_X8_charOf_b83 p1 p2  o67.1 (i2c (o67.1.1 36 35)))
def f_X8_charOf_b66 (p1 : Int32) (p2 : Int32)  (S : HS)  : Option (HS × Int32) :=
f_X8_charOf_b67 p1 p2  S (2 : Int32)
def f_X8_charOf_b37 (p1 : Int32) (p2 : Int32)  (S : HS) (x3 : Int32) : Option (HS × Int32) :=
(f_X8_isExport p1 S).bind (fun o40 =>
if o40 = 0 then
f_X8_charOf_b67 p1 p2  S (1 : Int32)
else
if x3 = 0 then
f_X8_charOf_b66 p1 p2  S
else
if (S.1 36 35) = (-1 : Int32) then
f_X8_charOf_b66 p1 p2  S
else
f_X8_charOf_b67 p1 p2  S (0 : Int32))
def f_X8_charOf_b25 (p1 : Int32) (p2 : Int32)  (S : HS) (t0 : Int32) : Option (HS × Int32) :=
if t0 = 0 then
f_X8_charOf_b37 p1 p2  S t0
else
(f_X8_goesThrough p1 p2 S).bind (fun o33 =>
f_X8_charOf_b37 p1 p2  o33.1 t0)
def f_X8_charOf_b24 (p1 : Int32) (p2 : Int32)  (S : HS)  : Option (HS × Int32) :=
f_X8_charOf_b25 p1 p2  S (0 : Int32)
def f_X8_charOf (p1 : Int32) (p2 : Int32) (S : HS) : Option (HS × Int32) :=
(f_X8_isExport p1 S).bind (fun o2 =>
if o2 = 0 then
f_X8_charOf_b24 p1 p2  S
else
if (S.1 36 30) ≤ p1 then
f_X8_charOf_b24 p1 p2  S
else
if p2 < 0 then
f_X8_charOf_b24 p1 p2  S
else
f_X8_charOf_b25 p1 p2  S (1 : Int32))
def rm_X8_charOf : Room := { frames := 3, cells := 0, slots := 0, locals := 68 }
set_option maxRecDepth 100000 in
set_option maxHeartbeats 4000000 in
theorem c_X8_charOf (l : Launch) (p1 : Int32) (p2 : Int32)  (S : HS) (out : HS × Int32) (h : f_X8_charOf p1 p2 S = some out) : Ct l yX8_charOf cX8_charOf 4 (some .char) rm_X8_charOf [vR 36, vI p1, vI p2] S (some (vI out.2)) out.1 := by
  refine Ct.intro (own := RX8) (lv := [(0, vR 36), (1, vI p1), (2, vI p2)]) (by decide +kernel) rfl ⟨rfl, rfl⟩ rfl (Nat.le_of_ble_eq_true rfl) ?_
  intro G hG hR
  revert h
  have hb83 : ∀ (S : HS) (t0 : Int32), f_X8_charOf_b83 p1 p2 S t0 = some out → G 0 0 S [] 83 [vI t0] := by
    intro S t0
    unfold f_X8_charOf_b83
    exact s_rcC hR dX8_charOf_83
  have hb67 : ∀ (S : HS) (t1 : Int32), f_X8_charOf_b67 p1 p2 S t1 = some out → G 0 0 S [(0, vR 36)] 67 [vI t1, vR 36] := by
    intro S t1
    unfold f_X8_charOf_b67
    refine s_cvI hG (as := [vI t1]) (st := []) (rm := rm_X8_can) dX8_charOf_67 ml_RX8_100 (rfl) (tb19 (mem_i 3 rfl)) rfl ⟨rfl, rfl⟩ ⟨by decide, by decide⟩ (Nat.le_of_ble_eq_true rfl) ⟨Nat.zero_le _, Nat.zero_le _⟩ rfl (fun o h => c_X8_can l _ _ o h) (fun o67 => ?_)
    refine s_if_eq hG (tgt := 81) dX8_charOf_70 (by decide) ?_ ?_
    · refine s_bipush hG (v := (97 : Int32)) dX8_charOf_81 (by decide) ?_
      refine s_lv hG [] rfl ?_
      exact hb83 _ _
    · refine s_aload_n hG dX8_charOf_73 rfl ?_
      refine s_getI hG dX8_charOf_74 fl_RX8_224 (rfl) ?_
      refine s_i2c hG dX8_charOf_77 ?_
      refine s_goto hG (tgt := 83) dX8_charOf_78 (by decide) ?_
      refine s_lv hG [] rfl ?_
      exact hb83 _ _
  have hb66 : ∀ (S : HS), f_X8_charOf_b66 p1 p2 S  = some out → G 0 0 S [(0, vR 36)] 66 [vR 36] := by
    intro S
    unfold f_X8_charOf_b66
    refine s_iconst hG (v := (2 : Int32)) dX8_charOf_66 (by decide) ?_
    exact hb67 _ _
  have hb37 : ∀ (S : HS) (x3 : Int32), f_X8_charOf_b37 p1 p2 S x3 = some out → G 0 0 S [(0, vR 36), (1, vI p1), (3, vI x3)] 37 [] := by
    intro S x3
    unfold f_X8_charOf_b37
    refine s_aload_n hG dX8_charOf_37 rfl ?_
    refine s_aload_n hG dX8_charOf_38 rfl ?_
    refine s_iload_n hG dX8_charOf_39 rfl ?_
    refine s_cvP hG (as := [vI p1]) (st := [vR 36]) (rm := rm_X8_isExport) dX8_charOf_40 ml_RX8_238 (rfl) (tb25 (mem_i 10 rfl)) rfl ⟨rfl, rfl⟩ ⟨by decide, by decide⟩ (Nat.le_of_ble_eq_true rfl) ⟨Nat.zero_le _, Nat.zero_le _⟩ rfl (fun o h => c_X8_isExport l _ _ o h) (fun o40 => ?_)
    refine s_if_ne hG (tgt := 50) dX8_charOf_43 (by decide) ?_ ?_
    · refine s_iload_n hG dX8_charOf_50 rfl ?_
      refine s_if_eq hG (tgt := 66) dX8_charOf_51 (by decide) ?_ ?_
      · refine s_lv hG [0] rfl ?_
        exact hb66 _
      · refine s_aload_n hG dX8_charOf_54 rfl ?_
        refine s_getI hG dX8_charOf_55 fl_RX8_224 (rfl) ?_
        refine s_iconst hG (v := (-1 : Int32)) dX8_charOf_58 (by decide) ?_
        refine s_icmp_eq hG (tgt := 66) dX8_charOf_59 (by decide) ?_ ?_
        · refine s_lv hG [0] rfl ?_
          exact hb66 _
        · refine s_iconst hG (v := (0 : Int32)) dX8_charOf_62 (by decide) ?_
          refine s_goto hG (tgt := 67) dX8_charOf_63 (by decide) ?_
          refine s_lv hG [0] rfl ?_
          exact hb67 _ _
    · refine s_iconst hG (v := (1 : Int32)) dX8_charOf_46 (by decide) ?_
      refine s_goto hG (tgt := 67) dX8_charOf_47 (by decide) ?_
      refine s_lv hG [0] rfl ?_
      exact hb67 _ _
  have hb25 : ∀ (S : HS) (t0 : Int32), f_X8_charOf_b25 p1 p2 S t0 = some out → G 0 0 S [(0, vR 36), (1, vI p1), (2, vI p2)] 25 [vI t0] := by
    intro S t0
    unfold f_X8_charOf_b25
    refine s_istore_n hG (lv' := [(3, vI t0), (0, vR 36), (1, vI p1), (2, vI p2)]) dX8_charOf_25 (by decide) rfl ?_
    refine s_iload_n hG dX8_charOf_26 rfl ?_
    refine s_if_eq hG (tgt := 37) dX8_charOf_27 (by decide) ?_ ?_
    · refine s_lv hG [1, 2, 0] rfl ?_
      exact hb37 _ _
    · refine s_aload_n hG dX8_charOf_30 rfl ?_
      refine s_iload_n hG dX8_charOf_31 rfl ?_
      refine s_iload_n hG dX8_charOf_32 rfl ?_
      refine s_cvI hG (as := [vI p1, vI p2]) (st := []) (rm := rm_X8_goesThrough) dX8_charOf_33 ml_RX8_241 (rfl) (tb25 (mem_i 13 rfl)) rfl ⟨rfl, rfl⟩ ⟨by decide, by decide⟩ (Nat.le_of_ble_eq_true rfl) ⟨Nat.zero_le _, Nat.zero_le _⟩ rfl (fun o h => c_X8_goesThrough l _ _ _ o h) (fun o33 => ?_)
      refine s_pop hG dX8_charOf_36 rfl ?_
      refine s_lv hG [1, 2, 0] rfl ?_
      exact hb37 _ _
  have hb24 : ∀ (S : HS), f_X8_charOf_b24 p1 p2 S  = some out → G 0 0 S [(0, vR 36), (1, vI p1), (2, vI p2)] 24 [] := by
    intro S
    unfold f_X8_charOf_b24
    refine s_iconst hG (v := (0 : Int32)) dX8_charOf_24 (by decide) ?_
    exact hb25 _ _
  unfold f_X8_charOf
  refine s_aload_n hG dX8_charOf_0 rfl ?_
  refine s_iload_n hG dX8_charOf_1 rfl ?_
  refine s_cvP hG (as := [vI p1]) (st := []) (rm := rm_X8_isExport) dX8_charOf_2 ml_RX8_238 (rfl) (tb25 (mem_i 10 rfl)) rfl ⟨rfl, rfl⟩ ⟨by decide, by decide⟩ (Nat.le_of_ble_eq_true rfl) ⟨Nat.zero_le _, Nat.zero_le _⟩ rfl (fun o h => c_X8_isExport l _ _ o h) (fun o2 => ?_)
  refine s_if_eq hG (tgt := 24) dX8_charOf_5 (by decide) ?_ ?_
  · exact hb24 _
  · refine s_iload_n hG dX8_charOf_8 rfl ?_
    refine s_aload_n hG dX8_charOf_9 rfl ?_
    refine s_getI hG dX8_charOf_10 fl_RX8_218 (rfl) ?_
    refine s_icmp_ge hG (tgt := 24) dX8_charOf_13 (by decide) ?_ ?_
    · exact hb24 _
    · refine s_iload_n hG dX8_charOf_16 rfl ?_
      refine s_if_lt hG (tgt := 24) dX8_charOf_17 (by decide) ?_ ?_
      · exact hb24 _
      · refine s_iconst hG (v := (1 : Int32)) dX8_charOf_20 (by decide) ?_
        refine s_goto hG (tgt := 25) dX8_charOf_21 (by decide) ?_
        exact hb25 _ _

def f_X8_charAnew (p1 : Int32) (p2 : Int32) (S : HS) : Option (HS × Int32) :=
(f_X8_charOf p1 p2 S).bind (fun o3 =>
if ch o3.2 = true then some (o3.1, o3.2) else none)
def rm_X8_charAnew : Room := { frames := 4, cells := 0, slots := 0, locals := 91 }
set_option maxRecDepth 100000 in
set_option maxHeartbeats 4000000 in
theorem c_X8_charAnew (l : Launch) (p1 : Int32) (p2 : Int32)  (S : HS) (out : HS × Int32) (h : f_X8_charAnew p1 p2 S = some out) : Ct l yX8_charAnew cX8_charAnew 3 (some .char) rm_X8_charAnew [vR 36, vI p1, vI p2] S (some (vI out.2)) out.1 := by
  refine Ct.intro (own := RX8) (lv := [(0, vR 36), (1, vI p1), (2, vI p2)]) (by decide +kernel) rfl ⟨rfl, rfl⟩ rfl (Nat.le_of_ble_eq_true rfl) ?_
  intro G hG hR
  revert h
  unfold f_X8_charAnew
  refine s_aload_n hG dX8_charAnew_0 rfl ?_
  refine s_iload_n hG dX8_charAnew_1 rfl ?_
  refine s_iload_n hG dX8_charAnew_2 rfl ?_
  refine s_cvI hG (as := [vI p1, vI p2]) (st := []) (rm := rm_X8_charOf) dX8_charAnew_3 ml_RX8_244 (rfl) (tb26 (mem_i 1 rfl)) rfl ⟨rfl, rfl⟩ ⟨by decide, by decide⟩ (Nat.le_of_ble_eq_true rfl) ⟨Nat.zero_le _, Nat.zero_le _⟩ rfl (fun o h => c_X8_charOf l _ _ _ o h) (fun o3 => ?_)
  exact s_rcC hR dX8_charAnew_6

def f_X8_charAt (p1 : Int32) (p2 : Int32) (S : HS) : Option (HS × Int32) :=
(f_X8_charOf p1 p2 S).bind (fun o3 =>
if ch o3.2 = true then some (o3.1, o3.2) else none)
def rm_X8_charAt : Room := { frames := 4, cells := 0, slots := 0, locals := 91 }
set_option maxRecDepth 100000 in
set_option maxHeartbeats 4000000 in
theorem c_X8_charAt (l : Launch) (p1 : Int32) (p2 : Int32)  (S : HS) (out : HS × Int32) (h : f_X8_charAt p1 p2 S = some out) : Ct l yX8_charAt cX8_charAt 3 (some .char) rm_X8_charAt [vR 36, vI p1, vI p2] S (some (vI out.2)) out.1 := by
  refine Ct.intro (own := RX8) (lv := [(0, vR 36), (1, vI p1), (2, vI p2)]) (by decide +kernel) rfl ⟨rfl, rfl⟩ rfl (Nat.le_of_ble_eq_true rfl) ?_
  intro G hG hR
  revert h
  unfold f_X8_charAt
  refine s_aload_n hG dX8_charAt_0 rfl ?_
  refine s_iload_n hG dX8_charAt_1 rfl ?_
  refine s_iload_n hG dX8_charAt_2 rfl ?_
  refine s_cvI hG (as := [vI p1, vI p2]) (st := []) (rm := rm_X8_charOf) dX8_charAt_3 ml_RX8_244 (rfl) (tb26 (mem_i 1 rfl)) rfl ⟨rfl, rfl⟩ ⟨by decide, by decide⟩ (Nat.le_of_ble_eq_true rfl) ⟨Nat.zero_le _, Nat.zero_le _⟩ rfl (fun o h => c_X8_charOf l _ _ _ o h) (fun o3 => ?_)
  exact s_rcC hR dX8_charAt_6

def f_X8_isAct (p1 : Int32) (S : HS) : Option (Int32) :=
(f_X8_isIn p1 (0 : Int32) ((S.1 36 12) - (1 : Int32)) S).bind (fun o8 =>
if nz o8 = true then some o8 else none)
def rm_X8_isAct : Room := { frames := 1, cells := 0, slots := 0, locals := 22 }
set_option maxRecDepth 100000 in
set_option maxHeartbeats 4000000 in
theorem c_X8_isAct (l : Launch) (p1 : Int32)  (S : HS) (out : Int32) (h : f_X8_isAct p1 S = some out) : Ct l yX8_isAct cX8_isAct 2 (some .boolean) rm_X8_isAct [vR 36, vI p1] S (some (vI out)) S := by
  refine Ct.intro (own := RX8) (lv := [(0, vR 36), (1, vI p1)]) (by decide +kernel) rfl ⟨rfl, rfl⟩ rfl (Nat.le_of_ble_eq_true rfl) ?_
  intro G hG hR
  revert h
  unfold f_X8_isAct
  refine s_iload_n hG dX8_isAct_0 rfl ?_
  refine s_iconst hG (v := (0 : Int32)) dX8_isAct_1 (by decide) ?_
  refine s_aload_n hG dX8_isAct_2 rfl ?_
  refine s_getI hG dX8_isAct_3 fl_RX8_94 (rfl) ?_
  refine s_iconst hG (v := (1 : Int32)) dX8_isAct_6 (by decide) ?_
  refine s_isub hG dX8_isAct_7 ?_
  refine s_csP hG (as := [vI p1, vI (0 : Int32), vI ((S.1 36 12) - (1 : Int32))]) (st := []) (rm := rm_X8_isIn) dX8_isAct_8 ml_RX8_84 (tb19 (mem_i 0 rfl)) rfl ⟨rfl, rfl⟩ ⟨by decide, by decide⟩ (Nat.le_of_ble_eq_true rfl) ⟨Nat.zero_le _, Nat.zero_le _⟩ rfl (fun o h => c_X8_isIn l _ _ _ _ o h) (fun o8 => ?_)
  exact s_rzP hR dX8_isAct_11

def f_X8_counts_b33 (p1 : Int32)  (S : HS) (t0 : Int32) : Option (HS × Int32) :=
if nz t0 = true then some (S, t0) else none
def f_X8_counts_b32 (p1 : Int32)  (S : HS)  : Option (HS × Int32) :=
f_X8_counts_b33 p1  S (0 : Int32)
def f_X8_counts_b14 (p1 : Int32)  (S : HS) (t1 : Int32) : Option (HS × Int32) :=
(f_X8_can t1 S).bind (fun o14 =>
if o14.2 = 0 then
f_X8_counts_b32 p1  o14.1
else
(f_X8_isOnWay p1 o14.1).bind (fun o22 =>
if o22 = 0 then
f_X8_counts_b32 p1  o14.1
else
f_X8_counts_b33 p1  o14.1 (1 : Int32)))
def f_X8_counts (p1 : Int32) (S : HS) : Option (HS × Int32) :=
(f_X8_isAct p1 S).bind (fun o3 =>
if o3 = 0 then
f_X8_counts_b14 p1  S (1 : Int32)
else
f_X8_counts_b14 p1  S (0 : Int32))
def rm_X8_counts : Room := { frames := 2, cells := 0, slots := 0, locals := 43 }
set_option maxRecDepth 100000 in
set_option maxHeartbeats 4000000 in
theorem c_X8_counts (l : Launch) (p1 : Int32)  (S : HS) (out : HS × Int32) (h : f_X8_counts p1 S = some out) : Ct l yX8_counts cX8_counts 2 (some .boolean) rm_X8_counts [vR 36, vI p1] S (some (vI out.2)) out.1 := by
  refine Ct.intro (own := RX8) (lv := [(0, vR 36), (1, vI p1)]) (by decide +kernel) rfl ⟨rfl, rfl⟩ rfl (Nat.le_of_ble_eq_true rfl) ?_
  intro G hG hR
  revert h
  have hb33 : ∀ (S : HS) (t0 : Int32), f_X8_counts_b33 p1 S t0 = some out → G 0 0 S [] 33 [vI t0] := by
    intro S t0
    unfold f_X8_counts_b33
    exact s_rzC hR dX8_counts_33
  have hb32 : ∀ (S : HS), f_X8_counts_b32 p1 S  = some out → G 0 0 S [] 32 [] := by
    intro S
    unfold f_X8_counts_b32
    refine s_iconst hG (v := (0 : Int32)) dX8_counts_32 (by decide) ?_
    exact hb33 _ _
  have hb14 : ∀ (S : HS) (t1 : Int32), f_X8_counts_b14 p1 S t1 = some out → G 0 0 S [(0, vR 36), (1, vI p1)] 14 [vI t1, vR 36] := by
    intro S t1
    unfold f_X8_counts_b14
    refine s_cvI hG (as := [vI t1]) (st := []) (rm := rm_X8_can) dX8_counts_14 ml_RX8_100 (rfl) (tb19 (mem_i 3 rfl)) rfl ⟨rfl, rfl⟩ ⟨by decide, by decide⟩ (Nat.le_of_ble_eq_true rfl) ⟨Nat.zero_le _, Nat.zero_le _⟩ rfl (fun o h => c_X8_can l _ _ o h) (fun o14 => ?_)
    refine s_if_eq hG (tgt := 32) dX8_counts_17 (by decide) ?_ ?_
    · refine s_lv hG [] rfl ?_
      exact hb32 _
    · refine s_aload_n hG dX8_counts_20 rfl ?_
      refine s_iload_n hG dX8_counts_21 rfl ?_
      refine s_cvP hG (as := [vI p1]) (st := []) (rm := rm_X8_isOnWay) dX8_counts_22 ml_RX8_156 (rfl) (tb22 (mem_i 20 rfl)) rfl ⟨rfl, rfl⟩ ⟨by decide, by decide⟩ (Nat.le_of_ble_eq_true rfl) ⟨Nat.zero_le _, Nat.zero_le _⟩ rfl (fun o h => c_X8_isOnWay l _ _ o h) (fun o22 => ?_)
      refine s_if_eq hG (tgt := 32) dX8_counts_25 (by decide) ?_ ?_
      · refine s_lv hG [] rfl ?_
        exact hb32 _
      · refine s_iconst hG (v := (1 : Int32)) dX8_counts_28 (by decide) ?_
        refine s_goto hG (tgt := 33) dX8_counts_29 (by decide) ?_
        refine s_lv hG [] rfl ?_
        exact hb33 _ _
  unfold f_X8_counts
  refine s_aload_n hG dX8_counts_0 rfl ?_
  refine s_aload_n hG dX8_counts_1 rfl ?_
  refine s_iload_n hG dX8_counts_2 rfl ?_
  refine s_cvP hG (as := [vI p1]) (st := [vR 36]) (rm := rm_X8_isAct) dX8_counts_3 ml_RX8_209 (rfl) (tb23 (mem_i 20 rfl)) rfl ⟨rfl, rfl⟩ ⟨by decide, by decide⟩ (Nat.le_of_ble_eq_true rfl) ⟨Nat.zero_le _, Nat.zero_le _⟩ rfl (fun o h => c_X8_isAct l _ _ o h) (fun o3 => ?_)
  refine s_if_eq hG (tgt := 13) dX8_counts_6 (by decide) ?_ ?_
  · refine s_iconst hG (v := (1 : Int32)) dX8_counts_13 (by decide) ?_
    exact hb14 _ _
  · refine s_iconst hG (v := (0 : Int32)) dX8_counts_9 (by decide) ?_
    refine s_goto hG (tgt := 14) dX8_counts_10 (by decide) ?_
    exact hb14 _ _

def F_X8_size_b4 (p0 : Int32)  (S : HS) (rec4 : Int32 × Int32 → Option (Int32)) : Int32 × Int32 → Option (Int32) := fun q => match q with
  | (x1, x2) =>
    if (12 : Int32) ≤ x2 then
    some x1
    else
    rec4 ((x1 + ((p0 >>> (x2 &&& 31)) &&& (1 : Int32))), (x2 + (1 : Int32)))
def f_X8_size_b4 (p0 : Int32)  (S : HS) (x1 : Int32) (x2 : Int32) : Option (Int32) := fx (F_X8_size_b4 p0 S) FU (x1, x2)
def f_X8_size (p0 : Int32) (S : HS) : Option (Int32) :=
f_X8_size_b4 p0  S (0 : Int32) (0 : Int32)
def rm_X8_size : Room := { frames := 0, cells := 0, slots := 0, locals := 0 }
set_option maxRecDepth 100000 in
set_option maxHeartbeats 4000000 in
theorem c_X8_size (l : Launch) (p0 : Int32)  (S : HS) (out : Int32) (h : f_X8_size p0 S = some out) : Ct l yX8_size cX8_size 3 (some .int) rm_X8_size [vI p0] S (some (vI out)) S := by
  refine Ct.intro (own := RX8) (lv := [(0, vI p0)]) (by decide +kernel) rfl ⟨rfl, rfl⟩ rfl (Nat.le_of_ble_eq_true rfl) ?_
  intro G hG hR
  revert h
  have hb4 : ∀ (x1 : Int32) (x2 : Int32), f_X8_size_b4 p0 S x1 x2 = some out → G 0 0 S [(0, vI p0), (1, vI x1), (2, vI x2)] 4 [] := by
    intro  x1 x2
    unfold f_X8_size_b4
    generalize FU = nf
    revert x1 x2
    induction nf with
    | zero => intro x1 x2 h9; cases h9
    | succ nf hrec4 =>
      intro x1 x2
      show F_X8_size_b4 p0 S (fx (F_X8_size_b4 p0 S) nf) (x1, x2) = some out → _
      generalize fx (F_X8_size_b4 p0 S) nf = rec4 at hrec4
      unfold F_X8_size_b4
      dsimp only
      refine s_iload_n hG dX8_size_4 rfl ?_
      refine s_bipush hG (v := (12 : Int32)) dX8_size_5 (by decide) ?_
      refine s_icmp_ge hG (tgt := 24) dX8_size_7 (by decide) ?_ ?_
      · refine s_iload_n hG dX8_size_24 rfl ?_
        exact s_riP hR dX8_size_25
      · refine s_iload_n hG dX8_size_10 rfl ?_
        refine s_iload_n hG dX8_size_11 rfl ?_
        refine s_iload_n hG dX8_size_12 rfl ?_
        refine s_ishr hG dX8_size_13 ?_
        refine s_iconst hG (v := (1 : Int32)) dX8_size_14 (by decide) ?_
        refine s_iand hG dX8_size_15 ?_
        refine s_iadd hG dX8_size_16 ?_
        refine s_istore_n hG (lv' := [(1, vI (x1 + ((p0 >>> (x2 &&& 31)) &&& (1 : Int32)))), (0, vI p0), (2, vI x2)]) dX8_size_17 (by decide) rfl ?_
        refine s_iinc hG (v := (x2 + (1 : Int32))) (lv' := [(2, vI (x2 + (1 : Int32))), (1, vI (x1 + ((p0 >>> (x2 &&& 31)) &&& (1 : Int32)))), (0, vI p0)]) dX8_size_18 rfl rfl (by decide) rfl ?_
        refine s_goto hG (tgt := 4) dX8_size_21 (by decide) ?_
        refine s_lv hG [2, 1, 0] rfl ?_
        exact hrec4 _ _
  unfold f_X8_size
  refine s_iconst hG (v := (0 : Int32)) dX8_size_0 (by decide) ?_
  refine s_istore_n hG (lv' := [(1, vI (0 : Int32)), (0, vI p0)]) dX8_size_1 (by decide) rfl ?_
  refine s_iconst hG (v := (0 : Int32)) dX8_size_2 (by decide) ?_
  refine s_istore_n hG (lv' := [(2, vI (0 : Int32)), (1, vI (0 : Int32)), (0, vI p0)]) dX8_size_3 (by decide) rfl ?_
  refine s_lv hG [2, 1, 0] rfl ?_
  exact hb4 _ _

def f_X8_isRule (p1 : Int32) (S : HS) : Option (Int32) :=
(f_X8_isIn p1 (0 : Int32) ((S.1 36 7) - (1 : Int32)) S).bind (fun o8 =>
if nz o8 = true then some o8 else none)
def rm_X8_isRule : Room := { frames := 1, cells := 0, slots := 0, locals := 22 }
set_option maxRecDepth 100000 in
set_option maxHeartbeats 4000000 in
theorem c_X8_isRule (l : Launch) (p1 : Int32)  (S : HS) (out : Int32) (h : f_X8_isRule p1 S = some out) : Ct l yX8_isRule cX8_isRule 2 (some .boolean) rm_X8_isRule [vR 36, vI p1] S (some (vI out)) S := by
  refine Ct.intro (own := RX8) (lv := [(0, vR 36), (1, vI p1)]) (by decide +kernel) rfl ⟨rfl, rfl⟩ rfl (Nat.le_of_ble_eq_true rfl) ?_
  intro G hG hR
  revert h
  unfold f_X8_isRule
  refine s_iload_n hG dX8_isRule_0 rfl ?_
  refine s_iconst hG (v := (0 : Int32)) dX8_isRule_1 (by decide) ?_
  refine s_aload_n hG dX8_isRule_2 rfl ?_
  refine s_getI hG dX8_isRule_3 fl_RX8_91 (rfl) ?_
  refine s_iconst hG (v := (1 : Int32)) dX8_isRule_6 (by decide) ?_
  refine s_isub hG dX8_isRule_7 ?_
  refine s_csP hG (as := [vI p1, vI (0 : Int32), vI ((S.1 36 7) - (1 : Int32))]) (st := []) (rm := rm_X8_isIn) dX8_isRule_8 ml_RX8_84 (tb19 (mem_i 0 rfl)) rfl ⟨rfl, rfl⟩ ⟨by decide, by decide⟩ (Nat.le_of_ble_eq_true rfl) ⟨Nat.zero_le _, Nat.zero_le _⟩ rfl (fun o h => c_X8_isIn l _ _ _ _ o h) (fun o8 => ?_)
  exact s_rzP hR dX8_isRule_11

def f_X8_drop_b82 (p1 : Int32) (p2 : Int32)  (S : HS) (t1 : Int32) : Option (HS × Int32) :=
(f_X8_can t1 S).bind (fun o82 =>
if o82.2 = 0 then
some (o82.1, (0 : Int32))
else
(f_X8_makes o82.1).bind (fun o91 =>
(f_X8_size (o91.1.1 36 22) o91.1).bind (fun o99 =>
some (o91.1, o99))))
def f_X8_drop_b63 (p1 : Int32) (p2 : Int32)  (S : HS) (x3 : Int32) (x4 : Int32) : Option (HS × Int32) :=
if x3 = 0 then
f_X8_drop_b82 p1 p2  S (1 : Int32)
else
if x4 = 0 then
f_X8_drop_b82 p1 p2  S (2 : Int32)
else
f_X8_drop_b82 p1 p2  S (0 : Int32)
def f_X8_drop_b39 (p1 : Int32) (p2 : Int32)  (S : HS) (x3 : Int32) (t0 : Int32) : Option (HS × Int32) :=
if t0 = 0 then
f_X8_drop_b63 p1 p2  S x3 t0
else
(f_X8_writes p1 (4 : Int32) p2 (0 : Int32) (0 : Int32) (0 : Int32) (0 : Int32) S).bind (fun o54 =>
(f_X8_canMake o54).bind (fun o58 =>
f_X8_drop_b63 p1 p2  o58.1 x3 o58.2))
def f_X8_drop_b38 (p1 : Int32) (p2 : Int32)  (S : HS) (x3 : Int32) : Option (HS × Int32) :=
f_X8_drop_b39 p1 p2  S x3 (0 : Int32)
def f_X8_drop_b20 (p1 : Int32) (p2 : Int32)  (S : HS) (t0 : Int32) : Option (HS × Int32) :=
if t0 = 0 then
f_X8_drop_b38 p1 p2  S t0
else
if (60 : Int32) ≤ (S.1 36 12) then
f_X8_drop_b38 p1 p2  S t0
else
f_X8_drop_b39 p1 p2  S t0 (1 : Int32)
def f_X8_drop_b19 (p1 : Int32) (p2 : Int32)  (S : HS)  : Option (HS × Int32) :=
f_X8_drop_b20 p1 p2  S (0 : Int32)
def f_X8_drop (p1 : Int32) (p2 : Int32) (S : HS) : Option (HS × Int32) :=
(f_X8_isDrawer p1 S).bind (fun o1 =>
if o1 = 0 then
f_X8_drop_b19 p1 p2  S
else
(f_X8_isRule p2 S).bind (fun o9 =>
if o9 = 0 then
f_X8_drop_b19 p1 p2  S
else
f_X8_drop_b20 p1 p2  S (1 : Int32)))
def rm_X8_drop : Room := { frames := 6, cells := 0, slots := 0, locals := 150 }
set_option maxRecDepth 100000 in
set_option maxHeartbeats 4000000 in
theorem c_X8_drop (l : Launch) (p1 : Int32) (p2 : Int32)  (S : HS) (out : HS × Int32) (h : f_X8_drop p1 p2 S = some out) : Ct l yX8_drop cX8_drop 5 (some .int) rm_X8_drop [vR 36, vI p1, vI p2] S (some (vI out.2)) out.1 := by
  refine Ct.intro (own := RX8) (lv := [(0, vR 36), (1, vI p1), (2, vI p2)]) (by decide +kernel) rfl ⟨rfl, rfl⟩ rfl (Nat.le_of_ble_eq_true rfl) ?_
  intro G hG hR
  revert h
  have hb82 : ∀ (S : HS) (t1 : Int32), f_X8_drop_b82 p1 p2 S t1 = some out → G 0 0 S [(0, vR 36)] 82 [vI t1, vR 36] := by
    intro S t1
    unfold f_X8_drop_b82
    refine s_cvI hG (as := [vI t1]) (st := []) (rm := rm_X8_can) dX8_drop_82 ml_RX8_100 (rfl) (tb19 (mem_i 3 rfl)) rfl ⟨rfl, rfl⟩ ⟨by decide, by decide⟩ (Nat.le_of_ble_eq_true rfl) ⟨Nat.zero_le _, Nat.zero_le _⟩ rfl (fun o h => c_X8_can l _ _ o h) (fun o82 => ?_)
    refine s_if_ne hG (tgt := 90) dX8_drop_85 (by decide) ?_ ?_
    · refine s_aload_n hG dX8_drop_90 rfl ?_
      refine s_cvI hG (as := []) (st := []) (rm := rm_X8_makes) dX8_drop_91 ml_RX8_170 (rfl) (tb21 (mem_i 2 rfl)) rfl ⟨rfl, rfl⟩ ⟨by decide, by decide⟩ (Nat.le_of_ble_eq_true rfl) ⟨Nat.zero_le _, Nat.zero_le _⟩ rfl (fun o h => c_X8_makes l  _ o h) (fun o91 => ?_)
      refine s_pop hG dX8_drop_94 rfl ?_
      refine s_aload_n hG dX8_drop_95 rfl ?_
      refine s_getI hG dX8_drop_96 fl_RX8_145 (rfl) ?_
      refine s_csP hG (as := [vI (o91.1.1 36 22)]) (st := []) (rm := rm_X8_size) dX8_drop_99 ml_RX8_199 (tb22 (mem_i 10 rfl)) rfl ⟨rfl, rfl⟩ ⟨by decide, by decide⟩ (Nat.le_of_ble_eq_true rfl) ⟨Nat.zero_le _, Nat.zero_le _⟩ rfl (fun o h => c_X8_size l _ _ o h) (fun o99 => ?_)
      exact s_riC hR dX8_drop_102
    · refine s_iconst hG (v := (0 : Int32)) dX8_drop_88 (by decide) ?_
      exact s_riC hR dX8_drop_89
  have hb63 : ∀ (S : HS) (x3 : Int32) (x4 : Int32), f_X8_drop_b63 p1 p2 S x3 x4 = some out → G 0 0 S [(0, vR 36), (3, vI x3), (4, vI x4)] 63 [] := by
    intro S x3 x4
    unfold f_X8_drop_b63
    refine s_aload_n hG dX8_drop_63 rfl ?_
    refine s_iload_n hG dX8_drop_64 rfl ?_
    refine s_if_ne hG (tgt := 72) dX8_drop_65 (by decide) ?_ ?_
    · refine s_iload hG dX8_drop_72 rfl ?_
      refine s_if_eq hG (tgt := 81) dX8_drop_74 (by decide) ?_ ?_
      · refine s_iconst hG (v := (2 : Int32)) dX8_drop_81 (by decide) ?_
        refine s_lv hG [0] rfl ?_
        exact hb82 _ _
      · refine s_iconst hG (v := (0 : Int32)) dX8_drop_77 (by decide) ?_
        refine s_goto hG (tgt := 82) dX8_drop_78 (by decide) ?_
        refine s_lv hG [0] rfl ?_
        exact hb82 _ _
    · refine s_iconst hG (v := (1 : Int32)) dX8_drop_68 (by decide) ?_
      refine s_goto hG (tgt := 82) dX8_drop_69 (by decide) ?_
      refine s_lv hG [0] rfl ?_
      exact hb82 _ _
  have hb39 : ∀ (S : HS) (x3 : Int32) (t0 : Int32), f_X8_drop_b39 p1 p2 S x3 t0 = some out → G 0 0 S [(0, vR 36), (1, vI p1), (2, vI p2), (3, vI x3)] 39 [vI t0] := by
    intro S x3 t0
    unfold f_X8_drop_b39
    refine s_istore hG (lv' := [(4, vI t0), (0, vR 36), (1, vI p1), (2, vI p2), (3, vI x3)]) dX8_drop_39 (by decide) rfl ?_
    refine s_iload hG dX8_drop_41 rfl ?_
    refine s_if_eq hG (tgt := 63) dX8_drop_43 (by decide) ?_ ?_
    · refine s_lv hG [1, 4, 0] rfl ?_
      exact hb63 _ _ _
    · refine s_aload_n hG dX8_drop_46 rfl ?_
      refine s_iload_n hG dX8_drop_47 rfl ?_
      refine s_iconst hG (v := (4 : Int32)) dX8_drop_48 (by decide) ?_
      refine s_iload_n hG dX8_drop_49 rfl ?_
      refine s_iconst hG (v := (0 : Int32)) dX8_drop_50 (by decide) ?_
      refine s_iconst hG (v := (0 : Int32)) dX8_drop_51 (by decide) ?_
      refine s_iconst hG (v := (0 : Int32)) dX8_drop_52 (by decide) ?_
      refine s_iconst hG (v := (0 : Int32)) dX8_drop_53 (by decide) ?_
      refine s_cvV hG (as := [vI p1, vI (4 : Int32), vI p2, vI (0 : Int32), vI (0 : Int32), vI (0 : Int32), vI (0 : Int32)]) (st := []) (rm := rm_X8_writes) dX8_drop_54 ml_RX8_166 (rfl) (tb19 (mem_i 26 rfl)) rfl ⟨rfl, rfl⟩ ⟨by decide, by decide⟩ (Nat.le_of_ble_eq_true rfl) ⟨Nat.zero_le _, Nat.zero_le _⟩ rfl (fun o h => c_X8_writes l _ _ _ _ _ _ _ _ o h) (fun o54 => ?_)
      refine s_aload_n hG dX8_drop_57 rfl ?_
      refine s_cvI hG (as := []) (st := []) (rm := rm_X8_canMake) dX8_drop_58 ml_RX8_189 (rfl) (tb21 (mem_i 22 rfl)) rfl ⟨rfl, rfl⟩ ⟨by decide, by decide⟩ (Nat.le_of_ble_eq_true rfl) ⟨Nat.zero_le _, Nat.zero_le _⟩ rfl (fun o h => c_X8_canMake l  _ o h) (fun o58 => ?_)
      refine s_istore hG (lv' := [(4, vI o58.2), (0, vR 36), (1, vI p1), (2, vI p2), (3, vI x3)]) dX8_drop_61 (by decide) rfl ?_
      refine s_lv hG [1, 4, 0] rfl ?_
      exact hb63 _ _ _
  have hb38 : ∀ (S : HS) (x3 : Int32), f_X8_drop_b38 p1 p2 S x3 = some out → G 0 0 S [(0, vR 36), (1, vI p1), (2, vI p2), (3, vI x3)] 38 [] := by
    intro S x3
    unfold f_X8_drop_b38
    refine s_iconst hG (v := (0 : Int32)) dX8_drop_38 (by decide) ?_
    exact hb39 _ _ _
  have hb20 : ∀ (S : HS) (t0 : Int32), f_X8_drop_b20 p1 p2 S t0 = some out → G 0 0 S [(0, vR 36), (1, vI p1), (2, vI p2)] 20 [vI t0] := by
    intro S t0
    unfold f_X8_drop_b20
    refine s_istore_n hG (lv' := [(3, vI t0), (0, vR 36), (1, vI p1), (2, vI p2)]) dX8_drop_20 (by decide) rfl ?_
    refine s_iload_n hG dX8_drop_21 rfl ?_
    refine s_if_eq hG (tgt := 38) dX8_drop_22 (by decide) ?_ ?_
    · refine s_lv hG [1, 2, 3, 0] rfl ?_
      exact hb38 _ _
    · refine s_aload_n hG dX8_drop_25 rfl ?_
      refine s_getI hG dX8_drop_26 fl_RX8_94 (rfl) ?_
      refine s_bipush hG (v := (60 : Int32)) dX8_drop_29 (by decide) ?_
      refine s_icmp_ge hG (tgt := 38) dX8_drop_31 (by decide) ?_ ?_
      · refine s_lv hG [1, 2, 3, 0] rfl ?_
        exact hb38 _ _
      · refine s_iconst hG (v := (1 : Int32)) dX8_drop_34 (by decide) ?_
        refine s_goto hG (tgt := 39) dX8_drop_35 (by decide) ?_
        refine s_lv hG [1, 2, 3, 0] rfl ?_
        exact hb39 _ _ _
  have hb19 : ∀ (S : HS), f_X8_drop_b19 p1 p2 S  = some out → G 0 0 S [(0, vR 36), (1, vI p1), (2, vI p2)] 19 [] := by
    intro S
    unfold f_X8_drop_b19
    refine s_iconst hG (v := (0 : Int32)) dX8_drop_19 (by decide) ?_
    exact hb20 _ _
  unfold f_X8_drop
  refine s_iload_n hG dX8_drop_0 rfl ?_
  refine s_csP hG (as := [vI p1]) (st := []) (rm := rm_X8_isDrawer) dX8_drop_1 ml_RX8_179 (tb19 (mem_i 20 rfl)) rfl ⟨rfl, rfl⟩ ⟨by decide, by decide⟩ (Nat.le_of_ble_eq_true rfl) ⟨Nat.zero_le _, Nat.zero_le _⟩ rfl (fun o h => c_X8_isDrawer l _ _ o h) (fun o1 => ?_)
  refine s_if_eq hG (tgt := 19) dX8_drop_4 (by decide) ?_ ?_
  · exact hb19 _
  · refine s_aload_n hG dX8_drop_7 rfl ?_
    refine s_iload_n hG dX8_drop_8 rfl ?_
    refine s_cvP hG (as := [vI p2]) (st := []) (rm := rm_X8_isRule) dX8_drop_9 ml_RX8_196 (rfl) (tb22 (mem_i 7 rfl)) rfl ⟨rfl, rfl⟩ ⟨by decide, by decide⟩ (Nat.le_of_ble_eq_true rfl) ⟨Nat.zero_le _, Nat.zero_le _⟩ rfl (fun o h => c_X8_isRule l _ _ o h) (fun o9 => ?_)
    refine s_if_eq hG (tgt := 19) dX8_drop_12 (by decide) ?_ ?_
    · exact hb19 _
    · refine s_iconst hG (v := (1 : Int32)) dX8_drop_15 (by decide) ?_
      refine s_goto hG (tgt := 20) dX8_drop_16 (by decide) ?_
      exact hb20 _ _

def f_X8_holds_b298 (p1 : Int32)  (S : HS) (t0 : Int32) : Option (HS × Int32) :=
if nz t0 = true then some (S, t0) else none
def f_X8_holds_b289 (p1 : Int32)  (S : HS) (t0 : Int32) (t1 : Int32) (t2 : Int32) : Option (HS × Int32) :=
if t0 = (t1 + t2) then
f_X8_holds_b298 p1  S (1 : Int32)
else
f_X8_holds_b298 p1  S (0 : Int32)
def f_X8_holds_b273 (p1 : Int32)  (S : HS) (x4 : Int32) (x7 : Int32) (t0 : Int32) (t1 : Int32) : Option (HS × Int32) :=
if ib ((x4 + (2 : Int32)) + x7) (40) = true then
f_X8_holds_b289 p1  S t0 t1 (S.1 53 ((x4 + (2 : Int32)) + x7).toNatClampNeg)
else none
def f_X8_holds_b239 (p1 : Int32)  (S : HS) (x4 : Int32) (x5 : Int32) (x6 : Int32) (t0 : Int32) : Option (HS × Int32) :=
if ib (x5 + t0) (40) = true then
if ib (x4 + t0) (40) = true then
if x6 = (2 : Int32) then
f_X8_holds_b273 p1  S x4 t0 (S.1 53 (x5 + t0).toNatClampNeg) (S.1 53 (x4 + t0).toNatClampNeg)
else
if x6 = (4 : Int32) then
f_X8_holds_b273 p1  S x4 t0 (S.1 53 (x5 + t0).toNatClampNeg) (S.1 53 (x4 + t0).toNatClampNeg)
else
f_X8_holds_b289 p1  S (S.1 53 (x5 + t0).toNatClampNeg) (S.1 53 (x4 + t0).toNatClampNeg) (0 : Int32)
else none
else none
def f_X8_holds_b227 (p1 : Int32)  (S : HS) (t0 : Int32) : Option (HS × Int32) :=
if nz t0 = true then some (S, t0) else none
def f_X8_holds_b226 (p1 : Int32)  (S : HS)  : Option (HS × Int32) :=
f_X8_holds_b227 p1  S (0 : Int32)
def f_X8_holds_b162 (p1 : Int32)  (S : HS) (t0 : Int32) : Option (HS × Int32) :=
if nz t0 = true then some (S, t0) else none
def f_X8_holds_b88 (p1 : Int32)  (S : HS) (t1 : Int32) : Option (HS × Int32) :=
(f_X8_can t1 S).bind (fun o88 =>
if o88.2 = 0 then
if nz (0 : Int32) = true then some (o88.1, (0 : Int32)) else none
else
if ib p1 (12) = true then
if ib p1 (12) = true then
if ib p1 (12) = true then
if (1 : Int32) < (o88.1.1 42 p1.toNatClampNeg) then
if (o88.1.1 42 p1.toNatClampNeg) = (6 : Int32) then
if ib ((4 : Int32) * (o88.1.1 44 p1.toNatClampNeg)) (40) = true then
if ib ((4 : Int32) * (o88.1.1 43 p1.toNatClampNeg)) (40) = true then
if ib p1 (12) = true then
if ((o88.1.1 53 ((4 : Int32) * (o88.1.1 44 p1.toNatClampNeg)).toNatClampNeg) - (o88.1.1 53 ((4 : Int32) * (o88.1.1 43 p1.toNatClampNeg)).toNatClampNeg)) = (o88.1.1 54 p1.toNatClampNeg) then
if ib (((4 : Int32) * (o88.1.1 44 p1.toNatClampNeg)) + (1 : Int32)) (40) = true then
if ib (((4 : Int32) * (o88.1.1 43 p1.toNatClampNeg)) + (1 : Int32)) (40) = true then
if ib p1 (12) = true then
if ((o88.1.1 53 (((4 : Int32) * (o88.1.1 44 p1.toNatClampNeg)) + (1 : Int32)).toNatClampNeg) - (o88.1.1 53 (((4 : Int32) * (o88.1.1 43 p1.toNatClampNeg)) + (1 : Int32)).toNatClampNeg)) = (o88.1.1 55 p1.toNatClampNeg) then
f_X8_holds_b227 p1  o88.1 (1 : Int32)
else
f_X8_holds_b226 p1  o88.1
else none
else none
else none
else
f_X8_holds_b226 p1  o88.1
else none
else none
else none
else
if (3 : Int32) < (o88.1.1 42 p1.toNatClampNeg) then
f_X8_holds_b239 p1  o88.1 ((4 : Int32) * (o88.1.1 43 p1.toNatClampNeg)) ((4 : Int32) * (o88.1.1 44 p1.toNatClampNeg)) (o88.1.1 42 p1.toNatClampNeg) (1 : Int32)
else
f_X8_holds_b239 p1  o88.1 ((4 : Int32) * (o88.1.1 43 p1.toNatClampNeg)) ((4 : Int32) * (o88.1.1 44 p1.toNatClampNeg)) (o88.1.1 42 p1.toNatClampNeg) (0 : Int32)
else
if ib ((((4 : Int32) * (o88.1.1 43 p1.toNatClampNeg)) + (2 : Int32)) + (o88.1.1 42 p1.toNatClampNeg)) (40) = true then
if ib ((((4 : Int32) * (o88.1.1 44 p1.toNatClampNeg)) + (2 : Int32)) + (o88.1.1 42 p1.toNatClampNeg)) (40) = true then
if (o88.1.1 53 ((((4 : Int32) * (o88.1.1 43 p1.toNatClampNeg)) + (2 : Int32)) + (o88.1.1 42 p1.toNatClampNeg)).toNatClampNeg) = (o88.1.1 53 ((((4 : Int32) * (o88.1.1 44 p1.toNatClampNeg)) + (2 : Int32)) + (o88.1.1 42 p1.toNatClampNeg)).toNatClampNeg) then
f_X8_holds_b162 p1  o88.1 (1 : Int32)
else
f_X8_holds_b162 p1  o88.1 (0 : Int32)
else none
else none
else none
else none
else none)
def f_X8_holds_b69 (p1 : Int32)  (S : HS) (x2 : Int32) (t0 : Int32) : Option (HS × Int32) :=
if x2 = 0 then
f_X8_holds_b88 p1  S (1 : Int32)
else
if t0 = 0 then
f_X8_holds_b88 p1  S (2 : Int32)
else
f_X8_holds_b88 p1  S (0 : Int32)
def f_X8_holds_b68 (p1 : Int32)  (S : HS) (x2 : Int32) : Option (HS × Int32) :=
f_X8_holds_b69 p1  S x2 (0 : Int32)
def f_X8_holds_b64 (p1 : Int32)  (S : HS) (x2 : Int32) : Option (HS × Int32) :=
f_X8_holds_b69 p1  S x2 (1 : Int32)
def f_X8_holds (p1 : Int32) (S : HS) : Option (HS × Int32) :=
(f_X8_isRule p1 S).bind (fun o2 =>
if o2 = 0 then
f_X8_holds_b68 p1  S o2
else
if ib p1 (12) = true then
(f_X8_has (S.1 36 20) (S.1 43 p1.toNatClampNeg) S).bind (fun o20 =>
if o20 = 0 then
f_X8_holds_b68 p1  S o2
else
if ib p1 (12) = true then
(f_X8_has (S.1 36 20) (S.1 44 p1.toNatClampNeg) S).bind (fun o36 =>
if o36 = 0 then
f_X8_holds_b68 p1  S o2
else
if ib p1 (12) = true then
if (S.1 42 p1.toNatClampNeg) = (6 : Int32) then
(f_X8_has (S.1 36 22) p1 S).bind (fun o58 =>
if o58 = 0 then
f_X8_holds_b68 p1  S o2
else
f_X8_holds_b64 p1  S o2)
else
f_X8_holds_b64 p1  S o2
else none)
else none)
else none)
def rm_X8_holds : Room := { frames := 2, cells := 0, slots := 0, locals := 43 }
set_option maxRecDepth 100000 in
set_option maxHeartbeats 4000000 in
theorem c_X8_holds (l : Launch) (p1 : Int32)  (S : HS) (out : HS × Int32) (h : f_X8_holds p1 S = some out) : Ct l yX8_holds cX8_holds 8 (some .boolean) rm_X8_holds [vR 36, vI p1] S (some (vI out.2)) out.1 := by
  refine Ct.intro (own := RX8) (lv := [(0, vR 36), (1, vI p1)]) (by decide +kernel) rfl ⟨rfl, rfl⟩ rfl (Nat.le_of_ble_eq_true rfl) ?_
  intro G hG hR
  revert h
  have hb298 : ∀ (S : HS) (t0 : Int32), f_X8_holds_b298 p1 S t0 = some out → G 0 0 S [] 298 [vI t0] := by
    intro S t0
    unfold f_X8_holds_b298
    exact s_rzC hR dX8_holds_298
  have hb289 : ∀ (S : HS) (t0 : Int32) (t1 : Int32) (t2 : Int32), f_X8_holds_b289 p1 S t0 t1 t2 = some out → G 0 0 S [] 289 [vI t2, vI t1, vI t0] := by
    intro S t0 t1 t2
    unfold f_X8_holds_b289
    refine s_iadd hG dX8_holds_289 ?_
    refine s_icmp_ne hG (tgt := 297) dX8_holds_290 (by decide) ?_ ?_
    · refine s_iconst hG (v := (0 : Int32)) dX8_holds_297 (by decide) ?_
      exact hb298 _ _
    · refine s_iconst hG (v := (1 : Int32)) dX8_holds_293 (by decide) ?_
      refine s_goto hG (tgt := 298) dX8_holds_294 (by decide) ?_
      exact hb298 _ _
  have hb273 : ∀ (S : HS) (x4 : Int32) (x7 : Int32) (t0 : Int32) (t1 : Int32), f_X8_holds_b273 p1 S x4 x7 t0 t1 = some out → G 0 0 S [(0, vR 36), (4, vI x4), (7, vI x7)] 273 [vI t1, vI t0] := by
    intro S x4 x7 t0 t1
    unfold f_X8_holds_b273
    refine s_aload_n hG dX8_holds_273 rfl ?_
    refine s_getC hG dX8_holds_274 fl_RX8_59 (rfl) ?_
    refine s_iload hG dX8_holds_277 rfl ?_
    refine s_iconst hG (v := (2 : Int32)) dX8_holds_279 (by decide) ?_
    refine s_iadd hG dX8_holds_280 ?_
    refine s_iload hG dX8_holds_281 rfl ?_
    refine s_iadd hG dX8_holds_283 ?_
    refine s_iaload hG dX8_holds_284 (rfl) ?_
    refine s_goto hG (tgt := 289) dX8_holds_285 (by decide) ?_
    refine s_lv hG [] rfl ?_
    exact hb289 _ _ _ _
  have hb239 : ∀ (S : HS) (x4 : Int32) (x5 : Int32) (x6 : Int32) (t0 : Int32), f_X8_holds_b239 p1 S x4 x5 x6 t0 = some out → G 0 0 S [(0, vR 36), (4, vI x4), (5, vI x5), (6, vI x6)] 239 [vI t0] := by
    intro S x4 x5 x6 t0
    unfold f_X8_holds_b239
    refine s_istore hG (lv' := [(7, vI t0), (0, vR 36), (4, vI x4), (5, vI x5), (6, vI x6)]) dX8_holds_239 (by decide) rfl ?_
    refine s_aload_n hG dX8_holds_241 rfl ?_
    refine s_getC hG dX8_holds_242 fl_RX8_59 (rfl) ?_
    refine s_iload hG dX8_holds_245 rfl ?_
    refine s_iload hG dX8_holds_247 rfl ?_
    refine s_iadd hG dX8_holds_249 ?_
    refine s_iaload hG dX8_holds_250 (rfl) ?_
    refine s_aload_n hG dX8_holds_251 rfl ?_
    refine s_getC hG dX8_holds_252 fl_RX8_59 (rfl) ?_
    refine s_iload hG dX8_holds_255 rfl ?_
    refine s_iload hG dX8_holds_257 rfl ?_
    refine s_iadd hG dX8_holds_259 ?_
    refine s_iaload hG dX8_holds_260 (rfl) ?_
    refine s_iload hG dX8_holds_261 rfl ?_
    refine s_iconst hG (v := (2 : Int32)) dX8_holds_263 (by decide) ?_
    refine s_icmp_eq hG (tgt := 273) dX8_holds_264 (by decide) ?_ ?_
    · refine s_lv hG [1, 2, 0] rfl ?_
      exact hb273 _ _ _ _ _
    · refine s_iload hG dX8_holds_267 rfl ?_
      refine s_iconst hG (v := (4 : Int32)) dX8_holds_269 (by decide) ?_
      refine s_icmp_ne hG (tgt := 288) dX8_holds_270 (by decide) ?_ ?_
      · refine s_iconst hG (v := (0 : Int32)) dX8_holds_288 (by decide) ?_
        refine s_lv hG [] rfl ?_
        exact hb289 _ _ _ _
      · refine s_lv hG [1, 2, 0] rfl ?_
        exact hb273 _ _ _ _ _
  have hb227 : ∀ (S : HS) (t0 : Int32), f_X8_holds_b227 p1 S t0 = some out → G 0 0 S [] 227 [vI t0] := by
    intro S t0
    unfold f_X8_holds_b227
    exact s_rzC hR dX8_holds_227
  have hb226 : ∀ (S : HS), f_X8_holds_b226 p1 S  = some out → G 0 0 S [] 226 [] := by
    intro S
    unfold f_X8_holds_b226
    refine s_iconst hG (v := (0 : Int32)) dX8_holds_226 (by decide) ?_
    exact hb227 _ _
  have hb162 : ∀ (S : HS) (t0 : Int32), f_X8_holds_b162 p1 S t0 = some out → G 0 0 S [] 162 [vI t0] := by
    intro S t0
    unfold f_X8_holds_b162
    exact s_rzC hR dX8_holds_162
  have hb88 : ∀ (S : HS) (t1 : Int32), f_X8_holds_b88 p1 S t1 = some out → G 0 0 S [(0, vR 36), (1, vI p1)] 88 [vI t1, vR 36] := by
    intro S t1
    unfold f_X8_holds_b88
    refine s_cvI hG (as := [vI t1]) (st := []) (rm := rm_X8_can) dX8_holds_88 ml_RX8_100 (rfl) (tb19 (mem_i 3 rfl)) rfl ⟨rfl, rfl⟩ ⟨by decide, by decide⟩ (Nat.le_of_ble_eq_true rfl) ⟨Nat.zero_le _, Nat.zero_le _⟩ rfl (fun o h => c_X8_can l _ _ o h) (fun o88 => ?_)
    refine s_if_ne hG (tgt := 96) dX8_holds_91 (by decide) ?_ ?_
    · refine s_iconst hG (v := (4 : Int32)) dX8_holds_96 (by decide) ?_
      refine s_aload_n hG dX8_holds_97 rfl ?_
      refine s_getC hG dX8_holds_98 fl_RX8_29 (rfl) ?_
      refine s_iload_n hG dX8_holds_101 rfl ?_
      refine s_iaload hG dX8_holds_102 (rfl) ?_
      refine s_imul hG dX8_holds_103 ?_
      refine s_istore hG (lv' := [(4, vI ((4 : Int32) * (o88.1.1 43 p1.toNatClampNeg))), (0, vR 36), (1, vI p1)]) dX8_holds_104 (by decide) rfl ?_
      refine s_iconst hG (v := (4 : Int32)) dX8_holds_106 (by decide) ?_
      refine s_aload_n hG dX8_holds_107 rfl ?_
      refine s_getC hG dX8_holds_108 fl_RX8_32 (rfl) ?_
      refine s_iload_n hG dX8_holds_111 rfl ?_
      refine s_iaload hG dX8_holds_112 (rfl) ?_
      refine s_imul hG dX8_holds_113 ?_
      refine s_istore hG (lv' := [(5, vI ((4 : Int32) * (o88.1.1 44 p1.toNatClampNeg))), (4, vI ((4 : Int32) * (o88.1.1 43 p1.toNatClampNeg))), (0, vR 36), (1, vI p1)]) dX8_holds_114 (by decide) rfl ?_
      refine s_aload_n hG dX8_holds_116 rfl ?_
      refine s_getC hG dX8_holds_117 fl_RX8_26 (rfl) ?_
      refine s_iload_n hG dX8_holds_120 rfl ?_
      refine s_iaload hG dX8_holds_121 (rfl) ?_
      refine s_istore hG (lv' := [(6, vI (o88.1.1 42 p1.toNatClampNeg)), (5, vI ((4 : Int32) * (o88.1.1 44 p1.toNatClampNeg))), (4, vI ((4 : Int32) * (o88.1.1 43 p1.toNatClampNeg))), (0, vR 36), (1, vI p1)]) dX8_holds_122 (by decide) rfl ?_
      refine s_iload hG dX8_holds_124 rfl ?_
      refine s_iconst hG (v := (1 : Int32)) dX8_holds_126 (by decide) ?_
      refine s_icmp_gt hG (tgt := 163) dX8_holds_127 (by decide) ?_ ?_
      · refine s_iload hG dX8_holds_163 rfl ?_
        refine s_bipush hG (v := (6 : Int32)) dX8_holds_165 (by decide) ?_
        refine s_icmp_ne hG (tgt := 228) dX8_holds_167 (by decide) ?_ ?_
        · refine s_iload hG dX8_holds_228 rfl ?_
          refine s_iconst hG (v := (3 : Int32)) dX8_holds_230 (by decide) ?_
          refine s_icmp_gt hG (tgt := 238) dX8_holds_231 (by decide) ?_ ?_
          · refine s_iconst hG (v := (1 : Int32)) dX8_holds_238 (by decide) ?_
            refine s_lv hG [3, 2, 1, 0] rfl ?_
            exact hb239 _ _ _ _ _
          · refine s_iconst hG (v := (0 : Int32)) dX8_holds_234 (by decide) ?_
            refine s_goto hG (tgt := 239) dX8_holds_235 (by decide) ?_
            refine s_lv hG [3, 2, 1, 0] rfl ?_
            exact hb239 _ _ _ _ _
        · refine s_aload_n hG dX8_holds_170 rfl ?_
          refine s_getC hG dX8_holds_171 fl_RX8_59 (rfl) ?_
          refine s_iload hG dX8_holds_174 rfl ?_
          refine s_iaload hG dX8_holds_176 (rfl) ?_
          refine s_aload_n hG dX8_holds_177 rfl ?_
          refine s_getC hG dX8_holds_178 fl_RX8_59 (rfl) ?_
          refine s_iload hG dX8_holds_181 rfl ?_
          refine s_iaload hG dX8_holds_183 (rfl) ?_
          refine s_isub hG dX8_holds_184 ?_
          refine s_aload_n hG dX8_holds_185 rfl ?_
          refine s_getC hG dX8_holds_186 fl_RX8_62 (rfl) ?_
          refine s_iload_n hG dX8_holds_189 rfl ?_
          refine s_iaload hG dX8_holds_190 (rfl) ?_
          refine s_icmp_ne hG (tgt := 226) dX8_holds_191 (by decide) ?_ ?_
          · refine s_lv hG [] rfl ?_
            exact hb226 _
          · refine s_aload_n hG dX8_holds_194 rfl ?_
            refine s_getC hG dX8_holds_195 fl_RX8_59 (rfl) ?_
            refine s_iload hG dX8_holds_198 rfl ?_
            refine s_iconst hG (v := (1 : Int32)) dX8_holds_200 (by decide) ?_
            refine s_iadd hG dX8_holds_201 ?_
            refine s_iaload hG dX8_holds_202 (rfl) ?_
            refine s_aload_n hG dX8_holds_203 rfl ?_
            refine s_getC hG dX8_holds_204 fl_RX8_59 (rfl) ?_
            refine s_iload hG dX8_holds_207 rfl ?_
            refine s_iconst hG (v := (1 : Int32)) dX8_holds_209 (by decide) ?_
            refine s_iadd hG dX8_holds_210 ?_
            refine s_iaload hG dX8_holds_211 (rfl) ?_
            refine s_isub hG dX8_holds_212 ?_
            refine s_aload_n hG dX8_holds_213 rfl ?_
            refine s_getC hG dX8_holds_214 fl_RX8_65 (rfl) ?_
            refine s_iload_n hG dX8_holds_217 rfl ?_
            refine s_iaload hG dX8_holds_218 (rfl) ?_
            refine s_icmp_ne hG (tgt := 226) dX8_holds_219 (by decide) ?_ ?_
            · refine s_lv hG [] rfl ?_
              exact hb226 _
            · refine s_iconst hG (v := (1 : Int32)) dX8_holds_222 (by decide) ?_
              refine s_goto hG (tgt := 227) dX8_holds_223 (by decide) ?_
              refine s_lv hG [] rfl ?_
              exact hb227 _ _
      · refine s_aload_n hG dX8_holds_130 rfl ?_
        refine s_getC hG dX8_holds_131 fl_RX8_59 (rfl) ?_
        refine s_iload hG dX8_holds_134 rfl ?_
        refine s_iconst hG (v := (2 : Int32)) dX8_holds_136 (by decide) ?_
        refine s_iadd hG dX8_holds_137 ?_
        refine s_iload hG dX8_holds_138 rfl ?_
        refine s_iadd hG dX8_holds_140 ?_
        refine s_iaload hG dX8_holds_141 (rfl) ?_
        refine s_aload_n hG dX8_holds_142 rfl ?_
        refine s_getC hG dX8_holds_143 fl_RX8_59 (rfl) ?_
        refine s_iload hG dX8_holds_146 rfl ?_
        refine s_iconst hG (v := (2 : Int32)) dX8_holds_148 (by decide) ?_
        refine s_iadd hG dX8_holds_149 ?_
        refine s_iload hG dX8_holds_150 rfl ?_
        refine s_iadd hG dX8_holds_152 ?_
        refine s_iaload hG dX8_holds_153 (rfl) ?_
        refine s_icmp_ne hG (tgt := 161) dX8_holds_154 (by decide) ?_ ?_
        · refine s_iconst hG (v := (0 : Int32)) dX8_holds_161 (by decide) ?_
          refine s_lv hG [] rfl ?_
          exact hb162 _ _
        · refine s_iconst hG (v := (1 : Int32)) dX8_holds_157 (by decide) ?_
          refine s_goto hG (tgt := 162) dX8_holds_158 (by decide) ?_
          refine s_lv hG [] rfl ?_
          exact hb162 _ _
    · refine s_iconst hG (v := (0 : Int32)) dX8_holds_94 (by decide) ?_
      exact s_rzC hR dX8_holds_95
  have hb69 : ∀ (S : HS) (x2 : Int32) (t0 : Int32), f_X8_holds_b69 p1 S x2 t0 = some out → G 0 0 S [(0, vR 36), (1, vI p1), (2, vI x2)] 69 [vI t0] := by
    intro S x2 t0
    unfold f_X8_holds_b69
    refine s_istore_n hG (lv' := [(3, vI t0), (0, vR 36), (1, vI p1), (2, vI x2)]) dX8_holds_69 (by decide) rfl ?_
    refine s_aload_n hG dX8_holds_70 rfl ?_
    refine s_iload_n hG dX8_holds_71 rfl ?_
    refine s_if_ne hG (tgt := 79) dX8_holds_72 (by decide) ?_ ?_
    · refine s_iload_n hG dX8_holds_79 rfl ?_
      refine s_if_eq hG (tgt := 87) dX8_holds_80 (by decide) ?_ ?_
      · refine s_iconst hG (v := (2 : Int32)) dX8_holds_87 (by decide) ?_
        refine s_lv hG [1, 2] rfl ?_
        exact hb88 _ _
      · refine s_iconst hG (v := (0 : Int32)) dX8_holds_83 (by decide) ?_
        refine s_goto hG (tgt := 88) dX8_holds_84 (by decide) ?_
        refine s_lv hG [1, 2] rfl ?_
        exact hb88 _ _
    · refine s_iconst hG (v := (1 : Int32)) dX8_holds_75 (by decide) ?_
      refine s_goto hG (tgt := 88) dX8_holds_76 (by decide) ?_
      refine s_lv hG [1, 2] rfl ?_
      exact hb88 _ _
  have hb68 : ∀ (S : HS) (x2 : Int32), f_X8_holds_b68 p1 S x2 = some out → G 0 0 S [(0, vR 36), (1, vI p1), (2, vI x2)] 68 [] := by
    intro S x2
    unfold f_X8_holds_b68
    refine s_iconst hG (v := (0 : Int32)) dX8_holds_68 (by decide) ?_
    exact hb69 _ _ _
  have hb64 : ∀ (S : HS) (x2 : Int32), f_X8_holds_b64 p1 S x2 = some out → G 0 0 S [(0, vR 36), (1, vI p1), (2, vI x2)] 64 [] := by
    intro S x2
    unfold f_X8_holds_b64
    refine s_iconst hG (v := (1 : Int32)) dX8_holds_64 (by decide) ?_
    refine s_goto hG (tgt := 69) dX8_holds_65 (by decide) ?_
    exact hb69 _ _ _
  unfold f_X8_holds
  refine s_aload_n hG dX8_holds_0 rfl ?_
  refine s_iload_n hG dX8_holds_1 rfl ?_
  refine s_cvP hG (as := [vI p1]) (st := []) (rm := rm_X8_isRule) dX8_holds_2 ml_RX8_196 (rfl) (tb22 (mem_i 7 rfl)) rfl ⟨rfl, rfl⟩ ⟨by decide, by decide⟩ (Nat.le_of_ble_eq_true rfl) ⟨Nat.zero_le _, Nat.zero_le _⟩ rfl (fun o h => c_X8_isRule l _ _ o h) (fun o2 => ?_)
  refine s_istore_n hG (lv' := [(2, vI o2), (0, vR 36), (1, vI p1)]) dX8_holds_5 (by decide) rfl ?_
  refine s_iload_n hG dX8_holds_6 rfl ?_
  refine s_if_eq hG (tgt := 68) dX8_holds_7 (by decide) ?_ ?_
  · refine s_lv hG [1, 2, 0] rfl ?_
    exact hb68 _ _
  · refine s_aload_n hG dX8_holds_10 rfl ?_
    refine s_getI hG dX8_holds_11 fl_RX8_142 (rfl) ?_
    refine s_aload_n hG dX8_holds_14 rfl ?_
    refine s_getC hG dX8_holds_15 fl_RX8_29 (rfl) ?_
    refine s_iload_n hG dX8_holds_18 rfl ?_
    refine s_iaload hG dX8_holds_19 (rfl) ?_
    refine s_csP hG (as := [vI (S.1 36 20), vI (S.1 43 p1.toNatClampNeg)]) (st := []) (rm := rm_X8_has) dX8_holds_20 ml_RX8_104 (tb20 (mem_i 2 rfl)) rfl ⟨rfl, rfl⟩ ⟨by decide, by decide⟩ (Nat.le_of_ble_eq_true rfl) ⟨Nat.zero_le _, Nat.zero_le _⟩ rfl (fun o h => c_X8_has l _ _ _ o h) (fun o20 => ?_)
    refine s_if_eq hG (tgt := 68) dX8_holds_23 (by decide) ?_ ?_
    · refine s_lv hG [1, 2, 0] rfl ?_
      exact hb68 _ _
    · refine s_aload_n hG dX8_holds_26 rfl ?_
      refine s_getI hG dX8_holds_27 fl_RX8_142 (rfl) ?_
      refine s_aload_n hG dX8_holds_30 rfl ?_
      refine s_getC hG dX8_holds_31 fl_RX8_32 (rfl) ?_
      refine s_iload_n hG dX8_holds_34 rfl ?_
      refine s_iaload hG dX8_holds_35 (rfl) ?_
      refine s_csP hG (as := [vI (S.1 36 20), vI (S.1 44 p1.toNatClampNeg)]) (st := []) (rm := rm_X8_has) dX8_holds_36 ml_RX8_104 (tb20 (mem_i 2 rfl)) rfl ⟨rfl, rfl⟩ ⟨by decide, by decide⟩ (Nat.le_of_ble_eq_true rfl) ⟨Nat.zero_le _, Nat.zero_le _⟩ rfl (fun o h => c_X8_has l _ _ _ o h) (fun o36 => ?_)
      refine s_if_eq hG (tgt := 68) dX8_holds_39 (by decide) ?_ ?_
      · refine s_lv hG [1, 2, 0] rfl ?_
        exact hb68 _ _
      · refine s_aload_n hG dX8_holds_42 rfl ?_
        refine s_getC hG dX8_holds_43 fl_RX8_26 (rfl) ?_
        refine s_iload_n hG dX8_holds_46 rfl ?_
        refine s_iaload hG dX8_holds_47 (rfl) ?_
        refine s_bipush hG (v := (6 : Int32)) dX8_holds_48 (by decide) ?_
        refine s_icmp_ne hG (tgt := 64) dX8_holds_50 (by decide) ?_ ?_
        · refine s_lv hG [1, 2, 0] rfl ?_
          exact hb64 _ _
        · refine s_aload_n hG dX8_holds_53 rfl ?_
          refine s_getI hG dX8_holds_54 fl_RX8_145 (rfl) ?_
          refine s_iload_n hG dX8_holds_57 rfl ?_
          refine s_csP hG (as := [vI (S.1 36 22), vI p1]) (st := []) (rm := rm_X8_has) dX8_holds_58 ml_RX8_104 (tb20 (mem_i 2 rfl)) rfl ⟨rfl, rfl⟩ ⟨by decide, by decide⟩ (Nat.le_of_ble_eq_true rfl) ⟨Nat.zero_le _, Nat.zero_le _⟩ rfl (fun o h => c_X8_has l _ _ _ o h) (fun o58 => ?_)
          refine s_if_eq hG (tgt := 68) dX8_holds_61 (by decide) ?_ ?_
          · refine s_lv hG [1, 2, 0] rfl ?_
            exact hb68 _ _
          · refine s_lv hG [1, 2, 0] rfl ?_
            exact hb64 _ _

def f_X8_isInForce_b36 (p1 : Int32)  (S : HS) (t0 : Int32) : Option (HS × Int32) :=
if nz t0 = true then some (S, t0) else none
def f_X8_isInForce_b35 (p1 : Int32)  (S : HS)  : Option (HS × Int32) :=
f_X8_isInForce_b36 p1  S (0 : Int32)
def f_X8_isInForce_b14 (p1 : Int32)  (S : HS) (t1 : Int32) : Option (HS × Int32) :=
(f_X8_can t1 S).bind (fun o14 =>
if o14.2 = 0 then
f_X8_isInForce_b35 p1  o14.1
else
(f_X8_has (o14.1.1 36 22) p1 o14.1).bind (fun o25 =>
if o25 = 0 then
f_X8_isInForce_b35 p1  o14.1
else
f_X8_isInForce_b36 p1  o14.1 (1 : Int32)))
def f_X8_isInForce (p1 : Int32) (S : HS) : Option (HS × Int32) :=
(f_X8_isRule p1 S).bind (fun o3 =>
if o3 = 0 then
f_X8_isInForce_b14 p1  S (1 : Int32)
else
f_X8_isInForce_b14 p1  S (0 : Int32))
def rm_X8_isInForce : Room := { frames := 2, cells := 0, slots := 0, locals := 43 }
set_option maxRecDepth 100000 in
set_option maxHeartbeats 4000000 in
theorem c_X8_isInForce (l : Launch) (p1 : Int32)  (S : HS) (out : HS × Int32) (h : f_X8_isInForce p1 S = some out) : Ct l yX8_isInForce cX8_isInForce 2 (some .boolean) rm_X8_isInForce [vR 36, vI p1] S (some (vI out.2)) out.1 := by
  refine Ct.intro (own := RX8) (lv := [(0, vR 36), (1, vI p1)]) (by decide +kernel) rfl ⟨rfl, rfl⟩ rfl (Nat.le_of_ble_eq_true rfl) ?_
  intro G hG hR
  revert h
  have hb36 : ∀ (S : HS) (t0 : Int32), f_X8_isInForce_b36 p1 S t0 = some out → G 0 0 S [] 36 [vI t0] := by
    intro S t0
    unfold f_X8_isInForce_b36
    exact s_rzC hR dX8_isInForce_36
  have hb35 : ∀ (S : HS), f_X8_isInForce_b35 p1 S  = some out → G 0 0 S [] 35 [] := by
    intro S
    unfold f_X8_isInForce_b35
    refine s_iconst hG (v := (0 : Int32)) dX8_isInForce_35 (by decide) ?_
    exact hb36 _ _
  have hb14 : ∀ (S : HS) (t1 : Int32), f_X8_isInForce_b14 p1 S t1 = some out → G 0 0 S [(0, vR 36), (1, vI p1)] 14 [vI t1, vR 36] := by
    intro S t1
    unfold f_X8_isInForce_b14
    refine s_cvI hG (as := [vI t1]) (st := []) (rm := rm_X8_can) dX8_isInForce_14 ml_RX8_100 (rfl) (tb19 (mem_i 3 rfl)) rfl ⟨rfl, rfl⟩ ⟨by decide, by decide⟩ (Nat.le_of_ble_eq_true rfl) ⟨Nat.zero_le _, Nat.zero_le _⟩ rfl (fun o h => c_X8_can l _ _ o h) (fun o14 => ?_)
    refine s_if_eq hG (tgt := 35) dX8_isInForce_17 (by decide) ?_ ?_
    · refine s_lv hG [] rfl ?_
      exact hb35 _
    · refine s_aload_n hG dX8_isInForce_20 rfl ?_
      refine s_getI hG dX8_isInForce_21 fl_RX8_145 (rfl) ?_
      refine s_iload_n hG dX8_isInForce_24 rfl ?_
      refine s_csP hG (as := [vI (o14.1.1 36 22), vI p1]) (st := []) (rm := rm_X8_has) dX8_isInForce_25 ml_RX8_104 (tb20 (mem_i 2 rfl)) rfl ⟨rfl, rfl⟩ ⟨by decide, by decide⟩ (Nat.le_of_ble_eq_true rfl) ⟨Nat.zero_le _, Nat.zero_le _⟩ rfl (fun o h => c_X8_has l _ _ _ o h) (fun o25 => ?_)
      refine s_if_eq hG (tgt := 35) dX8_isInForce_28 (by decide) ?_ ?_
      · refine s_lv hG [] rfl ?_
        exact hb35 _
      · refine s_iconst hG (v := (1 : Int32)) dX8_isInForce_31 (by decide) ?_
        refine s_goto hG (tgt := 36) dX8_isInForce_32 (by decide) ?_
        refine s_lv hG [] rfl ?_
        exact hb36 _ _
  unfold f_X8_isInForce
  refine s_aload_n hG dX8_isInForce_0 rfl ?_
  refine s_aload_n hG dX8_isInForce_1 rfl ?_
  refine s_iload_n hG dX8_isInForce_2 rfl ?_
  refine s_cvP hG (as := [vI p1]) (st := [vR 36]) (rm := rm_X8_isRule) dX8_isInForce_3 ml_RX8_196 (rfl) (tb22 (mem_i 7 rfl)) rfl ⟨rfl, rfl⟩ ⟨by decide, by decide⟩ (Nat.le_of_ble_eq_true rfl) ⟨Nat.zero_le _, Nat.zero_le _⟩ rfl (fun o h => c_X8_isRule l _ _ o h) (fun o3 => ?_)
  refine s_if_eq hG (tgt := 13) dX8_isInForce_6 (by decide) ?_ ?_
  · refine s_iconst hG (v := (1 : Int32)) dX8_isInForce_13 (by decide) ?_
    exact hb14 _ _
  · refine s_iconst hG (v := (0 : Int32)) dX8_isInForce_9 (by decide) ?_
    refine s_goto hG (tgt := 14) dX8_isInForce_10 (by decide) ?_
    exact hb14 _ _

def f_X8_isThere_b36 (p1 : Int32)  (S : HS) (t0 : Int32) : Option (HS × Int32) :=
if nz t0 = true then some (S, t0) else none
def f_X8_isThere_b35 (p1 : Int32)  (S : HS)  : Option (HS × Int32) :=
f_X8_isThere_b36 p1  S (0 : Int32)
def f_X8_isThere_b14 (p1 : Int32)  (S : HS) (t1 : Int32) : Option (HS × Int32) :=
(f_X8_can t1 S).bind (fun o14 =>
if o14.2 = 0 then
f_X8_isThere_b35 p1  o14.1
else
(f_X8_has (o14.1.1 36 20) p1 o14.1).bind (fun o25 =>
if o25 = 0 then
f_X8_isThere_b35 p1  o14.1
else
f_X8_isThere_b36 p1  o14.1 (1 : Int32)))
def f_X8_isThere (p1 : Int32) (S : HS) : Option (HS × Int32) :=
(f_X8_isShape p1 S).bind (fun o3 =>
if o3 = 0 then
f_X8_isThere_b14 p1  S (1 : Int32)
else
f_X8_isThere_b14 p1  S (0 : Int32))
def rm_X8_isThere : Room := { frames := 2, cells := 0, slots := 0, locals := 43 }
set_option maxRecDepth 100000 in
set_option maxHeartbeats 4000000 in
theorem c_X8_isThere (l : Launch) (p1 : Int32)  (S : HS) (out : HS × Int32) (h : f_X8_isThere p1 S = some out) : Ct l yX8_isThere cX8_isThere 2 (some .boolean) rm_X8_isThere [vR 36, vI p1] S (some (vI out.2)) out.1 := by
  refine Ct.intro (own := RX8) (lv := [(0, vR 36), (1, vI p1)]) (by decide +kernel) rfl ⟨rfl, rfl⟩ rfl (Nat.le_of_ble_eq_true rfl) ?_
  intro G hG hR
  revert h
  have hb36 : ∀ (S : HS) (t0 : Int32), f_X8_isThere_b36 p1 S t0 = some out → G 0 0 S [] 36 [vI t0] := by
    intro S t0
    unfold f_X8_isThere_b36
    exact s_rzC hR dX8_isThere_36
  have hb35 : ∀ (S : HS), f_X8_isThere_b35 p1 S  = some out → G 0 0 S [] 35 [] := by
    intro S
    unfold f_X8_isThere_b35
    refine s_iconst hG (v := (0 : Int32)) dX8_isThere_35 (by decide) ?_
    exact hb36 _ _
  have hb14 : ∀ (S : HS) (t1 : Int32), f_X8_isThere_b14 p1 S t1 = some out → G 0 0 S [(0, vR 36), (1, vI p1)] 14 [vI t1, vR 36] := by
    intro S t1
    unfold f_X8_isThere_b14
    refine s_cvI hG (as := [vI t1]) (st := []) (rm := rm_X8_can) dX8_isThere_14 ml_RX8_100 (rfl) (tb19 (mem_i 3 rfl)) rfl ⟨rfl, rfl⟩ ⟨by decide, by decide⟩ (Nat.le_of_ble_eq_true rfl) ⟨Nat.zero_le _, Nat.zero_le _⟩ rfl (fun o h => c_X8_can l _ _ o h) (fun o14 => ?_)
    refine s_if_eq hG (tgt := 35) dX8_isThere_17 (by decide) ?_ ?_
    · refine s_lv hG [] rfl ?_
      exact hb35 _
    · refine s_aload_n hG dX8_isThere_20 rfl ?_
      refine s_getI hG dX8_isThere_21 fl_RX8_142 (rfl) ?_
      refine s_iload_n hG dX8_isThere_24 rfl ?_
      refine s_csP hG (as := [vI (o14.1.1 36 20), vI p1]) (st := []) (rm := rm_X8_has) dX8_isThere_25 ml_RX8_104 (tb20 (mem_i 2 rfl)) rfl ⟨rfl, rfl⟩ ⟨by decide, by decide⟩ (Nat.le_of_ble_eq_true rfl) ⟨Nat.zero_le _, Nat.zero_le _⟩ rfl (fun o h => c_X8_has l _ _ _ o h) (fun o25 => ?_)
      refine s_if_eq hG (tgt := 35) dX8_isThere_28 (by decide) ?_ ?_
      · refine s_lv hG [] rfl ?_
        exact hb35 _
      · refine s_iconst hG (v := (1 : Int32)) dX8_isThere_31 (by decide) ?_
        refine s_goto hG (tgt := 36) dX8_isThere_32 (by decide) ?_
        refine s_lv hG [] rfl ?_
        exact hb36 _ _
  unfold f_X8_isThere
  refine s_aload_n hG dX8_isThere_0 rfl ?_
  refine s_aload_n hG dX8_isThere_1 rfl ?_
  refine s_iload_n hG dX8_isThere_2 rfl ?_
  refine s_cvP hG (as := [vI p1]) (st := [vR 36]) (rm := rm_X8_isShape) dX8_isThere_3 ml_RX8_186 (rfl) (tb21 (mem_i 19 rfl)) rfl ⟨rfl, rfl⟩ ⟨by decide, by decide⟩ (Nat.le_of_ble_eq_true rfl) ⟨Nat.zero_le _, Nat.zero_le _⟩ rfl (fun o h => c_X8_isShape l _ _ o h) (fun o3 => ?_)
  refine s_if_eq hG (tgt := 13) dX8_isThere_6 (by decide) ?_ ?_
  · refine s_iconst hG (v := (1 : Int32)) dX8_isThere_13 (by decide) ?_
    exact hb14 _ _
  · refine s_iconst hG (v := (0 : Int32)) dX8_isThere_9 (by decide) ?_
    refine s_goto hG (tgt := 14) dX8_isThere_10 (by decide) ?_
    exact hb14 _ _

def f_X8_isVoid_b34 (p1 : Int32)  (S : HS) (t0 : Int32) : Option (HS × Int32) :=
if nz t0 = true then some (S, t0) else none
def f_X8_isVoid_b33 (p1 : Int32)  (S : HS)  : Option (HS × Int32) :=
f_X8_isVoid_b34 p1  S (0 : Int32)
def f_X8_isVoid_b14 (p1 : Int32)  (S : HS) (t1 : Int32) : Option (HS × Int32) :=
(f_X8_can t1 S).bind (fun o14 =>
if o14.2 = 0 then
f_X8_isVoid_b33 p1  o14.1
else
if ib p1 (60) = true then
if (o14.1.1 51 p1.toNatClampNeg) = 0 then
f_X8_isVoid_b33 p1  o14.1
else
f_X8_isVoid_b34 p1  o14.1 (1 : Int32)
else none)
def f_X8_isVoid (p1 : Int32) (S : HS) : Option (HS × Int32) :=
(f_X8_isAct p1 S).bind (fun o3 =>
if o3 = 0 then
f_X8_isVoid_b14 p1  S (1 : Int32)
else
f_X8_isVoid_b14 p1  S (0 : Int32))
def rm_X8_isVoid : Room := { frames := 2, cells := 0, slots := 0, locals := 43 }
set_option maxRecDepth 100000 in
set_option maxHeartbeats 4000000 in
theorem c_X8_isVoid (l : Launch) (p1 : Int32)  (S : HS) (out : HS × Int32) (h : f_X8_isVoid p1 S = some out) : Ct l yX8_isVoid cX8_isVoid 2 (some .boolean) rm_X8_isVoid [vR 36, vI p1] S (some (vI out.2)) out.1 := by
  refine Ct.intro (own := RX8) (lv := [(0, vR 36), (1, vI p1)]) (by decide +kernel) rfl ⟨rfl, rfl⟩ rfl (Nat.le_of_ble_eq_true rfl) ?_
  intro G hG hR
  revert h
  have hb34 : ∀ (S : HS) (t0 : Int32), f_X8_isVoid_b34 p1 S t0 = some out → G 0 0 S [] 34 [vI t0] := by
    intro S t0
    unfold f_X8_isVoid_b34
    exact s_rzC hR dX8_isVoid_34
  have hb33 : ∀ (S : HS), f_X8_isVoid_b33 p1 S  = some out → G 0 0 S [] 33 [] := by
    intro S
    unfold f_X8_isVoid_b33
    refine s_iconst hG (v := (0 : Int32)) dX8_isVoid_33 (by decide) ?_
    exact hb34 _ _
  have hb14 : ∀ (S : HS) (t1 : Int32), f_X8_isVoid_b14 p1 S t1 = some out → G 0 0 S [(0, vR 36), (1, vI p1)] 14 [vI t1, vR 36] := by
    intro S t1
    unfold f_X8_isVoid_b14
    refine s_cvI hG (as := [vI t1]) (st := []) (rm := rm_X8_can) dX8_isVoid_14 ml_RX8_100 (rfl) (tb19 (mem_i 3 rfl)) rfl ⟨rfl, rfl⟩ ⟨by decide, by decide⟩ (Nat.le_of_ble_eq_true rfl) ⟨Nat.zero_le _, Nat.zero_le _⟩ rfl (fun o h => c_X8_can l _ _ o h) (fun o14 => ?_)
    refine s_if_eq hG (tgt := 33) dX8_isVoid_17 (by decide) ?_ ?_
    · refine s_lv hG [] rfl ?_
      exact hb33 _
    · refine s_aload_n hG dX8_isVoid_20 rfl ?_
      refine s_getC hG dX8_isVoid_21 fl_RX8_53 (rfl) ?_
      refine s_iload_n hG dX8_isVoid_24 rfl ?_
      refine s_baload hG dX8_isVoid_25 (rfl) ?_
      refine s_if_eq hG (tgt := 33) dX8_isVoid_26 (by decide) ?_ ?_
      · refine s_lv hG [] rfl ?_
        exact hb33 _
      · refine s_iconst hG (v := (1 : Int32)) dX8_isVoid_29 (by decide) ?_
        refine s_goto hG (tgt := 34) dX8_isVoid_30 (by decide) ?_
        refine s_lv hG [] rfl ?_
        exact hb34 _ _
  unfold f_X8_isVoid
  refine s_aload_n hG dX8_isVoid_0 rfl ?_
  refine s_aload_n hG dX8_isVoid_1 rfl ?_
  refine s_iload_n hG dX8_isVoid_2 rfl ?_
  refine s_cvP hG (as := [vI p1]) (st := [vR 36]) (rm := rm_X8_isAct) dX8_isVoid_3 ml_RX8_209 (rfl) (tb23 (mem_i 20 rfl)) rfl ⟨rfl, rfl⟩ ⟨by decide, by decide⟩ (Nat.le_of_ble_eq_true rfl) ⟨Nat.zero_le _, Nat.zero_le _⟩ rfl (fun o h => c_X8_isAct l _ _ o h) (fun o3 => ?_)
  refine s_if_eq hG (tgt := 13) dX8_isVoid_6 (by decide) ?_ ?_
  · refine s_iconst hG (v := (1 : Int32)) dX8_isVoid_13 (by decide) ?_
    exact hb14 _ _
  · refine s_iconst hG (v := (0 : Int32)) dX8_isVoid_9 (by decide) ?_
    refine s_goto hG (tgt := 14) dX8_isVoid_10 (by decide) ?_
    exact hb14 _ _

def f_X8_lay_b187 (p1 : Int32) (p2 : Int32) (p3 : Int32) (p4 : Int32)  (S : HS) (t1 : Int32) : Option (HS × Int32) :=
(f_X8_can t1 S).bind (fun o187 =>
if o187.2 = 0 then
some (o187.1, (0 : Int32))
else
(f_X8_makes o187.1).bind (fun o196 =>
some ((sI o196.1 36 7 ((o196.1.1 36 7) + (1 : Int32))), (((sI o196.1 36 7 ((o196.1.1 36 7) + (1 : Int32))).1 36 7) - (1 : Int32)))))
def f_X8_lay_b158 (p1 : Int32) (p2 : Int32) (p3 : Int32) (p4 : Int32)  (S : HS) (x5 : Int32) (x6 : Int32) (x7 : Int32) : Option (HS × Int32) :=
if x5 = 0 then
f_X8_lay_b187 p1 p2 p3 p4  S (1 : Int32)
else
if x6 = 0 then
f_X8_lay_b187 p1 p2 p3 p4  S (2 : Int32)
else
if x7 = 0 then
f_X8_lay_b187 p1 p2 p3 p4  S (3 : Int32)
else
f_X8_lay_b187 p1 p2 p3 p4  S (0 : Int32)
def f_X8_lay_b87 (p1 : Int32) (p2 : Int32) (p3 : Int32) (p4 : Int32)  (S : HS) (x5 : Int32) (x6 : Int32) (t0 : Int32) : Option (HS × Int32) :=
if t0 = 0 then
f_X8_lay_b158 p1 p2 p3 p4  S x5 x6 t0
else
if ib (S.1 36 7) (12) = true then
if ib ((sI S 42 (S.1 36 7).toNatClampNeg p2).1 36 7) (12) = true then
if ib ((sI (sI S 42 (S.1 36 7).toNatClampNeg p2) 43 ((sI S 42 (S.1 36 7).toNatClampNeg p2).1 36 7).toNatClampNeg p3).1 36 7) (12) = true then
if ib ((sI (sI (sI S 42 (S.1 36 7).toNatClampNeg p2) 43 ((sI S 42 (S.1 36 7).toNatClampNeg p2).1 36 7).toNatClampNeg p3) 44 ((sI (sI S 42 (S.1 36 7).toNatClampNeg p2) 43 ((sI S 42 (S.1 36 7).toNatClampNeg p2).1 36 7).toNatClampNeg p3).1 36 7).toNatClampNeg p4).1 36 7) (12) = true then
(f_X8_writes p1 (3 : Int32) ((sI (sI (sI (sI S 42 (S.1 36 7).toNatClampNeg p2) 43 ((sI S 42 (S.1 36 7).toNatClampNeg p2).1 36 7).toNatClampNeg p3) 44 ((sI (sI S 42 (S.1 36 7).toNatClampNeg p2) 43 ((sI S 42 (S.1 36 7).toNatClampNeg p2).1 36 7).toNatClampNeg p3).1 36 7).toNatClampNeg p4) 45 ((sI (sI (sI S 42 (S.1 36 7).toNatClampNeg p2) 43 ((sI S 42 (S.1 36 7).toNatClampNeg p2).1 36 7).toNatClampNeg p3) 44 ((sI (sI S 42 (S.1 36 7).toNatClampNeg p2) 43 ((sI S 42 (S.1 36 7).toNatClampNeg p2).1 36 7).toNatClampNeg p3).1 36 7).toNatClampNeg p4).1 36 7).toNatClampNeg ((sI (sI (sI S 42 (S.1 36 7).toNatClampNeg p2) 43 ((sI S 42 (S.1 36 7).toNatClampNeg p2).1 36 7).toNatClampNeg p3) 44 ((sI (sI S 42 (S.1 36 7).toNatClampNeg p2) 43 ((sI S 42 (S.1 36 7).toNatClampNeg p2).1 36 7).toNatClampNeg p3).1 36 7).toNatClampNeg p4).1 36 12)).1 36 7) (0 : Int32) (0 : Int32) (0 : Int32) (0 : Int32) (sI (sI (sI (sI S 42 (S.1 36 7).toNatClampNeg p2) 43 ((sI S 42 (S.1 36 7).toNatClampNeg p2).1 36 7).toNatClampNeg p3) 44 ((sI (sI S 42 (S.1 36 7).toNatClampNeg p2) 43 ((sI S 42 (S.1 36 7).toNatClampNeg p2).1 36 7).toNatClampNeg p3).1 36 7).toNatClampNeg p4) 45 ((sI (sI (sI S 42 (S.1 36 7).toNatClampNeg p2) 43 ((sI S 42 (S.1 36 7).toNatClampNeg p2).1 36 7).toNatClampNeg p3) 44 ((sI (sI S 42 (S.1 36 7).toNatClampNeg p2) 43 ((sI S 42 (S.1 36 7).toNatClampNeg p2).1 36 7).toNatClampNeg p3).1 36 7).toNatClampNeg p4).1 36 7).toNatClampNeg ((sI (sI (sI S 42 (S.1 36 7).toNatClampNeg p2) 43 ((sI S 42 (S.1 36 7).toNatClampNeg p2).1 36 7).toNatClampNeg p3) 44 ((sI (sI S 42 (S.1 36 7).toNatClampNeg p2) 43 ((sI S 42 (S.1 36 7).toNatClampNeg p2).1 36 7).toNatClampNeg p3).1 36 7).toNatClampNeg p4).1 36 12))).bind (fun o149 =>
(f_X8_canMake o149).bind (fun o153 =>
f_X8_lay_b158 p1 p2 p3 p4  o153.1 x5 x6 o153.2))
else none
else none
else none
else none
def f_X8_lay_b86 (p1 : Int32) (p2 : Int32) (p3 : Int32) (p4 : Int32)  (S : HS) (x5 : Int32) (x6 : Int32) : Option (HS × Int32) :=
f_X8_lay_b87 p1 p2 p3 p4  S x5 x6 (0 : Int32)
def f_X8_lay_b52 (p1 : Int32) (p2 : Int32) (p3 : Int32) (p4 : Int32)  (S : HS) (x5 : Int32) (t0 : Int32) : Option (HS × Int32) :=
if x5 = 0 then
f_X8_lay_b86 p1 p2 p3 p4  S x5 t0
else
if t0 = 0 then
f_X8_lay_b86 p1 p2 p3 p4  S x5 t0
else
if (12 : Int32) ≤ (S.1 36 7) then
f_X8_lay_b86 p1 p2 p3 p4  S x5 t0
else
if (60 : Int32) ≤ (S.1 36 12) then
f_X8_lay_b86 p1 p2 p3 p4  S x5 t0
else
f_X8_lay_b87 p1 p2 p3 p4  S x5 t0 (1 : Int32)
def f_X8_lay_b51 (p1 : Int32) (p2 : Int32) (p3 : Int32) (p4 : Int32)  (S : HS) (x5 : Int32) : Option (HS × Int32) :=
f_X8_lay_b52 p1 p2 p3 p4  S x5 (0 : Int32)
def f_X8_lay_b29 (p1 : Int32) (p2 : Int32) (p3 : Int32) (p4 : Int32)  (S : HS) (t0 : Int32) : Option (HS × Int32) :=
(f_X8_isIn p2 (0 : Int32) (6 : Int32) S).bind (fun o35 =>
if o35 = 0 then
f_X8_lay_b51 p1 p2 p3 p4  S t0
else
if p3 = p4 then
f_X8_lay_b51 p1 p2 p3 p4  S t0
else
f_X8_lay_b52 p1 p2 p3 p4  S t0 (1 : Int32))
def f_X8_lay_b28 (p1 : Int32) (p2 : Int32) (p3 : Int32) (p4 : Int32)  (S : HS)  : Option (HS × Int32) :=
f_X8_lay_b29 p1 p2 p3 p4  S (0 : Int32)
def f_X8_lay (p1 : Int32) (p2 : Int32) (p3 : Int32) (p4 : Int32) (S : HS) : Option (HS × Int32) :=
(f_X8_isDrawer p1 S).bind (fun o1 =>
if o1 = 0 then
f_X8_lay_b28 p1 p2 p3 p4  S
else
(f_X8_isShape p3 S).bind (fun o9 =>
if o9 = 0 then
f_X8_lay_b28 p1 p2 p3 p4  S
else
(f_X8_isShape p4 S).bind (fun o18 =>
if o18 = 0 then
f_X8_lay_b28 p1 p2 p3 p4  S
else
f_X8_lay_b29 p1 p2 p3 p4  S (1 : Int32))))
def rm_X8_lay : Room := { frames := 6, cells := 0, slots := 0, locals := 150 }
set_option maxRecDepth 100000 in
set_option maxHeartbeats 4000000 in
theorem c_X8_lay (l : Launch) (p1 : Int32) (p2 : Int32) (p3 : Int32) (p4 : Int32)  (S : HS) (out : HS × Int32) (h : f_X8_lay p1 p2 p3 p4 S = some out) : Ct l yX8_lay cX8_lay 8 (some .int) rm_X8_lay [vR 36, vI p1, vI p2, vI p3, vI p4] S (some (vI out.2)) out.1 := by
  refine Ct.intro (own := RX8) (lv := [(0, vR 36), (1, vI p1), (2, vI p2), (3, vI p3), (4, vI p4)]) (by decide +kernel) rfl ⟨rfl, rfl⟩ rfl (Nat.le_of_ble_eq_true rfl) ?_
  intro G hG hR
  revert h
  have hb187 : ∀ (S : HS) (t1 : Int32), f_X8_lay_b187 p1 p2 p3 p4 S t1 = some out → G 0 0 S [(0, vR 36)] 187 [vI t1, vR 36] := by
    intro S t1
    unfold f_X8_lay_b187
    refine s_cvI hG (as := [vI t1]) (st := []) (rm := rm_X8_can) dX8_lay_187 ml_RX8_100 (rfl) (tb19 (mem_i 3 rfl)) rfl ⟨rfl, rfl⟩ ⟨by decide, by decide⟩ (Nat.le_of_ble_eq_true rfl) ⟨Nat.zero_le _, Nat.zero_le _⟩ rfl (fun o h => c_X8_can l _ _ o h) (fun o187 => ?_)
    refine s_if_ne hG (tgt := 195) dX8_lay_190 (by decide) ?_ ?_
    · refine s_aload_n hG dX8_lay_195 rfl ?_
      refine s_cvI hG (as := []) (st := []) (rm := rm_X8_makes) dX8_lay_196 ml_RX8_170 (rfl) (tb21 (mem_i 2 rfl)) rfl ⟨rfl, rfl⟩ ⟨by decide, by decide⟩ (Nat.le_of_ble_eq_true rfl) ⟨Nat.zero_le _, Nat.zero_le _⟩ rfl (fun o h => c_X8_makes l  _ o h) (fun o196 => ?_)
      refine s_pop hG dX8_lay_199 rfl ?_
      refine s_aload_n hG dX8_lay_200 rfl ?_
      refine s_dup hG dX8_lay_201 rfl ?_
      refine s_getI hG dX8_lay_202 fl_RX8_91 (rfl) ?_
      refine s_iconst hG (v := (1 : Int32)) dX8_lay_205 (by decide) ?_
      refine s_iadd hG dX8_lay_206 ?_
      refine s_putI hG dX8_lay_207 fl_RX8_91 fp_8_7 (rfl) ⟨rfl, rfl⟩ ?_
      refine s_aload_n hG dX8_lay_210 rfl ?_
      refine s_getI hG dX8_lay_211 fl_RX8_91 (rfl) ?_
      refine s_iconst hG (v := (1 : Int32)) dX8_lay_214 (by decide) ?_
      refine s_isub hG dX8_lay_215 ?_
      exact s_riC hR dX8_lay_216
    · refine s_iconst hG (v := (0 : Int32)) dX8_lay_193 (by decide) ?_
      exact s_riC hR dX8_lay_194
  have hb158 : ∀ (S : HS) (x5 : Int32) (x6 : Int32) (x7 : Int32), f_X8_lay_b158 p1 p2 p3 p4 S x5 x6 x7 = some out → G 0 0 S [(0, vR 36), (5, vI x5), (6, vI x6), (7, vI x7)] 158 [] := by
    intro S x5 x6 x7
    unfold f_X8_lay_b158
    refine s_aload_n hG dX8_lay_158 rfl ?_
    refine s_iload hG dX8_lay_159 rfl ?_
    refine s_if_ne hG (tgt := 168) dX8_lay_161 (by decide) ?_ ?_
    · refine s_iload hG dX8_lay_168 rfl ?_
      refine s_if_ne hG (tgt := 177) dX8_lay_170 (by decide) ?_ ?_
      · refine s_iload hG dX8_lay_177 rfl ?_
        refine s_if_eq hG (tgt := 186) dX8_lay_179 (by decide) ?_ ?_
        · refine s_iconst hG (v := (3 : Int32)) dX8_lay_186 (by decide) ?_
          refine s_lv hG [0] rfl ?_
          exact hb187 _ _
        · refine s_iconst hG (v := (0 : Int32)) dX8_lay_182 (by decide) ?_
          refine s_goto hG (tgt := 187) dX8_lay_183 (by decide) ?_
          refine s_lv hG [0] rfl ?_
          exact hb187 _ _
      · refine s_iconst hG (v := (2 : Int32)) dX8_lay_173 (by decide) ?_
        refine s_goto hG (tgt := 187) dX8_lay_174 (by decide) ?_
        refine s_lv hG [0] rfl ?_
        exact hb187 _ _
    · refine s_iconst hG (v := (1 : Int32)) dX8_lay_164 (by decide) ?_
      refine s_goto hG (tgt := 187) dX8_lay_165 (by decide) ?_
      refine s_lv hG [0] rfl ?_
      exact hb187 _ _
  have hb87 : ∀ (S : HS) (x5 : Int32) (x6 : Int32) (t0 : Int32), f_X8_lay_b87 p1 p2 p3 p4 S x5 x6 t0 = some out → G 0 0 S [(0, vR 36), (1, vI p1), (2, vI p2), (3, vI p3), (4, vI p4), (5, vI x5), (6, vI x6)] 87 [vI t0] := by
    intro S x5 x6 t0
    unfold f_X8_lay_b87
    refine s_istore hG (lv' := [(7, vI t0), (0, vR 36), (1, vI p1), (2, vI p2), (3, vI p3), (4, vI p4), (5, vI x5), (6, vI x6)]) dX8_lay_87 (by decide) rfl ?_
    refine s_iload hG dX8_lay_89 rfl ?_
    refine s_if_eq hG (tgt := 158) dX8_lay_91 (by decide) ?_ ?_
    · refine s_lv hG [1, 6, 7, 0] rfl ?_
      exact hb158 _ _ _ _
    · refine s_aload_n hG dX8_lay_94 rfl ?_
      refine s_getC hG dX8_lay_95 fl_RX8_26 (rfl) ?_
      refine s_aload_n hG dX8_lay_98 rfl ?_
      refine s_getI hG dX8_lay_99 fl_RX8_91 (rfl) ?_
      refine s_iload_n hG dX8_lay_102 rfl ?_
      refine s_iastore hG dX8_lay_103 (rfl) ?_
      refine s_aload_n hG dX8_lay_104 rfl ?_
      refine s_getC hG dX8_lay_105 fl_RX8_29 (rfl) ?_
      refine s_aload_n hG dX8_lay_108 rfl ?_
      refine s_getI hG dX8_lay_109 fl_RX8_91 (rfl) ?_
      refine s_iload_n hG dX8_lay_112 rfl ?_
      refine s_iastore hG dX8_lay_113 (rfl) ?_
      refine s_aload_n hG dX8_lay_114 rfl ?_
      refine s_getC hG dX8_lay_115 fl_RX8_32 (rfl) ?_
      refine s_aload_n hG dX8_lay_118 rfl ?_
      refine s_getI hG dX8_lay_119 fl_RX8_91 (rfl) ?_
      refine s_iload hG dX8_lay_122 rfl ?_
      refine s_iastore hG dX8_lay_124 (rfl) ?_
      refine s_aload_n hG dX8_lay_125 rfl ?_
      refine s_getC hG dX8_lay_126 fl_RX8_35 (rfl) ?_
      refine s_aload_n hG dX8_lay_129 rfl ?_
      refine s_getI hG dX8_lay_130 fl_RX8_91 (rfl) ?_
      refine s_aload_n hG dX8_lay_133 rfl ?_
      refine s_getI hG dX8_lay_134 fl_RX8_94 (rfl) ?_
      refine s_iastore hG dX8_lay_137 (rfl) ?_
      refine s_aload_n hG dX8_lay_138 rfl ?_
      refine s_iload_n hG dX8_lay_139 rfl ?_
      refine s_iconst hG (v := (3 : Int32)) dX8_lay_140 (by decide) ?_
      refine s_aload_n hG dX8_lay_141 rfl ?_
      refine s_getI hG dX8_lay_142 fl_RX8_91 (rfl) ?_
      refine s_iconst hG (v := (0 : Int32)) dX8_lay_145 (by decide) ?_
      refine s_iconst hG (v := (0 : Int32)) dX8_lay_146 (by decide) ?_
      refine s_iconst hG (v := (0 : Int32)) dX8_lay_147 (by decide) ?_
      refine s_iconst hG (v := (0 : Int32)) dX8_lay_148 (by decide) ?_
      refine s_cvV hG (as := [vI p1, vI (3 : Int32), vI ((sI (sI (sI (sI S 42 (S.1 36 7).toNatClampNeg p2) 43 ((sI S 42 (S.1 36 7).toNatClampNeg p2).1 36 7).toNatClampNeg p3) 44 ((sI (sI S 42 (S.1 36 7).toNatClampNeg p2) 43 ((sI S 42 (S.1 36 7).toNatClampNeg p2).1 36 7).toNatClampNeg p3).1 36 7).toNatClampNeg p4) 45 ((sI (sI (sI S 42 (S.1 36 7).toNatClampNeg p2) 43 ((sI S 42 (S.1 36 7).toNatClampNeg p2).1 36 7).toNatClampNeg p3) 44 ((sI (sI S 42 (S.1 36 7).toNatClampNeg p2) 43 ((sI S 42 (S.1 36 7).toNatClampNeg p2).1 36 7).toNatClampNeg p3).1 36 7).toNatClampNeg p4).1 36 7).toNatClampNeg ((sI (sI (sI S 42 (S.1 36 7).toNatClampNeg p2) 43 ((sI S 42 (S.1 36 7).toNatClampNeg p2).1 36 7).toNatClampNeg p3) 44 ((sI (sI S 42 (S.1 36 7).toNatClampNeg p2) 43 ((sI S 42 (S.1 36 7).toNatClampNeg p2).1 36 7).toNatClampNeg p3).1 36 7).toNatClampNeg p4).1 36 12)).1 36 7), vI (0 : Int32), vI (0 : Int32), vI (0 : Int32), vI (0 : Int32)]) (st := []) (rm := rm_X8_writes) dX8_lay_149 ml_RX8_166 (rfl) (tb19 (mem_i 26 rfl)) rfl ⟨rfl, rfl⟩ ⟨by decide, by decide⟩ (Nat.le_of_ble_eq_true rfl) ⟨Nat.zero_le _, Nat.zero_le _⟩ rfl (fun o h => c_X8_writes l _ _ _ _ _ _ _ _ o h) (fun o149 => ?_)
      refine s_aload_n hG dX8_lay_152 rfl ?_
      refine s_cvI hG (as := []) (st := []) (rm := rm_X8_canMake) dX8_lay_153 ml_RX8_189 (rfl) (tb21 (mem_i 22 rfl)) rfl ⟨rfl, rfl⟩ ⟨by decide, by decide⟩ (Nat.le_of_ble_eq_true rfl) ⟨Nat.zero_le _, Nat.zero_le _⟩ rfl (fun o h => c_X8_canMake l  _ o h) (fun o153 => ?_)
      refine s_istore hG (lv' := [(7, vI o153.2), (0, vR 36), (1, vI p1), (2, vI p2), (3, vI p3), (4, vI p4), (5, vI x5), (6, vI x6)]) dX8_lay_156 (by decide) rfl ?_
      refine s_lv hG [1, 6, 7, 0] rfl ?_
      exact hb158 _ _ _ _
  have hb86 : ∀ (S : HS) (x5 : Int32) (x6 : Int32), f_X8_lay_b86 p1 p2 p3 p4 S x5 x6 = some out → G 0 0 S [(0, vR 36), (1, vI p1), (2, vI p2), (3, vI p3), (4, vI p4), (5, vI x5), (6, vI x6)] 86 [] := by
    intro S x5 x6
    unfold f_X8_lay_b86
    refine s_iconst hG (v := (0 : Int32)) dX8_lay_86 (by decide) ?_
    exact hb87 _ _ _ _
  have hb52 : ∀ (S : HS) (x5 : Int32) (t0 : Int32), f_X8_lay_b52 p1 p2 p3 p4 S x5 t0 = some out → G 0 0 S [(0, vR 36), (1, vI p1), (2, vI p2), (3, vI p3), (4, vI p4), (5, vI x5)] 52 [vI t0] := by
    intro S x5 t0
    unfold f_X8_lay_b52
    refine s_istore hG (lv' := [(6, vI t0), (0, vR 36), (1, vI p1), (2, vI p2), (3, vI p3), (4, vI p4), (5, vI x5)]) dX8_lay_52 (by decide) rfl ?_
    refine s_iload hG dX8_lay_54 rfl ?_
    refine s_if_eq hG (tgt := 86) dX8_lay_56 (by decide) ?_ ?_
    · refine s_lv hG [1, 2, 3, 4, 5, 6, 0] rfl ?_
      exact hb86 _ _ _
    · refine s_iload hG dX8_lay_59 rfl ?_
      refine s_if_eq hG (tgt := 86) dX8_lay_61 (by decide) ?_ ?_
      · refine s_lv hG [1, 2, 3, 4, 5, 6, 0] rfl ?_
        exact hb86 _ _ _
      · refine s_aload_n hG dX8_lay_64 rfl ?_
        refine s_getI hG dX8_lay_65 fl_RX8_91 (rfl) ?_
        refine s_bipush hG (v := (12 : Int32)) dX8_lay_68 (by decide) ?_
        refine s_icmp_ge hG (tgt := 86) dX8_lay_70 (by decide) ?_ ?_
        · refine s_lv hG [1, 2, 3, 4, 5, 6, 0] rfl ?_
          exact hb86 _ _ _
        · refine s_aload_n hG dX8_lay_73 rfl ?_
          refine s_getI hG dX8_lay_74 fl_RX8_94 (rfl) ?_
          refine s_bipush hG (v := (60 : Int32)) dX8_lay_77 (by decide) ?_
          refine s_icmp_ge hG (tgt := 86) dX8_lay_79 (by decide) ?_ ?_
          · refine s_lv hG [1, 2, 3, 4, 5, 6, 0] rfl ?_
            exact hb86 _ _ _
          · refine s_iconst hG (v := (1 : Int32)) dX8_lay_82 (by decide) ?_
            refine s_goto hG (tgt := 87) dX8_lay_83 (by decide) ?_
            refine s_lv hG [1, 2, 3, 4, 5, 6, 0] rfl ?_
            exact hb87 _ _ _ _
  have hb51 : ∀ (S : HS) (x5 : Int32), f_X8_lay_b51 p1 p2 p3 p4 S x5 = some out → G 0 0 S [(0, vR 36), (1, vI p1), (2, vI p2), (3, vI p3), (4, vI p4), (5, vI x5)] 51 [] := by
    intro S x5
    unfold f_X8_lay_b51
    refine s_iconst hG (v := (0 : Int32)) dX8_lay_51 (by decide) ?_
    exact hb52 _ _ _
  have hb29 : ∀ (S : HS) (t0 : Int32), f_X8_lay_b29 p1 p2 p3 p4 S t0 = some out → G 0 0 S [(0, vR 36), (1, vI p1), (2, vI p2), (3, vI p3), (4, vI p4)] 29 [vI t0] := by
    intro S t0
    unfold f_X8_lay_b29
    refine s_istore hG (lv' := [(5, vI t0), (0, vR 36), (1, vI p1), (2, vI p2), (3, vI p3), (4, vI p4)]) dX8_lay_29 (by decide) rfl ?_
    refine s_iload_n hG dX8_lay_31 rfl ?_
    refine s_iconst hG (v := (0 : Int32)) dX8_lay_32 (by decide) ?_
    refine s_bipush hG (v := (6 : Int32)) dX8_lay_33 (by decide) ?_
    refine s_csP hG (as := [vI p2, vI (0 : Int32), vI (6 : Int32)]) (st := []) (rm := rm_X8_isIn) dX8_lay_35 ml_RX8_84 (tb19 (mem_i 0 rfl)) rfl ⟨rfl, rfl⟩ ⟨by decide, by decide⟩ (Nat.le_of_ble_eq_true rfl) ⟨Nat.zero_le _, Nat.zero_le _⟩ rfl (fun o h => c_X8_isIn l _ _ _ _ o h) (fun o35 => ?_)
    refine s_if_eq hG (tgt := 51) dX8_lay_38 (by decide) ?_ ?_
    · refine s_lv hG [1, 2, 3, 4, 5, 0] rfl ?_
      exact hb51 _ _
    · refine s_iload_n hG dX8_lay_41 rfl ?_
      refine s_iload hG dX8_lay_42 rfl ?_
      refine s_icmp_eq hG (tgt := 51) dX8_lay_44 (by decide) ?_ ?_
      · refine s_lv hG [1, 2, 3, 4, 5, 0] rfl ?_
        exact hb51 _ _
      · refine s_iconst hG (v := (1 : Int32)) dX8_lay_47 (by decide) ?_
        refine s_goto hG (tgt := 52) dX8_lay_48 (by decide) ?_
        refine s_lv hG [1, 2, 3, 4, 5, 0] rfl ?_
        exact hb52 _ _ _
  have hb28 : ∀ (S : HS), f_X8_lay_b28 p1 p2 p3 p4 S  = some out → G 0 0 S [(0, vR 36), (1, vI p1), (2, vI p2), (3, vI p3), (4, vI p4)] 28 [] := by
    intro S
    unfold f_X8_lay_b28
    refine s_iconst hG (v := (0 : Int32)) dX8_lay_28 (by decide) ?_
    exact hb29 _ _
  unfold f_X8_lay
  refine s_iload_n hG dX8_lay_0 rfl ?_
  refine s_csP hG (as := [vI p1]) (st := []) (rm := rm_X8_isDrawer) dX8_lay_1 ml_RX8_179 (tb19 (mem_i 20 rfl)) rfl ⟨rfl, rfl⟩ ⟨by decide, by decide⟩ (Nat.le_of_ble_eq_true rfl) ⟨Nat.zero_le _, Nat.zero_le _⟩ rfl (fun o h => c_X8_isDrawer l _ _ o h) (fun o1 => ?_)
  refine s_if_eq hG (tgt := 28) dX8_lay_4 (by decide) ?_ ?_
  · exact hb28 _
  · refine s_aload_n hG dX8_lay_7 rfl ?_
    refine s_iload_n hG dX8_lay_8 rfl ?_
    refine s_cvP hG (as := [vI p3]) (st := []) (rm := rm_X8_isShape) dX8_lay_9 ml_RX8_186 (rfl) (tb21 (mem_i 19 rfl)) rfl ⟨rfl, rfl⟩ ⟨by decide, by decide⟩ (Nat.le_of_ble_eq_true rfl) ⟨Nat.zero_le _, Nat.zero_le _⟩ rfl (fun o h => c_X8_isShape l _ _ o h) (fun o9 => ?_)
    refine s_if_eq hG (tgt := 28) dX8_lay_12 (by decide) ?_ ?_
    · exact hb28 _
    · refine s_aload_n hG dX8_lay_15 rfl ?_
      refine s_iload hG dX8_lay_16 rfl ?_
      refine s_cvP hG (as := [vI p4]) (st := []) (rm := rm_X8_isShape) dX8_lay_18 ml_RX8_186 (rfl) (tb21 (mem_i 19 rfl)) rfl ⟨rfl, rfl⟩ ⟨by decide, by decide⟩ (Nat.le_of_ble_eq_true rfl) ⟨Nat.zero_le _, Nat.zero_le _⟩ rfl (fun o h => c_X8_isShape l _ _ o h) (fun o18 => ?_)
      refine s_if_eq hG (tgt := 28) dX8_lay_21 (by decide) ?_ ?_
      · exact hb28 _
      · refine s_iconst hG (v := (1 : Int32)) dX8_lay_24 (by decide) ?_
        refine s_goto hG (tgt := 29) dX8_lay_25 (by decide) ?_
        exact hb29 _ _

def f_X8_length_b42 (p1 : Int32)  (S : HS) (t0 : Int32) : Option (HS × Int32) :=
some (S, t0)
def f_X8_length_b26 (p1 : Int32)  (S : HS) (t1 : Int32) : Option (HS × Int32) :=
(f_X8_can t1 S).bind (fun o26 =>
if o26.2 = 0 then
f_X8_length_b42 p1  o26.1 (0 : Int32)
else
(f_X8_goesThrough p1 (0 : Int32) o26.1).bind (fun o35 =>
f_X8_length_b42 p1  o35.1 o35.2))
def f_X8_length (p1 : Int32) (S : HS) : Option (HS × Int32) :=
(f_X8_isExport p1 S).bind (fun o3 =>
if o3 = 0 then
f_X8_length_b26 p1  S (1 : Int32)
else
if (S.1 36 30) ≤ p1 then
f_X8_length_b26 p1  S (2 : Int32)
else
f_X8_length_b26 p1  S (0 : Int32))
def rm_X8_length : Room := { frames := 3, cells := 0, slots := 0, locals := 68 }
set_option maxRecDepth 100000 in
set_option maxHeartbeats 4000000 in
theorem c_X8_length (l : Launch) (p1 : Int32)  (S : HS) (out : HS × Int32) (h : f_X8_length p1 S = some out) : Ct l yX8_length cX8_length 2 (some .int) rm_X8_length [vR 36, vI p1] S (some (vI out.2)) out.1 := by
  refine Ct.intro (own := RX8) (lv := [(0, vR 36), (1, vI p1)]) (by decide +kernel) rfl ⟨rfl, rfl⟩ rfl (Nat.le_of_ble_eq_true rfl) ?_
  intro G hG hR
  revert h
  have hb42 : ∀ (S : HS) (t0 : Int32), f_X8_length_b42 p1 S t0 = some out → G 0 0 S [] 42 [vI t0] := by
    intro S t0
    unfold f_X8_length_b42
    exact s_riC hR dX8_length_42
  have hb26 : ∀ (S : HS) (t1 : Int32), f_X8_length_b26 p1 S t1 = some out → G 0 0 S [(0, vR 36), (1, vI p1)] 26 [vI t1, vR 36] := by
    intro S t1
    unfold f_X8_length_b26
    refine s_cvI hG (as := [vI t1]) (st := []) (rm := rm_X8_can) dX8_length_26 ml_RX8_100 (rfl) (tb19 (mem_i 3 rfl)) rfl ⟨rfl, rfl⟩ ⟨by decide, by decide⟩ (Nat.le_of_ble_eq_true rfl) ⟨Nat.zero_le _, Nat.zero_le _⟩ rfl (fun o h => c_X8_can l _ _ o h) (fun o26 => ?_)
    refine s_if_eq hG (tgt := 41) dX8_length_29 (by decide) ?_ ?_
    · refine s_iconst hG (v := (0 : Int32)) dX8_length_41 (by decide) ?_
      refine s_lv hG [] rfl ?_
      exact hb42 _ _
    · refine s_aload_n hG dX8_length_32 rfl ?_
      refine s_iload_n hG dX8_length_33 rfl ?_
      refine s_iconst hG (v := (0 : Int32)) dX8_length_34 (by decide) ?_
      refine s_cvI hG (as := [vI p1, vI (0 : Int32)]) (st := []) (rm := rm_X8_goesThrough) dX8_length_35 ml_RX8_241 (rfl) (tb25 (mem_i 13 rfl)) rfl ⟨rfl, rfl⟩ ⟨by decide, by decide⟩ (Nat.le_of_ble_eq_true rfl) ⟨Nat.zero_le _, Nat.zero_le _⟩ rfl (fun o h => c_X8_goesThrough l _ _ _ o h) (fun o35 => ?_)
      refine s_goto hG (tgt := 42) dX8_length_38 (by decide) ?_
      refine s_lv hG [] rfl ?_
      exact hb42 _ _
  unfold f_X8_length
  refine s_aload_n hG dX8_length_0 rfl ?_
  refine s_aload_n hG dX8_length_1 rfl ?_
  refine s_iload_n hG dX8_length_2 rfl ?_
  refine s_cvP hG (as := [vI p1]) (st := [vR 36]) (rm := rm_X8_isExport) dX8_length_3 ml_RX8_238 (rfl) (tb25 (mem_i 10 rfl)) rfl ⟨rfl, rfl⟩ ⟨by decide, by decide⟩ (Nat.le_of_ble_eq_true rfl) ⟨Nat.zero_le _, Nat.zero_le _⟩ rfl (fun o h => c_X8_isExport l _ _ o h) (fun o3 => ?_)
  refine s_if_ne hG (tgt := 13) dX8_length_6 (by decide) ?_ ?_
  · refine s_iload_n hG dX8_length_13 rfl ?_
    refine s_aload_n hG dX8_length_14 rfl ?_
    refine s_getI hG dX8_length_15 fl_RX8_218 (rfl) ?_
    refine s_icmp_ge hG (tgt := 25) dX8_length_18 (by decide) ?_ ?_
    · refine s_iconst hG (v := (2 : Int32)) dX8_length_25 (by decide) ?_
      exact hb26 _ _
    · refine s_iconst hG (v := (0 : Int32)) dX8_length_21 (by decide) ?_
      refine s_goto hG (tgt := 26) dX8_length_22 (by decide) ?_
      exact hb26 _ _
  · refine s_iconst hG (v := (1 : Int32)) dX8_length_9 (by decide) ?_
    refine s_goto hG (tgt := 26) dX8_length_10 (by decide) ?_
    exact hb26 _ _

def f_X8_make  (S : HS) : Option (HS × Int32) :=
if ((sI S 36 36 (0 : Int32)).1 36 30) = ((sI S 36 36 (0 : Int32)).1 36 29) then
some ((sI S 36 36 (0 : Int32)), (-1 : Int32))
else
some ((sI (sI S 36 36 (0 : Int32)) 36 30 (((sI S 36 36 (0 : Int32)).1 36 30) + (1 : Int32))), (((sI (sI S 36 36 (0 : Int32)) 36 30 (((sI S 36 36 (0 : Int32)).1 36 30) + (1 : Int32))).1 36 30) - (1 : Int32)))
def rm_X8_make : Room := { frames := 0, cells := 0, slots := 0, locals := 0 }
set_option maxRecDepth 100000 in
set_option maxHeartbeats 4000000 in
theorem c_X8_make (l : Launch)   (S : HS) (out : HS × Int32) (h : f_X8_make  S = some out) : Ct l yX8_make cX8_make 1 (some .int) rm_X8_make [vR 36] S (some (vI out.2)) out.1 := by
  refine Ct.intro (own := RX8) (lv := [(0, vR 36)]) (by decide +kernel) rfl ⟨rfl, rfl⟩ rfl (Nat.le_of_ble_eq_true rfl) ?_
  intro G hG hR
  revert h
  unfold f_X8_make
  refine s_aload_n hG dX8_make_0 rfl ?_
  refine s_iconst hG (v := (0 : Int32)) dX8_make_1 (by decide) ?_
  refine s_putI hG dX8_make_2 fl_RX8_80 fp_8_36 (rfl) ⟨rfl, rfl⟩ ?_
  refine s_aload_n hG dX8_make_5 rfl ?_
  refine s_getI hG dX8_make_6 fl_RX8_218 (rfl) ?_
  refine s_aload_n hG dX8_make_9 rfl ?_
  refine s_getI hG dX8_make_10 fl_RX8_215 (rfl) ?_
  refine s_icmp_ne hG (tgt := 18) dX8_make_13 (by decide) ?_ ?_
  · refine s_aload_n hG dX8_make_18 rfl ?_
    refine s_dup hG dX8_make_19 rfl ?_
    refine s_getI hG dX8_make_20 fl_RX8_218 (rfl) ?_
    refine s_iconst hG (v := (1 : Int32)) dX8_make_23 (by decide) ?_
    refine s_iadd hG dX8_make_24 ?_
    refine s_putI hG dX8_make_25 fl_RX8_218 fp_8_30 (rfl) ⟨rfl, rfl⟩ ?_
    refine s_aload_n hG dX8_make_28 rfl ?_
    refine s_getI hG dX8_make_29 fl_RX8_218 (rfl) ?_
    refine s_iconst hG (v := (1 : Int32)) dX8_make_32 (by decide) ?_
    refine s_isub hG dX8_make_33 ?_
    exact s_riC hR dX8_make_34
  · refine s_iconst hG (v := (-1 : Int32)) dX8_make_16 (by decide) ?_
    exact s_riC hR dX8_make_17

def f_X8_move (p1 : Int32) (p2 : Int32) (p3 : Int32) (p4 : Int32) (S : HS) : Option (HS × Int32) :=
(f_X8_isPlace p3 p4 S).bind (fun o10 =>
(f_X8_changes p1 (1 : Int32) p2 p3 p4 o10 S).bind (fun o13 =>
some (o13.1, o13.2)))
def rm_X8_move : Room := { frames := 7, cells := 0, slots := 0, locals := 178 }
set_option maxRecDepth 100000 in
set_option maxHeartbeats 4000000 in
theorem c_X8_move (l : Launch) (p1 : Int32) (p2 : Int32) (p3 : Int32) (p4 : Int32)  (S : HS) (out : HS × Int32) (h : f_X8_move p1 p2 p3 p4 S = some out) : Ct l yX8_move cX8_move 5 (some .int) rm_X8_move [vR 36, vI p1, vI p2, vI p3, vI p4] S (some (vI out.2)) out.1 := by
  refine Ct.intro (own := RX8) (lv := [(0, vR 36), (1, vI p1), (2, vI p2), (3, vI p3), (4, vI p4)]) (by decide +kernel) rfl ⟨rfl, rfl⟩ rfl (Nat.le_of_ble_eq_true rfl) ?_
  intro G hG hR
  revert h
  unfold f_X8_move
  refine s_aload_n hG dX8_move_0 rfl ?_
  refine s_iload_n hG dX8_move_1 rfl ?_
  refine s_iconst hG (v := (1 : Int32)) dX8_move_2 (by decide) ?_
  refine s_iload_n hG dX8_move_3 rfl ?_
  refine s_iload_n hG dX8_move_4 rfl ?_
  refine s_iload hG dX8_move_5 rfl ?_
  refine s_iload_n hG dX8_move_7 rfl ?_
  refine s_iload hG dX8_move_8 rfl ?_
  refine s_csP hG (as := [vI p3, vI p4]) (st := [vI p4, vI p3, vI p2, vI (1 : Int32), vI p1, vR 36]) (rm := rm_X8_isPlace) dX8_move_10 ml_RX8_173 (tb19 (mem_i 14 rfl)) rfl ⟨rfl, rfl⟩ ⟨by decide, by decide⟩ (Nat.le_of_ble_eq_true rfl) ⟨Nat.zero_le _, Nat.zero_le _⟩ rfl (fun o h => c_X8_isPlace l _ _ _ o h) (fun o10 => ?_)
  refine s_cvI hG (as := [vI p1, vI (1 : Int32), vI p2, vI p3, vI p4, vI o10]) (st := []) (rm := rm_X8_changes) dX8_move_13 ml_RX8_192 (rfl) (tb21 (mem_i 16 rfl)) rfl ⟨rfl, rfl⟩ ⟨by decide, by decide⟩ (Nat.le_of_ble_eq_true rfl) ⟨Nat.zero_le _, Nat.zero_le _⟩ rfl (fun o h => c_X8_changes l _ _ _ _ _ _ _ o h) (fun o13 => ?_)
  exact s_riC hR dX8_move_16

def f_X8_numberOf_b64 (p1 : Int32) (p2 : Int32)  (S : HS) (t0 : Int32) : Option (HS × Int32) :=
some (S, t0)
def f_X8_numberOf_b41 (p1 : Int32) (p2 : Int32)  (S : HS) (t0 : Int32) : Option (HS × Int32) :=
(f_X8_can t0 S).bind (fun o44 =>
if o44.2 = 0 then
f_X8_numberOf_b64 p1 p2  o44.1 (0 : Int32)
else
if ib (((4 : Int32) * p1) + p2) (40) = true then
f_X8_numberOf_b64 p1 p2  o44.1 (o44.1.1 53 (((4 : Int32) * p1) + p2).toNatClampNeg)
else none)
def f_X8_numberOf (p1 : Int32) (p2 : Int32) (S : HS) : Option (HS × Int32) :=
(f_X8_isShape p1 S).bind (fun o2 =>
if o2 = 0 then
f_X8_numberOf_b41 p1 p2  S (1 : Int32)
else
(f_X8_isIn p2 (0 : Int32) (3 : Int32) S).bind (fun o15 =>
if o15 = 0 then
f_X8_numberOf_b41 p1 p2  S (2 : Int32)
else
(f_X8_has (S.1 36 20) p1 S).bind (fun o30 =>
if o30 = 0 then
f_X8_numberOf_b41 p1 p2  S (3 : Int32)
else
f_X8_numberOf_b41 p1 p2  S (0 : Int32))))
def rm_X8_numberOf : Room := { frames := 2, cells := 0, slots := 0, locals := 43 }
set_option maxRecDepth 100000 in
set_option maxHeartbeats 4000000 in
theorem c_X8_numberOf (l : Launch) (p1 : Int32) (p2 : Int32)  (S : HS) (out : HS × Int32) (h : f_X8_numberOf p1 p2 S = some out) : Ct l yX8_numberOf cX8_numberOf 4 (some .int) rm_X8_numberOf [vR 36, vI p1, vI p2] S (some (vI out.2)) out.1 := by
  refine Ct.intro (own := RX8) (lv := [(0, vR 36), (1, vI p1), (2, vI p2)]) (by decide +kernel) rfl ⟨rfl, rfl⟩ rfl (Nat.le_of_ble_eq_true rfl) ?_
  intro G hG hR
  revert h
  have hb64 : ∀ (S : HS) (t0 : Int32), f_X8_numberOf_b64 p1 p2 S t0 = some out → G 0 0 S [] 64 [vI t0] := by
    intro S t0
    unfold f_X8_numberOf_b64
    exact s_riC hR dX8_numberOf_64
  have hb41 : ∀ (S : HS) (t0 : Int32), f_X8_numberOf_b41 p1 p2 S t0 = some out → G 0 0 S [(0, vR 36), (1, vI p1), (2, vI p2)] 41 [vI t0] := by
    intro S t0
    unfold f_X8_numberOf_b41
    refine s_istore_n hG (lv' := [(3, vI t0), (0, vR 36), (1, vI p1), (2, vI p2)]) dX8_numberOf_41 (by decide) rfl ?_
    refine s_aload_n hG dX8_numberOf_42 rfl ?_
    refine s_iload_n hG dX8_numberOf_43 rfl ?_
    refine s_cvI hG (as := [vI t0]) (st := []) (rm := rm_X8_can) dX8_numberOf_44 ml_RX8_100 (rfl) (tb19 (mem_i 3 rfl)) rfl ⟨rfl, rfl⟩ ⟨by decide, by decide⟩ (Nat.le_of_ble_eq_true rfl) ⟨Nat.zero_le _, Nat.zero_le _⟩ rfl (fun o h => c_X8_can l _ _ o h) (fun o44 => ?_)
    refine s_if_eq hG (tgt := 63) dX8_numberOf_47 (by decide) ?_ ?_
    · refine s_iconst hG (v := (0 : Int32)) dX8_numberOf_63 (by decide) ?_
      refine s_lv hG [] rfl ?_
      exact hb64 _ _
    · refine s_aload_n hG dX8_numberOf_50 rfl ?_
      refine s_getC hG dX8_numberOf_51 fl_RX8_59 (rfl) ?_
      refine s_iconst hG (v := (4 : Int32)) dX8_numberOf_54 (by decide) ?_
      refine s_iload_n hG dX8_numberOf_55 rfl ?_
      refine s_imul hG dX8_numberOf_56 ?_
      refine s_iload_n hG dX8_numberOf_57 rfl ?_
      refine s_iadd hG dX8_numberOf_58 ?_
      refine s_iaload hG dX8_numberOf_59 (rfl) ?_
      refine s_goto hG (tgt := 64) dX8_numberOf_60 (by decide) ?_
      refine s_lv hG [] rfl ?_
      exact hb64 _ _
  unfold f_X8_numberOf
  refine s_aload_n hG dX8_numberOf_0 rfl ?_
  refine s_iload_n hG dX8_numberOf_1 rfl ?_
  refine s_cvP hG (as := [vI p1]) (st := []) (rm := rm_X8_isShape) dX8_numberOf_2 ml_RX8_186 (rfl) (tb21 (mem_i 19 rfl)) rfl ⟨rfl, rfl⟩ ⟨by decide, by decide⟩ (Nat.le_of_ble_eq_true rfl) ⟨Nat.zero_le _, Nat.zero_le _⟩ rfl (fun o h => c_X8_isShape l _ _ o h) (fun o2 => ?_)
  refine s_if_ne hG (tgt := 12) dX8_numberOf_5 (by decide) ?_ ?_
  · refine s_iload_n hG dX8_numberOf_12 rfl ?_
    refine s_iconst hG (v := (0 : Int32)) dX8_numberOf_13 (by decide) ?_
    refine s_iconst hG (v := (3 : Int32)) dX8_numberOf_14 (by decide) ?_
    refine s_csP hG (as := [vI p2, vI (0 : Int32), vI (3 : Int32)]) (st := []) (rm := rm_X8_isIn) dX8_numberOf_15 ml_RX8_84 (tb19 (mem_i 0 rfl)) rfl ⟨rfl, rfl⟩ ⟨by decide, by decide⟩ (Nat.le_of_ble_eq_true rfl) ⟨Nat.zero_le _, Nat.zero_le _⟩ rfl (fun o h => c_X8_isIn l _ _ _ _ o h) (fun o15 => ?_)
    refine s_if_ne hG (tgt := 25) dX8_numberOf_18 (by decide) ?_ ?_
    · refine s_aload_n hG dX8_numberOf_25 rfl ?_
      refine s_getI hG dX8_numberOf_26 fl_RX8_142 (rfl) ?_
      refine s_iload_n hG dX8_numberOf_29 rfl ?_
      refine s_csP hG (as := [vI (S.1 36 20), vI p1]) (st := []) (rm := rm_X8_has) dX8_numberOf_30 ml_RX8_104 (tb20 (mem_i 2 rfl)) rfl ⟨rfl, rfl⟩ ⟨by decide, by decide⟩ (Nat.le_of_ble_eq_true rfl) ⟨Nat.zero_le _, Nat.zero_le _⟩ rfl (fun o h => c_X8_has l _ _ _ o h) (fun o30 => ?_)
      refine s_if_eq hG (tgt := 40) dX8_numberOf_33 (by decide) ?_ ?_
      · refine s_iconst hG (v := (3 : Int32)) dX8_numberOf_40 (by decide) ?_
        exact hb41 _ _
      · refine s_iconst hG (v := (0 : Int32)) dX8_numberOf_36 (by decide) ?_
        refine s_goto hG (tgt := 41) dX8_numberOf_37 (by decide) ?_
        exact hb41 _ _
    · refine s_iconst hG (v := (2 : Int32)) dX8_numberOf_21 (by decide) ?_
      refine s_goto hG (tgt := 41) dX8_numberOf_22 (by decide) ?_
      exact hb41 _ _
  · refine s_iconst hG (v := (1 : Int32)) dX8_numberOf_8 (by decide) ?_
    refine s_goto hG (tgt := 41) dX8_numberOf_9 (by decide) ?_
    exact hb41 _ _

def f_X8_number (p1 : Int32) (p2 : Int32) (S : HS) : Option (HS × Int32) :=
(f_X8_numberOf p1 p2 S).bind (fun o3 =>
some (o3.1, o3.2))
def rm_X8_number : Room := { frames := 3, cells := 0, slots := 0, locals := 66 }
set_option maxRecDepth 100000 in
set_option maxHeartbeats 4000000 in
theorem c_X8_number (l : Launch) (p1 : Int32) (p2 : Int32)  (S : HS) (out : HS × Int32) (h : f_X8_number p1 p2 S = some out) : Ct l yX8_number cX8_number 3 (some .int) rm_X8_number [vR 36, vI p1, vI p2] S (some (vI out.2)) out.1 := by
  refine Ct.intro (own := RX8) (lv := [(0, vR 36), (1, vI p1), (2, vI p2)]) (by decide +kernel) rfl ⟨rfl, rfl⟩ rfl (Nat.le_of_ble_eq_true rfl) ?_
  intro G hG hR
  revert h
  unfold f_X8_number
  refine s_aload_n hG dX8_number_0 rfl ?_
  refine s_iload_n hG dX8_number_1 rfl ?_
  refine s_iload_n hG dX8_number_2 rfl ?_
  refine s_cvI hG (as := [vI p1, vI p2]) (st := []) (rm := rm_X8_numberOf) dX8_number_3 ml_RX8_212 (rfl) (tb24 (mem_i 5 rfl)) rfl ⟨rfl, rfl⟩ ⟨by decide, by decide⟩ (Nat.le_of_ble_eq_true rfl) ⟨Nat.zero_le _, Nat.zero_le _⟩ rfl (fun o h => c_X8_numberOf l _ _ _ o h) (fun o3 => ?_)
  exact s_riC hR dX8_number_6

def f_X8_numberAnew (p1 : Int32) (p2 : Int32) (S : HS) : Option (HS × Int32) :=
(f_X8_numberOf p1 p2 S).bind (fun o3 =>
some (o3.1, o3.2))
def rm_X8_numberAnew : Room := { frames := 3, cells := 0, slots := 0, locals := 66 }
set_option maxRecDepth 100000 in
set_option maxHeartbeats 4000000 in
theorem c_X8_numberAnew (l : Launch) (p1 : Int32) (p2 : Int32)  (S : HS) (out : HS × Int32) (h : f_X8_numberAnew p1 p2 S = some out) : Ct l yX8_numberAnew cX8_numberAnew 3 (some .int) rm_X8_numberAnew [vR 36, vI p1, vI p2] S (some (vI out.2)) out.1 := by
  refine Ct.intro (own := RX8) (lv := [(0, vR 36), (1, vI p1), (2, vI p2)]) (by decide +kernel) rfl ⟨rfl, rfl⟩ rfl (Nat.le_of_ble_eq_true rfl) ?_
  intro G hG hR
  revert h
  unfold f_X8_numberAnew
  refine s_aload_n hG dX8_numberAnew_0 rfl ?_
  refine s_iload_n hG dX8_numberAnew_1 rfl ?_
  refine s_iload_n hG dX8_numberAnew_2 rfl ?_
  refine s_cvI hG (as := [vI p1, vI p2]) (st := []) (rm := rm_X8_numberOf) dX8_numberAnew_3 ml_RX8_212 (rfl) (tb24 (mem_i 5 rfl)) rfl ⟨rfl, rfl⟩ ⟨by decide, by decide⟩ (Nat.le_of_ble_eq_true rfl) ⟨Nat.zero_le _, Nat.zero_le _⟩ rfl (fun o h => c_X8_numberOf l _ _ _ o h) (fun o3 => ?_)
  exact s_riC hR dX8_numberAnew_6

def f_X8_on_b33 (p1 : Int32) (p2 : Int32)  (S : HS) (x3 : Int32) (t1 : Int32) : Option (HS × Int32) :=
(f_X8_can t1 S).bind (fun o33 =>
if o33.2 = 0 then
some (o33.1, (0 : Int32))
else
if ib p1 (4) = true then
(f_X8_doesAnew (sI o33.1 52 p1.toNatClampNeg x3)).bind (fun o49 =>
some (o49.1, o49.2))
else none)
def f_X8_on_b21 (p1 : Int32) (p2 : Int32)  (S : HS) (t0 : Int32) : Option (HS × Int32) :=
if t0 = (-1 : Int32) then
f_X8_on_b33 p1 p2  S t0 (1 : Int32)
else
f_X8_on_b33 p1 p2  S t0 (0 : Int32)
def f_X8_on_b20 (p1 : Int32) (p2 : Int32)  (S : HS)  : Option (HS × Int32) :=
f_X8_on_b21 p1 p2  S (-1 : Int32)
def f_X8_on (p1 : Int32) (p2 : Int32) (S : HS) : Option (HS × Int32) :=
(f_X8_isDrawer p1 S).bind (fun o1 =>
if o1 = 0 then
f_X8_on_b20 p1 p2  S
else
if p2 < 0 then
f_X8_on_b20 p1 p2  S
else
(f_X8_branchOf p1 p2 S).bind (fun o14 =>
f_X8_on_b21 p1 p2  S o14))
def rm_X8_on : Room := { frames := 6, cells := 0, slots := 0, locals := 152 }
set_option maxRecDepth 100000 in
set_option maxHeartbeats 4000000 in
theorem c_X8_on (l : Launch) (p1 : Int32) (p2 : Int32)  (S : HS) (out : HS × Int32) (h : f_X8_on p1 p2 S = some out) : Ct l yX8_on cX8_on 4 (some .int) rm_X8_on [vR 36, vI p1, vI p2] S (some (vI out.2)) out.1 := by
  refine Ct.intro (own := RX8) (lv := [(0, vR 36), (1, vI p1), (2, vI p2)]) (by decide +kernel) rfl ⟨rfl, rfl⟩ rfl (Nat.le_of_ble_eq_true rfl) ?_
  intro G hG hR
  revert h
  have hb33 : ∀ (S : HS) (x3 : Int32) (t1 : Int32), f_X8_on_b33 p1 p2 S x3 t1 = some out → G 0 0 S [(0, vR 36), (1, vI p1), (3, vI x3)] 33 [vI t1, vR 36] := by
    intro S x3 t1
    unfold f_X8_on_b33
    refine s_cvI hG (as := [vI t1]) (st := []) (rm := rm_X8_can) dX8_on_33 ml_RX8_100 (rfl) (tb19 (mem_i 3 rfl)) rfl ⟨rfl, rfl⟩ ⟨by decide, by decide⟩ (Nat.le_of_ble_eq_true rfl) ⟨Nat.zero_le _, Nat.zero_le _⟩ rfl (fun o h => c_X8_can l _ _ o h) (fun o33 => ?_)
    refine s_if_ne hG (tgt := 41) dX8_on_36 (by decide) ?_ ?_
    · refine s_aload_n hG dX8_on_41 rfl ?_
      refine s_getC hG dX8_on_42 fl_RX8_56 (rfl) ?_
      refine s_iload_n hG dX8_on_45 rfl ?_
      refine s_iload_n hG dX8_on_46 rfl ?_
      refine s_iastore hG dX8_on_47 (rfl) ?_
      refine s_aload_n hG dX8_on_48 rfl ?_
      refine s_cvI hG (as := []) (st := []) (rm := rm_X8_doesAnew) dX8_on_49 ml_RX8_203 (rfl) (tb22 (mem_i 17 rfl)) rfl ⟨rfl, rfl⟩ ⟨by decide, by decide⟩ (Nat.le_of_ble_eq_true rfl) ⟨Nat.zero_le _, Nat.zero_le _⟩ rfl (fun o h => c_X8_doesAnew l  _ o h) (fun o49 => ?_)
      exact s_riC hR dX8_on_52
    · refine s_iconst hG (v := (0 : Int32)) dX8_on_39 (by decide) ?_
      exact s_riC hR dX8_on_40
  have hb21 : ∀ (S : HS) (t0 : Int32), f_X8_on_b21 p1 p2 S t0 = some out → G 0 0 S [(0, vR 36), (1, vI p1)] 21 [vI t0] := by
    intro S t0
    unfold f_X8_on_b21
    refine s_istore_n hG (lv' := [(3, vI t0), (0, vR 36), (1, vI p1)]) dX8_on_21 (by decide) rfl ?_
    refine s_aload_n hG dX8_on_22 rfl ?_
    refine s_iload_n hG dX8_on_23 rfl ?_
    refine s_iconst hG (v := (-1 : Int32)) dX8_on_24 (by decide) ?_
    refine s_icmp_ne hG (tgt := 32) dX8_on_25 (by decide) ?_ ?_
    · refine s_iconst hG (v := (0 : Int32)) dX8_on_32 (by decide) ?_
      refine s_lv hG [1, 2, 0] rfl ?_
      exact hb33 _ _ _
    · refine s_iconst hG (v := (1 : Int32)) dX8_on_28 (by decide) ?_
      refine s_goto hG (tgt := 33) dX8_on_29 (by decide) ?_
      refine s_lv hG [1, 2, 0] rfl ?_
      exact hb33 _ _ _
  have hb20 : ∀ (S : HS), f_X8_on_b20 p1 p2 S  = some out → G 0 0 S [(0, vR 36), (1, vI p1)] 20 [] := by
    intro S
    unfold f_X8_on_b20
    refine s_iconst hG (v := (-1 : Int32)) dX8_on_20 (by decide) ?_
    exact hb21 _ _
  unfold f_X8_on
  refine s_iload_n hG dX8_on_0 rfl ?_
  refine s_csP hG (as := [vI p1]) (st := []) (rm := rm_X8_isDrawer) dX8_on_1 ml_RX8_179 (tb19 (mem_i 20 rfl)) rfl ⟨rfl, rfl⟩ ⟨by decide, by decide⟩ (Nat.le_of_ble_eq_true rfl) ⟨Nat.zero_le _, Nat.zero_le _⟩ rfl (fun o h => c_X8_isDrawer l _ _ o h) (fun o1 => ?_)
  refine s_if_eq hG (tgt := 20) dX8_on_4 (by decide) ?_ ?_
  · refine s_lv hG [0, 1] rfl ?_
    exact hb20 _
  · refine s_iload_n hG dX8_on_7 rfl ?_
    refine s_if_lt hG (tgt := 20) dX8_on_8 (by decide) ?_ ?_
    · refine s_lv hG [0, 1] rfl ?_
      exact hb20 _
    · refine s_aload_n hG dX8_on_11 rfl ?_
      refine s_iload_n hG dX8_on_12 rfl ?_
      refine s_iload_n hG dX8_on_13 rfl ?_
      refine s_cvP hG (as := [vI p1, vI p2]) (st := []) (rm := rm_X8_branchOf) dX8_on_14 ml_RX8_206 (rfl) (tb22 (mem_i 27 rfl)) rfl ⟨rfl, rfl⟩ ⟨by decide, by decide⟩ (Nat.le_of_ble_eq_true rfl) ⟨Nat.zero_le _, Nat.zero_le _⟩ rfl (fun o h => c_X8_branchOf l _ _ _ o h) (fun o14 => ?_)
      refine s_goto hG (tgt := 21) dX8_on_17 (by decide) ?_
      refine s_lv hG [0, 1] rfl ?_
      exact hb21 _ _

def f_X8_part_b50 (p1 : Int32) (p2 : Int32)  (S : HS) (t1 : Int32) (t2 : Int32) : Option (HS × Int32) :=
(f_X8_partOf t1 t2 (S.1 36 22) S).bind (fun o54 =>
(f_X8_size o54 S).bind (fun o57 =>
some (S, o57)))
def f_X8_part_b31 (p1 : Int32) (p2 : Int32)  (S : HS) (t1 : Int32) : Option (HS × Int32) :=
(f_X8_can t1 S).bind (fun o31 =>
if o31.2 = 0 then
some (o31.1, (0 : Int32))
else
if p2 = 0 then
f_X8_part_b50 p1 p2  o31.1 p1 (1 : Int32)
else
f_X8_part_b50 p1 p2  o31.1 p1 (0 : Int32))
def f_X8_part (p1 : Int32) (p2 : Int32) (S : HS) : Option (HS × Int32) :=
(f_X8_isShape p1 S).bind (fun o2 =>
if o2 = 0 then
f_X8_part_b31 p1 p2  S (1 : Int32)
else
(f_X8_has (S.1 36 20) p1 S).bind (fun o20 =>
if o20 = 0 then
f_X8_part_b31 p1 p2  S (2 : Int32)
else
f_X8_part_b31 p1 p2  S (0 : Int32)))
def rm_X8_part : Room := { frames := 2, cells := 0, slots := 0, locals := 47 }
set_option maxRecDepth 100000 in
set_option maxHeartbeats 4000000 in
theorem c_X8_part (l : Launch) (p1 : Int32) (p2 : Int32)  (S : HS) (out : HS × Int32) (h : f_X8_part p1 p2 S = some out) : Ct l yX8_part cX8_part 4 (some .int) rm_X8_part [vR 36, vI p1, vI p2] S (some (vI out.2)) out.1 := by
  refine Ct.intro (own := RX8) (lv := [(0, vR 36), (1, vI p1), (2, vI p2)]) (by decide +kernel) rfl ⟨rfl, rfl⟩ rfl (Nat.le_of_ble_eq_true rfl) ?_
  intro G hG hR
  revert h
  have hb50 : ∀ (S : HS) (t1 : Int32) (t2 : Int32), f_X8_part_b50 p1 p2 S t1 t2 = some out → G 0 0 S [(0, vR 36)] 50 [vI t2, vI t1, vR 36] := by
    intro S t1 t2
    unfold f_X8_part_b50
    refine s_aload_n hG dX8_part_50 rfl ?_
    refine s_getI hG dX8_part_51 fl_RX8_145 (rfl) ?_
    refine s_cvP hG (as := [vI t1, vI t2, vI (S.1 36 22)]) (st := []) (rm := rm_X8_partOf) dX8_part_54 ml_RX8_122 (rfl) (tb20 (mem_i 8 rfl)) rfl ⟨rfl, rfl⟩ ⟨by decide, by decide⟩ (Nat.le_of_ble_eq_true rfl) ⟨Nat.zero_le _, Nat.zero_le _⟩ rfl (fun o h => c_X8_partOf l _ _ _ _ o h) (fun o54 => ?_)
    refine s_csP hG (as := [vI o54]) (st := []) (rm := rm_X8_size) dX8_part_57 ml_RX8_199 (tb22 (mem_i 10 rfl)) rfl ⟨rfl, rfl⟩ ⟨by decide, by decide⟩ (Nat.le_of_ble_eq_true rfl) ⟨Nat.zero_le _, Nat.zero_le _⟩ rfl (fun o h => c_X8_size l _ _ o h) (fun o57 => ?_)
    exact s_riC hR dX8_part_60
  have hb31 : ∀ (S : HS) (t1 : Int32), f_X8_part_b31 p1 p2 S t1 = some out → G 0 0 S [(0, vR 36), (1, vI p1), (2, vI p2)] 31 [vI t1, vR 36] := by
    intro S t1
    unfold f_X8_part_b31
    refine s_cvI hG (as := [vI t1]) (st := []) (rm := rm_X8_can) dX8_part_31 ml_RX8_100 (rfl) (tb19 (mem_i 3 rfl)) rfl ⟨rfl, rfl⟩ ⟨by decide, by decide⟩ (Nat.le_of_ble_eq_true rfl) ⟨Nat.zero_le _, Nat.zero_le _⟩ rfl (fun o h => c_X8_can l _ _ o h) (fun o31 => ?_)
    refine s_if_ne hG (tgt := 39) dX8_part_34 (by decide) ?_ ?_
    · refine s_aload_n hG dX8_part_39 rfl ?_
      refine s_iload_n hG dX8_part_40 rfl ?_
      refine s_iload_n hG dX8_part_41 rfl ?_
      refine s_if_eq hG (tgt := 49) dX8_part_42 (by decide) ?_ ?_
      · refine s_iconst hG (v := (1 : Int32)) dX8_part_49 (by decide) ?_
        refine s_lv hG [0] rfl ?_
        exact hb50 _ _ _
      · refine s_iconst hG (v := (0 : Int32)) dX8_part_45 (by decide) ?_
        refine s_goto hG (tgt := 50) dX8_part_46 (by decide) ?_
        refine s_lv hG [0] rfl ?_
        exact hb50 _ _ _
    · refine s_iconst hG (v := (0 : Int32)) dX8_part_37 (by decide) ?_
      exact s_riC hR dX8_part_38
  unfold f_X8_part
  refine s_aload_n hG dX8_part_0 rfl ?_
  refine s_iload_n hG dX8_part_1 rfl ?_
  refine s_cvP hG (as := [vI p1]) (st := []) (rm := rm_X8_isShape) dX8_part_2 ml_RX8_186 (rfl) (tb21 (mem_i 19 rfl)) rfl ⟨rfl, rfl⟩ ⟨by decide, by decide⟩ (Nat.le_of_ble_eq_true rfl) ⟨Nat.zero_le _, Nat.zero_le _⟩ rfl (fun o h => c_X8_isShape l _ _ o h) (fun o2 => ?_)
  refine s_istore_n hG (lv' := [(3, vI o2), (0, vR 36), (1, vI p1), (2, vI p2)]) dX8_part_5 (by decide) rfl ?_
  refine s_aload_n hG dX8_part_6 rfl ?_
  refine s_iload_n hG dX8_part_7 rfl ?_
  refine s_if_ne hG (tgt := 15) dX8_part_8 (by decide) ?_ ?_
  · refine s_aload_n hG dX8_part_15 rfl ?_
    refine s_getI hG dX8_part_16 fl_RX8_142 (rfl) ?_
    refine s_iload_n hG dX8_part_19 rfl ?_
    refine s_csP hG (as := [vI (S.1 36 20), vI p1]) (st := [vR 36]) (rm := rm_X8_has) dX8_part_20 ml_RX8_104 (tb20 (mem_i 2 rfl)) rfl ⟨rfl, rfl⟩ ⟨by decide, by decide⟩ (Nat.le_of_ble_eq_true rfl) ⟨Nat.zero_le _, Nat.zero_le _⟩ rfl (fun o h => c_X8_has l _ _ _ o h) (fun o20 => ?_)
    refine s_if_eq hG (tgt := 30) dX8_part_23 (by decide) ?_ ?_
    · refine s_iconst hG (v := (2 : Int32)) dX8_part_30 (by decide) ?_
      refine s_lv hG [1, 2, 3] rfl ?_
      exact hb31 _ _
    · refine s_iconst hG (v := (0 : Int32)) dX8_part_26 (by decide) ?_
      refine s_goto hG (tgt := 31) dX8_part_27 (by decide) ?_
      refine s_lv hG [1, 2, 3] rfl ?_
      exact hb31 _ _
  · refine s_iconst hG (v := (1 : Int32)) dX8_part_11 (by decide) ?_
    refine s_goto hG (tgt := 31) dX8_part_12 (by decide) ?_
    refine s_lv hG [1, 2, 3] rfl ?_
    exact hb31 _ _

def f_X8_resize (p1 : Int32) (p2 : Int32) (p3 : Int32) (p4 : Int32) (S : HS) : Option (HS × Int32) :=
(f_X8_isSize p3 p4 S).bind (fun o10 =>
(f_X8_changes p1 (2 : Int32) p2 p3 p4 o10 S).bind (fun o13 =>
some (o13.1, o13.2)))
def rm_X8_resize : Room := { frames := 7, cells := 0, slots := 0, locals := 178 }
set_option maxRecDepth 100000 in
set_option maxHeartbeats 4000000 in
theorem c_X8_resize (l : Launch) (p1 : Int32) (p2 : Int32) (p3 : Int32) (p4 : Int32)  (S : HS) (out : HS × Int32) (h : f_X8_resize p1 p2 p3 p4 S = some out) : Ct l yX8_resize cX8_resize 5 (some .int) rm_X8_resize [vR 36, vI p1, vI p2, vI p3, vI p4] S (some (vI out.2)) out.1 := by
  refine Ct.intro (own := RX8) (lv := [(0, vR 36), (1, vI p1), (2, vI p2), (3, vI p3), (4, vI p4)]) (by decide +kernel) rfl ⟨rfl, rfl⟩ rfl (Nat.le_of_ble_eq_true rfl) ?_
  intro G hG hR
  revert h
  unfold f_X8_resize
  refine s_aload_n hG dX8_resize_0 rfl ?_
  refine s_iload_n hG dX8_resize_1 rfl ?_
  refine s_iconst hG (v := (2 : Int32)) dX8_resize_2 (by decide) ?_
  refine s_iload_n hG dX8_resize_3 rfl ?_
  refine s_iload_n hG dX8_resize_4 rfl ?_
  refine s_iload hG dX8_resize_5 rfl ?_
  refine s_iload_n hG dX8_resize_7 rfl ?_
  refine s_iload hG dX8_resize_8 rfl ?_
  refine s_csP hG (as := [vI p3, vI p4]) (st := [vI p4, vI p3, vI p2, vI (2 : Int32), vI p1, vR 36]) (rm := rm_X8_isSize) dX8_resize_10 ml_RX8_176 (tb19 (mem_i 17 rfl)) rfl ⟨rfl, rfl⟩ ⟨by decide, by decide⟩ (Nat.le_of_ble_eq_true rfl) ⟨Nat.zero_le _, Nat.zero_le _⟩ rfl (fun o h => c_X8_isSize l _ _ _ o h) (fun o10 => ?_)
  refine s_cvI hG (as := [vI p1, vI (2 : Int32), vI p2, vI p3, vI p4, vI o10]) (st := []) (rm := rm_X8_changes) dX8_resize_13 ml_RX8_192 (rfl) (tb21 (mem_i 16 rfl)) rfl ⟨rfl, rfl⟩ ⟨by decide, by decide⟩ (Nat.le_of_ble_eq_true rfl) ⟨Nat.zero_le _, Nat.zero_le _⟩ rfl (fun o h => c_X8_changes l _ _ _ _ _ _ _ o h) (fun o13 => ?_)
  exact s_riC hR dX8_resize_16

def f_X8_standsAt_b29 (p1 : Int32)  (S : HS) (t0 : Int32) : Option (HS × Int32) :=
some (S, t0)
def f_X8_standsAt_b13 (p1 : Int32)  (S : HS) (t1 : Int32) : Option (HS × Int32) :=
(f_X8_can t1 S).bind (fun o13 =>
if o13.2 = 0 then
f_X8_standsAt_b29 p1  o13.1 (0 : Int32)
else
if ib p1 (4) = true then
f_X8_standsAt_b29 p1  o13.1 (o13.1.1 52 p1.toNatClampNeg)
else none)
def f_X8_standsAt (p1 : Int32) (S : HS) : Option (HS × Int32) :=
(f_X8_isDrawer p1 S).bind (fun o2 =>
if o2 = 0 then
f_X8_standsAt_b13 p1  S (1 : Int32)
else
f_X8_standsAt_b13 p1  S (0 : Int32))
def rm_X8_standsAt : Room := { frames := 2, cells := 0, slots := 0, locals := 42 }
set_option maxRecDepth 100000 in
set_option maxHeartbeats 4000000 in
theorem c_X8_standsAt (l : Launch) (p1 : Int32)  (S : HS) (out : HS × Int32) (h : f_X8_standsAt p1 S = some out) : Ct l yX8_standsAt cX8_standsAt 2 (some .int) rm_X8_standsAt [vR 36, vI p1] S (some (vI out.2)) out.1 := by
  refine Ct.intro (own := RX8) (lv := [(0, vR 36), (1, vI p1)]) (by decide +kernel) rfl ⟨rfl, rfl⟩ rfl (Nat.le_of_ble_eq_true rfl) ?_
  intro G hG hR
  revert h
  have hb29 : ∀ (S : HS) (t0 : Int32), f_X8_standsAt_b29 p1 S t0 = some out → G 0 0 S [] 29 [vI t0] := by
    intro S t0
    unfold f_X8_standsAt_b29
    exact s_riC hR dX8_standsAt_29
  have hb13 : ∀ (S : HS) (t1 : Int32), f_X8_standsAt_b13 p1 S t1 = some out → G 0 0 S [(0, vR 36), (1, vI p1)] 13 [vI t1, vR 36] := by
    intro S t1
    unfold f_X8_standsAt_b13
    refine s_cvI hG (as := [vI t1]) (st := []) (rm := rm_X8_can) dX8_standsAt_13 ml_RX8_100 (rfl) (tb19 (mem_i 3 rfl)) rfl ⟨rfl, rfl⟩ ⟨by decide, by decide⟩ (Nat.le_of_ble_eq_true rfl) ⟨Nat.zero_le _, Nat.zero_le _⟩ rfl (fun o h => c_X8_can l _ _ o h) (fun o13 => ?_)
    refine s_if_eq hG (tgt := 28) dX8_standsAt_16 (by decide) ?_ ?_
    · refine s_iconst hG (v := (0 : Int32)) dX8_standsAt_28 (by decide) ?_
      refine s_lv hG [] rfl ?_
      exact hb29 _ _
    · refine s_aload_n hG dX8_standsAt_19 rfl ?_
      refine s_getC hG dX8_standsAt_20 fl_RX8_56 (rfl) ?_
      refine s_iload_n hG dX8_standsAt_23 rfl ?_
      refine s_iaload hG dX8_standsAt_24 (rfl) ?_
      refine s_goto hG (tgt := 29) dX8_standsAt_25 (by decide) ?_
      refine s_lv hG [] rfl ?_
      exact hb29 _ _
  unfold f_X8_standsAt
  refine s_aload_n hG dX8_standsAt_0 rfl ?_
  refine s_iload_n hG dX8_standsAt_1 rfl ?_
  refine s_csP hG (as := [vI p1]) (st := [vR 36]) (rm := rm_X8_isDrawer) dX8_standsAt_2 ml_RX8_179 (tb19 (mem_i 20 rfl)) rfl ⟨rfl, rfl⟩ ⟨by decide, by decide⟩ (Nat.le_of_ble_eq_true rfl) ⟨Nat.zero_le _, Nat.zero_le _⟩ rfl (fun o h => c_X8_isDrawer l _ _ o h) (fun o2 => ?_)
  refine s_if_eq hG (tgt := 12) dX8_standsAt_5 (by decide) ?_ ?_
  · refine s_iconst hG (v := (1 : Int32)) dX8_standsAt_12 (by decide) ?_
    exact hb13 _ _
  · refine s_iconst hG (v := (0 : Int32)) dX8_standsAt_8 (by decide) ?_
    refine s_goto hG (tgt := 13) dX8_standsAt_9 (by decide) ?_
    exact hb13 _ _

def f_X8_thrown  (S : HS) : Option (Int32) :=
some (S.1 36 36)
def rm_X8_thrown : Room := { frames := 0, cells := 0, slots := 0, locals := 0 }
set_option maxRecDepth 100000 in
set_option maxHeartbeats 4000000 in
theorem c_X8_thrown (l : Launch)   (S : HS) (out : Int32) (h : f_X8_thrown  S = some out) : Ct l yX8_thrown cX8_thrown 1 (some .int) rm_X8_thrown [vR 36] S (some (vI out)) S := by
  refine Ct.intro (own := RX8) (lv := [(0, vR 36)]) (by decide +kernel) rfl ⟨rfl, rfl⟩ rfl (Nat.le_of_ble_eq_true rfl) ?_
  intro G hG hR
  revert h
  unfold f_X8_thrown
  refine s_aload_n hG dX8_thrown_0 rfl ?_
  refine s_getI hG dX8_thrown_1 fl_RX8_80 (rfl) ?_
  exact s_riP hR dX8_thrown_4
