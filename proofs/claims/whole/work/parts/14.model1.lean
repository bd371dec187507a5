/-! 14.model1: by program (wip/whole/gen.py) -/
theorem dX8_has_0 : decode cX8_has 0 = .ok (.iload_n 0, 1) := by decide +kernel
theorem dX8_has_1 : decode cX8_has 1 = .ok (.iload_n 1, 1) := by decide +kernel
theorem dX8_has_2 : decode cX8_has 2 = .ok (.ishr, 1) := by decide +kernel
theorem dX8_has_3 : decode cX8_has 3 = .ok (.iconst 1, 1) := by decide +kernel
theorem dX8_has_4 : decode cX8_has 4 = .ok (.iand, 1) := by decide +kernel
theorem dX8_has_5 : decode cX8_has 5 = .ok (.iconst 1, 1) := by decide +kernel
theorem dX8_has_6 : decode cX8_has 6 = .ok (.if_icmp .ne 7, 3) := by decide +kernel
theorem dX8_has_9 : decode cX8_has 9 = .ok (.iconst 1, 1) := by decide +kernel
theorem dX8_has_10 : decode cX8_has 10 = .ok (.goto 4, 3) := by decide +kernel
theorem dX8_has_13 : decode cX8_has 13 = .ok (.iconst 0, 1) := by decide +kernel
theorem dX8_has_14 : decode cX8_has 14 = .ok (.ireturn, 1) := by decide +kernel
theorem dX8_joins_0 : decode cX8_joins 0 = .ok (.iload_n 1, 1) := by decide +kernel
theorem dX8_joins_1 : decode cX8_joins 1 = .ok (.ifCond .ne 25, 3) := by decide +kernel
theorem dX8_joins_4 : decode cX8_joins 4 = .ok (.iload_n 0, 1) := by decide +kernel
theorem dX8_joins_5 : decode cX8_joins 5 = .ok (.iconst 2, 1) := by decide +kernel
theorem dX8_joins_6 : decode cX8_joins 6 = .ok (.if_icmp .eq 14, 3) := by decide +kernel
theorem dX8_joins_9 : decode cX8_joins 9 = .ok (.iload_n 0, 1) := by decide +kernel
theorem dX8_joins_10 : decode cX8_joins 10 = .ok (.iconst 3, 1) := by decide +kernel
theorem dX8_joins_11 : decode cX8_joins 11 = .ok (.if_icmp .eq 9, 3) := by decide +kernel
theorem dX8_joins_14 : decode cX8_joins 14 = .ok (.iload_n 0, 1) := by decide +kernel
theorem dX8_joins_15 : decode cX8_joins 15 = .ok (.bipush 6, 2) := by decide +kernel
theorem dX8_joins_17 : decode cX8_joins 17 = .ok (.if_icmp .ne 7, 3) := by decide +kernel
theorem dX8_joins_20 : decode cX8_joins 20 = .ok (.iconst 1, 1) := by decide +kernel
theorem dX8_joins_21 : decode cX8_joins 21 = .ok (.goto 4, 3) := by decide +kernel
theorem dX8_joins_24 : decode cX8_joins 24 = .ok (.iconst 0, 1) := by decide +kernel
theorem dX8_joins_25 : decode cX8_joins 25 = .ok (.ireturn, 1) := by decide +kernel
theorem dX8_joins_26 : decode cX8_joins 26 = .ok (.iload_n 1, 1) := by decide +kernel
theorem dX8_joins_27 : decode cX8_joins 27 = .ok (.iconst 1, 1) := by decide +kernel
theorem dX8_joins_28 : decode cX8_joins 28 = .ok (.if_icmp .ne 27, 3) := by decide +kernel
theorem dX8_joins_31 : decode cX8_joins 31 = .ok (.iload_n 0, 1) := by decide +kernel
theorem dX8_joins_32 : decode cX8_joins 32 = .ok (.iconst 4, 1) := by decide +kernel
theorem dX8_joins_33 : decode cX8_joins 33 = .ok (.if_icmp .eq 14, 3) := by decide +kernel
theorem dX8_joins_36 : decode cX8_joins 36 = .ok (.iload_n 0, 1) := by decide +kernel
theorem dX8_joins_37 : decode cX8_joins 37 = .ok (.iconst 5, 1) := by decide +kernel
theorem dX8_joins_38 : decode cX8_joins 38 = .ok (.if_icmp .eq 9, 3) := by decide +kernel
theorem dX8_joins_41 : decode cX8_joins 41 = .ok (.iload_n 0, 1) := by decide +kernel
theorem dX8_joins_42 : decode cX8_joins 42 = .ok (.bipush 6, 2) := by decide +kernel
theorem dX8_joins_44 : decode cX8_joins 44 = .ok (.if_icmp .ne 7, 3) := by decide +kernel
theorem dX8_joins_47 : decode cX8_joins 47 = .ok (.iconst 1, 1) := by decide +kernel
theorem dX8_joins_48 : decode cX8_joins 48 = .ok (.goto 26, 3) := by decide +kernel
theorem dX8_joins_51 : decode cX8_joins 51 = .ok (.iconst 0, 1) := by decide +kernel
theorem dX8_joins_52 : decode cX8_joins 52 = .ok (.goto 22, 3) := by decide +kernel
theorem dX8_joins_55 : decode cX8_joins 55 = .ok (.iload_n 0, 1) := by decide +kernel
theorem dX8_joins_56 : decode cX8_joins 56 = .ok (.iload_n 1, 1) := by decide +kernel
theorem dX8_joins_57 : decode cX8_joins 57 = .ok (.iconst 2, 1) := by decide +kernel
theorem dX8_joins_58 : decode cX8_joins 58 = .ok (.if_icmp .ne 7, 3) := by decide +kernel
theorem dX8_joins_61 : decode cX8_joins 61 = .ok (.iconst 0, 1) := by decide +kernel
theorem dX8_joins_62 : decode cX8_joins 62 = .ok (.goto 4, 3) := by decide +kernel
theorem dX8_joins_65 : decode cX8_joins 65 = .ok (.iconst 1, 1) := by decide +kernel
theorem dX8_joins_66 : decode cX8_joins 66 = .ok (.if_icmp .ne 7, 3) := by decide +kernel
theorem dX8_joins_69 : decode cX8_joins 69 = .ok (.iconst 1, 1) := by decide +kernel
theorem dX8_joins_70 : decode cX8_joins 70 = .ok (.goto 4, 3) := by decide +kernel
theorem dX8_joins_73 : decode cX8_joins 73 = .ok (.iconst 0, 1) := by decide +kernel
theorem dX8_joins_74 : decode cX8_joins 74 = .ok (.ireturn, 1) := by decide +kernel
theorem dX8_partOf_0 : decode cX8_partOf 0 = .ok (.iconst 1, 1) := by decide +kernel
theorem dX8_partOf_1 : decode cX8_partOf 1 = .ok (.iload_n 1, 1) := by decide +kernel
theorem dX8_partOf_2 : decode cX8_partOf 2 = .ok (.ishl, 1) := by decide +kernel
theorem dX8_partOf_3 : decode cX8_partOf 3 = .ok (.istore 4, 2) := by decide +kernel
theorem dX8_partOf_5 : decode cX8_partOf 5 = .ok (.iconst 0, 1) := by decide +kernel
theorem dX8_partOf_6 : decode cX8_partOf 6 = .ok (.istore 5, 2) := by decide +kernel
theorem dX8_partOf_8 : decode cX8_partOf 8 = .ok (.iload 4, 2) := by decide +kernel
theorem dX8_partOf_10 : decode cX8_partOf 10 = .ok (.iload 5, 2) := by decide +kernel
theorem dX8_partOf_12 : decode cX8_partOf 12 = .ok (.if_icmp .eq 105, 3) := by decide +kernel
theorem dX8_partOf_15 : decode cX8_partOf 15 = .ok (.iload 4, 2) := by decide +kernel
theorem dX8_partOf_17 : decode cX8_partOf 17 = .ok (.istore 5, 2) := by decide +kernel
theorem dX8_partOf_19 : decode cX8_partOf 19 = .ok (.iconst 0, 1) := by decide +kernel
theorem dX8_partOf_20 : decode cX8_partOf 20 = .ok (.istore 6, 2) := by decide +kernel
theorem dX8_partOf_22 : decode cX8_partOf 22 = .ok (.iload 6, 2) := by decide +kernel
theorem dX8_partOf_24 : decode cX8_partOf 24 = .ok (.aload_n 0, 1) := by decide +kernel
theorem dX8_partOf_25 : decode cX8_partOf 25 = .ok (.getfield 91, 3) := by decide +kernel
theorem dX8_partOf_28 : decode cX8_partOf 28 = .ok (.if_icmp .ge 86, 3) := by decide +kernel
theorem dX8_partOf_31 : decode cX8_partOf 31 = .ok (.iload_n 3, 1) := by decide +kernel
theorem dX8_partOf_32 : decode cX8_partOf 32 = .ok (.iload 6, 2) := by decide +kernel
theorem dX8_partOf_34 : decode cX8_partOf 34 = .ok (.invokestatic 104, 3) := by decide +kernel
theorem dX8_partOf_37 : decode cX8_partOf 37 = .ok (.ifCond .eq 71, 3) := by decide +kernel
theorem dX8_partOf_40 : decode cX8_partOf 40 = .ok (.aload_n 0, 1) := by decide +kernel
theorem dX8_partOf_41 : decode cX8_partOf 41 = .ok (.getfield 26, 3) := by decide +kernel
theorem dX8_partOf_44 : decode cX8_partOf 44 = .ok (.iload 6, 2) := by decide +kernel
theorem dX8_partOf_46 : decode cX8_partOf 46 = .ok (.iaload, 1) := by decide +kernel
theorem dX8_partOf_47 : decode cX8_partOf 47 = .ok (.iload_n 2, 1) := by decide +kernel
theorem dX8_partOf_48 : decode cX8_partOf 48 = .ok (.invokestatic 108, 3) := by decide +kernel
theorem dX8_partOf_51 : decode cX8_partOf 51 = .ok (.ifCond .eq 57, 3) := by decide +kernel
theorem dX8_partOf_54 : decode cX8_partOf 54 = .ok (.iload 4, 2) := by decide +kernel
theorem dX8_partOf_56 : decode cX8_partOf 56 = .ok (.aload_n 0, 1) := by decide +kernel
theorem dX8_partOf_57 : decode cX8_partOf 57 = .ok (.getfield 29, 3) := by decide +kernel
theorem dX8_partOf_60 : decode cX8_partOf 60 = .ok (.iload 6, 2) := by decide +kernel
theorem dX8_partOf_62 : decode cX8_partOf 62 = .ok (.iaload, 1) := by decide +kernel
theorem dX8_partOf_63 : decode cX8_partOf 63 = .ok (.invokestatic 104, 3) := by decide +kernel
theorem dX8_partOf_66 : decode cX8_partOf 66 = .ok (.ifCond .ne 18, 3) := by decide +kernel
theorem dX8_partOf_69 : decode cX8_partOf 69 = .ok (.iload 4, 2) := by decide +kernel
theorem dX8_partOf_71 : decode cX8_partOf 71 = .ok (.aload_n 0, 1) := by decide +kernel
theorem dX8_partOf_72 : decode cX8_partOf 72 = .ok (.getfield 32, 3) := by decide +kernel
theorem dX8_partOf_75 : decode cX8_partOf 75 = .ok (.iload 6, 2) := by decide +kernel
theorem dX8_partOf_77 : decode cX8_partOf 77 = .ok (.iaload, 1) := by decide +kernel
theorem dX8_partOf_78 : decode cX8_partOf 78 = .ok (.invokestatic 104, 3) := by decide +kernel
theorem dX8_partOf_81 : decode cX8_partOf 81 = .ok (.ifCond .eq 27, 3) := by decide +kernel
theorem dX8_partOf_84 : decode cX8_partOf 84 = .ok (.iload 4, 2) := by decide +kernel
theorem dX8_partOf_86 : decode cX8_partOf 86 = .ok (.iconst 1, 1) := by decide +kernel
theorem dX8_partOf_87 : decode cX8_partOf 87 = .ok (.aload_n 0, 1) := by decide +kernel
theorem dX8_partOf_88 : decode cX8_partOf 88 = .ok (.getfield 29, 3) := by decide +kernel
theorem dX8_partOf_91 : decode cX8_partOf 91 = .ok (.iload 6, 2) := by decide +kernel
theorem dX8_partOf_93 : decode cX8_partOf 93 = .ok (.iaload, 1) := by decide +kernel
theorem dX8_partOf_94 : decode cX8_partOf 94 = .ok (.ishl, 1) := by decide +kernel
theorem dX8_partOf_95 : decode cX8_partOf 95 = .ok (.iconst 1, 1) := by decide +kernel
theorem dX8_partOf_96 : decode cX8_partOf 96 = .ok (.aload_n 0, 1) := by decide +kernel
theorem dX8_partOf_97 : decode cX8_partOf 97 = .ok (.getfield 32, 3) := by decide +kernel
theorem dX8_partOf_100 : decode cX8_partOf 100 = .ok (.iload 6, 2) := by decide +kernel
theorem dX8_partOf_102 : decode cX8_partOf 102 = .ok (.iaload, 1) := by decide +kernel
theorem dX8_partOf_103 : decode cX8_partOf 103 = .ok (.ishl, 1) := by decide +kernel
theorem dX8_partOf_104 : decode cX8_partOf 104 = .ok (.ior, 1) := by decide +kernel
theorem dX8_partOf_105 : decode cX8_partOf 105 = .ok (.ior, 1) := by decide +kernel
theorem dX8_partOf_106 : decode cX8_partOf 106 = .ok (.istore 4, 2) := by decide +kernel
theorem dX8_partOf_108 : decode cX8_partOf 108 = .ok (.iinc 6 1, 3) := by decide +kernel
theorem dX8_partOf_111 : decode cX8_partOf 111 = .ok (.goto (-89), 3) := by decide +kernel
theorem dX8_partOf_114 : decode cX8_partOf 114 = .ok (.goto (-106), 3) := by decide +kernel
theorem dX8_partOf_117 : decode cX8_partOf 117 = .ok (.iload 4, 2) := by decide +kernel
theorem dX8_partOf_119 : decode cX8_partOf 119 = .ok (.ireturn, 1) := by decide +kernel
theorem dX8_shifts_0 : decode cX8_shifts 0 = .ok (.iconst 0, 1) := by decide +kernel
theorem dX8_shifts_1 : decode cX8_shifts 1 = .ok (.istore 4, 2) := by decide +kernel
theorem dX8_shifts_3 : decode cX8_shifts 3 = .ok (.iload 4, 2) := by decide +kernel
theorem dX8_shifts_5 : decode cX8_shifts 5 = .ok (.aload_n 0, 1) := by decide +kernel
theorem dX8_shifts_6 : decode cX8_shifts 6 = .ok (.getfield 88, 3) := by decide +kernel
theorem dX8_shifts_9 : decode cX8_shifts 9 = .ok (.if_icmp .ge 37, 3) := by decide +kernel
theorem dX8_shifts_12 : decode cX8_shifts 12 = .ok (.aload_n 0, 1) := by decide +kernel
theorem dX8_shifts_13 : decode cX8_shifts 13 = .ok (.getfield 68, 3) := by decide +kernel
theorem dX8_shifts_16 : decode cX8_shifts 16 = .ok (.iconst 4, 1) := by decide +kernel
theorem dX8_shifts_17 : decode cX8_shifts 17 = .ok (.iload 4, 2) := by decide +kernel
theorem dX8_shifts_19 : decode cX8_shifts 19 = .ok (.imul, 1) := by decide +kernel
theorem dX8_shifts_20 : decode cX8_shifts 20 = .ok (.iload_n 2, 1) := by decide +kernel
theorem dX8_shifts_21 : decode cX8_shifts 21 = .ok (.iadd, 1) := by decide +kernel
theorem dX8_shifts_22 : decode cX8_shifts 22 = .ok (.dup2, 1) := by decide +kernel
theorem dX8_shifts_23 : decode cX8_shifts 23 = .ok (.iaload, 1) := by decide +kernel
theorem dX8_shifts_24 : decode cX8_shifts 24 = .ok (.iload_n 1, 1) := by decide +kernel
theorem dX8_shifts_25 : decode cX8_shifts 25 = .ok (.iload 4, 2) := by decide +kernel
theorem dX8_shifts_27 : decode cX8_shifts 27 = .ok (.invokestatic 104, 3) := by decide +kernel
theorem dX8_shifts_30 : decode cX8_shifts 30 = .ok (.ifCond .eq 7, 3) := by decide +kernel
theorem dX8_shifts_33 : decode cX8_shifts 33 = .ok (.iload_n 3, 1) := by decide +kernel
theorem dX8_shifts_34 : decode cX8_shifts 34 = .ok (.goto 4, 3) := by decide +kernel
theorem dX8_shifts_37 : decode cX8_shifts 37 = .ok (.iconst 0, 1) := by decide +kernel
theorem dX8_shifts_38 : decode cX8_shifts 38 = .ok (.iadd, 1) := by decide +kernel
theorem dX8_shifts_39 : decode cX8_shifts 39 = .ok (.iastore, 1) := by decide +kernel
theorem dX8_shifts_40 : decode cX8_shifts 40 = .ok (.iinc 4 1, 3) := by decide +kernel
theorem dX8_shifts_43 : decode cX8_shifts 43 = .ok (.goto (-40), 3) := by decide +kernel
theorem dX8_shifts_46 : decode cX8_shifts 46 = .ok (.return_, 1) := by decide +kernel
theorem dX8_stepOf_0 : decode cX8_stepOf 0 = .ok (.aload_n 0, 1) := by decide +kernel
theorem dX8_stepOf_1 : decode cX8_stepOf 1 = .ok (.getfield 26, 3) := by decide +kernel
theorem dX8_stepOf_4 : decode cX8_stepOf 4 = .ok (.iload_n 1, 1) := by decide +kernel
theorem dX8_stepOf_5 : decode cX8_stepOf 5 = .ok (.iaload, 1) := by decide +kernel
theorem dX8_stepOf_6 : decode cX8_stepOf 6 = .ok (.bipush 6, 2) := by decide +kernel
theorem dX8_stepOf_8 : decode cX8_stepOf 8 = .ok (.if_icmp .ne 23, 3) := by decide +kernel
theorem dX8_stepOf_11 : decode cX8_stepOf 11 = .ok (.iload_n 2, 1) := by decide +kernel
theorem dX8_stepOf_12 : decode cX8_stepOf 12 = .ok (.ifCond .ne 12, 3) := by decide +kernel
theorem dX8_stepOf_15 : decode cX8_stepOf 15 = .ok (.aload_n 0, 1) := by decide +kernel
theorem dX8_stepOf_16 : decode cX8_stepOf 16 = .ok (.getfield 62, 3) := by decide +kernel
theorem dX8_stepOf_19 : decode cX8_stepOf 19 = .ok (.iload_n 1, 1) := by decide +kernel
theorem dX8_stepOf_20 : decode cX8_stepOf 20 = .ok (.iaload, 1) := by decide +kernel
theorem dX8_stepOf_21 : decode cX8_stepOf 21 = .ok (.goto 9, 3) := by decide +kernel
theorem dX8_stepOf_24 : decode cX8_stepOf 24 = .ok (.aload_n 0, 1) := by decide +kernel
theorem dX8_stepOf_25 : decode cX8_stepOf 25 = .ok (.getfield 65, 3) := by decide +kernel
theorem dX8_stepOf_28 : decode cX8_stepOf 28 = .ok (.iload_n 1, 1) := by decide +kernel
theorem dX8_stepOf_29 : decode cX8_stepOf 29 = .ok (.iaload, 1) := by decide +kernel
theorem dX8_stepOf_30 : decode cX8_stepOf 30 = .ok (.ireturn, 1) := by decide +kernel
theorem dX8_stepOf_31 : decode cX8_stepOf 31 = .ok (.aload_n 0, 1) := by decide +kernel
theorem dX8_stepOf_32 : decode cX8_stepOf 32 = .ok (.getfield 26, 3) := by decide +kernel
theorem dX8_stepOf_35 : decode cX8_stepOf 35 = .ok (.iload_n 1, 1) := by decide +kernel
theorem dX8_stepOf_36 : decode cX8_stepOf 36 = .ok (.iaload, 1) := by decide +kernel
theorem dX8_stepOf_37 : decode cX8_stepOf 37 = .ok (.iconst 2, 1) := by decide +kernel
theorem dX8_stepOf_38 : decode cX8_stepOf 38 = .ok (.if_icmp .eq 13, 3) := by decide +kernel
theorem dX8_stepOf_41 : decode cX8_stepOf 41 = .ok (.aload_n 0, 1) := by decide +kernel
theorem dX8_stepOf_42 : decode cX8_stepOf 42 = .ok (.getfield 26, 3) := by decide +kernel
theorem dX8_stepOf_45 : decode cX8_stepOf 45 = .ok (.iload_n 1, 1) := by decide +kernel
theorem dX8_stepOf_46 : decode cX8_stepOf 46 = .ok (.iaload, 1) := by decide +kernel
theorem dX8_stepOf_47 : decode cX8_stepOf 47 = .ok (.iconst 4, 1) := by decide +kernel
theorem dX8_stepOf_48 : decode cX8_stepOf 48 = .ok (.if_icmp .ne 23, 3) := by decide +kernel
theorem dX8_stepOf_51 : decode cX8_stepOf 51 = .ok (.aload_n 0, 1) := by decide +kernel
theorem dX8_stepOf_52 : decode cX8_stepOf 52 = .ok (.getfield 68, 3) := by decide +kernel
theorem dX8_stepOf_55 : decode cX8_stepOf 55 = .ok (.iconst 4, 1) := by decide +kernel
theorem dX8_stepOf_56 : decode cX8_stepOf 56 = .ok (.aload_n 0, 1) := by decide +kernel
theorem dX8_stepOf_57 : decode cX8_stepOf 57 = .ok (.getfield 29, 3) := by decide +kernel
theorem dX8_stepOf_60 : decode cX8_stepOf 60 = .ok (.iload_n 1, 1) := by decide +kernel
theorem dX8_stepOf_61 : decode cX8_stepOf 61 = .ok (.iaload, 1) := by decide +kernel
theorem dX8_stepOf_62 : decode cX8_stepOf 62 = .ok (.imul, 1) := by decide +kernel
theorem dX8_stepOf_63 : decode cX8_stepOf 63 = .ok (.iconst 2, 1) := by decide +kernel
theorem dX8_stepOf_64 : decode cX8_stepOf 64 = .ok (.iadd, 1) := by decide +kernel
theorem dX8_stepOf_65 : decode cX8_stepOf 65 = .ok (.iload_n 2, 1) := by decide +kernel
theorem dX8_stepOf_66 : decode cX8_stepOf 66 = .ok (.iadd, 1) := by decide +kernel
theorem dX8_stepOf_67 : decode cX8_stepOf 67 = .ok (.iaload, 1) := by decide +kernel
theorem dX8_stepOf_68 : decode cX8_stepOf 68 = .ok (.goto 4, 3) := by decide +kernel
theorem dX8_stepOf_71 : decode cX8_stepOf 71 = .ok (.iconst 0, 1) := by decide +kernel
theorem dX8_stepOf_72 : decode cX8_stepOf 72 = .ok (.ireturn, 1) := by decide +kernel
theorem dX8_sizes_0 : decode cX8_sizes 0 = .ok (.iconst 0, 1) := by decide +kernel
theorem dX8_sizes_1 : decode cX8_sizes 1 = .ok (.istore 4, 2) := by decide +kernel
theorem dX8_sizes_3 : decode cX8_sizes 3 = .ok (.iconst 0, 1) := by decide +kernel
theorem dX8_sizes_4 : decode cX8_sizes 4 = .ok (.istore 5, 2) := by decide +kernel
theorem dX8_sizes_6 : decode cX8_sizes 6 = .ok (.iload 5, 2) := by decide +kernel
theorem dX8_sizes_8 : decode cX8_sizes 8 = .ok (.aload_n 0, 1) := by decide +kernel
theorem dX8_sizes_9 : decode cX8_sizes 9 = .ok (.getfield 88, 3) := by decide +kernel
theorem dX8_sizes_12 : decode cX8_sizes 12 = .ok (.if_icmp .ge 80, 3) := by decide +kernel
theorem dX8_sizes_15 : decode cX8_sizes 15 = .ok (.iload_n 1, 1) := by decide +kernel
theorem dX8_sizes_16 : decode cX8_sizes 16 = .ok (.iload 5, 2) := by decide +kernel
theorem dX8_sizes_18 : decode cX8_sizes 18 = .ok (.invokestatic 104, 3) := by decide +kernel
theorem dX8_sizes_21 : decode cX8_sizes 21 = .ok (.ifCond .eq 65, 3) := by decide +kernel
theorem dX8_sizes_24 : decode cX8_sizes 24 = .ok (.aload_n 0, 1) := by decide +kernel
theorem dX8_sizes_25 : decode cX8_sizes 25 = .ok (.getfield 68, 3) := by decide +kernel
theorem dX8_sizes_28 : decode cX8_sizes 28 = .ok (.iconst 4, 1) := by decide +kernel
theorem dX8_sizes_29 : decode cX8_sizes 29 = .ok (.iload 5, 2) := by decide +kernel
theorem dX8_sizes_31 : decode cX8_sizes 31 = .ok (.imul, 1) := by decide +kernel
theorem dX8_sizes_32 : decode cX8_sizes 32 = .ok (.iload_n 2, 1) := by decide +kernel
theorem dX8_sizes_33 : decode cX8_sizes 33 = .ok (.iadd, 1) := by decide +kernel
theorem dX8_sizes_34 : decode cX8_sizes 34 = .ok (.iaload, 1) := by decide +kernel
theorem dX8_sizes_35 : decode cX8_sizes 35 = .ok (.iload_n 3, 1) := by decide +kernel
theorem dX8_sizes_36 : decode cX8_sizes 36 = .ok (.if_icmp .eq 50, 3) := by decide +kernel
theorem dX8_sizes_39 : decode cX8_sizes 39 = .ok (.aload_n 0, 1) := by decide +kernel
theorem dX8_sizes_40 : decode cX8_sizes 40 = .ok (.aload_n 0, 1) := by decide +kernel
theorem dX8_sizes_41 : decode cX8_sizes 41 = .ok (.getfield 111, 3) := by decide +kernel
theorem dX8_sizes_44 : decode cX8_sizes 44 = .ok (.ifCond .ne 13, 3) := by decide +kernel
theorem dX8_sizes_47 : decode cX8_sizes 47 = .ok (.aload_n 0, 1) := by decide +kernel
theorem dX8_sizes_48 : decode cX8_sizes 48 = .ok (.getfield 13, 3) := by decide +kernel
theorem dX8_sizes_51 : decode cX8_sizes 51 = .ok (.iload 5, 2) := by decide +kernel
theorem dX8_sizes_53 : decode cX8_sizes 53 = .ok (.baload, 1) := by decide +kernel
theorem dX8_sizes_54 : decode cX8_sizes 54 = .ok (.ifCond .eq 7, 3) := by decide +kernel
theorem dX8_sizes_57 : decode cX8_sizes 57 = .ok (.iconst 1, 1) := by decide +kernel
theorem dX8_sizes_58 : decode cX8_sizes 58 = .ok (.goto 4, 3) := by decide +kernel
theorem dX8_sizes_61 : decode cX8_sizes 61 = .ok (.iconst 0, 1) := by decide +kernel
theorem dX8_sizes_62 : decode cX8_sizes 62 = .ok (.putfield 111, 3) := by decide +kernel
theorem dX8_sizes_65 : decode cX8_sizes 65 = .ok (.aload_n 0, 1) := by decide +kernel
theorem dX8_sizes_66 : decode cX8_sizes 66 = .ok (.getfield 68, 3) := by decide +kernel
theorem dX8_sizes_69 : decode cX8_sizes 69 = .ok (.iconst 4, 1) := by decide +kernel
theorem dX8_sizes_70 : decode cX8_sizes 70 = .ok (.iload 5, 2) := by decide +kernel
theorem dX8_sizes_72 : decode cX8_sizes 72 = .ok (.imul, 1) := by decide +kernel
theorem dX8_sizes_73 : decode cX8_sizes 73 = .ok (.iload_n 2, 1) := by decide +kernel
theorem dX8_sizes_74 : decode cX8_sizes 74 = .ok (.iadd, 1) := by decide +kernel
theorem dX8_sizes_75 : decode cX8_sizes 75 = .ok (.iload_n 3, 1) := by decide +kernel
theorem dX8_sizes_76 : decode cX8_sizes 76 = .ok (.iastore, 1) := by decide +kernel
theorem dX8_sizes_77 : decode cX8_sizes 77 = .ok (.iload 4, 2) := by decide +kernel
theorem dX8_sizes_79 : decode cX8_sizes 79 = .ok (.iconst 1, 1) := by decide +kernel
theorem dX8_sizes_80 : decode cX8_sizes 80 = .ok (.iload 5, 2) := by decide +kernel
theorem dX8_sizes_82 : decode cX8_sizes 82 = .ok (.ishl, 1) := by decide +kernel
theorem dX8_sizes_83 : decode cX8_sizes 83 = .ok (.ior, 1) := by decide +kernel
theorem dX8_sizes_84 : decode cX8_sizes 84 = .ok (.istore 4, 2) := by decide +kernel
theorem dX8_sizes_86 : decode cX8_sizes 86 = .ok (.iinc 5 1, 3) := by decide +kernel
theorem dX8_sizes_89 : decode cX8_sizes 89 = .ok (.goto (-83), 3) := by decide +kernel
theorem dX8_sizes_92 : decode cX8_sizes 92 = .ok (.iload 4, 2) := by decide +kernel
theorem dX8_sizes_94 : decode cX8_sizes 94 = .ok (.ireturn, 1) := by decide +kernel
theorem dX8_settlesPart_0 : decode cX8_settlesPart 0 = .ok (.iconst 1, 1) := by decide +kernel
theorem dX8_settlesPart_1 : decode cX8_settlesPart 1 = .ok (.iload_n 3, 1) := by decide +kernel
theorem dX8_settlesPart_2 : decode cX8_settlesPart 2 = .ok (.ishl, 1) := by decide +kernel
theorem dX8_settlesPart_3 : decode cX8_settlesPart 3 = .ok (.istore 4, 2) := by decide +kernel
theorem dX8_settlesPart_5 : decode cX8_settlesPart 5 = .ok (.iconst 0, 1) := by decide +kernel
theorem dX8_settlesPart_6 : decode cX8_settlesPart 6 = .ok (.istore 5, 2) := by decide +kernel
theorem dX8_settlesPart_8 : decode cX8_settlesPart 8 = .ok (.iload 4, 2) := by decide +kernel
theorem dX8_settlesPart_10 : decode cX8_settlesPart 10 = .ok (.iload 5, 2) := by decide +kernel
theorem dX8_settlesPart_12 : decode cX8_settlesPart 12 = .ok (.if_icmp .eq 198, 3) := by decide +kernel
theorem dX8_settlesPart_15 : decode cX8_settlesPart 15 = .ok (.iload 4, 2) := by decide +kernel
theorem dX8_settlesPart_17 : decode cX8_settlesPart 17 = .ok (.istore 5, 2) := by decide +kernel
theorem dX8_settlesPart_19 : decode cX8_settlesPart 19 = .ok (.iconst 0, 1) := by decide +kernel
theorem dX8_settlesPart_20 : decode cX8_settlesPart 20 = .ok (.istore 6, 2) := by decide +kernel
theorem dX8_settlesPart_22 : decode cX8_settlesPart 22 = .ok (.iload 6, 2) := by decide +kernel
theorem dX8_settlesPart_24 : decode cX8_settlesPart 24 = .ok (.aload_n 0, 1) := by decide +kernel
theorem dX8_settlesPart_25 : decode cX8_settlesPart 25 = .ok (.getfield 91, 3) := by decide +kernel
theorem dX8_settlesPart_28 : decode cX8_settlesPart 28 = .ok (.if_icmp .ge 179, 3) := by decide +kernel
theorem dX8_settlesPart_31 : decode cX8_settlesPart 31 = .ok (.aload_n 0, 1) := by decide +kernel
theorem dX8_settlesPart_32 : decode cX8_settlesPart 32 = .ok (.getfield 115, 3) := by decide +kernel
theorem dX8_settlesPart_35 : decode cX8_settlesPart 35 = .ok (.iload 6, 2) := by decide +kernel
theorem dX8_settlesPart_37 : decode cX8_settlesPart 37 = .ok (.invokestatic 104, 3) := by decide +kernel
theorem dX8_settlesPart_40 : decode cX8_settlesPart 40 = .ok (.ifCond .eq 161, 3) := by decide +kernel
theorem dX8_settlesPart_43 : decode cX8_settlesPart 43 = .ok (.aload_n 0, 1) := by decide +kernel
theorem dX8_settlesPart_44 : decode cX8_settlesPart 44 = .ok (.getfield 26, 3) := by decide +kernel
theorem dX8_settlesPart_47 : decode cX8_settlesPart 47 = .ok (.iload 6, 2) := by decide +kernel
theorem dX8_settlesPart_49 : decode cX8_settlesPart 49 = .ok (.iaload, 1) := by decide +kernel
theorem dX8_settlesPart_50 : decode cX8_settlesPart 50 = .ok (.iload_n 2, 1) := by decide +kernel
theorem dX8_settlesPart_51 : decode cX8_settlesPart 51 = .ok (.invokestatic 108, 3) := by decide +kernel
theorem dX8_settlesPart_54 : decode cX8_settlesPart 54 = .ok (.ifCond .eq 147, 3) := by decide +kernel
theorem dX8_settlesPart_57 : decode cX8_settlesPart 57 = .ok (.iload 4, 2) := by decide +kernel
theorem dX8_settlesPart_59 : decode cX8_settlesPart 59 = .ok (.aload_n 0, 1) := by decide +kernel
theorem dX8_settlesPart_60 : decode cX8_settlesPart 60 = .ok (.getfield 29, 3) := by decide +kernel
theorem dX8_settlesPart_63 : decode cX8_settlesPart 63 = .ok (.iload 6, 2) := by decide +kernel
theorem dX8_settlesPart_65 : decode cX8_settlesPart 65 = .ok (.iaload, 1) := by decide +kernel
theorem dX8_settlesPart_66 : decode cX8_settlesPart 66 = .ok (.invokestatic 104, 3) := by decide +kernel
theorem dX8_settlesPart_69 : decode cX8_settlesPart 69 = .ok (.iload 4, 2) := by decide +kernel
theorem dX8_settlesPart_71 : decode cX8_settlesPart 71 = .ok (.aload_n 0, 1) := by decide +kernel
theorem dX8_settlesPart_72 : decode cX8_settlesPart 72 = .ok (.getfield 32, 3) := by decide +kernel
theorem dX8_settlesPart_75 : decode cX8_settlesPart 75 = .ok (.iload 6, 2) := by decide +kernel
theorem dX8_settlesPart_77 : decode cX8_settlesPart 77 = .ok (.iaload, 1) := by decide +kernel
theorem dX8_settlesPart_78 : decode cX8_settlesPart 78 = .ok (.invokestatic 104, 3) := by decide +kernel
theorem dX8_settlesPart_81 : decode cX8_settlesPart 81 = .ok (.if_icmp .eq 120, 3) := by decide +kernel
theorem dX8_settlesPart_84 : decode cX8_settlesPart 84 = .ok (.iload 4, 2) := by decide +kernel
theorem dX8_settlesPart_86 : decode cX8_settlesPart 86 = .ok (.aload_n 0, 1) := by decide +kernel
theorem dX8_settlesPart_87 : decode cX8_settlesPart 87 = .ok (.getfield 29, 3) := by decide +kernel
theorem dX8_settlesPart_90 : decode cX8_settlesPart 90 = .ok (.iload 6, 2) := by decide +kernel
theorem dX8_settlesPart_92 : decode cX8_settlesPart 92 = .ok (.iaload, 1) := by decide +kernel
theorem dX8_settlesPart_93 : decode cX8_settlesPart 93 = .ok (.invokestatic 104, 3) := by decide +kernel
theorem dX8_settlesPart_96 : decode cX8_settlesPart 96 = .ok (.istore 7, 2) := by decide +kernel
theorem dX8_settlesPart_98 : decode cX8_settlesPart 98 = .ok (.iload 7, 2) := by decide +kernel
theorem dX8_settlesPart_100 : decode cX8_settlesPart 100 = .ok (.ifCond .eq 13, 3) := by decide +kernel
theorem dX8_settlesPart_103 : decode cX8_settlesPart 103 = .ok (.aload_n 0, 1) := by decide +kernel
theorem dX8_settlesPart_104 : decode cX8_settlesPart 104 = .ok (.getfield 32, 3) := by decide +kernel
theorem dX8_settlesPart_107 : decode cX8_settlesPart 107 = .ok (.iload 6, 2) := by decide +kernel
theorem dX8_settlesPart_109 : decode cX8_settlesPart 109 = .ok (.iaload, 1) := by decide +kernel
theorem dX8_settlesPart_110 : decode cX8_settlesPart 110 = .ok (.goto 10, 3) := by decide +kernel
theorem dX8_settlesPart_113 : decode cX8_settlesPart 113 = .ok (.aload_n 0, 1) := by decide +kernel
theorem dX8_settlesPart_114 : decode cX8_settlesPart 114 = .ok (.getfield 29, 3) := by decide +kernel
theorem dX8_settlesPart_117 : decode cX8_settlesPart 117 = .ok (.iload 6, 2) := by decide +kernel
theorem dX8_settlesPart_119 : decode cX8_settlesPart 119 = .ok (.iaload, 1) := by decide +kernel
theorem dX8_settlesPart_120 : decode cX8_settlesPart 120 = .ok (.istore 8, 2) := by decide +kernel
theorem dX8_settlesPart_122 : decode cX8_settlesPart 122 = .ok (.iload 7, 2) := by decide +kernel
theorem dX8_settlesPart_124 : decode cX8_settlesPart 124 = .ok (.ifCond .eq 13, 3) := by decide +kernel
theorem dX8_settlesPart_127 : decode cX8_settlesPart 127 = .ok (.aload_n 0, 1) := by decide +kernel
theorem dX8_settlesPart_128 : decode cX8_settlesPart 128 = .ok (.getfield 29, 3) := by decide +kernel
theorem dX8_settlesPart_131 : decode cX8_settlesPart 131 = .ok (.iload 6, 2) := by decide +kernel
theorem dX8_settlesPart_133 : decode cX8_settlesPart 133 = .ok (.iaload, 1) := by decide +kernel
theorem dX8_settlesPart_134 : decode cX8_settlesPart 134 = .ok (.goto 10, 3) := by decide +kernel
theorem dX8_settlesPart_137 : decode cX8_settlesPart 137 = .ok (.aload_n 0, 1) := by decide +kernel
theorem dX8_settlesPart_138 : decode cX8_settlesPart 138 = .ok (.getfield 32, 3) := by decide +kernel
theorem dX8_settlesPart_141 : decode cX8_settlesPart 141 = .ok (.iload 6, 2) := by decide +kernel
theorem dX8_settlesPart_143 : decode cX8_settlesPart 143 = .ok (.iaload, 1) := by decide +kernel
theorem dX8_settlesPart_144 : decode cX8_settlesPart 144 = .ok (.istore 9, 2) := by decide +kernel
theorem dX8_settlesPart_146 : decode cX8_settlesPart 146 = .ok (.aload_n 0, 1) := by decide +kernel
theorem dX8_settlesPart_147 : decode cX8_settlesPart 147 = .ok (.getfield 68, 3) := by decide +kernel
theorem dX8_settlesPart_150 : decode cX8_settlesPart 150 = .ok (.iconst 4, 1) := by decide +kernel
theorem dX8_settlesPart_151 : decode cX8_settlesPart 151 = .ok (.iload 8, 2) := by decide +kernel
theorem dX8_settlesPart_153 : decode cX8_settlesPart 153 = .ok (.imul, 1) := by decide +kernel
theorem dX8_settlesPart_154 : decode cX8_settlesPart 154 = .ok (.iload_n 2, 1) := by decide +kernel
theorem dX8_settlesPart_155 : decode cX8_settlesPart 155 = .ok (.iadd, 1) := by decide +kernel
theorem dX8_settlesPart_156 : decode cX8_settlesPart 156 = .ok (.aload_n 0, 1) := by decide +kernel
theorem dX8_settlesPart_157 : decode cX8_settlesPart 157 = .ok (.getfield 68, 3) := by decide +kernel
theorem dX8_settlesPart_160 : decode cX8_settlesPart 160 = .ok (.iconst 4, 1) := by decide +kernel
theorem dX8_settlesPart_161 : decode cX8_settlesPart 161 = .ok (.iload 9, 2) := by decide +kernel
theorem dX8_settlesPart_163 : decode cX8_settlesPart 163 = .ok (.imul, 1) := by decide +kernel
theorem dX8_settlesPart_164 : decode cX8_settlesPart 164 = .ok (.iload_n 2, 1) := by decide +kernel
theorem dX8_settlesPart_165 : decode cX8_settlesPart 165 = .ok (.iadd, 1) := by decide +kernel
theorem dX8_settlesPart_166 : decode cX8_settlesPart 166 = .ok (.iaload, 1) := by decide +kernel
theorem dX8_settlesPart_167 : decode cX8_settlesPart 167 = .ok (.iload 7, 2) := by decide +kernel
theorem dX8_settlesPart_169 : decode cX8_settlesPart 169 = .ok (.ifCond .eq 13, 3) := by decide +kernel
theorem dX8_settlesPart_172 : decode cX8_settlesPart 172 = .ok (.aload_n 0, 1) := by decide +kernel
theorem dX8_settlesPart_173 : decode cX8_settlesPart 173 = .ok (.iload 6, 2) := by decide +kernel
theorem dX8_settlesPart_175 : decode cX8_settlesPart 175 = .ok (.iload_n 2, 1) := by decide +kernel
theorem dX8_settlesPart_176 : decode cX8_settlesPart 176 = .ok (.invokevirtual 118, 3) := by decide +kernel
theorem dX8_settlesPart_179 : decode cX8_settlesPart 179 = .ok (.goto 11, 3) := by decide +kernel
theorem dX8_settlesPart_182 : decode cX8_settlesPart 182 = .ok (.aload_n 0, 1) := by decide +kernel
theorem dX8_settlesPart_183 : decode cX8_settlesPart 183 = .ok (.iload 6, 2) := by decide +kernel
theorem dX8_settlesPart_185 : decode cX8_settlesPart 185 = .ok (.iload_n 2, 1) := by decide +kernel
theorem dX8_settlesPart_186 : decode cX8_settlesPart 186 = .ok (.invokevirtual 118, 3) := by decide +kernel
theorem dX8_settlesPart_189 : decode cX8_settlesPart 189 = .ok (.ineg, 1) := by decide +kernel
theorem dX8_settlesPart_190 : decode cX8_settlesPart 190 = .ok (.iadd, 1) := by decide +kernel
theorem dX8_settlesPart_191 : decode cX8_settlesPart 191 = .ok (.iastore, 1) := by decide +kernel
theorem dX8_settlesPart_192 : decode cX8_settlesPart 192 = .ok (.iload 4, 2) := by decide +kernel
theorem dX8_settlesPart_194 : decode cX8_settlesPart 194 = .ok (.iconst 1, 1) := by decide +kernel
theorem dX8_settlesPart_195 : decode cX8_settlesPart 195 = .ok (.iload 8, 2) := by decide +kernel
theorem dX8_settlesPart_197 : decode cX8_settlesPart 197 = .ok (.ishl, 1) := by decide +kernel
theorem dX8_settlesPart_198 : decode cX8_settlesPart 198 = .ok (.ior, 1) := by decide +kernel
theorem dX8_settlesPart_199 : decode cX8_settlesPart 199 = .ok (.istore 4, 2) := by decide +kernel
theorem dX8_settlesPart_201 : decode cX8_settlesPart 201 = .ok (.iinc 6 1, 3) := by decide +kernel
theorem dX8_settlesPart_204 : decode cX8_settlesPart 204 = .ok (.goto (-182), 3) := by decide +kernel
theorem dX8_settlesPart_207 : decode cX8_settlesPart 207 = .ok (.goto (-199), 3) := by decide +kernel
theorem dX8_settlesPart_210 : decode cX8_settlesPart 210 = .ok (.iconst 0, 1) := by decide +kernel
theorem dX8_settlesPart_211 : decode cX8_settlesPart 211 = .ok (.istore 6, 2) := by decide +kernel
theorem dX8_settlesPart_213 : decode cX8_settlesPart 213 = .ok (.iload 6, 2) := by decide +kernel
theorem dX8_settlesPart_215 : decode cX8_settlesPart 215 = .ok (.aload_n 0, 1) := by decide +kernel
theorem dX8_settlesPart_216 : decode cX8_settlesPart 216 = .ok (.getfield 91, 3) := by decide +kernel
theorem dX8_settlesPart_219 : decode cX8_settlesPart 219 = .ok (.if_icmp .ge 120, 3) := by decide +kernel
theorem dX8_settlesPart_222 : decode cX8_settlesPart 222 = .ok (.aload_n 0, 1) := by decide +kernel
theorem dX8_settlesPart_223 : decode cX8_settlesPart 223 = .ok (.getfield 115, 3) := by decide +kernel
theorem dX8_settlesPart_226 : decode cX8_settlesPart 226 = .ok (.iload 6, 2) := by decide +kernel
theorem dX8_settlesPart_228 : decode cX8_settlesPart 228 = .ok (.invokestatic 104, 3) := by decide +kernel
theorem dX8_settlesPart_231 : decode cX8_settlesPart 231 = .ok (.ifCond .eq 35, 3) := by decide +kernel
theorem dX8_settlesPart_234 : decode cX8_settlesPart 234 = .ok (.aload_n 0, 1) := by decide +kernel
theorem dX8_settlesPart_235 : decode cX8_settlesPart 235 = .ok (.getfield 26, 3) := by decide +kernel
theorem dX8_settlesPart_238 : decode cX8_settlesPart 238 = .ok (.iload 6, 2) := by decide +kernel
theorem dX8_settlesPart_240 : decode cX8_settlesPart 240 = .ok (.iaload, 1) := by decide +kernel
theorem dX8_settlesPart_241 : decode cX8_settlesPart 241 = .ok (.iload_n 2, 1) := by decide +kernel
theorem dX8_settlesPart_242 : decode cX8_settlesPart 242 = .ok (.invokestatic 108, 3) := by decide +kernel
theorem dX8_settlesPart_245 : decode cX8_settlesPart 245 = .ok (.ifCond .eq 21, 3) := by decide +kernel
theorem dX8_settlesPart_248 : decode cX8_settlesPart 248 = .ok (.iload_n 1, 1) := by decide +kernel
theorem dX8_settlesPart_249 : decode cX8_settlesPart 249 = .ok (.aload_n 0, 1) := by decide +kernel
theorem dX8_settlesPart_250 : decode cX8_settlesPart 250 = .ok (.getfield 29, 3) := by decide +kernel
theorem dX8_settlesPart_253 : decode cX8_settlesPart 253 = .ok (.iload 6, 2) := by decide +kernel
theorem dX8_settlesPart_255 : decode cX8_settlesPart 255 = .ok (.iaload, 1) := by decide +kernel
theorem dX8_settlesPart_256 : decode cX8_settlesPart 256 = .ok (.invokestatic 104, 3) := by decide +kernel
theorem dX8_settlesPart_259 : decode cX8_settlesPart 259 = .ok (.ifCond .eq 7, 3) := by decide +kernel
theorem dX8_settlesPart_262 : decode cX8_settlesPart 262 = .ok (.iconst 1, 1) := by decide +kernel
theorem dX8_settlesPart_263 : decode cX8_settlesPart 263 = .ok (.goto 4, 3) := by decide +kernel
theorem dX8_settlesPart_266 : decode cX8_settlesPart 266 = .ok (.iconst 0, 1) := by decide +kernel
theorem dX8_settlesPart_267 : decode cX8_settlesPart 267 = .ok (.istore 7, 2) := by decide +kernel
theorem dX8_settlesPart_269 : decode cX8_settlesPart 269 = .ok (.aload_n 0, 1) := by decide +kernel
theorem dX8_settlesPart_270 : decode cX8_settlesPart 270 = .ok (.aload_n 0, 1) := by decide +kernel
theorem dX8_settlesPart_271 : decode cX8_settlesPart 271 = .ok (.getfield 111, 3) := by decide +kernel
theorem dX8_settlesPart_274 : decode cX8_settlesPart 274 = .ok (.ifCond .ne 51, 3) := by decide +kernel
theorem dX8_settlesPart_277 : decode cX8_settlesPart 277 = .ok (.iload 7, 2) := by decide +kernel
theorem dX8_settlesPart_279 : decode cX8_settlesPart 279 = .ok (.ifCond .eq 50, 3) := by decide +kernel
theorem dX8_settlesPart_282 : decode cX8_settlesPart 282 = .ok (.aload_n 0, 1) := by decide +kernel
theorem dX8_settlesPart_283 : decode cX8_settlesPart 283 = .ok (.getfield 68, 3) := by decide +kernel
theorem dX8_settlesPart_286 : decode cX8_settlesPart 286 = .ok (.iconst 4, 1) := by decide +kernel
theorem dX8_settlesPart_287 : decode cX8_settlesPart 287 = .ok (.aload_n 0, 1) := by decide +kernel
theorem dX8_settlesPart_288 : decode cX8_settlesPart 288 = .ok (.getfield 32, 3) := by decide +kernel
theorem dX8_settlesPart_291 : decode cX8_settlesPart 291 = .ok (.iload 6, 2) := by decide +kernel
theorem dX8_settlesPart_293 : decode cX8_settlesPart 293 = .ok (.iaload, 1) := by decide +kernel
theorem dX8_settlesPart_294 : decode cX8_settlesPart 294 = .ok (.imul, 1) := by decide +kernel
theorem dX8_settlesPart_295 : decode cX8_settlesPart 295 = .ok (.iload_n 2, 1) := by decide +kernel
theorem dX8_settlesPart_296 : decode cX8_settlesPart 296 = .ok (.iadd, 1) := by decide +kernel
theorem dX8_settlesPart_297 : decode cX8_settlesPart 297 = .ok (.iaload, 1) := by decide +kernel
theorem dX8_settlesPart_298 : decode cX8_settlesPart 298 = .ok (.aload_n 0, 1) := by decide +kernel
theorem dX8_settlesPart_299 : decode cX8_settlesPart 299 = .ok (.getfield 68, 3) := by decide +kernel
theorem dX8_settlesPart_302 : decode cX8_settlesPart 302 = .ok (.iconst 4, 1) := by decide +kernel
theorem dX8_settlesPart_303 : decode cX8_settlesPart 303 = .ok (.aload_n 0, 1) := by decide +kernel
theorem dX8_settlesPart_304 : decode cX8_settlesPart 304 = .ok (.getfield 29, 3) := by decide +kernel
theorem dX8_settlesPart_307 : decode cX8_settlesPart 307 = .ok (.iload 6, 2) := by decide +kernel
theorem dX8_settlesPart_309 : decode cX8_settlesPart 309 = .ok (.iaload, 1) := by decide +kernel
theorem dX8_settlesPart_310 : decode cX8_settlesPart 310 = .ok (.imul, 1) := by decide +kernel
theorem dX8_settlesPart_311 : decode cX8_settlesPart 311 = .ok (.iload_n 2, 1) := by decide +kernel
theorem dX8_settlesPart_312 : decode cX8_settlesPart 312 = .ok (.iadd, 1) := by decide +kernel
theorem dX8_settlesPart_313 : decode cX8_settlesPart 313 = .ok (.iaload, 1) := by decide +kernel
theorem dX8_settlesPart_314 : decode cX8_settlesPart 314 = .ok (.aload_n 0, 1) := by decide +kernel
theorem dX8_settlesPart_315 : decode cX8_settlesPart 315 = .ok (.iload 6, 2) := by decide +kernel
theorem dX8_settlesPart_317 : decode cX8_settlesPart 317 = .ok (.iload_n 2, 1) := by decide +kernel
theorem dX8_settlesPart_318 : decode cX8_settlesPart 318 = .ok (.invokevirtual 118, 3) := by decide +kernel
theorem dX8_settlesPart_321 : decode cX8_settlesPart 321 = .ok (.iadd, 1) := by decide +kernel
theorem dX8_settlesPart_322 : decode cX8_settlesPart 322 = .ok (.if_icmp .eq 7, 3) := by decide +kernel
theorem dX8_settlesPart_325 : decode cX8_settlesPart 325 = .ok (.iconst 1, 1) := by decide +kernel
theorem dX8_settlesPart_326 : decode cX8_settlesPart 326 = .ok (.goto 4, 3) := by decide +kernel
theorem dX8_settlesPart_329 : decode cX8_settlesPart 329 = .ok (.iconst 0, 1) := by decide +kernel
theorem dX8_settlesPart_330 : decode cX8_settlesPart 330 = .ok (.putfield 111, 3) := by decide +kernel
theorem dX8_settlesPart_333 : decode cX8_settlesPart 333 = .ok (.iinc 6 1, 3) := by decide +kernel
theorem dX8_settlesPart_336 : decode cX8_settlesPart 336 = .ok (.goto (-123), 3) := by decide +kernel
theorem dX8_settlesPart_339 : decode cX8_settlesPart 339 = .ok (.return_, 1) := by decide +kernel
theorem dX8_settles_0 : decode cX8_settles 0 = .ok (.iconst 0, 1) := by decide +kernel
theorem dX8_settles_1 : decode cX8_settles 1 = .ok (.istore 4, 2) := by decide +kernel
theorem dX8_settles_3 : decode cX8_settles 3 = .ok (.iconst 0, 1) := by decide +kernel
theorem dX8_settles_4 : decode cX8_settles 4 = .ok (.istore 5, 2) := by decide +kernel
theorem dX8_settles_6 : decode cX8_settles 6 = .ok (.iload 5, 2) := by decide +kernel
theorem dX8_settles_8 : decode cX8_settles 8 = .ok (.aload_n 0, 1) := by decide +kernel
theorem dX8_settles_9 : decode cX8_settles 9 = .ok (.getfield 88, 3) := by decide +kernel
theorem dX8_settles_12 : decode cX8_settles 12 = .ok (.if_icmp .ge 89, 3) := by decide +kernel
theorem dX8_settles_15 : decode cX8_settles 15 = .ok (.iload_n 2, 1) := by decide +kernel
theorem dX8_settles_16 : decode cX8_settles 16 = .ok (.iload 5, 2) := by decide +kernel
theorem dX8_settles_18 : decode cX8_settles 18 = .ok (.invokestatic 104, 3) := by decide +kernel
theorem dX8_settles_21 : decode cX8_settles 21 = .ok (.ifCond .eq 74, 3) := by decide +kernel
theorem dX8_settles_24 : decode cX8_settles 24 = .ok (.iload 4, 2) := by decide +kernel
theorem dX8_settles_26 : decode cX8_settles 26 = .ok (.iload 5, 2) := by decide +kernel
theorem dX8_settles_28 : decode cX8_settles 28 = .ok (.invokestatic 104, 3) := by decide +kernel
theorem dX8_settles_31 : decode cX8_settles 31 = .ok (.ifCond .ne 64, 3) := by decide +kernel
theorem dX8_settles_34 : decode cX8_settles 34 = .ok (.aload_n 0, 1) := by decide +kernel
theorem dX8_settles_35 : decode cX8_settles 35 = .ok (.iload 5, 2) := by decide +kernel
theorem dX8_settles_37 : decode cX8_settles 37 = .ok (.iload_n 3, 1) := by decide +kernel
theorem dX8_settles_38 : decode cX8_settles 38 = .ok (.aload_n 0, 1) := by decide +kernel
theorem dX8_settles_39 : decode cX8_settles 39 = .ok (.getfield 115, 3) := by decide +kernel
theorem dX8_settles_42 : decode cX8_settles 42 = .ok (.invokevirtual 122, 3) := by decide +kernel
theorem dX8_settles_45 : decode cX8_settles 45 = .ok (.istore 6, 2) := by decide +kernel
theorem dX8_settles_47 : decode cX8_settles 47 = .ok (.iconst 0, 1) := by decide +kernel
theorem dX8_settles_48 : decode cX8_settles 48 = .ok (.istore 7, 2) := by decide +kernel
theorem dX8_settles_50 : decode cX8_settles 50 = .ok (.iload 6, 2) := by decide +kernel
theorem dX8_settles_52 : decode cX8_settles 52 = .ok (.iload 7, 2) := by decide +kernel
theorem dX8_settles_54 : decode cX8_settles 54 = .ok (.invokestatic 104, 3) := by decide +kernel
theorem dX8_settles_57 : decode cX8_settles 57 = .ok (.ifCond .ne 9, 3) := by decide +kernel
theorem dX8_settles_60 : decode cX8_settles 60 = .ok (.iinc 7 1, 3) := by decide +kernel
theorem dX8_settles_63 : decode cX8_settles 63 = .ok (.goto (-13), 3) := by decide +kernel
theorem dX8_settles_66 : decode cX8_settles 66 = .ok (.iload 4, 2) := by decide +kernel
theorem dX8_settles_68 : decode cX8_settles 68 = .ok (.iload 6, 2) := by decide +kernel
theorem dX8_settles_70 : decode cX8_settles 70 = .ok (.ior, 1) := by decide +kernel
theorem dX8_settles_71 : decode cX8_settles 71 = .ok (.istore 4, 2) := by decide +kernel
theorem dX8_settles_73 : decode cX8_settles 73 = .ok (.aload_n 0, 1) := by decide +kernel
theorem dX8_settles_74 : decode cX8_settles 74 = .ok (.iload 6, 2) := by decide +kernel
theorem dX8_settles_76 : decode cX8_settles 76 = .ok (.iload_n 3, 1) := by decide +kernel
theorem dX8_settles_77 : decode cX8_settles 77 = .ok (.iload 6, 2) := by decide +kernel
theorem dX8_settles_79 : decode cX8_settles 79 = .ok (.iload_n 1, 1) := by decide +kernel
theorem dX8_settles_80 : decode cX8_settles 80 = .ok (.invokestatic 104, 3) := by decide +kernel
theorem dX8_settles_83 : decode cX8_settles 83 = .ok (.ifCond .eq 7, 3) := by decide +kernel
theorem dX8_settles_86 : decode cX8_settles 86 = .ok (.iload_n 1, 1) := by decide +kernel
theorem dX8_settles_87 : decode cX8_settles 87 = .ok (.goto 5, 3) := by decide +kernel
theorem dX8_settles_90 : decode cX8_settles 90 = .ok (.iload 7, 2) := by decide +kernel
theorem dX8_settles_92 : decode cX8_settles 92 = .ok (.invokevirtual 126, 3) := by decide +kernel
theorem dX8_settles_95 : decode cX8_settles 95 = .ok (.iinc 5 1, 3) := by decide +kernel
theorem dX8_settles_98 : decode cX8_settles 98 = .ok (.goto (-92), 3) := by decide +kernel
theorem dX8_settles_101 : decode cX8_settles 101 = .ok (.return_, 1) := by decide +kernel
theorem dX8_lays_0 : decode cX8_lays 0 = .ok (.aload_n 0, 1) := by decide +kernel
theorem dX8_lays_1 : decode cX8_lays 1 = .ok (.getfield 29, 3) := by decide +kernel
theorem dX8_lays_4 : decode cX8_lays 4 = .ok (.iload_n 1, 1) := by decide +kernel
theorem dX8_lays_5 : decode cX8_lays 5 = .ok (.iaload, 1) := by decide +kernel
theorem dX8_lays_6 : decode cX8_lays 6 = .ok (.istore_n 2, 1) := by decide +kernel
theorem dX8_lays_7 : decode cX8_lays 7 = .ok (.aload_n 0, 1) := by decide +kernel
theorem dX8_lays_8 : decode cX8_lays 8 = .ok (.getfield 32, 3) := by decide +kernel
theorem dX8_lays_11 : decode cX8_lays 11 = .ok (.iload_n 1, 1) := by decide +kernel
theorem dX8_lays_12 : decode cX8_lays 12 = .ok (.iaload, 1) := by decide +kernel
theorem dX8_lays_13 : decode cX8_lays 13 = .ok (.istore_n 3, 1) := by decide +kernel
theorem dX8_lays_14 : decode cX8_lays 14 = .ok (.aload_n 0, 1) := by decide +kernel
theorem dX8_lays_15 : decode cX8_lays 15 = .ok (.getfield 26, 3) := by decide +kernel
theorem dX8_lays_18 : decode cX8_lays 18 = .ok (.iload_n 1, 1) := by decide +kernel
theorem dX8_lays_19 : decode cX8_lays 19 = .ok (.iaload, 1) := by decide +kernel
theorem dX8_lays_20 : decode cX8_lays 20 = .ok (.istore 4, 2) := by decide +kernel
theorem dX8_lays_22 : decode cX8_lays 22 = .ok (.iload 4, 2) := by decide +kernel
theorem dX8_lays_24 : decode cX8_lays 24 = .ok (.iconst 1, 1) := by decide +kernel
theorem dX8_lays_25 : decode cX8_lays 25 = .ok (.if_icmp .gt 51, 3) := by decide +kernel
theorem dX8_lays_28 : decode cX8_lays 28 = .ok (.aload_n 0, 1) := by decide +kernel
theorem dX8_lays_29 : decode cX8_lays 29 = .ok (.aload_n 0, 1) := by decide +kernel
theorem dX8_lays_30 : decode cX8_lays 30 = .ok (.iload_n 3, 1) := by decide +kernel
theorem dX8_lays_31 : decode cX8_lays 31 = .ok (.iconst 2, 1) := by decide +kernel
theorem dX8_lays_32 : decode cX8_lays 32 = .ok (.iload 4, 2) := by decide +kernel
theorem dX8_lays_34 : decode cX8_lays 34 = .ok (.iadd, 1) := by decide +kernel
theorem dX8_lays_35 : decode cX8_lays 35 = .ok (.aload_n 0, 1) := by decide +kernel
theorem dX8_lays_36 : decode cX8_lays 36 = .ok (.getfield 115, 3) := by decide +kernel
theorem dX8_lays_39 : decode cX8_lays 39 = .ok (.invokevirtual 122, 3) := by decide +kernel
theorem dX8_lays_42 : decode cX8_lays 42 = .ok (.iconst 2, 1) := by decide +kernel
theorem dX8_lays_43 : decode cX8_lays 43 = .ok (.iload 4, 2) := by decide +kernel
theorem dX8_lays_45 : decode cX8_lays 45 = .ok (.iadd, 1) := by decide +kernel
theorem dX8_lays_46 : decode cX8_lays 46 = .ok (.aload_n 0, 1) := by decide +kernel
theorem dX8_lays_47 : decode cX8_lays 47 = .ok (.getfield 68, 3) := by decide +kernel
theorem dX8_lays_50 : decode cX8_lays 50 = .ok (.iconst 4, 1) := by decide +kernel
theorem dX8_lays_51 : decode cX8_lays 51 = .ok (.iload_n 2, 1) := by decide +kernel
theorem dX8_lays_52 : decode cX8_lays 52 = .ok (.imul, 1) := by decide +kernel
theorem dX8_lays_53 : decode cX8_lays 53 = .ok (.iconst 2, 1) := by decide +kernel
theorem dX8_lays_54 : decode cX8_lays 54 = .ok (.iadd, 1) := by decide +kernel
theorem dX8_lays_55 : decode cX8_lays 55 = .ok (.iload 4, 2) := by decide +kernel
theorem dX8_lays_57 : decode cX8_lays 57 = .ok (.iadd, 1) := by decide +kernel
theorem dX8_lays_58 : decode cX8_lays 58 = .ok (.iaload, 1) := by decide +kernel
theorem dX8_lays_59 : decode cX8_lays 59 = .ok (.invokevirtual 130, 3) := by decide +kernel
theorem dX8_lays_62 : decode cX8_lays 62 = .ok (.istore 5, 2) := by decide +kernel
theorem dX8_lays_64 : decode cX8_lays 64 = .ok (.aload_n 0, 1) := by decide +kernel
theorem dX8_lays_65 : decode cX8_lays 65 = .ok (.iload_n 2, 1) := by decide +kernel
theorem dX8_lays_66 : decode cX8_lays 66 = .ok (.iload 5, 2) := by decide +kernel
theorem dX8_lays_68 : decode cX8_lays 68 = .ok (.iload 4, 2) := by decide +kernel
theorem dX8_lays_70 : decode cX8_lays 70 = .ok (.invokevirtual 133, 3) := by decide +kernel
theorem dX8_lays_73 : decode cX8_lays 73 = .ok (.goto 162, 3) := by decide +kernel
theorem dX8_lays_76 : decode cX8_lays 76 = .ok (.iload 4, 2) := by decide +kernel
theorem dX8_lays_78 : decode cX8_lays 78 = .ok (.bipush 6, 2) := by decide +kernel
theorem dX8_lays_80 : decode cX8_lays 80 = .ok (.if_icmp .ne 56, 3) := by decide +kernel
theorem dX8_lays_83 : decode cX8_lays 83 = .ok (.aload_n 0, 1) := by decide +kernel
theorem dX8_lays_84 : decode cX8_lays 84 = .ok (.getfield 62, 3) := by decide +kernel
theorem dX8_lays_87 : decode cX8_lays 87 = .ok (.iload_n 1, 1) := by decide +kernel
theorem dX8_lays_88 : decode cX8_lays 88 = .ok (.aload_n 0, 1) := by decide +kernel
theorem dX8_lays_89 : decode cX8_lays 89 = .ok (.getfield 68, 3) := by decide +kernel
theorem dX8_lays_92 : decode cX8_lays 92 = .ok (.iconst 4, 1) := by decide +kernel
theorem dX8_lays_93 : decode cX8_lays 93 = .ok (.iload_n 3, 1) := by decide +kernel
theorem dX8_lays_94 : decode cX8_lays 94 = .ok (.imul, 1) := by decide +kernel
theorem dX8_lays_95 : decode cX8_lays 95 = .ok (.iaload, 1) := by decide +kernel
theorem dX8_lays_96 : decode cX8_lays 96 = .ok (.aload_n 0, 1) := by decide +kernel
theorem dX8_lays_97 : decode cX8_lays 97 = .ok (.getfield 68, 3) := by decide +kernel
theorem dX8_lays_100 : decode cX8_lays 100 = .ok (.iconst 4, 1) := by decide +kernel
theorem dX8_lays_101 : decode cX8_lays 101 = .ok (.iload_n 2, 1) := by decide +kernel
theorem dX8_lays_102 : decode cX8_lays 102 = .ok (.imul, 1) := by decide +kernel
theorem dX8_lays_103 : decode cX8_lays 103 = .ok (.iaload, 1) := by decide +kernel
theorem dX8_lays_104 : decode cX8_lays 104 = .ok (.isub, 1) := by decide +kernel
theorem dX8_lays_105 : decode cX8_lays 105 = .ok (.iastore, 1) := by decide +kernel
theorem dX8_lays_106 : decode cX8_lays 106 = .ok (.aload_n 0, 1) := by decide +kernel
theorem dX8_lays_107 : decode cX8_lays 107 = .ok (.getfield 65, 3) := by decide +kernel
theorem dX8_lays_110 : decode cX8_lays 110 = .ok (.iload_n 1, 1) := by decide +kernel
theorem dX8_lays_111 : decode cX8_lays 111 = .ok (.aload_n 0, 1) := by decide +kernel
theorem dX8_lays_112 : decode cX8_lays 112 = .ok (.getfield 68, 3) := by decide +kernel
theorem dX8_lays_115 : decode cX8_lays 115 = .ok (.iconst 4, 1) := by decide +kernel
theorem dX8_lays_116 : decode cX8_lays 116 = .ok (.iload_n 3, 1) := by decide +kernel
theorem dX8_lays_117 : decode cX8_lays 117 = .ok (.imul, 1) := by decide +kernel
theorem dX8_lays_118 : decode cX8_lays 118 = .ok (.iconst 1, 1) := by decide +kernel
theorem dX8_lays_119 : decode cX8_lays 119 = .ok (.iadd, 1) := by decide +kernel
theorem dX8_lays_120 : decode cX8_lays 120 = .ok (.iaload, 1) := by decide +kernel
theorem dX8_lays_121 : decode cX8_lays 121 = .ok (.aload_n 0, 1) := by decide +kernel
theorem dX8_lays_122 : decode cX8_lays 122 = .ok (.getfield 68, 3) := by decide +kernel
theorem dX8_lays_125 : decode cX8_lays 125 = .ok (.iconst 4, 1) := by decide +kernel
theorem dX8_lays_126 : decode cX8_lays 126 = .ok (.iload_n 2, 1) := by decide +kernel
theorem dX8_lays_127 : decode cX8_lays 127 = .ok (.imul, 1) := by decide +kernel
theorem dX8_lays_128 : decode cX8_lays 128 = .ok (.iconst 1, 1) := by decide +kernel
theorem dX8_lays_129 : decode cX8_lays 129 = .ok (.iadd, 1) := by decide +kernel
theorem dX8_lays_130 : decode cX8_lays 130 = .ok (.iaload, 1) := by decide +kernel
theorem dX8_lays_131 : decode cX8_lays 131 = .ok (.isub, 1) := by decide +kernel
theorem dX8_lays_132 : decode cX8_lays 132 = .ok (.iastore, 1) := by decide +kernel
theorem dX8_lays_133 : decode cX8_lays 133 = .ok (.goto 102, 3) := by decide +kernel
theorem dX8_lays_136 : decode cX8_lays 136 = .ok (.iload 4, 2) := by decide +kernel
theorem dX8_lays_138 : decode cX8_lays 138 = .ok (.iconst 3, 1) := by decide +kernel
theorem dX8_lays_139 : decode cX8_lays 139 = .ok (.if_icmp .gt 7, 3) := by decide +kernel
theorem dX8_lays_142 : decode cX8_lays 142 = .ok (.iconst 0, 1) := by decide +kernel
theorem dX8_lays_143 : decode cX8_lays 143 = .ok (.goto 4, 3) := by decide +kernel
theorem dX8_lays_146 : decode cX8_lays 146 = .ok (.iconst 1, 1) := by decide +kernel
theorem dX8_lays_147 : decode cX8_lays 147 = .ok (.istore 5, 2) := by decide +kernel
theorem dX8_lays_149 : decode cX8_lays 149 = .ok (.aload_n 0, 1) := by decide +kernel
theorem dX8_lays_150 : decode cX8_lays 150 = .ok (.iload_n 3, 1) := by decide +kernel
theorem dX8_lays_151 : decode cX8_lays 151 = .ok (.iload 5, 2) := by decide +kernel
theorem dX8_lays_153 : decode cX8_lays 153 = .ok (.aload_n 0, 1) := by decide +kernel
theorem dX8_lays_154 : decode cX8_lays 154 = .ok (.getfield 115, 3) := by decide +kernel
theorem dX8_lays_157 : decode cX8_lays 157 = .ok (.invokevirtual 122, 3) := by decide +kernel
theorem dX8_lays_160 : decode cX8_lays 160 = .ok (.istore 6, 2) := by decide +kernel
theorem dX8_lays_162 : decode cX8_lays 162 = .ok (.aload_n 0, 1) := by decide +kernel
theorem dX8_lays_163 : decode cX8_lays 163 = .ok (.getfield 68, 3) := by decide +kernel
theorem dX8_lays_166 : decode cX8_lays 166 = .ok (.iconst 4, 1) := by decide +kernel
theorem dX8_lays_167 : decode cX8_lays 167 = .ok (.iload_n 2, 1) := by decide +kernel
theorem dX8_lays_168 : decode cX8_lays 168 = .ok (.imul, 1) := by decide +kernel
theorem dX8_lays_169 : decode cX8_lays 169 = .ok (.iload 5, 2) := by decide +kernel
theorem dX8_lays_171 : decode cX8_lays 171 = .ok (.iadd, 1) := by decide +kernel
theorem dX8_lays_172 : decode cX8_lays 172 = .ok (.iaload, 1) := by decide +kernel
theorem dX8_lays_173 : decode cX8_lays 173 = .ok (.aload_n 0, 1) := by decide +kernel
theorem dX8_lays_174 : decode cX8_lays 174 = .ok (.iload_n 1, 1) := by decide +kernel
theorem dX8_lays_175 : decode cX8_lays 175 = .ok (.iload 5, 2) := by decide +kernel
theorem dX8_lays_177 : decode cX8_lays 177 = .ok (.invokevirtual 118, 3) := by decide +kernel
theorem dX8_lays_180 : decode cX8_lays 180 = .ok (.iadd, 1) := by decide +kernel
theorem dX8_lays_181 : decode cX8_lays 181 = .ok (.aload_n 0, 1) := by decide +kernel
theorem dX8_lays_182 : decode cX8_lays 182 = .ok (.getfield 68, 3) := by decide +kernel
theorem dX8_lays_185 : decode cX8_lays 185 = .ok (.iconst 4, 1) := by decide +kernel
theorem dX8_lays_186 : decode cX8_lays 186 = .ok (.iload_n 3, 1) := by decide +kernel
theorem dX8_lays_187 : decode cX8_lays 187 = .ok (.imul, 1) := by decide +kernel
theorem dX8_lays_188 : decode cX8_lays 188 = .ok (.iload 5, 2) := by decide +kernel
theorem dX8_lays_190 : decode cX8_lays 190 = .ok (.iadd, 1) := by decide +kernel
theorem dX8_lays_191 : decode cX8_lays 191 = .ok (.iaload, 1) := by decide +kernel
theorem dX8_lays_192 : decode cX8_lays 192 = .ok (.isub, 1) := by decide +kernel
theorem dX8_lays_193 : decode cX8_lays 193 = .ok (.istore 7, 2) := by decide +kernel
theorem dX8_lays_195 : decode cX8_lays 195 = .ok (.aload_n 0, 1) := by decide +kernel
theorem dX8_lays_196 : decode cX8_lays 196 = .ok (.aload_n 0, 1) := by decide +kernel
theorem dX8_lays_197 : decode cX8_lays 197 = .ok (.getfield 111, 3) := by decide +kernel
theorem dX8_lays_200 : decode cX8_lays 200 = .ok (.ifCond .ne 17, 3) := by decide +kernel
theorem dX8_lays_203 : decode cX8_lays 203 = .ok (.iload 7, 2) := by decide +kernel
theorem dX8_lays_205 : decode cX8_lays 205 = .ok (.ifCond .eq 16, 3) := by decide +kernel
theorem dX8_lays_208 : decode cX8_lays 208 = .ok (.iload 6, 2) := by decide +kernel
theorem dX8_lays_210 : decode cX8_lays 210 = .ok (.iload_n 2, 1) := by decide +kernel
theorem dX8_lays_211 : decode cX8_lays 211 = .ok (.invokestatic 104, 3) := by decide +kernel
theorem dX8_lays_214 : decode cX8_lays 214 = .ok (.ifCond .eq 7, 3) := by decide +kernel
theorem dX8_lays_217 : decode cX8_lays 217 = .ok (.iconst 1, 1) := by decide +kernel
theorem dX8_lays_218 : decode cX8_lays 218 = .ok (.goto 4, 3) := by decide +kernel
theorem dX8_lays_221 : decode cX8_lays 221 = .ok (.iconst 0, 1) := by decide +kernel
theorem dX8_lays_222 : decode cX8_lays 222 = .ok (.putfield 111, 3) := by decide +kernel
theorem dX8_lays_225 : decode cX8_lays 225 = .ok (.aload_n 0, 1) := by decide +kernel
theorem dX8_lays_226 : decode cX8_lays 226 = .ok (.iload 6, 2) := by decide +kernel
theorem dX8_lays_228 : decode cX8_lays 228 = .ok (.iload 5, 2) := by decide +kernel
theorem dX8_lays_230 : decode cX8_lays 230 = .ok (.iload 7, 2) := by decide +kernel
theorem dX8_lays_232 : decode cX8_lays 232 = .ok (.invokevirtual 136, 3) := by decide +kernel
theorem dX8_lays_235 : decode cX8_lays 235 = .ok (.aload_n 0, 1) := by decide +kernel
theorem dX8_lays_236 : decode cX8_lays 236 = .ok (.dup, 1) := by decide +kernel
theorem dX8_lays_237 : decode cX8_lays 237 = .ok (.getfield 115, 3) := by decide +kernel
theorem dX8_lays_240 : decode cX8_lays 240 = .ok (.iconst 1, 1) := by decide +kernel
theorem dX8_lays_241 : decode cX8_lays 241 = .ok (.iload_n 1, 1) := by decide +kernel
theorem dX8_lays_242 : decode cX8_lays 242 = .ok (.ishl, 1) := by decide +kernel
theorem dX8_lays_243 : decode cX8_lays 243 = .ok (.ior, 1) := by decide +kernel
theorem dX8_lays_244 : decode cX8_lays 244 = .ok (.putfield 115, 3) := by decide +kernel
theorem dX8_lays_247 : decode cX8_lays 247 = .ok (.return_, 1) := by decide +kernel
theorem dX8_can_0 : decode cX8_can 0 = .ok (.aload_n 0, 1) := by decide +kernel
theorem dX8_can_1 : decode cX8_can 1 = .ok (.iload_n 1, 1) := by decide +kernel
theorem dX8_can_2 : decode cX8_can 2 = .ok (.putfield 80, 3) := by decide +kernel
theorem dX8_can_5 : decode cX8_can 5 = .ok (.iload_n 1, 1) := by decide +kernel
theorem dX8_can_6 : decode cX8_can 6 = .ok (.ifCond .ne 7, 3) := by decide +kernel
theorem dX8_can_9 : decode cX8_can 9 = .ok (.iconst 1, 1) := by decide +kernel
theorem dX8_can_10 : decode cX8_can 10 = .ok (.goto 4, 3) := by decide +kernel
theorem dX8_can_13 : decode cX8_can 13 = .ok (.iconst 0, 1) := by decide +kernel
theorem dX8_can_14 : decode cX8_can 14 = .ok (.ireturn, 1) := by decide +kernel
theorem dX8_isIn_0 : decode cX8_isIn 0 = .ok (.iload_n 0, 1) := by decide +kernel
theorem dX8_isIn_1 : decode cX8_isIn 1 = .ok (.iload_n 1, 1) := by decide +kernel
theorem dX8_isIn_2 : decode cX8_isIn 2 = .ok (.if_icmp .lt 12, 3) := by decide +kernel
theorem dX8_isIn_5 : decode cX8_isIn 5 = .ok (.iload_n 0, 1) := by decide +kernel
theorem dX8_isIn_6 : decode cX8_isIn 6 = .ok (.iload_n 2, 1) := by decide +kernel
theorem dX8_isIn_7 : decode cX8_isIn 7 = .ok (.if_icmp .gt 7, 3) := by decide +kernel
theorem dX8_isIn_10 : decode cX8_isIn 10 = .ok (.iconst 1, 1) := by decide +kernel
theorem dX8_isIn_11 : decode cX8_isIn 11 = .ok (.goto 4, 3) := by decide +kernel
theorem dX8_isIn_14 : decode cX8_isIn 14 = .ok (.iconst 0, 1) := by decide +kernel
theorem dX8_isIn_15 : decode cX8_isIn 15 = .ok (.ireturn, 1) := by decide +kernel
theorem dX8_spell_0 : decode cX8_spell 0 = .ok (.aload_n 0, 1) := by decide +kernel
theorem dX8_spell_1 : decode cX8_spell 1 = .ok (.iload_n 1, 1) := by decide +kernel
theorem dX8_spell_2 : decode cX8_spell 2 = .ok (.iconst 0, 1) := by decide +kernel
theorem dX8_spell_3 : decode cX8_spell 3 = .ok (.bipush 26, 2) := by decide +kernel
theorem dX8_spell_5 : decode cX8_spell 5 = .ok (.invokestatic 84, 3) := by decide +kernel
theorem dX8_spell_8 : decode cX8_spell 8 = .ok (.ifCond .ne 7, 3) := by decide +kernel
theorem dX8_spell_11 : decode cX8_spell 11 = .ok (.iconst 1, 1) := by decide +kernel
theorem dX8_spell_12 : decode cX8_spell 12 = .ok (.goto 16, 3) := by decide +kernel
theorem dX8_spell_15 : decode cX8_spell 15 = .ok (.aload_n 0, 1) := by decide +kernel
theorem dX8_spell_16 : decode cX8_spell 16 = .ok (.getfield 97, 3) := by decide +kernel
theorem dX8_spell_19 : decode cX8_spell 19 = .ok (.iconst 5, 1) := by decide +kernel
theorem dX8_spell_20 : decode cX8_spell 20 = .ok (.if_icmp .ne 7, 3) := by decide +kernel
theorem dX8_spell_23 : decode cX8_spell 23 = .ok (.iconst 2, 1) := by decide +kernel
theorem dX8_spell_24 : decode cX8_spell 24 = .ok (.goto 4, 3) := by decide +kernel
theorem dX8_spell_27 : decode cX8_spell 27 = .ok (.iconst 0, 1) := by decide +kernel
theorem dX8_spell_28 : decode cX8_spell 28 = .ok (.invokevirtual 100, 3) := by decide +kernel
theorem dX8_spell_31 : decode cX8_spell 31 = .ok (.ifCond .ne 5, 3) := by decide +kernel
theorem dX8_spell_34 : decode cX8_spell 34 = .ok (.iconst 0, 1) := by decide +kernel
theorem dX8_spell_35 : decode cX8_spell 35 = .ok (.ireturn, 1) := by decide +kernel
theorem dX8_spell_36 : decode cX8_spell 36 = .ok (.aload_n 0, 1) := by decide +kernel
theorem dX8_spell_37 : decode cX8_spell 37 = .ok (.getfield 7, 3) := by decide +kernel
theorem dX8_spell_40 : decode cX8_spell 40 = .ok (.aload_n 0, 1) := by decide +kernel
theorem dX8_spell_41 : decode cX8_spell 41 = .ok (.getfield 97, 3) := by decide +kernel
theorem dX8_spell_44 : decode cX8_spell 44 = .ok (.iload_n 1, 1) := by decide +kernel
theorem dX8_spell_45 : decode cX8_spell 45 = .ok (.iastore, 1) := by decide +kernel
theorem dX8_spell_46 : decode cX8_spell 46 = .ok (.aload_n 0, 1) := by decide +kernel
theorem dX8_spell_47 : decode cX8_spell 47 = .ok (.dup, 1) := by decide +kernel
theorem dX8_spell_48 : decode cX8_spell 48 = .ok (.getfield 97, 3) := by decide +kernel
theorem dX8_spell_51 : decode cX8_spell 51 = .ok (.iconst 1, 1) := by decide +kernel
theorem dX8_spell_52 : decode cX8_spell 52 = .ok (.iadd, 1) := by decide +kernel
theorem dX8_spell_53 : decode cX8_spell 53 = .ok (.putfield 97, 3) := by decide +kernel
theorem dX8_spell_56 : decode cX8_spell 56 = .ok (.iconst 0, 1) := by decide +kernel
theorem dX8_spell_57 : decode cX8_spell 57 = .ok (.istore_n 2, 1) := by decide +kernel
theorem dX8_spell_58 : decode cX8_spell 58 = .ok (.iconst 0, 1) := by decide +kernel
theorem dX8_spell_59 : decode cX8_spell 59 = .ok (.istore_n 3, 1) := by decide +kernel
theorem dX8_spell_60 : decode cX8_spell 60 = .ok (.iload_n 3, 1) := by decide +kernel
theorem dX8_spell_61 : decode cX8_spell 61 = .ok (.aload_n 0, 1) := by decide +kernel
theorem dX8_spell_62 : decode cX8_spell 62 = .ok (.getfield 97, 3) := by decide +kernel
theorem dX8_spell_65 : decode cX8_spell 65 = .ok (.if_icmp .ge 28, 3) := by decide +kernel
theorem dX8_spell_68 : decode cX8_spell 68 = .ok (.iload_n 2, 1) := by decide +kernel
theorem dX8_spell_69 : decode cX8_spell 69 = .ok (.aload_n 0, 1) := by decide +kernel
theorem dX8_spell_70 : decode cX8_spell 70 = .ok (.getfield 7, 3) := by decide +kernel
theorem dX8_spell_73 : decode cX8_spell 73 = .ok (.iload_n 3, 1) := by decide +kernel
theorem dX8_spell_74 : decode cX8_spell 74 = .ok (.iaload, 1) := by decide +kernel
theorem dX8_spell_75 : decode cX8_spell 75 = .ok (.bipush 26, 2) := by decide +kernel
theorem dX8_spell_77 : decode cX8_spell 77 = .ok (.if_icmp .ne 7, 3) := by decide +kernel
theorem dX8_spell_80 : decode cX8_spell 80 = .ok (.iconst 2, 1) := by decide +kernel
theorem dX8_spell_81 : decode cX8_spell 81 = .ok (.goto 4, 3) := by decide +kernel
theorem dX8_spell_84 : decode cX8_spell 84 = .ok (.iconst 1, 1) := by decide +kernel
theorem dX8_spell_85 : decode cX8_spell 85 = .ok (.iadd, 1) := by decide +kernel
theorem dX8_spell_86 : decode cX8_spell 86 = .ok (.istore_n 2, 1) := by decide +kernel
theorem dX8_spell_87 : decode cX8_spell 87 = .ok (.iinc 3 1, 3) := by decide +kernel
theorem dX8_spell_90 : decode cX8_spell 90 = .ok (.goto (-30), 3) := by decide +kernel
theorem dX8_spell_93 : decode cX8_spell 93 = .ok (.iload_n 2, 1) := by decide +kernel
theorem dX8_spell_94 : decode cX8_spell 94 = .ok (.ireturn, 1) := by decide +kernel
theorem dX8_clearSpelled_0 : decode cX8_clearSpelled 0 = .ok (.aload_n 0, 1) := by decide +kernel
theorem dX8_clearSpelled_1 : decode cX8_clearSpelled 1 = .ok (.iconst 0, 1) := by decide +kernel
theorem dX8_clearSpelled_2 : decode cX8_clearSpelled 2 = .ok (.putfield 80, 3) := by decide +kernel
theorem dX8_clearSpelled_5 : decode cX8_clearSpelled 5 = .ok (.aload_n 0, 1) := by decide +kernel
theorem dX8_clearSpelled_6 : decode cX8_clearSpelled 6 = .ok (.getfield 97, 3) := by decide +kernel
theorem dX8_clearSpelled_9 : decode cX8_clearSpelled 9 = .ok (.istore_n 1, 1) := by decide +kernel
theorem dX8_clearSpelled_10 : decode cX8_clearSpelled 10 = .ok (.aload_n 0, 1) := by decide +kernel
theorem dX8_clearSpelled_11 : decode cX8_clearSpelled 11 = .ok (.iconst 0, 1) := by decide +kernel
theorem dX8_clearSpelled_12 : decode cX8_clearSpelled 12 = .ok (.putfield 97, 3) := by decide +kernel
theorem dX8_clearSpelled_15 : decode cX8_clearSpelled 15 = .ok (.iload_n 1, 1) := by decide +kernel
theorem dX8_clearSpelled_16 : decode cX8_clearSpelled 16 = .ok (.ireturn, 1) := by decide +kernel
theorem fl_RX8_29 : FL RX8 29 8 9 (tyX8 9) := ⟨RX8, TX8, 37, tyX8, rfl, by decide, lyX8, tyX8_ok, nmX8, rfl, Or.inl (tb16 (mem_i 14 rfl))⟩
theorem fl_RX8_32 : FL RX8 32 8 10 (tyX8 10) := ⟨RX8, TX8, 37, tyX8, rfl, by decide, lyX8, tyX8_ok, nmX8, rfl, Or.inl (tb16 (mem_i 15 rfl))⟩
theorem fl_RX8_91 : FL RX8 91 8 7 .int := ⟨RX8, TX8, 37, tyX8, rfl, by decide, lyX8, tyX8_ok, nmX8, rfl, Or.inl (tb16 (mem_i 12 rfl))⟩
theorem ml_RX8_104 : MS RX8 104 yX8_has 2 := ⟨⟨by decide +kernel, by decide +kernel, by decide +kernel⟩, tb20 (mem_i 1 rfl), tb0 (mem_i 9 rfl), Or.inl (tb20 (mem_i 0 rfl))⟩
theorem fl_RX8_26 : FL RX8 26 8 8 (tyX8 8) := ⟨RX8, TX8, 37, tyX8, rfl, by decide, lyX8, tyX8_ok, nmX8, rfl, Or.inl (tb16 (mem_i 13 rfl))⟩
theorem ml_RX8_108 : MS RX8 108 yX8_joins 2 := ⟨⟨by decide +kernel, by decide +kernel, by decide +kernel⟩, tb20 (mem_i 10 rfl), tb0 (mem_i 9 rfl), Or.inl (tb20 (mem_i 9 rfl))⟩
theorem fl_RX8_115 : FL RX8 115 8 27 .int := ⟨RX8, TX8, 37, tyX8, rfl, by decide, lyX8, tyX8_ok, nmX8, rfl, Or.inl (tb17 (mem_i 2 rfl))⟩
theorem fp_8_27 : FP 8 27 := fun C T N h => by cases h; rfl
theorem fl_RX8_111 : FL RX8 111 8 28 .boolean := ⟨RX8, TX8, 37, tyX8, rfl, by decide, lyX8, tyX8_ok, nmX8, rfl, Or.inl (tb17 (mem_i 3 rfl))⟩
theorem fp_8_28 : FP 8 28 := fun C T N h => by cases h; rfl
theorem fl_RX8_88 : FL RX8 88 8 2 .int := ⟨RX8, TX8, 37, tyX8, rfl, by decide, lyX8, tyX8_ok, nmX8, rfl, Or.inl (tb16 (mem_i 7 rfl))⟩
theorem fl_RX8_68 : FL RX8 68 8 26 (tyX8 26) := ⟨RX8, TX8, 37, tyX8, rfl, by decide, lyX8, tyX8_ok, nmX8, rfl, Or.inl (tb17 (mem_i 1 rfl))⟩
theorem ml_RX8_136 : MV RX8 136 8 yX8_shifts 3 := ⟨⟨by decide +kernel, by decide +kernel, by decide +kernel⟩, tb20 (mem_i 25 rfl), tb0 (mem_i 9 rfl), Or.inl (tb20 (mem_i 24 rfl)), RX8, TX8, 37, rfl, rfl, tb28 (mem_i 15 rfl)⟩
theorem ml_RX8_122 : MV RX8 122 8 yX8_partOf 3 := ⟨⟨by decide +kernel, by decide +kernel, by decide +kernel⟩, tb20 (mem_i 7 rfl), tb0 (mem_i 9 rfl), Or.inl (tb20 (mem_i 6 rfl)), RX8, TX8, 37, rfl, rfl, tb28 (mem_i 10 rfl)⟩
theorem fl_RX8_65 : FL RX8 65 8 24 (tyX8 24) := ⟨RX8, TX8, 37, tyX8, rfl, by decide, lyX8, tyX8_ok, nmX8, rfl, Or.inl (tb16 (mem_i 29 rfl))⟩
theorem fl_RX8_62 : FL RX8 62 8 23 (tyX8 23) := ⟨RX8, TX8, 37, tyX8, rfl, by decide, lyX8, tyX8_ok, nmX8, rfl, Or.inl (tb16 (mem_i 28 rfl))⟩
theorem ml_RX8_118 : MV RX8 118 8 yX8_stepOf 2 := ⟨⟨by decide +kernel, by decide +kernel, by decide +kernel⟩, tb20 (mem_i 22 rfl), tb0 (mem_i 9 rfl), Or.inl (tb20 (mem_i 21 rfl)), RX8, TX8, 37, rfl, rfl, tb28 (mem_i 14 rfl)⟩
theorem fl_RX8_13 : FL RX8 13 8 3 (tyX8 3) := ⟨RX8, TX8, 37, tyX8, rfl, by decide, lyX8, tyX8_ok, nmX8, rfl, Or.inl (tb16 (mem_i 8 rfl))⟩
theorem ml_RX8_130 : MV RX8 130 8 yX8_sizes 3 := ⟨⟨by decide +kernel, by decide +kernel, by decide +kernel⟩, tb20 (mem_i 13 rfl), tb0 (mem_i 9 rfl), Or.inl (tb20 (mem_i 12 rfl)), RX8, TX8, 37, rfl, rfl, tb28 (mem_i 11 rfl)⟩
theorem ml_RX8_126 : MV RX8 126 8 yX8_settlesPart 3 := ⟨⟨by decide +kernel, by decide +kernel, by decide +kernel⟩, tb20 (mem_i 19 rfl), tb0 (mem_i 9 rfl), Or.inl (tb20 (mem_i 18 rfl)), RX8, TX8, 37, rfl, rfl, tb28 (mem_i 13 rfl)⟩
theorem ml_RX8_133 : MV RX8 133 8 yX8_settles 3 := ⟨⟨by decide +kernel, by decide +kernel, by decide +kernel⟩, tb20 (mem_i 16 rfl), tb0 (mem_i 9 rfl), Or.inl (tb20 (mem_i 15 rfl)), RX8, TX8, 37, rfl, rfl, tb28 (mem_i 12 rfl)⟩
theorem fl_RX8_97 : FL RX8 97 8 0 .int := ⟨RX8, TX8, 37, tyX8, rfl, by decide, lyX8, tyX8_ok, nmX8, rfl, Or.inl (tb16 (mem_i 5 rfl))⟩
theorem fl_RX8_7 : FL RX8 7 8 1 (tyX8 1) := ⟨RX8, TX8, 37, tyX8, rfl, by decide, lyX8, tyX8_ok, nmX8, rfl, Or.inl (tb16 (mem_i 6 rfl))⟩
theorem fl_RX8_80 : FL RX8 80 8 36 .int := ⟨RX8, TX8, 37, tyX8, rfl, by decide, lyX8, tyX8_ok, nmX8, rfl, Or.inl (tb17 (mem_i 11 rfl))⟩
theorem fp_8_36 : FP 8 36 := fun C T N h => by cases h; rfl
theorem ml_RX8_100 : MV RX8 100 8 yX8_can 1 := ⟨⟨by decide +kernel, by decide +kernel, by decide +kernel⟩, tb19 (mem_i 2 rfl), tb0 (mem_i 9 rfl), Or.inl (tb19 (mem_i 1 rfl)), RX8, TX8, 37, rfl, rfl, tb28 (mem_i 5 rfl)⟩
theorem fp_8_0 : FP 8 0 := fun C T N h => by cases h; rfl
theorem ml_RX8_84 : MS RX8 84 yX8_isIn 3 := ⟨⟨by decide +kernel, by decide +kernel, by decide +kernel⟩, tb18 (mem_i 29 rfl), tb0 (mem_i 9 rfl), Or.inl (tb18 (mem_i 28 rfl))⟩
def f_X8_has_b14 (p0 : Int32) (p1 : Int32)  (S : HS) (t0 : Int32) : Option (Int32) :=
if nz t0 = true then some t0 else none
def f_X8_has (p0 : Int32) (p1 : Int32) (S : HS) : Option (Int32) :=
if ((p0 >>> (p1 &&& 31)) &&& (1 : Int32)) = (1 : Int32) then
f_X8_has_b14 p0 p1  S (1 : Int32)
else
f_X8_has_b14 p0 p1  S (0 : Int32)
def rm_X8_has : Room := { frames := 0, cells := 0, slots := 0, locals := 0 }
set_option maxRecDepth 100000 in
set_option maxHeartbeats 4000000 in
theorem c_X8_has (l : Launch) (p0 : Int32) (p1 : Int32)  (S : HS) (out : Int32) (h : f_X8_has p0 p1 S = some out) : Ct l yX8_has cX8_has 2 (some .boolean) rm_X8_has [vI p0, vI p1] S (some (vI out)) S := by
  refine Ct.intro (own := RX8) (lv := [(0, vI p0), (1, vI p1)]) (by decide +kernel) rfl ⟨rfl, rfl⟩ rfl (Nat.le_of_ble_eq_true rfl) ?_
  intro G hG hR
  revert h
  have hb14 : ∀ (t0 : Int32), f_X8_has_b14 p0 p1 S t0 = some out → G 0 0 S [] 14 [vI t0] := by
    intro t0
    unfold f_X8_has_b14
    exact s_rzP hR dX8_has_14
  unfold f_X8_has
  refine s_iload_n hG dX8_has_0 rfl ?_
  refine s_iload_n hG dX8_has_1 rfl ?_
  refine s_ishr hG dX8_has_2 ?_
  refine s_iconst hG (v := (1 : Int32)) dX8_has_3 (by decide) ?_
  refine s_iand hG dX8_has_4 ?_
  refine s_iconst hG (v := (1 : Int32)) dX8_has_5 (by decide) ?_
  refine s_icmp_ne hG (tgt := 13) dX8_has_6 (by decide) ?_ ?_
  · refine s_iconst hG (v := (0 : Int32)) dX8_has_13 (by decide) ?_
    refine s_lv hG [] rfl ?_
    exact hb14 _
  · refine s_iconst hG (v := (1 : Int32)) dX8_has_9 (by decide) ?_
    refine s_goto hG (tgt := 14) dX8_has_10 (by decide) ?_
    refine s_lv hG [] rfl ?_
    exact hb14 _

def f_X8_joins_b74 (p0 : Int32) (p1 : Int32)  (S : HS) (t0 : Int32) : Option (Int32) :=
if nz t0 = true then some t0 else none
def f_X8_joins_b66 (p0 : Int32) (p1 : Int32)  (S : HS) (t0 : Int32) (t1 : Int32) : Option (Int32) :=
if t0 = t1 then
f_X8_joins_b74 p0 p1  S (1 : Int32)
else
f_X8_joins_b74 p0 p1  S (0 : Int32)
def f_X8_joins_b47 (p0 : Int32) (p1 : Int32)  (S : HS)  : Option (Int32) :=
f_X8_joins_b74 p0 p1  S (1 : Int32)
def f_X8_joins_b25 (p0 : Int32) (p1 : Int32)  (S : HS) (t0 : Int32) : Option (Int32) :=
if nz t0 = true then some t0 else none
def f_X8_joins_b20 (p0 : Int32) (p1 : Int32)  (S : HS)  : Option (Int32) :=
f_X8_joins_b25 p0 p1  S (1 : Int32)
def f_X8_joins (p0 : Int32) (p1 : Int32) (S : HS) : Option (Int32) :=
if p1 = 0 then
if p0 = (2 : Int32) then
f_X8_joins_b20 p0 p1  S
else
if p0 = (3 : Int32) then
f_X8_joins_b20 p0 p1  S
else
if p0 = (6 : Int32) then
f_X8_joins_b20 p0 p1  S
else
f_X8_joins_b25 p0 p1  S (0 : Int32)
else
if p1 = (1 : Int32) then
if p0 = (4 : Int32) then
f_X8_joins_b47 p0 p1  S
else
if p0 = (5 : Int32) then
f_X8_joins_b47 p0 p1  S
else
if p0 = (6 : Int32) then
f_X8_joins_b47 p0 p1  S
else
f_X8_joins_b74 p0 p1  S (0 : Int32)
else
if p1 = (2 : Int32) then
f_X8_joins_b66 p0 p1  S p0 (0 : Int32)
else
f_X8_joins_b66 p0 p1  S p0 (1 : Int32)
def rm_X8_joins : Room := { frames := 0, cells := 0, slots := 0, locals := 0 }
set_option maxRecDepth 100000 in
set_option maxHeartbeats 4000000 in
theorem c_X8_joins (l : Launch) (p0 : Int32) (p1 : Int32)  (S : HS) (out : Int32) (h : f_X8_joins p0 p1 S = some out) : Ct l yX8_joins cX8_joins 2 (some .boolean) rm_X8_joins [vI p0, vI p1] S (some (vI out)) S := by
  refine Ct.intro (own := RX8) (lv := [(0, vI p0), (1, vI p1)]) (by decide +kernel) rfl ⟨rfl, rfl⟩ rfl (Nat.le_of_ble_eq_true rfl) ?_
  intro G hG hR
  revert h
  have hb74 : ∀ (t0 : Int32), f_X8_joins_b74 p0 p1 S t0 = some out → G 0 0 S [] 74 [vI t0] := by
    intro t0
    unfold f_X8_joins_b74
    exact s_rzP hR dX8_joins_74
  have hb66 : ∀ (t0 : Int32) (t1 : Int32), f_X8_joins_b66 p0 p1 S t0 t1 = some out → G 0 0 S [] 66 [vI t1, vI t0] := by
    intro t0 t1
    unfold f_X8_joins_b66
    refine s_icmp_ne hG (tgt := 73) dX8_joins_66 (by decide) ?_ ?_
    · refine s_iconst hG (v := (0 : Int32)) dX8_joins_73 (by decide) ?_
      exact hb74 _
    · refine s_iconst hG (v := (1 : Int32)) dX8_joins_69 (by decide) ?_
      refine s_goto hG (tgt := 74) dX8_joins_70 (by decide) ?_
      exact hb74 _
  have hb47 :  f_X8_joins_b47 p0 p1 S  = some out → G 0 0 S [] 47 [] := by
    skip
    unfold f_X8_joins_b47
    refine s_iconst hG (v := (1 : Int32)) dX8_joins_47 (by decide) ?_
    refine s_goto hG (tgt := 74) dX8_joins_48 (by decide) ?_
    exact hb74 _
  have hb25 : ∀ (t0 : Int32), f_X8_joins_b25 p0 p1 S t0 = some out → G 0 0 S [] 25 [vI t0] := by
    intro t0
    unfold f_X8_joins_b25
    exact s_rzP hR dX8_joins_25
  have hb20 :  f_X8_joins_b20 p0 p1 S  = some out → G 0 0 S [] 20 [] := by
    skip
    unfold f_X8_joins_b20
    refine s_iconst hG (v := (1 : Int32)) dX8_joins_20 (by decide) ?_
    refine s_goto hG (tgt := 25) dX8_joins_21 (by decide) ?_
    exact hb25 _
  unfold f_X8_joins
  refine s_iload_n hG dX8_joins_0 rfl ?_
  refine s_if_ne hG (tgt := 26) dX8_joins_1 (by decide) ?_ ?_
  · refine s_iload_n hG dX8_joins_26 rfl ?_
    refine s_iconst hG (v := (1 : Int32)) dX8_joins_27 (by decide) ?_
    refine s_icmp_ne hG (tgt := 55) dX8_joins_28 (by decide) ?_ ?_
    · refine s_iload_n hG dX8_joins_55 rfl ?_
      refine s_iload_n hG dX8_joins_56 rfl ?_
      refine s_iconst hG (v := (2 : Int32)) dX8_joins_57 (by decide) ?_
      refine s_icmp_ne hG (tgt := 65) dX8_joins_58 (by decide) ?_ ?_
      · refine s_iconst hG (v := (1 : Int32)) dX8_joins_65 (by decide) ?_
        refine s_lv hG [] rfl ?_
        exact hb66 _ _
      · refine s_iconst hG (v := (0 : Int32)) dX8_joins_61 (by decide) ?_
        refine s_goto hG (tgt := 66) dX8_joins_62 (by decide) ?_
        refine s_lv hG [] rfl ?_
        exact hb66 _ _
    · refine s_iload_n hG dX8_joins_31 rfl ?_
      refine s_iconst hG (v := (4 : Int32)) dX8_joins_32 (by decide) ?_
      refine s_icmp_eq hG (tgt := 47) dX8_joins_33 (by decide) ?_ ?_
      · refine s_lv hG [] rfl ?_
        exact hb47 
      · refine s_iload_n hG dX8_joins_36 rfl ?_
        refine s_iconst hG (v := (5 : Int32)) dX8_joins_37 (by decide) ?_
        refine s_icmp_eq hG (tgt := 47) dX8_joins_38 (by decide) ?_ ?_
        · refine s_lv hG [] rfl ?_
          exact hb47 
        · refine s_iload_n hG dX8_joins_41 rfl ?_
          refine s_bipush hG (v := (6 : Int32)) dX8_joins_42 (by decide) ?_
          refine s_icmp_ne hG (tgt := 51) dX8_joins_44 (by decide) ?_ ?_
          · refine s_iconst hG (v := (0 : Int32)) dX8_joins_51 (by decide) ?_
            refine s_goto hG (tgt := 74) dX8_joins_52 (by decide) ?_
            refine s_lv hG [] rfl ?_
            exact hb74 _
          · refine s_lv hG [] rfl ?_
            exact hb47 
  · refine s_iload_n hG dX8_joins_4 rfl ?_
    refine s_iconst hG (v := (2 : Int32)) dX8_joins_5 (by decide) ?_
    refine s_icmp_eq hG (tgt := 20) dX8_joins_6 (by decide) ?_ ?_
    · refine s_lv hG [] rfl ?_
      exact hb20 
    · refine s_iload_n hG dX8_joins_9 rfl ?_
      refine s_iconst hG (v := (3 : Int32)) dX8_joins_10 (by decide) ?_
      refine s_icmp_eq hG (tgt := 20) dX8_joins_11 (by decide) ?_ ?_
      · refine s_lv hG [] rfl ?_
        exact hb20 
      · refine s_iload_n hG dX8_joins_14 rfl ?_
        refine s_bipush hG (v := (6 : Int32)) dX8_joins_15 (by decide) ?_
        refine s_icmp_ne hG (tgt := 24) dX8_joins_17 (by decide) ?_ ?_
        · refine s_iconst hG (v := (0 : Int32)) dX8_joins_24 (by decide) ?_
          refine s_lv hG [] rfl ?_
          exact hb25 _
        · refine s_lv hG [] rfl ?_
          exact hb20 

def f_X8_partOf_b108 (p1 : Int32) (p2 : Int32) (p3 : Int32) (rec8 : Int32 × Int32 → Option (Int32)) (rec22 : Int32 × Int32 × Int32 → Option (Int32)) (S : HS) (x4 : Int32) (x5 : Int32) (x6 : Int32) : Option (Int32) :=
rec22 (x4, x5, (x6 + (1 : Int32)))
def f_X8_partOf_b84 (p1 : Int32) (p2 : Int32) (p3 : Int32) (rec8 : Int32 × Int32 → Option (Int32)) (rec22 : Int32 × Int32 × Int32 → Option (Int32)) (S : HS) (x4 : Int32) (x5 : Int32) (x6 : Int32) : Option (Int32) :=
if ib x6 (12) = true then
if ib x6 (12) = true then
f_X8_partOf_b108 p1 p2 p3 rec8 rec22 S (x4 ||| (((1 : Int32) <<< ((S.1 43 x6.toNatClampNeg) &&& 31)) ||| ((1 : Int32) <<< ((S.1 44 x6.toNatClampNeg) &&& 31)))) x5 x6
else none
else none
def F_X8_partOf_b22 (p1 : Int32) (p2 : Int32) (p3 : Int32) (rec8 : Int32 × Int32 → Option (Int32)) (S : HS) (rec22 : Int32 × Int32 × Int32 → Option (Int32)) : Int32 × Int32 × Int32 → Option (Int32) := fun q => match q with
  | (x4, x5, x6) =>
    if (S.1 36 7) ≤ x6 then
    rec8 (x4, x5)
    else
    (f_X8_has p3 x6 S).bind (fun o34 =>
    if o34 = 0 then
    f_X8_partOf_b108 p1 p2 p3 rec8 rec22 S x4 x5 x6
    else
    if ib x6 (12) = true then
    (f_X8_joins (S.1 42 x6.toNatClampNeg) p2 S).bind (fun o48 =>
    if o48 = 0 then
    f_X8_partOf_b108 p1 p2 p3 rec8 rec22 S x4 x5 x6
    else
    if ib x6 (12) = true then
    (f_X8_has x4 (S.1 43 x6.toNatClampNeg) S).bind (fun o63 =>
    if o63 = 0 then
    if ib x6 (12) = true then
    (f_X8_has x4 (S.1 44 x6.toNatClampNeg) S).bind (fun o78 =>
    if o78 = 0 then
    f_X8_partOf_b108 p1 p2 p3 rec8 rec22 S x4 x5 x6
    else
    f_X8_partOf_b84 p1 p2 p3 rec8 rec22 S x4 x5 x6)
    else none
    else
    f_X8_partOf_b84 p1 p2 p3 rec8 rec22 S x4 x5 x6)
    else none)
    else none)
def f_X8_partOf_b22 (p1 : Int32) (p2 : Int32) (p3 : Int32) (rec8 : Int32 × Int32 → Option (Int32)) (S : HS) (x4 : Int32) (x5 : Int32) (x6 : Int32) : Option (Int32) := fx (F_X8_partOf_b22 p1 p2 p3 rec8 S) FU (x4, x5, x6)
def F_X8_partOf_b8 (p1 : Int32) (p2 : Int32) (p3 : Int32)  (S : HS) (rec8 : Int32 × Int32 → Option (Int32)) : Int32 × Int32 → Option (Int32) := fun q => match q with
  | (x4, x5) =>
    if x4 = x5 then
    some x4
    else
    f_X8_partOf_b22 p1 p2 p3 rec8 S x4 x4 (0 : Int32)
def f_X8_partOf_b8 (p1 : Int32) (p2 : Int32) (p3 : Int32)  (S : HS) (x4 : Int32) (x5 : Int32) : Option (Int32) := fx (F_X8_partOf_b8 p1 p2 p3 S) FU (x4, x5)
def f_X8_partOf (p1 : Int32) (p2 : Int32) (p3 : Int32) (S : HS) : Option (Int32) :=
f_X8_partOf_b8 p1 p2 p3  S ((1 : Int32) <<< (p1 &&& 31)) (0 : Int32)
def rm_X8_partOf : Room := { frames := 1, cells := 0, slots := 0, locals := 21 }
set_option maxRecDepth 100000 in
set_option maxHeartbeats 4000000 in
theorem c_X8_partOf (l : Launch) (p1 : Int32) (p2 : Int32) (p3 : Int32)  (S : HS) (out : Int32) (h : f_X8_partOf p1 p2 p3 S = some out) : Ct l yX8_partOf cX8_partOf 7 (some .int) rm_X8_partOf [vR 36, vI p1, vI p2, vI p3] S (some (vI out)) S := by
  refine Ct.intro (own := RX8) (lv := [(0, vR 36), (1, vI p1), (2, vI p2), (3, vI p3)]) (by decide +kernel) rfl ⟨rfl, rfl⟩ rfl (Nat.le_of_ble_eq_true rfl) ?_
  intro G hG hR
  revert h
  have hb108 : ∀ (rec8 : Int32 × Int32 → Option (Int32)) (hrec8 : ∀ (x4 : Int32) (x5 : Int32), rec8 (x4, x5) = some out → G 0 0 S [(0, vR 36), (2, vI p2), (3, vI p3), (4, vI x4), (5, vI x5)] 8 []) (rec22 : Int32 × Int32 × Int32 → Option (Int32)) (hrec22 : ∀ (x4 : Int32) (x5 : Int32) (x6 : Int32), rec22 (x4, x5, x6) = some out → G 0 0 S [(0, vR 36), (2, vI p2), (3, vI p3), (4, vI x4), (5, vI x5), (6, vI x6)] 22 []) (x4 : Int32) (x5 : Int32) (x6 : Int32), f_X8_partOf_b108 p1 p2 p3 rec8 rec22 S x4 x5 x6 = some out → G 0 0 S [(0, vR 36), (2, vI p2), (3, vI p3), (4, vI x4), (5, vI x5), (6, vI x6)] 108 [] := by
    intro rec8 hrec8 rec22 hrec22 x4 x5 x6
    unfold f_X8_partOf_b108
    refine s_iinc hG (v := (x6 + (1 : Int32))) (lv' := [(6, vI (x6 + (1 : Int32))), (0, vR 36), (2, vI p2), (3, vI p3), (4, vI x4), (5, vI x5)]) dX8_partOf_108 rfl rfl (by decide) rfl ?_
    refine s_goto hG (tgt := 22) dX8_partOf_111 (by decide) ?_
    refine s_lv hG [1, 2, 3, 4, 5, 0] rfl ?_
    exact hrec22 _ _ _
  have hb84 : ∀ (rec8 : Int32 × Int32 → Option (Int32)) (hrec8 : ∀ (x4 : Int32) (x5 : Int32), rec8 (x4, x5) = some out → G 0 0 S [(0, vR 36), (2, vI p2), (3, vI p3), (4, vI x4), (5, vI x5)] 8 []) (rec22 : Int32 × Int32 × Int32 → Option (Int32)) (hrec22 : ∀ (x4 : Int32) (x5 : Int32) (x6 : Int32), rec22 (x4, x5, x6) = some out → G 0 0 S [(0, vR 36), (2, vI p2), (3, vI p3), (4, vI x4), (5, vI x5), (6, vI x6)] 22 []) (x4 : Int32) (x5 : Int32) (x6 : Int32), f_X8_partOf_b84 p1 p2 p3 rec8 rec22 S x4 x5 x6 = some out → G 0 0 S [(0, vR 36), (2, vI p2), (3, vI p3), (4, vI x4), (5, vI x5), (6, vI x6)] 84 [] := by
    intro rec8 hrec8 rec22 hrec22 x4 x5 x6
    unfold f_X8_partOf_b84
    refine s_iload hG dX8_partOf_84 rfl ?_
    refine s_iconst hG (v := (1 : Int32)) dX8_partOf_86 (by decide) ?_
    refine s_aload_n hG dX8_partOf_87 rfl ?_
    refine s_getC hG dX8_partOf_88 fl_RX8_29 (rfl) ?_
    refine s_iload hG dX8_partOf_91 rfl ?_
    refine s_iaload hG dX8_partOf_93 (rfl) ?_
    refine s_ishl hG dX8_partOf_94 ?_
    refine s_iconst hG (v := (1 : Int32)) dX8_partOf_95 (by decide) ?_
    refine s_aload_n hG dX8_partOf_96 rfl ?_
    refine s_getC hG dX8_partOf_97 fl_RX8_32 (rfl) ?_
    refine s_iload hG dX8_partOf_100 rfl ?_
    refine s_iaload hG dX8_partOf_102 (rfl) ?_
    refine s_ishl hG dX8_partOf_103 ?_
    refine s_ior hG dX8_partOf_104 ?_
    refine s_ior hG dX8_partOf_105 ?_
    refine s_istore hG (lv' := [(4, vI (x4 ||| (((1 : Int32) <<< ((S.1 43 x6.toNatClampNeg) &&& 31)) ||| ((1 : Int32) <<< ((S.1 44 x6.toNatClampNeg) &&& 31))))), (0, vR 36), (2, vI p2), (3, vI p3), (5, vI x5), (6, vI x6)]) dX8_partOf_106 (by decide) rfl ?_
    refine s_lv hG [1, 2, 3, 0, 4, 5] rfl ?_
    exact hb108 _ hrec8 _ hrec22 _ _ _
  have hb22 : ∀ (rec8 : Int32 × Int32 → Option (Int32)) (hrec8 : ∀ (x4 : Int32) (x5 : Int32), rec8 (x4, x5) = some out → G 0 0 S [(0, vR 36), (2, vI p2), (3, vI p3), (4, vI x4), (5, vI x5)] 8 []) (x4 : Int32) (x5 : Int32) (x6 : Int32), f_X8_partOf_b22 p1 p2 p3 rec8 S x4 x5 x6 = some out → G 0 0 S [(0, vR 36), (2, vI p2), (3, vI p3), (4, vI x4), (5, vI x5), (6, vI x6)] 22 [] := by
    intro rec8 hrec8 x4 x5 x6
    unfold f_X8_partOf_b22
    generalize FU = nf
    revert x4 x5 x6
    induction nf with
    | zero => intro x4 x5 x6 h9; cases h9
    | succ nf hrec22 =>
      intro x4 x5 x6
      show F_X8_partOf_b22 p1 p2 p3 rec8 S (fx (F_X8_partOf_b22 p1 p2 p3 rec8 S) nf) (x4, x5, x6) = some out → _
      generalize fx (F_X8_partOf_b22 p1 p2 p3 rec8 S) nf = rec22 at hrec22
      unfold F_X8_partOf_b22
      dsimp only
      refine s_iload hG dX8_partOf_22 rfl ?_
      refine s_aload_n hG dX8_partOf_24 rfl ?_
      refine s_getI hG dX8_partOf_25 fl_RX8_91 (rfl) ?_
      refine s_icmp_ge hG (tgt := 114) dX8_partOf_28 (by decide) ?_ ?_
      · refine s_goto hG (tgt := 8) dX8_partOf_114 (by decide) ?_
        refine s_lv hG [0, 1, 2, 3, 4] rfl ?_
        exact hrec8 _ _
      · refine s_iload_n hG dX8_partOf_31 rfl ?_
        refine s_iload hG dX8_partOf_32 rfl ?_
        refine s_csP hG (as := [vI p3, vI x6]) (st := []) (rm := rm_X8_has) dX8_partOf_34 ml_RX8_104 (tb20 (mem_i 2 rfl)) rfl ⟨rfl, rfl⟩ ⟨by decide, by decide⟩ (Nat.le_of_ble_eq_true rfl) ⟨Nat.zero_le _, Nat.zero_le _⟩ rfl (fun o h => c_X8_has l _ _ _ o h) (fun o34 => ?_)
        refine s_if_eq hG (tgt := 108) dX8_partOf_37 (by decide) ?_ ?_
        · exact hb108 _ hrec8 _ hrec22 _ _ _
        · refine s_aload_n hG dX8_partOf_40 rfl ?_
          refine s_getC hG dX8_partOf_41 fl_RX8_26 (rfl) ?_
          refine s_iload hG dX8_partOf_44 rfl ?_
          refine s_iaload hG dX8_partOf_46 (rfl) ?_
          refine s_iload_n hG dX8_partOf_47 rfl ?_
          refine s_csP hG (as := [vI (S.1 42 x6.toNatClampNeg), vI p2]) (st := []) (rm := rm_X8_joins) dX8_partOf_48 ml_RX8_108 (tb20 (mem_i 11 rfl)) rfl ⟨rfl, rfl⟩ ⟨by decide, by decide⟩ (Nat.le_of_ble_eq_true rfl) ⟨Nat.zero_le _, Nat.zero_le _⟩ rfl (fun o h => c_X8_joins l _ _ _ o h) (fun o48 => ?_)
          refine s_if_eq hG (tgt := 108) dX8_partOf_51 (by decide) ?_ ?_
          · exact hb108 _ hrec8 _ hrec22 _ _ _
          · refine s_iload hG dX8_partOf_54 rfl ?_
            refine s_aload_n hG dX8_partOf_56 rfl ?_
            refine s_getC hG dX8_partOf_57 fl_RX8_29 (rfl) ?_
            refine s_iload hG dX8_partOf_60 rfl ?_
            refine s_iaload hG dX8_partOf_62 (rfl) ?_
            refine s_csP hG (as := [vI x4, vI (S.1 43 x6.toNatClampNeg)]) (st := []) (rm := rm_X8_has) dX8_partOf_63 ml_RX8_104 (tb20 (mem_i 2 rfl)) rfl ⟨rfl, rfl⟩ ⟨by decide, by decide⟩ (Nat.le_of_ble_eq_true rfl) ⟨Nat.zero_le _, Nat.zero_le _⟩ rfl (fun o h => c_X8_has l _ _ _ o h) (fun o63 => ?_)
            refine s_if_ne hG (tgt := 84) dX8_partOf_66 (by decide) ?_ ?_
            · exact hb84 _ hrec8 _ hrec22 _ _ _
            · refine s_iload hG dX8_partOf_69 rfl ?_
              refine s_aload_n hG dX8_partOf_71 rfl ?_
              refine s_getC hG dX8_partOf_72 fl_RX8_32 (rfl) ?_
              refine s_iload hG dX8_partOf_75 rfl ?_
              refine s_iaload hG dX8_partOf_77 (rfl) ?_
              refine s_csP hG (as := [vI x4, vI (S.1 44 x6.toNatClampNeg)]) (st := []) (rm := rm_X8_has) dX8_partOf_78 ml_RX8_104 (tb20 (mem_i 2 rfl)) rfl ⟨rfl, rfl⟩ ⟨by decide, by decide⟩ (Nat.le_of_ble_eq_true rfl) ⟨Nat.zero_le _, Nat.zero_le _⟩ rfl (fun o h => c_X8_has l _ _ _ o h) (fun o78 => ?_)
              refine s_if_eq hG (tgt := 108) dX8_partOf_81 (by decide) ?_ ?_
              · exact hb108 _ hrec8 _ hrec22 _ _ _
              · exact hb84 _ hrec8 _ hrec22 _ _ _
  have hb8 : ∀ (x4 : Int32) (x5 : Int32), f_X8_partOf_b8 p1 p2 p3 S x4 x5 = some out → G 0 0 S [(0, vR 36), (2, vI p2), (3, vI p3), (4, vI x4), (5, vI x5)] 8 [] := by
    intro  x4 x5
    unfold f_X8_partOf_b8
    generalize FU = nf
    revert x4 x5
    induction nf with
    | zero => intro x4 x5 h9; cases h9
    | succ nf hrec8 =>
      intro x4 x5
      show F_X8_partOf_b8 p1 p2 p3 S (fx (F_X8_partOf_b8 p1 p2 p3 S) nf) (x4, x5) = some out → _
      generalize fx (F_X8_partOf_b8 p1 p2 p3 S) nf = rec8 at hrec8
      unfold F_X8_partOf_b8
      dsimp only
      refine s_iload hG dX8_partOf_8 rfl ?_
      refine s_iload hG dX8_partOf_10 rfl ?_
      refine s_icmp_eq hG (tgt := 117) dX8_partOf_12 (by decide) ?_ ?_
      · refine s_iload hG dX8_partOf_117 rfl ?_
        exact s_riP hR dX8_partOf_119
      · refine s_iload hG dX8_partOf_15 rfl ?_
        refine s_istore hG (lv' := [(5, vI x4), (0, vR 36), (2, vI p2), (3, vI p3), (4, vI x4)]) dX8_partOf_17 (by decide) rfl ?_
        refine s_iconst hG (v := (0 : Int32)) dX8_partOf_19 (by decide) ?_
        refine s_istore hG (lv' := [(6, vI (0 : Int32)), (5, vI x4), (0, vR 36), (2, vI p2), (3, vI p3), (4, vI x4)]) dX8_partOf_20 (by decide) rfl ?_
        refine s_lv hG [2, 3, 4, 5, 1, 0] rfl ?_
        exact hb22 _ hrec8 _ _ _
  unfold f_X8_partOf
  refine s_iconst hG (v := (1 : Int32)) dX8_partOf_0 (by decide) ?_
  refine s_iload_n hG dX8_partOf_1 rfl ?_
  refine s_ishl hG dX8_partOf_2 ?_
  refine s_istore hG (lv' := [(4, vI ((1 : Int32) <<< (p1 &&& 31))), (0, vR 36), (1, vI p1), (2, vI p2), (3, vI p3)]) dX8_partOf_3 (by decide) rfl ?_
  refine s_iconst hG (v := (0 : Int32)) dX8_partOf_5 (by decide) ?_
  refine s_istore hG (lv' := [(5, vI (0 : Int32)), (4, vI ((1 : Int32) <<< (p1 &&& 31))), (0, vR 36), (1, vI p1), (2, vI p2), (3, vI p3)]) dX8_partOf_6 (by decide) rfl ?_
  refine s_lv hG [2, 4, 5, 1, 0] rfl ?_
  exact hb8 _ _

def f_X8_shifts_b38 (p1 : Int32) (p2 : Int32) (p3 : Int32) (rec3 : HS × Int32 → Option (HS)) (S : HS) (x4 : Int32) (t1 : Int32) (t2 : Int32) (t3 : Int32) : Option (HS) :=
if ib t1 (40) = true then
rec3 ((sI S 56 t1.toNatClampNeg (t2 + t3)), (x4 + (1 : Int32)))
else none
def F_X8_shifts_b3 (p1 : Int32) (p2 : Int32) (p3 : Int32)  (rec3 : HS × Int32 → Option (HS)) : HS × Int32 → Option (HS) := fun q => match q with
  | (S, x4) =>
    if (S.1 36 2) ≤ x4 then
    some S
    else
    if ib (((4 : Int32) * x4) + p2) (40) = true then
    (f_X8_has p1 x4 S).bind (fun o27 =>
    if o27 = 0 then
    f_X8_shifts_b38 p1 p2 p3 rec3 S x4 (((4 : Int32) * x4) + p2) (S.1 56 (((4 : Int32) * x4) + p2).toNatClampNeg) (0 : Int32)
    else
    f_X8_shifts_b38 p1 p2 p3 rec3 S x4 (((4 : Int32) * x4) + p2) (S.1 56 (((4 : Int32) * x4) + p2).toNatClampNeg) p3)
    else none
def f_X8_shifts_b3 (p1 : Int32) (p2 : Int32) (p3 : Int32)  (S : HS) (x4 : Int32) : Option (HS) := fx (F_X8_shifts_b3 p1 p2 p3) FU (S, x4)
def f_X8_shifts (p1 : Int32) (p2 : Int32) (p3 : Int32) (S : HS) : Option (HS) :=
f_X8_shifts_b3 p1 p2 p3  S (0 : Int32)
def rm_X8_shifts : Room := { frames := 1, cells := 0, slots := 0, locals := 21 }
set_option maxRecDepth 100000 in
set_option maxHeartbeats 4000000 in
theorem c_X8_shifts (l : Launch) (p1 : Int32) (p2 : Int32) (p3 : Int32)  (S : HS) (out : HS) (h : f_X8_shifts p1 p2 p3 S = some out) : Ct l yX8_shifts cX8_shifts 5 none rm_X8_shifts [vR 36, vI p1, vI p2, vI p3] S none out := by
  refine Ct.intro (own := RX8) (lv := [(0, vR 36), (1, vI p1), (2, vI p2), (3, vI p3)]) (by decide +kernel) rfl ⟨rfl, rfl⟩ rfl (Nat.le_of_ble_eq_true rfl) ?_
  intro G hG hR
  revert h
  have hb38 : ∀ (rec3 : HS × Int32 → Option (HS)) (hrec3 : ∀ (S : HS) (x4 : Int32), rec3 (S, x4) = some out → G 0 0 S [(0, vR 36), (1, vI p1), (2, vI p2), (3, vI p3), (4, vI x4)] 3 []) (S : HS) (x4 : Int32) (t1 : Int32) (t2 : Int32) (t3 : Int32), f_X8_shifts_b38 p1 p2 p3 rec3 S x4 t1 t2 t3 = some out → G 0 0 S [(0, vR 36), (1, vI p1), (2, vI p2), (3, vI p3), (4, vI x4)] 38 [vI t3, vI t2, vI t1, vR 56] := by
    intro rec3 hrec3 S x4 t1 t2 t3
    unfold f_X8_shifts_b38
    refine s_iadd hG dX8_shifts_38 ?_
    refine s_iastore hG dX8_shifts_39 (rfl) ?_
    refine s_iinc hG (v := (x4 + (1 : Int32))) (lv' := [(4, vI (x4 + (1 : Int32))), (0, vR 36), (1, vI p1), (2, vI p2), (3, vI p3)]) dX8_shifts_40 rfl rfl (by decide) rfl ?_
    refine s_goto hG (tgt := 3) dX8_shifts_43 (by decide) ?_
    refine s_lv hG [1, 2, 3, 4, 0] rfl ?_
    exact hrec3 _ _
  have hb3 : ∀ (S : HS) (x4 : Int32), f_X8_shifts_b3 p1 p2 p3 S x4 = some out → G 0 0 S [(0, vR 36), (1, vI p1), (2, vI p2), (3, vI p3), (4, vI x4)] 3 [] := by
    intro  S x4
    unfold f_X8_shifts_b3
    generalize FU = nf
    revert S x4
    induction nf with
    | zero => intro S x4 h9; cases h9
    | succ nf hrec3 =>
      intro S x4
      show F_X8_shifts_b3 p1 p2 p3 (fx (F_X8_shifts_b3 p1 p2 p3) nf) (S, x4) = some out → _
      generalize fx (F_X8_shifts_b3 p1 p2 p3) nf = rec3 at hrec3
      unfold F_X8_shifts_b3
      dsimp only
      refine s_iload hG dX8_shifts_3 rfl ?_
      refine s_aload_n hG dX8_shifts_5 rfl ?_
      refine s_getI hG dX8_shifts_6 fl_RX8_88 (rfl) ?_
      refine s_icmp_ge hG (tgt := 46) dX8_shifts_9 (by decide) ?_ ?_
      · exact s_rvC hR dX8_shifts_46
      · refine s_aload_n hG dX8_shifts_12 rfl ?_
        refine s_getC hG dX8_shifts_13 fl_RX8_68 (rfl) ?_
        refine s_iconst hG (v := (4 : Int32)) dX8_shifts_16 (by decide) ?_
        refine s_iload hG dX8_shifts_17 rfl ?_
        refine s_imul hG dX8_shifts_19 ?_
        refine s_iload_n hG dX8_shifts_20 rfl ?_
        refine s_iadd hG dX8_shifts_21 ?_
        refine s_dup2 hG dX8_shifts_22 rfl rfl ?_
        refine s_iaload hG dX8_shifts_23 (rfl) ?_
        refine s_iload_n hG dX8_shifts_24 rfl ?_
        refine s_iload hG dX8_shifts_25 rfl ?_
        refine s_csP hG (as := [vI p1, vI x4]) (st := [vI (S.1 56 (((4 : Int32) * x4) + p2).toNatClampNeg), vI (((4 : Int32) * x4) + p2), vR 56]) (rm := rm_X8_has) dX8_shifts_27 ml_RX8_104 (tb20 (mem_i 2 rfl)) rfl ⟨rfl, rfl⟩ ⟨by decide, by decide⟩ (Nat.le_of_ble_eq_true rfl) ⟨Nat.zero_le _, Nat.zero_le _⟩ rfl (fun o h => c_X8_has l _ _ _ o h) (fun o27 => ?_)
        refine s_if_eq hG (tgt := 37) dX8_shifts_30 (by decide) ?_ ?_
        · refine s_iconst hG (v := (0 : Int32)) dX8_shifts_37 (by decide) ?_
          exact hb38 _ hrec3 _ _ _ _ _
        · refine s_iload_n hG dX8_shifts_33 rfl ?_
          refine s_goto hG (tgt := 38) dX8_shifts_34 (by decide) ?_
          exact hb38 _ hrec3 _ _ _ _ _
  unfold f_X8_shifts
  refine s_iconst hG (v := (0 : Int32)) dX8_shifts_0 (by decide) ?_
  refine s_istore hG (lv' := [(4, vI (0 : Int32)), (0, vR 36), (1, vI p1), (2, vI p2), (3, vI p3)]) dX8_shifts_1 (by decide) rfl ?_
  refine s_lv hG [1, 2, 3, 4, 0] rfl ?_
  exact hb3 _ _

def f_X8_stepOf_b72 (p1 : Int32) (p2 : Int32)  (S : HS) (t0 : Int32) : Option (Int32) :=
some t0
def f_X8_stepOf_b51 (p1 : Int32) (p2 : Int32)  (S : HS)  : Option (Int32) :=
if ib p1 (12) = true then
if ib ((((4 : Int32) * (S.1 43 p1.toNatClampNeg)) + (2 : Int32)) + p2) (40) = true then
f_X8_stepOf_b72 p1 p2  S (S.1 56 ((((4 : Int32) * (S.1 43 p1.toNatClampNeg)) + (2 : Int32)) + p2).toNatClampNeg)
else none
else none
def f_X8_stepOf_b30 (p1 : Int32) (p2 : Int32)  (S : HS) (t0 : Int32) : Option (Int32) :=
some t0
def f_X8_stepOf (p1 : Int32) (p2 : Int32) (S : HS) : Option (Int32) :=
if ib p1 (12) = true then
if (S.1 42 p1.toNatClampNeg) = (6 : Int32) then
if p2 = 0 then
if ib p1 (12) = true then
f_X8_stepOf_b30 p1 p2  S (S.1 54 p1.toNatClampNeg)
else none
else
if ib p1 (12) = true then
f_X8_stepOf_b30 p1 p2  S (S.1 55 p1.toNatClampNeg)
else none
else
if ib p1 (12) = true then
if (S.1 42 p1.toNatClampNeg) = (2 : Int32) then
f_X8_stepOf_b51 p1 p2  S
else
if ib p1 (12) = true then
if (S.1 42 p1.toNatClampNeg) = (4 : Int32) then
f_X8_stepOf_b51 p1 p2  S
else
f_X8_stepOf_b72 p1 p2  S (0 : Int32)
else none
else none
else none
def rm_X8_stepOf : Room := { frames := 0, cells := 0, slots := 0, locals := 0 }
set_option maxRecDepth 100000 in
set_option maxHeartbeats 4000000 in
theorem c_X8_stepOf (l : Launch) (p1 : Int32) (p2 : Int32)  (S : HS) (out : Int32) (h : f_X8_stepOf p1 p2 S = some out) : Ct l yX8_stepOf cX8_stepOf 3 (some .int) rm_X8_stepOf [vR 36, vI p1, vI p2] S (some (vI out)) S := by
  refine Ct.intro (own := RX8) (lv := [(0, vR 36), (1, vI p1), (2, vI p2)]) (by decide +kernel) rfl ⟨rfl, rfl⟩ rfl (Nat.le_of_ble_eq_true rfl) ?_
  intro G hG hR
  revert h
  have hb72 : ∀ (t0 : Int32), f_X8_stepOf_b72 p1 p2 S t0 = some out → G 0 0 S [] 72 [vI t0] := by
    intro t0
    unfold f_X8_stepOf_b72
    exact s_riP hR dX8_stepOf_72
  have hb51 :  f_X8_stepOf_b51 p1 p2 S  = some out → G 0 0 S [(0, vR 36), (1, vI p1), (2, vI p2)] 51 [] := by
    skip
    unfold f_X8_stepOf_b51
    refine s_aload_n hG dX8_stepOf_51 rfl ?_
    refine s_getC hG dX8_stepOf_52 fl_RX8_68 (rfl) ?_
    refine s_iconst hG (v := (4 : Int32)) dX8_stepOf_55 (by decide) ?_
    refine s_aload_n hG dX8_stepOf_56 rfl ?_
    refine s_getC hG dX8_stepOf_57 fl_RX8_29 (rfl) ?_
    refine s_iload_n hG dX8_stepOf_60 rfl ?_
    refine s_iaload hG dX8_stepOf_61 (rfl) ?_
    refine s_imul hG dX8_stepOf_62 ?_
    refine s_iconst hG (v := (2 : Int32)) dX8_stepOf_63 (by decide) ?_
    refine s_iadd hG dX8_stepOf_64 ?_
    refine s_iload_n hG dX8_stepOf_65 rfl ?_
    refine s_iadd hG dX8_stepOf_66 ?_
    refine s_iaload hG dX8_stepOf_67 (rfl) ?_
    refine s_goto hG (tgt := 72) dX8_stepOf_68 (by decide) ?_
    refine s_lv hG [] rfl ?_
    exact hb72 _
  have hb30 : ∀ (t0 : Int32), f_X8_stepOf_b30 p1 p2 S t0 = some out → G 0 0 S [] 30 [vI t0] := by
    intro t0
    unfold f_X8_stepOf_b30
    exact s_riP hR dX8_stepOf_30
  unfold f_X8_stepOf
  refine s_aload_n hG dX8_stepOf_0 rfl ?_
  refine s_getC hG dX8_stepOf_1 fl_RX8_26 (rfl) ?_
  refine s_iload_n hG dX8_stepOf_4 rfl ?_
  refine s_iaload hG dX8_stepOf_5 (rfl) ?_
  refine s_bipush hG (v := (6 : Int32)) dX8_stepOf_6 (by decide) ?_
  refine s_icmp_ne hG (tgt := 31) dX8_stepOf_8 (by decide) ?_ ?_
  · refine s_aload_n hG dX8_stepOf_31 rfl ?_
    refine s_getC hG dX8_stepOf_32 fl_RX8_26 (rfl) ?_
    refine s_iload_n hG dX8_stepOf_35 rfl ?_
    refine s_iaload hG dX8_stepOf_36 (rfl) ?_
    refine s_iconst hG (v := (2 : Int32)) dX8_stepOf_37 (by decide) ?_
    refine s_icmp_eq hG (tgt := 51) dX8_stepOf_38 (by decide) ?_ ?_
    · exact hb51 
    · refine s_aload_n hG dX8_stepOf_41 rfl ?_
      refine s_getC hG dX8_stepOf_42 fl_RX8_26 (rfl) ?_
      refine s_iload_n hG dX8_stepOf_45 rfl ?_
      refine s_iaload hG dX8_stepOf_46 (rfl) ?_
      refine s_iconst hG (v := (4 : Int32)) dX8_stepOf_47 (by decide) ?_
      refine s_icmp_ne hG (tgt := 71) dX8_stepOf_48 (by decide) ?_ ?_
      · refine s_iconst hG (v := (0 : Int32)) dX8_stepOf_71 (by decide) ?_
        refine s_lv hG [] rfl ?_
        exact hb72 _
      · exact hb51 
  · refine s_iload_n hG dX8_stepOf_11 rfl ?_
    refine s_if_ne hG (tgt := 24) dX8_stepOf_12 (by decide) ?_ ?_
    · refine s_aload_n hG dX8_stepOf_24 rfl ?_
      refine s_getC hG dX8_stepOf_25 fl_RX8_65 (rfl) ?_
      refine s_iload_n hG dX8_stepOf_28 rfl ?_
      refine s_iaload hG dX8_stepOf_29 (rfl) ?_
      refine s_lv hG [] rfl ?_
      exact hb30 _
    · refine s_aload_n hG dX8_stepOf_15 rfl ?_
      refine s_getC hG dX8_stepOf_16 fl_RX8_62 (rfl) ?_
      refine s_iload_n hG dX8_stepOf_19 rfl ?_
      refine s_iaload hG dX8_stepOf_20 (rfl) ?_
      refine s_goto hG (tgt := 30) dX8_stepOf_21 (by decide) ?_
      refine s_lv hG [] rfl ?_
      exact hb30 _

def f_X8_sizes_b86 (p1 : Int32) (p2 : Int32) (p3 : Int32) (rec6 : HS × Int32 × Int32 → Option (HS × Int32)) (S : HS) (x4 : Int32) (x5 : Int32) : Option (HS × Int32) :=
rec6 (S, x4, (x5 + (1 : Int32)))
def f_X8_sizes_b62 (p1 : Int32) (p2 : Int32) (p3 : Int32) (rec6 : HS × Int32 × Int32 → Option (HS × Int32)) (S : HS) (x4 : Int32) (x5 : Int32) (t1 : Int32) : Option (HS × Int32) :=
if nz t1 = true then
if ib (((4 : Int32) * x5) + p2) (40) = true then
f_X8_sizes_b86 p1 p2 p3 rec6 (sI (sI S 36 28 t1) 56 (((4 : Int32) * x5) + p2).toNatClampNeg p3) (x4 ||| ((1 : Int32) <<< (x5 &&& 31))) x5
else none
else none
def f_X8_sizes_b57 (p1 : Int32) (p2 : Int32) (p3 : Int32) (rec6 : HS × Int32 × Int32 → Option (HS × Int32)) (S : HS) (x4 : Int32) (x5 : Int32) : Option (HS × Int32) :=
f_X8_sizes_b62 p1 p2 p3 rec6 S x4 x5 (1 : Int32)
def F_X8_sizes_b6 (p1 : Int32) (p2 : Int32) (p3 : Int32)  (rec6 : HS × Int32 × Int32 → Option (HS × Int32)) : HS × Int32 × Int32 → Option (HS × Int32) := fun q => match q with
  | (S, x4, x5) =>
    if (S.1 36 2) ≤ x5 then
    some (S, x4)
    else
    (f_X8_has p1 x5 S).bind (fun o18 =>
    if o18 = 0 then
    f_X8_sizes_b86 p1 p2 p3 rec6 S x4 x5
    else
    if ib (((4 : Int32) * x5) + p2) (40) = true then
    if (S.1 56 (((4 : Int32) * x5) + p2).toNatClampNeg) = p3 then
    f_X8_sizes_b86 p1 p2 p3 rec6 S x4 x5
    else
    if (S.1 36 28) = 0 then
    if ib x5 (10) = true then
    if (S.1 38 x5.toNatClampNeg) = 0 then
    f_X8_sizes_b62 p1 p2 p3 rec6 S x4 x5 (0 : Int32)
    else
    f_X8_sizes_b57 p1 p2 p3 rec6 S x4 x5
    else none
    else
    f_X8_sizes_b57 p1 p2 p3 rec6 S x4 x5
    else none)
def f_X8_sizes_b6 (p1 : Int32) (p2 : Int32) (p3 : Int32)  (S : HS) (x4 : Int32) (x5 : Int32) : Option (HS × Int32) := fx (F_X8_sizes_b6 p1 p2 p3) FU (S, x4, x5)
def f_X8_sizes (p1 : Int32) (p2 : Int32) (p3 : Int32) (S : HS) : Option (HS × Int32) :=
f_X8_sizes_b6 p1 p2 p3  S (0 : Int32) (0 : Int32)
def rm_X8_sizes : Room := { frames := 1, cells := 0, slots := 0, locals := 21 }
set_option maxRecDepth 100000 in
set_option maxHeartbeats 4000000 in
theorem c_X8_sizes (l : Launch) (p1 : Int32) (p2 : Int32) (p3 : Int32)  (S : HS) (out : HS × Int32) (h : f_X8_sizes p1 p2 p3 S = some out) : Ct l yX8_sizes cX8_sizes 6 (some .int) rm_X8_sizes [vR 36, vI p1, vI p2, vI p3] S (some (vI out.2)) out.1 := by
  refine Ct.intro (own := RX8) (lv := [(0, vR 36), (1, vI p1), (2, vI p2), (3, vI p3)]) (by decide +kernel) rfl ⟨rfl, rfl⟩ rfl (Nat.le_of_ble_eq_true rfl) ?_
  intro G hG hR
  revert h
  have hb86 : ∀ (rec6 : HS × Int32 × Int32 → Option (HS × Int32)) (hrec6 : ∀ (S : HS) (x4 : Int32) (x5 : Int32), rec6 (S, x4, x5) = some out → G 0 0 S [(0, vR 36), (1, vI p1), (2, vI p2), (3, vI p3), (4, vI x4), (5, vI x5)] 6 []) (S : HS) (x4 : Int32) (x5 : Int32), f_X8_sizes_b86 p1 p2 p3 rec6 S x4 x5 = some out → G 0 0 S [(0, vR 36), (1, vI p1), (2, vI p2), (3, vI p3), (4, vI x4), (5, vI x5)] 86 [] := by
    intro rec6 hrec6 S x4 x5
    unfold f_X8_sizes_b86
    refine s_iinc hG (v := (x5 + (1 : Int32))) (lv' := [(5, vI (x5 + (1 : Int32))), (0, vR 36), (1, vI p1), (2, vI p2), (3, vI p3), (4, vI x4)]) dX8_sizes_86 rfl rfl (by decide) rfl ?_
    refine s_goto hG (tgt := 6) dX8_sizes_89 (by decide) ?_
    refine s_lv hG [1, 2, 3, 4, 5, 0] rfl ?_
    exact hrec6 _ _ _
  have hb62 : ∀ (rec6 : HS × Int32 × Int32 → Option (HS × Int32)) (hrec6 : ∀ (S : HS) (x4 : Int32) (x5 : Int32), rec6 (S, x4, x5) = some out → G 0 0 S [(0, vR 36), (1, vI p1), (2, vI p2), (3, vI p3), (4, vI x4), (5, vI x5)] 6 []) (S : HS) (x4 : Int32) (x5 : Int32) (t1 : Int32), f_X8_sizes_b62 p1 p2 p3 rec6 S x4 x5 t1 = some out → G 0 0 S [(0, vR 36), (1, vI p1), (2, vI p2), (3, vI p3), (4, vI x4), (5, vI x5)] 62 [vI t1, vR 36] := by
    intro rec6 hrec6 S x4 x5 t1
    unfold f_X8_sizes_b62
    refine s_putZ hG dX8_sizes_62 fl_RX8_111 fp_8_28 (rfl) ?_
    refine s_aload_n hG dX8_sizes_65 rfl ?_
    refine s_getC hG dX8_sizes_66 fl_RX8_68 (rfl) ?_
    refine s_iconst hG (v := (4 : Int32)) dX8_sizes_69 (by decide) ?_
    refine s_iload hG dX8_sizes_70 rfl ?_
    refine s_imul hG dX8_sizes_72 ?_
    refine s_iload_n hG dX8_sizes_73 rfl ?_
    refine s_iadd hG dX8_sizes_74 ?_
    refine s_iload_n hG dX8_sizes_75 rfl ?_
    refine s_iastore hG dX8_sizes_76 (rfl) ?_
    refine s_iload hG dX8_sizes_77 rfl ?_
    refine s_iconst hG (v := (1 : Int32)) dX8_sizes_79 (by decide) ?_
    refine s_iload hG dX8_sizes_80 rfl ?_
    refine s_ishl hG dX8_sizes_82 ?_
    refine s_ior hG dX8_sizes_83 ?_
    refine s_istore hG (lv' := [(4, vI (x4 ||| ((1 : Int32) <<< (x5 &&& 31)))), (0, vR 36), (1, vI p1), (2, vI p2), (3, vI p3), (5, vI x5)]) dX8_sizes_84 (by decide) rfl ?_
    refine s_lv hG [1, 2, 3, 4, 0, 5] rfl ?_
    exact hb86 _ hrec6 _ _ _
  have hb57 : ∀ (rec6 : HS × Int32 × Int32 → Option (HS × Int32)) (hrec6 : ∀ (S : HS) (x4 : Int32) (x5 : Int32), rec6 (S, x4, x5) = some out → G 0 0 S [(0, vR 36), (1, vI p1), (2, vI p2), (3, vI p3), (4, vI x4), (5, vI x5)] 6 []) (S : HS) (x4 : Int32) (x5 : Int32), f_X8_sizes_b57 p1 p2 p3 rec6 S x4 x5 = some out → G 0 0 S [(0, vR 36), (1, vI p1), (2, vI p2), (3, vI p3), (4, vI x4), (5, vI x5)] 57 [vR 36] := by
    intro rec6 hrec6 S x4 x5
    unfold f_X8_sizes_b57
    refine s_iconst hG (v := (1 : Int32)) dX8_sizes_57 (by decide) ?_
    refine s_goto hG (tgt := 62) dX8_sizes_58 (by decide) ?_
    exact hb62 _ hrec6 _ _ _ _
  have hb6 : ∀ (S : HS) (x4 : Int32) (x5 : Int32), f_X8_sizes_b6 p1 p2 p3 S x4 x5 = some out → G 0 0 S [(0, vR 36), (1, vI p1), (2, vI p2), (3, vI p3), (4, vI x4), (5, vI x5)] 6 [] := by
    intro  S x4 x5
    unfold f_X8_sizes_b6
    generalize FU = nf
    revert S x4 x5
    induction nf with
    | zero => intro S x4 x5 h9; cases h9
    | succ nf hrec6 =>
      intro S x4 x5
      show F_X8_sizes_b6 p1 p2 p3 (fx (F_X8_sizes_b6 p1 p2 p3) nf) (S, x4, x5) = some out → _
      generalize fx (F_X8_sizes_b6 p1 p2 p3) nf = rec6 at hrec6
      unfold F_X8_sizes_b6
      dsimp only
      refine s_iload hG dX8_sizes_6 rfl ?_
      refine s_aload_n hG dX8_sizes_8 rfl ?_
      refine s_getI hG dX8_sizes_9 fl_RX8_88 (rfl) ?_
      refine s_icmp_ge hG (tgt := 92) dX8_sizes_12 (by decide) ?_ ?_
      · refine s_iload hG dX8_sizes_92 rfl ?_
        exact s_riC hR dX8_sizes_94
      · refine s_iload_n hG dX8_sizes_15 rfl ?_
        refine s_iload hG dX8_sizes_16 rfl ?_
        refine s_csP hG (as := [vI p1, vI x5]) (st := []) (rm := rm_X8_has) dX8_sizes_18 ml_RX8_104 (tb20 (mem_i 2 rfl)) rfl ⟨rfl, rfl⟩ ⟨by decide, by decide⟩ (Nat.le_of_ble_eq_true rfl) ⟨Nat.zero_le _, Nat.zero_le _⟩ rfl (fun o h => c_X8_has l _ _ _ o h) (fun o18 => ?_)
        refine s_if_eq hG (tgt := 86) dX8_sizes_21 (by decide) ?_ ?_
        · exact hb86 _ hrec6 _ _ _
        · refine s_aload_n hG dX8_sizes_24 rfl ?_
          refine s_getC hG dX8_sizes_25 fl_RX8_68 (rfl) ?_
          refine s_iconst hG (v := (4 : Int32)) dX8_sizes_28 (by decide) ?_
          refine s_iload hG dX8_sizes_29 rfl ?_
          refine s_imul hG dX8_sizes_31 ?_
          refine s_iload_n hG dX8_sizes_32 rfl ?_
          refine s_iadd hG dX8_sizes_33 ?_
          refine s_iaload hG dX8_sizes_34 (rfl) ?_
          refine s_iload_n hG dX8_sizes_35 rfl ?_
          refine s_icmp_eq hG (tgt := 86) dX8_sizes_36 (by decide) ?_ ?_
          · exact hb86 _ hrec6 _ _ _
          · refine s_aload_n hG dX8_sizes_39 rfl ?_
            refine s_aload_n hG dX8_sizes_40 rfl ?_
            refine s_getI hG dX8_sizes_41 fl_RX8_111 (rfl) ?_
            refine s_if_ne hG (tgt := 57) dX8_sizes_44 (by decide) ?_ ?_
            · exact hb57 _ hrec6 _ _ _
            · refine s_aload_n hG dX8_sizes_47 rfl ?_
              refine s_getC hG dX8_sizes_48 fl_RX8_13 (rfl) ?_
              refine s_iload hG dX8_sizes_51 rfl ?_
              refine s_baload hG dX8_sizes_53 (rfl) ?_
              refine s_if_eq hG (tgt := 61) dX8_sizes_54 (by decide) ?_ ?_
              · refine s_iconst hG (v := (0 : Int32)) dX8_sizes_61 (by decide) ?_
                exact hb62 _ hrec6 _ _ _ _
              · exact hb57 _ hrec6 _ _ _
  unfold f_X8_sizes
  refine s_iconst hG (v := (0 : Int32)) dX8_sizes_0 (by decide) ?_
  refine s_istore hG (lv' := [(4, vI (0 : Int32)), (0, vR 36), (1, vI p1), (2, vI p2), (3, vI p3)]) dX8_sizes_1 (by decide) rfl ?_
  refine s_iconst hG (v := (0 : Int32)) dX8_sizes_3 (by decide) ?_
  refine s_istore hG (lv' := [(5, vI (0 : Int32)), (4, vI (0 : Int32)), (0, vR 36), (1, vI p1), (2, vI p2), (3, vI p3)]) dX8_sizes_4 (by decide) rfl ?_
  refine s_lv hG [2, 3, 4, 5, 1, 0] rfl ?_
  exact hb6 _ _ _

def f_X8_settlesPart_b330 (p1 : Int32) (p2 : Int32) (p3 : Int32) (rec213 : HS × Int32 → Option (HS)) (S : HS) (x6 : Int32) (t1 : Int32) : Option (HS) :=
if nz t1 = true then
rec213 ((sI S 36 28 t1), (x6 + (1 : Int32)))
else none
def f_X8_settlesPart_b325 (p1 : Int32) (p2 : Int32) (p3 : Int32) (rec213 : HS × Int32 → Option (HS)) (S : HS) (x6 : Int32) : Option (HS) :=
f_X8_settlesPart_b330 p1 p2 p3 rec213 S x6 (1 : Int32)
def f_X8_settlesPart_b329 (p1 : Int32) (p2 : Int32) (p3 : Int32) (rec213 : HS × Int32 → Option (HS)) (S : HS) (x6 : Int32) : Option (HS) :=
f_X8_settlesPart_b330 p1 p2 p3 rec213 S x6 (0 : Int32)
def f_X8_settlesPart_b267 (p1 : Int32) (p2 : Int32) (p3 : Int32) (rec213 : HS × Int32 → Option (HS)) (S : HS) (x6 : Int32) (t0 : Int32) : Option (HS) :=
if (S.1 36 28) = 0 then
if t0 = 0 then
f_X8_settlesPart_b329 p1 p2 p3 rec213 S x6
else
if ib x6 (12) = true then
if ib (((4 : Int32) * (S.1 44 x6.toNatClampNeg)) + p2) (40) = true then
if ib x6 (12) = true then
if ib (((4 : Int32) * (S.1 43 x6.toNatClampNeg)) + p2) (40) = true then
(f_X8_stepOf x6 p2 S).bind (fun o318 =>
if (S.1 56 (((4 : Int32) * (S.1 44 x6.toNatClampNeg)) + p2).toNatClampNeg) = ((S.1 56 (((4 : Int32) * (S.1 43 x6.toNatClampNeg)) + p2).toNatClampNeg) + o318) then
f_X8_settlesPart_b329 p1 p2 p3 rec213 S x6
else
f_X8_settlesPart_b325 p1 p2 p3 rec213 S x6)
else none
else none
else none
else none
else
f_X8_settlesPart_b325 p1 p2 p3 rec213 S x6
def f_X8_settlesPart_b266 (p1 : Int32) (p2 : Int32) (p3 : Int32) (rec213 : HS × Int32 → Option (HS)) (S : HS) (x6 : Int32) : Option (HS) :=
f_X8_settlesPart_b267 p1 p2 p3 rec213 S x6 (0 : Int32)
def F_X8_settlesPart_b213 (p1 : Int32) (p2 : Int32) (p3 : Int32)  (rec213 : HS × Int32 → Option (HS)) : HS × Int32 → Option (HS) := fun q => match q with
  | (S, x6) =>
    if (S.1 36 7) ≤ x6 then
    some S
    else
    (f_X8_has (S.1 36 27) x6 S).bind (fun o228 =>
    if o228 = 0 then
    f_X8_settlesPart_b266 p1 p2 p3 rec213 S x6
    else
    if ib x6 (12) = true then
    (f_X8_joins (S.1 42 x6.toNatClampNeg) p2 S).bind (fun o242 =>
    if o242 = 0 then
    f_X8_settlesPart_b266 p1 p2 p3 rec213 S x6
    else
    if ib x6 (12) = true then
    (f_X8_has p1 (S.1 43 x6.toNatClampNeg) S).bind (fun o256 =>
    if o256 = 0 then
    f_X8_settlesPart_b266 p1 p2 p3 rec213 S x6
    else
    f_X8_settlesPart_b267 p1 p2 p3 rec213 S x6 (1 : Int32))
    else none)
    else none)
def f_X8_settlesPart_b213 (p1 : Int32) (p2 : Int32) (p3 : Int32)  (S : HS) (x6 : Int32) : Option (HS) := fx (F_X8_settlesPart_b213 p1 p2 p3) FU (S, x6)
def f_X8_settlesPart_b201 (p1 : Int32) (p2 : Int32) (p3 : Int32) (rec8 : HS × Int32 × Int32 → Option (HS)) (rec22 : HS × Int32 × Int32 × Int32 → Option (HS)) (S : HS) (x4 : Int32) (x5 : Int32) (x6 : Int32) : Option (HS) :=
rec22 (S, x4, x5, (x6 + (1 : Int32)))
def f_X8_settlesPart_b190 (p1 : Int32) (p2 : Int32) (p3 : Int32) (rec8 : HS × Int32 × Int32 → Option (HS)) (rec22 : HS × Int32 × Int32 × Int32 → Option (HS)) (S : HS) (x4 : Int32) (x5 : Int32) (x6 : Int32) (x8 : Int32) (t1 : Int32) (t2 : Int32) (t3 : Int32) : Option (HS) :=
if ib t1 (40) = true then
f_X8_settlesPart_b201 p1 p2 p3 rec8 rec22 (sI S 56 t1.toNatClampNeg (t2 + t3)) (x4 ||| ((1 : Int32) <<< (x8 &&& 31))) x5 x6
else none
def f_X8_settlesPart_b144 (p1 : Int32) (p2 : Int32) (p3 : Int32) (rec8 : HS × Int32 × Int32 → Option (HS)) (rec22 : HS × Int32 × Int32 × Int32 → Option (HS)) (S : HS) (x4 : Int32) (x5 : Int32) (x6 : Int32) (x7 : Int32) (x8 : Int32) (t0 : Int32) : Option (HS) :=
if ib (((4 : Int32) * t0) + p2) (40) = true then
if x7 = 0 then
(f_X8_stepOf x6 p2 S).bind (fun o186 =>
f_X8_settlesPart_b190 p1 p2 p3 rec8 rec22 S x4 x5 x6 x8 (((4 : Int32) * x8) + p2) (S.1 56 (((4 : Int32) * t0) + p2).toNatClampNeg) (-o186))
else
(f_X8_stepOf x6 p2 S).bind (fun o176 =>
f_X8_settlesPart_b190 p1 p2 p3 rec8 rec22 S x4 x5 x6 x8 (((4 : Int32) * x8) + p2) (S.1 56 (((4 : Int32) * t0) + p2).toNatClampNeg) o176)
else none
def f_X8_settlesPart_b120 (p1 : Int32) (p2 : Int32) (p3 : Int32) (rec8 : HS × Int32 × Int32 → Option (HS)) (rec22 : HS × Int32 × Int32 × Int32 → Option (HS)) (S : HS) (x4 : Int32) (x5 : Int32) (x6 : Int32) (x7 : Int32) (t0 : Int32) : Option (HS) :=
if x7 = 0 then
if ib x6 (12) = true then
f_X8_settlesPart_b144 p1 p2 p3 rec8 rec22 S x4 x5 x6 x7 t0 (S.1 44 x6.toNatClampNeg)
else none
else
if ib x6 (12) = true then
f_X8_settlesPart_b144 p1 p2 p3 rec8 rec22 S x4 x5 x6 x7 t0 (S.1 43 x6.toNatClampNeg)
else none
def F_X8_settlesPart_b22 (p1 : Int32) (p2 : Int32) (p3 : Int32) (rec8 : HS × Int32 × Int32 → Option (HS)) (rec22 : HS × Int32 × Int32 × Int32 → Option (HS)) : HS × Int32 × Int32 × Int32 → Option (HS) := fun q => match q with
  | (S, x4, x5, x6) =>
    if (S.1 36 7) ≤ x6 then
    rec8 (S, x4, x5)
    else
    (f_X8_has (S.1 36 27) x6 S).bind (fun o37 =>
    if o37 = 0 then
    f_X8_settlesPart_b201 p1 p2 p3 rec8 rec22 S x4 x5 x6
    else
    if ib x6 (12) = true then
    (f_X8_joins (S.1 42 x6.toNatClampNeg) p2 S).bind (fun o51 =>
    if o51 = 0 then
    f_X8_settlesPart_b201 p1 p2 p3 rec8 rec22 S x4 x5 x6
    else
    if ib x6 (12) = true then
    (f_X8_has x4 (S.1 43 x6.toNatClampNeg) S).bind (fun o66 =>
    if ib x6 (12) = true then
    (f_X8_has x4 (S.1 44 x6.toNatClampNeg) S).bind (fun o78 =>
    if o66 = o78 then
    f_X8_settlesPart_b201 p1 p2 p3 rec8 rec22 S x4 x5 x6
    else
    if ib x6 (12) = true then
    (f_X8_has x4 (S.1 43 x6.toNatClampNeg) S).bind (fun o93 =>
    if o93 = 0 then
    if ib x6 (12) = true then
    f_X8_settlesPart_b120 p1 p2 p3 rec8 rec22 S x4 x5 x6 o93 (S.1 43 x6.toNatClampNeg)
    else none
    else
    if ib x6 (12) = true then
    f_X8_settlesPart_b120 p1 p2 p3 rec8 rec22 S x4 x5 x6 o93 (S.1 44 x6.toNatClampNeg)
    else none)
    else none)
    else none)
    else none)
    else none)
def f_X8_settlesPart_b22 (p1 : Int32) (p2 : Int32) (p3 : Int32) (rec8 : HS × Int32 × Int32 → Option (HS)) (S : HS) (x4 : Int32) (x5 : Int32) (x6 : Int32) : Option (HS) := fx (F_X8_settlesPart_b22 p1 p2 p3 rec8) FU (S, x4, x5, x6)
def F_X8_settlesPart_b8 (p1 : Int32) (p2 : Int32) (p3 : Int32)  (rec8 : HS × Int32 × Int32 → Option (HS)) : HS × Int32 × Int32 → Option (HS) := fun q => match q with
  | (S, x4, x5) =>
    if x4 = x5 then
    f_X8_settlesPart_b213 p1 p2 p3  S (0 : Int32)
    else
    f_X8_settlesPart_b22 p1 p2 p3 rec8 S x4 x4 (0 : Int32)
def f_X8_settlesPart_b8 (p1 : Int32) (p2 : Int32) (p3 : Int32)  (S : HS) (x4 : Int32) (x5 : Int32) : Option (HS) := fx (F_X8_settlesPart_b8 p1 p2 p3) FU (S, x4, x5)
def f_X8_settlesPart (p1 : Int32) (p2 : Int32) (p3 : Int32) (S : HS) : Option (HS) :=
f_X8_settlesPart_b8 p1 p2 p3  S ((1 : Int32) <<< (p3 &&& 31)) (0 : Int32)
def rm_X8_settlesPart : Room := { frames := 1, cells := 0, slots := 0, locals := 22 }
set_option maxRecDepth 100000 in
set_option maxHeartbeats 4000000 in
theorem c_X8_settlesPart (l : Launch) (p1 : Int32) (p2 : Int32) (p3 : Int32)  (S : HS) (out : HS) (h : f_X8_settlesPart p1 p2 p3 S = some out) : Ct l yX8_settlesPart cX8_settlesPart 10 none rm_X8_settlesPart [vR 36, vI p1, vI p2, vI p3] S none out := by
  refine Ct.intro (own := RX8) (lv := [(0, vR 36), (1, vI p1), (2, vI p2), (3, vI p3)]) (by decide +kernel) rfl ⟨rfl, rfl⟩ rfl (Nat.le_of_ble_eq_true rfl) ?_
  intro G hG hR
  revert h
  have hb330 : ∀ (rec213 : HS × Int32 → Option (HS)) (hrec213 : ∀ (S : HS) (x6 : Int32), rec213 (S, x6) = some out → G 0 0 S [(0, vR 36), (1, vI p1), (2, vI p2), (6, vI x6)] 213 []) (S : HS) (x6 : Int32) (t1 : Int32), f_X8_settlesPart_b330 p1 p2 p3 rec213 S x6 t1 = some out → G 0 0 S [(0, vR 36), (1, vI p1), (2, vI p2), (6, vI x6)] 330 [vI t1, vR 36] := by
    intro rec213 hrec213 S x6 t1
    unfold f_X8_settlesPart_b330
    refine s_putZ hG dX8_settlesPart_330 fl_RX8_111 fp_8_28 (rfl) ?_
    refine s_iinc hG (v := (x6 + (1 : Int32))) (lv' := [(6, vI (x6 + (1 : Int32))), (0, vR 36), (1, vI p1), (2, vI p2)]) dX8_settlesPart_333 rfl rfl (by decide) rfl ?_
    refine s_goto hG (tgt := 213) dX8_settlesPart_336 (by decide) ?_
    refine s_lv hG [1, 2, 3, 0] rfl ?_
    exact hrec213 _ _
  have hb325 : ∀ (rec213 : HS × Int32 → Option (HS)) (hrec213 : ∀ (S : HS) (x6 : Int32), rec213 (S, x6) = some out → G 0 0 S [(0, vR 36), (1, vI p1), (2, vI p2), (6, vI x6)] 213 []) (S : HS) (x6 : Int32), f_X8_settlesPart_b325 p1 p2 p3 rec213 S x6 = some out → G 0 0 S [(0, vR 36), (1, vI p1), (2, vI p2), (6, vI x6)] 325 [vR 36] := by
    intro rec213 hrec213 S x6
    unfold f_X8_settlesPart_b325
    refine s_iconst hG (v := (1 : Int32)) dX8_settlesPart_325 (by decide) ?_
    refine s_goto hG (tgt := 330) dX8_settlesPart_326 (by decide) ?_
    exact hb330 _ hrec213 _ _ _
  have hb329 : ∀ (rec213 : HS × Int32 → Option (HS)) (hrec213 : ∀ (S : HS) (x6 : Int32), rec213 (S, x6) = some out → G 0 0 S [(0, vR 36), (1, vI p1), (2, vI p2), (6, vI x6)] 213 []) (S : HS) (x6 : Int32), f_X8_settlesPart_b329 p1 p2 p3 rec213 S x6 = some out → G 0 0 S [(0, vR 36), (1, vI p1), (2, vI p2), (6, vI x6)] 329 [vR 36] := by
    intro rec213 hrec213 S x6
    unfold f_X8_settlesPart_b329
    refine s_iconst hG (v := (0 : Int32)) dX8_settlesPart_329 (by decide) ?_
    exact hb330 _ hrec213 _ _ _
  have hb267 : ∀ (rec213 : HS × Int32 → Option (HS)) (hrec213 : ∀ (S : HS) (x6 : Int32), rec213 (S, x6) = some out → G 0 0 S [(0, vR 36), (1, vI p1), (2, vI p2), (6, vI x6)] 213 []) (S : HS) (x6 : Int32) (t0 : Int32), f_X8_settlesPart_b267 p1 p2 p3 rec213 S x6 t0 = some out → G 0 0 S [(0, vR 36), (1, vI p1), (2, vI p2), (6, vI x6)] 267 [vI t0] := by
    intro rec213 hrec213 S x6 t0
    unfold f_X8_settlesPart_b267
    refine s_istore hG (lv' := [(7, vI t0), (0, vR 36), (1, vI p1), (2, vI p2), (6, vI x6)]) dX8_settlesPart_267 (by decide) rfl ?_
    refine s_aload_n hG dX8_settlesPart_269 rfl ?_
    refine s_aload_n hG dX8_settlesPart_270 rfl ?_
    refine s_getI hG dX8_settlesPart_271 fl_RX8_111 (rfl) ?_
    refine s_if_ne hG (tgt := 325) dX8_settlesPart_274 (by decide) ?_ ?_
    · refine s_lv hG [1, 2, 3, 4] rfl ?_
      exact hb325 _ hrec213 _ _
    · refine s_iload hG dX8_settlesPart_277 rfl ?_
      refine s_if_eq hG (tgt := 329) dX8_settlesPart_279 (by decide) ?_ ?_
      · refine s_lv hG [1, 2, 3, 4] rfl ?_
        exact hb329 _ hrec213 _ _
      · refine s_aload_n hG dX8_settlesPart_282 rfl ?_
        refine s_getC hG dX8_settlesPart_283 fl_RX8_68 (rfl) ?_
        refine s_iconst hG (v := (4 : Int32)) dX8_settlesPart_286 (by decide) ?_
        refine s_aload_n hG dX8_settlesPart_287 rfl ?_
        refine s_getC hG dX8_settlesPart_288 fl_RX8_32 (rfl) ?_
        refine s_iload hG dX8_settlesPart_291 rfl ?_
        refine s_iaload hG dX8_settlesPart_293 (rfl) ?_
        refine s_imul hG dX8_settlesPart_294 ?_
        refine s_iload_n hG dX8_settlesPart_295 rfl ?_
        refine s_iadd hG dX8_settlesPart_296 ?_
        refine s_iaload hG dX8_settlesPart_297 (rfl) ?_
        refine s_aload_n hG dX8_settlesPart_298 rfl ?_
        refine s_getC hG dX8_settlesPart_299 fl_RX8_68 (rfl) ?_
        refine s_iconst hG (v := (4 : Int32)) dX8_settlesPart_302 (by decide) ?_
        refine s_aload_n hG dX8_settlesPart_303 rfl ?_
        refine s_getC hG dX8_settlesPart_304 fl_RX8_29 (rfl) ?_
        refine s_iload hG dX8_settlesPart_307 rfl ?_
        refine s_iaload hG dX8_settlesPart_309 (rfl) ?_
        refine s_imul hG dX8_settlesPart_310 ?_
        refine s_iload_n hG dX8_settlesPart_311 rfl ?_
        refine s_iadd hG dX8_settlesPart_312 ?_
        refine s_iaload hG dX8_settlesPart_313 (rfl) ?_
        refine s_aload_n hG dX8_settlesPart_314 rfl ?_
        refine s_iload hG dX8_settlesPart_315 rfl ?_
        refine s_iload_n hG dX8_settlesPart_317 rfl ?_
        refine s_cvP hG (as := [vI x6, vI p2]) (st := [vI (S.1 56 (((4 : Int32) * (S.1 43 x6.toNatClampNeg)) + p2).toNatClampNeg), vI (S.1 56 (((4 : Int32) * (S.1 44 x6.toNatClampNeg)) + p2).toNatClampNeg), vR 36]) (rm := rm_X8_stepOf) dX8_settlesPart_318 ml_RX8_118 (rfl) (tb20 (mem_i 23 rfl)) rfl ⟨rfl, rfl⟩ ⟨by decide, by decide⟩ (Nat.le_of_ble_eq_true rfl) ⟨Nat.zero_le _, Nat.zero_le _⟩ rfl (fun o h => c_X8_stepOf l _ _ _ o h) (fun o318 => ?_)
        refine s_iadd hG dX8_settlesPart_321 ?_
        refine s_icmp_eq hG (tgt := 329) dX8_settlesPart_322 (by decide) ?_ ?_
        · refine s_lv hG [1, 2, 3, 4] rfl ?_
          exact hb329 _ hrec213 _ _
        · refine s_lv hG [1, 2, 3, 4] rfl ?_
          exact hb325 _ hrec213 _ _
  have hb266 : ∀ (rec213 : HS × Int32 → Option (HS)) (hrec213 : ∀ (S : HS) (x6 : Int32), rec213 (S, x6) = some out → G 0 0 S [(0, vR 36), (1, vI p1), (2, vI p2), (6, vI x6)] 213 []) (S : HS) (x6 : Int32), f_X8_settlesPart_b266 p1 p2 p3 rec213 S x6 = some out → G 0 0 S [(0, vR 36), (1, vI p1), (2, vI p2), (6, vI x6)] 266 [] := by
    intro rec213 hrec213 S x6
    unfold f_X8_settlesPart_b266
    refine s_iconst hG (v := (0 : Int32)) dX8_settlesPart_266 (by decide) ?_
    exact hb267 _ hrec213 _ _ _
  have hb213 : ∀ (S : HS) (x6 : Int32), f_X8_settlesPart_b213 p1 p2 p3 S x6 = some out → G 0 0 S [(0, vR 36), (1, vI p1), (2, vI p2), (6, vI x6)] 213 [] := by
    intro  S x6
    unfold f_X8_settlesPart_b213
    generalize FU = nf
    revert S x6
    induction nf with
    | zero => intro S x6 h9; cases h9
    | succ nf hrec213 =>
      intro S x6
      show F_X8_settlesPart_b213 p1 p2 p3 (fx (F_X8_settlesPart_b213 p1 p2 p3) nf) (S, x6) = some out → _
      generalize fx (F_X8_settlesPart_b213 p1 p2 p3) nf = rec213 at hrec213
      unfold F_X8_settlesPart_b213
      dsimp only
      refine s_iload hG dX8_settlesPart_213 rfl ?_
      refine s_aload_n hG dX8_settlesPart_215 rfl ?_
      refine s_getI hG dX8_settlesPart_216 fl_RX8_91 (rfl) ?_
      refine s_icmp_ge hG (tgt := 339) dX8_settlesPart_219 (by decide) ?_ ?_
      · exact s_rvC hR dX8_settlesPart_339
      · refine s_aload_n hG dX8_settlesPart_222 rfl ?_
        refine s_getI hG dX8_settlesPart_223 fl_RX8_115 (rfl) ?_
        refine s_iload hG dX8_settlesPart_226 rfl ?_
        refine s_csP hG (as := [vI (S.1 36 27), vI x6]) (st := []) (rm := rm_X8_has) dX8_settlesPart_228 ml_RX8_104 (tb20 (mem_i 2 rfl)) rfl ⟨rfl, rfl⟩ ⟨by decide, by decide⟩ (Nat.le_of_ble_eq_true rfl) ⟨Nat.zero_le _, Nat.zero_le _⟩ rfl (fun o h => c_X8_has l _ _ _ o h) (fun o228 => ?_)
        refine s_if_eq hG (tgt := 266) dX8_settlesPart_231 (by decide) ?_ ?_
        · exact hb266 _ hrec213 _ _
        · refine s_aload_n hG dX8_settlesPart_234 rfl ?_
          refine s_getC hG dX8_settlesPart_235 fl_RX8_26 (rfl) ?_
          refine s_iload hG dX8_settlesPart_238 rfl ?_
          refine s_iaload hG dX8_settlesPart_240 (rfl) ?_
          refine s_iload_n hG dX8_settlesPart_241 rfl ?_
          refine s_csP hG (as := [vI (S.1 42 x6.toNatClampNeg), vI p2]) (st := []) (rm := rm_X8_joins) dX8_settlesPart_242 ml_RX8_108 (tb20 (mem_i 11 rfl)) rfl ⟨rfl, rfl⟩ ⟨by decide, by decide⟩ (Nat.le_of_ble_eq_true rfl) ⟨Nat.zero_le _, Nat.zero_le _⟩ rfl (fun o h => c_X8_joins l _ _ _ o h) (fun o242 => ?_)
          refine s_if_eq hG (tgt := 266) dX8_settlesPart_245 (by decide) ?_ ?_
          · exact hb266 _ hrec213 _ _
          · refine s_iload_n hG dX8_settlesPart_248 rfl ?_
            refine s_aload_n hG dX8_settlesPart_249 rfl ?_
            refine s_getC hG dX8_settlesPart_250 fl_RX8_29 (rfl) ?_
            refine s_iload hG dX8_settlesPart_253 rfl ?_
            refine s_iaload hG dX8_settlesPart_255 (rfl) ?_
            refine s_csP hG (as := [vI p1, vI (S.1 43 x6.toNatClampNeg)]) (st := []) (rm := rm_X8_has) dX8_settlesPart_256 ml_RX8_104 (tb20 (mem_i 2 rfl)) rfl ⟨rfl, rfl⟩ ⟨by decide, by decide⟩ (Nat.le_of_ble_eq_true rfl) ⟨Nat.zero_le _, Nat.zero_le _⟩ rfl (fun o h => c_X8_has l _ _ _ o h) (fun o256 => ?_)
            refine s_if_eq hG (tgt := 266) dX8_settlesPart_259 (by decide) ?_ ?_
            · exact hb266 _ hrec213 _ _
            · refine s_iconst hG (v := (1 : Int32)) dX8_settlesPart_262 (by decide) ?_
              refine s_goto hG (tgt := 267) dX8_settlesPart_263 (by decide) ?_
              exact hb267 _ hrec213 _ _ _
  have hb201 : ∀ (rec8 : HS × Int32 × Int32 → Option (HS)) (hrec8 : ∀ (S : HS) (x4 : Int32) (x5 : Int32), rec8 (S, x4, x5) = some out → G 0 0 S [(0, vR 36), (1, vI p1), (2, vI p2), (4, vI x4), (5, vI x5)] 8 []) (rec22 : HS × Int32 × Int32 × Int32 → Option (HS)) (hrec22 : ∀ (S : HS) (x4 : Int32) (x5 : Int32) (x6 : Int32), rec22 (S, x4, x5, x6) = some out → G 0 0 S [(0, vR 36), (1, vI p1), (2, vI p2), (4, vI x4), (5, vI x5), (6, vI x6)] 22 []) (S : HS) (x4 : Int32) (x5 : Int32) (x6 : Int32), f_X8_settlesPart_b201 p1 p2 p3 rec8 rec22 S x4 x5 x6 = some out → G 0 0 S [(0, vR 36), (1, vI p1), (2, vI p2), (4, vI x4), (5, vI x5), (6, vI x6)] 201 [] := by
    intro rec8 hrec8 rec22 hrec22 S x4 x5 x6
    unfold f_X8_settlesPart_b201
    refine s_iinc hG (v := (x6 + (1 : Int32))) (lv' := [(6, vI (x6 + (1 : Int32))), (0, vR 36), (1, vI p1), (2, vI p2), (4, vI x4), (5, vI x5)]) dX8_settlesPart_201 rfl rfl (by decide) rfl ?_
    refine s_goto hG (tgt := 22) dX8_settlesPart_204 (by decide) ?_
    refine s_lv hG [1, 2, 3, 4, 5, 0] rfl ?_
    exact hrec22 _ _ _ _
  have hb190 : ∀ (rec8 : HS × Int32 × Int32 → Option (HS)) (hrec8 : ∀ (S : HS) (x4 : Int32) (x5 : Int32), rec8 (S, x4, x5) = some out → G 0 0 S [(0, vR 36), (1, vI p1), (2, vI p2), (4, vI x4), (5, vI x5)] 8 []) (rec22 : HS × Int32 × Int32 × Int32 → Option (HS)) (hrec22 : ∀ (S : HS) (x4 : Int32) (x5 : Int32) (x6 : Int32), rec22 (S, x4, x5, x6) = some out → G 0 0 S [(0, vR 36), (1, vI p1), (2, vI p2), (4, vI x4), (5, vI x5), (6, vI x6)] 22 []) (S : HS) (x4 : Int32) (x5 : Int32) (x6 : Int32) (x8 : Int32) (t1 : Int32) (t2 : Int32) (t3 : Int32), f_X8_settlesPart_b190 p1 p2 p3 rec8 rec22 S x4 x5 x6 x8 t1 t2 t3 = some out → G 0 0 S [(0, vR 36), (1, vI p1), (2, vI p2), (4, vI x4), (5, vI x5), (6, vI x6), (8, vI x8)] 190 [vI t3, vI t2, vI t1, vR 56] := by
    intro rec8 hrec8 rec22 hrec22 S x4 x5 x6 x8 t1 t2 t3
    unfold f_X8_settlesPart_b190
    refine s_iadd hG dX8_settlesPart_190 ?_
    refine s_iastore hG dX8_settlesPart_191 (rfl) ?_
    refine s_iload hG dX8_settlesPart_192 rfl ?_
    refine s_iconst hG (v := (1 : Int32)) dX8_settlesPart_194 (by decide) ?_
    refine s_iload hG dX8_settlesPart_195 rfl ?_
    refine s_ishl hG dX8_settlesPart_197 ?_
    refine s_ior hG dX8_settlesPart_198 ?_
    refine s_istore hG (lv' := [(4, vI (x4 ||| ((1 : Int32) <<< (x8 &&& 31)))), (0, vR 36), (1, vI p1), (2, vI p2), (5, vI x5), (6, vI x6), (8, vI x8)]) dX8_settlesPart_199 (by decide) rfl ?_
    refine s_lv hG [1, 2, 3, 0, 4, 5] rfl ?_
    exact hb201 _ hrec8 _ hrec22 _ _ _ _
  have hb144 : ∀ (rec8 : HS × Int32 × Int32 → Option (HS)) (hrec8 : ∀ (S : HS) (x4 : Int32) (x5 : Int32), rec8 (S, x4, x5) = some out → G 0 0 S [(0, vR 36), (1, vI p1), (2, vI p2), (4, vI x4), (5, vI x5)] 8 []) (rec22 : HS × Int32 × Int32 × Int32 → Option (HS)) (hrec22 : ∀ (S : HS) (x4 : Int32) (x5 : Int32) (x6 : Int32), rec22 (S, x4, x5, x6) = some out → G 0 0 S [(0, vR 36), (1, vI p1), (2, vI p2), (4, vI x4), (5, vI x5), (6, vI x6)] 22 []) (S : HS) (x4 : Int32) (x5 : Int32) (x6 : Int32) (x7 : Int32) (x8 : Int32) (t0 : Int32), f_X8_settlesPart_b144 p1 p2 p3 rec8 rec22 S x4 x5 x6 x7 x8 t0 = some out → G 0 0 S [(0, vR 36), (1, vI p1), (2, vI p2), (4, vI x4), (5, vI x5), (6, vI x6), (7, vI x7), (8, vI x8)] 144 [vI t0] := by
    intro rec8 hrec8 rec22 hrec22 S x4 x5 x6 x7 x8 t0
    unfold f_X8_settlesPart_b144
    refine s_istore hG (lv' := [(9, vI t0), (0, vR 36), (1, vI p1), (2, vI p2), (4, vI x4), (5, vI x5), (6, vI x6), (7, vI x7), (8, vI x8)]) dX8_settlesPart_144 (by decide) rfl ?_
    refine s_aload_n hG dX8_settlesPart_146 rfl ?_
    refine s_getC hG dX8_settlesPart_147 fl_RX8_68 (rfl) ?_
    refine s_iconst hG (v := (4 : Int32)) dX8_settlesPart_150 (by decide) ?_
    refine s_iload hG dX8_settlesPart_151 rfl ?_
    refine s_imul hG dX8_settlesPart_153 ?_
    refine s_iload_n hG dX8_settlesPart_154 rfl ?_
    refine s_iadd hG dX8_settlesPart_155 ?_
    refine s_aload_n hG dX8_settlesPart_156 rfl ?_
    refine s_getC hG dX8_settlesPart_157 fl_RX8_68 (rfl) ?_
    refine s_iconst hG (v := (4 : Int32)) dX8_settlesPart_160 (by decide) ?_
    refine s_iload hG dX8_settlesPart_161 rfl ?_
    refine s_imul hG dX8_settlesPart_163 ?_
    refine s_iload_n hG dX8_settlesPart_164 rfl ?_
    refine s_iadd hG dX8_settlesPart_165 ?_
    refine s_iaload hG dX8_settlesPart_166 (rfl) ?_
    refine s_iload hG dX8_settlesPart_167 rfl ?_
    refine s_if_eq hG (tgt := 182) dX8_settlesPart_169 (by decide) ?_ ?_
    · refine s_aload_n hG dX8_settlesPart_182 rfl ?_
      refine s_iload hG dX8_settlesPart_183 rfl ?_
      refine s_iload_n hG dX8_settlesPart_185 rfl ?_
      refine s_cvP hG (as := [vI x6, vI p2]) (st := [vI (S.1 56 (((4 : Int32) * t0) + p2).toNatClampNeg), vI (((4 : Int32) * x8) + p2), vR 56]) (rm := rm_X8_stepOf) dX8_settlesPart_186 ml_RX8_118 (rfl) (tb20 (mem_i 23 rfl)) rfl ⟨rfl, rfl⟩ ⟨by decide, by decide⟩ (Nat.le_of_ble_eq_true rfl) ⟨Nat.zero_le _, Nat.zero_le _⟩ rfl (fun o h => c_X8_stepOf l _ _ _ o h) (fun o186 => ?_)
      refine s_ineg hG dX8_settlesPart_189 ?_
      refine s_lv hG [1, 2, 3, 4, 5, 6, 8] rfl ?_
      exact hb190 _ hrec8 _ hrec22 _ _ _ _ _ _ _ _
    · refine s_aload_n hG dX8_settlesPart_172 rfl ?_
      refine s_iload hG dX8_settlesPart_173 rfl ?_
      refine s_iload_n hG dX8_settlesPart_175 rfl ?_
      refine s_cvP hG (as := [vI x6, vI p2]) (st := [vI (S.1 56 (((4 : Int32) * t0) + p2).toNatClampNeg), vI (((4 : Int32) * x8) + p2), vR 56]) (rm := rm_X8_stepOf) dX8_settlesPart_176 ml_RX8_118 (rfl) (tb20 (mem_i 23 rfl)) rfl ⟨rfl, rfl⟩ ⟨by decide, by decide⟩ (Nat.le_of_ble_eq_true rfl) ⟨Nat.zero_le _, Nat.zero_le _⟩ rfl (fun o h => c_X8_stepOf l _ _ _ o h) (fun o176 => ?_)
      refine s_goto hG (tgt := 190) dX8_settlesPart_179 (by decide) ?_
      refine s_lv hG [1, 2, 3, 4, 5, 6, 8] rfl ?_
      exact hb190 _ hrec8 _ hrec22 _ _ _ _ _ _ _ _
  have hb120 : ∀ (rec8 : HS × Int32 × Int32 → Option (HS)) (hrec8 : ∀ (S : HS) (x4 : Int32) (x5 : Int32), rec8 (S, x4, x5) = some out → G 0 0 S [(0, vR 36), (1, vI p1), (2, vI p2), (4, vI x4), (5, vI x5)] 8 []) (rec22 : HS × Int32 × Int32 × Int32 → Option (HS)) (hrec22 : ∀ (S : HS) (x4 : Int32) (x5 : Int32) (x6 : Int32), rec22 (S, x4, x5, x6) = some out → G 0 0 S [(0, vR 36), (1, vI p1), (2, vI p2), (4, vI x4), (5, vI x5), (6, vI x6)] 22 []) (S : HS) (x4 : Int32) (x5 : Int32) (x6 : Int32) (x7 : Int32) (t0 : Int32), f_X8_settlesPart_b120 p1 p2 p3 rec8 rec22 S x4 x5 x6 x7 t0 = some out → G 0 0 S [(0, vR 36), (1, vI p1), (2, vI p2), (4, vI x4), (5, vI x5), (6, vI x6), (7, vI x7)] 120 [vI t0] := by
    intro rec8 hrec8 rec22 hrec22 S x4 x5 x6 x7 t0
    unfold f_X8_settlesPart_b120
    refine s_istore hG (lv' := [(8, vI t0), (0, vR 36), (1, vI p1), (2, vI p2), (4, vI x4), (5, vI x5), (6, vI x6), (7, vI x7)]) dX8_settlesPart_120 (by decide) rfl ?_
    refine s_iload hG dX8_settlesPart_122 rfl ?_
    refine s_if_eq hG (tgt := 137) dX8_settlesPart_124 (by decide) ?_ ?_
    · refine s_aload_n hG dX8_settlesPart_137 rfl ?_
      refine s_getC hG dX8_settlesPart_138 fl_RX8_32 (rfl) ?_
      refine s_iload hG dX8_settlesPart_141 rfl ?_
      refine s_iaload hG dX8_settlesPart_143 (rfl) ?_
      refine s_lv hG [1, 2, 3, 4, 5, 6, 7, 0] rfl ?_
      exact hb144 _ hrec8 _ hrec22 _ _ _ _ _ _ _
    · refine s_aload_n hG dX8_settlesPart_127 rfl ?_
      refine s_getC hG dX8_settlesPart_128 fl_RX8_29 (rfl) ?_
      refine s_iload hG dX8_settlesPart_131 rfl ?_
      refine s_iaload hG dX8_settlesPart_133 (rfl) ?_
      refine s_goto hG (tgt := 144) dX8_settlesPart_134 (by decide) ?_
      refine s_lv hG [1, 2, 3, 4, 5, 6, 7, 0] rfl ?_
      exact hb144 _ hrec8 _ hrec22 _ _ _ _ _ _ _
  have hb22 : ∀ (rec8 : HS × Int32 × Int32 → Option (HS)) (hrec8 : ∀ (S : HS) (x4 : Int32) (x5 : Int32), rec8 (S, x4, x5) = some out → G 0 0 S [(0, vR 36), (1, vI p1), (2, vI p2), (4, vI x4), (5, vI x5)] 8 []) (S : HS) (x4 : Int32) (x5 : Int32) (x6 : Int32), f_X8_settlesPart_b22 p1 p2 p3 rec8 S x4 x5 x6 = some out → G 0 0 S [(0, vR 36), (1, vI p1), (2, vI p2), (4, vI x4), (5, vI x5), (6, vI x6)] 22 [] := by
    intro rec8 hrec8 S x4 x5 x6
    unfold f_X8_settlesPart_b22
    generalize FU = nf
    revert S x4 x5 x6
    induction nf with
    | zero => intro S x4 x5 x6 h9; cases h9
    | succ nf hrec22 =>
      intro S x4 x5 x6
      show F_X8_settlesPart_b22 p1 p2 p3 rec8 (fx (F_X8_settlesPart_b22 p1 p2 p3 rec8) nf) (S, x4, x5, x6) = some out → _
      generalize fx (F_X8_settlesPart_b22 p1 p2 p3 rec8) nf = rec22 at hrec22
      unfold F_X8_settlesPart_b22
      dsimp only
      refine s_iload hG dX8_settlesPart_22 rfl ?_
      refine s_aload_n hG dX8_settlesPart_24 rfl ?_
      refine s_getI hG dX8_settlesPart_25 fl_RX8_91 (rfl) ?_
      refine s_icmp_ge hG (tgt := 207) dX8_settlesPart_28 (by decide) ?_ ?_
      · refine s_goto hG (tgt := 8) dX8_settlesPart_207 (by decide) ?_
        refine s_lv hG [0, 1, 2, 3, 4] rfl ?_
        exact hrec8 _ _ _
      · refine s_aload_n hG dX8_settlesPart_31 rfl ?_
        refine s_getI hG dX8_settlesPart_32 fl_RX8_115 (rfl) ?_
        refine s_iload hG dX8_settlesPart_35 rfl ?_
        refine s_csP hG (as := [vI (S.1 36 27), vI x6]) (st := []) (rm := rm_X8_has) dX8_settlesPart_37 ml_RX8_104 (tb20 (mem_i 2 rfl)) rfl ⟨rfl, rfl⟩ ⟨by decide, by decide⟩ (Nat.le_of_ble_eq_true rfl) ⟨Nat.zero_le _, Nat.zero_le _⟩ rfl (fun o h => c_X8_has l _ _ _ o h) (fun o37 => ?_)
        refine s_if_eq hG (tgt := 201) dX8_settlesPart_40 (by decide) ?_ ?_
        · exact hb201 _ hrec8 _ hrec22 _ _ _ _
        · refine s_aload_n hG dX8_settlesPart_43 rfl ?_
          refine s_getC hG dX8_settlesPart_44 fl_RX8_26 (rfl) ?_
          refine s_iload hG dX8_settlesPart_47 rfl ?_
          refine s_iaload hG dX8_settlesPart_49 (rfl) ?_
          refine s_iload_n hG dX8_settlesPart_50 rfl ?_
          refine s_csP hG (as := [vI (S.1 42 x6.toNatClampNeg), vI p2]) (st := []) (rm := rm_X8_joins) dX8_settlesPart_51 ml_RX8_108 (tb20 (mem_i 11 rfl)) rfl ⟨rfl, rfl⟩ ⟨by decide, by decide⟩ (Nat.le_of_ble_eq_true rfl) ⟨Nat.zero_le _, Nat.zero_le _⟩ rfl (fun o h => c_X8_joins l _ _ _ o h) (fun o51 => ?_)
          refine s_if_eq hG (tgt := 201) dX8_settlesPart_54 (by decide) ?_ ?_
          · exact hb201 _ hrec8 _ hrec22 _ _ _ _
          · refine s_iload hG dX8_settlesPart_57 rfl ?_
            refine s_aload_n hG dX8_settlesPart_59 rfl ?_
            refine s_getC hG dX8_settlesPart_60 fl_RX8_29 (rfl) ?_
            refine s_iload hG dX8_settlesPart_63 rfl ?_
            refine s_iaload hG dX8_settlesPart_65 (rfl) ?_
            refine s_csP hG (as := [vI x4, vI (S.1 43 x6.toNatClampNeg)]) (st := []) (rm := rm_X8_has) dX8_settlesPart_66 ml_RX8_104 (tb20 (mem_i 2 rfl)) rfl ⟨rfl, rfl⟩ ⟨by decide, by decide⟩ (Nat.le_of_ble_eq_true rfl) ⟨Nat.zero_le _, Nat.zero_le _⟩ rfl (fun o h => c_X8_has l _ _ _ o h) (fun o66 => ?_)
            refine s_iload hG dX8_settlesPart_69 rfl ?_
            refine s_aload_n hG dX8_settlesPart_71 rfl ?_
            refine s_getC hG dX8_settlesPart_72 fl_RX8_32 (rfl) ?_
            refine s_iload hG dX8_settlesPart_75 rfl ?_
            refine s_iaload hG dX8_settlesPart_77 (rfl) ?_
            refine s_csP hG (as := [vI x4, vI (S.1 44 x6.toNatClampNeg)]) (st := [vI o66]) (rm := rm_X8_has) dX8_settlesPart_78 ml_RX8_104 (tb20 (mem_i 2 rfl)) rfl ⟨rfl, rfl⟩ ⟨by decide, by decide⟩ (Nat.le_of_ble_eq_true rfl) ⟨Nat.zero_le _, Nat.zero_le _⟩ rfl (fun o h => c_X8_has l _ _ _ o h) (fun o78 => ?_)
            refine s_icmp_eq hG (tgt := 201) dX8_settlesPart_81 (by decide) ?_ ?_
            · exact hb201 _ hrec8 _ hrec22 _ _ _ _
            · refine s_iload hG dX8_settlesPart_84 rfl ?_
              refine s_aload_n hG dX8_settlesPart_86 rfl ?_
              refine s_getC hG dX8_settlesPart_87 fl_RX8_29 (rfl) ?_
              refine s_iload hG dX8_settlesPart_90 rfl ?_
              refine s_iaload hG dX8_settlesPart_92 (rfl) ?_
              refine s_csP hG (as := [vI x4, vI (S.1 43 x6.toNatClampNeg)]) (st := []) (rm := rm_X8_has) dX8_settlesPart_93 ml_RX8_104 (tb20 (mem_i 2 rfl)) rfl ⟨rfl, rfl⟩ ⟨by decide, by decide⟩ (Nat.le_of_ble_eq_true rfl) ⟨Nat.zero_le _, Nat.zero_le _⟩ rfl (fun o h => c_X8_has l _ _ _ o h) (fun o93 => ?_)
              refine s_istore hG (lv' := [(7, vI o93), (0, vR 36), (1, vI p1), (2, vI p2), (4, vI x4), (5, vI x5), (6, vI x6)]) dX8_settlesPart_96 (by decide) rfl ?_
              refine s_iload hG dX8_settlesPart_98 rfl ?_
              refine s_if_eq hG (tgt := 113) dX8_settlesPart_100 (by decide) ?_ ?_
              · refine s_aload_n hG dX8_settlesPart_113 rfl ?_
                refine s_getC hG dX8_settlesPart_114 fl_RX8_29 (rfl) ?_
                refine s_iload hG dX8_settlesPart_117 rfl ?_
                refine s_iaload hG dX8_settlesPart_119 (rfl) ?_
                refine s_lv hG [1, 2, 3, 4, 5, 6, 0] rfl ?_
                exact hb120 _ hrec8 _ hrec22 _ _ _ _ _ _
              · refine s_aload_n hG dX8_settlesPart_103 rfl ?_
                refine s_getC hG dX8_settlesPart_104 fl_RX8_32 (rfl) ?_
                refine s_iload hG dX8_settlesPart_107 rfl ?_
                refine s_iaload hG dX8_settlesPart_109 (rfl) ?_
                refine s_goto hG (tgt := 120) dX8_settlesPart_110 (by decide) ?_
                refine s_lv hG [1, 2, 3, 4, 5, 6, 0] rfl ?_
                exact hb120 _ hrec8 _ hrec22 _ _ _ _ _ _
  have hb8 : ∀ (S : HS) (x4 : Int32) (x5 : Int32), f_X8_settlesPart_b8 p1 p2 p3 S x4 x5 = some out → G 0 0 S [(0, vR 36), (1, vI p1), (2, vI p2), (4, vI x4), (5, vI x5)] 8 [] := by
    intro  S x4 x5
    unfold f_X8_settlesPart_b8
    generalize FU = nf
    revert S x4 x5
    induction nf with
    | zero => intro S x4 x5 h9; cases h9
    | succ nf hrec8 =>
      intro S x4 x5
      show F_X8_settlesPart_b8 p1 p2 p3 (fx (F_X8_settlesPart_b8 p1 p2 p3) nf) (S, x4, x5) = some out → _
      generalize fx (F_X8_settlesPart_b8 p1 p2 p3) nf = rec8 at hrec8
      unfold F_X8_settlesPart_b8
      dsimp only
      refine s_iload hG dX8_settlesPart_8 rfl ?_
      refine s_iload hG dX8_settlesPart_10 rfl ?_
      refine s_icmp_eq hG (tgt := 210) dX8_settlesPart_12 (by decide) ?_ ?_
      · refine s_iconst hG (v := (0 : Int32)) dX8_settlesPart_210 (by decide) ?_
        refine s_istore hG (lv' := [(6, vI (0 : Int32)), (0, vR 36), (1, vI p1), (2, vI p2), (4, vI x4), (5, vI x5)]) dX8_settlesPart_211 (by decide) rfl ?_
        refine s_lv hG [1, 2, 3, 0] rfl ?_
        exact hb213 _ _
      · refine s_iload hG dX8_settlesPart_15 rfl ?_
        refine s_istore hG (lv' := [(5, vI x4), (0, vR 36), (1, vI p1), (2, vI p2), (4, vI x4)]) dX8_settlesPart_17 (by decide) rfl ?_
        refine s_iconst hG (v := (0 : Int32)) dX8_settlesPart_19 (by decide) ?_
        refine s_istore hG (lv' := [(6, vI (0 : Int32)), (5, vI x4), (0, vR 36), (1, vI p1), (2, vI p2), (4, vI x4)]) dX8_settlesPart_20 (by decide) rfl ?_
        refine s_lv hG [2, 3, 4, 5, 1, 0] rfl ?_
        exact hb22 _ hrec8 _ _ _ _
  unfold f_X8_settlesPart
  refine s_iconst hG (v := (1 : Int32)) dX8_settlesPart_0 (by decide) ?_
  refine s_iload_n hG dX8_settlesPart_1 rfl ?_
  refine s_ishl hG dX8_settlesPart_2 ?_
  refine s_istore hG (lv' := [(4, vI ((1 : Int32) <<< (p3 &&& 31))), (0, vR 36), (1, vI p1), (2, vI p2), (3, vI p3)]) dX8_settlesPart_3 (by decide) rfl ?_
  refine s_iconst hG (v := (0 : Int32)) dX8_settlesPart_5 (by decide) ?_
  refine s_istore hG (lv' := [(5, vI (0 : Int32)), (4, vI ((1 : Int32) <<< (p3 &&& 31))), (0, vR 36), (1, vI p1), (2, vI p2), (3, vI p3)]) dX8_settlesPart_6 (by decide) rfl ?_
  refine s_lv hG [2, 3, 4, 1, 0] rfl ?_
  exact hb8 _ _ _

def f_X8_settles_b95 (p1 : Int32) (p2 : Int32) (p3 : Int32) (rec6 : HS × Int32 × Int32 → Option (HS)) (S : HS) (x4 : Int32) (x5 : Int32) : Option (HS) :=
rec6 (S, x4, (x5 + (1 : Int32)))
def f_X8_settles_b92 (p1 : Int32) (p2 : Int32) (p3 : Int32) (rec6 : HS × Int32 × Int32 → Option (HS)) (S : HS) (x4 : Int32) (x5 : Int32) (t1 : Int32) (t2 : Int32) (t3 : Int32) : Option (HS) :=
(f_X8_settlesPart t1 t2 t3 S).bind (fun o92 =>
f_X8_settles_b95 p1 p2 p3 rec6 o92 x4 x5)
def F_X8_settles_b50 (p1 : Int32) (p2 : Int32) (p3 : Int32) (rec6 : HS × Int32 × Int32 → Option (HS)) (rec50 : HS × Int32 × Int32 × Int32 × Int32 → Option (HS)) : HS × Int32 × Int32 × Int32 × Int32 → Option (HS) := fun q => match q with
  | (S, x4, x5, x6, x7) =>
    (f_X8_has x6 x7 S).bind (fun o54 =>
    if o54 = 0 then
    rec50 (S, x4, x5, x6, (x7 + (1 : Int32)))
    else
    (f_X8_has x6 p1 S).bind (fun o80 =>
    if o80 = 0 then
    f_X8_settles_b92 p1 p2 p3 rec6 S (x4 ||| x6) x5 x6 p3 x7
    else
    f_X8_settles_b92 p1 p2 p3 rec6 S (x4 ||| x6) x5 x6 p3 p1))
def f_X8_settles_b50 (p1 : Int32) (p2 : Int32) (p3 : Int32) (rec6 : HS × Int32 × Int32 → Option (HS)) (S : HS) (x4 : Int32) (x5 : Int32) (x6 : Int32) (x7 : Int32) : Option (HS) := fx (F_X8_settles_b50 p1 p2 p3 rec6) FU (S, x4, x5, x6, x7)
def F_X8_settles_b6 (p1 : Int32) (p2 : Int32) (p3 : Int32)  (rec6 : HS × Int32 × Int32 → Option (HS)) : HS × Int32 × Int32 → Option (HS) := fun q => match q with
  | (S, x4, x5) =>
    if (S.1 36 2) ≤ x5 then
    some S
    else
    (f_X8_has p2 x5 S).bind (fun o18 =>
    if o18 = 0 then
    f_X8_settles_b95 p1 p2 p3 rec6 S x4 x5
    else
    (f_X8_has x4 x5 S).bind (fun o28 =>
    if o28 = 0 then
    (f_X8_partOf x5 p3 (S.1 36 27) S).bind (fun o42 =>
    f_X8_settles_b50 p1 p2 p3 rec6 S x4 x5 o42 (0 : Int32))
    else
    f_X8_settles_b95 p1 p2 p3 rec6 S x4 x5))
def f_X8_settles_b6 (p1 : Int32) (p2 : Int32) (p3 : Int32)  (S : HS) (x4 : Int32) (x5 : Int32) : Option (HS) := fx (F_X8_settles_b6 p1 p2 p3) FU (S, x4, x5)
def f_X8_settles (p1 : Int32) (p2 : Int32) (p3 : Int32) (S : HS) : Option (HS) :=
f_X8_settles_b6 p1 p2 p3  S (0 : Int32) (0 : Int32)
def rm_X8_settles : Room := { frames := 2, cells := 0, slots := 0, locals := 51 }
set_option maxRecDepth 100000 in
set_option maxHeartbeats 4000000 in
theorem c_X8_settles (l : Launch) (p1 : Int32) (p2 : Int32) (p3 : Int32)  (S : HS) (out : HS) (h : f_X8_settles p1 p2 p3 S = some out) : Ct l yX8_settles cX8_settles 8 none rm_X8_settles [vR 36, vI p1, vI p2, vI p3] S none out := by
  refine Ct.intro (own := RX8) (lv := [(0, vR 36), (1, vI p1), (2, vI p2), (3, vI p3)]) (by decide +kernel) rfl ⟨rfl, rfl⟩ rfl (Nat.le_of_ble_eq_true rfl) ?_
  intro G hG hR
  revert h
  have hb95 : ∀ (rec6 : HS × Int32 × Int32 → Option (HS)) (hrec6 : ∀ (S : HS) (x4 : Int32) (x5 : Int32), rec6 (S, x4, x5) = some out → G 0 0 S [(0, vR 36), (1, vI p1), (2, vI p2), (3, vI p3), (4, vI x4), (5, vI x5)] 6 []) (S : HS) (x4 : Int32) (x5 : Int32), f_X8_settles_b95 p1 p2 p3 rec6 S x4 x5 = some out → G 0 0 S [(0, vR 36), (1, vI p1), (2, vI p2), (3, vI p3), (4, vI x4), (5, vI x5)] 95 [] := by
    intro rec6 hrec6 S x4 x5
    unfold f_X8_settles_b95
    refine s_iinc hG (v := (x5 + (1 : Int32))) (lv' := [(5, vI (x5 + (1 : Int32))), (0, vR 36), (1, vI p1), (2, vI p2), (3, vI p3), (4, vI x4)]) dX8_settles_95 rfl rfl (by decide) rfl ?_
    refine s_goto hG (tgt := 6) dX8_settles_98 (by decide) ?_
    refine s_lv hG [1, 2, 3, 4, 5, 0] rfl ?_
    exact hrec6 _ _ _
  have hb92 : ∀ (rec6 : HS × Int32 × Int32 → Option (HS)) (hrec6 : ∀ (S : HS) (x4 : Int32) (x5 : Int32), rec6 (S, x4, x5) = some out → G 0 0 S [(0, vR 36), (1, vI p1), (2, vI p2), (3, vI p3), (4, vI x4), (5, vI x5)] 6 []) (S : HS) (x4 : Int32) (x5 : Int32) (t1 : Int32) (t2 : Int32) (t3 : Int32), f_X8_settles_b92 p1 p2 p3 rec6 S x4 x5 t1 t2 t3 = some out → G 0 0 S [(0, vR 36), (1, vI p1), (2, vI p2), (3, vI p3), (4, vI x4), (5, vI x5)] 92 [vI t3, vI t2, vI t1, vR 36] := by
    intro rec6 hrec6 S x4 x5 t1 t2 t3
    unfold f_X8_settles_b92
    refine s_cvV hG (as := [vI t1, vI t2, vI t3]) (st := []) (rm := rm_X8_settlesPart) dX8_settles_92 ml_RX8_126 (rfl) (tb20 (mem_i 20 rfl)) rfl ⟨rfl, rfl⟩ ⟨by decide, by decide⟩ (Nat.le_of_ble_eq_true rfl) ⟨Nat.zero_le _, Nat.zero_le _⟩ rfl (fun o h => c_X8_settlesPart l _ _ _ _ o h) (fun o92 => ?_)
    exact hb95 _ hrec6 _ _ _
  have hb50 : ∀ (rec6 : HS × Int32 × Int32 → Option (HS)) (hrec6 : ∀ (S : HS) (x4 : Int32) (x5 : Int32), rec6 (S, x4, x5) = some out → G 0 0 S [(0, vR 36), (1, vI p1), (2, vI p2), (3, vI p3), (4, vI x4), (5, vI x5)] 6 []) (S : HS) (x4 : Int32) (x5 : Int32) (x6 : Int32) (x7 : Int32), f_X8_settles_b50 p1 p2 p3 rec6 S x4 x5 x6 x7 = some out → G 0 0 S [(0, vR 36), (1, vI p1), (2, vI p2), (3, vI p3), (4, vI x4), (5, vI x5), (6, vI x6), (7, vI x7)] 50 [] := by
    intro rec6 hrec6 S x4 x5 x6 x7
    unfold f_X8_settles_b50
    generalize FU = nf
    revert S x4 x5 x6 x7
    induction nf with
    | zero => intro S x4 x5 x6 x7 h9; cases h9
    | succ nf hrec50 =>
      intro S x4 x5 x6 x7
      show F_X8_settles_b50 p1 p2 p3 rec6 (fx (F_X8_settles_b50 p1 p2 p3 rec6) nf) (S, x4, x5, x6, x7) = some out → _
      generalize fx (F_X8_settles_b50 p1 p2 p3 rec6) nf = rec50 at hrec50
      unfold F_X8_settles_b50
      dsimp only
      refine s_iload hG dX8_settles_50 rfl ?_
      refine s_iload hG dX8_settles_52 rfl ?_
      refine s_csP hG (as := [vI x6, vI x7]) (st := []) (rm := rm_X8_has) dX8_settles_54 ml_RX8_104 (tb20 (mem_i 2 rfl)) rfl ⟨rfl, rfl⟩ ⟨by decide, by decide⟩ (Nat.le_of_ble_eq_true rfl) ⟨Nat.zero_le _, Nat.zero_le _⟩ rfl (fun o h => c_X8_has l _ _ _ o h) (fun o54 => ?_)
      refine s_if_ne hG (tgt := 66) dX8_settles_57 (by decide) ?_ ?_
      · refine s_iload hG dX8_settles_66 rfl ?_
        refine s_iload hG dX8_settles_68 rfl ?_
        refine s_ior hG dX8_settles_70 ?_
        refine s_istore hG (lv' := [(4, vI (x4 ||| x6)), (0, vR 36), (1, vI p1), (2, vI p2), (3, vI p3), (5, vI x5), (6, vI x6), (7, vI x7)]) dX8_settles_71 (by decide) rfl ?_
        refine s_aload_n hG dX8_settles_73 rfl ?_
        refine s_iload hG dX8_settles_74 rfl ?_
        refine s_iload_n hG dX8_settles_76 rfl ?_
        refine s_iload hG dX8_settles_77 rfl ?_
        refine s_iload_n hG dX8_settles_79 rfl ?_
        refine s_csP hG (as := [vI x6, vI p1]) (st := [vI p3, vI x6, vR 36]) (rm := rm_X8_has) dX8_settles_80 ml_RX8_104 (tb20 (mem_i 2 rfl)) rfl ⟨rfl, rfl⟩ ⟨by decide, by decide⟩ (Nat.le_of_ble_eq_true rfl) ⟨Nat.zero_le _, Nat.zero_le _⟩ rfl (fun o h => c_X8_has l _ _ _ o h) (fun o80 => ?_)
        refine s_if_eq hG (tgt := 90) dX8_settles_83 (by decide) ?_ ?_
        · refine s_iload hG dX8_settles_90 rfl ?_
          refine s_lv hG [1, 2, 3, 4, 0, 5] rfl ?_
          exact hb92 _ hrec6 _ _ _ _ _ _
        · refine s_iload_n hG dX8_settles_86 rfl ?_
          refine s_goto hG (tgt := 92) dX8_settles_87 (by decide) ?_
          refine s_lv hG [1, 2, 3, 4, 0, 5] rfl ?_
          exact hb92 _ hrec6 _ _ _ _ _ _
      · refine s_iinc hG (v := (x7 + (1 : Int32))) (lv' := [(7, vI (x7 + (1 : Int32))), (0, vR 36), (1, vI p1), (2, vI p2), (3, vI p3), (4, vI x4), (5, vI x5), (6, vI x6)]) dX8_settles_60 rfl rfl (by decide) rfl ?_
        refine s_goto hG (tgt := 50) dX8_settles_63 (by decide) ?_
        refine s_lv hG [1, 2, 3, 4, 5, 6, 7, 0] rfl ?_
        exact hrec50 _ _ _ _ _
  have hb6 : ∀ (S : HS) (x4 : Int32) (x5 : Int32), f_X8_settles_b6 p1 p2 p3 S x4 x5 = some out → G 0 0 S [(0, vR 36), (1, vI p1), (2, vI p2), (3, vI p3), (4, vI x4), (5, vI x5)] 6 [] := by
    intro  S x4 x5
    unfold f_X8_settles_b6
    generalize FU = nf
    revert S x4 x5
    induction nf with
    | zero => intro S x4 x5 h9; cases h9
    | succ nf hrec6 =>
      intro S x4 x5
      show F_X8_settles_b6 p1 p2 p3 (fx (F_X8_settles_b6 p1 p2 p3) nf) (S, x4, x5) = some out → _
      generalize fx (F_X8_settles_b6 p1 p2 p3) nf = rec6 at hrec6
      unfold F_X8_settles_b6
      dsimp only
      refine s_iload hG dX8_settles_6 rfl ?_
      refine s_aload_n hG dX8_settles_8 rfl ?_
      refine s_getI hG dX8_settles_9 fl_RX8_88 (rfl) ?_
      refine s_icmp_ge hG (tgt := 101) dX8_settles_12 (by decide) ?_ ?_
      · exact s_rvC hR dX8_settles_101
      · refine s_iload_n hG dX8_settles_15 rfl ?_
        refine s_iload hG dX8_settles_16 rfl ?_
        refine s_csP hG (as := [vI p2, vI x5]) (st := []) (rm := rm_X8_has) dX8_settles_18 ml_RX8_104 (tb20 (mem_i 2 rfl)) rfl ⟨rfl, rfl⟩ ⟨by decide, by decide⟩ (Nat.le_of_ble_eq_true rfl) ⟨Nat.zero_le _, Nat.zero_le _⟩ rfl (fun o h => c_X8_has l _ _ _ o h) (fun o18 => ?_)
        refine s_if_eq hG (tgt := 95) dX8_settles_21 (by decide) ?_ ?_
        · exact hb95 _ hrec6 _ _ _
        · refine s_iload hG dX8_settles_24 rfl ?_
          refine s_iload hG dX8_settles_26 rfl ?_
          refine s_csP hG (as := [vI x4, vI x5]) (st := []) (rm := rm_X8_has) dX8_settles_28 ml_RX8_104 (tb20 (mem_i 2 rfl)) rfl ⟨rfl, rfl⟩ ⟨by decide, by decide⟩ (Nat.le_of_ble_eq_true rfl) ⟨Nat.zero_le _, Nat.zero_le _⟩ rfl (fun o h => c_X8_has l _ _ _ o h) (fun o28 => ?_)
          refine s_if_ne hG (tgt := 95) dX8_settles_31 (by decide) ?_ ?_
          · exact hb95 _ hrec6 _ _ _
          · refine s_aload_n hG dX8_settles_34 rfl ?_
            refine s_iload hG dX8_settles_35 rfl ?_
            refine s_iload_n hG dX8_settles_37 rfl ?_
            refine s_aload_n hG dX8_settles_38 rfl ?_
            refine s_getI hG dX8_settles_39 fl_RX8_115 (rfl) ?_
            refine s_cvP hG (as := [vI x5, vI p3, vI (S.1 36 27)]) (st := []) (rm := rm_X8_partOf) dX8_settles_42 ml_RX8_122 (rfl) (tb20 (mem_i 8 rfl)) rfl ⟨rfl, rfl⟩ ⟨by decide, by decide⟩ (Nat.le_of_ble_eq_true rfl) ⟨Nat.zero_le _, Nat.zero_le _⟩ rfl (fun o h => c_X8_partOf l _ _ _ _ o h) (fun o42 => ?_)
            refine s_istore hG (lv' := [(6, vI o42), (0, vR 36), (1, vI p1), (2, vI p2), (3, vI p3), (4, vI x4), (5, vI x5)]) dX8_settles_45 (by decide) rfl ?_
            refine s_iconst hG (v := (0 : Int32)) dX8_settles_47 (by decide) ?_
            refine s_istore hG (lv' := [(7, vI (0 : Int32)), (6, vI o42), (0, vR 36), (1, vI p1), (2, vI p2), (3, vI p3), (4, vI x4), (5, vI x5)]) dX8_settles_48 (by decide) rfl ?_
            refine s_lv hG [2, 3, 4, 5, 6, 7, 1, 0] rfl ?_
            exact hb50 _ hrec6 _ _ _ _ _
  unfold f_X8_settles
  refine s_iconst hG (v := (0 : Int32)) dX8_settles_0 (by decide) ?_
  refine s_istore hG (lv' := [(4, vI (0 : Int32)), (0, vR 36), (1, vI p1), (2, vI p2), (3, vI p3)]) dX8_settles_1 (by decide) rfl ?_
  refine s_iconst hG (v := (0 : Int32)) dX8_settles_3 (by decide) ?_
  refine s_istore hG (lv' := [(5, vI (0 : Int32)), (4, vI (0 : Int32)), (0, vR 36), (1, vI p1), (2, vI p2), (3, vI p3)]) dX8_settles_4 (by decide) rfl ?_
  refine s_lv hG [2, 3, 4, 5, 1, 0] rfl ?_
  exact hb6 _ _ _

def f_X8_lays_b235 (p1 : Int32)  (S : HS)  : Option (HS) :=
some (sI S 36 27 ((S.1 36 27) ||| ((1 : Int32) <<< (p1 &&& 31))))
def f_X8_lays_b222 (p1 : Int32)  (S : HS) (x5 : Int32) (x6 : Int32) (x7 : Int32) (t1 : Int32) : Option (HS) :=
if nz t1 = true then
(f_X8_shifts x6 x5 x7 (sI S 36 28 t1)).bind (fun o232 =>
f_X8_lays_b235 p1  o232)
else none
def f_X8_lays_b217 (p1 : Int32)  (S : HS) (x5 : Int32) (x6 : Int32) (x7 : Int32) : Option (HS) :=
f_X8_lays_b222 p1  S x5 x6 x7 (1 : Int32)
def f_X8_lays_b221 (p1 : Int32)  (S : HS) (x5 : Int32) (x6 : Int32) (x7 : Int32) : Option (HS) :=
f_X8_lays_b222 p1  S x5 x6 x7 (0 : Int32)
def f_X8_lays_b147 (p1 : Int32)  (S : HS) (x2 : Int32) (x3 : Int32) (t0 : Int32) : Option (HS) :=
(f_X8_partOf x3 t0 (S.1 36 27) S).bind (fun o157 =>
if ib (((4 : Int32) * x2) + t0) (40) = true then
(f_X8_stepOf p1 t0 S).bind (fun o177 =>
if ib (((4 : Int32) * x3) + t0) (40) = true then
if (S.1 36 28) = 0 then
if (((S.1 56 (((4 : Int32) * x2) + t0).toNatClampNeg) + o177) - (S.1 56 (((4 : Int32) * x3) + t0).toNatClampNeg)) = 0 then
f_X8_lays_b221 p1  S t0 o157 (((S.1 56 (((4 : Int32) * x2) + t0).toNatClampNeg) + o177) - (S.1 56 (((4 : Int32) * x3) + t0).toNatClampNeg))
else
(f_X8_has o157 x2 S).bind (fun o211 =>
if o211 = 0 then
f_X8_lays_b221 p1  S t0 o157 (((S.1 56 (((4 : Int32) * x2) + t0).toNatClampNeg) + o177) - (S.1 56 (((4 : Int32) * x3) + t0).toNatClampNeg))
else
f_X8_lays_b217 p1  S t0 o157 (((S.1 56 (((4 : Int32) * x2) + t0).toNatClampNeg) + o177) - (S.1 56 (((4 : Int32) * x3) + t0).toNatClampNeg)))
else
f_X8_lays_b217 p1  S t0 o157 (((S.1 56 (((4 : Int32) * x2) + t0).toNatClampNeg) + o177) - (S.1 56 (((4 : Int32) * x3) + t0).toNatClampNeg))
else none)
else none)
def f_X8_lays (p1 : Int32) (S : HS) : Option (HS) :=
if ib p1 (12) = true then
if ib p1 (12) = true then
if ib p1 (12) = true then
if (1 : Int32) < (S.1 42 p1.toNatClampNeg) then
if (S.1 42 p1.toNatClampNeg) = (6 : Int32) then
if ib ((4 : Int32) * (S.1 44 p1.toNatClampNeg)) (40) = true then
if ib ((4 : Int32) * (S.1 43 p1.toNatClampNeg)) (40) = true then
if ib p1 (12) = true then
if ib (((4 : Int32) * (S.1 44 p1.toNatClampNeg)) + (1 : Int32)) (40) = true then
if ib (((4 : Int32) * (S.1 43 p1.toNatClampNeg)) + (1 : Int32)) (40) = true then
if ib p1 (12) = true then
f_X8_lays_b235 p1  (sI (sI S 54 p1.toNatClampNeg ((S.1 56 ((4 : Int32) * (S.1 44 p1.toNatClampNeg)).toNatClampNeg) - (S.1 56 ((4 : Int32) * (S.1 43 p1.toNatClampNeg)).toNatClampNeg))) 55 p1.toNatClampNeg (((sI S 54 p1.toNatClampNeg ((S.1 56 ((4 : Int32) * (S.1 44 p1.toNatClampNeg)).toNatClampNeg) - (S.1 56 ((4 : Int32) * (S.1 43 p1.toNatClampNeg)).toNatClampNeg))).1 56 (((4 : Int32) * (S.1 44 p1.toNatClampNeg)) + (1 : Int32)).toNatClampNeg) - ((sI S 54 p1.toNatClampNeg ((S.1 56 ((4 : Int32) * (S.1 44 p1.toNatClampNeg)).toNatClampNeg) - (S.1 56 ((4 : Int32) * (S.1 43 p1.toNatClampNeg)).toNatClampNeg))).1 56 (((4 : Int32) * (S.1 43 p1.toNatClampNeg)) + (1 : Int32)).toNatClampNeg)))
else none
else none
else none
else none
else none
else none
else
if (3 : Int32) < (S.1 42 p1.toNatClampNeg) then
f_X8_lays_b147 p1  S (S.1 43 p1.toNatClampNeg) (S.1 44 p1.toNatClampNeg) (1 : Int32)
else
f_X8_lays_b147 p1  S (S.1 43 p1.toNatClampNeg) (S.1 44 p1.toNatClampNeg) (0 : Int32)
else
(f_X8_partOf (S.1 44 p1.toNatClampNeg) ((2 : Int32) + (S.1 42 p1.toNatClampNeg)) (S.1 36 27) S).bind (fun o39 =>
if ib ((((4 : Int32) * (S.1 43 p1.toNatClampNeg)) + (2 : Int32)) + (S.1 42 p1.toNatClampNeg)) (40) = true then
(f_X8_sizes o39 ((2 : Int32) + (S.1 42 p1.toNatClampNeg)) (S.1 56 ((((4 : Int32) * (S.1 43 p1.toNatClampNeg)) + (2 : Int32)) + (S.1 42 p1.toNatClampNeg)).toNatClampNeg) S).bind (fun o59 =>
(f_X8_settles (S.1 43 p1.toNatClampNeg) o59.2 (S.1 42 p1.toNatClampNeg) o59.1).bind (fun o70 =>
f_X8_lays_b235 p1  o70))
else none)
else none
else none
else none
def rm_X8_lays : Room := { frames := 3, cells := 0, slots := 0, locals := 78 }
set_option maxRecDepth 100000 in
set_option maxHeartbeats 4000000 in
theorem c_X8_lays (l : Launch) (p1 : Int32)  (S : HS) (out : HS) (h : f_X8_lays p1 S = some out) : Ct l yX8_lays cX8_lays 8 none rm_X8_lays [vR 36, vI p1] S none out := by
  refine Ct.intro (own := RX8) (lv := [(0, vR 36), (1, vI p1)]) (by decide +kernel) rfl ⟨rfl, rfl⟩ rfl (Nat.le_of_ble_eq_true rfl) ?_
  intro G hG hR
  revert h
  have hb235 : ∀ (S : HS), f_X8_lays_b235 p1 S  = some out → G 0 0 S [(0, vR 36), (1, vI p1)] 235 [] := by
    intro S
    unfold f_X8_lays_b235
    refine s_aload_n hG dX8_lays_235 rfl ?_
    refine s_dup hG dX8_lays_236 rfl ?_
    refine s_getI hG dX8_lays_237 fl_RX8_115 (rfl) ?_
    refine s_iconst hG (v := (1 : Int32)) dX8_lays_240 (by decide) ?_
    refine s_iload_n hG dX8_lays_241 rfl ?_
    refine s_ishl hG dX8_lays_242 ?_
    refine s_ior hG dX8_lays_243 ?_
    refine s_putI hG dX8_lays_244 fl_RX8_115 fp_8_27 (rfl) ⟨rfl, rfl⟩ ?_
    exact s_rvC hR dX8_lays_247
  have hb222 : ∀ (S : HS) (x5 : Int32) (x6 : Int32) (x7 : Int32) (t1 : Int32), f_X8_lays_b222 p1 S x5 x6 x7 t1 = some out → G 0 0 S [(0, vR 36), (1, vI p1), (5, vI x5), (6, vI x6), (7, vI x7)] 222 [vI t1, vR 36] := by
    intro S x5 x6 x7 t1
    unfold f_X8_lays_b222
    refine s_putZ hG dX8_lays_222 fl_RX8_111 fp_8_28 (rfl) ?_
    refine s_aload_n hG dX8_lays_225 rfl ?_
    refine s_iload hG dX8_lays_226 rfl ?_
    refine s_iload hG dX8_lays_228 rfl ?_
    refine s_iload hG dX8_lays_230 rfl ?_
    refine s_cvV hG (as := [vI x6, vI x5, vI x7]) (st := []) (rm := rm_X8_shifts) dX8_lays_232 ml_RX8_136 (rfl) (tb20 (mem_i 26 rfl)) rfl ⟨rfl, rfl⟩ ⟨by decide, by decide⟩ (Nat.le_of_ble_eq_true rfl) ⟨Nat.zero_le _, Nat.zero_le _⟩ rfl (fun o h => c_X8_shifts l _ _ _ _ o h) (fun o232 => ?_)
    refine s_lv hG [0, 1] rfl ?_
    exact hb235 _
  have hb217 : ∀ (S : HS) (x5 : Int32) (x6 : Int32) (x7 : Int32), f_X8_lays_b217 p1 S x5 x6 x7 = some out → G 0 0 S [(0, vR 36), (1, vI p1), (5, vI x5), (6, vI x6), (7, vI x7)] 217 [vR 36] := by
    intro S x5 x6 x7
    unfold f_X8_lays_b217
    refine s_iconst hG (v := (1 : Int32)) dX8_lays_217 (by decide) ?_
    refine s_goto hG (tgt := 222) dX8_lays_218 (by decide) ?_
    exact hb222 _ _ _ _ _
  have hb221 : ∀ (S : HS) (x5 : Int32) (x6 : Int32) (x7 : Int32), f_X8_lays_b221 p1 S x5 x6 x7 = some out → G 0 0 S [(0, vR 36), (1, vI p1), (5, vI x5), (6, vI x6), (7, vI x7)] 221 [vR 36] := by
    intro S x5 x6 x7
    unfold f_X8_lays_b221
    refine s_iconst hG (v := (0 : Int32)) dX8_lays_221 (by decide) ?_
    exact hb222 _ _ _ _ _
  have hb147 : ∀ (S : HS) (x2 : Int32) (x3 : Int32) (t0 : Int32), f_X8_lays_b147 p1 S x2 x3 t0 = some out → G 0 0 S [(0, vR 36), (1, vI p1), (2, vI x2), (3, vI x3)] 147 [vI t0] := by
    intro S x2 x3 t0
    unfold f_X8_lays_b147
    refine s_istore hG (lv' := [(5, vI t0), (0, vR 36), (1, vI p1), (2, vI x2), (3, vI x3)]) dX8_lays_147 (by decide) rfl ?_
    refine s_aload_n hG dX8_lays_149 rfl ?_
    refine s_iload_n hG dX8_lays_150 rfl ?_
    refine s_iload hG dX8_lays_151 rfl ?_
    refine s_aload_n hG dX8_lays_153 rfl ?_
    refine s_getI hG dX8_lays_154 fl_RX8_115 (rfl) ?_
    refine s_cvP hG (as := [vI x3, vI t0, vI (S.1 36 27)]) (st := []) (rm := rm_X8_partOf) dX8_lays_157 ml_RX8_122 (rfl) (tb20 (mem_i 8 rfl)) rfl ⟨rfl, rfl⟩ ⟨by decide, by decide⟩ (Nat.le_of_ble_eq_true rfl) ⟨Nat.zero_le _, Nat.zero_le _⟩ rfl (fun o h => c_X8_partOf l _ _ _ _ o h) (fun o157 => ?_)
    refine s_istore hG (lv' := [(6, vI o157), (5, vI t0), (0, vR 36), (1, vI p1), (2, vI x2), (3, vI x3)]) dX8_lays_160 (by decide) rfl ?_
    refine s_aload_n hG dX8_lays_162 rfl ?_
    refine s_getC hG dX8_lays_163 fl_RX8_68 (rfl) ?_
    refine s_iconst hG (v := (4 : Int32)) dX8_lays_166 (by decide) ?_
    refine s_iload_n hG dX8_lays_167 rfl ?_
    refine s_imul hG dX8_lays_168 ?_
    refine s_iload hG dX8_lays_169 rfl ?_
    refine s_iadd hG dX8_lays_171 ?_
    refine s_iaload hG dX8_lays_172 (rfl) ?_
    refine s_aload_n hG dX8_lays_173 rfl ?_
    refine s_iload_n hG dX8_lays_174 rfl ?_
    refine s_iload hG dX8_lays_175 rfl ?_
    refine s_cvP hG (as := [vI p1, vI t0]) (st := [vI (S.1 56 (((4 : Int32) * x2) + t0).toNatClampNeg)]) (rm := rm_X8_stepOf) dX8_lays_177 ml_RX8_118 (rfl) (tb20 (mem_i 23 rfl)) rfl ⟨rfl, rfl⟩ ⟨by decide, by decide⟩ (Nat.le_of_ble_eq_true rfl) ⟨Nat.zero_le _, Nat.zero_le _⟩ rfl (fun o h => c_X8_stepOf l _ _ _ o h) (fun o177 => ?_)
    refine s_iadd hG dX8_lays_180 ?_
    refine s_aload_n hG dX8_lays_181 rfl ?_
    refine s_getC hG dX8_lays_182 fl_RX8_68 (rfl) ?_
    refine s_iconst hG (v := (4 : Int32)) dX8_lays_185 (by decide) ?_
    refine s_iload_n hG dX8_lays_186 rfl ?_
    refine s_imul hG dX8_lays_187 ?_
    refine s_iload hG dX8_lays_188 rfl ?_
    refine s_iadd hG dX8_lays_190 ?_
    refine s_iaload hG dX8_lays_191 (rfl) ?_
    refine s_isub hG dX8_lays_192 ?_
    refine s_istore hG (lv' := [(7, vI (((S.1 56 (((4 : Int32) * x2) + t0).toNatClampNeg) + o177) - (S.1 56 (((4 : Int32) * x3) + t0).toNatClampNeg))), (6, vI o157), (5, vI t0), (0, vR 36), (1, vI p1), (2, vI x2), (3, vI x3)]) dX8_lays_193 (by decide) rfl ?_
    refine s_aload_n hG dX8_lays_195 rfl ?_
    refine s_aload_n hG dX8_lays_196 rfl ?_
    refine s_getI hG dX8_lays_197 fl_RX8_111 (rfl) ?_
    refine s_if_ne hG (tgt := 217) dX8_lays_200 (by decide) ?_ ?_
    · refine s_lv hG [3, 4, 2, 1, 0] rfl ?_
      exact hb217 _ _ _ _
    · refine s_iload hG dX8_lays_203 rfl ?_
      refine s_if_eq hG (tgt := 221) dX8_lays_205 (by decide) ?_ ?_
      · refine s_lv hG [3, 4, 2, 1, 0] rfl ?_
        exact hb221 _ _ _ _
      · refine s_iload hG dX8_lays_208 rfl ?_
        refine s_iload_n hG dX8_lays_210 rfl ?_
        refine s_csP hG (as := [vI o157, vI x2]) (st := [vR 36]) (rm := rm_X8_has) dX8_lays_211 ml_RX8_104 (tb20 (mem_i 2 rfl)) rfl ⟨rfl, rfl⟩ ⟨by decide, by decide⟩ (Nat.le_of_ble_eq_true rfl) ⟨Nat.zero_le _, Nat.zero_le _⟩ rfl (fun o h => c_X8_has l _ _ _ o h) (fun o211 => ?_)
        refine s_if_eq hG (tgt := 221) dX8_lays_214 (by decide) ?_ ?_
        · refine s_lv hG [3, 4, 2, 1, 0] rfl ?_
          exact hb221 _ _ _ _
        · refine s_lv hG [3, 4, 2, 1, 0] rfl ?_
          exact hb217 _ _ _ _
  unfold f_X8_lays
  refine s_aload_n hG dX8_lays_0 rfl ?_
  refine s_getC hG dX8_lays_1 fl_RX8_29 (rfl) ?_
  refine s_iload_n hG dX8_lays_4 rfl ?_
  refine s_iaload hG dX8_lays_5 (rfl) ?_
  refine s_istore_n hG (lv' := [(2, vI (S.1 43 p1.toNatClampNeg)), (0, vR 36), (1, vI p1)]) dX8_lays_6 (by decide) rfl ?_
  refine s_aload_n hG dX8_lays_7 rfl ?_
  refine s_getC hG dX8_lays_8 fl_RX8_32 (rfl) ?_
  refine s_iload_n hG dX8_lays_11 rfl ?_
  refine s_iaload hG dX8_lays_12 (rfl) ?_
  refine s_istore_n hG (lv' := [(3, vI (S.1 44 p1.toNatClampNeg)), (2, vI (S.1 43 p1.toNatClampNeg)), (0, vR 36), (1, vI p1)]) dX8_lays_13 (by decide) rfl ?_
  refine s_aload_n hG dX8_lays_14 rfl ?_
  refine s_getC hG dX8_lays_15 fl_RX8_26 (rfl) ?_
  refine s_iload_n hG dX8_lays_18 rfl ?_
  refine s_iaload hG dX8_lays_19 (rfl) ?_
  refine s_istore hG (lv' := [(4, vI (S.1 42 p1.toNatClampNeg)), (3, vI (S.1 44 p1.toNatClampNeg)), (2, vI (S.1 43 p1.toNatClampNeg)), (0, vR 36), (1, vI p1)]) dX8_lays_20 (by decide) rfl ?_
  refine s_iload hG dX8_lays_22 rfl ?_
  refine s_iconst hG (v := (1 : Int32)) dX8_lays_24 (by decide) ?_
  refine s_icmp_gt hG (tgt := 76) dX8_lays_25 (by decide) ?_ ?_
  · refine s_iload hG dX8_lays_76 rfl ?_
    refine s_bipush hG (v := (6 : Int32)) dX8_lays_78 (by decide) ?_
    refine s_icmp_ne hG (tgt := 136) dX8_lays_80 (by decide) ?_ ?_
    · refine s_iload hG dX8_lays_136 rfl ?_
      refine s_iconst hG (v := (3 : Int32)) dX8_lays_138 (by decide) ?_
      refine s_icmp_gt hG (tgt := 146) dX8_lays_139 (by decide) ?_ ?_
      · refine s_iconst hG (v := (1 : Int32)) dX8_lays_146 (by decide) ?_
        refine s_lv hG [3, 4, 2, 1] rfl ?_
        exact hb147 _ _ _ _
      · refine s_iconst hG (v := (0 : Int32)) dX8_lays_142 (by decide) ?_
        refine s_goto hG (tgt := 147) dX8_lays_143 (by decide) ?_
        refine s_lv hG [3, 4, 2, 1] rfl ?_
        exact hb147 _ _ _ _
    · refine s_aload_n hG dX8_lays_83 rfl ?_
      refine s_getC hG dX8_lays_84 fl_RX8_62 (rfl) ?_
      refine s_iload_n hG dX8_lays_87 rfl ?_
      refine s_aload_n hG dX8_lays_88 rfl ?_
      refine s_getC hG dX8_lays_89 fl_RX8_68 (rfl) ?_
      refine s_iconst hG (v := (4 : Int32)) dX8_lays_92 (by decide) ?_
      refine s_iload_n hG dX8_lays_93 rfl ?_
      refine s_imul hG dX8_lays_94 ?_
      refine s_iaload hG dX8_lays_95 (rfl) ?_
      refine s_aload_n hG dX8_lays_96 rfl ?_
      refine s_getC hG dX8_lays_97 fl_RX8_68 (rfl) ?_
      refine s_iconst hG (v := (4 : Int32)) dX8_lays_100 (by decide) ?_
      refine s_iload_n hG dX8_lays_101 rfl ?_
      refine s_imul hG dX8_lays_102 ?_
      refine s_iaload hG dX8_lays_103 (rfl) ?_
      refine s_isub hG dX8_lays_104 ?_
      refine s_iastore hG dX8_lays_105 (rfl) ?_
      refine s_aload_n hG dX8_lays_106 rfl ?_
      refine s_getC hG dX8_lays_107 fl_RX8_65 (rfl) ?_
      refine s_iload_n hG dX8_lays_110 rfl ?_
      refine s_aload_n hG dX8_lays_111 rfl ?_
      refine s_getC hG dX8_lays_112 fl_RX8_68 (rfl) ?_
      refine s_iconst hG (v := (4 : Int32)) dX8_lays_115 (by decide) ?_
      refine s_iload_n hG dX8_lays_116 rfl ?_
      refine s_imul hG dX8_lays_117 ?_
      refine s_iconst hG (v := (1 : Int32)) dX8_lays_118 (by decide) ?_
      refine s_iadd hG dX8_lays_119 ?_
      refine s_iaload hG dX8_lays_120 (rfl) ?_
      refine s_aload_n hG dX8_lays_121 rfl ?_
      refine s_getC hG dX8_lays_122 fl_RX8_68 (rfl) ?_
      refine s_iconst hG (v := (4 : Int32)) dX8_lays_125 (by decide) ?_
      refine s_iload_n hG dX8_lays_126 rfl ?_
      refine s_imul hG dX8_lays_127 ?_
      refine s_iconst hG (v := (1 : Int32)) dX8_lays_128 (by decide) ?_
      refine s_iadd hG dX8_lays_129 ?_
      refine s_iaload hG dX8_lays_130 (rfl) ?_
      refine s_isub hG dX8_lays_131 ?_
      refine s_iastore hG dX8_lays_132 (rfl) ?_
      refine s_goto hG (tgt := 235) dX8_lays_133 (by decide) ?_
      refine s_lv hG [3, 4] rfl ?_
      exact hb235 _
  · refine s_aload_n hG dX8_lays_28 rfl ?_
    refine s_aload_n hG dX8_lays_29 rfl ?_
    refine s_iload_n hG dX8_lays_30 rfl ?_
    refine s_iconst hG (v := (2 : Int32)) dX8_lays_31 (by decide) ?_
    refine s_iload hG dX8_lays_32 rfl ?_
    refine s_iadd hG dX8_lays_34 ?_
    refine s_aload_n hG dX8_lays_35 rfl ?_
    refine s_getI hG dX8_lays_36 fl_RX8_115 (rfl) ?_
    refine s_cvP hG (as := [vI (S.1 44 p1.toNatClampNeg), vI ((2 : Int32) + (S.1 42 p1.toNatClampNeg)), vI (S.1 36 27)]) (st := [vR 36]) (rm := rm_X8_partOf) dX8_lays_39 ml_RX8_122 (rfl) (tb20 (mem_i 8 rfl)) rfl ⟨rfl, rfl⟩ ⟨by decide, by decide⟩ (Nat.le_of_ble_eq_true rfl) ⟨Nat.zero_le _, Nat.zero_le _⟩ rfl (fun o h => c_X8_partOf l _ _ _ _ o h) (fun o39 => ?_)
    refine s_iconst hG (v := (2 : Int32)) dX8_lays_42 (by decide) ?_
    refine s_iload hG dX8_lays_43 rfl ?_
    refine s_iadd hG dX8_lays_45 ?_
    refine s_aload_n hG dX8_lays_46 rfl ?_
    refine s_getC hG dX8_lays_47 fl_RX8_68 (rfl) ?_
    refine s_iconst hG (v := (4 : Int32)) dX8_lays_50 (by decide) ?_
    refine s_iload_n hG dX8_lays_51 rfl ?_
    refine s_imul hG dX8_lays_52 ?_
    refine s_iconst hG (v := (2 : Int32)) dX8_lays_53 (by decide) ?_
    refine s_iadd hG dX8_lays_54 ?_
    refine s_iload hG dX8_lays_55 rfl ?_
    refine s_iadd hG dX8_lays_57 ?_
    refine s_iaload hG dX8_lays_58 (rfl) ?_
    refine s_cvI hG (as := [vI o39, vI ((2 : Int32) + (S.1 42 p1.toNatClampNeg)), vI (S.1 56 ((((4 : Int32) * (S.1 43 p1.toNatClampNeg)) + (2 : Int32)) + (S.1 42 p1.toNatClampNeg)).toNatClampNeg)]) (st := []) (rm := rm_X8_sizes) dX8_lays_59 ml_RX8_130 (rfl) (tb20 (mem_i 14 rfl)) rfl ⟨rfl, rfl⟩ ⟨by decide, by decide⟩ (Nat.le_of_ble_eq_true rfl) ⟨Nat.zero_le _, Nat.zero_le _⟩ rfl (fun o h => c_X8_sizes l _ _ _ _ o h) (fun o59 => ?_)
    refine s_istore hG (lv' := [(5, vI o59.2), (4, vI (S.1 42 p1.toNatClampNeg)), (3, vI (S.1 44 p1.toNatClampNeg)), (2, vI (S.1 43 p1.toNatClampNeg)), (0, vR 36), (1, vI p1)]) dX8_lays_62 (by decide) rfl ?_
    refine s_aload_n hG dX8_lays_64 rfl ?_
    refine s_iload_n hG dX8_lays_65 rfl ?_
    refine s_iload hG dX8_lays_66 rfl ?_
    refine s_iload hG dX8_lays_68 rfl ?_
    refine s_cvV hG (as := [vI (S.1 43 p1.toNatClampNeg), vI o59.2, vI (S.1 42 p1.toNatClampNeg)]) (st := []) (rm := rm_X8_settles) dX8_lays_70 ml_RX8_133 (rfl) (tb20 (mem_i 17 rfl)) rfl ⟨rfl, rfl⟩ ⟨by decide, by decide⟩ (Nat.le_of_ble_eq_true rfl) ⟨Nat.zero_le _, Nat.zero_le _⟩ rfl (fun o h => c_X8_settles l _ _ _ _ o h) (fun o70 => ?_)
    refine s_goto hG (tgt := 235) dX8_lays_73 (by decide) ?_
    refine s_lv hG [4, 5] rfl ?_
    exact hb235 _

def f_X8_can_b14 (p1 : Int32)  (S : HS) (t0 : Int32) : Option (HS × Int32) :=
if nz t0 = true then some (S, t0) else none
def f_X8_can (p1 : Int32) (S : HS) : Option (HS × Int32) :=
if p1 = 0 then
f_X8_can_b14 p1  (sI S 36 36 p1) (1 : Int32)
else
f_X8_can_b14 p1  (sI S 36 36 p1) (0 : Int32)
def rm_X8_can : Room := { frames := 0, cells := 0, slots := 0, locals := 0 }
set_option maxRecDepth 100000 in
set_option maxHeartbeats 4000000 in
theorem c_X8_can (l : Launch) (p1 : Int32)  (S : HS) (out : HS × Int32) (h : f_X8_can p1 S = some out) : Ct l yX8_can cX8_can 2 (some .boolean) rm_X8_can [vR 36, vI p1] S (some (vI out.2)) out.1 := by
  refine Ct.intro (own := RX8) (lv := [(0, vR 36), (1, vI p1)]) (by decide +kernel) rfl ⟨rfl, rfl⟩ rfl (Nat.le_of_ble_eq_true rfl) ?_
  intro G hG hR
  revert h
  have hb14 : ∀ (S : HS) (t0 : Int32), f_X8_can_b14 p1 S t0 = some out → G 0 0 S [] 14 [vI t0] := by
    intro S t0
    unfold f_X8_can_b14
    exact s_rzC hR dX8_can_14
  unfold f_X8_can
  refine s_aload_n hG dX8_can_0 rfl ?_
  refine s_iload_n hG dX8_can_1 rfl ?_
  refine s_putI hG dX8_can_2 fl_RX8_80 fp_8_36 (rfl) ⟨rfl, rfl⟩ ?_
  refine s_iload_n hG dX8_can_5 rfl ?_
  refine s_if_ne hG (tgt := 13) dX8_can_6 (by decide) ?_ ?_
  · refine s_iconst hG (v := (0 : Int32)) dX8_can_13 (by decide) ?_
    refine s_lv hG [] rfl ?_
    exact hb14 _ _
  · refine s_iconst hG (v := (1 : Int32)) dX8_can_9 (by decide) ?_
    refine s_goto hG (tgt := 14) dX8_can_10 (by decide) ?_
    refine s_lv hG [] rfl ?_
    exact hb14 _ _

def f_X8_isIn_b15 (p0 : Int32) (p1 : Int32) (p2 : Int32)  (S : HS) (t0 : Int32) : Option (Int32) :=
if nz t0 = true then some t0 else none
def f_X8_isIn_b14 (p0 : Int32) (p1 : Int32) (p2 : Int32)  (S : HS)  : Option (Int32) :=
f_X8_isIn_b15 p0 p1 p2  S (0 : Int32)
def f_X8_isIn (p0 : Int32) (p1 : Int32) (p2 : Int32) (S : HS) : Option (Int32) :=
if p0 < p1 then
f_X8_isIn_b14 p0 p1 p2  S
else
if p2 < p0 then
f_X8_isIn_b14 p0 p1 p2  S
else
f_X8_isIn_b15 p0 p1 p2  S (1 : Int32)
def rm_X8_isIn : Room := { frames := 0, cells := 0, slots := 0, locals := 0 }
set_option maxRecDepth 100000 in
set_option maxHeartbeats 4000000 in
theorem c_X8_isIn (l : Launch) (p0 : Int32) (p1 : Int32) (p2 : Int32)  (S : HS) (out : Int32) (h : f_X8_isIn p0 p1 p2 S = some out) : Ct l yX8_isIn cX8_isIn 3 (some .boolean) rm_X8_isIn [vI p0, vI p1, vI p2] S (some (vI out)) S := by
  refine Ct.intro (own := RX8) (lv := [(0, vI p0), (1, vI p1), (2, vI p2)]) (by decide +kernel) rfl ⟨rfl, rfl⟩ rfl (Nat.le_of_ble_eq_true rfl) ?_
  intro G hG hR
  revert h
  have hb15 : ∀ (t0 : Int32), f_X8_isIn_b15 p0 p1 p2 S t0 = some out → G 0 0 S [] 15 [vI t0] := by
    intro t0
    unfold f_X8_isIn_b15
    exact s_rzP hR dX8_isIn_15
  have hb14 :  f_X8_isIn_b14 p0 p1 p2 S  = some out → G 0 0 S [] 14 [] := by
    skip
    unfold f_X8_isIn_b14
    refine s_iconst hG (v := (0 : Int32)) dX8_isIn_14 (by decide) ?_
    exact hb15 _
  unfold f_X8_isIn
  refine s_iload_n hG dX8_isIn_0 rfl ?_
  refine s_iload_n hG dX8_isIn_1 rfl ?_
  refine s_icmp_lt hG (tgt := 14) dX8_isIn_2 (by decide) ?_ ?_
  · refine s_lv hG [] rfl ?_
    exact hb14 
  · refine s_iload_n hG dX8_isIn_5 rfl ?_
    refine s_iload_n hG dX8_isIn_6 rfl ?_
    refine s_icmp_gt hG (tgt := 14) dX8_isIn_7 (by decide) ?_ ?_
    · refine s_lv hG [] rfl ?_
      exact hb14 
    · refine s_iconst hG (v := (1 : Int32)) dX8_isIn_10 (by decide) ?_
      refine s_goto hG (tgt := 15) dX8_isIn_11 (by decide) ?_
      refine s_lv hG [] rfl ?_
      exact hb15 _

def f_X8_spell_b85 (p1 : Int32) (rec60 : HS × Int32 × Int32 → Option (HS × Int32)) (S : HS) (x3 : Int32) (t0 : Int32) (t1 : Int32) : Option (HS × Int32) :=
rec60 (S, (t0 + t1), (x3 + (1 : Int32)))
def F_X8_spell_b60 (p1 : Int32)  (rec60 : HS × Int32 × Int32 → Option (HS × Int32)) : HS × Int32 × Int32 → Option (HS × Int32) := fun q => match q with
  | (S, x2, x3) =>
    if (S.1 36 0) ≤ x3 then
    some (S, x2)
    else
    if ib x3 (5) = true then
    if (S.1 37 x3.toNatClampNeg) = (26 : Int32) then
    f_X8_spell_b85 p1 rec60 S x3 x2 (2 : Int32)
    else
    f_X8_spell_b85 p1 rec60 S x3 x2 (1 : Int32)
    else none
def f_X8_spell_b60 (p1 : Int32)  (S : HS) (x2 : Int32) (x3 : Int32) : Option (HS × Int32) := fx (F_X8_spell_b60 p1) FU (S, x2, x3)
def f_X8_spell_b28 (p1 : Int32)  (S : HS) (t1 : Int32) : Option (HS × Int32) :=
(f_X8_can t1 S).bind (fun o28 =>
if o28.2 = 0 then
some (o28.1, (0 : Int32))
else
if ib (o28.1.1 36 0) (5) = true then
f_X8_spell_b60 p1  (sI (sI o28.1 37 (o28.1.1 36 0).toNatClampNeg p1) 36 0 (((sI o28.1 37 (o28.1.1 36 0).toNatClampNeg p1).1 36 0) + (1 : Int32))) (0 : Int32) (0 : Int32)
else none)
def f_X8_spell (p1 : Int32) (S : HS) : Option (HS × Int32) :=
(f_X8_isIn p1 (0 : Int32) (26 : Int32) S).bind (fun o5 =>
if o5 = 0 then
f_X8_spell_b28 p1  S (1 : Int32)
else
if (S.1 36 0) = (5 : Int32) then
f_X8_spell_b28 p1  S (2 : Int32)
else
f_X8_spell_b28 p1  S (0 : Int32))
def rm_X8_spell : Room := { frames := 1, cells := 0, slots := 0, locals := 22 }
set_option maxRecDepth 100000 in
set_option maxHeartbeats 4000000 in
theorem c_X8_spell (l : Launch) (p1 : Int32)  (S : HS) (out : HS × Int32) (h : f_X8_spell p1 S = some out) : Ct l yX8_spell cX8_spell 4 (some .int) rm_X8_spell [vR 36, vI p1] S (some (vI out.2)) out.1 := by
  refine Ct.intro (own := RX8) (lv := [(0, vR 36), (1, vI p1)]) (by decide +kernel) rfl ⟨rfl, rfl⟩ rfl (Nat.le_of_ble_eq_true rfl) ?_
  intro G hG hR
  revert h
  have hb85 : ∀ (rec60 : HS × Int32 × Int32 → Option (HS × Int32)) (hrec60 : ∀ (S : HS) (x2 : Int32) (x3 : Int32), rec60 (S, x2, x3) = some out → G 0 0 S [(0, vR 36), (2, vI x2), (3, vI x3)] 60 []) (S : HS) (x3 : Int32) (t0 : Int32) (t1 : Int32), f_X8_spell_b85 p1 rec60 S x3 t0 t1 = some out → G 0 0 S [(0, vR 36), (3, vI x3)] 85 [vI t1, vI t0] := by
    intro rec60 hrec60 S x3 t0 t1
    unfold f_X8_spell_b85
    refine s_iadd hG dX8_spell_85 ?_
    refine s_istore_n hG (lv' := [(2, vI (t0 + t1)), (0, vR 36), (3, vI x3)]) dX8_spell_86 (by decide) rfl ?_
    refine s_iinc hG (v := (x3 + (1 : Int32))) (lv' := [(3, vI (x3 + (1 : Int32))), (2, vI (t0 + t1)), (0, vR 36)]) dX8_spell_87 rfl rfl (by decide) rfl ?_
    refine s_goto hG (tgt := 60) dX8_spell_90 (by decide) ?_
    refine s_lv hG [2, 1, 0] rfl ?_
    exact hrec60 _ _ _
  have hb60 : ∀ (S : HS) (x2 : Int32) (x3 : Int32), f_X8_spell_b60 p1 S x2 x3 = some out → G 0 0 S [(0, vR 36), (2, vI x2), (3, vI x3)] 60 [] := by
    intro  S x2 x3
    unfold f_X8_spell_b60
    generalize FU = nf
    revert S x2 x3
    induction nf with
    | zero => intro S x2 x3 h9; cases h9
    | succ nf hrec60 =>
      intro S x2 x3
      show F_X8_spell_b60 p1 (fx (F_X8_spell_b60 p1) nf) (S, x2, x3) = some out → _
      generalize fx (F_X8_spell_b60 p1) nf = rec60 at hrec60
      unfold F_X8_spell_b60
      dsimp only
      refine s_iload_n hG dX8_spell_60 rfl ?_
      refine s_aload_n hG dX8_spell_61 rfl ?_
      refine s_getI hG dX8_spell_62 fl_RX8_97 (rfl) ?_
      refine s_icmp_ge hG (tgt := 93) dX8_spell_65 (by decide) ?_ ?_
      · refine s_iload_n hG dX8_spell_93 rfl ?_
        exact s_riC hR dX8_spell_94
      · refine s_iload_n hG dX8_spell_68 rfl ?_
        refine s_aload_n hG dX8_spell_69 rfl ?_
        refine s_getC hG dX8_spell_70 fl_RX8_7 (rfl) ?_
        refine s_iload_n hG dX8_spell_73 rfl ?_
        refine s_iaload hG dX8_spell_74 (rfl) ?_
        refine s_bipush hG (v := (26 : Int32)) dX8_spell_75 (by decide) ?_
        refine s_icmp_ne hG (tgt := 84) dX8_spell_77 (by decide) ?_ ?_
        · refine s_iconst hG (v := (1 : Int32)) dX8_spell_84 (by decide) ?_
          refine s_lv hG [0, 2] rfl ?_
          exact hb85 _ hrec60 _ _ _ _
        · refine s_iconst hG (v := (2 : Int32)) dX8_spell_80 (by decide) ?_
          refine s_goto hG (tgt := 85) dX8_spell_81 (by decide) ?_
          refine s_lv hG [0, 2] rfl ?_
          exact hb85 _ hrec60 _ _ _ _
  have hb28 : ∀ (S : HS) (t1 : Int32), f_X8_spell_b28 p1 S t1 = some out → G 0 0 S [(0, vR 36), (1, vI p1)] 28 [vI t1, vR 36] := by
    intro S t1
    unfold f_X8_spell_b28
    refine s_cvI hG (as := [vI t1]) (st := []) (rm := rm_X8_can) dX8_spell_28 ml_RX8_100 (rfl) (tb19 (mem_i 3 rfl)) rfl ⟨rfl, rfl⟩ ⟨by decide, by decide⟩ (Nat.le_of_ble_eq_true rfl) ⟨Nat.zero_le _, Nat.zero_le _⟩ rfl (fun o h => c_X8_can l _ _ o h) (fun o28 => ?_)
    refine s_if_ne hG (tgt := 36) dX8_spell_31 (by decide) ?_ ?_
    · refine s_aload_n hG dX8_spell_36 rfl ?_
      refine s_getC hG dX8_spell_37 fl_RX8_7 (rfl) ?_
      refine s_aload_n hG dX8_spell_40 rfl ?_
      refine s_getI hG dX8_spell_41 fl_RX8_97 (rfl) ?_
      refine s_iload_n hG dX8_spell_44 rfl ?_
      refine s_iastore hG dX8_spell_45 (rfl) ?_
      refine s_aload_n hG dX8_spell_46 rfl ?_
      refine s_dup hG dX8_spell_47 rfl ?_
      refine s_getI hG dX8_spell_48 fl_RX8_97 (rfl) ?_
      refine s_iconst hG (v := (1 : Int32)) dX8_spell_51 (by decide) ?_
      refine s_iadd hG dX8_spell_52 ?_
      refine s_putI hG dX8_spell_53 fl_RX8_97 fp_8_0 (rfl) ⟨rfl, rfl⟩ ?_
      refine s_iconst hG (v := (0 : Int32)) dX8_spell_56 (by decide) ?_
      refine s_istore_n hG (lv' := [(2, vI (0 : Int32)), (0, vR 36), (1, vI p1)]) dX8_spell_57 (by decide) rfl ?_
      refine s_iconst hG (v := (0 : Int32)) dX8_spell_58 (by decide) ?_
      refine s_istore_n hG (lv' := [(3, vI (0 : Int32)), (2, vI (0 : Int32)), (0, vR 36), (1, vI p1)]) dX8_spell_59 (by decide) rfl ?_
      refine s_lv hG [2, 1, 0] rfl ?_
      exact hb60 _ _ _
    · refine s_iconst hG (v := (0 : Int32)) dX8_spell_34 (by decide) ?_
      exact s_riC hR dX8_spell_35
  unfold f_X8_spell
  refine s_aload_n hG dX8_spell_0 rfl ?_
  refine s_iload_n hG dX8_spell_1 rfl ?_
  refine s_iconst hG (v := (0 : Int32)) dX8_spell_2 (by decide) ?_
  refine s_bipush hG (v := (26 : Int32)) dX8_spell_3 (by decide) ?_
  refine s_csP hG (as := [vI p1, vI (0 : Int32), vI (26 : Int32)]) (st := [vR 36]) (rm := rm_X8_isIn) dX8_spell_5 ml_RX8_84 (tb19 (mem_i 0 rfl)) rfl ⟨rfl, rfl⟩ ⟨by decide, by decide⟩ (Nat.le_of_ble_eq_true rfl) ⟨Nat.zero_le _, Nat.zero_le _⟩ rfl (fun o h => c_X8_isIn l _ _ _ _ o h) (fun o5 => ?_)
  refine s_if_ne hG (tgt := 15) dX8_spell_8 (by decide) ?_ ?_
  · refine s_aload_n hG dX8_spell_15 rfl ?_
    refine s_getI hG dX8_spell_16 fl_RX8_97 (rfl) ?_
    refine s_iconst hG (v := (5 : Int32)) dX8_spell_19 (by decide) ?_
    refine s_icmp_ne hG (tgt := 27) dX8_spell_20 (by decide) ?_ ?_
    · refine s_iconst hG (v := (0 : Int32)) dX8_spell_27 (by decide) ?_
      exact hb28 _ _
    · refine s_iconst hG (v := (2 : Int32)) dX8_spell_23 (by decide) ?_
      refine s_goto hG (tgt := 28) dX8_spell_24 (by decide) ?_
      exact hb28 _ _
  · refine s_iconst hG (v := (1 : Int32)) dX8_spell_11 (by decide) ?_
    refine s_goto hG (tgt := 28) dX8_spell_12 (by decide) ?_
    exact hb28 _ _

def f_X8_clearSpelled  (S : HS) : Option (HS × Int32) :=
some ((sI (sI S 36 36 (0 : Int32)) 36 0 (0 : Int32)), ((sI S 36 36 (0 : Int32)).1 36 0))
def rm_X8_clearSpelled : Room := { frames := 0, cells := 0, slots := 0, locals := 0 }
set_option maxRecDepth 100000 in
set_option maxHeartbeats 4000000 in
theorem c_X8_clearSpelled (l : Launch)   (S : HS) (out : HS × Int32) (h : f_X8_clearSpelled  S = some out) : Ct l yX8_clearSpelled cX8_clearSpelled 2 (some .int) rm_X8_clearSpelled [vR 36] S (some (vI out.2)) out.1 := by
  refine Ct.intro (own := RX8) (lv := [(0, vR 36)]) (by decide +kernel) rfl ⟨rfl, rfl⟩ rfl (Nat.le_of_ble_eq_true rfl) ?_
  intro G hG hR
  revert h
  unfold f_X8_clearSpelled
  refine s_aload_n hG dX8_clearSpelled_0 rfl ?_
  refine s_iconst hG (v := (0 : Int32)) dX8_clearSpelled_1 (by decide) ?_
  refine s_putI hG dX8_clearSpelled_2 fl_RX8_80 fp_8_36 (rfl) ⟨rfl, rfl⟩ ?_
  refine s_aload_n hG dX8_clearSpelled_5 rfl ?_
  refine s_getI hG dX8_clearSpelled_6 fl_RX8_97 (rfl) ?_
  refine s_istore_n hG (lv' := [(1, vI ((sI S 36 36 (0 : Int32)).1 36 0)), (0, vR 36)]) dX8_clearSpelled_9 (by decide) rfl ?_
  refine s_aload_n hG dX8_clearSpelled_10 rfl ?_
  refine s_iconst hG (v := (0 : Int32)) dX8_clearSpelled_11 (by decide) ?_
  refine s_putI hG dX8_clearSpelled_12 fl_RX8_97 fp_8_0 (rfl) ⟨rfl, rfl⟩ ?_
  refine s_iload_n hG dX8_clearSpelled_15 rfl ?_
  exact s_riC hR dX8_clearSpelled_16
