/-! 10.sub: by program (wip/p31/gen.py) -/
theorem dX5_draft_0 : decode cX5_draft 0 = .ok (.aload_n 0, 1) := by decide +kernel
theorem dX5_draft_1 : decode cX5_draft 1 = .ok (.getfield 18, 3) := by decide +kernel
theorem dX5_draft_4 : decode cX5_draft 4 = .ok (.aload_n 0, 1) := by decide +kernel
theorem dX5_draft_5 : decode cX5_draft 5 = .ok (.getfield 9, 3) := by decide +kernel
theorem dX5_draft_8 : decode cX5_draft 8 = .ok (.iload_n 2, 1) := by decide +kernel
theorem dX5_draft_9 : decode cX5_draft 9 = .ok (.invokestatic 25, 3) := by decide +kernel
theorem dX5_draft_12 : decode cX5_draft 12 = .ok (.iconst 0, 1) := by decide +kernel
theorem dX5_draft_13 : decode cX5_draft 13 = .ok (.istore 4, 2) := by decide +kernel
theorem dX5_draft_15 : decode cX5_draft 15 = .ok (.iload 4, 2) := by decide +kernel
theorem dX5_draft_17 : decode cX5_draft 17 = .ok (.iload_n 2, 1) := by decide +kernel
theorem dX5_draft_18 : decode cX5_draft 18 = .ok (.if_icmp .ge 37, 3) := by decide +kernel
theorem dX5_draft_21 : decode cX5_draft 21 = .ok (.iload 4, 2) := by decide +kernel
theorem dX5_draft_23 : decode cX5_draft 23 = .ok (.iconst 5, 1) := by decide +kernel
theorem dX5_draft_24 : decode cX5_draft 24 = .ok (.if_icmp .ge 31, 3) := by decide +kernel
theorem dX5_draft_27 : decode cX5_draft 27 = .ok (.aload_n 0, 1) := by decide +kernel
theorem dX5_draft_28 : decode cX5_draft 28 = .ok (.getfield 22, 3) := by decide +kernel
theorem dX5_draft_31 : decode cX5_draft 31 = .ok (.aload_n 0, 1) := by decide +kernel
theorem dX5_draft_32 : decode cX5_draft 32 = .ok (.getfield 9, 3) := by decide +kernel
theorem dX5_draft_35 : decode cX5_draft 35 = .ok (.iconst 5, 1) := by decide +kernel
theorem dX5_draft_36 : decode cX5_draft 36 = .ok (.imul, 1) := by decide +kernel
theorem dX5_draft_37 : decode cX5_draft 37 = .ok (.iload 4, 2) := by decide +kernel
theorem dX5_draft_39 : decode cX5_draft 39 = .ok (.iadd, 1) := by decide +kernel
theorem dX5_draft_40 : decode cX5_draft 40 = .ok (.aload_n 1, 1) := by decide +kernel
theorem dX5_draft_41 : decode cX5_draft 41 = .ok (.iload 4, 2) := by decide +kernel
theorem dX5_draft_43 : decode cX5_draft 43 = .ok (.invokestatic 29, 3) := by decide +kernel
theorem dX5_draft_46 : decode cX5_draft 46 = .ok (.invokestatic 25, 3) := by decide +kernel
theorem dX5_draft_49 : decode cX5_draft 49 = .ok (.iinc 4 1, 3) := by decide +kernel
theorem dX5_draft_52 : decode cX5_draft 52 = .ok (.goto (-37), 3) := by decide +kernel
theorem dX5_draft_55 : decode cX5_draft 55 = .ok (.aload_n 0, 1) := by decide +kernel
theorem dX5_draft_56 : decode cX5_draft 56 = .ok (.iload_n 3, 1) := by decide +kernel
theorem dX5_draft_57 : decode cX5_draft 57 = .ok (.ifCond .eq 17, 3) := by decide +kernel
theorem dX5_draft_60 : decode cX5_draft 60 = .ok (.aload_n 0, 1) := by decide +kernel
theorem dX5_draft_61 : decode cX5_draft 61 = .ok (.getfield 15, 3) := by decide +kernel
theorem dX5_draft_64 : decode cX5_draft 64 = .ok (.iconst 1, 1) := by decide +kernel
theorem dX5_draft_65 : decode cX5_draft 65 = .ok (.aload_n 0, 1) := by decide +kernel
theorem dX5_draft_66 : decode cX5_draft 66 = .ok (.getfield 9, 3) := by decide +kernel
theorem dX5_draft_69 : decode cX5_draft 69 = .ok (.ishl, 1) := by decide +kernel
theorem dX5_draft_70 : decode cX5_draft 70 = .ok (.ior, 1) := by decide +kernel
theorem dX5_draft_71 : decode cX5_draft 71 = .ok (.goto 16, 3) := by decide +kernel
theorem dX5_draft_74 : decode cX5_draft 74 = .ok (.aload_n 0, 1) := by decide +kernel
theorem dX5_draft_75 : decode cX5_draft 75 = .ok (.getfield 15, 3) := by decide +kernel
theorem dX5_draft_78 : decode cX5_draft 78 = .ok (.iconst 1, 1) := by decide +kernel
theorem dX5_draft_79 : decode cX5_draft 79 = .ok (.aload_n 0, 1) := by decide +kernel
theorem dX5_draft_80 : decode cX5_draft 80 = .ok (.getfield 9, 3) := by decide +kernel
theorem dX5_draft_83 : decode cX5_draft 83 = .ok (.ishl, 1) := by decide +kernel
theorem dX5_draft_84 : decode cX5_draft 84 = .ok (.iconst (-1), 1) := by decide +kernel
theorem dX5_draft_85 : decode cX5_draft 85 = .ok (.ixor, 1) := by decide +kernel
theorem dX5_draft_86 : decode cX5_draft 86 = .ok (.iand, 1) := by decide +kernel
theorem dX5_draft_87 : decode cX5_draft 87 = .ok (.putfield 15, 3) := by decide +kernel
theorem dX5_draft_90 : decode cX5_draft 90 = .ok (.return_, 1) := by decide +kernel
theorem dX5_lettersOf_0 : decode cX5_lettersOf 0 = .ok (.aload_n 0, 1) := by decide +kernel
theorem dX5_lettersOf_1 : decode cX5_lettersOf 1 = .ok (.getfield 18, 3) := by decide +kernel
theorem dX5_lettersOf_4 : decode cX5_lettersOf 4 = .ok (.iload_n 1, 1) := by decide +kernel
theorem dX5_lettersOf_5 : decode cX5_lettersOf 5 = .ok (.invokestatic 29, 3) := by decide +kernel
theorem dX5_lettersOf_8 : decode cX5_lettersOf 8 = .ok (.ireturn, 1) := by decide +kernel
theorem dX5_shownLetter_0 : decode cX5_shownLetter 0 = .ok (.aload_n 0, 1) := by decide +kernel
theorem dX5_shownLetter_1 : decode cX5_shownLetter 1 = .ok (.getfield 15, 3) := by decide +kernel
theorem dX5_shownLetter_4 : decode cX5_shownLetter 4 = .ok (.i2l, 1) := by decide +kernel
theorem dX5_shownLetter_5 : decode cX5_shownLetter 5 = .ok (.iload_n 1, 1) := by decide +kernel
theorem dX5_shownLetter_6 : decode cX5_shownLetter 6 = .ok (.invokestatic 33, 3) := by decide +kernel
theorem dX5_shownLetter_9 : decode cX5_shownLetter 9 = .ok (.ifCond .eq 15, 3) := by decide +kernel
theorem dX5_shownLetter_12 : decode cX5_shownLetter 12 = .ok (.aload_n 0, 1) := by decide +kernel
theorem dX5_shownLetter_13 : decode cX5_shownLetter 13 = .ok (.iload_n 1, 1) := by decide +kernel
theorem dX5_shownLetter_14 : decode cX5_shownLetter 14 = .ok (.invokevirtual 37, 3) := by decide +kernel
theorem dX5_shownLetter_17 : decode cX5_shownLetter 17 = .ok (.iconst 1, 1) := by decide +kernel
theorem dX5_shownLetter_18 : decode cX5_shownLetter 18 = .ok (.isub, 1) := by decide +kernel
theorem dX5_shownLetter_19 : decode cX5_shownLetter 19 = .ok (.iload_n 2, 1) := by decide +kernel
theorem dX5_shownLetter_20 : decode cX5_shownLetter 20 = .ok (.isub, 1) := by decide +kernel
theorem dX5_shownLetter_21 : decode cX5_shownLetter 21 = .ok (.goto 4, 3) := by decide +kernel
theorem dX5_shownLetter_24 : decode cX5_shownLetter 24 = .ok (.iload_n 2, 1) := by decide +kernel
theorem dX5_shownLetter_25 : decode cX5_shownLetter 25 = .ok (.istore_n 3, 1) := by decide +kernel
theorem dX5_shownLetter_26 : decode cX5_shownLetter 26 = .ok (.aload_n 0, 1) := by decide +kernel
theorem dX5_shownLetter_27 : decode cX5_shownLetter 27 = .ok (.getfield 22, 3) := by decide +kernel
theorem dX5_shownLetter_30 : decode cX5_shownLetter 30 = .ok (.iload_n 1, 1) := by decide +kernel
theorem dX5_shownLetter_31 : decode cX5_shownLetter 31 = .ok (.iconst 5, 1) := by decide +kernel
theorem dX5_shownLetter_32 : decode cX5_shownLetter 32 = .ok (.imul, 1) := by decide +kernel
theorem dX5_shownLetter_33 : decode cX5_shownLetter 33 = .ok (.iload_n 3, 1) := by decide +kernel
theorem dX5_shownLetter_34 : decode cX5_shownLetter 34 = .ok (.iadd, 1) := by decide +kernel
theorem dX5_shownLetter_35 : decode cX5_shownLetter 35 = .ok (.invokestatic 29, 3) := by decide +kernel
theorem dX5_shownLetter_38 : decode cX5_shownLetter 38 = .ok (.ireturn, 1) := by decide +kernel
theorem dX4_draft_0 : decode cX4_draft 0 = .ok (.aload_n 0, 1) := by decide +kernel
theorem dX4_draft_1 : decode cX4_draft 1 = .ok (.getfield 15, 3) := by decide +kernel
theorem dX4_draft_4 : decode cX4_draft 4 = .ok (.aload_n 0, 1) := by decide +kernel
theorem dX4_draft_5 : decode cX4_draft 5 = .ok (.getfield 9, 3) := by decide +kernel
theorem dX4_draft_8 : decode cX4_draft 8 = .ok (.iload_n 1, 1) := by decide +kernel
theorem dX4_draft_9 : decode cX4_draft 9 = .ok (.invokestatic 25, 3) := by decide +kernel
theorem dX4_draft_12 : decode cX4_draft 12 = .ok (.aload_n 0, 1) := by decide +kernel
theorem dX4_draft_13 : decode cX4_draft 13 = .ok (.getfield 19, 3) := by decide +kernel
theorem dX4_draft_16 : decode cX4_draft 16 = .ok (.aload_n 0, 1) := by decide +kernel
theorem dX4_draft_17 : decode cX4_draft 17 = .ok (.getfield 9, 3) := by decide +kernel
theorem dX4_draft_20 : decode cX4_draft 20 = .ok (.iload_n 2, 1) := by decide +kernel
theorem dX4_draft_21 : decode cX4_draft 21 = .ok (.invokestatic 25, 3) := by decide +kernel
theorem dX4_draft_24 : decode cX4_draft 24 = .ok (.aload_n 0, 1) := by decide +kernel
theorem dX4_draft_25 : decode cX4_draft 25 = .ok (.getfield 22, 3) := by decide +kernel
theorem dX4_draft_28 : decode cX4_draft 28 = .ok (.aload_n 0, 1) := by decide +kernel
theorem dX4_draft_29 : decode cX4_draft 29 = .ok (.getfield 9, 3) := by decide +kernel
theorem dX4_draft_32 : decode cX4_draft 32 = .ok (.iload_n 3, 1) := by decide +kernel
theorem dX4_draft_33 : decode cX4_draft 33 = .ok (.invokestatic 25, 3) := by decide +kernel
theorem dX4_draft_36 : decode cX4_draft 36 = .ok (.return_, 1) := by decide +kernel
theorem dX6_aboveOf_0 : decode cX6_aboveOf 0 = .ok (.iload_n 1, 1) := by decide +kernel
theorem dX6_aboveOf_1 : decode cX6_aboveOf 1 = .ok (.ifCond .lt 21, 3) := by decide +kernel
theorem dX6_aboveOf_4 : decode cX6_aboveOf 4 = .ok (.iload_n 1, 1) := by decide +kernel
theorem dX6_aboveOf_5 : decode cX6_aboveOf 5 = .ok (.aload_n 0, 1) := by decide +kernel
theorem dX6_aboveOf_6 : decode cX6_aboveOf 6 = .ok (.getfield 28, 3) := by decide +kernel
theorem dX6_aboveOf_9 : decode cX6_aboveOf 9 = .ok (.arraylength, 1) := by decide +kernel
theorem dX6_aboveOf_10 : decode cX6_aboveOf 10 = .ok (.if_icmp .ge 12, 3) := by decide +kernel
theorem dX6_aboveOf_13 : decode cX6_aboveOf 13 = .ok (.aload_n 0, 1) := by decide +kernel
theorem dX6_aboveOf_14 : decode cX6_aboveOf 14 = .ok (.getfield 28, 3) := by decide +kernel
theorem dX6_aboveOf_17 : decode cX6_aboveOf 17 = .ok (.iload_n 1, 1) := by decide +kernel
theorem dX6_aboveOf_18 : decode cX6_aboveOf 18 = .ok (.iaload, 1) := by decide +kernel
theorem dX6_aboveOf_19 : decode cX6_aboveOf 19 = .ok (.goto 4, 3) := by decide +kernel
theorem dX6_aboveOf_22 : decode cX6_aboveOf 22 = .ok (.iconst (-1), 1) := by decide +kernel
theorem dX6_aboveOf_23 : decode cX6_aboveOf 23 = .ok (.ireturn, 1) := by decide +kernel
theorem dX6_standOf_0 : decode cX6_standOf 0 = .ok (.iload_n 1, 1) := by decide +kernel
theorem dX6_standOf_1 : decode cX6_standOf 1 = .ok (.ifCond .lt 21, 3) := by decide +kernel
theorem dX6_standOf_4 : decode cX6_standOf 4 = .ok (.iload_n 1, 1) := by decide +kernel
theorem dX6_standOf_5 : decode cX6_standOf 5 = .ok (.aload_n 0, 1) := by decide +kernel
theorem dX6_standOf_6 : decode cX6_standOf 6 = .ok (.getfield 31, 3) := by decide +kernel
theorem dX6_standOf_9 : decode cX6_standOf 9 = .ok (.arraylength, 1) := by decide +kernel
theorem dX6_standOf_10 : decode cX6_standOf 10 = .ok (.if_icmp .ge 12, 3) := by decide +kernel
theorem dX6_standOf_13 : decode cX6_standOf 13 = .ok (.aload_n 0, 1) := by decide +kernel
theorem dX6_standOf_14 : decode cX6_standOf 14 = .ok (.getfield 31, 3) := by decide +kernel
theorem dX6_standOf_17 : decode cX6_standOf 17 = .ok (.iload_n 1, 1) := by decide +kernel
theorem dX6_standOf_18 : decode cX6_standOf 18 = .ok (.iaload, 1) := by decide +kernel
theorem dX6_standOf_19 : decode cX6_standOf 19 = .ok (.goto 4, 3) := by decide +kernel
theorem dX6_standOf_22 : decode cX6_standOf 22 = .ok (.iconst (-1), 1) := by decide +kernel
theorem dX6_standOf_23 : decode cX6_standOf 23 = .ok (.ireturn, 1) := by decide +kernel
theorem dX6_isBranch_0 : decode cX6_isBranch 0 = .ok (.aload_n 0, 1) := by decide +kernel
theorem dX6_isBranch_1 : decode cX6_isBranch 1 = .ok (.getfield 25, 3) := by decide +kernel
theorem dX6_isBranch_4 : decode cX6_isBranch 4 = .ok (.iload_n 1, 1) := by decide +kernel
theorem dX6_isBranch_5 : decode cX6_isBranch 5 = .ok (.invokestatic 42, 3) := by decide +kernel
theorem dX6_isBranch_8 : decode cX6_isBranch 8 = .ok (.iload_n 2, 1) := by decide +kernel
theorem dX6_isBranch_9 : decode cX6_isBranch 9 = .ok (.if_icmp .ne 20, 3) := by decide +kernel
theorem dX6_isBranch_12 : decode cX6_isBranch 12 = .ok (.aload_n 0, 1) := by decide +kernel
theorem dX6_isBranch_13 : decode cX6_isBranch 13 = .ok (.iload_n 1, 1) := by decide +kernel
theorem dX6_isBranch_14 : decode cX6_isBranch 14 = .ok (.invokevirtual 46, 3) := by decide +kernel
theorem dX6_isBranch_17 : decode cX6_isBranch 17 = .ok (.aload_n 0, 1) := by decide +kernel
theorem dX6_isBranch_18 : decode cX6_isBranch 18 = .ok (.iload_n 2, 1) := by decide +kernel
theorem dX6_isBranch_19 : decode cX6_isBranch 19 = .ok (.invokevirtual 38, 3) := by decide +kernel
theorem dX6_isBranch_22 : decode cX6_isBranch 22 = .ok (.if_icmp .ne 7, 3) := by decide +kernel
theorem dX6_isBranch_25 : decode cX6_isBranch 25 = .ok (.iconst 1, 1) := by decide +kernel
theorem dX6_isBranch_26 : decode cX6_isBranch 26 = .ok (.goto 4, 3) := by decide +kernel
theorem dX6_isBranch_29 : decode cX6_isBranch 29 = .ok (.iconst 0, 1) := by decide +kernel
theorem dX6_isBranch_30 : decode cX6_isBranch 30 = .ok (.ireturn, 1) := by decide +kernel
theorem dX6_branchOf_0 : decode cX6_branchOf 0 = .ok (.iload_n 2, 1) := by decide +kernel
theorem dX6_branchOf_1 : decode cX6_branchOf 1 = .ok (.istore_n 3, 1) := by decide +kernel
theorem dX6_branchOf_2 : decode cX6_branchOf 2 = .ok (.iconst 0, 1) := by decide +kernel
theorem dX6_branchOf_3 : decode cX6_branchOf 3 = .ok (.istore 4, 2) := by decide +kernel
theorem dX6_branchOf_5 : decode cX6_branchOf 5 = .ok (.iload 4, 2) := by decide +kernel
theorem dX6_branchOf_7 : decode cX6_branchOf 7 = .ok (.aload_n 0, 1) := by decide +kernel
theorem dX6_branchOf_8 : decode cX6_branchOf 8 = .ok (.getfield 9, 3) := by decide +kernel
theorem dX6_branchOf_11 : decode cX6_branchOf 11 = .ok (.if_icmp .ge 29, 3) := by decide +kernel
theorem dX6_branchOf_14 : decode cX6_branchOf 14 = .ok (.aload_n 0, 1) := by decide +kernel
theorem dX6_branchOf_15 : decode cX6_branchOf 15 = .ok (.iload 4, 2) := by decide +kernel
theorem dX6_branchOf_17 : decode cX6_branchOf 17 = .ok (.iload_n 1, 1) := by decide +kernel
theorem dX6_branchOf_18 : decode cX6_branchOf 18 = .ok (.invokevirtual 49, 3) := by decide +kernel
theorem dX6_branchOf_21 : decode cX6_branchOf 21 = .ok (.ifCond .eq 13, 3) := by decide +kernel
theorem dX6_branchOf_24 : decode cX6_branchOf 24 = .ok (.iload_n 3, 1) := by decide +kernel
theorem dX6_branchOf_25 : decode cX6_branchOf 25 = .ok (.ifCond .ne 6, 3) := by decide +kernel
theorem dX6_branchOf_28 : decode cX6_branchOf 28 = .ok (.iload 4, 2) := by decide +kernel
theorem dX6_branchOf_30 : decode cX6_branchOf 30 = .ok (.ireturn, 1) := by decide +kernel
theorem dX6_branchOf_31 : decode cX6_branchOf 31 = .ok (.iinc 3 (-1), 3) := by decide +kernel
theorem dX6_branchOf_34 : decode cX6_branchOf 34 = .ok (.iinc 4 1, 3) := by decide +kernel
theorem dX6_branchOf_37 : decode cX6_branchOf 37 = .ok (.goto (-32), 3) := by decide +kernel
theorem dX6_branchOf_40 : decode cX6_branchOf 40 = .ok (.iconst (-1), 1) := by decide +kernel
theorem dX6_branchOf_41 : decode cX6_branchOf 41 = .ok (.ireturn, 1) := by decide +kernel
theorem dX6_countBelow_0 : decode cX6_countBelow 0 = .ok (.lconst 0, 1) := by decide +kernel
theorem dX6_countBelow_1 : decode cX6_countBelow 1 = .ok (.lstore_n 2, 1) := by decide +kernel
theorem dX6_countBelow_2 : decode cX6_countBelow 2 = .ok (.iconst 0, 1) := by decide +kernel
theorem dX6_countBelow_3 : decode cX6_countBelow 3 = .ok (.istore 4, 2) := by decide +kernel
theorem dX6_countBelow_5 : decode cX6_countBelow 5 = .ok (.iload 4, 2) := by decide +kernel
theorem dX6_countBelow_7 : decode cX6_countBelow 7 = .ok (.aload_n 0, 1) := by decide +kernel
theorem dX6_countBelow_8 : decode cX6_countBelow 8 = .ok (.getfield 9, 3) := by decide +kernel
theorem dX6_countBelow_11 : decode cX6_countBelow 11 = .ok (.if_icmp .ge 39, 3) := by decide +kernel
theorem dX6_countBelow_14 : decode cX6_countBelow 14 = .ok (.aload_n 0, 1) := by decide +kernel
theorem dX6_countBelow_15 : decode cX6_countBelow 15 = .ok (.iload 4, 2) := by decide +kernel
theorem dX6_countBelow_17 : decode cX6_countBelow 17 = .ok (.iload_n 1, 1) := by decide +kernel
theorem dX6_countBelow_18 : decode cX6_countBelow 18 = .ok (.invokevirtual 49, 3) := by decide +kernel
theorem dX6_countBelow_21 : decode cX6_countBelow 21 = .ok (.ifCond .ne 16, 3) := by decide +kernel
theorem dX6_countBelow_24 : decode cX6_countBelow 24 = .ok (.lload_n 2, 1) := by decide +kernel
theorem dX6_countBelow_25 : decode cX6_countBelow 25 = .ok (.aload_n 0, 1) := by decide +kernel
theorem dX6_countBelow_26 : decode cX6_countBelow 26 = .ok (.iload 4, 2) := by decide +kernel
theorem dX6_countBelow_28 : decode cX6_countBelow 28 = .ok (.invokevirtual 46, 3) := by decide +kernel
theorem dX6_countBelow_31 : decode cX6_countBelow 31 = .ok (.invokestatic 53, 3) := by decide +kernel
theorem dX6_countBelow_34 : decode cX6_countBelow 34 = .ok (.ifCond .eq 10, 3) := by decide +kernel
theorem dX6_countBelow_37 : decode cX6_countBelow 37 = .ok (.lload_n 2, 1) := by decide +kernel
theorem dX6_countBelow_38 : decode cX6_countBelow 38 = .ok (.lconst 1, 1) := by decide +kernel
theorem dX6_countBelow_39 : decode cX6_countBelow 39 = .ok (.iload 4, 2) := by decide +kernel
theorem dX6_countBelow_41 : decode cX6_countBelow 41 = .ok (.lshl, 1) := by decide +kernel
theorem dX6_countBelow_42 : decode cX6_countBelow 42 = .ok (.lor, 1) := by decide +kernel
theorem dX6_countBelow_43 : decode cX6_countBelow 43 = .ok (.lstore_n 2, 1) := by decide +kernel
theorem dX6_countBelow_44 : decode cX6_countBelow 44 = .ok (.iinc 4 1, 3) := by decide +kernel
theorem dX6_countBelow_47 : decode cX6_countBelow 47 = .ok (.goto (-42), 3) := by decide +kernel
theorem dX6_countBelow_50 : decode cX6_countBelow 50 = .ok (.lload_n 2, 1) := by decide +kernel
theorem dX6_countBelow_51 : decode cX6_countBelow 51 = .ok (.invokestatic 57, 3) := by decide +kernel
theorem dX6_countBelow_54 : decode cX6_countBelow 54 = .ok (.ireturn, 1) := by decide +kernel
theorem dX6_countBranches_0 : decode cX6_countBranches 0 = .ok (.iconst 0, 1) := by decide +kernel
theorem dX6_countBranches_1 : decode cX6_countBranches 1 = .ok (.istore_n 2, 1) := by decide +kernel
theorem dX6_countBranches_2 : decode cX6_countBranches 2 = .ok (.iconst 0, 1) := by decide +kernel
theorem dX6_countBranches_3 : decode cX6_countBranches 3 = .ok (.istore_n 3, 1) := by decide +kernel
theorem dX6_countBranches_4 : decode cX6_countBranches 4 = .ok (.iload_n 3, 1) := by decide +kernel
theorem dX6_countBranches_5 : decode cX6_countBranches 5 = .ok (.aload_n 0, 1) := by decide +kernel
theorem dX6_countBranches_6 : decode cX6_countBranches 6 = .ok (.getfield 9, 3) := by decide +kernel
theorem dX6_countBranches_9 : decode cX6_countBranches 9 = .ok (.if_icmp .ge 21, 3) := by decide +kernel
theorem dX6_countBranches_12 : decode cX6_countBranches 12 = .ok (.aload_n 0, 1) := by decide +kernel
theorem dX6_countBranches_13 : decode cX6_countBranches 13 = .ok (.iload_n 3, 1) := by decide +kernel
theorem dX6_countBranches_14 : decode cX6_countBranches 14 = .ok (.iload_n 1, 1) := by decide +kernel
theorem dX6_countBranches_15 : decode cX6_countBranches 15 = .ok (.invokevirtual 49, 3) := by decide +kernel
theorem dX6_countBranches_18 : decode cX6_countBranches 18 = .ok (.ifCond .eq 6, 3) := by decide +kernel
theorem dX6_countBranches_21 : decode cX6_countBranches 21 = .ok (.iinc 2 1, 3) := by decide +kernel
theorem dX6_countBranches_24 : decode cX6_countBranches 24 = .ok (.iinc 3 1, 3) := by decide +kernel
theorem dX6_countBranches_27 : decode cX6_countBranches 27 = .ok (.goto (-23), 3) := by decide +kernel
theorem dX6_countBranches_30 : decode cX6_countBranches 30 = .ok (.iload_n 2, 1) := by decide +kernel
theorem dX6_countBranches_31 : decode cX6_countBranches 31 = .ok (.ireturn, 1) := by decide +kernel
theorem dX6_counting_0 : decode cX6_counting 0 = .ok (.lconst 0, 1) := by decide +kernel
theorem dX6_counting_1 : decode cX6_counting 1 = .ok (.lstore_n 1, 1) := by decide +kernel
theorem dX6_counting_2 : decode cX6_counting 2 = .ok (.iconst 0, 1) := by decide +kernel
theorem dX6_counting_3 : decode cX6_counting 3 = .ok (.istore_n 3, 1) := by decide +kernel
theorem dX6_counting_4 : decode cX6_counting 4 = .ok (.iload_n 3, 1) := by decide +kernel
theorem dX6_counting_5 : decode cX6_counting 5 = .ok (.iconst 4, 1) := by decide +kernel
theorem dX6_counting_6 : decode cX6_counting 6 = .ok (.if_icmp .ge 53, 3) := by decide +kernel
theorem dX6_counting_9 : decode cX6_counting 9 = .ok (.aload_n 0, 1) := by decide +kernel
theorem dX6_counting_10 : decode cX6_counting 10 = .ok (.iload_n 3, 1) := by decide +kernel
theorem dX6_counting_11 : decode cX6_counting 11 = .ok (.invokevirtual 38, 3) := by decide +kernel
theorem dX6_counting_14 : decode cX6_counting 14 = .ok (.istore 4, 2) := by decide +kernel
theorem dX6_counting_16 : decode cX6_counting 16 = .ok (.iconst 0, 1) := by decide +kernel
theorem dX6_counting_17 : decode cX6_counting 17 = .ok (.istore 5, 2) := by decide +kernel
theorem dX6_counting_19 : decode cX6_counting 19 = .ok (.iload 5, 2) := by decide +kernel
theorem dX6_counting_21 : decode cX6_counting 21 = .ok (.bipush 60, 2) := by decide +kernel
theorem dX6_counting_23 : decode cX6_counting 23 = .ok (.if_icmp .ge 30, 3) := by decide +kernel
theorem dX6_counting_26 : decode cX6_counting 26 = .ok (.iload 4, 2) := by decide +kernel
theorem dX6_counting_28 : decode cX6_counting 28 = .ok (.iconst (-1), 1) := by decide +kernel
theorem dX6_counting_29 : decode cX6_counting 29 = .ok (.if_icmp .eq 24, 3) := by decide +kernel
theorem dX6_counting_32 : decode cX6_counting 32 = .ok (.lload_n 1, 1) := by decide +kernel
theorem dX6_counting_33 : decode cX6_counting 33 = .ok (.lconst 1, 1) := by decide +kernel
theorem dX6_counting_34 : decode cX6_counting 34 = .ok (.iload 4, 2) := by decide +kernel
theorem dX6_counting_36 : decode cX6_counting 36 = .ok (.lshl, 1) := by decide +kernel
theorem dX6_counting_37 : decode cX6_counting 37 = .ok (.lor, 1) := by decide +kernel
theorem dX6_counting_38 : decode cX6_counting 38 = .ok (.lstore_n 1, 1) := by decide +kernel
theorem dX6_counting_39 : decode cX6_counting 39 = .ok (.aload_n 0, 1) := by decide +kernel
theorem dX6_counting_40 : decode cX6_counting 40 = .ok (.iload 4, 2) := by decide +kernel
theorem dX6_counting_42 : decode cX6_counting 42 = .ok (.invokevirtual 46, 3) := by decide +kernel
theorem dX6_counting_45 : decode cX6_counting 45 = .ok (.istore 4, 2) := by decide +kernel
theorem dX6_counting_47 : decode cX6_counting 47 = .ok (.iinc 5 1, 3) := by decide +kernel
theorem dX6_counting_50 : decode cX6_counting 50 = .ok (.goto (-31), 3) := by decide +kernel
theorem dX6_counting_53 : decode cX6_counting 53 = .ok (.iinc 3 1, 3) := by decide +kernel
theorem dX6_counting_56 : decode cX6_counting 56 = .ok (.goto (-52), 3) := by decide +kernel
theorem dX6_counting_59 : decode cX6_counting 59 = .ok (.lload_n 1, 1) := by decide +kernel
theorem dX6_counting_60 : decode cX6_counting 60 = .ok (.lreturn, 1) := by decide +kernel
theorem dX6_deedOf_0 : decode cX6_deedOf 0 = .ok (.aload_n 0, 1) := by decide +kernel
theorem dX6_deedOf_1 : decode cX6_deedOf 1 = .ok (.getfield 15, 3) := by decide +kernel
theorem dX6_deedOf_4 : decode cX6_deedOf 4 = .ok (.iload_n 1, 1) := by decide +kernel
theorem dX6_deedOf_5 : decode cX6_deedOf 5 = .ok (.invokestatic 42, 3) := by decide +kernel
theorem dX6_deedOf_8 : decode cX6_deedOf 8 = .ok (.ireturn, 1) := by decide +kernel
theorem dX6_draft_0 : decode cX6_draft 0 = .ok (.aload_n 0, 1) := by decide +kernel
theorem dX6_draft_1 : decode cX6_draft 1 = .ok (.getfield 15, 3) := by decide +kernel
theorem dX6_draft_4 : decode cX6_draft 4 = .ok (.aload_n 0, 1) := by decide +kernel
theorem dX6_draft_5 : decode cX6_draft 5 = .ok (.getfield 9, 3) := by decide +kernel
theorem dX6_draft_8 : decode cX6_draft 8 = .ok (.iload_n 1, 1) := by decide +kernel
theorem dX6_draft_9 : decode cX6_draft 9 = .ok (.invokestatic 34, 3) := by decide +kernel
theorem dX6_draft_12 : decode cX6_draft 12 = .ok (.aload_n 0, 1) := by decide +kernel
theorem dX6_draft_13 : decode cX6_draft 13 = .ok (.getfield 19, 3) := by decide +kernel
theorem dX6_draft_16 : decode cX6_draft 16 = .ok (.aload_n 0, 1) := by decide +kernel
theorem dX6_draft_17 : decode cX6_draft 17 = .ok (.getfield 9, 3) := by decide +kernel
theorem dX6_draft_20 : decode cX6_draft 20 = .ok (.iload_n 2, 1) := by decide +kernel
theorem dX6_draft_21 : decode cX6_draft 21 = .ok (.invokestatic 34, 3) := by decide +kernel
theorem dX6_draft_24 : decode cX6_draft 24 = .ok (.aload_n 0, 1) := by decide +kernel
theorem dX6_draft_25 : decode cX6_draft 25 = .ok (.getfield 22, 3) := by decide +kernel
theorem dX6_draft_28 : decode cX6_draft 28 = .ok (.aload_n 0, 1) := by decide +kernel
theorem dX6_draft_29 : decode cX6_draft 29 = .ok (.getfield 9, 3) := by decide +kernel
theorem dX6_draft_32 : decode cX6_draft 32 = .ok (.iconst 4, 1) := by decide +kernel
theorem dX6_draft_33 : decode cX6_draft 33 = .ok (.imul, 1) := by decide +kernel
theorem dX6_draft_34 : decode cX6_draft 34 = .ok (.iconst 0, 1) := by decide +kernel
theorem dX6_draft_35 : decode cX6_draft 35 = .ok (.iadd, 1) := by decide +kernel
theorem dX6_draft_36 : decode cX6_draft 36 = .ok (.iload_n 3, 1) := by decide +kernel
theorem dX6_draft_37 : decode cX6_draft 37 = .ok (.invokestatic 34, 3) := by decide +kernel
theorem dX6_draft_40 : decode cX6_draft 40 = .ok (.aload_n 0, 1) := by decide +kernel
theorem dX6_draft_41 : decode cX6_draft 41 = .ok (.getfield 22, 3) := by decide +kernel
theorem dX6_draft_44 : decode cX6_draft 44 = .ok (.aload_n 0, 1) := by decide +kernel
theorem dX6_draft_45 : decode cX6_draft 45 = .ok (.getfield 9, 3) := by decide +kernel
theorem dX6_draft_48 : decode cX6_draft 48 = .ok (.iconst 4, 1) := by decide +kernel
theorem dX6_draft_49 : decode cX6_draft 49 = .ok (.imul, 1) := by decide +kernel
theorem dX6_draft_50 : decode cX6_draft 50 = .ok (.iconst 1, 1) := by decide +kernel
theorem dX6_draft_51 : decode cX6_draft 51 = .ok (.iadd, 1) := by decide +kernel
theorem dX6_draft_52 : decode cX6_draft 52 = .ok (.iload 4, 2) := by decide +kernel
theorem dX6_draft_54 : decode cX6_draft 54 = .ok (.invokestatic 34, 3) := by decide +kernel
theorem dX6_draft_57 : decode cX6_draft 57 = .ok (.aload_n 0, 1) := by decide +kernel
theorem dX6_draft_58 : decode cX6_draft 58 = .ok (.getfield 22, 3) := by decide +kernel
theorem dX6_draft_61 : decode cX6_draft 61 = .ok (.aload_n 0, 1) := by decide +kernel
theorem dX6_draft_62 : decode cX6_draft 62 = .ok (.getfield 9, 3) := by decide +kernel
theorem dX6_draft_65 : decode cX6_draft 65 = .ok (.iconst 4, 1) := by decide +kernel
theorem dX6_draft_66 : decode cX6_draft 66 = .ok (.imul, 1) := by decide +kernel
theorem dX6_draft_67 : decode cX6_draft 67 = .ok (.iconst 2, 1) := by decide +kernel
theorem dX6_draft_68 : decode cX6_draft 68 = .ok (.iadd, 1) := by decide +kernel
theorem dX6_draft_69 : decode cX6_draft 69 = .ok (.iload 5, 2) := by decide +kernel
theorem dX6_draft_71 : decode cX6_draft 71 = .ok (.invokestatic 34, 3) := by decide +kernel
theorem dX6_draft_74 : decode cX6_draft 74 = .ok (.aload_n 0, 1) := by decide +kernel
theorem dX6_draft_75 : decode cX6_draft 75 = .ok (.getfield 22, 3) := by decide +kernel
theorem dX6_draft_78 : decode cX6_draft 78 = .ok (.aload_n 0, 1) := by decide +kernel
theorem dX6_draft_79 : decode cX6_draft 79 = .ok (.getfield 9, 3) := by decide +kernel
theorem dX6_draft_82 : decode cX6_draft 82 = .ok (.iconst 4, 1) := by decide +kernel
theorem dX6_draft_83 : decode cX6_draft 83 = .ok (.imul, 1) := by decide +kernel
theorem dX6_draft_84 : decode cX6_draft 84 = .ok (.iconst 3, 1) := by decide +kernel
theorem dX6_draft_85 : decode cX6_draft 85 = .ok (.iadd, 1) := by decide +kernel
theorem dX6_draft_86 : decode cX6_draft 86 = .ok (.iload 6, 2) := by decide +kernel
theorem dX6_draft_88 : decode cX6_draft 88 = .ok (.invokestatic 34, 3) := by decide +kernel
theorem dX6_draft_91 : decode cX6_draft 91 = .ok (.return_, 1) := by decide +kernel
theorem dX6_hang_0 : decode cX6_hang 0 = .ok (.aload_n 0, 1) := by decide +kernel
theorem dX6_hang_1 : decode cX6_hang 1 = .ok (.getfield 25, 3) := by decide +kernel
theorem dX6_hang_4 : decode cX6_hang 4 = .ok (.aload_n 0, 1) := by decide +kernel
theorem dX6_hang_5 : decode cX6_hang 5 = .ok (.getfield 9, 3) := by decide +kernel
theorem dX6_hang_8 : decode cX6_hang 8 = .ok (.iload_n 1, 1) := by decide +kernel
theorem dX6_hang_9 : decode cX6_hang 9 = .ok (.invokestatic 34, 3) := by decide +kernel
theorem dX6_hang_12 : decode cX6_hang 12 = .ok (.aload_n 0, 1) := by decide +kernel
theorem dX6_hang_13 : decode cX6_hang 13 = .ok (.getfield 28, 3) := by decide +kernel
theorem dX6_hang_16 : decode cX6_hang 16 = .ok (.aload_n 0, 1) := by decide +kernel
theorem dX6_hang_17 : decode cX6_hang 17 = .ok (.getfield 9, 3) := by decide +kernel
theorem dX6_hang_20 : decode cX6_hang 20 = .ok (.aload_n 0, 1) := by decide +kernel
theorem dX6_hang_21 : decode cX6_hang 21 = .ok (.iload_n 1, 1) := by decide +kernel
theorem dX6_hang_22 : decode cX6_hang 22 = .ok (.invokevirtual 38, 3) := by decide +kernel
theorem dX6_hang_25 : decode cX6_hang 25 = .ok (.invokestatic 34, 3) := by decide +kernel
theorem dX6_hang_28 : decode cX6_hang 28 = .ok (.aload_n 0, 1) := by decide +kernel
theorem dX6_hang_29 : decode cX6_hang 29 = .ok (.getfield 31, 3) := by decide +kernel
theorem dX6_hang_32 : decode cX6_hang 32 = .ok (.iload_n 1, 1) := by decide +kernel
theorem dX6_hang_33 : decode cX6_hang 33 = .ok (.aload_n 0, 1) := by decide +kernel
theorem dX6_hang_34 : decode cX6_hang 34 = .ok (.getfield 9, 3) := by decide +kernel
theorem dX6_hang_37 : decode cX6_hang 37 = .ok (.invokestatic 34, 3) := by decide +kernel
theorem dX6_hang_40 : decode cX6_hang 40 = .ok (.aload_n 0, 1) := by decide +kernel
theorem dX6_hang_41 : decode cX6_hang 41 = .ok (.dup, 1) := by decide +kernel
theorem dX6_hang_42 : decode cX6_hang 42 = .ok (.getfield 9, 3) := by decide +kernel
theorem dX6_hang_45 : decode cX6_hang 45 = .ok (.iconst 1, 1) := by decide +kernel
theorem dX6_hang_46 : decode cX6_hang 46 = .ok (.iadd, 1) := by decide +kernel
theorem dX6_hang_47 : decode cX6_hang 47 = .ok (.putfield 9, 3) := by decide +kernel
theorem dX6_hang_50 : decode cX6_hang 50 = .ok (.return_, 1) := by decide +kernel
theorem dX6_stand_0 : decode cX6_stand 0 = .ok (.aload_n 0, 1) := by decide +kernel
theorem dX6_stand_1 : decode cX6_stand 1 = .ok (.getfield 31, 3) := by decide +kernel
theorem dX6_stand_4 : decode cX6_stand 4 = .ok (.iload_n 1, 1) := by decide +kernel
theorem dX6_stand_5 : decode cX6_stand 5 = .ok (.iload_n 2, 1) := by decide +kernel
theorem dX6_stand_6 : decode cX6_stand 6 = .ok (.invokestatic 34, 3) := by decide +kernel
theorem dX6_stand_9 : decode cX6_stand 9 = .ok (.return_, 1) := by decide +kernel
theorem dX6_subjectOf_0 : decode cX6_subjectOf 0 = .ok (.aload_n 0, 1) := by decide +kernel
theorem dX6_subjectOf_1 : decode cX6_subjectOf 1 = .ok (.getfield 19, 3) := by decide +kernel
theorem dX6_subjectOf_4 : decode cX6_subjectOf 4 = .ok (.iload_n 1, 1) := by decide +kernel
theorem dX6_subjectOf_5 : decode cX6_subjectOf 5 = .ok (.invokestatic 42, 3) := by decide +kernel
theorem dX6_subjectOf_8 : decode cX6_subjectOf 8 = .ok (.ireturn, 1) := by decide +kernel
theorem dX6_wantedBy_0 : decode cX6_wantedBy 0 = .ok (.aload_n 0, 1) := by decide +kernel
theorem dX6_wantedBy_1 : decode cX6_wantedBy 1 = .ok (.getfield 22, 3) := by decide +kernel
theorem dX6_wantedBy_4 : decode cX6_wantedBy 4 = .ok (.iload_n 1, 1) := by decide +kernel
theorem dX6_wantedBy_5 : decode cX6_wantedBy 5 = .ok (.iconst 4, 1) := by decide +kernel
theorem dX6_wantedBy_6 : decode cX6_wantedBy 6 = .ok (.imul, 1) := by decide +kernel
theorem dX6_wantedBy_7 : decode cX6_wantedBy 7 = .ok (.iload_n 2, 1) := by decide +kernel
theorem dX6_wantedBy_8 : decode cX6_wantedBy 8 = .ok (.iadd, 1) := by decide +kernel
theorem dX6_wantedBy_9 : decode cX6_wantedBy 9 = .ok (.invokestatic 42, 3) := by decide +kernel
theorem dX6_wantedBy_12 : decode cX6_wantedBy 12 = .ok (.ireturn, 1) := by decide +kernel
theorem fl_RX5_15 : FL RX5 15 5 1 .int := ⟨RX5, TX5, 4, tyX5, rfl, by decide, lyX5, tyX5_ok, nmX5, rfl, Or.inl (tb1 (mem_i 2 rfl))⟩
theorem fp_5_1 : FP 5 1 := fun C T N h => by cases h; rfl
theorem fl_RX5_9 : FL RX5 9 5 0 .int := ⟨RX5, TX5, 4, tyX5, rfl, by decide, lyX5, tyX5_ok, nmX5, rfl, Or.inl (tb1 (mem_i 1 rfl))⟩
theorem fl_RX5_22 : FL RX5 22 5 3 (tyX5 3) := ⟨RX5, TX5, 4, tyX5, rfl, by decide, lyX5, tyX5_ok, nmX5, rfl, Or.inl (tb1 (mem_i 4 rfl))⟩
theorem ml_RX5_29 : MS RX5 29 yX7_read 2 := ⟨⟨by decide +kernel, by decide +kernel, by decide +kernel⟩, tb5 (mem_i 18 rfl), tb0 (mem_i 1 rfl), Or.inr ⟨_, nf1 (mem_i 1 rfl)⟩⟩
theorem ml_RX5_25 : MS RX5 25 yX7_put 3 := ⟨⟨by decide +kernel, by decide +kernel, by decide +kernel⟩, tb5 (mem_i 14 rfl), tb0 (mem_i 1 rfl), Or.inr ⟨_, nf1 (mem_i 0 rfl)⟩⟩
theorem fl_RX5_18 : FL RX5 18 5 2 (tyX5 2) := ⟨RX5, TX5, 4, tyX5, rfl, by decide, lyX5, tyX5_ok, nmX5, rfl, Or.inl (tb1 (mem_i 3 rfl))⟩
theorem ml_RX5_33 : MS RX5 33 yX7_has 2 := ⟨⟨by decide +kernel, by decide +kernel, by decide +kernel⟩, tb6 (mem_i 13 rfl), tb0 (mem_i 1 rfl), Or.inr ⟨_, nf2 (mem_i 14 rfl)⟩⟩
theorem ml_RX5_37 : MV RX5 37 5 yX5_lettersOf 1 := ⟨⟨by decide +kernel, by decide +kernel, by decide +kernel⟩, tb6 (mem_i 29 rfl), tb0 (mem_i 2 rfl), Or.inl (tb14 (mem_i 1 rfl)), RX5, TX5, 4, rfl, rfl, tb16 (mem_i 21 rfl)⟩
theorem fl_RX4_15 : FL RX4 15 4 1 (tyX4 1) := ⟨RX4, TX4, 4, tyX4, rfl, by decide, lyX4, tyX4_ok, nmX4, rfl, Or.inl (tb1 (mem_i 14 rfl))⟩
theorem fl_RX4_9 : FL RX4 9 4 0 .int := ⟨RX4, TX4, 4, tyX4, rfl, by decide, lyX4, tyX4_ok, nmX4, rfl, Or.inl (tb1 (mem_i 13 rfl))⟩
theorem ml_RX4_25 : MS RX4 25 yX7_put 3 := ⟨⟨by decide +kernel, by decide +kernel, by decide +kernel⟩, tb5 (mem_i 14 rfl), tb0 (mem_i 1 rfl), Or.inr ⟨_, nf1 (mem_i 24 rfl)⟩⟩
theorem fl_RX4_19 : FL RX4 19 4 2 (tyX4 2) := ⟨RX4, TX4, 4, tyX4, rfl, by decide, lyX4, tyX4_ok, nmX4, rfl, Or.inl (tb1 (mem_i 15 rfl))⟩
theorem fl_RX4_22 : FL RX4 22 4 3 (tyX4 3) := ⟨RX4, TX4, 4, tyX4, rfl, by decide, lyX4, tyX4_ok, nmX4, rfl, Or.inl (tb1 (mem_i 16 rfl))⟩
theorem fl_RX6_28 : FL RX6 28 6 5 (tyX6 5) := ⟨RX6, TX6, 7, tyX6, rfl, by decide, lyX6, tyX6_ok, nmX6, rfl, Or.inl (tb1 (mem_i 29 rfl))⟩
theorem fl_RX6_9 : FL RX6 9 6 0 .int := ⟨RX6, TX6, 7, tyX6, rfl, by decide, lyX6, tyX6_ok, nmX6, rfl, Or.inl (tb1 (mem_i 24 rfl))⟩
theorem fl_RX6_25 : FL RX6 25 6 4 (tyX6 4) := ⟨RX6, TX6, 7, tyX6, rfl, by decide, lyX6, tyX6_ok, nmX6, rfl, Or.inl (tb1 (mem_i 28 rfl))⟩
theorem ml_RX6_42 : MS RX6 42 yX7_read 2 := ⟨⟨by decide +kernel, by decide +kernel, by decide +kernel⟩, tb5 (mem_i 18 rfl), tb0 (mem_i 1 rfl), Or.inr ⟨_, nf1 (mem_i 4 rfl)⟩⟩
theorem ml_RX6_46 : MV RX6 46 6 yX6_aboveOf 1 := ⟨⟨by decide +kernel, by decide +kernel, by decide +kernel⟩, tb9 (mem_i 13 rfl), tb0 (mem_i 4 rfl), Or.inl (tb9 (mem_i 19 rfl)), RX6, TX6, 7, rfl, rfl, tb17 (mem_i 7 rfl)⟩
theorem fl_RX6_31 : FL RX6 31 6 6 (tyX6 6) := ⟨RX6, TX6, 7, tyX6, rfl, by decide, lyX6, tyX6_ok, nmX6, rfl, Or.inl (tb2 (mem_i 0 rfl))⟩
theorem ml_RX6_38 : MV RX6 38 6 yX6_standOf 1 := ⟨⟨by decide +kernel, by decide +kernel, by decide +kernel⟩, tb7 (mem_i 29 rfl), tb0 (mem_i 4 rfl), Or.inl (tb7 (mem_i 28 rfl)), RX6, TX6, 7, rfl, rfl, tb17 (mem_i 1 rfl)⟩
theorem ml_RX6_49 : MV RX6 49 6 yX6_isBranch 2 := ⟨⟨by decide +kernel, by decide +kernel, by decide +kernel⟩, tb10 (mem_i 8 rfl), tb0 (mem_i 4 rfl), Or.inl (tb10 (mem_i 7 rfl)), RX6, TX6, 7, rfl, rfl, tb17 (mem_i 13 rfl)⟩
theorem ml_RX6_57 : MS RX6 57 yJ13_bitCount_95d88 1 := ⟨⟨by decide +kernel, by decide +kernel, by decide +kernel⟩, tb9 (mem_i 26 rfl), tb0 (mem_i 17 rfl), Or.inl (tb15 (mem_i 21 rfl))⟩
theorem ml_RX6_53 : MS RX6 53 yX7_has 2 := ⟨⟨by decide +kernel, by decide +kernel, by decide +kernel⟩, tb6 (mem_i 13 rfl), tb0 (mem_i 1 rfl), Or.inr ⟨_, nf2 (mem_i 20 rfl)⟩⟩
theorem fl_RX6_15 : FL RX6 15 6 1 (tyX6 1) := ⟨RX6, TX6, 7, tyX6, rfl, by decide, lyX6, tyX6_ok, nmX6, rfl, Or.inl (tb1 (mem_i 25 rfl))⟩
theorem ml_RX6_34 : MS RX6 34 yX7_put 3 := ⟨⟨by decide +kernel, by decide +kernel, by decide +kernel⟩, tb5 (mem_i 14 rfl), tb0 (mem_i 1 rfl), Or.inr ⟨_, nf0 (mem_i 28 rfl)⟩⟩
theorem fl_RX6_19 : FL RX6 19 6 2 (tyX6 2) := ⟨RX6, TX6, 7, tyX6, rfl, by decide, lyX6, tyX6_ok, nmX6, rfl, Or.inl (tb1 (mem_i 26 rfl))⟩
theorem fl_RX6_22 : FL RX6 22 6 3 (tyX6 3) := ⟨RX6, TX6, 7, tyX6, rfl, by decide, lyX6, tyX6_ok, nmX6, rfl, Or.inl (tb1 (mem_i 27 rfl))⟩
theorem fp_6_0 : FP 6 0 := fun C T N h => by cases h; rfl
def f_X5_draft_b87 (a1 : Nat) (p2 : Int32) (p3 : Int32)  (S : HS) (t1 : Int32) : Option (HS) :=
some (sI S 2 1 t1)
def f_X5_draft_b55 (a1 : Nat) (p2 : Int32) (p3 : Int32)  (S : HS)  : Option (HS) :=
if p3 = 0 then
f_X5_draft_b87 a1 p2 p3  S ((S.1 2 1) &&& (((1 : Int32) <<< ((S.1 2 0) &&& 31)) ^^^ (-1 : Int32)))
else
f_X5_draft_b87 a1 p2 p3  S ((S.1 2 1) ||| ((1 : Int32) <<< ((S.1 2 0) &&& 31)))
def F_X5_draft_b15 (a1 : Nat) (p2 : Int32) (p3 : Int32)  (rec15 : HS × Int32 → Option (HS)) : HS × Int32 → Option (HS) := fun q => match q with
  | (S, x4) =>
    if p2 ≤ x4 then
    f_X5_draft_b55 a1 p2 p3  S
    else
    if (5 : Int32) ≤ x4 then
    f_X5_draft_b55 a1 p2 p3  S
    else
    (f_X7_read a1 x4 S).bind (fun o43 =>
    (f_X7_put 4 (((S.1 2 0) * (5 : Int32)) + x4) o43 S).bind (fun o46 =>
    rec15 (o46, (x4 + (1 : Int32)))))
def f_X5_draft_b15 (a1 : Nat) (p2 : Int32) (p3 : Int32)  (S : HS) (x4 : Int32) : Option (HS) := fx (F_X5_draft_b15 a1 p2 p3) FU (S, x4)
def f_X5_draft (a1 : Nat) (p2 : Int32) (p3 : Int32) (S : HS) : Option (HS) :=
(f_X7_put 3 (S.1 2 0) p2 S).bind (fun o9 =>
f_X5_draft_b15 a1 p2 p3  o9 (0 : Int32))
def rm_X5_draft : Room := { frames := 1, cells := 0, slots := 0, locals := 22 }
set_option maxRecDepth 100000 in
set_option maxHeartbeats 4000000 in
theorem c_X5_draft (l : Launch) (a1 : Nat) (p2 : Int32) (p3 : Int32) (ha1 : ak a1 = some (0, alen a1)) (S : HS) (out : HS) (h : f_X5_draft a1 p2 p3 S = some out) : Ct l yX5_draft cX5_draft 5 none rm_X5_draft [vR 2, vR a1, vI p2, vI p3] S none out := by
  refine Ct.intro (own := RX5) (lv := [(0, vR 2), (1, vR a1), (2, vI p2), (3, vI p3)]) (by decide +kernel) rfl ⟨rfl, rfl⟩ rfl (Nat.le_of_ble_eq_true rfl) ?_
  intro G hG hR
  revert h
  have hb87 : ∀ (S : HS) (t1 : Int32), f_X5_draft_b87 a1 p2 p3 S t1 = some out → G 0 0 S [] 87 [vI t1, vR 2] := by
    intro S t1
    unfold f_X5_draft_b87
    refine s_putI hG dX5_draft_87 fl_RX5_15 fp_5_1 (rfl) ⟨rfl, rfl⟩ ?_
    exact s_rvC hR dX5_draft_90
  have hb55 : ∀ (S : HS), f_X5_draft_b55 a1 p2 p3 S  = some out → G 0 0 S [(0, vR 2), (3, vI p3)] 55 [] := by
    intro S
    unfold f_X5_draft_b55
    refine s_aload_n hG dX5_draft_55 rfl ?_
    refine s_iload_n hG dX5_draft_56 rfl ?_
    refine s_if_eq hG (tgt := 74) dX5_draft_57 (by decide) ?_ ?_
    · refine s_aload_n hG dX5_draft_74 rfl ?_
      refine s_getI hG dX5_draft_75 fl_RX5_15 (rfl) ?_
      refine s_iconst hG (v := (1 : Int32)) dX5_draft_78 (by decide) ?_
      refine s_aload_n hG dX5_draft_79 rfl ?_
      refine s_getI hG dX5_draft_80 fl_RX5_9 (rfl) ?_
      refine s_ishl hG dX5_draft_83 ?_
      refine s_iconst hG (v := (-1 : Int32)) dX5_draft_84 (by decide) ?_
      refine s_ixor hG dX5_draft_85 ?_
      refine s_iand hG dX5_draft_86 ?_
      refine s_lv hG [] rfl ?_
      exact hb87 _ _
    · refine s_aload_n hG dX5_draft_60 rfl ?_
      refine s_getI hG dX5_draft_61 fl_RX5_15 (rfl) ?_
      refine s_iconst hG (v := (1 : Int32)) dX5_draft_64 (by decide) ?_
      refine s_aload_n hG dX5_draft_65 rfl ?_
      refine s_getI hG dX5_draft_66 fl_RX5_9 (rfl) ?_
      refine s_ishl hG dX5_draft_69 ?_
      refine s_ior hG dX5_draft_70 ?_
      refine s_goto hG (tgt := 87) dX5_draft_71 (by decide) ?_
      refine s_lv hG [] rfl ?_
      exact hb87 _ _
  have hb15 : ∀ (S : HS) (x4 : Int32), f_X5_draft_b15 a1 p2 p3 S x4 = some out → G 0 0 S [(0, vR 2), (1, vR a1), (2, vI p2), (3, vI p3), (4, vI x4)] 15 [] := by
    intro  S x4
    unfold f_X5_draft_b15
    generalize FU = nf
    revert S x4
    induction nf with
    | zero => intro S x4 h9; cases h9
    | succ nf hrec15 =>
      intro S x4
      show F_X5_draft_b15 a1 p2 p3 (fx (F_X5_draft_b15 a1 p2 p3) nf) (S, x4) = some out → _
      generalize fx (F_X5_draft_b15 a1 p2 p3) nf = rec15 at hrec15
      unfold F_X5_draft_b15
      dsimp only
      refine s_iload hG dX5_draft_15 rfl ?_
      refine s_iload_n hG dX5_draft_17 rfl ?_
      refine s_icmp_ge hG (tgt := 55) dX5_draft_18 (by decide) ?_ ?_
      · refine s_lv hG [0, 3] rfl ?_
        exact hb55 _
      · refine s_iload hG dX5_draft_21 rfl ?_
        refine s_iconst hG (v := (5 : Int32)) dX5_draft_23 (by decide) ?_
        refine s_icmp_ge hG (tgt := 55) dX5_draft_24 (by decide) ?_ ?_
        · refine s_lv hG [0, 3] rfl ?_
          exact hb55 _
        · refine s_aload_n hG dX5_draft_27 rfl ?_
          refine s_getC hG dX5_draft_28 fl_RX5_22 (rfl) ?_
          refine s_aload_n hG dX5_draft_31 rfl ?_
          refine s_getI hG dX5_draft_32 fl_RX5_9 (rfl) ?_
          refine s_iconst hG (v := (5 : Int32)) dX5_draft_35 (by decide) ?_
          refine s_imul hG dX5_draft_36 ?_
          refine s_iload hG dX5_draft_37 rfl ?_
          refine s_iadd hG dX5_draft_39 ?_
          refine s_aload_n hG dX5_draft_40 rfl ?_
          refine s_iload hG dX5_draft_41 rfl ?_
          refine s_csP hG (as := [vR a1, vI x4]) (st := [vI (((S.1 2 0) * (5 : Int32)) + x4), vR 4]) (rm := rm_X7_read) dX5_draft_43 ml_RX5_29 (tb5 (mem_i 19 rfl)) rfl ⟨rfl, rfl⟩ ⟨by decide, by decide⟩ (Nat.le_of_ble_eq_true rfl) ⟨Nat.zero_le _, Nat.zero_le _⟩ rfl (fun o h => c_X7_read l _ _ (ak_len (ha1)) _ o h) (fun o43 => ?_)
          refine s_csV hG (as := [vR 4, vI (((S.1 2 0) * (5 : Int32)) + x4), vI o43]) (st := []) (rm := rm_X7_put) dX5_draft_46 ml_RX5_25 (tb5 (mem_i 15 rfl)) rfl ⟨rfl, rfl⟩ ⟨by decide, by decide⟩ (Nat.le_of_ble_eq_true rfl) ⟨Nat.zero_le _, Nat.zero_le _⟩ rfl (fun o h => c_X7_put l _ _ _ (rfl) _ o h) (fun o46 => ?_)
          refine s_iinc hG (v := (x4 + (1 : Int32))) (lv' := [(4, vI (x4 + (1 : Int32))), (0, vR 2), (1, vR a1), (2, vI p2), (3, vI p3)]) dX5_draft_49 rfl rfl (by decide) rfl ?_
          refine s_goto hG (tgt := 15) dX5_draft_52 (by decide) ?_
          refine s_lv hG [1, 2, 3, 4, 0] rfl ?_
          exact hrec15 _ _
  unfold f_X5_draft
  refine s_aload_n hG dX5_draft_0 rfl ?_
  refine s_getC hG dX5_draft_1 fl_RX5_18 (rfl) ?_
  refine s_aload_n hG dX5_draft_4 rfl ?_
  refine s_getI hG dX5_draft_5 fl_RX5_9 (rfl) ?_
  refine s_iload_n hG dX5_draft_8 rfl ?_
  refine s_csV hG (as := [vR 3, vI (S.1 2 0), vI p2]) (st := []) (rm := rm_X7_put) dX5_draft_9 ml_RX5_25 (tb5 (mem_i 15 rfl)) rfl ⟨rfl, rfl⟩ ⟨by decide, by decide⟩ (Nat.le_of_ble_eq_true rfl) ⟨Nat.zero_le _, Nat.zero_le _⟩ rfl (fun o h => c_X7_put l _ _ _ (rfl) _ o h) (fun o9 => ?_)
  refine s_iconst hG (v := (0 : Int32)) dX5_draft_12 (by decide) ?_
  refine s_istore hG (lv' := [(4, vI (0 : Int32)), (0, vR 2), (1, vR a1), (2, vI p2), (3, vI p3)]) dX5_draft_13 (by decide) rfl ?_
  refine s_lv hG [1, 2, 3, 4, 0] rfl ?_
  exact hb15 _ _

def f_X5_lettersOf (p1 : Int32) (S : HS) : Option (Int32) :=
(f_X7_read 3 p1 S).bind (fun o5 =>
some o5)
def rm_X5_lettersOf : Room := { frames := 1, cells := 0, slots := 0, locals := 21 }
set_option maxRecDepth 100000 in
set_option maxHeartbeats 4000000 in
theorem c_X5_lettersOf (l : Launch) (p1 : Int32)  (S : HS) (out : Int32) (h : f_X5_lettersOf p1 S = some out) : Ct l yX5_lettersOf cX5_lettersOf 2 (some .int) rm_X5_lettersOf [vR 2, vI p1] S (some (vI out)) S := by
  refine Ct.intro (own := RX5) (lv := [(0, vR 2), (1, vI p1)]) (by decide +kernel) rfl ⟨rfl, rfl⟩ rfl (Nat.le_of_ble_eq_true rfl) ?_
  intro G hG hR
  revert h
  unfold f_X5_lettersOf
  refine s_aload_n hG dX5_lettersOf_0 rfl ?_
  refine s_getC hG dX5_lettersOf_1 fl_RX5_18 (rfl) ?_
  refine s_iload_n hG dX5_lettersOf_4 rfl ?_
  refine s_csP hG (as := [vR 3, vI p1]) (st := []) (rm := rm_X7_read) dX5_lettersOf_5 ml_RX5_29 (tb5 (mem_i 19 rfl)) rfl ⟨rfl, rfl⟩ ⟨by decide, by decide⟩ (Nat.le_of_ble_eq_true rfl) ⟨Nat.zero_le _, Nat.zero_le _⟩ rfl (fun o h => c_X7_read l _ _ (rfl) _ o h) (fun o5 => ?_)
  exact s_riP hR dX5_lettersOf_8

def f_X5_shownLetter_b25 (p1 : Int32) (p2 : Int32)  (S : HS) (t0 : Int32) : Option (Int32) :=
(f_X7_read 4 ((p1 * (5 : Int32)) + t0) S).bind (fun o35 =>
some o35)
def f_X5_shownLetter (p1 : Int32) (p2 : Int32) (S : HS) : Option (Int32) :=
(f_X7_has ((S.1 2 1).toInt64) p1 S).bind (fun o6 =>
if o6 = 0 then
f_X5_shownLetter_b25 p1 p2  S p2
else
(f_X5_lettersOf p1 S).bind (fun o14 =>
f_X5_shownLetter_b25 p1 p2  S ((o14 - (1 : Int32)) - p2)))
def rm_X5_shownLetter : Room := { frames := 2, cells := 0, slots := 0, locals := 42 }
set_option maxRecDepth 100000 in
set_option maxHeartbeats 4000000 in
theorem c_X5_shownLetter (l : Launch) (p1 : Int32) (p2 : Int32)  (S : HS) (out : Int32) (h : f_X5_shownLetter p1 p2 S = some out) : Ct l yX5_shownLetter cX5_shownLetter 4 (some .int) rm_X5_shownLetter [vR 2, vI p1, vI p2] S (some (vI out)) S := by
  refine Ct.intro (own := RX5) (lv := [(0, vR 2), (1, vI p1), (2, vI p2)]) (by decide +kernel) rfl ⟨rfl, rfl⟩ rfl (Nat.le_of_ble_eq_true rfl) ?_
  intro G hG hR
  revert h
  have hb25 : ∀ (t0 : Int32), f_X5_shownLetter_b25 p1 p2 S t0 = some out → G 0 0 S [(0, vR 2), (1, vI p1)] 25 [vI t0] := by
    intro t0
    unfold f_X5_shownLetter_b25
    refine s_istore_n hG (lv' := [(3, vI t0), (0, vR 2), (1, vI p1)]) dX5_shownLetter_25 (by decide) rfl ?_
    refine s_aload_n hG dX5_shownLetter_26 rfl ?_
    refine s_getC hG dX5_shownLetter_27 fl_RX5_22 (rfl) ?_
    refine s_iload_n hG dX5_shownLetter_30 rfl ?_
    refine s_iconst hG (v := (5 : Int32)) dX5_shownLetter_31 (by decide) ?_
    refine s_imul hG dX5_shownLetter_32 ?_
    refine s_iload_n hG dX5_shownLetter_33 rfl ?_
    refine s_iadd hG dX5_shownLetter_34 ?_
    refine s_csP hG (as := [vR 4, vI ((p1 * (5 : Int32)) + t0)]) (st := []) (rm := rm_X7_read) dX5_shownLetter_35 ml_RX5_29 (tb5 (mem_i 19 rfl)) rfl ⟨rfl, rfl⟩ ⟨by decide, by decide⟩ (Nat.le_of_ble_eq_true rfl) ⟨Nat.zero_le _, Nat.zero_le _⟩ rfl (fun o h => c_X7_read l _ _ (rfl) _ o h) (fun o35 => ?_)
    exact s_riP hR dX5_shownLetter_38
  unfold f_X5_shownLetter
  refine s_aload_n hG dX5_shownLetter_0 rfl ?_
  refine s_getI hG dX5_shownLetter_1 fl_RX5_15 (rfl) ?_
  refine s_i2l hG dX5_shownLetter_4 ?_
  refine s_iload_n hG dX5_shownLetter_5 rfl ?_
  refine s_csP hG (as := [vL ((S.1 2 1).toInt64), vI p1]) (st := []) (rm := rm_X7_has) dX5_shownLetter_6 ml_RX5_33 (tb6 (mem_i 14 rfl)) rfl ⟨rfl, rfl⟩ ⟨by decide, by decide⟩ (Nat.le_of_ble_eq_true rfl) ⟨Nat.zero_le _, Nat.zero_le _⟩ rfl (fun o h => c_X7_has l _ _ _ o h) (fun o6 => ?_)
  refine s_if_eq hG (tgt := 24) dX5_shownLetter_9 (by decide) ?_ ?_
  · refine s_iload_n hG dX5_shownLetter_24 rfl ?_
    refine s_lv hG [0, 1] rfl ?_
    exact hb25 _
  · refine s_aload_n hG dX5_shownLetter_12 rfl ?_
    refine s_iload_n hG dX5_shownLetter_13 rfl ?_
    refine s_cvP hG (as := [vI p1]) (st := []) (rm := rm_X5_lettersOf) dX5_shownLetter_14 ml_RX5_37 (rfl) (tb7 (mem_i 0 rfl)) rfl ⟨rfl, rfl⟩ ⟨by decide, by decide⟩ (Nat.le_of_ble_eq_true rfl) ⟨Nat.zero_le _, Nat.zero_le _⟩ rfl (fun o h => c_X5_lettersOf l _ _ o h) (fun o14 => ?_)
    refine s_iconst hG (v := (1 : Int32)) dX5_shownLetter_17 (by decide) ?_
    refine s_isub hG dX5_shownLetter_18 ?_
    refine s_iload_n hG dX5_shownLetter_19 rfl ?_
    refine s_isub hG dX5_shownLetter_20 ?_
    refine s_goto hG (tgt := 25) dX5_shownLetter_21 (by decide) ?_
    refine s_lv hG [0, 1] rfl ?_
    exact hb25 _

def f_X4_draft (p1 : Int32) (p2 : Int32) (p3 : Int32) (S : HS) : Option (HS) :=
(f_X7_put 6 (S.1 5 0) p1 S).bind (fun o9 =>
(f_X7_put 7 (o9.1 5 0) p2 o9).bind (fun o21 =>
(f_X7_put 8 (o21.1 5 0) p3 o21).bind (fun o33 =>
some o33)))
def rm_X4_draft : Room := { frames := 1, cells := 0, slots := 0, locals := 22 }
set_option maxRecDepth 100000 in
set_option maxHeartbeats 4000000 in
theorem c_X4_draft (l : Launch) (p1 : Int32) (p2 : Int32) (p3 : Int32)  (S : HS) (out : HS) (h : f_X4_draft p1 p2 p3 S = some out) : Ct l yX4_draft cX4_draft 4 none rm_X4_draft [vR 5, vI p1, vI p2, vI p3] S none out := by
  refine Ct.intro (own := RX4) (lv := [(0, vR 5), (1, vI p1), (2, vI p2), (3, vI p3)]) (by decide +kernel) rfl ⟨rfl, rfl⟩ rfl (Nat.le_of_ble_eq_true rfl) ?_
  intro G hG hR
  revert h
  unfold f_X4_draft
  refine s_aload_n hG dX4_draft_0 rfl ?_
  refine s_getC hG dX4_draft_1 fl_RX4_15 (rfl) ?_
  refine s_aload_n hG dX4_draft_4 rfl ?_
  refine s_getI hG dX4_draft_5 fl_RX4_9 (rfl) ?_
  refine s_iload_n hG dX4_draft_8 rfl ?_
  refine s_csV hG (as := [vR 6, vI (S.1 5 0), vI p1]) (st := []) (rm := rm_X7_put) dX4_draft_9 ml_RX4_25 (tb5 (mem_i 15 rfl)) rfl ⟨rfl, rfl⟩ ⟨by decide, by decide⟩ (Nat.le_of_ble_eq_true rfl) ⟨Nat.zero_le _, Nat.zero_le _⟩ rfl (fun o h => c_X7_put l _ _ _ (rfl) _ o h) (fun o9 => ?_)
  refine s_aload_n hG dX4_draft_12 rfl ?_
  refine s_getC hG dX4_draft_13 fl_RX4_19 (rfl) ?_
  refine s_aload_n hG dX4_draft_16 rfl ?_
  refine s_getI hG dX4_draft_17 fl_RX4_9 (rfl) ?_
  refine s_iload_n hG dX4_draft_20 rfl ?_
  refine s_csV hG (as := [vR 7, vI (o9.1 5 0), vI p2]) (st := []) (rm := rm_X7_put) dX4_draft_21 ml_RX4_25 (tb5 (mem_i 15 rfl)) rfl ⟨rfl, rfl⟩ ⟨by decide, by decide⟩ (Nat.le_of_ble_eq_true rfl) ⟨Nat.zero_le _, Nat.zero_le _⟩ rfl (fun o h => c_X7_put l _ _ _ (rfl) _ o h) (fun o21 => ?_)
  refine s_aload_n hG dX4_draft_24 rfl ?_
  refine s_getC hG dX4_draft_25 fl_RX4_22 (rfl) ?_
  refine s_aload_n hG dX4_draft_28 rfl ?_
  refine s_getI hG dX4_draft_29 fl_RX4_9 (rfl) ?_
  refine s_iload_n hG dX4_draft_32 rfl ?_
  refine s_csV hG (as := [vR 8, vI (o21.1 5 0), vI p3]) (st := []) (rm := rm_X7_put) dX4_draft_33 ml_RX4_25 (tb5 (mem_i 15 rfl)) rfl ⟨rfl, rfl⟩ ⟨by decide, by decide⟩ (Nat.le_of_ble_eq_true rfl) ⟨Nat.zero_le _, Nat.zero_le _⟩ rfl (fun o h => c_X7_put l _ _ _ (rfl) _ o h) (fun o33 => ?_)
  exact s_rvC hR dX4_draft_36

def f_X6_aboveOf_b23 (p1 : Int32)  (S : HS) (t0 : Int32) : Option (Int32) :=
some t0
def f_X6_aboveOf_b22 (p1 : Int32)  (S : HS)  : Option (Int32) :=
f_X6_aboveOf_b23 p1  S (-1 : Int32)
def f_X6_aboveOf (p1 : Int32) (S : HS) : Option (Int32) :=
if p1 < 0 then
f_X6_aboveOf_b22 p1  S
else
if (60 : Int32) ≤ p1 then
f_X6_aboveOf_b22 p1  S
else
if ib p1 (60) = true then
f_X6_aboveOf_b23 p1  S (S.1 14 p1.toNatClampNeg)
else none
def rm_X6_aboveOf : Room := { frames := 0, cells := 0, slots := 0, locals := 0 }
set_option maxRecDepth 100000 in
set_option maxHeartbeats 4000000 in
theorem c_X6_aboveOf (l : Launch) (p1 : Int32)  (S : HS) (out : Int32) (h : f_X6_aboveOf p1 S = some out) : Ct l yX6_aboveOf cX6_aboveOf 2 (some .int) rm_X6_aboveOf [vR 9, vI p1] S (some (vI out)) S := by
  refine Ct.intro (own := RX6) (lv := [(0, vR 9), (1, vI p1)]) (by decide +kernel) rfl ⟨rfl, rfl⟩ rfl (Nat.le_of_ble_eq_true rfl) ?_
  intro G hG hR
  revert h
  have hb23 : ∀ (t0 : Int32), f_X6_aboveOf_b23 p1 S t0 = some out → G 0 0 S [] 23 [vI t0] := by
    intro t0
    unfold f_X6_aboveOf_b23
    exact s_riP hR dX6_aboveOf_23
  have hb22 :  f_X6_aboveOf_b22 p1 S  = some out → G 0 0 S [] 22 [] := by
    skip
    unfold f_X6_aboveOf_b22
    refine s_iconst hG (v := (-1 : Int32)) dX6_aboveOf_22 (by decide) ?_
    exact hb23 _
  unfold f_X6_aboveOf
  refine s_iload_n hG dX6_aboveOf_0 rfl ?_
  refine s_if_lt hG (tgt := 22) dX6_aboveOf_1 (by decide) ?_ ?_
  · refine s_lv hG [] rfl ?_
    exact hb22 
  · refine s_iload_n hG dX6_aboveOf_4 rfl ?_
    refine s_aload_n hG dX6_aboveOf_5 rfl ?_
    refine s_getC hG dX6_aboveOf_6 fl_RX6_28 (rfl) ?_
    refine s_alen hG (v := (60 : Int32)) dX6_aboveOf_9 (rfl) (fun _ => rfl) rfl ?_
    refine s_icmp_ge hG (tgt := 22) dX6_aboveOf_10 (by decide) ?_ ?_
    · refine s_lv hG [] rfl ?_
      exact hb22 
    · refine s_aload_n hG dX6_aboveOf_13 rfl ?_
      refine s_getC hG dX6_aboveOf_14 fl_RX6_28 (rfl) ?_
      refine s_iload_n hG dX6_aboveOf_17 rfl ?_
      refine s_iaload hG dX6_aboveOf_18 (rfl) ?_
      refine s_goto hG (tgt := 23) dX6_aboveOf_19 (by decide) ?_
      refine s_lv hG [] rfl ?_
      exact hb23 _

def f_X6_standOf_b23 (p1 : Int32)  (S : HS) (t0 : Int32) : Option (Int32) :=
some t0
def f_X6_standOf_b22 (p1 : Int32)  (S : HS)  : Option (Int32) :=
f_X6_standOf_b23 p1  S (-1 : Int32)
def f_X6_standOf (p1 : Int32) (S : HS) : Option (Int32) :=
if p1 < 0 then
f_X6_standOf_b22 p1  S
else
if (4 : Int32) ≤ p1 then
f_X6_standOf_b22 p1  S
else
if ib p1 (4) = true then
f_X6_standOf_b23 p1  S (S.1 15 p1.toNatClampNeg)
else none
def rm_X6_standOf : Room := { frames := 0, cells := 0, slots := 0, locals := 0 }
set_option maxRecDepth 100000 in
set_option maxHeartbeats 4000000 in
theorem c_X6_standOf (l : Launch) (p1 : Int32)  (S : HS) (out : Int32) (h : f_X6_standOf p1 S = some out) : Ct l yX6_standOf cX6_standOf 2 (some .int) rm_X6_standOf [vR 9, vI p1] S (some (vI out)) S := by
  refine Ct.intro (own := RX6) (lv := [(0, vR 9), (1, vI p1)]) (by decide +kernel) rfl ⟨rfl, rfl⟩ rfl (Nat.le_of_ble_eq_true rfl) ?_
  intro G hG hR
  revert h
  have hb23 : ∀ (t0 : Int32), f_X6_standOf_b23 p1 S t0 = some out → G 0 0 S [] 23 [vI t0] := by
    intro t0
    unfold f_X6_standOf_b23
    exact s_riP hR dX6_standOf_23
  have hb22 :  f_X6_standOf_b22 p1 S  = some out → G 0 0 S [] 22 [] := by
    skip
    unfold f_X6_standOf_b22
    refine s_iconst hG (v := (-1 : Int32)) dX6_standOf_22 (by decide) ?_
    exact hb23 _
  unfold f_X6_standOf
  refine s_iload_n hG dX6_standOf_0 rfl ?_
  refine s_if_lt hG (tgt := 22) dX6_standOf_1 (by decide) ?_ ?_
  · refine s_lv hG [] rfl ?_
    exact hb22 
  · refine s_iload_n hG dX6_standOf_4 rfl ?_
    refine s_aload_n hG dX6_standOf_5 rfl ?_
    refine s_getC hG dX6_standOf_6 fl_RX6_31 (rfl) ?_
    refine s_alen hG (v := (4 : Int32)) dX6_standOf_9 (rfl) (fun _ => rfl) rfl ?_
    refine s_icmp_ge hG (tgt := 22) dX6_standOf_10 (by decide) ?_ ?_
    · refine s_lv hG [] rfl ?_
      exact hb22 
    · refine s_aload_n hG dX6_standOf_13 rfl ?_
      refine s_getC hG dX6_standOf_14 fl_RX6_31 (rfl) ?_
      refine s_iload_n hG dX6_standOf_17 rfl ?_
      refine s_iaload hG dX6_standOf_18 (rfl) ?_
      refine s_goto hG (tgt := 23) dX6_standOf_19 (by decide) ?_
      refine s_lv hG [] rfl ?_
      exact hb23 _

def f_X6_isBranch_b30 (p1 : Int32) (p2 : Int32)  (S : HS) (t0 : Int32) : Option (Int32) :=
if nz t0 = true then some t0 else none
def f_X6_isBranch_b29 (p1 : Int32) (p2 : Int32)  (S : HS)  : Option (Int32) :=
f_X6_isBranch_b30 p1 p2  S (0 : Int32)
def f_X6_isBranch (p1 : Int32) (p2 : Int32) (S : HS) : Option (Int32) :=
(f_X7_read 13 p1 S).bind (fun o5 =>
if o5 = p2 then
(f_X6_aboveOf p1 S).bind (fun o14 =>
(f_X6_standOf p2 S).bind (fun o19 =>
if o14 = o19 then
f_X6_isBranch_b30 p1 p2  S (1 : Int32)
else
f_X6_isBranch_b29 p1 p2  S))
else
f_X6_isBranch_b29 p1 p2  S)
def rm_X6_isBranch : Room := { frames := 1, cells := 0, slots := 0, locals := 21 }
set_option maxRecDepth 100000 in
set_option maxHeartbeats 4000000 in
theorem c_X6_isBranch (l : Launch) (p1 : Int32) (p2 : Int32)  (S : HS) (out : Int32) (h : f_X6_isBranch p1 p2 S = some out) : Ct l yX6_isBranch cX6_isBranch 3 (some .boolean) rm_X6_isBranch [vR 9, vI p1, vI p2] S (some (vI out)) S := by
  refine Ct.intro (own := RX6) (lv := [(0, vR 9), (1, vI p1), (2, vI p2)]) (by decide +kernel) rfl ⟨rfl, rfl⟩ rfl (Nat.le_of_ble_eq_true rfl) ?_
  intro G hG hR
  revert h
  have hb30 : ∀ (t0 : Int32), f_X6_isBranch_b30 p1 p2 S t0 = some out → G 0 0 S [] 30 [vI t0] := by
    intro t0
    unfold f_X6_isBranch_b30
    exact s_rzP hR dX6_isBranch_30
  have hb29 :  f_X6_isBranch_b29 p1 p2 S  = some out → G 0 0 S [] 29 [] := by
    skip
    unfold f_X6_isBranch_b29
    refine s_iconst hG (v := (0 : Int32)) dX6_isBranch_29 (by decide) ?_
    exact hb30 _
  unfold f_X6_isBranch
  refine s_aload_n hG dX6_isBranch_0 rfl ?_
  refine s_getC hG dX6_isBranch_1 fl_RX6_25 (rfl) ?_
  refine s_iload_n hG dX6_isBranch_4 rfl ?_
  refine s_csP hG (as := [vR 13, vI p1]) (st := []) (rm := rm_X7_read) dX6_isBranch_5 ml_RX6_42 (tb5 (mem_i 19 rfl)) rfl ⟨rfl, rfl⟩ ⟨by decide, by decide⟩ (Nat.le_of_ble_eq_true rfl) ⟨Nat.zero_le _, Nat.zero_le _⟩ rfl (fun o h => c_X7_read l _ _ (rfl) _ o h) (fun o5 => ?_)
  refine s_iload_n hG dX6_isBranch_8 rfl ?_
  refine s_icmp_ne hG (tgt := 29) dX6_isBranch_9 (by decide) ?_ ?_
  · refine s_lv hG [] rfl ?_
    exact hb29 
  · refine s_aload_n hG dX6_isBranch_12 rfl ?_
    refine s_iload_n hG dX6_isBranch_13 rfl ?_
    refine s_cvP hG (as := [vI p1]) (st := []) (rm := rm_X6_aboveOf) dX6_isBranch_14 ml_RX6_46 (rfl) (tb9 (mem_i 14 rfl)) rfl ⟨rfl, rfl⟩ ⟨by decide, by decide⟩ (Nat.le_of_ble_eq_true rfl) ⟨Nat.zero_le _, Nat.zero_le _⟩ rfl (fun o h => c_X6_aboveOf l _ _ o h) (fun o14 => ?_)
    refine s_aload_n hG dX6_isBranch_17 rfl ?_
    refine s_iload_n hG dX6_isBranch_18 rfl ?_
    refine s_cvP hG (as := [vI p2]) (st := [vI o14]) (rm := rm_X6_standOf) dX6_isBranch_19 ml_RX6_38 (rfl) (tb8 (mem_i 0 rfl)) rfl ⟨rfl, rfl⟩ ⟨by decide, by decide⟩ (Nat.le_of_ble_eq_true rfl) ⟨Nat.zero_le _, Nat.zero_le _⟩ rfl (fun o h => c_X6_standOf l _ _ o h) (fun o19 => ?_)
    refine s_icmp_ne hG (tgt := 29) dX6_isBranch_22 (by decide) ?_ ?_
    · refine s_lv hG [] rfl ?_
      exact hb29 
    · refine s_iconst hG (v := (1 : Int32)) dX6_isBranch_25 (by decide) ?_
      refine s_goto hG (tgt := 30) dX6_isBranch_26 (by decide) ?_
      refine s_lv hG [] rfl ?_
      exact hb30 _

def f_X6_branchOf_b34 (p1 : Int32) (p2 : Int32) (rec5 : Int32 × Int32 → Option (Int32)) (S : HS) (x3 : Int32) (x4 : Int32) : Option (Int32) :=
rec5 (x3, (x4 + (1 : Int32)))
def F_X6_branchOf_b5 (p1 : Int32) (p2 : Int32)  (S : HS) (rec5 : Int32 × Int32 → Option (Int32)) : Int32 × Int32 → Option (Int32) := fun q => match q with
  | (x3, x4) =>
    if (S.1 9 0) ≤ x4 then
    some (-1 : Int32)
    else
    (f_X6_isBranch x4 p1 S).bind (fun o18 =>
    if o18 = 0 then
    f_X6_branchOf_b34 p1 p2 rec5 S x3 x4
    else
    if x3 = 0 then
    some x4
    else
    f_X6_branchOf_b34 p1 p2 rec5 S (x3 + (-1 : Int32)) x4)
def f_X6_branchOf_b5 (p1 : Int32) (p2 : Int32)  (S : HS) (x3 : Int32) (x4 : Int32) : Option (Int32) := fx (F_X6_branchOf_b5 p1 p2 S) FU (x3, x4)
def f_X6_branchOf (p1 : Int32) (p2 : Int32) (S : HS) : Option (Int32) :=
f_X6_branchOf_b5 p1 p2  S p2 (0 : Int32)
def rm_X6_branchOf : Room := { frames := 2, cells := 0, slots := 0, locals := 43 }
set_option maxRecDepth 100000 in
set_option maxHeartbeats 4000000 in
theorem c_X6_branchOf (l : Launch) (p1 : Int32) (p2 : Int32)  (S : HS) (out : Int32) (h : f_X6_branchOf p1 p2 S = some out) : Ct l yX6_branchOf cX6_branchOf 5 (some .int) rm_X6_branchOf [vR 9, vI p1, vI p2] S (some (vI out)) S := by
  refine Ct.intro (own := RX6) (lv := [(0, vR 9), (1, vI p1), (2, vI p2)]) (by decide +kernel) rfl ⟨rfl, rfl⟩ rfl (Nat.le_of_ble_eq_true rfl) ?_
  intro G hG hR
  revert h
  have hb34 : ∀ (rec5 : Int32 × Int32 → Option (Int32)) (hrec5 : ∀ (x3 : Int32) (x4 : Int32), rec5 (x3, x4) = some out → G 0 0 S [(0, vR 9), (1, vI p1), (3, vI x3), (4, vI x4)] 5 []) (x3 : Int32) (x4 : Int32), f_X6_branchOf_b34 p1 p2 rec5 S x3 x4 = some out → G 0 0 S [(0, vR 9), (1, vI p1), (3, vI x3), (4, vI x4)] 34 [] := by
    intro rec5 hrec5 x3 x4
    unfold f_X6_branchOf_b34
    refine s_iinc hG (v := (x4 + (1 : Int32))) (lv' := [(4, vI (x4 + (1 : Int32))), (0, vR 9), (1, vI p1), (3, vI x3)]) dX6_branchOf_34 rfl rfl (by decide) rfl ?_
    refine s_goto hG (tgt := 5) dX6_branchOf_37 (by decide) ?_
    refine s_lv hG [1, 2, 3, 0] rfl ?_
    exact hrec5 _ _
  have hb5 : ∀ (x3 : Int32) (x4 : Int32), f_X6_branchOf_b5 p1 p2 S x3 x4 = some out → G 0 0 S [(0, vR 9), (1, vI p1), (3, vI x3), (4, vI x4)] 5 [] := by
    intro  x3 x4
    unfold f_X6_branchOf_b5
    generalize FU = nf
    revert x3 x4
    induction nf with
    | zero => intro x3 x4 h9; cases h9
    | succ nf hrec5 =>
      intro x3 x4
      show F_X6_branchOf_b5 p1 p2 S (fx (F_X6_branchOf_b5 p1 p2 S) nf) (x3, x4) = some out → _
      generalize fx (F_X6_branchOf_b5 p1 p2 S) nf = rec5 at hrec5
      unfold F_X6_branchOf_b5
      dsimp only
      refine s_iload hG dX6_branchOf_5 rfl ?_
      refine s_aload_n hG dX6_branchOf_7 rfl ?_
      refine s_getI hG dX6_branchOf_8 fl_RX6_9 (rfl) ?_
      refine s_icmp_ge hG (tgt := 40) dX6_branchOf_11 (by decide) ?_ ?_
      · refine s_iconst hG (v := (-1 : Int32)) dX6_branchOf_40 (by decide) ?_
        exact s_riP hR dX6_branchOf_41
      · refine s_aload_n hG dX6_branchOf_14 rfl ?_
        refine s_iload hG dX6_branchOf_15 rfl ?_
        refine s_iload_n hG dX6_branchOf_17 rfl ?_
        refine s_cvP hG (as := [vI x4, vI p1]) (st := []) (rm := rm_X6_isBranch) dX6_branchOf_18 ml_RX6_49 (rfl) (tb10 (mem_i 9 rfl)) rfl ⟨rfl, rfl⟩ ⟨by decide, by decide⟩ (Nat.le_of_ble_eq_true rfl) ⟨Nat.zero_le _, Nat.zero_le _⟩ rfl (fun o h => c_X6_isBranch l _ _ _ o h) (fun o18 => ?_)
        refine s_if_eq hG (tgt := 34) dX6_branchOf_21 (by decide) ?_ ?_
        · exact hb34 _ hrec5 _ _
        · refine s_iload_n hG dX6_branchOf_24 rfl ?_
          refine s_if_ne hG (tgt := 31) dX6_branchOf_25 (by decide) ?_ ?_
          · refine s_iinc hG (v := (x3 + (-1 : Int32))) (lv' := [(3, vI (x3 + (-1 : Int32))), (0, vR 9), (1, vI p1), (4, vI x4)]) dX6_branchOf_31 rfl rfl (by decide) rfl ?_
            refine s_lv hG [1, 2, 0, 3] rfl ?_
            exact hb34 _ hrec5 _ _
          · refine s_iload hG dX6_branchOf_28 rfl ?_
            exact s_riP hR dX6_branchOf_30
  unfold f_X6_branchOf
  refine s_iload_n hG dX6_branchOf_0 rfl ?_
  refine s_istore_n hG (lv' := [(3, vI p2), (0, vR 9), (1, vI p1), (2, vI p2)]) dX6_branchOf_1 (by decide) rfl ?_
  refine s_iconst hG (v := (0 : Int32)) dX6_branchOf_2 (by decide) ?_
  refine s_istore hG (lv' := [(4, vI (0 : Int32)), (3, vI p2), (0, vR 9), (1, vI p1), (2, vI p2)]) dX6_branchOf_3 (by decide) rfl ?_
  refine s_lv hG [2, 3, 1, 0] rfl ?_
  exact hb5 _ _

def f_X6_countBelow_b44 (p1 : Int32) (rec5 : Int64 × Int32 → Option (Int32)) (S : HS) (x2 : Int64) (x4 : Int32) : Option (Int32) :=
rec5 (x2, (x4 + (1 : Int32)))
def f_X6_countBelow_b37 (p1 : Int32) (rec5 : Int64 × Int32 → Option (Int32)) (S : HS) (x2 : Int64) (x4 : Int32) : Option (Int32) :=
f_X6_countBelow_b44 p1 rec5 S (x2 ||| ((1 : Int64) <<< (x4.toInt64 &&& 63))) x4
def F_X6_countBelow_b5 (p1 : Int32)  (S : HS) (rec5 : Int64 × Int32 → Option (Int32)) : Int64 × Int32 → Option (Int32) := fun q => match q with
  | (x2, x4) =>
    if (S.1 9 0) ≤ x4 then
    (f_J13_bitCount_95d88 x2 S).bind (fun o51 =>
    some o51)
    else
    (f_X6_isBranch x4 p1 S).bind (fun o18 =>
    if o18 = 0 then
    (f_X6_aboveOf x4 S).bind (fun o28 =>
    (f_X7_has x2 o28 S).bind (fun o31 =>
    if o31 = 0 then
    f_X6_countBelow_b44 p1 rec5 S x2 x4
    else
    f_X6_countBelow_b37 p1 rec5 S x2 x4))
    else
    f_X6_countBelow_b37 p1 rec5 S x2 x4)
def f_X6_countBelow_b5 (p1 : Int32)  (S : HS) (x2 : Int64) (x4 : Int32) : Option (Int32) := fx (F_X6_countBelow_b5 p1 S) FU (x2, x4)
def f_X6_countBelow (p1 : Int32) (S : HS) : Option (Int32) :=
f_X6_countBelow_b5 p1  S (0 : Int64) (0 : Int32)
def rm_X6_countBelow : Room := { frames := 2, cells := 0, slots := 0, locals := 43 }
set_option maxRecDepth 100000 in
set_option maxHeartbeats 4000000 in
theorem c_X6_countBelow (l : Launch) (p1 : Int32)  (S : HS) (out : Int32) (h : f_X6_countBelow p1 S = some out) : Ct l yX6_countBelow cX6_countBelow 5 (some .int) rm_X6_countBelow [vR 9, vI p1] S (some (vI out)) S := by
  refine Ct.intro (own := RX6) (lv := [(0, vR 9), (1, vI p1)]) (by decide +kernel) rfl ⟨rfl, rfl⟩ rfl (Nat.le_of_ble_eq_true rfl) ?_
  intro G hG hR
  revert h
  have hb44 : ∀ (rec5 : Int64 × Int32 → Option (Int32)) (hrec5 : ∀ (x2 : Int64) (x4 : Int32), rec5 (x2, x4) = some out → G 0 0 S [(0, vR 9), (1, vI p1), (2, vL x2), (4, vI x4)] 5 []) (x2 : Int64) (x4 : Int32), f_X6_countBelow_b44 p1 rec5 S x2 x4 = some out → G 0 0 S [(0, vR 9), (1, vI p1), (2, vL x2), (4, vI x4)] 44 [] := by
    intro rec5 hrec5 x2 x4
    unfold f_X6_countBelow_b44
    refine s_iinc hG (v := (x4 + (1 : Int32))) (lv' := [(4, vI (x4 + (1 : Int32))), (0, vR 9), (1, vI p1), (2, vL x2)]) dX6_countBelow_44 rfl rfl (by decide) rfl ?_
    refine s_goto hG (tgt := 5) dX6_countBelow_47 (by decide) ?_
    refine s_lv hG [1, 2, 3, 0] rfl ?_
    exact hrec5 _ _
  have hb37 : ∀ (rec5 : Int64 × Int32 → Option (Int32)) (hrec5 : ∀ (x2 : Int64) (x4 : Int32), rec5 (x2, x4) = some out → G 0 0 S [(0, vR 9), (1, vI p1), (2, vL x2), (4, vI x4)] 5 []) (x2 : Int64) (x4 : Int32), f_X6_countBelow_b37 p1 rec5 S x2 x4 = some out → G 0 0 S [(0, vR 9), (1, vI p1), (2, vL x2), (4, vI x4)] 37 [] := by
    intro rec5 hrec5 x2 x4
    unfold f_X6_countBelow_b37
    refine s_lload_n hG dX6_countBelow_37 rfl ?_
    refine s_lconst hG (v := (1 : Int64)) dX6_countBelow_38 (by decide) ?_
    refine s_iload hG dX6_countBelow_39 rfl ?_
    refine s_lshl hG dX6_countBelow_41 ?_
    refine s_lor hG dX6_countBelow_42 ?_
    refine s_lstore_n hG (lv' := [(2, vL (x2 ||| ((1 : Int64) <<< (x4.toInt64 &&& 63)))), (0, vR 9), (1, vI p1), (4, vI x4)]) dX6_countBelow_43 (by decide) rfl ?_
    refine s_lv hG [1, 2, 0, 3] rfl ?_
    exact hb44 _ hrec5 _ _
  have hb5 : ∀ (x2 : Int64) (x4 : Int32), f_X6_countBelow_b5 p1 S x2 x4 = some out → G 0 0 S [(0, vR 9), (1, vI p1), (2, vL x2), (4, vI x4)] 5 [] := by
    intro  x2 x4
    unfold f_X6_countBelow_b5
    generalize FU = nf
    revert x2 x4
    induction nf with
    | zero => intro x2 x4 h9; cases h9
    | succ nf hrec5 =>
      intro x2 x4
      show F_X6_countBelow_b5 p1 S (fx (F_X6_countBelow_b5 p1 S) nf) (x2, x4) = some out → _
      generalize fx (F_X6_countBelow_b5 p1 S) nf = rec5 at hrec5
      unfold F_X6_countBelow_b5
      dsimp only
      refine s_iload hG dX6_countBelow_5 rfl ?_
      refine s_aload_n hG dX6_countBelow_7 rfl ?_
      refine s_getI hG dX6_countBelow_8 fl_RX6_9 (rfl) ?_
      refine s_icmp_ge hG (tgt := 50) dX6_countBelow_11 (by decide) ?_ ?_
      · refine s_lload_n hG dX6_countBelow_50 rfl ?_
        refine s_csP hG (as := [vL x2]) (st := []) (rm := rm_J13_bitCount_95d88) dX6_countBelow_51 ml_RX6_57 (tb9 (mem_i 27 rfl)) rfl ⟨rfl, rfl⟩ ⟨by decide, by decide⟩ (Nat.le_of_ble_eq_true rfl) ⟨Nat.zero_le _, Nat.zero_le _⟩ rfl (fun o h => c_J13_bitCount_95d88 l _ _ o h) (fun o51 => ?_)
        exact s_riP hR dX6_countBelow_54
      · refine s_aload_n hG dX6_countBelow_14 rfl ?_
        refine s_iload hG dX6_countBelow_15 rfl ?_
        refine s_iload_n hG dX6_countBelow_17 rfl ?_
        refine s_cvP hG (as := [vI x4, vI p1]) (st := []) (rm := rm_X6_isBranch) dX6_countBelow_18 ml_RX6_49 (rfl) (tb10 (mem_i 9 rfl)) rfl ⟨rfl, rfl⟩ ⟨by decide, by decide⟩ (Nat.le_of_ble_eq_true rfl) ⟨Nat.zero_le _, Nat.zero_le _⟩ rfl (fun o h => c_X6_isBranch l _ _ _ o h) (fun o18 => ?_)
        refine s_if_ne hG (tgt := 37) dX6_countBelow_21 (by decide) ?_ ?_
        · exact hb37 _ hrec5 _ _
        · refine s_lload_n hG dX6_countBelow_24 rfl ?_
          refine s_aload_n hG dX6_countBelow_25 rfl ?_
          refine s_iload hG dX6_countBelow_26 rfl ?_
          refine s_cvP hG (as := [vI x4]) (st := [vL x2]) (rm := rm_X6_aboveOf) dX6_countBelow_28 ml_RX6_46 (rfl) (tb9 (mem_i 14 rfl)) rfl ⟨rfl, rfl⟩ ⟨by decide, by decide⟩ (Nat.le_of_ble_eq_true rfl) ⟨Nat.zero_le _, Nat.zero_le _⟩ rfl (fun o h => c_X6_aboveOf l _ _ o h) (fun o28 => ?_)
          refine s_csP hG (as := [vL x2, vI o28]) (st := []) (rm := rm_X7_has) dX6_countBelow_31 ml_RX6_53 (tb6 (mem_i 14 rfl)) rfl ⟨rfl, rfl⟩ ⟨by decide, by decide⟩ (Nat.le_of_ble_eq_true rfl) ⟨Nat.zero_le _, Nat.zero_le _⟩ rfl (fun o h => c_X7_has l _ _ _ o h) (fun o31 => ?_)
          refine s_if_eq hG (tgt := 44) dX6_countBelow_34 (by decide) ?_ ?_
          · exact hb44 _ hrec5 _ _
          · exact hb37 _ hrec5 _ _
  unfold f_X6_countBelow
  refine s_lconst hG (v := (0 : Int64)) dX6_countBelow_0 (by decide) ?_
  refine s_lstore_n hG (lv' := [(2, vL (0 : Int64)), (0, vR 9), (1, vI p1)]) dX6_countBelow_1 (by decide) rfl ?_
  refine s_iconst hG (v := (0 : Int32)) dX6_countBelow_2 (by decide) ?_
  refine s_istore hG (lv' := [(4, vI (0 : Int32)), (2, vL (0 : Int64)), (0, vR 9), (1, vI p1)]) dX6_countBelow_3 (by decide) rfl ?_
  refine s_lv hG [2, 3, 1, 0] rfl ?_
  exact hb5 _ _

def f_X6_countBranches_b24 (p1 : Int32) (rec4 : Int32 × Int32 → Option (Int32)) (S : HS) (x2 : Int32) (x3 : Int32) : Option (Int32) :=
rec4 (x2, (x3 + (1 : Int32)))
def F_X6_countBranches_b4 (p1 : Int32)  (S : HS) (rec4 : Int32 × Int32 → Option (Int32)) : Int32 × Int32 → Option (Int32) := fun q => match q with
  | (x2, x3) =>
    if (S.1 9 0) ≤ x3 then
    some x2
    else
    (f_X6_isBranch x3 p1 S).bind (fun o15 =>
    if o15 = 0 then
    f_X6_countBranches_b24 p1 rec4 S x2 x3
    else
    f_X6_countBranches_b24 p1 rec4 S (x2 + (1 : Int32)) x3)
def f_X6_countBranches_b4 (p1 : Int32)  (S : HS) (x2 : Int32) (x3 : Int32) : Option (Int32) := fx (F_X6_countBranches_b4 p1 S) FU (x2, x3)
def f_X6_countBranches (p1 : Int32) (S : HS) : Option (Int32) :=
f_X6_countBranches_b4 p1  S (0 : Int32) (0 : Int32)
def rm_X6_countBranches : Room := { frames := 2, cells := 0, slots := 0, locals := 43 }
set_option maxRecDepth 100000 in
set_option maxHeartbeats 4000000 in
theorem c_X6_countBranches (l : Launch) (p1 : Int32)  (S : HS) (out : Int32) (h : f_X6_countBranches p1 S = some out) : Ct l yX6_countBranches cX6_countBranches 4 (some .int) rm_X6_countBranches [vR 9, vI p1] S (some (vI out)) S := by
  refine Ct.intro (own := RX6) (lv := [(0, vR 9), (1, vI p1)]) (by decide +kernel) rfl ⟨rfl, rfl⟩ rfl (Nat.le_of_ble_eq_true rfl) ?_
  intro G hG hR
  revert h
  have hb24 : ∀ (rec4 : Int32 × Int32 → Option (Int32)) (hrec4 : ∀ (x2 : Int32) (x3 : Int32), rec4 (x2, x3) = some out → G 0 0 S [(0, vR 9), (1, vI p1), (2, vI x2), (3, vI x3)] 4 []) (x2 : Int32) (x3 : Int32), f_X6_countBranches_b24 p1 rec4 S x2 x3 = some out → G 0 0 S [(0, vR 9), (1, vI p1), (2, vI x2), (3, vI x3)] 24 [] := by
    intro rec4 hrec4 x2 x3
    unfold f_X6_countBranches_b24
    refine s_iinc hG (v := (x3 + (1 : Int32))) (lv' := [(3, vI (x3 + (1 : Int32))), (0, vR 9), (1, vI p1), (2, vI x2)]) dX6_countBranches_24 rfl rfl (by decide) rfl ?_
    refine s_goto hG (tgt := 4) dX6_countBranches_27 (by decide) ?_
    refine s_lv hG [1, 2, 3, 0] rfl ?_
    exact hrec4 _ _
  have hb4 : ∀ (x2 : Int32) (x3 : Int32), f_X6_countBranches_b4 p1 S x2 x3 = some out → G 0 0 S [(0, vR 9), (1, vI p1), (2, vI x2), (3, vI x3)] 4 [] := by
    intro  x2 x3
    unfold f_X6_countBranches_b4
    generalize FU = nf
    revert x2 x3
    induction nf with
    | zero => intro x2 x3 h9; cases h9
    | succ nf hrec4 =>
      intro x2 x3
      show F_X6_countBranches_b4 p1 S (fx (F_X6_countBranches_b4 p1 S) nf) (x2, x3) = some out → _
      generalize fx (F_X6_countBranches_b4 p1 S) nf = rec4 at hrec4
      unfold F_X6_countBranches_b4
      dsimp only
      refine s_iload_n hG dX6_countBranches_4 rfl ?_
      refine s_aload_n hG dX6_countBranches_5 rfl ?_
      refine s_getI hG dX6_countBranches_6 fl_RX6_9 (rfl) ?_
      refine s_icmp_ge hG (tgt := 30) dX6_countBranches_9 (by decide) ?_ ?_
      · refine s_iload_n hG dX6_countBranches_30 rfl ?_
        exact s_riP hR dX6_countBranches_31
      · refine s_aload_n hG dX6_countBranches_12 rfl ?_
        refine s_iload_n hG dX6_countBranches_13 rfl ?_
        refine s_iload_n hG dX6_countBranches_14 rfl ?_
        refine s_cvP hG (as := [vI x3, vI p1]) (st := []) (rm := rm_X6_isBranch) dX6_countBranches_15 ml_RX6_49 (rfl) (tb10 (mem_i 9 rfl)) rfl ⟨rfl, rfl⟩ ⟨by decide, by decide⟩ (Nat.le_of_ble_eq_true rfl) ⟨Nat.zero_le _, Nat.zero_le _⟩ rfl (fun o h => c_X6_isBranch l _ _ _ o h) (fun o15 => ?_)
        refine s_if_eq hG (tgt := 24) dX6_countBranches_18 (by decide) ?_ ?_
        · exact hb24 _ hrec4 _ _
        · refine s_iinc hG (v := (x2 + (1 : Int32))) (lv' := [(2, vI (x2 + (1 : Int32))), (0, vR 9), (1, vI p1), (3, vI x3)]) dX6_countBranches_21 rfl rfl (by decide) rfl ?_
          refine s_lv hG [1, 2, 0, 3] rfl ?_
          exact hb24 _ hrec4 _ _
  unfold f_X6_countBranches
  refine s_iconst hG (v := (0 : Int32)) dX6_countBranches_0 (by decide) ?_
  refine s_istore_n hG (lv' := [(2, vI (0 : Int32)), (0, vR 9), (1, vI p1)]) dX6_countBranches_1 (by decide) rfl ?_
  refine s_iconst hG (v := (0 : Int32)) dX6_countBranches_2 (by decide) ?_
  refine s_istore_n hG (lv' := [(3, vI (0 : Int32)), (2, vI (0 : Int32)), (0, vR 9), (1, vI p1)]) dX6_countBranches_3 (by decide) rfl ?_
  refine s_lv hG [2, 3, 1, 0] rfl ?_
  exact hb4 _ _

def f_X6_counting_b53  (rec4 : Int64 × Int32 → Option (Int64)) (S : HS) (x1 : Int64) (x3 : Int32) : Option (Int64) :=
rec4 (x1, (x3 + (1 : Int32)))
def F_X6_counting_b19  (rec4 : Int64 × Int32 → Option (Int64)) (S : HS) (rec19 : Int64 × Int32 × Int32 × Int32 → Option (Int64)) : Int64 × Int32 × Int32 × Int32 → Option (Int64) := fun q => match q with
  | (x1, x3, x4, x5) =>
    if (60 : Int32) ≤ x5 then
    f_X6_counting_b53  rec4 S x1 x3
    else
    if x4 = (-1 : Int32) then
    f_X6_counting_b53  rec4 S x1 x3
    else
    (f_X6_aboveOf x4 S).bind (fun o42 =>
    rec19 ((x1 ||| ((1 : Int64) <<< (x4.toInt64 &&& 63))), x3, o42, (x5 + (1 : Int32))))
def f_X6_counting_b19  (rec4 : Int64 × Int32 → Option (Int64)) (S : HS) (x1 : Int64) (x3 : Int32) (x4 : Int32) (x5 : Int32) : Option (Int64) := fx (F_X6_counting_b19  rec4 S) FU (x1, x3, x4, x5)
def F_X6_counting_b4   (S : HS) (rec4 : Int64 × Int32 → Option (Int64)) : Int64 × Int32 → Option (Int64) := fun q => match q with
  | (x1, x3) =>
    if (4 : Int32) ≤ x3 then
    some x1
    else
    (f_X6_standOf x3 S).bind (fun o11 =>
    f_X6_counting_b19  rec4 S x1 x3 o11 (0 : Int32))
def f_X6_counting_b4   (S : HS) (x1 : Int64) (x3 : Int32) : Option (Int64) := fx (F_X6_counting_b4  S) FU (x1, x3)
def f_X6_counting  (S : HS) : Option (Int64) :=
f_X6_counting_b4   S (0 : Int64) (0 : Int32)
def rm_X6_counting : Room := { frames := 1, cells := 0, slots := 0, locals := 21 }
set_option maxRecDepth 100000 in
set_option maxHeartbeats 4000000 in
theorem c_X6_counting (l : Launch)   (S : HS) (out : Int64) (h : f_X6_counting  S = some out) : Ct l yX6_counting cX6_counting 6 (some .long) rm_X6_counting [vR 9] S (some (vL out)) S := by
  refine Ct.intro (own := RX6) (lv := [(0, vR 9)]) (by decide +kernel) rfl ⟨rfl, rfl⟩ rfl (Nat.le_of_ble_eq_true rfl) ?_
  intro G hG hR
  revert h
  have hb53 : ∀ (rec4 : Int64 × Int32 → Option (Int64)) (hrec4 : ∀ (x1 : Int64) (x3 : Int32), rec4 (x1, x3) = some out → G 0 0 S [(0, vR 9), (1, vL x1), (3, vI x3)] 4 []) (x1 : Int64) (x3 : Int32), f_X6_counting_b53  rec4 S x1 x3 = some out → G 0 0 S [(0, vR 9), (1, vL x1), (3, vI x3)] 53 [] := by
    intro rec4 hrec4 x1 x3
    unfold f_X6_counting_b53
    refine s_iinc hG (v := (x3 + (1 : Int32))) (lv' := [(3, vI (x3 + (1 : Int32))), (0, vR 9), (1, vL x1)]) dX6_counting_53 rfl rfl (by decide) rfl ?_
    refine s_goto hG (tgt := 4) dX6_counting_56 (by decide) ?_
    refine s_lv hG [1, 2, 0] rfl ?_
    exact hrec4 _ _
  have hb19 : ∀ (rec4 : Int64 × Int32 → Option (Int64)) (hrec4 : ∀ (x1 : Int64) (x3 : Int32), rec4 (x1, x3) = some out → G 0 0 S [(0, vR 9), (1, vL x1), (3, vI x3)] 4 []) (x1 : Int64) (x3 : Int32) (x4 : Int32) (x5 : Int32), f_X6_counting_b19  rec4 S x1 x3 x4 x5 = some out → G 0 0 S [(0, vR 9), (1, vL x1), (3, vI x3), (4, vI x4), (5, vI x5)] 19 [] := by
    intro rec4 hrec4 x1 x3 x4 x5
    unfold f_X6_counting_b19
    generalize FU = nf
    revert x1 x3 x4 x5
    induction nf with
    | zero => intro x1 x3 x4 x5 h9; cases h9
    | succ nf hrec19 =>
      intro x1 x3 x4 x5
      show F_X6_counting_b19  rec4 S (fx (F_X6_counting_b19  rec4 S) nf) (x1, x3, x4, x5) = some out → _
      generalize fx (F_X6_counting_b19  rec4 S) nf = rec19 at hrec19
      unfold F_X6_counting_b19
      dsimp only
      refine s_iload hG dX6_counting_19 rfl ?_
      refine s_bipush hG (v := (60 : Int32)) dX6_counting_21 (by decide) ?_
      refine s_icmp_ge hG (tgt := 53) dX6_counting_23 (by decide) ?_ ?_
      · refine s_lv hG [0, 1, 2] rfl ?_
        exact hb53 _ hrec4 _ _
      · refine s_iload hG dX6_counting_26 rfl ?_
        refine s_iconst hG (v := (-1 : Int32)) dX6_counting_28 (by decide) ?_
        refine s_icmp_eq hG (tgt := 53) dX6_counting_29 (by decide) ?_ ?_
        · refine s_lv hG [0, 1, 2] rfl ?_
          exact hb53 _ hrec4 _ _
        · refine s_lload_n hG dX6_counting_32 rfl ?_
          refine s_lconst hG (v := (1 : Int64)) dX6_counting_33 (by decide) ?_
          refine s_iload hG dX6_counting_34 rfl ?_
          refine s_lshl hG dX6_counting_36 ?_
          refine s_lor hG dX6_counting_37 ?_
          refine s_lstore_n hG (lv' := [(1, vL (x1 ||| ((1 : Int64) <<< (x4.toInt64 &&& 63)))), (0, vR 9), (3, vI x3), (4, vI x4), (5, vI x5)]) dX6_counting_38 (by decide) rfl ?_
          refine s_aload_n hG dX6_counting_39 rfl ?_
          refine s_iload hG dX6_counting_40 rfl ?_
          refine s_cvP hG (as := [vI x4]) (st := []) (rm := rm_X6_aboveOf) dX6_counting_42 ml_RX6_46 (rfl) (tb9 (mem_i 14 rfl)) rfl ⟨rfl, rfl⟩ ⟨by decide, by decide⟩ (Nat.le_of_ble_eq_true rfl) ⟨Nat.zero_le _, Nat.zero_le _⟩ rfl (fun o h => c_X6_aboveOf l _ _ o h) (fun o42 => ?_)
          refine s_istore hG (lv' := [(4, vI o42), (1, vL (x1 ||| ((1 : Int64) <<< (x4.toInt64 &&& 63)))), (0, vR 9), (3, vI x3), (5, vI x5)]) dX6_counting_45 (by decide) rfl ?_
          refine s_iinc hG (v := (x5 + (1 : Int32))) (lv' := [(5, vI (x5 + (1 : Int32))), (4, vI o42), (1, vL (x1 ||| ((1 : Int64) <<< (x4.toInt64 &&& 63)))), (0, vR 9), (3, vI x3)]) dX6_counting_47 rfl rfl (by decide) rfl ?_
          refine s_goto hG (tgt := 19) dX6_counting_50 (by decide) ?_
          refine s_lv hG [3, 2, 4, 1, 0] rfl ?_
          exact hrec19 _ _ _ _
  have hb4 : ∀ (x1 : Int64) (x3 : Int32), f_X6_counting_b4  S x1 x3 = some out → G 0 0 S [(0, vR 9), (1, vL x1), (3, vI x3)] 4 [] := by
    intro  x1 x3
    unfold f_X6_counting_b4
    generalize FU = nf
    revert x1 x3
    induction nf with
    | zero => intro x1 x3 h9; cases h9
    | succ nf hrec4 =>
      intro x1 x3
      show F_X6_counting_b4  S (fx (F_X6_counting_b4  S) nf) (x1, x3) = some out → _
      generalize fx (F_X6_counting_b4  S) nf = rec4 at hrec4
      unfold F_X6_counting_b4
      dsimp only
      refine s_iload_n hG dX6_counting_4 rfl ?_
      refine s_iconst hG (v := (4 : Int32)) dX6_counting_5 (by decide) ?_
      refine s_icmp_ge hG (tgt := 59) dX6_counting_6 (by decide) ?_ ?_
      · refine s_lload_n hG dX6_counting_59 rfl ?_
        exact s_rlP hR dX6_counting_60
      · refine s_aload_n hG dX6_counting_9 rfl ?_
        refine s_iload_n hG dX6_counting_10 rfl ?_
        refine s_cvP hG (as := [vI x3]) (st := []) (rm := rm_X6_standOf) dX6_counting_11 ml_RX6_38 (rfl) (tb8 (mem_i 0 rfl)) rfl ⟨rfl, rfl⟩ ⟨by decide, by decide⟩ (Nat.le_of_ble_eq_true rfl) ⟨Nat.zero_le _, Nat.zero_le _⟩ rfl (fun o h => c_X6_standOf l _ _ o h) (fun o11 => ?_)
        refine s_istore hG (lv' := [(4, vI o11), (0, vR 9), (1, vL x1), (3, vI x3)]) dX6_counting_14 (by decide) rfl ?_
        refine s_iconst hG (v := (0 : Int32)) dX6_counting_16 (by decide) ?_
        refine s_istore hG (lv' := [(5, vI (0 : Int32)), (4, vI o11), (0, vR 9), (1, vL x1), (3, vI x3)]) dX6_counting_17 (by decide) rfl ?_
        refine s_lv hG [2, 3, 4, 1, 0] rfl ?_
        exact hb19 _ hrec4 _ _ _ _
  unfold f_X6_counting
  refine s_lconst hG (v := (0 : Int64)) dX6_counting_0 (by decide) ?_
  refine s_lstore_n hG (lv' := [(1, vL (0 : Int64)), (0, vR 9)]) dX6_counting_1 (by decide) rfl ?_
  refine s_iconst hG (v := (0 : Int32)) dX6_counting_2 (by decide) ?_
  refine s_istore_n hG (lv' := [(3, vI (0 : Int32)), (1, vL (0 : Int64)), (0, vR 9)]) dX6_counting_3 (by decide) rfl ?_
  refine s_lv hG [2, 1, 0] rfl ?_
  exact hb4 _ _

def f_X6_deedOf (p1 : Int32) (S : HS) : Option (Int32) :=
(f_X7_read 10 p1 S).bind (fun o5 =>
some o5)
def rm_X6_deedOf : Room := { frames := 1, cells := 0, slots := 0, locals := 21 }
set_option maxRecDepth 100000 in
set_option maxHeartbeats 4000000 in
theorem c_X6_deedOf (l : Launch) (p1 : Int32)  (S : HS) (out : Int32) (h : f_X6_deedOf p1 S = some out) : Ct l yX6_deedOf cX6_deedOf 2 (some .int) rm_X6_deedOf [vR 9, vI p1] S (some (vI out)) S := by
  refine Ct.intro (own := RX6) (lv := [(0, vR 9), (1, vI p1)]) (by decide +kernel) rfl ⟨rfl, rfl⟩ rfl (Nat.le_of_ble_eq_true rfl) ?_
  intro G hG hR
  revert h
  unfold f_X6_deedOf
  refine s_aload_n hG dX6_deedOf_0 rfl ?_
  refine s_getC hG dX6_deedOf_1 fl_RX6_15 (rfl) ?_
  refine s_iload_n hG dX6_deedOf_4 rfl ?_
  refine s_csP hG (as := [vR 10, vI p1]) (st := []) (rm := rm_X7_read) dX6_deedOf_5 ml_RX6_42 (tb5 (mem_i 19 rfl)) rfl ⟨rfl, rfl⟩ ⟨by decide, by decide⟩ (Nat.le_of_ble_eq_true rfl) ⟨Nat.zero_le _, Nat.zero_le _⟩ rfl (fun o h => c_X7_read l _ _ (rfl) _ o h) (fun o5 => ?_)
  exact s_riP hR dX6_deedOf_8

def f_X6_draft (p1 : Int32) (p2 : Int32) (p3 : Int32) (p4 : Int32) (p5 : Int32) (p6 : Int32) (S : HS) : Option (HS) :=
(f_X7_put 10 (S.1 9 0) p1 S).bind (fun o9 =>
(f_X7_put 11 (o9.1 9 0) p2 o9).bind (fun o21 =>
(f_X7_put 12 (((o21.1 9 0) * (4 : Int32)) + (0 : Int32)) p3 o21).bind (fun o37 =>
(f_X7_put 12 (((o37.1 9 0) * (4 : Int32)) + (1 : Int32)) p4 o37).bind (fun o54 =>
(f_X7_put 12 (((o54.1 9 0) * (4 : Int32)) + (2 : Int32)) p5 o54).bind (fun o71 =>
(f_X7_put 12 (((o71.1 9 0) * (4 : Int32)) + (3 : Int32)) p6 o71).bind (fun o88 =>
some o88))))))
def rm_X6_draft : Room := { frames := 1, cells := 0, slots := 0, locals := 22 }
set_option maxRecDepth 100000 in
set_option maxHeartbeats 4000000 in
theorem c_X6_draft (l : Launch) (p1 : Int32) (p2 : Int32) (p3 : Int32) (p4 : Int32) (p5 : Int32) (p6 : Int32)  (S : HS) (out : HS) (h : f_X6_draft p1 p2 p3 p4 p5 p6 S = some out) : Ct l yX6_draft cX6_draft 7 none rm_X6_draft [vR 9, vI p1, vI p2, vI p3, vI p4, vI p5, vI p6] S none out := by
  refine Ct.intro (own := RX6) (lv := [(0, vR 9), (1, vI p1), (2, vI p2), (3, vI p3), (4, vI p4), (5, vI p5), (6, vI p6)]) (by decide +kernel) rfl ⟨rfl, rfl⟩ rfl (Nat.le_of_ble_eq_true rfl) ?_
  intro G hG hR
  revert h
  unfold f_X6_draft
  refine s_aload_n hG dX6_draft_0 rfl ?_
  refine s_getC hG dX6_draft_1 fl_RX6_15 (rfl) ?_
  refine s_aload_n hG dX6_draft_4 rfl ?_
  refine s_getI hG dX6_draft_5 fl_RX6_9 (rfl) ?_
  refine s_iload_n hG dX6_draft_8 rfl ?_
  refine s_csV hG (as := [vR 10, vI (S.1 9 0), vI p1]) (st := []) (rm := rm_X7_put) dX6_draft_9 ml_RX6_34 (tb5 (mem_i 15 rfl)) rfl ⟨rfl, rfl⟩ ⟨by decide, by decide⟩ (Nat.le_of_ble_eq_true rfl) ⟨Nat.zero_le _, Nat.zero_le _⟩ rfl (fun o h => c_X7_put l _ _ _ (rfl) _ o h) (fun o9 => ?_)
  refine s_aload_n hG dX6_draft_12 rfl ?_
  refine s_getC hG dX6_draft_13 fl_RX6_19 (rfl) ?_
  refine s_aload_n hG dX6_draft_16 rfl ?_
  refine s_getI hG dX6_draft_17 fl_RX6_9 (rfl) ?_
  refine s_iload_n hG dX6_draft_20 rfl ?_
  refine s_csV hG (as := [vR 11, vI (o9.1 9 0), vI p2]) (st := []) (rm := rm_X7_put) dX6_draft_21 ml_RX6_34 (tb5 (mem_i 15 rfl)) rfl ⟨rfl, rfl⟩ ⟨by decide, by decide⟩ (Nat.le_of_ble_eq_true rfl) ⟨Nat.zero_le _, Nat.zero_le _⟩ rfl (fun o h => c_X7_put l _ _ _ (rfl) _ o h) (fun o21 => ?_)
  refine s_aload_n hG dX6_draft_24 rfl ?_
  refine s_getC hG dX6_draft_25 fl_RX6_22 (rfl) ?_
  refine s_aload_n hG dX6_draft_28 rfl ?_
  refine s_getI hG dX6_draft_29 fl_RX6_9 (rfl) ?_
  refine s_iconst hG (v := (4 : Int32)) dX6_draft_32 (by decide) ?_
  refine s_imul hG dX6_draft_33 ?_
  refine s_iconst hG (v := (0 : Int32)) dX6_draft_34 (by decide) ?_
  refine s_iadd hG dX6_draft_35 ?_
  refine s_iload_n hG dX6_draft_36 rfl ?_
  refine s_csV hG (as := [vR 12, vI (((o21.1 9 0) * (4 : Int32)) + (0 : Int32)), vI p3]) (st := []) (rm := rm_X7_put) dX6_draft_37 ml_RX6_34 (tb5 (mem_i 15 rfl)) rfl ⟨rfl, rfl⟩ ⟨by decide, by decide⟩ (Nat.le_of_ble_eq_true rfl) ⟨Nat.zero_le _, Nat.zero_le _⟩ rfl (fun o h => c_X7_put l _ _ _ (rfl) _ o h) (fun o37 => ?_)
  refine s_aload_n hG dX6_draft_40 rfl ?_
  refine s_getC hG dX6_draft_41 fl_RX6_22 (rfl) ?_
  refine s_aload_n hG dX6_draft_44 rfl ?_
  refine s_getI hG dX6_draft_45 fl_RX6_9 (rfl) ?_
  refine s_iconst hG (v := (4 : Int32)) dX6_draft_48 (by decide) ?_
  refine s_imul hG dX6_draft_49 ?_
  refine s_iconst hG (v := (1 : Int32)) dX6_draft_50 (by decide) ?_
  refine s_iadd hG dX6_draft_51 ?_
  refine s_iload hG dX6_draft_52 rfl ?_
  refine s_csV hG (as := [vR 12, vI (((o37.1 9 0) * (4 : Int32)) + (1 : Int32)), vI p4]) (st := []) (rm := rm_X7_put) dX6_draft_54 ml_RX6_34 (tb5 (mem_i 15 rfl)) rfl ⟨rfl, rfl⟩ ⟨by decide, by decide⟩ (Nat.le_of_ble_eq_true rfl) ⟨Nat.zero_le _, Nat.zero_le _⟩ rfl (fun o h => c_X7_put l _ _ _ (rfl) _ o h) (fun o54 => ?_)
  refine s_aload_n hG dX6_draft_57 rfl ?_
  refine s_getC hG dX6_draft_58 fl_RX6_22 (rfl) ?_
  refine s_aload_n hG dX6_draft_61 rfl ?_
  refine s_getI hG dX6_draft_62 fl_RX6_9 (rfl) ?_
  refine s_iconst hG (v := (4 : Int32)) dX6_draft_65 (by decide) ?_
  refine s_imul hG dX6_draft_66 ?_
  refine s_iconst hG (v := (2 : Int32)) dX6_draft_67 (by decide) ?_
  refine s_iadd hG dX6_draft_68 ?_
  refine s_iload hG dX6_draft_69 rfl ?_
  refine s_csV hG (as := [vR 12, vI (((o54.1 9 0) * (4 : Int32)) + (2 : Int32)), vI p5]) (st := []) (rm := rm_X7_put) dX6_draft_71 ml_RX6_34 (tb5 (mem_i 15 rfl)) rfl ⟨rfl, rfl⟩ ⟨by decide, by decide⟩ (Nat.le_of_ble_eq_true rfl) ⟨Nat.zero_le _, Nat.zero_le _⟩ rfl (fun o h => c_X7_put l _ _ _ (rfl) _ o h) (fun o71 => ?_)
  refine s_aload_n hG dX6_draft_74 rfl ?_
  refine s_getC hG dX6_draft_75 fl_RX6_22 (rfl) ?_
  refine s_aload_n hG dX6_draft_78 rfl ?_
  refine s_getI hG dX6_draft_79 fl_RX6_9 (rfl) ?_
  refine s_iconst hG (v := (4 : Int32)) dX6_draft_82 (by decide) ?_
  refine s_imul hG dX6_draft_83 ?_
  refine s_iconst hG (v := (3 : Int32)) dX6_draft_84 (by decide) ?_
  refine s_iadd hG dX6_draft_85 ?_
  refine s_iload hG dX6_draft_86 rfl ?_
  refine s_csV hG (as := [vR 12, vI (((o71.1 9 0) * (4 : Int32)) + (3 : Int32)), vI p6]) (st := []) (rm := rm_X7_put) dX6_draft_88 ml_RX6_34 (tb5 (mem_i 15 rfl)) rfl ⟨rfl, rfl⟩ ⟨by decide, by decide⟩ (Nat.le_of_ble_eq_true rfl) ⟨Nat.zero_le _, Nat.zero_le _⟩ rfl (fun o h => c_X7_put l _ _ _ (rfl) _ o h) (fun o88 => ?_)
  exact s_rvC hR dX6_draft_91

def f_X6_hang (p1 : Int32) (S : HS) : Option (HS) :=
(f_X7_put 13 (S.1 9 0) p1 S).bind (fun o9 =>
(f_X6_standOf p1 o9).bind (fun o22 =>
(f_X7_put 14 (o9.1 9 0) o22 o9).bind (fun o25 =>
(f_X7_put 15 p1 (o25.1 9 0) o25).bind (fun o37 =>
some (sI o37 9 0 ((o37.1 9 0) + (1 : Int32)))))))
def rm_X6_hang : Room := { frames := 1, cells := 0, slots := 0, locals := 22 }
set_option maxRecDepth 100000 in
set_option maxHeartbeats 4000000 in
theorem c_X6_hang (l : Launch) (p1 : Int32)  (S : HS) (out : HS) (h : f_X6_hang p1 S = some out) : Ct l yX6_hang cX6_hang 2 none rm_X6_hang [vR 9, vI p1] S none out := by
  refine Ct.intro (own := RX6) (lv := [(0, vR 9), (1, vI p1)]) (by decide +kernel) rfl ⟨rfl, rfl⟩ rfl (Nat.le_of_ble_eq_true rfl) ?_
  intro G hG hR
  revert h
  unfold f_X6_hang
  refine s_aload_n hG dX6_hang_0 rfl ?_
  refine s_getC hG dX6_hang_1 fl_RX6_25 (rfl) ?_
  refine s_aload_n hG dX6_hang_4 rfl ?_
  refine s_getI hG dX6_hang_5 fl_RX6_9 (rfl) ?_
  refine s_iload_n hG dX6_hang_8 rfl ?_
  refine s_csV hG (as := [vR 13, vI (S.1 9 0), vI p1]) (st := []) (rm := rm_X7_put) dX6_hang_9 ml_RX6_34 (tb5 (mem_i 15 rfl)) rfl ⟨rfl, rfl⟩ ⟨by decide, by decide⟩ (Nat.le_of_ble_eq_true rfl) ⟨Nat.zero_le _, Nat.zero_le _⟩ rfl (fun o h => c_X7_put l _ _ _ (rfl) _ o h) (fun o9 => ?_)
  refine s_aload_n hG dX6_hang_12 rfl ?_
  refine s_getC hG dX6_hang_13 fl_RX6_28 (rfl) ?_
  refine s_aload_n hG dX6_hang_16 rfl ?_
  refine s_getI hG dX6_hang_17 fl_RX6_9 (rfl) ?_
  refine s_aload_n hG dX6_hang_20 rfl ?_
  refine s_iload_n hG dX6_hang_21 rfl ?_
  refine s_cvP hG (as := [vI p1]) (st := [vI (o9.1 9 0), vR 14]) (rm := rm_X6_standOf) dX6_hang_22 ml_RX6_38 (rfl) (tb8 (mem_i 0 rfl)) rfl ⟨rfl, rfl⟩ ⟨by decide, by decide⟩ (Nat.le_of_ble_eq_true rfl) ⟨Nat.zero_le _, Nat.zero_le _⟩ rfl (fun o h => c_X6_standOf l _ _ o h) (fun o22 => ?_)
  refine s_csV hG (as := [vR 14, vI (o9.1 9 0), vI o22]) (st := []) (rm := rm_X7_put) dX6_hang_25 ml_RX6_34 (tb5 (mem_i 15 rfl)) rfl ⟨rfl, rfl⟩ ⟨by decide, by decide⟩ (Nat.le_of_ble_eq_true rfl) ⟨Nat.zero_le _, Nat.zero_le _⟩ rfl (fun o h => c_X7_put l _ _ _ (rfl) _ o h) (fun o25 => ?_)
  refine s_aload_n hG dX6_hang_28 rfl ?_
  refine s_getC hG dX6_hang_29 fl_RX6_31 (rfl) ?_
  refine s_iload_n hG dX6_hang_32 rfl ?_
  refine s_aload_n hG dX6_hang_33 rfl ?_
  refine s_getI hG dX6_hang_34 fl_RX6_9 (rfl) ?_
  refine s_csV hG (as := [vR 15, vI p1, vI (o25.1 9 0)]) (st := []) (rm := rm_X7_put) dX6_hang_37 ml_RX6_34 (tb5 (mem_i 15 rfl)) rfl ⟨rfl, rfl⟩ ⟨by decide, by decide⟩ (Nat.le_of_ble_eq_true rfl) ⟨Nat.zero_le _, Nat.zero_le _⟩ rfl (fun o h => c_X7_put l _ _ _ (rfl) _ o h) (fun o37 => ?_)
  refine s_aload_n hG dX6_hang_40 rfl ?_
  refine s_dup hG dX6_hang_41 rfl ?_
  refine s_getI hG dX6_hang_42 fl_RX6_9 (rfl) ?_
  refine s_iconst hG (v := (1 : Int32)) dX6_hang_45 (by decide) ?_
  refine s_iadd hG dX6_hang_46 ?_
  refine s_putI hG dX6_hang_47 fl_RX6_9 fp_6_0 (rfl) ⟨rfl, rfl⟩ ?_
  exact s_rvC hR dX6_hang_50

def f_X6_stand (p1 : Int32) (p2 : Int32) (S : HS) : Option (HS) :=
(f_X7_put 15 p1 p2 S).bind (fun o6 =>
some o6)
def rm_X6_stand : Room := { frames := 1, cells := 0, slots := 0, locals := 22 }
set_option maxRecDepth 100000 in
set_option maxHeartbeats 4000000 in
theorem c_X6_stand (l : Launch) (p1 : Int32) (p2 : Int32)  (S : HS) (out : HS) (h : f_X6_stand p1 p2 S = some out) : Ct l yX6_stand cX6_stand 3 none rm_X6_stand [vR 9, vI p1, vI p2] S none out := by
  refine Ct.intro (own := RX6) (lv := [(0, vR 9), (1, vI p1), (2, vI p2)]) (by decide +kernel) rfl ⟨rfl, rfl⟩ rfl (Nat.le_of_ble_eq_true rfl) ?_
  intro G hG hR
  revert h
  unfold f_X6_stand
  refine s_aload_n hG dX6_stand_0 rfl ?_
  refine s_getC hG dX6_stand_1 fl_RX6_31 (rfl) ?_
  refine s_iload_n hG dX6_stand_4 rfl ?_
  refine s_iload_n hG dX6_stand_5 rfl ?_
  refine s_csV hG (as := [vR 15, vI p1, vI p2]) (st := []) (rm := rm_X7_put) dX6_stand_6 ml_RX6_34 (tb5 (mem_i 15 rfl)) rfl ⟨rfl, rfl⟩ ⟨by decide, by decide⟩ (Nat.le_of_ble_eq_true rfl) ⟨Nat.zero_le _, Nat.zero_le _⟩ rfl (fun o h => c_X7_put l _ _ _ (rfl) _ o h) (fun o6 => ?_)
  exact s_rvC hR dX6_stand_9

def f_X6_subjectOf (p1 : Int32) (S : HS) : Option (Int32) :=
(f_X7_read 11 p1 S).bind (fun o5 =>
some o5)
def rm_X6_subjectOf : Room := { frames := 1, cells := 0, slots := 0, locals := 21 }
set_option maxRecDepth 100000 in
set_option maxHeartbeats 4000000 in
theorem c_X6_subjectOf (l : Launch) (p1 : Int32)  (S : HS) (out : Int32) (h : f_X6_subjectOf p1 S = some out) : Ct l yX6_subjectOf cX6_subjectOf 2 (some .int) rm_X6_subjectOf [vR 9, vI p1] S (some (vI out)) S := by
  refine Ct.intro (own := RX6) (lv := [(0, vR 9), (1, vI p1)]) (by decide +kernel) rfl ⟨rfl, rfl⟩ rfl (Nat.le_of_ble_eq_true rfl) ?_
  intro G hG hR
  revert h
  unfold f_X6_subjectOf
  refine s_aload_n hG dX6_subjectOf_0 rfl ?_
  refine s_getC hG dX6_subjectOf_1 fl_RX6_19 (rfl) ?_
  refine s_iload_n hG dX6_subjectOf_4 rfl ?_
  refine s_csP hG (as := [vR 11, vI p1]) (st := []) (rm := rm_X7_read) dX6_subjectOf_5 ml_RX6_42 (tb5 (mem_i 19 rfl)) rfl ⟨rfl, rfl⟩ ⟨by decide, by decide⟩ (Nat.le_of_ble_eq_true rfl) ⟨Nat.zero_le _, Nat.zero_le _⟩ rfl (fun o h => c_X7_read l _ _ (rfl) _ o h) (fun o5 => ?_)
  exact s_riP hR dX6_subjectOf_8

def f_X6_wantedBy (p1 : Int32) (p2 : Int32) (S : HS) : Option (Int32) :=
(f_X7_read 12 ((p1 * (4 : Int32)) + p2) S).bind (fun o9 =>
some o9)
def rm_X6_wantedBy : Room := { frames := 1, cells := 0, slots := 0, locals := 21 }
set_option maxRecDepth 100000 in
set_option maxHeartbeats 4000000 in
theorem c_X6_wantedBy (l : Launch) (p1 : Int32) (p2 : Int32)  (S : HS) (out : Int32) (h : f_X6_wantedBy p1 p2 S = some out) : Ct l yX6_wantedBy cX6_wantedBy 3 (some .int) rm_X6_wantedBy [vR 9, vI p1, vI p2] S (some (vI out)) S := by
  refine Ct.intro (own := RX6) (lv := [(0, vR 9), (1, vI p1), (2, vI p2)]) (by decide +kernel) rfl ⟨rfl, rfl⟩ rfl (Nat.le_of_ble_eq_true rfl) ?_
  intro G hG hR
  revert h
  unfold f_X6_wantedBy
  refine s_aload_n hG dX6_wantedBy_0 rfl ?_
  refine s_getC hG dX6_wantedBy_1 fl_RX6_22 (rfl) ?_
  refine s_iload_n hG dX6_wantedBy_4 rfl ?_
  refine s_iconst hG (v := (4 : Int32)) dX6_wantedBy_5 (by decide) ?_
  refine s_imul hG dX6_wantedBy_6 ?_
  refine s_iload_n hG dX6_wantedBy_7 rfl ?_
  refine s_iadd hG dX6_wantedBy_8 ?_
  refine s_csP hG (as := [vR 12, vI ((p1 * (4 : Int32)) + p2)]) (st := []) (rm := rm_X7_read) dX6_wantedBy_9 ml_RX6_42 (tb5 (mem_i 19 rfl)) rfl ⟨rfl, rfl⟩ ⟨by decide, by decide⟩ (Nat.le_of_ble_eq_true rfl) ⟨Nat.zero_le _, Nat.zero_le _⟩ rfl (fun o h => c_X7_read l _ _ (rfl) _ o h) (fun o9 => ?_)
  exact s_riP hR dX6_wantedBy_12
