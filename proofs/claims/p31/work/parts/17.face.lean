/-! 17.face: by program (wip/p31/gen.py) -/
theorem dX7_acts_0 : decode cX7_acts 0 = .ok (.aload_n 0, 1) := by decide +kernel
theorem dX7_acts_1 : decode cX7_acts 1 = .ok (.getfield 34, 3) := by decide +kernel
theorem dX7_acts_4 : decode cX7_acts 4 = .ok (.getfield 188, 3) := by decide +kernel
theorem dX7_acts_7 : decode cX7_acts 7 = .ok (.ireturn, 1) := by decide +kernel
theorem dX7_requireDrawer_0 : decode cX7_requireDrawer 0 = .ok (.iload_n 1, 1) := by decide +kernel
theorem dX7_requireDrawer_1 : decode cX7_requireDrawer 1 = .ok (.ifCond .lt 8, 3) := by decide +kernel
theorem dX7_requireDrawer_4 : decode cX7_requireDrawer 4 = .ok (.iload_n 1, 1) := by decide +kernel
theorem dX7_requireDrawer_5 : decode cX7_requireDrawer 5 = .ok (.iconst 4, 1) := by decide +kernel
theorem dX7_requireDrawer_6 : decode cX7_requireDrawer 6 = .ok (.if_icmp .lt 14, 3) := by decide +kernel
theorem dX7_requireDrawer_9 : decode cX7_requireDrawer 9 = .ok (.new 64, 3) := by decide +kernel
theorem dX7_requireDrawer_12 : decode cX7_requireDrawer 12 = .ok (.dup, 1) := by decide +kernel
theorem dX7_requireDrawer_13 : decode cX7_requireDrawer 13 = .ok (.ldc_w 269, 3) := by decide +kernel
theorem dX7_requireDrawer_16 : decode cX7_requireDrawer 16 = .ok (.invokespecial 68, 3) := by decide +kernel
theorem dX7_requireDrawer_19 : decode cX7_requireDrawer 19 = .ok (.athrow, 1) := by decide +kernel
theorem dX7_requireDrawer_20 : decode cX7_requireDrawer 20 = .ok (.return_, 1) := by decide +kernel
theorem dX7_requirePlace_0 : decode cX7_requirePlace 0 = .ok (.iload_n 1, 1) := by decide +kernel
theorem dX7_requirePlace_1 : decode cX7_requirePlace 1 = .ok (.iconst 0, 1) := by decide +kernel
theorem dX7_requirePlace_2 : decode cX7_requirePlace 2 = .ok (.invokestatic 277, 3) := by decide +kernel
theorem dX7_requirePlace_5 : decode cX7_requirePlace 5 = .ok (.ifCond .eq 11, 3) := by decide +kernel
theorem dX7_requirePlace_8 : decode cX7_requirePlace 8 = .ok (.iload_n 2, 1) := by decide +kernel
theorem dX7_requirePlace_9 : decode cX7_requirePlace 9 = .ok (.iconst 1, 1) := by decide +kernel
theorem dX7_requirePlace_10 : decode cX7_requirePlace 10 = .ok (.invokestatic 277, 3) := by decide +kernel
theorem dX7_requirePlace_13 : decode cX7_requirePlace 13 = .ok (.ifCond .ne 14, 3) := by decide +kernel
theorem dX7_requirePlace_16 : decode cX7_requirePlace 16 = .ok (.new 119, 3) := by decide +kernel
theorem dX7_requirePlace_19 : decode cX7_requirePlace 19 = .ok (.dup, 1) := by decide +kernel
theorem dX7_requirePlace_20 : decode cX7_requirePlace 20 = .ok (.ldc_w 281, 3) := by decide +kernel
theorem dX7_requirePlace_23 : decode cX7_requirePlace 23 = .ok (.invokespecial 123, 3) := by decide +kernel
theorem dX7_requirePlace_26 : decode cX7_requirePlace 26 = .ok (.athrow, 1) := by decide +kernel
theorem dX7_requirePlace_27 : decode cX7_requirePlace 27 = .ok (.return_, 1) := by decide +kernel
theorem dX7_requireSize_0 : decode cX7_requireSize 0 = .ok (.iload_n 1, 1) := by decide +kernel
theorem dX7_requireSize_1 : decode cX7_requireSize 1 = .ok (.iconst 2, 1) := by decide +kernel
theorem dX7_requireSize_2 : decode cX7_requireSize 2 = .ok (.invokestatic 277, 3) := by decide +kernel
theorem dX7_requireSize_5 : decode cX7_requireSize 5 = .ok (.ifCond .eq 11, 3) := by decide +kernel
theorem dX7_requireSize_8 : decode cX7_requireSize 8 = .ok (.iload_n 2, 1) := by decide +kernel
theorem dX7_requireSize_9 : decode cX7_requireSize 9 = .ok (.iconst 3, 1) := by decide +kernel
theorem dX7_requireSize_10 : decode cX7_requireSize 10 = .ok (.invokestatic 277, 3) := by decide +kernel
theorem dX7_requireSize_13 : decode cX7_requireSize 13 = .ok (.ifCond .ne 14, 3) := by decide +kernel
theorem dX7_requireSize_16 : decode cX7_requireSize 16 = .ok (.new 119, 3) := by decide +kernel
theorem dX7_requireSize_19 : decode cX7_requireSize 19 = .ok (.dup, 1) := by decide +kernel
theorem dX7_requireSize_20 : decode cX7_requireSize 20 = .ok (.ldc_w 283, 3) := by decide +kernel
theorem dX7_requireSize_23 : decode cX7_requireSize 23 = .ok (.invokespecial 123, 3) := by decide +kernel
theorem dX7_requireSize_26 : decode cX7_requireSize 26 = .ok (.athrow, 1) := by decide +kernel
theorem dX7_requireSize_27 : decode cX7_requireSize 27 = .ok (.return_, 1) := by decide +kernel
theorem dX7_doDraft_0 : decode cX7_doDraft 0 = .ok (.aload_n 0, 1) := by decide +kernel
theorem dX7_doDraft_1 : decode cX7_doDraft 1 = .ok (.getfield 34, 3) := by decide +kernel
theorem dX7_doDraft_4 : decode cX7_doDraft 4 = .ok (.getfield 188, 3) := by decide +kernel
theorem dX7_doDraft_7 : decode cX7_doDraft 7 = .ok (.bipush 60, 2) := by decide +kernel
theorem dX7_doDraft_9 : decode cX7_doDraft 9 = .ok (.if_icmp .ge 20, 3) := by decide +kernel
theorem dX7_doDraft_12 : decode cX7_doDraft 12 = .ok (.aload_n 0, 1) := by decide +kernel
theorem dX7_doDraft_13 : decode cX7_doDraft 13 = .ok (.getfield 43, 3) := by decide +kernel
theorem dX7_doDraft_16 : decode cX7_doDraft 16 = .ok (.aload_n 0, 1) := by decide +kernel
theorem dX7_doDraft_17 : decode cX7_doDraft 17 = .ok (.getfield 34, 3) := by decide +kernel
theorem dX7_doDraft_20 : decode cX7_doDraft 20 = .ok (.getfield 188, 3) := by decide +kernel
theorem dX7_doDraft_23 : decode cX7_doDraft 23 = .ok (.invokevirtual 293, 3) := by decide +kernel
theorem dX7_doDraft_26 : decode cX7_doDraft 26 = .ok (.ifCond .ne 14, 3) := by decide +kernel
theorem dX7_doDraft_29 : decode cX7_doDraft 29 = .ok (.new 71, 3) := by decide +kernel
theorem dX7_doDraft_32 : decode cX7_doDraft 32 = .ok (.dup, 1) := by decide +kernel
theorem dX7_doDraft_33 : decode cX7_doDraft 33 = .ok (.ldc_w 296, 3) := by decide +kernel
theorem dX7_doDraft_36 : decode cX7_doDraft 36 = .ok (.invokespecial 75, 3) := by decide +kernel
theorem dX7_doDraft_39 : decode cX7_doDraft 39 = .ok (.athrow, 1) := by decide +kernel
theorem dX7_doDraft_40 : decode cX7_doDraft 40 = .ok (.aload_n 0, 1) := by decide +kernel
theorem dX7_doDraft_41 : decode cX7_doDraft 41 = .ok (.getfield 34, 3) := by decide +kernel
theorem dX7_doDraft_44 : decode cX7_doDraft 44 = .ok (.iload_n 1, 1) := by decide +kernel
theorem dX7_doDraft_45 : decode cX7_doDraft 45 = .ok (.invokevirtual 298, 3) := by decide +kernel
theorem dX7_doDraft_48 : decode cX7_doDraft 48 = .ok (.return_, 1) := by decide +kernel
theorem dX7_addBox_0 : decode cX7_addBox 0 = .ok (.aload_n 0, 1) := by decide +kernel
theorem dX7_addBox_1 : decode cX7_addBox 1 = .ok (.iload_n 1, 1) := by decide +kernel
theorem dX7_addBox_2 : decode cX7_addBox 2 = .ok (.invokevirtual 84, 3) := by decide +kernel
theorem dX7_addBox_5 : decode cX7_addBox 5 = .ok (.aload_n 0, 1) := by decide +kernel
theorem dX7_addBox_6 : decode cX7_addBox 6 = .ok (.iload_n 2, 1) := by decide +kernel
theorem dX7_addBox_7 : decode cX7_addBox 7 = .ok (.iload_n 3, 1) := by decide +kernel
theorem dX7_addBox_8 : decode cX7_addBox 8 = .ok (.invokevirtual 88, 3) := by decide +kernel
theorem dX7_addBox_11 : decode cX7_addBox 11 = .ok (.aload_n 0, 1) := by decide +kernel
theorem dX7_addBox_12 : decode cX7_addBox 12 = .ok (.iload 4, 2) := by decide +kernel
theorem dX7_addBox_14 : decode cX7_addBox 14 = .ok (.iload 5, 2) := by decide +kernel
theorem dX7_addBox_16 : decode cX7_addBox 16 = .ok (.invokevirtual 92, 3) := by decide +kernel
theorem dX7_addBox_19 : decode cX7_addBox 19 = .ok (.aload_n 0, 1) := by decide +kernel
theorem dX7_addBox_20 : decode cX7_addBox 20 = .ok (.getfield 20, 3) := by decide +kernel
theorem dX7_addBox_23 : decode cX7_addBox 23 = .ok (.getfield 95, 3) := by decide +kernel
theorem dX7_addBox_26 : decode cX7_addBox 26 = .ok (.istore 6, 2) := by decide +kernel
theorem dX7_addBox_28 : decode cX7_addBox 28 = .ok (.iload 6, 2) := by decide +kernel
theorem dX7_addBox_30 : decode cX7_addBox 30 = .ok (.bipush 10, 2) := by decide +kernel
theorem dX7_addBox_32 : decode cX7_addBox 32 = .ok (.if_icmp .lt 13, 3) := by decide +kernel
theorem dX7_addBox_35 : decode cX7_addBox 35 = .ok (.new 71, 3) := by decide +kernel
theorem dX7_addBox_38 : decode cX7_addBox 38 = .ok (.dup, 1) := by decide +kernel
theorem dX7_addBox_39 : decode cX7_addBox 39 = .ok (.ldc 98, 2) := by decide +kernel
theorem dX7_addBox_41 : decode cX7_addBox 41 = .ok (.invokespecial 75, 3) := by decide +kernel
theorem dX7_addBox_44 : decode cX7_addBox 44 = .ok (.athrow, 1) := by decide +kernel
theorem dX7_addBox_45 : decode cX7_addBox 45 = .ok (.aload_n 0, 1) := by decide +kernel
theorem dX7_addBox_46 : decode cX7_addBox 46 = .ok (.getfield 34, 3) := by decide +kernel
theorem dX7_addBox_49 : decode cX7_addBox 49 = .ok (.iconst 0, 1) := by decide +kernel
theorem dX7_addBox_50 : decode cX7_addBox 50 = .ok (.iload 6, 2) := by decide +kernel
theorem dX7_addBox_52 : decode cX7_addBox 52 = .ok (.iload_n 2, 1) := by decide +kernel
theorem dX7_addBox_53 : decode cX7_addBox 53 = .ok (.iload_n 3, 1) := by decide +kernel
theorem dX7_addBox_54 : decode cX7_addBox 54 = .ok (.iload 4, 2) := by decide +kernel
theorem dX7_addBox_56 : decode cX7_addBox 56 = .ok (.iload 5, 2) := by decide +kernel
theorem dX7_addBox_58 : decode cX7_addBox 58 = .ok (.invokevirtual 100, 3) := by decide +kernel
theorem dX7_addBox_61 : decode cX7_addBox 61 = .ok (.aload_n 0, 1) := by decide +kernel
theorem dX7_addBox_62 : decode cX7_addBox 62 = .ok (.getfield 20, 3) := by decide +kernel
theorem dX7_addBox_65 : decode cX7_addBox 65 = .ok (.aload_n 0, 1) := by decide +kernel
theorem dX7_addBox_66 : decode cX7_addBox 66 = .ok (.getfield 9, 3) := by decide +kernel
theorem dX7_addBox_69 : decode cX7_addBox 69 = .ok (.iconst 0, 1) := by decide +kernel
theorem dX7_addBox_70 : decode cX7_addBox 70 = .ok (.iconst 0, 1) := by decide +kernel
theorem dX7_addBox_71 : decode cX7_addBox 71 = .ok (.invokevirtual 104, 3) := by decide +kernel
theorem dX7_addBox_74 : decode cX7_addBox 74 = .ok (.aload_n 0, 1) := by decide +kernel
theorem dX7_addBox_75 : decode cX7_addBox 75 = .ok (.iload_n 1, 1) := by decide +kernel
theorem dX7_addBox_76 : decode cX7_addBox 76 = .ok (.invokevirtual 107, 3) := by decide +kernel
theorem dX7_addBox_79 : decode cX7_addBox 79 = .ok (.aload_n 0, 1) := by decide +kernel
theorem dX7_addBox_80 : decode cX7_addBox 80 = .ok (.getfield 20, 3) := by decide +kernel
theorem dX7_addBox_83 : decode cX7_addBox 83 = .ok (.dup, 1) := by decide +kernel
theorem dX7_addBox_84 : decode cX7_addBox 84 = .ok (.getfield 95, 3) := by decide +kernel
theorem dX7_addBox_87 : decode cX7_addBox 87 = .ok (.iconst 1, 1) := by decide +kernel
theorem dX7_addBox_88 : decode cX7_addBox 88 = .ok (.iadd, 1) := by decide +kernel
theorem dX7_addBox_89 : decode cX7_addBox 89 = .ok (.putfield 95, 3) := by decide +kernel
theorem dX7_addBox_92 : decode cX7_addBox 92 = .ok (.iload 6, 2) := by decide +kernel
theorem dX7_addBox_94 : decode cX7_addBox 94 = .ok (.ireturn, 1) := by decide +kernel
theorem dX7_addLabel_0 : decode cX7_addLabel 0 = .ok (.aload_n 0, 1) := by decide +kernel
theorem dX7_addLabel_1 : decode cX7_addLabel 1 = .ok (.iload_n 1, 1) := by decide +kernel
theorem dX7_addLabel_2 : decode cX7_addLabel 2 = .ok (.invokevirtual 84, 3) := by decide +kernel
theorem dX7_addLabel_5 : decode cX7_addLabel 5 = .ok (.aload_n 0, 1) := by decide +kernel
theorem dX7_addLabel_6 : decode cX7_addLabel 6 = .ok (.iload_n 2, 1) := by decide +kernel
theorem dX7_addLabel_7 : decode cX7_addLabel 7 = .ok (.iload_n 3, 1) := by decide +kernel
theorem dX7_addLabel_8 : decode cX7_addLabel 8 = .ok (.invokevirtual 88, 3) := by decide +kernel
theorem dX7_addLabel_11 : decode cX7_addLabel 11 = .ok (.aload_n 0, 1) := by decide +kernel
theorem dX7_addLabel_12 : decode cX7_addLabel 12 = .ok (.getfield 20, 3) := by decide +kernel
theorem dX7_addLabel_15 : decode cX7_addLabel 15 = .ok (.getfield 95, 3) := by decide +kernel
theorem dX7_addLabel_18 : decode cX7_addLabel 18 = .ok (.istore 5, 2) := by decide +kernel
theorem dX7_addLabel_20 : decode cX7_addLabel 20 = .ok (.aload_n 0, 1) := by decide +kernel
theorem dX7_addLabel_21 : decode cX7_addLabel 21 = .ok (.getfield 13, 3) := by decide +kernel
theorem dX7_addLabel_24 : decode cX7_addLabel 24 = .ok (.ifCond .eq 10, 3) := by decide +kernel
theorem dX7_addLabel_27 : decode cX7_addLabel 27 = .ok (.iload 5, 2) := by decide +kernel
theorem dX7_addLabel_29 : decode cX7_addLabel 29 = .ok (.bipush 10, 2) := by decide +kernel
theorem dX7_addLabel_31 : decode cX7_addLabel 31 = .ok (.if_icmp .lt 13, 3) := by decide +kernel
theorem dX7_addLabel_34 : decode cX7_addLabel 34 = .ok (.new 71, 3) := by decide +kernel
theorem dX7_addLabel_37 : decode cX7_addLabel 37 = .ok (.dup, 1) := by decide +kernel
theorem dX7_addLabel_38 : decode cX7_addLabel 38 = .ok (.ldc 110, 2) := by decide +kernel
theorem dX7_addLabel_40 : decode cX7_addLabel 40 = .ok (.invokespecial 75, 3) := by decide +kernel
theorem dX7_addLabel_43 : decode cX7_addLabel 43 = .ok (.athrow, 1) := by decide +kernel
theorem dX7_addLabel_44 : decode cX7_addLabel 44 = .ok (.aload_n 0, 1) := by decide +kernel
theorem dX7_addLabel_45 : decode cX7_addLabel 45 = .ok (.getfield 34, 3) := by decide +kernel
theorem dX7_addLabel_48 : decode cX7_addLabel 48 = .ok (.iconst 0, 1) := by decide +kernel
theorem dX7_addLabel_49 : decode cX7_addLabel 49 = .ok (.iload 5, 2) := by decide +kernel
theorem dX7_addLabel_51 : decode cX7_addLabel 51 = .ok (.iload_n 2, 1) := by decide +kernel
theorem dX7_addLabel_52 : decode cX7_addLabel 52 = .ok (.iload_n 3, 1) := by decide +kernel
theorem dX7_addLabel_53 : decode cX7_addLabel 53 = .ok (.iconst 2, 1) := by decide +kernel
theorem dX7_addLabel_54 : decode cX7_addLabel 54 = .ok (.aload_n 0, 1) := by decide +kernel
theorem dX7_addLabel_55 : decode cX7_addLabel 55 = .ok (.getfield 13, 3) := by decide +kernel
theorem dX7_addLabel_58 : decode cX7_addLabel 58 = .ok (.imul, 1) := by decide +kernel
theorem dX7_addLabel_59 : decode cX7_addLabel 59 = .ok (.iconst 2, 1) := by decide +kernel
theorem dX7_addLabel_60 : decode cX7_addLabel 60 = .ok (.invokevirtual 100, 3) := by decide +kernel
theorem dX7_addLabel_63 : decode cX7_addLabel 63 = .ok (.aload_n 0, 1) := by decide +kernel
theorem dX7_addLabel_64 : decode cX7_addLabel 64 = .ok (.getfield 20, 3) := by decide +kernel
theorem dX7_addLabel_67 : decode cX7_addLabel 67 = .ok (.aload_n 0, 1) := by decide +kernel
theorem dX7_addLabel_68 : decode cX7_addLabel 68 = .ok (.getfield 9, 3) := by decide +kernel
theorem dX7_addLabel_71 : decode cX7_addLabel 71 = .ok (.aload_n 0, 1) := by decide +kernel
theorem dX7_addLabel_72 : decode cX7_addLabel 72 = .ok (.getfield 13, 3) := by decide +kernel
theorem dX7_addLabel_75 : decode cX7_addLabel 75 = .ok (.iload 4, 2) := by decide +kernel
theorem dX7_addLabel_77 : decode cX7_addLabel 77 = .ok (.invokevirtual 104, 3) := by decide +kernel
theorem dX7_addLabel_80 : decode cX7_addLabel 80 = .ok (.aload_n 0, 1) := by decide +kernel
theorem dX7_addLabel_81 : decode cX7_addLabel 81 = .ok (.iload_n 1, 1) := by decide +kernel
theorem dX7_addLabel_82 : decode cX7_addLabel 82 = .ok (.invokevirtual 107, 3) := by decide +kernel
theorem dX7_addLabel_85 : decode cX7_addLabel 85 = .ok (.aload_n 0, 1) := by decide +kernel
theorem dX7_addLabel_86 : decode cX7_addLabel 86 = .ok (.getfield 20, 3) := by decide +kernel
theorem dX7_addLabel_89 : decode cX7_addLabel 89 = .ok (.dup, 1) := by decide +kernel
theorem dX7_addLabel_90 : decode cX7_addLabel 90 = .ok (.getfield 95, 3) := by decide +kernel
theorem dX7_addLabel_93 : decode cX7_addLabel 93 = .ok (.iconst 1, 1) := by decide +kernel
theorem dX7_addLabel_94 : decode cX7_addLabel 94 = .ok (.iadd, 1) := by decide +kernel
theorem dX7_addLabel_95 : decode cX7_addLabel 95 = .ok (.putfield 95, 3) := by decide +kernel
theorem dX7_addLabel_98 : decode cX7_addLabel 98 = .ok (.iload 5, 2) := by decide +kernel
theorem dX7_addLabel_100 : decode cX7_addLabel 100 = .ok (.ireturn, 1) := by decide +kernel
theorem dX7_ask_0 : decode cX7_ask 0 = .ok (.aload_n 0, 1) := by decide +kernel
theorem dX7_ask_1 : decode cX7_ask 1 = .ok (.getfield 53, 3) := by decide +kernel
theorem dX7_ask_4 : decode cX7_ask 4 = .ok (.getfield 233, 3) := by decide +kernel
theorem dX7_ask_7 : decode cX7_ask 7 = .ok (.istore_n 1, 1) := by decide +kernel
theorem dX7_ask_8 : decode cX7_ask 8 = .ok (.iload_n 1, 1) := by decide +kernel
theorem dX7_ask_9 : decode cX7_ask 9 = .ok (.bipush 10, 2) := by decide +kernel
theorem dX7_ask_11 : decode cX7_ask 11 = .ok (.if_icmp .lt 13, 3) := by decide +kernel
theorem dX7_ask_14 : decode cX7_ask 14 = .ok (.new 71, 3) := by decide +kernel
theorem dX7_ask_17 : decode cX7_ask 17 = .ok (.dup, 1) := by decide +kernel
theorem dX7_ask_18 : decode cX7_ask 18 = .ok (.ldc 236, 2) := by decide +kernel
theorem dX7_ask_20 : decode cX7_ask 20 = .ok (.invokespecial 75, 3) := by decide +kernel
theorem dX7_ask_23 : decode cX7_ask 23 = .ok (.athrow, 1) := by decide +kernel
theorem dX7_ask_24 : decode cX7_ask 24 = .ok (.aload_n 0, 1) := by decide +kernel
theorem dX7_ask_25 : decode cX7_ask 25 = .ok (.getfield 60, 3) := by decide +kernel
theorem dX7_ask_28 : decode cX7_ask 28 = .ok (.aload_n 0, 1) := by decide +kernel
theorem dX7_ask_29 : decode cX7_ask 29 = .ok (.getfield 43, 3) := by decide +kernel
theorem dX7_ask_32 : decode cX7_ask 32 = .ok (.getfield 133, 3) := by decide +kernel
theorem dX7_ask_35 : decode cX7_ask 35 = .ok (.aload_n 0, 1) := by decide +kernel
theorem dX7_ask_36 : decode cX7_ask 36 = .ok (.getfield 20, 3) := by decide +kernel
theorem dX7_ask_39 : decode cX7_ask 39 = .ok (.invokevirtual 238, 3) := by decide +kernel
theorem dX7_ask_42 : decode cX7_ask 42 = .ok (.aload_n 0, 1) := by decide +kernel
theorem dX7_ask_43 : decode cX7_ask 43 = .ok (.getfield 53, 3) := by decide +kernel
theorem dX7_ask_46 : decode cX7_ask 46 = .ok (.aload_n 0, 1) := by decide +kernel
theorem dX7_ask_47 : decode cX7_ask 47 = .ok (.getfield 60, 3) := by decide +kernel
theorem dX7_ask_50 : decode cX7_ask 50 = .ok (.aload_n 0, 1) := by decide +kernel
theorem dX7_ask_51 : decode cX7_ask 51 = .ok (.getfield 34, 3) := by decide +kernel
theorem dX7_ask_54 : decode cX7_ask 54 = .ok (.invokevirtual 159, 3) := by decide +kernel
theorem dX7_ask_57 : decode cX7_ask 57 = .ok (.invokevirtual 242, 3) := by decide +kernel
theorem dX7_ask_60 : decode cX7_ask 60 = .ok (.iload_n 1, 1) := by decide +kernel
theorem dX7_ask_61 : decode cX7_ask 61 = .ok (.ireturn, 1) := by decide +kernel
theorem dX7_back_0 : decode cX7_back 0 = .ok (.aload_n 0, 1) := by decide +kernel
theorem dX7_back_1 : decode cX7_back 1 = .ok (.iload_n 1, 1) := by decide +kernel
theorem dX7_back_2 : decode cX7_back 2 = .ok (.invokevirtual 84, 3) := by decide +kernel
theorem dX7_back_5 : decode cX7_back 5 = .ok (.aload_n 0, 1) := by decide +kernel
theorem dX7_back_6 : decode cX7_back 6 = .ok (.getfield 34, 3) := by decide +kernel
theorem dX7_back_9 : decode cX7_back 9 = .ok (.iload_n 1, 1) := by decide +kernel
theorem dX7_back_10 : decode cX7_back 10 = .ok (.invokevirtual 148, 3) := by decide +kernel
theorem dX7_back_13 : decode cX7_back 13 = .ok (.istore_n 2, 1) := by decide +kernel
theorem dX7_back_14 : decode cX7_back 14 = .ok (.iload_n 2, 1) := by decide +kernel
theorem dX7_back_15 : decode cX7_back 15 = .ok (.iconst (-1), 1) := by decide +kernel
theorem dX7_back_16 : decode cX7_back 16 = .ok (.if_icmp .ne 13, 3) := by decide +kernel
theorem dX7_back_19 : decode cX7_back 19 = .ok (.new 71, 3) := by decide +kernel
theorem dX7_back_22 : decode cX7_back 22 = .ok (.dup, 1) := by decide +kernel
theorem dX7_back_23 : decode cX7_back 23 = .ok (.ldc 151, 2) := by decide +kernel
theorem dX7_back_25 : decode cX7_back 25 = .ok (.invokespecial 75, 3) := by decide +kernel
theorem dX7_back_28 : decode cX7_back 28 = .ok (.athrow, 1) := by decide +kernel
theorem dX7_back_29 : decode cX7_back 29 = .ok (.aload_n 0, 1) := by decide +kernel
theorem dX7_back_30 : decode cX7_back 30 = .ok (.getfield 34, 3) := by decide +kernel
theorem dX7_back_33 : decode cX7_back 33 = .ok (.iload_n 1, 1) := by decide +kernel
theorem dX7_back_34 : decode cX7_back 34 = .ok (.aload_n 0, 1) := by decide +kernel
theorem dX7_back_35 : decode cX7_back 35 = .ok (.getfield 34, 3) := by decide +kernel
theorem dX7_back_38 : decode cX7_back 38 = .ok (.iload_n 2, 1) := by decide +kernel
theorem dX7_back_39 : decode cX7_back 39 = .ok (.invokevirtual 153, 3) := by decide +kernel
theorem dX7_back_42 : decode cX7_back 42 = .ok (.invokevirtual 156, 3) := by decide +kernel
theorem dX7_back_45 : decode cX7_back 45 = .ok (.aload_n 0, 1) := by decide +kernel
theorem dX7_back_46 : decode cX7_back 46 = .ok (.getfield 43, 3) := by decide +kernel
theorem dX7_back_49 : decode cX7_back 49 = .ok (.aload_n 0, 1) := by decide +kernel
theorem dX7_back_50 : decode cX7_back 50 = .ok (.getfield 34, 3) := by decide +kernel
theorem dX7_back_53 : decode cX7_back 53 = .ok (.invokevirtual 159, 3) := by decide +kernel
theorem dX7_back_56 : decode cX7_back 56 = .ok (.invokevirtual 163, 3) := by decide +kernel
theorem dX7_back_59 : decode cX7_back 59 = .ok (.aload_n 0, 1) := by decide +kernel
theorem dX7_back_60 : decode cX7_back 60 = .ok (.getfield 43, 3) := by decide +kernel
theorem dX7_back_63 : decode cX7_back 63 = .ok (.getfield 167, 3) := by decide +kernel
theorem dX7_back_66 : decode cX7_back 66 = .ok (.invokestatic 171, 3) := by decide +kernel
theorem dX7_back_69 : decode cX7_back 69 = .ok (.ireturn, 1) := by decide +kernel
theorem dX7_below_0 : decode cX7_below 0 = .ok (.aload_n 0, 1) := by decide +kernel
theorem dX7_below_1 : decode cX7_below 1 = .ok (.iload_n 1, 1) := by decide +kernel
theorem dX7_below_2 : decode cX7_below 2 = .ok (.invokevirtual 84, 3) := by decide +kernel
theorem dX7_below_5 : decode cX7_below 5 = .ok (.aload_n 0, 1) := by decide +kernel
theorem dX7_below_6 : decode cX7_below 6 = .ok (.getfield 34, 3) := by decide +kernel
theorem dX7_below_9 : decode cX7_below 9 = .ok (.iload_n 1, 1) := by decide +kernel
theorem dX7_below_10 : decode cX7_below 10 = .ok (.invokevirtual 185, 3) := by decide +kernel
theorem dX7_below_13 : decode cX7_below 13 = .ok (.ireturn, 1) := by decide +kernel
theorem dX7_branches_0 : decode cX7_branches 0 = .ok (.aload_n 0, 1) := by decide +kernel
theorem dX7_branches_1 : decode cX7_branches 1 = .ok (.iload_n 1, 1) := by decide +kernel
theorem dX7_branches_2 : decode cX7_branches 2 = .ok (.invokevirtual 84, 3) := by decide +kernel
theorem dX7_branches_5 : decode cX7_branches 5 = .ok (.aload_n 0, 1) := by decide +kernel
theorem dX7_branches_6 : decode cX7_branches 6 = .ok (.getfield 34, 3) := by decide +kernel
theorem dX7_branches_9 : decode cX7_branches 9 = .ok (.iload_n 1, 1) := by decide +kernel
theorem dX7_branches_10 : decode cX7_branches 10 = .ok (.invokevirtual 182, 3) := by decide +kernel
theorem dX7_branches_13 : decode cX7_branches 13 = .ok (.ireturn, 1) := by decide +kernel
theorem dX7_broken_0 : decode cX7_broken 0 = .ok (.iconst 0, 1) := by decide +kernel
theorem dX7_broken_1 : decode cX7_broken 1 = .ok (.istore_n 1, 1) := by decide +kernel
theorem dX7_broken_2 : decode cX7_broken 2 = .ok (.iconst 0, 1) := by decide +kernel
theorem dX7_broken_3 : decode cX7_broken 3 = .ok (.istore_n 2, 1) := by decide +kernel
theorem dX7_broken_4 : decode cX7_broken 4 = .ok (.iload_n 2, 1) := by decide +kernel
theorem dX7_broken_5 : decode cX7_broken 5 = .ok (.bipush 60, 2) := by decide +kernel
theorem dX7_broken_7 : decode cX7_broken 7 = .ok (.if_icmp .ge 38, 3) := by decide +kernel
theorem dX7_broken_10 : decode cX7_broken 10 = .ok (.aload_n 0, 1) := by decide +kernel
theorem dX7_broken_11 : decode cX7_broken 11 = .ok (.getfield 43, 3) := by decide +kernel
theorem dX7_broken_14 : decode cX7_broken 14 = .ok (.getfield 167, 3) := by decide +kernel
theorem dX7_broken_17 : decode cX7_broken 17 = .ok (.iload_n 2, 1) := by decide +kernel
theorem dX7_broken_18 : decode cX7_broken 18 = .ok (.invokestatic 192, 3) := by decide +kernel
theorem dX7_broken_21 : decode cX7_broken 21 = .ok (.ifCond .eq 18, 3) := by decide +kernel
theorem dX7_broken_24 : decode cX7_broken 24 = .ok (.aload_n 0, 1) := by decide +kernel
theorem dX7_broken_25 : decode cX7_broken 25 = .ok (.getfield 34, 3) := by decide +kernel
theorem dX7_broken_28 : decode cX7_broken 28 = .ok (.iload_n 2, 1) := by decide +kernel
theorem dX7_broken_29 : decode cX7_broken 29 = .ok (.invokevirtual 227, 3) := by decide +kernel
theorem dX7_broken_32 : decode cX7_broken 32 = .ok (.iconst 3, 1) := by decide +kernel
theorem dX7_broken_33 : decode cX7_broken 33 = .ok (.if_icmp .ne 6, 3) := by decide +kernel
theorem dX7_broken_36 : decode cX7_broken 36 = .ok (.iinc 1 1, 3) := by decide +kernel
theorem dX7_broken_39 : decode cX7_broken 39 = .ok (.iinc 2 1, 3) := by decide +kernel
theorem dX7_broken_42 : decode cX7_broken 42 = .ok (.goto (-38), 3) := by decide +kernel
theorem dX7_broken_45 : decode cX7_broken 45 = .ok (.iload_n 1, 1) := by decide +kernel
theorem dX7_broken_46 : decode cX7_broken 46 = .ok (.ireturn, 1) := by decide +kernel
theorem dX7_requireMade_0 : decode cX7_requireMade 0 = .ok (.iload_n 1, 1) := by decide +kernel
theorem dX7_requireMade_1 : decode cX7_requireMade 1 = .ok (.ifCond .lt 14, 3) := by decide +kernel
theorem dX7_requireMade_4 : decode cX7_requireMade 4 = .ok (.iload_n 1, 1) := by decide +kernel
theorem dX7_requireMade_5 : decode cX7_requireMade 5 = .ok (.aload_n 0, 1) := by decide +kernel
theorem dX7_requireMade_6 : decode cX7_requireMade 6 = .ok (.getfield 53, 3) := by decide +kernel
theorem dX7_requireMade_9 : decode cX7_requireMade 9 = .ok (.getfield 233, 3) := by decide +kernel
theorem dX7_requireMade_12 : decode cX7_requireMade 12 = .ok (.if_icmp .lt 14, 3) := by decide +kernel
theorem dX7_requireMade_15 : decode cX7_requireMade 15 = .ok (.new 64, 3) := by decide +kernel
theorem dX7_requireMade_18 : decode cX7_requireMade 18 = .ok (.dup, 1) := by decide +kernel
theorem dX7_requireMade_19 : decode cX7_requireMade 19 = .ok (.ldc_w 289, 3) := by decide +kernel
theorem dX7_requireMade_22 : decode cX7_requireMade 22 = .ok (.invokespecial 68, 3) := by decide +kernel
theorem dX7_requireMade_25 : decode cX7_requireMade 25 = .ok (.athrow, 1) := by decide +kernel
theorem dX7_requireMade_26 : decode cX7_requireMade 26 = .ok (.iload_n 1, 1) := by decide +kernel
theorem dX7_requireMade_27 : decode cX7_requireMade 27 = .ok (.aload_n 0, 1) := by decide +kernel
theorem dX7_requireMade_28 : decode cX7_requireMade 28 = .ok (.getfield 53, 3) := by decide +kernel
theorem dX7_requireMade_31 : decode cX7_requireMade 31 = .ok (.getfield 246, 3) := by decide +kernel
theorem dX7_requireMade_34 : decode cX7_requireMade 34 = .ok (.if_icmp .lt 14, 3) := by decide +kernel
theorem dX7_requireMade_37 : decode cX7_requireMade 37 = .ok (.new 218, 3) := by decide +kernel
theorem dX7_requireMade_40 : decode cX7_requireMade 40 = .ok (.dup, 1) := by decide +kernel
theorem dX7_requireMade_41 : decode cX7_requireMade 41 = .ok (.ldc_w 291, 3) := by decide +kernel
theorem dX7_requireMade_44 : decode cX7_requireMade 44 = .ok (.invokespecial 222, 3) := by decide +kernel
theorem dX7_requireMade_47 : decode cX7_requireMade 47 = .ok (.athrow, 1) := by decide +kernel
theorem dX7_requireMade_48 : decode cX7_requireMade 48 = .ok (.return_, 1) := by decide +kernel
theorem dX7_charAnew_0 : decode cX7_charAnew 0 = .ok (.aload_n 0, 1) := by decide +kernel
theorem dX7_charAnew_1 : decode cX7_charAnew 1 = .ok (.iload_n 1, 1) := by decide +kernel
theorem dX7_charAnew_2 : decode cX7_charAnew 2 = .ok (.invokevirtual 247, 3) := by decide +kernel
theorem dX7_charAnew_5 : decode cX7_charAnew 5 = .ok (.aload_n 0, 1) := by decide +kernel
theorem dX7_charAnew_6 : decode cX7_charAnew 6 = .ok (.getfield 47, 3) := by decide +kernel
theorem dX7_charAnew_9 : decode cX7_charAnew 9 = .ok (.aload_n 0, 1) := by decide +kernel
theorem dX7_charAnew_10 : decode cX7_charAnew 10 = .ok (.getfield 53, 3) := by decide +kernel
theorem dX7_charAnew_13 : decode cX7_charAnew 13 = .ok (.iload_n 1, 1) := by decide +kernel
theorem dX7_charAnew_14 : decode cX7_charAnew 14 = .ok (.invokevirtual 259, 3) := by decide +kernel
theorem dX7_charAnew_17 : decode cX7_charAnew 17 = .ok (.invokevirtual 163, 3) := by decide +kernel
theorem dX7_charAnew_20 : decode cX7_charAnew 20 = .ok (.aload_n 0, 1) := by decide +kernel
theorem dX7_charAnew_21 : decode cX7_charAnew 21 = .ok (.getfield 60, 3) := by decide +kernel
theorem dX7_charAnew_24 : decode cX7_charAnew 24 = .ok (.aload_n 0, 1) := by decide +kernel
theorem dX7_charAnew_25 : decode cX7_charAnew 25 = .ok (.getfield 47, 3) := by decide +kernel
theorem dX7_charAnew_28 : decode cX7_charAnew 28 = .ok (.getfield 133, 3) := by decide +kernel
theorem dX7_charAnew_31 : decode cX7_charAnew 31 = .ok (.aload_n 0, 1) := by decide +kernel
theorem dX7_charAnew_32 : decode cX7_charAnew 32 = .ok (.getfield 20, 3) := by decide +kernel
theorem dX7_charAnew_35 : decode cX7_charAnew 35 = .ok (.invokevirtual 238, 3) := by decide +kernel
theorem dX7_charAnew_38 : decode cX7_charAnew 38 = .ok (.iload_n 2, 1) := by decide +kernel
theorem dX7_charAnew_39 : decode cX7_charAnew 39 = .ok (.ifCond .lt 14, 3) := by decide +kernel
theorem dX7_charAnew_42 : decode cX7_charAnew 42 = .ok (.iload_n 2, 1) := by decide +kernel
theorem dX7_charAnew_43 : decode cX7_charAnew 43 = .ok (.aload_n 0, 1) := by decide +kernel
theorem dX7_charAnew_44 : decode cX7_charAnew 44 = .ok (.getfield 60, 3) := by decide +kernel
theorem dX7_charAnew_47 : decode cX7_charAnew 47 = .ok (.getfield 263, 3) := by decide +kernel
theorem dX7_charAnew_50 : decode cX7_charAnew 50 = .ok (.if_icmp .lt 13, 3) := by decide +kernel
theorem dX7_charAnew_53 : decode cX7_charAnew 53 = .ok (.new 218, 3) := by decide +kernel
theorem dX7_charAnew_56 : decode cX7_charAnew 56 = .ok (.dup, 1) := by decide +kernel
theorem dX7_charAnew_57 : decode cX7_charAnew 57 = .ok (.ldc 253, 2) := by decide +kernel
theorem dX7_charAnew_59 : decode cX7_charAnew 59 = .ok (.invokespecial 222, 3) := by decide +kernel
theorem dX7_charAnew_62 : decode cX7_charAnew 62 = .ok (.athrow, 1) := by decide +kernel
theorem dX7_charAnew_63 : decode cX7_charAnew 63 = .ok (.aload_n 0, 1) := by decide +kernel
theorem dX7_charAnew_64 : decode cX7_charAnew 64 = .ok (.getfield 60, 3) := by decide +kernel
theorem dX7_charAnew_67 : decode cX7_charAnew 67 = .ok (.iload_n 2, 1) := by decide +kernel
theorem dX7_charAnew_68 : decode cX7_charAnew 68 = .ok (.invokevirtual 266, 3) := by decide +kernel
theorem dX7_charAnew_71 : decode cX7_charAnew 71 = .ok (.ireturn, 1) := by decide +kernel
theorem dX7_charAt_0 : decode cX7_charAt 0 = .ok (.aload_n 0, 1) := by decide +kernel
theorem dX7_charAt_1 : decode cX7_charAt 1 = .ok (.iload_n 1, 1) := by decide +kernel
theorem dX7_charAt_2 : decode cX7_charAt 2 = .ok (.invokevirtual 247, 3) := by decide +kernel
theorem dX7_charAt_5 : decode cX7_charAt 5 = .ok (.iload_n 2, 1) := by decide +kernel
theorem dX7_charAt_6 : decode cX7_charAt 6 = .ok (.ifCond .lt 15, 3) := by decide +kernel
theorem dX7_charAt_9 : decode cX7_charAt 9 = .ok (.iload_n 2, 1) := by decide +kernel
theorem dX7_charAt_10 : decode cX7_charAt 10 = .ok (.aload_n 0, 1) := by decide +kernel
theorem dX7_charAt_11 : decode cX7_charAt 11 = .ok (.getfield 53, 3) := by decide +kernel
theorem dX7_charAt_14 : decode cX7_charAt 14 = .ok (.iload_n 1, 1) := by decide +kernel
theorem dX7_charAt_15 : decode cX7_charAt 15 = .ok (.invokevirtual 250, 3) := by decide +kernel
theorem dX7_charAt_18 : decode cX7_charAt 18 = .ok (.if_icmp .lt 13, 3) := by decide +kernel
theorem dX7_charAt_21 : decode cX7_charAt 21 = .ok (.new 218, 3) := by decide +kernel
theorem dX7_charAt_24 : decode cX7_charAt 24 = .ok (.dup, 1) := by decide +kernel
theorem dX7_charAt_25 : decode cX7_charAt 25 = .ok (.ldc 253, 2) := by decide +kernel
theorem dX7_charAt_27 : decode cX7_charAt 27 = .ok (.invokespecial 222, 3) := by decide +kernel
theorem dX7_charAt_30 : decode cX7_charAt 30 = .ok (.athrow, 1) := by decide +kernel
theorem dX7_charAt_31 : decode cX7_charAt 31 = .ok (.aload_n 0, 1) := by decide +kernel
theorem dX7_charAt_32 : decode cX7_charAt 32 = .ok (.getfield 53, 3) := by decide +kernel
theorem dX7_charAt_35 : decode cX7_charAt 35 = .ok (.iload_n 1, 1) := by decide +kernel
theorem dX7_charAt_36 : decode cX7_charAt 36 = .ok (.iload_n 2, 1) := by decide +kernel
theorem dX7_charAt_37 : decode cX7_charAt 37 = .ok (.invokevirtual 255, 3) := by decide +kernel
theorem dX7_charAt_40 : decode cX7_charAt 40 = .ok (.ireturn, 1) := by decide +kernel
theorem dX7_clearSpelled_0 : decode cX7_clearSpelled 0 = .ok (.aload_n 0, 1) := by decide +kernel
theorem dX7_clearSpelled_1 : decode cX7_clearSpelled 1 = .ok (.getfield 13, 3) := by decide +kernel
theorem dX7_clearSpelled_4 : decode cX7_clearSpelled 4 = .ok (.istore_n 1, 1) := by decide +kernel
theorem dX7_clearSpelled_5 : decode cX7_clearSpelled 5 = .ok (.aload_n 0, 1) := by decide +kernel
theorem dX7_clearSpelled_6 : decode cX7_clearSpelled 6 = .ok (.iconst 0, 1) := by decide +kernel
theorem dX7_clearSpelled_7 : decode cX7_clearSpelled 7 = .ok (.putfield 13, 3) := by decide +kernel
theorem dX7_clearSpelled_10 : decode cX7_clearSpelled 10 = .ok (.iload_n 1, 1) := by decide +kernel
theorem dX7_clearSpelled_11 : decode cX7_clearSpelled 11 = .ok (.ireturn, 1) := by decide +kernel
theorem dX7_requireAct_0 : decode cX7_requireAct 0 = .ok (.iload_n 1, 1) := by decide +kernel
theorem dX7_requireAct_1 : decode cX7_requireAct 1 = .ok (.ifCond .lt 14, 3) := by decide +kernel
theorem dX7_requireAct_4 : decode cX7_requireAct 4 = .ok (.iload_n 1, 1) := by decide +kernel
theorem dX7_requireAct_5 : decode cX7_requireAct 5 = .ok (.aload_n 0, 1) := by decide +kernel
theorem dX7_requireAct_6 : decode cX7_requireAct 6 = .ok (.getfield 34, 3) := by decide +kernel
theorem dX7_requireAct_9 : decode cX7_requireAct 9 = .ok (.getfield 188, 3) := by decide +kernel
theorem dX7_requireAct_12 : decode cX7_requireAct 12 = .ok (.if_icmp .lt 14, 3) := by decide +kernel
theorem dX7_requireAct_15 : decode cX7_requireAct 15 = .ok (.new 64, 3) := by decide +kernel
theorem dX7_requireAct_18 : decode cX7_requireAct 18 = .ok (.dup, 1) := by decide +kernel
theorem dX7_requireAct_19 : decode cX7_requireAct 19 = .ok (.ldc_w 275, 3) := by decide +kernel
theorem dX7_requireAct_22 : decode cX7_requireAct 22 = .ok (.invokespecial 68, 3) := by decide +kernel
theorem dX7_requireAct_25 : decode cX7_requireAct 25 = .ok (.athrow, 1) := by decide +kernel
theorem dX7_requireAct_26 : decode cX7_requireAct 26 = .ok (.return_, 1) := by decide +kernel
theorem dX7_counts_0 : decode cX7_counts 0 = .ok (.aload_n 0, 1) := by decide +kernel
theorem dX7_counts_1 : decode cX7_counts 1 = .ok (.iload_n 1, 1) := by decide +kernel
theorem dX7_counts_2 : decode cX7_counts 2 = .ok (.invokevirtual 189, 3) := by decide +kernel
theorem dX7_counts_5 : decode cX7_counts 5 = .ok (.aload_n 0, 1) := by decide +kernel
theorem dX7_counts_6 : decode cX7_counts 6 = .ok (.getfield 34, 3) := by decide +kernel
theorem dX7_counts_9 : decode cX7_counts 9 = .ok (.invokevirtual 159, 3) := by decide +kernel
theorem dX7_counts_12 : decode cX7_counts 12 = .ok (.iload_n 1, 1) := by decide +kernel
theorem dX7_counts_13 : decode cX7_counts 13 = .ok (.invokestatic 192, 3) := by decide +kernel
theorem dX7_counts_16 : decode cX7_counts 16 = .ok (.ireturn, 1) := by decide +kernel
theorem dX7_requireRule_0 : decode cX7_requireRule 0 = .ok (.iload_n 1, 1) := by decide +kernel
theorem dX7_requireRule_1 : decode cX7_requireRule 1 = .ok (.ifCond .lt 14, 3) := by decide +kernel
theorem dX7_requireRule_4 : decode cX7_requireRule 4 = .ok (.iload_n 1, 1) := by decide +kernel
theorem dX7_requireRule_5 : decode cX7_requireRule 5 = .ok (.aload_n 0, 1) := by decide +kernel
theorem dX7_requireRule_6 : decode cX7_requireRule 6 = .ok (.getfield 27, 3) := by decide +kernel
theorem dX7_requireRule_9 : decode cX7_requireRule 9 = .ok (.getfield 124, 3) := by decide +kernel
theorem dX7_requireRule_12 : decode cX7_requireRule 12 = .ok (.if_icmp .lt 14, 3) := by decide +kernel
theorem dX7_requireRule_15 : decode cX7_requireRule 15 = .ok (.new 64, 3) := by decide +kernel
theorem dX7_requireRule_18 : decode cX7_requireRule 18 = .ok (.dup, 1) := by decide +kernel
theorem dX7_requireRule_19 : decode cX7_requireRule 19 = .ok (.ldc_w 273, 3) := by decide +kernel
theorem dX7_requireRule_22 : decode cX7_requireRule 22 = .ok (.invokespecial 68, 3) := by decide +kernel
theorem dX7_requireRule_25 : decode cX7_requireRule 25 = .ok (.athrow, 1) := by decide +kernel
theorem dX7_requireRule_26 : decode cX7_requireRule 26 = .ok (.return_, 1) := by decide +kernel
theorem dX7_drop_0 : decode cX7_drop 0 = .ok (.aload_n 0, 1) := by decide +kernel
theorem dX7_drop_1 : decode cX7_drop 1 = .ok (.iload_n 1, 1) := by decide +kernel
theorem dX7_drop_2 : decode cX7_drop 2 = .ok (.invokevirtual 84, 3) := by decide +kernel
theorem dX7_drop_5 : decode cX7_drop 5 = .ok (.aload_n 0, 1) := by decide +kernel
theorem dX7_drop_6 : decode cX7_drop 6 = .ok (.iload_n 2, 1) := by decide +kernel
theorem dX7_drop_7 : decode cX7_drop 7 = .ok (.invokevirtual 130, 3) := by decide +kernel
theorem dX7_drop_10 : decode cX7_drop 10 = .ok (.aload_n 0, 1) := by decide +kernel
theorem dX7_drop_11 : decode cX7_drop 11 = .ok (.getfield 34, 3) := by decide +kernel
theorem dX7_drop_14 : decode cX7_drop 14 = .ok (.iconst 4, 1) := by decide +kernel
theorem dX7_drop_15 : decode cX7_drop 15 = .ok (.iload_n 2, 1) := by decide +kernel
theorem dX7_drop_16 : decode cX7_drop 16 = .ok (.iconst 0, 1) := by decide +kernel
theorem dX7_drop_17 : decode cX7_drop 17 = .ok (.iconst 0, 1) := by decide +kernel
theorem dX7_drop_18 : decode cX7_drop 18 = .ok (.iconst 0, 1) := by decide +kernel
theorem dX7_drop_19 : decode cX7_drop 19 = .ok (.iconst 0, 1) := by decide +kernel
theorem dX7_drop_20 : decode cX7_drop 20 = .ok (.invokevirtual 100, 3) := by decide +kernel
theorem dX7_drop_23 : decode cX7_drop 23 = .ok (.aload_n 0, 1) := by decide +kernel
theorem dX7_drop_24 : decode cX7_drop 24 = .ok (.iload_n 1, 1) := by decide +kernel
theorem dX7_drop_25 : decode cX7_drop 25 = .ok (.invokevirtual 107, 3) := by decide +kernel
theorem dX7_drop_28 : decode cX7_drop 28 = .ok (.aload_n 0, 1) := by decide +kernel
theorem dX7_drop_29 : decode cX7_drop 29 = .ok (.getfield 43, 3) := by decide +kernel
theorem dX7_drop_32 : decode cX7_drop 32 = .ok (.getfield 133, 3) := by decide +kernel
theorem dX7_drop_35 : decode cX7_drop 35 = .ok (.getfield 137, 3) := by decide +kernel
theorem dX7_drop_38 : decode cX7_drop 38 = .ok (.invokestatic 142, 3) := by decide +kernel
theorem dX7_drop_41 : decode cX7_drop 41 = .ok (.ireturn, 1) := by decide +kernel
theorem dX7_requireOn_0 : decode cX7_requireOn 0 = .ok (.aload_n 1, 1) := by decide +kernel
theorem dX7_requireOn_1 : decode cX7_requireOn 1 = .ok (.getfield 196, 3) := by decide +kernel
theorem dX7_requireOn_4 : decode cX7_requireOn 4 = .ok (.i2l, 1) := by decide +kernel
theorem dX7_requireOn_5 : decode cX7_requireOn 5 = .ok (.iload_n 2, 1) := by decide +kernel
theorem dX7_requireOn_6 : decode cX7_requireOn 6 = .ok (.invokestatic 192, 3) := by decide +kernel
theorem dX7_requireOn_9 : decode cX7_requireOn 9 = .ok (.ifCond .ne 14, 3) := by decide +kernel
theorem dX7_requireOn_12 : decode cX7_requireOn 12 = .ok (.new 218, 3) := by decide +kernel
theorem dX7_requireOn_15 : decode cX7_requireOn 15 = .ok (.dup, 1) := by decide +kernel
theorem dX7_requireOn_16 : decode cX7_requireOn 16 = .ok (.ldc_w 287, 3) := by decide +kernel
theorem dX7_requireOn_19 : decode cX7_requireOn 19 = .ok (.invokespecial 222, 3) := by decide +kernel
theorem dX7_requireOn_22 : decode cX7_requireOn 22 = .ok (.athrow, 1) := by decide +kernel
theorem dX7_requireOn_23 : decode cX7_requireOn 23 = .ok (.return_, 1) := by decide +kernel
theorem dX7_holds_0 : decode cX7_holds 0 = .ok (.aload_n 0, 1) := by decide +kernel
theorem dX7_holds_1 : decode cX7_holds 1 = .ok (.iload_n 1, 1) := by decide +kernel
theorem dX7_holds_2 : decode cX7_holds 2 = .ok (.invokevirtual 130, 3) := by decide +kernel
theorem dX7_holds_5 : decode cX7_holds 5 = .ok (.aload_n 0, 1) := by decide +kernel
theorem dX7_holds_6 : decode cX7_holds 6 = .ok (.aload_n 0, 1) := by decide +kernel
theorem dX7_holds_7 : decode cX7_holds 7 = .ok (.getfield 43, 3) := by decide +kernel
theorem dX7_holds_10 : decode cX7_holds 10 = .ok (.getfield 133, 3) := by decide +kernel
theorem dX7_holds_13 : decode cX7_holds 13 = .ok (.aload_n 0, 1) := by decide +kernel
theorem dX7_holds_14 : decode cX7_holds 14 = .ok (.getfield 27, 3) := by decide +kernel
theorem dX7_holds_17 : decode cX7_holds 17 = .ok (.getfield 209, 3) := by decide +kernel
theorem dX7_holds_20 : decode cX7_holds 20 = .ok (.iload_n 1, 1) := by decide +kernel
theorem dX7_holds_21 : decode cX7_holds 21 = .ok (.invokestatic 80, 3) := by decide +kernel
theorem dX7_holds_24 : decode cX7_holds 24 = .ok (.invokevirtual 202, 3) := by decide +kernel
theorem dX7_holds_27 : decode cX7_holds 27 = .ok (.aload_n 0, 1) := by decide +kernel
theorem dX7_holds_28 : decode cX7_holds 28 = .ok (.aload_n 0, 1) := by decide +kernel
theorem dX7_holds_29 : decode cX7_holds 29 = .ok (.getfield 43, 3) := by decide +kernel
theorem dX7_holds_32 : decode cX7_holds 32 = .ok (.getfield 133, 3) := by decide +kernel
theorem dX7_holds_35 : decode cX7_holds 35 = .ok (.aload_n 0, 1) := by decide +kernel
theorem dX7_holds_36 : decode cX7_holds 36 = .ok (.getfield 27, 3) := by decide +kernel
theorem dX7_holds_39 : decode cX7_holds 39 = .ok (.getfield 212, 3) := by decide +kernel
theorem dX7_holds_42 : decode cX7_holds 42 = .ok (.iload_n 1, 1) := by decide +kernel
theorem dX7_holds_43 : decode cX7_holds 43 = .ok (.invokestatic 80, 3) := by decide +kernel
theorem dX7_holds_46 : decode cX7_holds 46 = .ok (.invokevirtual 202, 3) := by decide +kernel
theorem dX7_holds_49 : decode cX7_holds 49 = .ok (.aload_n 0, 1) := by decide +kernel
theorem dX7_holds_50 : decode cX7_holds 50 = .ok (.getfield 27, 3) := by decide +kernel
theorem dX7_holds_53 : decode cX7_holds 53 = .ok (.getfield 215, 3) := by decide +kernel
theorem dX7_holds_56 : decode cX7_holds 56 = .ok (.iload_n 1, 1) := by decide +kernel
theorem dX7_holds_57 : decode cX7_holds 57 = .ok (.invokestatic 80, 3) := by decide +kernel
theorem dX7_holds_60 : decode cX7_holds 60 = .ok (.bipush 6, 2) := by decide +kernel
theorem dX7_holds_62 : decode cX7_holds 62 = .ok (.if_icmp .ne 31, 3) := by decide +kernel
theorem dX7_holds_65 : decode cX7_holds 65 = .ok (.aload_n 0, 1) := by decide +kernel
theorem dX7_holds_66 : decode cX7_holds 66 = .ok (.getfield 43, 3) := by decide +kernel
theorem dX7_holds_69 : decode cX7_holds 69 = .ok (.getfield 133, 3) := by decide +kernel
theorem dX7_holds_72 : decode cX7_holds 72 = .ok (.getfield 137, 3) := by decide +kernel
theorem dX7_holds_75 : decode cX7_holds 75 = .ok (.i2l, 1) := by decide +kernel
theorem dX7_holds_76 : decode cX7_holds 76 = .ok (.iload_n 1, 1) := by decide +kernel
theorem dX7_holds_77 : decode cX7_holds 77 = .ok (.invokestatic 192, 3) := by decide +kernel
theorem dX7_holds_80 : decode cX7_holds 80 = .ok (.ifCond .ne 13, 3) := by decide +kernel
theorem dX7_holds_83 : decode cX7_holds 83 = .ok (.new 218, 3) := by decide +kernel
theorem dX7_holds_86 : decode cX7_holds 86 = .ok (.dup, 1) := by decide +kernel
theorem dX7_holds_87 : decode cX7_holds 87 = .ok (.ldc 220, 2) := by decide +kernel
theorem dX7_holds_89 : decode cX7_holds 89 = .ok (.invokespecial 222, 3) := by decide +kernel
theorem dX7_holds_92 : decode cX7_holds 92 = .ok (.athrow, 1) := by decide +kernel
theorem dX7_holds_93 : decode cX7_holds 93 = .ok (.aload_n 0, 1) := by decide +kernel
theorem dX7_holds_94 : decode cX7_holds 94 = .ok (.getfield 43, 3) := by decide +kernel
theorem dX7_holds_97 : decode cX7_holds 97 = .ok (.getfield 133, 3) := by decide +kernel
theorem dX7_holds_100 : decode cX7_holds 100 = .ok (.iload_n 1, 1) := by decide +kernel
theorem dX7_holds_101 : decode cX7_holds 101 = .ok (.invokevirtual 223, 3) := by decide +kernel
theorem dX7_holds_104 : decode cX7_holds 104 = .ok (.ireturn, 1) := by decide +kernel
theorem dX7_isInForce_0 : decode cX7_isInForce 0 = .ok (.aload_n 0, 1) := by decide +kernel
theorem dX7_isInForce_1 : decode cX7_isInForce 1 = .ok (.iload_n 1, 1) := by decide +kernel
theorem dX7_isInForce_2 : decode cX7_isInForce 2 = .ok (.invokevirtual 130, 3) := by decide +kernel
theorem dX7_isInForce_5 : decode cX7_isInForce 5 = .ok (.aload_n 0, 1) := by decide +kernel
theorem dX7_isInForce_6 : decode cX7_isInForce 6 = .ok (.getfield 43, 3) := by decide +kernel
theorem dX7_isInForce_9 : decode cX7_isInForce 9 = .ok (.getfield 133, 3) := by decide +kernel
theorem dX7_isInForce_12 : decode cX7_isInForce 12 = .ok (.getfield 137, 3) := by decide +kernel
theorem dX7_isInForce_15 : decode cX7_isInForce 15 = .ok (.i2l, 1) := by decide +kernel
theorem dX7_isInForce_16 : decode cX7_isInForce 16 = .ok (.iload_n 1, 1) := by decide +kernel
theorem dX7_isInForce_17 : decode cX7_isInForce 17 = .ok (.invokestatic 192, 3) := by decide +kernel
theorem dX7_isInForce_20 : decode cX7_isInForce 20 = .ok (.ireturn, 1) := by decide +kernel
theorem dX7_requireShape_0 : decode cX7_requireShape 0 = .ok (.iload_n 1, 1) := by decide +kernel
theorem dX7_requireShape_1 : decode cX7_requireShape 1 = .ok (.ifCond .lt 14, 3) := by decide +kernel
theorem dX7_requireShape_4 : decode cX7_requireShape 4 = .ok (.iload_n 1, 1) := by decide +kernel
theorem dX7_requireShape_5 : decode cX7_requireShape 5 = .ok (.aload_n 0, 1) := by decide +kernel
theorem dX7_requireShape_6 : decode cX7_requireShape 6 = .ok (.getfield 20, 3) := by decide +kernel
theorem dX7_requireShape_9 : decode cX7_requireShape 9 = .ok (.getfield 95, 3) := by decide +kernel
theorem dX7_requireShape_12 : decode cX7_requireShape 12 = .ok (.if_icmp .lt 14, 3) := by decide +kernel
theorem dX7_requireShape_15 : decode cX7_requireShape 15 = .ok (.new 64, 3) := by decide +kernel
theorem dX7_requireShape_18 : decode cX7_requireShape 18 = .ok (.dup, 1) := by decide +kernel
theorem dX7_requireShape_19 : decode cX7_requireShape 19 = .ok (.ldc_w 271, 3) := by decide +kernel
theorem dX7_requireShape_22 : decode cX7_requireShape 22 = .ok (.invokespecial 68, 3) := by decide +kernel
theorem dX7_requireShape_25 : decode cX7_requireShape 25 = .ok (.athrow, 1) := by decide +kernel
theorem dX7_requireShape_26 : decode cX7_requireShape 26 = .ok (.return_, 1) := by decide +kernel
theorem dX7_isThere_0 : decode cX7_isThere 0 = .ok (.aload_n 0, 1) := by decide +kernel
theorem dX7_isThere_1 : decode cX7_isThere 1 = .ok (.iload_n 1, 1) := by decide +kernel
theorem dX7_isThere_2 : decode cX7_isThere 2 = .ok (.invokevirtual 112, 3) := by decide +kernel
theorem dX7_isThere_5 : decode cX7_isThere 5 = .ok (.aload_n 0, 1) := by decide +kernel
theorem dX7_isThere_6 : decode cX7_isThere 6 = .ok (.getfield 43, 3) := by decide +kernel
theorem dX7_isThere_9 : decode cX7_isThere 9 = .ok (.getfield 133, 3) := by decide +kernel
theorem dX7_isThere_12 : decode cX7_isThere 12 = .ok (.getfield 196, 3) := by decide +kernel
theorem dX7_isThere_15 : decode cX7_isThere 15 = .ok (.i2l, 1) := by decide +kernel
theorem dX7_isThere_16 : decode cX7_isThere 16 = .ok (.iload_n 1, 1) := by decide +kernel
theorem dX7_isThere_17 : decode cX7_isThere 17 = .ok (.invokestatic 192, 3) := by decide +kernel
theorem dX7_isThere_20 : decode cX7_isThere 20 = .ok (.ireturn, 1) := by decide +kernel
theorem dX7_isVoid_0 : decode cX7_isVoid 0 = .ok (.aload_n 0, 1) := by decide +kernel
theorem dX7_isVoid_1 : decode cX7_isVoid 1 = .ok (.iload_n 1, 1) := by decide +kernel
theorem dX7_isVoid_2 : decode cX7_isVoid 2 = .ok (.invokevirtual 189, 3) := by decide +kernel
theorem dX7_isVoid_5 : decode cX7_isVoid 5 = .ok (.aload_n 0, 1) := by decide +kernel
theorem dX7_isVoid_6 : decode cX7_isVoid 6 = .ok (.getfield 43, 3) := by decide +kernel
theorem dX7_isVoid_9 : decode cX7_isVoid 9 = .ok (.getfield 167, 3) := by decide +kernel
theorem dX7_isVoid_12 : decode cX7_isVoid 12 = .ok (.iload_n 1, 1) := by decide +kernel
theorem dX7_isVoid_13 : decode cX7_isVoid 13 = .ok (.invokestatic 192, 3) := by decide +kernel
theorem dX7_isVoid_16 : decode cX7_isVoid 16 = .ok (.ireturn, 1) := by decide +kernel
theorem dX7_lay_0 : decode cX7_lay 0 = .ok (.aload_n 0, 1) := by decide +kernel
theorem dX7_lay_1 : decode cX7_lay 1 = .ok (.iload_n 1, 1) := by decide +kernel
theorem dX7_lay_2 : decode cX7_lay 2 = .ok (.invokevirtual 84, 3) := by decide +kernel
theorem dX7_lay_5 : decode cX7_lay 5 = .ok (.aload_n 0, 1) := by decide +kernel
theorem dX7_lay_6 : decode cX7_lay 6 = .ok (.iload_n 3, 1) := by decide +kernel
theorem dX7_lay_7 : decode cX7_lay 7 = .ok (.invokevirtual 112, 3) := by decide +kernel
theorem dX7_lay_10 : decode cX7_lay 10 = .ok (.aload_n 0, 1) := by decide +kernel
theorem dX7_lay_11 : decode cX7_lay 11 = .ok (.iload 4, 2) := by decide +kernel
theorem dX7_lay_13 : decode cX7_lay 13 = .ok (.invokevirtual 112, 3) := by decide +kernel
theorem dX7_lay_16 : decode cX7_lay 16 = .ok (.iload_n 2, 1) := by decide +kernel
theorem dX7_lay_17 : decode cX7_lay 17 = .ok (.ifCond .lt 15, 3) := by decide +kernel
theorem dX7_lay_20 : decode cX7_lay 20 = .ok (.iload_n 2, 1) := by decide +kernel
theorem dX7_lay_21 : decode cX7_lay 21 = .ok (.bipush 6, 2) := by decide +kernel
theorem dX7_lay_23 : decode cX7_lay 23 = .ok (.if_icmp .gt 9, 3) := by decide +kernel
theorem dX7_lay_26 : decode cX7_lay 26 = .ok (.iload_n 3, 1) := by decide +kernel
theorem dX7_lay_27 : decode cX7_lay 27 = .ok (.iload 4, 2) := by decide +kernel
theorem dX7_lay_29 : decode cX7_lay 29 = .ok (.if_icmp .ne 13, 3) := by decide +kernel
theorem dX7_lay_32 : decode cX7_lay 32 = .ok (.new 119, 3) := by decide +kernel
theorem dX7_lay_35 : decode cX7_lay 35 = .ok (.dup, 1) := by decide +kernel
theorem dX7_lay_36 : decode cX7_lay 36 = .ok (.ldc 121, 2) := by decide +kernel
theorem dX7_lay_38 : decode cX7_lay 38 = .ok (.invokespecial 123, 3) := by decide +kernel
theorem dX7_lay_41 : decode cX7_lay 41 = .ok (.athrow, 1) := by decide +kernel
theorem dX7_lay_42 : decode cX7_lay 42 = .ok (.aload_n 0, 1) := by decide +kernel
theorem dX7_lay_43 : decode cX7_lay 43 = .ok (.getfield 27, 3) := by decide +kernel
theorem dX7_lay_46 : decode cX7_lay 46 = .ok (.getfield 124, 3) := by decide +kernel
theorem dX7_lay_49 : decode cX7_lay 49 = .ok (.istore 5, 2) := by decide +kernel
theorem dX7_lay_51 : decode cX7_lay 51 = .ok (.iload 5, 2) := by decide +kernel
theorem dX7_lay_53 : decode cX7_lay 53 = .ok (.bipush 12, 2) := by decide +kernel
theorem dX7_lay_55 : decode cX7_lay 55 = .ok (.if_icmp .lt 13, 3) := by decide +kernel
theorem dX7_lay_58 : decode cX7_lay 58 = .ok (.new 71, 3) := by decide +kernel
theorem dX7_lay_61 : decode cX7_lay 61 = .ok (.dup, 1) := by decide +kernel
theorem dX7_lay_62 : decode cX7_lay 62 = .ok (.ldc 125, 2) := by decide +kernel
theorem dX7_lay_64 : decode cX7_lay 64 = .ok (.invokespecial 75, 3) := by decide +kernel
theorem dX7_lay_67 : decode cX7_lay 67 = .ok (.athrow, 1) := by decide +kernel
theorem dX7_lay_68 : decode cX7_lay 68 = .ok (.aload_n 0, 1) := by decide +kernel
theorem dX7_lay_69 : decode cX7_lay 69 = .ok (.getfield 34, 3) := by decide +kernel
theorem dX7_lay_72 : decode cX7_lay 72 = .ok (.iconst 3, 1) := by decide +kernel
theorem dX7_lay_73 : decode cX7_lay 73 = .ok (.iload 5, 2) := by decide +kernel
theorem dX7_lay_75 : decode cX7_lay 75 = .ok (.iconst 0, 1) := by decide +kernel
theorem dX7_lay_76 : decode cX7_lay 76 = .ok (.iconst 0, 1) := by decide +kernel
theorem dX7_lay_77 : decode cX7_lay 77 = .ok (.iconst 0, 1) := by decide +kernel
theorem dX7_lay_78 : decode cX7_lay 78 = .ok (.iconst 0, 1) := by decide +kernel
theorem dX7_lay_79 : decode cX7_lay 79 = .ok (.invokevirtual 100, 3) := by decide +kernel
theorem dX7_lay_82 : decode cX7_lay 82 = .ok (.aload_n 0, 1) := by decide +kernel
theorem dX7_lay_83 : decode cX7_lay 83 = .ok (.getfield 27, 3) := by decide +kernel
theorem dX7_lay_86 : decode cX7_lay 86 = .ok (.iload_n 2, 1) := by decide +kernel
theorem dX7_lay_87 : decode cX7_lay 87 = .ok (.iload_n 3, 1) := by decide +kernel
theorem dX7_lay_88 : decode cX7_lay 88 = .ok (.iload 4, 2) := by decide +kernel
theorem dX7_lay_90 : decode cX7_lay 90 = .ok (.invokevirtual 127, 3) := by decide +kernel
theorem dX7_lay_93 : decode cX7_lay 93 = .ok (.aload_n 0, 1) := by decide +kernel
theorem dX7_lay_94 : decode cX7_lay 94 = .ok (.iload_n 1, 1) := by decide +kernel
theorem dX7_lay_95 : decode cX7_lay 95 = .ok (.invokevirtual 107, 3) := by decide +kernel
theorem dX7_lay_98 : decode cX7_lay 98 = .ok (.aload_n 0, 1) := by decide +kernel
theorem dX7_lay_99 : decode cX7_lay 99 = .ok (.getfield 27, 3) := by decide +kernel
theorem dX7_lay_102 : decode cX7_lay 102 = .ok (.dup, 1) := by decide +kernel
theorem dX7_lay_103 : decode cX7_lay 103 = .ok (.getfield 124, 3) := by decide +kernel
theorem dX7_lay_106 : decode cX7_lay 106 = .ok (.iconst 1, 1) := by decide +kernel
theorem dX7_lay_107 : decode cX7_lay 107 = .ok (.iadd, 1) := by decide +kernel
theorem dX7_lay_108 : decode cX7_lay 108 = .ok (.putfield 124, 3) := by decide +kernel
theorem dX7_lay_111 : decode cX7_lay 111 = .ok (.iload 5, 2) := by decide +kernel
theorem dX7_lay_113 : decode cX7_lay 113 = .ok (.ireturn, 1) := by decide +kernel
theorem dX7_length_0 : decode cX7_length 0 = .ok (.aload_n 0, 1) := by decide +kernel
theorem dX7_length_1 : decode cX7_length 1 = .ok (.iload_n 1, 1) := by decide +kernel
theorem dX7_length_2 : decode cX7_length 2 = .ok (.invokevirtual 247, 3) := by decide +kernel
theorem dX7_length_5 : decode cX7_length 5 = .ok (.aload_n 0, 1) := by decide +kernel
theorem dX7_length_6 : decode cX7_length 6 = .ok (.getfield 53, 3) := by decide +kernel
theorem dX7_length_9 : decode cX7_length 9 = .ok (.iload_n 1, 1) := by decide +kernel
theorem dX7_length_10 : decode cX7_length 10 = .ok (.invokevirtual 250, 3) := by decide +kernel
theorem dX7_length_13 : decode cX7_length 13 = .ok (.ireturn, 1) := by decide +kernel
theorem dX7_make_0 : decode cX7_make 0 = .ok (.aload_n 0, 1) := by decide +kernel
theorem dX7_make_1 : decode cX7_make 1 = .ok (.getfield 53, 3) := by decide +kernel
theorem dX7_make_4 : decode cX7_make 4 = .ok (.getfield 246, 3) := by decide +kernel
theorem dX7_make_7 : decode cX7_make 7 = .ok (.aload_n 0, 1) := by decide +kernel
theorem dX7_make_8 : decode cX7_make 8 = .ok (.getfield 53, 3) := by decide +kernel
theorem dX7_make_11 : decode cX7_make 11 = .ok (.getfield 233, 3) := by decide +kernel
theorem dX7_make_14 : decode cX7_make 14 = .ok (.if_icmp .lt 5, 3) := by decide +kernel
theorem dX7_make_17 : decode cX7_make 17 = .ok (.iconst (-1), 1) := by decide +kernel
theorem dX7_make_18 : decode cX7_make 18 = .ok (.ireturn, 1) := by decide +kernel
theorem dX7_make_19 : decode cX7_make 19 = .ok (.aload_n 0, 1) := by decide +kernel
theorem dX7_make_20 : decode cX7_make 20 = .ok (.getfield 53, 3) := by decide +kernel
theorem dX7_make_23 : decode cX7_make 23 = .ok (.dup, 1) := by decide +kernel
theorem dX7_make_24 : decode cX7_make 24 = .ok (.getfield 246, 3) := by decide +kernel
theorem dX7_make_27 : decode cX7_make 27 = .ok (.iconst 1, 1) := by decide +kernel
theorem dX7_make_28 : decode cX7_make 28 = .ok (.iadd, 1) := by decide +kernel
theorem dX7_make_29 : decode cX7_make 29 = .ok (.putfield 246, 3) := by decide +kernel
theorem dX7_make_32 : decode cX7_make 32 = .ok (.aload_n 0, 1) := by decide +kernel
theorem dX7_make_33 : decode cX7_make 33 = .ok (.getfield 53, 3) := by decide +kernel
theorem dX7_make_36 : decode cX7_make 36 = .ok (.getfield 246, 3) := by decide +kernel
theorem dX7_make_39 : decode cX7_make 39 = .ok (.iconst 1, 1) := by decide +kernel
theorem dX7_make_40 : decode cX7_make 40 = .ok (.isub, 1) := by decide +kernel
theorem dX7_make_41 : decode cX7_make 41 = .ok (.ireturn, 1) := by decide +kernel
theorem dX7_move_0 : decode cX7_move 0 = .ok (.aload_n 0, 1) := by decide +kernel
theorem dX7_move_1 : decode cX7_move 1 = .ok (.iload_n 1, 1) := by decide +kernel
theorem dX7_move_2 : decode cX7_move 2 = .ok (.invokevirtual 84, 3) := by decide +kernel
theorem dX7_move_5 : decode cX7_move 5 = .ok (.aload_n 0, 1) := by decide +kernel
theorem dX7_move_6 : decode cX7_move 6 = .ok (.iload_n 2, 1) := by decide +kernel
theorem dX7_move_7 : decode cX7_move 7 = .ok (.invokevirtual 112, 3) := by decide +kernel
theorem dX7_move_10 : decode cX7_move 10 = .ok (.aload_n 0, 1) := by decide +kernel
theorem dX7_move_11 : decode cX7_move 11 = .ok (.iload_n 3, 1) := by decide +kernel
theorem dX7_move_12 : decode cX7_move 12 = .ok (.iload 4, 2) := by decide +kernel
theorem dX7_move_14 : decode cX7_move 14 = .ok (.invokevirtual 88, 3) := by decide +kernel
theorem dX7_move_17 : decode cX7_move 17 = .ok (.aload_n 0, 1) := by decide +kernel
theorem dX7_move_18 : decode cX7_move 18 = .ok (.getfield 34, 3) := by decide +kernel
theorem dX7_move_21 : decode cX7_move 21 = .ok (.iconst 1, 1) := by decide +kernel
theorem dX7_move_22 : decode cX7_move 22 = .ok (.iload_n 2, 1) := by decide +kernel
theorem dX7_move_23 : decode cX7_move 23 = .ok (.iload_n 3, 1) := by decide +kernel
theorem dX7_move_24 : decode cX7_move 24 = .ok (.iload 4, 2) := by decide +kernel
theorem dX7_move_26 : decode cX7_move 26 = .ok (.iconst 0, 1) := by decide +kernel
theorem dX7_move_27 : decode cX7_move 27 = .ok (.iconst 0, 1) := by decide +kernel
theorem dX7_move_28 : decode cX7_move 28 = .ok (.invokevirtual 100, 3) := by decide +kernel
theorem dX7_move_31 : decode cX7_move 31 = .ok (.aload_n 0, 1) := by decide +kernel
theorem dX7_move_32 : decode cX7_move 32 = .ok (.iload_n 1, 1) := by decide +kernel
theorem dX7_move_33 : decode cX7_move 33 = .ok (.invokevirtual 107, 3) := by decide +kernel
theorem dX7_move_36 : decode cX7_move 36 = .ok (.aload_n 0, 1) := by decide +kernel
theorem dX7_move_37 : decode cX7_move 37 = .ok (.getfield 43, 3) := by decide +kernel
theorem dX7_move_40 : decode cX7_move 40 = .ok (.invokevirtual 115, 3) := by decide +kernel
theorem dX7_move_43 : decode cX7_move 43 = .ok (.ireturn, 1) := by decide +kernel
theorem dX7_requireWhat_0 : decode cX7_requireWhat 0 = .ok (.iload_n 1, 1) := by decide +kernel
theorem dX7_requireWhat_1 : decode cX7_requireWhat 1 = .ok (.ifCond .lt 8, 3) := by decide +kernel
theorem dX7_requireWhat_4 : decode cX7_requireWhat 4 = .ok (.iload_n 1, 1) := by decide +kernel
theorem dX7_requireWhat_5 : decode cX7_requireWhat 5 = .ok (.iconst 4, 1) := by decide +kernel
theorem dX7_requireWhat_6 : decode cX7_requireWhat 6 = .ok (.if_icmp .lt 14, 3) := by decide +kernel
theorem dX7_requireWhat_9 : decode cX7_requireWhat 9 = .ok (.new 119, 3) := by decide +kernel
theorem dX7_requireWhat_12 : decode cX7_requireWhat 12 = .ok (.dup, 1) := by decide +kernel
theorem dX7_requireWhat_13 : decode cX7_requireWhat 13 = .ok (.ldc_w 285, 3) := by decide +kernel
theorem dX7_requireWhat_16 : decode cX7_requireWhat 16 = .ok (.invokespecial 123, 3) := by decide +kernel
theorem dX7_requireWhat_19 : decode cX7_requireWhat 19 = .ok (.athrow, 1) := by decide +kernel
theorem dX7_requireWhat_20 : decode cX7_requireWhat 20 = .ok (.return_, 1) := by decide +kernel
theorem dX7_number_0 : decode cX7_number 0 = .ok (.aload_n 0, 1) := by decide +kernel
theorem dX7_number_1 : decode cX7_number 1 = .ok (.iload_n 1, 1) := by decide +kernel
theorem dX7_number_2 : decode cX7_number 2 = .ok (.invokevirtual 112, 3) := by decide +kernel
theorem dX7_number_5 : decode cX7_number 5 = .ok (.aload_n 0, 1) := by decide +kernel
theorem dX7_number_6 : decode cX7_number 6 = .ok (.iload_n 2, 1) := by decide +kernel
theorem dX7_number_7 : decode cX7_number 7 = .ok (.invokevirtual 199, 3) := by decide +kernel
theorem dX7_number_10 : decode cX7_number 10 = .ok (.aload_n 0, 1) := by decide +kernel
theorem dX7_number_11 : decode cX7_number 11 = .ok (.aload_n 0, 1) := by decide +kernel
theorem dX7_number_12 : decode cX7_number 12 = .ok (.getfield 43, 3) := by decide +kernel
theorem dX7_number_15 : decode cX7_number 15 = .ok (.getfield 133, 3) := by decide +kernel
theorem dX7_number_18 : decode cX7_number 18 = .ok (.iload_n 1, 1) := by decide +kernel
theorem dX7_number_19 : decode cX7_number 19 = .ok (.invokevirtual 202, 3) := by decide +kernel
theorem dX7_number_22 : decode cX7_number 22 = .ok (.aload_n 0, 1) := by decide +kernel
theorem dX7_number_23 : decode cX7_number 23 = .ok (.getfield 43, 3) := by decide +kernel
theorem dX7_number_26 : decode cX7_number 26 = .ok (.getfield 133, 3) := by decide +kernel
theorem dX7_number_29 : decode cX7_number 29 = .ok (.iload_n 1, 1) := by decide +kernel
theorem dX7_number_30 : decode cX7_number 30 = .ok (.iload_n 2, 1) := by decide +kernel
theorem dX7_number_31 : decode cX7_number 31 = .ok (.invokevirtual 206, 3) := by decide +kernel
theorem dX7_number_34 : decode cX7_number 34 = .ok (.ireturn, 1) := by decide +kernel
theorem dX7_numberAnew_0 : decode cX7_numberAnew 0 = .ok (.aload_n 0, 1) := by decide +kernel
theorem dX7_numberAnew_1 : decode cX7_numberAnew 1 = .ok (.iload_n 1, 1) := by decide +kernel
theorem dX7_numberAnew_2 : decode cX7_numberAnew 2 = .ok (.invokevirtual 112, 3) := by decide +kernel
theorem dX7_numberAnew_5 : decode cX7_numberAnew 5 = .ok (.aload_n 0, 1) := by decide +kernel
theorem dX7_numberAnew_6 : decode cX7_numberAnew 6 = .ok (.iload_n 2, 1) := by decide +kernel
theorem dX7_numberAnew_7 : decode cX7_numberAnew 7 = .ok (.invokevirtual 199, 3) := by decide +kernel
theorem dX7_numberAnew_10 : decode cX7_numberAnew 10 = .ok (.aload_n 0, 1) := by decide +kernel
theorem dX7_numberAnew_11 : decode cX7_numberAnew 11 = .ok (.getfield 47, 3) := by decide +kernel
theorem dX7_numberAnew_14 : decode cX7_numberAnew 14 = .ok (.aload_n 0, 1) := by decide +kernel
theorem dX7_numberAnew_15 : decode cX7_numberAnew 15 = .ok (.getfield 34, 3) := by decide +kernel
theorem dX7_numberAnew_18 : decode cX7_numberAnew 18 = .ok (.invokevirtual 159, 3) := by decide +kernel
theorem dX7_numberAnew_21 : decode cX7_numberAnew 21 = .ok (.invokevirtual 163, 3) := by decide +kernel
theorem dX7_numberAnew_24 : decode cX7_numberAnew 24 = .ok (.aload_n 0, 1) := by decide +kernel
theorem dX7_numberAnew_25 : decode cX7_numberAnew 25 = .ok (.aload_n 0, 1) := by decide +kernel
theorem dX7_numberAnew_26 : decode cX7_numberAnew 26 = .ok (.getfield 47, 3) := by decide +kernel
theorem dX7_numberAnew_29 : decode cX7_numberAnew 29 = .ok (.getfield 133, 3) := by decide +kernel
theorem dX7_numberAnew_32 : decode cX7_numberAnew 32 = .ok (.iload_n 1, 1) := by decide +kernel
theorem dX7_numberAnew_33 : decode cX7_numberAnew 33 = .ok (.invokevirtual 202, 3) := by decide +kernel
theorem dX7_numberAnew_36 : decode cX7_numberAnew 36 = .ok (.aload_n 0, 1) := by decide +kernel
theorem dX7_numberAnew_37 : decode cX7_numberAnew 37 = .ok (.getfield 47, 3) := by decide +kernel
theorem dX7_numberAnew_40 : decode cX7_numberAnew 40 = .ok (.getfield 133, 3) := by decide +kernel
theorem dX7_numberAnew_43 : decode cX7_numberAnew 43 = .ok (.iload_n 1, 1) := by decide +kernel
theorem dX7_numberAnew_44 : decode cX7_numberAnew 44 = .ok (.iload_n 2, 1) := by decide +kernel
theorem dX7_numberAnew_45 : decode cX7_numberAnew 45 = .ok (.invokevirtual 206, 3) := by decide +kernel
theorem dX7_numberAnew_48 : decode cX7_numberAnew 48 = .ok (.ireturn, 1) := by decide +kernel
theorem dX7_on_0 : decode cX7_on 0 = .ok (.aload_n 0, 1) := by decide +kernel
theorem dX7_on_1 : decode cX7_on 1 = .ok (.iload_n 1, 1) := by decide +kernel
theorem dX7_on_2 : decode cX7_on 2 = .ok (.invokevirtual 84, 3) := by decide +kernel
theorem dX7_on_5 : decode cX7_on 5 = .ok (.aload_n 0, 1) := by decide +kernel
theorem dX7_on_6 : decode cX7_on 6 = .ok (.getfield 34, 3) := by decide +kernel
theorem dX7_on_9 : decode cX7_on 9 = .ok (.iload_n 1, 1) := by decide +kernel
theorem dX7_on_10 : decode cX7_on 10 = .ok (.iload_n 2, 1) := by decide +kernel
theorem dX7_on_11 : decode cX7_on 11 = .ok (.invokevirtual 176, 3) := by decide +kernel
theorem dX7_on_14 : decode cX7_on 14 = .ok (.istore_n 3, 1) := by decide +kernel
theorem dX7_on_15 : decode cX7_on 15 = .ok (.iload_n 3, 1) := by decide +kernel
theorem dX7_on_16 : decode cX7_on 16 = .ok (.iconst (-1), 1) := by decide +kernel
theorem dX7_on_17 : decode cX7_on 17 = .ok (.if_icmp .ne 13, 3) := by decide +kernel
theorem dX7_on_20 : decode cX7_on 20 = .ok (.new 64, 3) := by decide +kernel
theorem dX7_on_23 : decode cX7_on 23 = .ok (.dup, 1) := by decide +kernel
theorem dX7_on_24 : decode cX7_on 24 = .ok (.ldc 180, 2) := by decide +kernel
theorem dX7_on_26 : decode cX7_on 26 = .ok (.invokespecial 68, 3) := by decide +kernel
theorem dX7_on_29 : decode cX7_on 29 = .ok (.athrow, 1) := by decide +kernel
theorem dX7_on_30 : decode cX7_on 30 = .ok (.aload_n 0, 1) := by decide +kernel
theorem dX7_on_31 : decode cX7_on 31 = .ok (.getfield 34, 3) := by decide +kernel
theorem dX7_on_34 : decode cX7_on 34 = .ok (.iload_n 1, 1) := by decide +kernel
theorem dX7_on_35 : decode cX7_on 35 = .ok (.iload_n 3, 1) := by decide +kernel
theorem dX7_on_36 : decode cX7_on 36 = .ok (.invokevirtual 156, 3) := by decide +kernel
theorem dX7_on_39 : decode cX7_on 39 = .ok (.aload_n 0, 1) := by decide +kernel
theorem dX7_on_40 : decode cX7_on 40 = .ok (.getfield 43, 3) := by decide +kernel
theorem dX7_on_43 : decode cX7_on 43 = .ok (.aload_n 0, 1) := by decide +kernel
theorem dX7_on_44 : decode cX7_on 44 = .ok (.getfield 34, 3) := by decide +kernel
theorem dX7_on_47 : decode cX7_on 47 = .ok (.invokevirtual 159, 3) := by decide +kernel
theorem dX7_on_50 : decode cX7_on 50 = .ok (.invokevirtual 163, 3) := by decide +kernel
theorem dX7_on_53 : decode cX7_on 53 = .ok (.aload_n 0, 1) := by decide +kernel
theorem dX7_on_54 : decode cX7_on 54 = .ok (.getfield 43, 3) := by decide +kernel
theorem dX7_on_57 : decode cX7_on 57 = .ok (.getfield 167, 3) := by decide +kernel
theorem dX7_on_60 : decode cX7_on 60 = .ok (.invokestatic 171, 3) := by decide +kernel
theorem dX7_on_63 : decode cX7_on 63 = .ok (.ireturn, 1) := by decide +kernel
theorem dX7_part_0 : decode cX7_part 0 = .ok (.aload_n 0, 1) := by decide +kernel
theorem dX7_part_1 : decode cX7_part 1 = .ok (.iload_n 1, 1) := by decide +kernel
theorem dX7_part_2 : decode cX7_part 2 = .ok (.invokevirtual 112, 3) := by decide +kernel
theorem dX7_part_5 : decode cX7_part 5 = .ok (.aload_n 0, 1) := by decide +kernel
theorem dX7_part_6 : decode cX7_part 6 = .ok (.aload_n 0, 1) := by decide +kernel
theorem dX7_part_7 : decode cX7_part 7 = .ok (.getfield 43, 3) := by decide +kernel
theorem dX7_part_10 : decode cX7_part 10 = .ok (.getfield 133, 3) := by decide +kernel
theorem dX7_part_13 : decode cX7_part 13 = .ok (.iload_n 1, 1) := by decide +kernel
theorem dX7_part_14 : decode cX7_part 14 = .ok (.invokevirtual 202, 3) := by decide +kernel
theorem dX7_part_17 : decode cX7_part 17 = .ok (.aload_n 0, 1) := by decide +kernel
theorem dX7_part_18 : decode cX7_part 18 = .ok (.getfield 43, 3) := by decide +kernel
theorem dX7_part_21 : decode cX7_part 21 = .ok (.getfield 133, 3) := by decide +kernel
theorem dX7_part_24 : decode cX7_part 24 = .ok (.iload_n 1, 1) := by decide +kernel
theorem dX7_part_25 : decode cX7_part 25 = .ok (.iload_n 2, 1) := by decide +kernel
theorem dX7_part_26 : decode cX7_part 26 = .ok (.ifCond .eq 7, 3) := by decide +kernel
theorem dX7_part_29 : decode cX7_part 29 = .ok (.iconst 0, 1) := by decide +kernel
theorem dX7_part_30 : decode cX7_part 30 = .ok (.goto 4, 3) := by decide +kernel
theorem dX7_part_33 : decode cX7_part 33 = .ok (.iconst 1, 1) := by decide +kernel
theorem dX7_part_34 : decode cX7_part 34 = .ok (.invokevirtual 230, 3) := by decide +kernel
theorem dX7_part_37 : decode cX7_part 37 = .ok (.invokestatic 142, 3) := by decide +kernel
theorem dX7_part_40 : decode cX7_part 40 = .ok (.ireturn, 1) := by decide +kernel
theorem dX7_resize_0 : decode cX7_resize 0 = .ok (.aload_n 0, 1) := by decide +kernel
theorem dX7_resize_1 : decode cX7_resize 1 = .ok (.iload_n 1, 1) := by decide +kernel
theorem dX7_resize_2 : decode cX7_resize 2 = .ok (.invokevirtual 84, 3) := by decide +kernel
theorem dX7_resize_5 : decode cX7_resize 5 = .ok (.aload_n 0, 1) := by decide +kernel
theorem dX7_resize_6 : decode cX7_resize 6 = .ok (.iload_n 2, 1) := by decide +kernel
theorem dX7_resize_7 : decode cX7_resize 7 = .ok (.invokevirtual 112, 3) := by decide +kernel
theorem dX7_resize_10 : decode cX7_resize 10 = .ok (.aload_n 0, 1) := by decide +kernel
theorem dX7_resize_11 : decode cX7_resize 11 = .ok (.iload_n 3, 1) := by decide +kernel
theorem dX7_resize_12 : decode cX7_resize 12 = .ok (.iload 4, 2) := by decide +kernel
theorem dX7_resize_14 : decode cX7_resize 14 = .ok (.invokevirtual 92, 3) := by decide +kernel
theorem dX7_resize_17 : decode cX7_resize 17 = .ok (.aload_n 0, 1) := by decide +kernel
theorem dX7_resize_18 : decode cX7_resize 18 = .ok (.getfield 34, 3) := by decide +kernel
theorem dX7_resize_21 : decode cX7_resize 21 = .ok (.iconst 2, 1) := by decide +kernel
theorem dX7_resize_22 : decode cX7_resize 22 = .ok (.iload_n 2, 1) := by decide +kernel
theorem dX7_resize_23 : decode cX7_resize 23 = .ok (.iconst 0, 1) := by decide +kernel
theorem dX7_resize_24 : decode cX7_resize 24 = .ok (.iconst 0, 1) := by decide +kernel
theorem dX7_resize_25 : decode cX7_resize 25 = .ok (.iload_n 3, 1) := by decide +kernel
theorem dX7_resize_26 : decode cX7_resize 26 = .ok (.iload 4, 2) := by decide +kernel
theorem dX7_resize_28 : decode cX7_resize 28 = .ok (.invokevirtual 100, 3) := by decide +kernel
theorem dX7_resize_31 : decode cX7_resize 31 = .ok (.aload_n 0, 1) := by decide +kernel
theorem dX7_resize_32 : decode cX7_resize 32 = .ok (.iload_n 1, 1) := by decide +kernel
theorem dX7_resize_33 : decode cX7_resize 33 = .ok (.invokevirtual 107, 3) := by decide +kernel
theorem dX7_resize_36 : decode cX7_resize 36 = .ok (.aload_n 0, 1) := by decide +kernel
theorem dX7_resize_37 : decode cX7_resize 37 = .ok (.getfield 43, 3) := by decide +kernel
theorem dX7_resize_40 : decode cX7_resize 40 = .ok (.invokevirtual 115, 3) := by decide +kernel
theorem dX7_resize_43 : decode cX7_resize 43 = .ok (.ireturn, 1) := by decide +kernel
theorem dX7_spell_0 : decode cX7_spell 0 = .ok (.iload_n 1, 1) := by decide +kernel
theorem dX7_spell_1 : decode cX7_spell 1 = .ok (.ifCond .lt 9, 3) := by decide +kernel
theorem dX7_spell_4 : decode cX7_spell 4 = .ok (.iload_n 1, 1) := by decide +kernel
theorem dX7_spell_5 : decode cX7_spell 5 = .ok (.bipush 27, 2) := by decide +kernel
theorem dX7_spell_7 : decode cX7_spell 7 = .ok (.if_icmp .lt 13, 3) := by decide +kernel
theorem dX7_spell_10 : decode cX7_spell 10 = .ok (.new 64, 3) := by decide +kernel
theorem dX7_spell_13 : decode cX7_spell 13 = .ok (.dup, 1) := by decide +kernel
theorem dX7_spell_14 : decode cX7_spell 14 = .ok (.ldc 66, 2) := by decide +kernel
theorem dX7_spell_16 : decode cX7_spell 16 = .ok (.invokespecial 68, 3) := by decide +kernel
theorem dX7_spell_19 : decode cX7_spell 19 = .ok (.athrow, 1) := by decide +kernel
theorem dX7_spell_20 : decode cX7_spell 20 = .ok (.aload_n 0, 1) := by decide +kernel
theorem dX7_spell_21 : decode cX7_spell 21 = .ok (.getfield 13, 3) := by decide +kernel
theorem dX7_spell_24 : decode cX7_spell 24 = .ok (.iconst 5, 1) := by decide +kernel
theorem dX7_spell_25 : decode cX7_spell 25 = .ok (.if_icmp .lt 13, 3) := by decide +kernel
theorem dX7_spell_28 : decode cX7_spell 28 = .ok (.new 71, 3) := by decide +kernel
theorem dX7_spell_31 : decode cX7_spell 31 = .ok (.dup, 1) := by decide +kernel
theorem dX7_spell_32 : decode cX7_spell 32 = .ok (.ldc 73, 2) := by decide +kernel
theorem dX7_spell_34 : decode cX7_spell 34 = .ok (.invokespecial 75, 3) := by decide +kernel
theorem dX7_spell_37 : decode cX7_spell 37 = .ok (.athrow, 1) := by decide +kernel
theorem dX7_spell_38 : decode cX7_spell 38 = .ok (.aload_n 0, 1) := by decide +kernel
theorem dX7_spell_39 : decode cX7_spell 39 = .ok (.getfield 9, 3) := by decide +kernel
theorem dX7_spell_42 : decode cX7_spell 42 = .ok (.aload_n 0, 1) := by decide +kernel
theorem dX7_spell_43 : decode cX7_spell 43 = .ok (.getfield 13, 3) := by decide +kernel
theorem dX7_spell_46 : decode cX7_spell 46 = .ok (.iload_n 1, 1) := by decide +kernel
theorem dX7_spell_47 : decode cX7_spell 47 = .ok (.invokestatic 76, 3) := by decide +kernel
theorem dX7_spell_50 : decode cX7_spell 50 = .ok (.aload_n 0, 1) := by decide +kernel
theorem dX7_spell_51 : decode cX7_spell 51 = .ok (.dup, 1) := by decide +kernel
theorem dX7_spell_52 : decode cX7_spell 52 = .ok (.getfield 13, 3) := by decide +kernel
theorem dX7_spell_55 : decode cX7_spell 55 = .ok (.iconst 1, 1) := by decide +kernel
theorem dX7_spell_56 : decode cX7_spell 56 = .ok (.iadd, 1) := by decide +kernel
theorem dX7_spell_57 : decode cX7_spell 57 = .ok (.putfield 13, 3) := by decide +kernel
theorem dX7_spell_60 : decode cX7_spell 60 = .ok (.iconst 0, 1) := by decide +kernel
theorem dX7_spell_61 : decode cX7_spell 61 = .ok (.istore_n 2, 1) := by decide +kernel
theorem dX7_spell_62 : decode cX7_spell 62 = .ok (.iconst 0, 1) := by decide +kernel
theorem dX7_spell_63 : decode cX7_spell 63 = .ok (.istore_n 3, 1) := by decide +kernel
theorem dX7_spell_64 : decode cX7_spell 64 = .ok (.iload_n 3, 1) := by decide +kernel
theorem dX7_spell_65 : decode cX7_spell 65 = .ok (.aload_n 0, 1) := by decide +kernel
theorem dX7_spell_66 : decode cX7_spell 66 = .ok (.getfield 13, 3) := by decide +kernel
theorem dX7_spell_69 : decode cX7_spell 69 = .ok (.if_icmp .ge 30, 3) := by decide +kernel
theorem dX7_spell_72 : decode cX7_spell 72 = .ok (.iload_n 2, 1) := by decide +kernel
theorem dX7_spell_73 : decode cX7_spell 73 = .ok (.aload_n 0, 1) := by decide +kernel
theorem dX7_spell_74 : decode cX7_spell 74 = .ok (.getfield 9, 3) := by decide +kernel
theorem dX7_spell_77 : decode cX7_spell 77 = .ok (.iload_n 3, 1) := by decide +kernel
theorem dX7_spell_78 : decode cX7_spell 78 = .ok (.invokestatic 80, 3) := by decide +kernel
theorem dX7_spell_81 : decode cX7_spell 81 = .ok (.bipush 26, 2) := by decide +kernel
theorem dX7_spell_83 : decode cX7_spell 83 = .ok (.if_icmp .ne 7, 3) := by decide +kernel
theorem dX7_spell_86 : decode cX7_spell 86 = .ok (.iconst 2, 1) := by decide +kernel
theorem dX7_spell_87 : decode cX7_spell 87 = .ok (.goto 4, 3) := by decide +kernel
theorem dX7_spell_90 : decode cX7_spell 90 = .ok (.iconst 1, 1) := by decide +kernel
theorem dX7_spell_91 : decode cX7_spell 91 = .ok (.iadd, 1) := by decide +kernel
theorem dX7_spell_92 : decode cX7_spell 92 = .ok (.istore_n 2, 1) := by decide +kernel
theorem dX7_spell_93 : decode cX7_spell 93 = .ok (.iinc 3 1, 3) := by decide +kernel
theorem dX7_spell_96 : decode cX7_spell 96 = .ok (.goto (-32), 3) := by decide +kernel
theorem dX7_spell_99 : decode cX7_spell 99 = .ok (.iload_n 2, 1) := by decide +kernel
theorem dX7_spell_100 : decode cX7_spell 100 = .ok (.ireturn, 1) := by decide +kernel
theorem dX7_standsAt_0 : decode cX7_standsAt 0 = .ok (.aload_n 0, 1) := by decide +kernel
theorem dX7_standsAt_1 : decode cX7_standsAt 1 = .ok (.iload_n 1, 1) := by decide +kernel
theorem dX7_standsAt_2 : decode cX7_standsAt 2 = .ok (.invokevirtual 84, 3) := by decide +kernel
theorem dX7_standsAt_5 : decode cX7_standsAt 5 = .ok (.aload_n 0, 1) := by decide +kernel
theorem dX7_standsAt_6 : decode cX7_standsAt 6 = .ok (.getfield 34, 3) := by decide +kernel
theorem dX7_standsAt_9 : decode cX7_standsAt 9 = .ok (.iload_n 1, 1) := by decide +kernel
theorem dX7_standsAt_10 : decode cX7_standsAt 10 = .ok (.invokevirtual 148, 3) := by decide +kernel
theorem dX7_standsAt_13 : decode cX7_standsAt 13 = .ok (.ireturn, 1) := by decide +kernel
theorem fl_RX7_34 : FL RX7 34 7 4 (tyX7 4) := ⟨RX7, TX7, 9, tyX7, rfl, by decide, lyX7, tyX7_ok, nmX7, rfl, Or.inl (tb4 (mem_i 2 rfl))⟩
theorem fl_RX7_188 : FL RX7 188 6 0 .int := ⟨RX6, TX6, 7, tyX6, rfl, by decide, lyX6, tyX6_ok, nmX6, rfl, Or.inr ⟨_, nf0 (mem_i 11 rfl)⟩⟩
theorem exg_RX7_1 : ∀ w ∈ (EA RX7 68 1).filter goodWord, w ∈ TB := fun w hw => exin ((by decide +kernel : ∀ w ∈ (EA RX7 68 1).filter goodWord, w ∈ EXl) w hw)
theorem exb_RX7_1 : ∀ w ∈ (EA RX7 68 1).filter (fun w => !goodWord w), w ∈ NF := by decide +kernel
theorem exo_RX7_1 : (EA RX7 68 1).all vx_ot = true := by decide +kernel
theorem thw_X7_requireDrawer_9 : ThW RX7 cX7_requireDrawer 9 1 := ⟨64, 269, 68, "no such drawer", dX7_requireDrawer_9, dX7_requireDrawer_12, Or.inr ⟨dX7_requireDrawer_13, dX7_requireDrawer_16, dX7_requireDrawer_19⟩, exin (mem_i 49 (by decide +kernel)), tb0 (mem_i 12 (by decide +kernel)), mem_i 0 (by decide +kernel), exg_RX7_1, exb_RX7_1, exo_RX7_1, by decide +kernel, by decide +kernel, by decide +kernel, by decide +kernel, by decide +kernel⟩
theorem ml_RX7_84 : MV RX7 84 7 yX7_requireDrawer 1 := ⟨⟨by decide +kernel, by decide +kernel, by decide +kernel⟩, tb5 (mem_i 0 rfl), tb0 (mem_i 1 rfl), Or.inl (tb4 (mem_i 29 rfl)), RX7, TX7, 9, rfl, rfl, tb16 (mem_i 3 rfl)⟩
theorem exg_RX7_2 : ∀ w ∈ (EA RX7 123 2).filter goodWord, w ∈ TB := fun w hw => exin ((by decide +kernel : ∀ w ∈ (EA RX7 123 2).filter goodWord, w ∈ EXl) w hw)
theorem exb_RX7_2 : ∀ w ∈ (EA RX7 123 2).filter (fun w => !goodWord w), w ∈ NF := by decide +kernel
theorem exo_RX7_2 : (EA RX7 123 2).all vx_ot = true := by decide +kernel
theorem thw_X7_requirePlace_16 : ThW RX7 cX7_requirePlace 16 2 := ⟨119, 281, 123, "x or y is out of range", dX7_requirePlace_16, dX7_requirePlace_19, Or.inr ⟨dX7_requirePlace_20, dX7_requirePlace_23, dX7_requirePlace_26⟩, exin (mem_i 100 (by decide +kernel)), tb0 (mem_i 13 (by decide +kernel)), mem_i 1 (by decide +kernel), exg_RX7_2, exb_RX7_2, exo_RX7_2, by decide +kernel, by decide +kernel, by decide +kernel, by decide +kernel, by decide +kernel⟩
theorem ml_RX7_277 : MS RX7 277 yX7_isInRange 2 := ⟨⟨by decide +kernel, by decide +kernel, by decide +kernel⟩, tb5 (mem_i 7 rfl), tb0 (mem_i 1 rfl), Or.inl (tb5 (mem_i 6 rfl))⟩
theorem ml_RX7_88 : MV RX7 88 7 yX7_requirePlace 2 := ⟨⟨by decide +kernel, by decide +kernel, by decide +kernel⟩, tb5 (mem_i 4 rfl), tb0 (mem_i 1 rfl), Or.inl (tb5 (mem_i 3 rfl)), RX7, TX7, 9, rfl, rfl, tb16 (mem_i 4 rfl)⟩
theorem thw_X7_requireSize_16 : ThW RX7 cX7_requireSize 16 2 := ⟨119, 283, 123, "width or height is out of range", dX7_requireSize_16, dX7_requireSize_19, Or.inr ⟨dX7_requireSize_20, dX7_requireSize_23, dX7_requireSize_26⟩, exin (mem_i 100 (by decide +kernel)), tb0 (mem_i 13 (by decide +kernel)), mem_i 2 (by decide +kernel), exg_RX7_2, exb_RX7_2, exo_RX7_2, by decide +kernel, by decide +kernel, by decide +kernel, by decide +kernel, by decide +kernel⟩
theorem ml_RX7_92 : MV RX7 92 7 yX7_requireSize 2 := ⟨⟨by decide +kernel, by decide +kernel, by decide +kernel⟩, tb5 (mem_i 10 rfl), tb0 (mem_i 1 rfl), Or.inl (tb5 (mem_i 9 rfl)), RX7, TX7, 9, rfl, rfl, tb16 (mem_i 5 rfl)⟩
theorem fl_RX7_20 : FL RX7 20 7 2 (tyX7 2) := ⟨RX7, TX7, 9, tyX7, rfl, by decide, lyX7, tyX7_ok, nmX7, rfl, Or.inl (tb4 (mem_i 0 rfl))⟩
theorem fl_RX7_95 : FL RX7 95 5 0 .int := ⟨RX5, TX5, 4, tyX5, rfl, by decide, lyX5, tyX5_ok, nmX5, rfl, Or.inr ⟨_, nf0 (mem_i 1 rfl)⟩⟩
theorem ml_RX7_100 : MV RX7 100 6 yX6_draft 6 := ⟨⟨by decide +kernel, by decide +kernel, by decide +kernel⟩, tb5 (mem_i 12 rfl), tb0 (mem_i 4 rfl), Or.inr ⟨_, nf0 (mem_i 27 rfl)⟩, RX6, TX6, 7, rfl, rfl, tb16 (mem_i 6 rfl)⟩
theorem fl_RX7_9 : FL RX7 9 7 0 (tyX7 0) := ⟨RX7, TX7, 9, tyX7, rfl, by decide, lyX7, tyX7_ok, nmX7, rfl, Or.inl (tb3 (mem_i 28 rfl))⟩
theorem ml_RX7_104 : MV RX7 104 5 yX5_draft 3 := ⟨⟨by decide +kernel, by decide +kernel, by decide +kernel⟩, tb5 (mem_i 16 rfl), tb0 (mem_i 2 rfl), Or.inr ⟨_, nf0 (mem_i 29 rfl)⟩, RX5, TX5, 4, rfl, rfl, tb16 (mem_i 7 rfl)⟩
theorem exg_RX7_3 : ∀ w ∈ (EA RX7 75 3).filter goodWord, w ∈ TB := fun w hw => exin ((by decide +kernel : ∀ w ∈ (EA RX7 75 3).filter goodWord, w ∈ EXl) w hw)
theorem exb_RX7_3 : ∀ w ∈ (EA RX7 75 3).filter (fun w => !goodWord w), w ∈ NF := by decide +kernel
theorem exo_RX7_3 : (EA RX7 75 3).all vx_ot = true := by decide +kernel
theorem thw_X7_doDraft_29 : ThW RX7 cX7_doDraft 29 3 := ⟨71, 296, 75, "that cannot be done, or there are 60 acts", dX7_doDraft_29, dX7_doDraft_32, Or.inr ⟨dX7_doDraft_33, dX7_doDraft_36, dX7_doDraft_39⟩, exin (mem_i 114 (by decide +kernel)), tb0 (mem_i 14 (by decide +kernel)), mem_i 4 (by decide +kernel), exg_RX7_3, exb_RX7_3, exo_RX7_3, by decide +kernel, by decide +kernel, by decide +kernel, by decide +kernel, by decide +kernel⟩
theorem fl_RX7_43 : FL RX7 43 7 5 (tyX7 5) := ⟨RX7, TX7, 9, tyX7, rfl, by decide, lyX7, tyX7_ok, nmX7, rfl, Or.inl (tb4 (mem_i 3 rfl))⟩
theorem ml_RX7_293 : MV RX7 293 3 yX3_tryAct 1 := ⟨⟨by decide +kernel, by decide +kernel, by decide +kernel⟩, tb5 (mem_i 23 rfl), tb0 (mem_i 5 rfl), Or.inr ⟨_, nf1 (mem_i 2 rfl)⟩, RX3, TX3, 4, rfl, rfl, tb16 (mem_i 9 rfl)⟩
theorem ml_RX7_298 : MV RX7 298 6 yX6_hang 1 := ⟨⟨by decide +kernel, by decide +kernel, by decide +kernel⟩, tb7 (mem_i 26 rfl), tb0 (mem_i 4 rfl), Or.inr ⟨_, nf1 (mem_i 19 rfl)⟩, RX6, TX6, 7, rfl, rfl, tb17 (mem_i 0 rfl)⟩
theorem ml_RX7_107 : MV RX7 107 7 yX7_doDraft 1 := ⟨⟨by decide +kernel, by decide +kernel, by decide +kernel⟩, tb5 (mem_i 21 rfl), tb0 (mem_i 1 rfl), Or.inl (tb5 (mem_i 20 rfl)), RX7, TX7, 9, rfl, rfl, tb16 (mem_i 8 rfl)⟩
theorem fp_5_0 : FP 5 0 := fun C T N h => by cases h; rfl
theorem thw_X7_addBox_35 : ThW RX7 cX7_addBox 35 3 := ⟨71, 98, 75, "there are 10 shapes", dX7_addBox_35, dX7_addBox_38, Or.inl ⟨dX7_addBox_39, dX7_addBox_41, dX7_addBox_44⟩, exin (mem_i 114 (by decide +kernel)), tb0 (mem_i 14 (by decide +kernel)), mem_i 3 (by decide +kernel), exg_RX7_3, exb_RX7_3, exo_RX7_3, by decide +kernel, by decide +kernel, by decide +kernel, by decide +kernel, by decide +kernel⟩
theorem thw_X7_addLabel_34 : ThW RX7 cX7_addLabel 34 3 := ⟨71, 110, 75, "the text is empty, or there are 10 shapes", dX7_addLabel_34, dX7_addLabel_37, Or.inl ⟨dX7_addLabel_38, dX7_addLabel_40, dX7_addLabel_43⟩, exin (mem_i 114 (by decide +kernel)), tb0 (mem_i 14 (by decide +kernel)), mem_i 5 (by decide +kernel), exg_RX7_3, exb_RX7_3, exo_RX7_3, by decide +kernel, by decide +kernel, by decide +kernel, by decide +kernel, by decide +kernel⟩
theorem fl_RX7_13 : FL RX7 13 7 1 .int := ⟨RX7, TX7, 9, tyX7, rfl, by decide, lyX7, tyX7_ok, nmX7, rfl, Or.inl (tb3 (mem_i 29 rfl))⟩
theorem fl_RX7_53 : FL RX7 53 7 7 (tyX7 7) := ⟨RX7, TX7, 9, tyX7, rfl, by decide, lyX7, tyX7_ok, nmX7, rfl, Or.inl (tb4 (mem_i 5 rfl))⟩
theorem fl_RX7_233 : FL RX7 233 2 0 .int := ⟨RX2, TX2, 5, tyX2, rfl, by decide, lyX2, tyX2_ok, nmX2, rfl, Or.inr ⟨_, nf0 (mem_i 22 rfl)⟩⟩
theorem fl_RX7_60 : FL RX7 60 7 8 (tyX7 8) := ⟨RX7, TX7, 9, tyX7, rfl, by decide, lyX7, tyX7_ok, nmX7, rfl, Or.inl (tb4 (mem_i 6 rfl))⟩
theorem fl_RX7_133 : FL RX7 133 3 1 (tyX3 1) := ⟨RX3, TX3, 4, tyX3, rfl, by decide, lyX3, tyX3_ok, nmX3, rfl, Or.inr ⟨_, nf0 (mem_i 19 rfl)⟩⟩
theorem ml_RX7_238 : MV RX7 238 1 yX1_show 2 := ⟨⟨by decide +kernel, by decide +kernel, by decide +kernel⟩, tb13 (mem_i 15 rfl), tb0 (mem_i 8 rfl), Or.inr ⟨_, nf2 (mem_i 9 rfl)⟩, RX1, TX1, 2, rfl, rfl, tb17 (mem_i 22 rfl)⟩
theorem ml_RX7_159 : MV RX7 159 6 yX6_counting 0 := ⟨⟨by decide +kernel, by decide +kernel, by decide +kernel⟩, tb9 (mem_i 17 rfl), tb0 (mem_i 4 rfl), Or.inr ⟨_, nf1 (mem_i 28 rfl)⟩, RX6, TX6, 7, rfl, rfl, tb17 (mem_i 9 rfl)⟩
theorem ml_RX7_242 : MV RX7 242 2 yX2_keep 2 := ⟨⟨by decide +kernel, by decide +kernel, by decide +kernel⟩, tb14 (mem_i 7 rfl), tb0 (mem_i 7 rfl), Or.inr ⟨_, nf2 (mem_i 15 rfl)⟩, RX2, TX2, 5, rfl, rfl, tb17 (mem_i 28 rfl)⟩
theorem thw_X7_ask_14 : ThW RX7 cX7_ask 14 3 := ⟨71, 236, 75, "there are 10 exports", dX7_ask_14, dX7_ask_17, Or.inl ⟨dX7_ask_18, dX7_ask_20, dX7_ask_23⟩, exin (mem_i 114 (by decide +kernel)), tb0 (mem_i 14 (by decide +kernel)), mem_i 21 (by decide +kernel), exg_RX7_3, exb_RX7_3, exo_RX7_3, by decide +kernel, by decide +kernel, by decide +kernel, by decide +kernel, by decide +kernel⟩
theorem ml_RX7_148 : MV RX7 148 6 yX6_standOf 1 := ⟨⟨by decide +kernel, by decide +kernel, by decide +kernel⟩, tb7 (mem_i 29 rfl), tb0 (mem_i 4 rfl), Or.inr ⟨_, nf1 (mem_i 25 rfl)⟩, RX6, TX6, 7, rfl, rfl, tb17 (mem_i 1 rfl)⟩
theorem ml_RX7_153 : MV RX7 153 6 yX6_aboveOf 1 := ⟨⟨by decide +kernel, by decide +kernel, by decide +kernel⟩, tb9 (mem_i 13 rfl), tb0 (mem_i 4 rfl), Or.inr ⟨_, nf1 (mem_i 26 rfl)⟩, RX6, TX6, 7, rfl, rfl, tb17 (mem_i 7 rfl)⟩
theorem ml_RX7_156 : MV RX7 156 6 yX6_stand 2 := ⟨⟨by decide +kernel, by decide +kernel, by decide +kernel⟩, tb9 (mem_i 15 rfl), tb0 (mem_i 4 rfl), Or.inr ⟨_, nf1 (mem_i 27 rfl)⟩, RX6, TX6, 7, rfl, rfl, tb17 (mem_i 8 rfl)⟩
theorem ml_RX7_163 : MV RX7 163 3 yX3_redo 1 := ⟨⟨by decide +kernel, by decide +kernel, by decide +kernel⟩, tb9 (mem_i 20 rfl), tb0 (mem_i 5 rfl), Or.inr ⟨_, nf1 (mem_i 29 rfl)⟩, RX3, TX3, 4, rfl, rfl, tb17 (mem_i 10 rfl)⟩
theorem fl_RX7_167 : FL RX7 167 3 3 .long := ⟨RX3, TX3, 4, tyX3, rfl, by decide, lyX3, tyX3_ok, nmX3, rfl, Or.inr ⟨_, nf0 (mem_i 20 rfl)⟩⟩
theorem ml_RX7_171 : MS RX7 171 yJ13_bitCount_95d88 1 := ⟨⟨by decide +kernel, by decide +kernel, by decide +kernel⟩, tb9 (mem_i 26 rfl), tb0 (mem_i 17 rfl), Or.inl (tb9 (mem_i 25 rfl))⟩
theorem thw_X7_back_19 : ThW RX7 cX7_back 19 3 := ⟨71, 151, 75, "the drawer stands at the root", dX7_back_19, dX7_back_22, Or.inl ⟨dX7_back_23, dX7_back_25, dX7_back_28⟩, exin (mem_i 114 (by decide +kernel)), tb0 (mem_i 14 (by decide +kernel)), mem_i 10 (by decide +kernel), exg_RX7_3, exb_RX7_3, exo_RX7_3, by decide +kernel, by decide +kernel, by decide +kernel, by decide +kernel, by decide +kernel⟩
theorem ml_RX7_185 : MV RX7 185 6 yX6_countBelow 1 := ⟨⟨by decide +kernel, by decide +kernel, by decide +kernel⟩, tb15 (mem_i 19 rfl), tb0 (mem_i 4 rfl), Or.inr ⟨_, nf2 (mem_i 19 rfl)⟩, RX6, TX6, 7, rfl, rfl, tb18 (mem_i 1 rfl)⟩
theorem ml_RX7_182 : MV RX7 182 6 yX6_countBranches 1 := ⟨⟨by decide +kernel, by decide +kernel, by decide +kernel⟩, tb13 (mem_i 9 rfl), tb0 (mem_i 4 rfl), Or.inr ⟨_, nf2 (mem_i 8 rfl)⟩, RX6, TX6, 7, rfl, rfl, tb17 (mem_i 21 rfl)⟩
theorem ml_RX7_192 : MS RX7 192 yX7_has 2 := ⟨⟨by decide +kernel, by decide +kernel, by decide +kernel⟩, tb6 (mem_i 13 rfl), tb0 (mem_i 1 rfl), Or.inl (tb10 (mem_i 26 rfl))⟩
theorem ml_RX7_227 : MV RX7 227 6 yX6_deedOf 1 := ⟨⟨by decide +kernel, by decide +kernel, by decide +kernel⟩, tb6 (mem_i 4 rfl), tb0 (mem_i 4 rfl), Or.inr ⟨_, nf2 (mem_i 21 rfl)⟩, RX6, TX6, 7, rfl, rfl, tb16 (mem_i 13 rfl)⟩
theorem exg_RX7_4 : ∀ w ∈ (EA RX7 222 4).filter goodWord, w ∈ TB := fun w hw => exin ((by decide +kernel : ∀ w ∈ (EA RX7 222 4).filter goodWord, w ∈ EXl) w hw)
theorem exb_RX7_4 : ∀ w ∈ (EA RX7 222 4).filter (fun w => !goodWord w), w ∈ NF := by decide +kernel
theorem exo_RX7_4 : (EA RX7 222 4).all vx_ot = true := by decide +kernel
theorem thw_X7_charAnew_53 : ThW RX7 cX7_charAnew 53 4 := ⟨218, 253, 222, "no such char", dX7_charAnew_53, dX7_charAnew_56, Or.inl ⟨dX7_charAnew_57, dX7_charAnew_59, dX7_charAnew_62⟩, exin (mem_i 136 (by decide +kernel)), tb0 (mem_i 18 (by decide +kernel)), mem_i 19 (by decide +kernel), exg_RX7_4, exb_RX7_4, exo_RX7_4, by decide +kernel, by decide +kernel, by decide +kernel, by decide +kernel, by decide +kernel⟩
theorem thw_X7_requireMade_15 : ThW RX7 cX7_requireMade 15 1 := ⟨64, 289, 68, "no such export", dX7_requireMade_15, dX7_requireMade_18, Or.inr ⟨dX7_requireMade_19, dX7_requireMade_22, dX7_requireMade_25⟩, exin (mem_i 49 (by decide +kernel)), tb0 (mem_i 12 (by decide +kernel)), mem_i 17 (by decide +kernel), exg_RX7_1, exb_RX7_1, exo_RX7_1, by decide +kernel, by decide +kernel, by decide +kernel, by decide +kernel, by decide +kernel⟩
theorem fl_RX7_246 : FL RX7 246 2 1 .int := ⟨RX2, TX2, 5, tyX2, rfl, by decide, lyX2, tyX2_ok, nmX2, rfl, Or.inr ⟨_, nf0 (mem_i 23 rfl)⟩⟩
theorem thw_X7_requireMade_37 : ThW RX7 cX7_requireMade 37 4 := ⟨218, 291, 222, "the export waits", dX7_requireMade_37, dX7_requireMade_40, Or.inr ⟨dX7_requireMade_41, dX7_requireMade_44, dX7_requireMade_47⟩, exin (mem_i 136 (by decide +kernel)), tb0 (mem_i 18 (by decide +kernel)), mem_i 18 (by decide +kernel), exg_RX7_4, exb_RX7_4, exo_RX7_4, by decide +kernel, by decide +kernel, by decide +kernel, by decide +kernel, by decide +kernel⟩
theorem ml_RX7_247 : MV RX7 247 7 yX7_requireMade 1 := ⟨⟨by decide +kernel, by decide +kernel, by decide +kernel⟩, tb11 (mem_i 12 rfl), tb0 (mem_i 1 rfl), Or.inl (tb11 (mem_i 11 rfl)), RX7, TX7, 9, rfl, rfl, tb17 (mem_i 17 rfl)⟩
theorem fl_RX7_47 : FL RX7 47 7 6 (tyX7 6) := ⟨RX7, TX7, 9, tyX7, rfl, by decide, lyX7, tyX7_ok, nmX7, rfl, Or.inl (tb4 (mem_i 4 rfl))⟩
theorem ml_RX7_259 : MV RX7 259 2 yX2_actsOf 1 := ⟨⟨by decide +kernel, by decide +kernel, by decide +kernel⟩, tb14 (mem_i 29 rfl), tb0 (mem_i 7 rfl), Or.inr ⟨_, nf2 (mem_i 17 rfl)⟩, RX2, TX2, 5, rfl, rfl, tb18 (mem_i 0 rfl)⟩
theorem fl_RX7_263 : FL RX7 263 1 1 .int := ⟨RX1, TX1, 2, tyX1, rfl, by decide, lyX1, tyX1_ok, nmX1, rfl, Or.inr ⟨_, nf0 (mem_i 26 rfl)⟩⟩
theorem ml_RX7_266 : MV RX7 266 1 yX1_signOf 1 := ⟨⟨by decide +kernel, by decide +kernel, by decide +kernel⟩, tb14 (mem_i 9 rfl), tb0 (mem_i 8 rfl), Or.inr ⟨_, nf2 (mem_i 18 rfl)⟩, RX1, TX1, 2, rfl, rfl, tb17 (mem_i 29 rfl)⟩
theorem thw_X7_charAt_21 : ThW RX7 cX7_charAt 21 4 := ⟨218, 253, 222, "no such char", dX7_charAt_21, dX7_charAt_24, Or.inl ⟨dX7_charAt_25, dX7_charAt_27, dX7_charAt_30⟩, exin (mem_i 136 (by decide +kernel)), tb0 (mem_i 18 (by decide +kernel)), mem_i 19 (by decide +kernel), exg_RX7_4, exb_RX7_4, exo_RX7_4, by decide +kernel, by decide +kernel, by decide +kernel, by decide +kernel, by decide +kernel⟩
theorem ml_RX7_250 : MV RX7 250 2 yX2_charsOf 1 := ⟨⟨by decide +kernel, by decide +kernel, by decide +kernel⟩, tb11 (mem_i 14 rfl), tb0 (mem_i 7 rfl), Or.inr ⟨_, nf2 (mem_i 5 rfl)⟩, RX2, TX2, 5, rfl, rfl, tb17 (mem_i 18 rfl)⟩
theorem ml_RX7_255 : MV RX7 255 2 yX2_signOf 2 := ⟨⟨by decide +kernel, by decide +kernel, by decide +kernel⟩, tb11 (mem_i 16 rfl), tb0 (mem_i 7 rfl), Or.inr ⟨_, nf2 (mem_i 7 rfl)⟩, RX2, TX2, 5, rfl, rfl, tb17 (mem_i 19 rfl)⟩
theorem fp_7_1 : FP 7 1 := fun C T N h => by cases h; rfl
theorem thw_X7_requireAct_15 : ThW RX7 cX7_requireAct 15 1 := ⟨64, 275, 68, "no such act", dX7_requireAct_15, dX7_requireAct_18, Or.inr ⟨dX7_requireAct_19, dX7_requireAct_22, dX7_requireAct_25⟩, exin (mem_i 49 (by decide +kernel)), tb0 (mem_i 12 (by decide +kernel)), mem_i 20 (by decide +kernel), exg_RX7_1, exb_RX7_1, exo_RX7_1, by decide +kernel, by decide +kernel, by decide +kernel, by decide +kernel, by decide +kernel⟩
theorem ml_RX7_189 : MV RX7 189 7 yX7_requireAct 1 := ⟨⟨by decide +kernel, by decide +kernel, by decide +kernel⟩, tb12 (mem_i 24 rfl), tb0 (mem_i 1 rfl), Or.inl (tb12 (mem_i 23 rfl)), RX7, TX7, 9, rfl, rfl, tb17 (mem_i 20 rfl)⟩
theorem thw_X7_requireRule_15 : ThW RX7 cX7_requireRule 15 1 := ⟨64, 273, 68, "no such rule", dX7_requireRule_15, dX7_requireRule_18, Or.inr ⟨dX7_requireRule_19, dX7_requireRule_22, dX7_requireRule_25⟩, exin (mem_i 49 (by decide +kernel)), tb0 (mem_i 12 (by decide +kernel)), mem_i 9 (by decide +kernel), exg_RX7_1, exb_RX7_1, exo_RX7_1, by decide +kernel, by decide +kernel, by decide +kernel, by decide +kernel, by decide +kernel⟩
theorem fl_RX7_27 : FL RX7 27 7 3 (tyX7 3) := ⟨RX7, TX7, 9, tyX7, rfl, by decide, lyX7, tyX7_ok, nmX7, rfl, Or.inl (tb4 (mem_i 1 rfl))⟩
theorem fl_RX7_124 : FL RX7 124 4 0 .int := ⟨RX4, TX4, 4, tyX4, rfl, by decide, lyX4, tyX4_ok, nmX4, rfl, Or.inr ⟨_, nf0 (mem_i 3 rfl)⟩⟩
theorem ml_RX7_130 : MV RX7 130 7 yX7_requireRule 1 := ⟨⟨by decide +kernel, by decide +kernel, by decide +kernel⟩, tb9 (mem_i 1 rfl), tb0 (mem_i 1 rfl), Or.inl (tb9 (mem_i 0 rfl)), RX7, TX7, 9, rfl, rfl, tb17 (mem_i 6 rfl)⟩
theorem fl_RX7_137 : FL RX7 137 0 6 .int := ⟨RX0, TX0, 7, tyX0, rfl, by decide, lyX0, tyX0_ok, nmX0, rfl, Or.inr ⟨_, nf0 (mem_i 18 rfl)⟩⟩
theorem ml_RX7_142 : MS RX7 142 yJ6_bitCount_0f7a4 1 := ⟨⟨by decide +kernel, by decide +kernel, by decide +kernel⟩, tb9 (mem_i 4 rfl), tb0 (mem_i 16 rfl), Or.inl (tb9 (mem_i 3 rfl))⟩
theorem ml_RX7_223 : MV RX7 223 0 yX0_fits 1 := ⟨⟨by decide +kernel, by decide +kernel, by decide +kernel⟩, tb11 (mem_i 1 rfl), tb0 (mem_i 6 rfl), Or.inr ⟨_, nf2 (mem_i 3 rfl)⟩, RX0, TX0, 7, rfl, rfl, tb17 (mem_i 16 rfl)⟩
theorem fl_RX7_209 : FL RX7 209 4 2 (tyX4 2) := ⟨RX4, TX4, 4, tyX4, rfl, by decide, lyX4, tyX4_ok, nmX4, rfl, Or.inr ⟨_, nf0 (mem_i 7 rfl)⟩⟩
theorem ml_RX7_80 : MS RX7 80 yX7_read 2 := ⟨⟨by decide +kernel, by decide +kernel, by decide +kernel⟩, tb5 (mem_i 18 rfl), tb0 (mem_i 1 rfl), Or.inl (tb10 (mem_i 15 rfl))⟩
theorem fl_RX7_196 : FL RX7 196 0 5 .int := ⟨RX0, TX0, 7, tyX0, rfl, by decide, lyX0, tyX0_ok, nmX0, rfl, Or.inr ⟨_, nf0 (mem_i 16 rfl)⟩⟩
theorem thw_X7_requireOn_12 : ThW RX7 cX7_requireOn 12 4 := ⟨218, 287, 222, "the shape is not there", dX7_requireOn_12, dX7_requireOn_15, Or.inr ⟨dX7_requireOn_16, dX7_requireOn_19, dX7_requireOn_22⟩, exin (mem_i 136 (by decide +kernel)), tb0 (mem_i 18 (by decide +kernel)), mem_i 15 (by decide +kernel), exg_RX7_4, exb_RX7_4, exo_RX7_4, by decide +kernel, by decide +kernel, by decide +kernel, by decide +kernel, by decide +kernel⟩
theorem ml_RX7_202 : MV RX7 202 7 yX7_requireOn 2 := ⟨⟨by decide +kernel, by decide +kernel, by decide +kernel⟩, tb10 (mem_i 24 rfl), tb0 (mem_i 1 rfl), Or.inl (tb10 (mem_i 23 rfl)), RX7, TX7, 9, rfl, rfl, tb17 (mem_i 15 rfl)⟩
theorem fl_RX7_212 : FL RX7 212 4 3 (tyX4 3) := ⟨RX4, TX4, 4, tyX4, rfl, by decide, lyX4, tyX4_ok, nmX4, rfl, Or.inr ⟨_, nf0 (mem_i 9 rfl)⟩⟩
theorem fl_RX7_215 : FL RX7 215 4 1 (tyX4 1) := ⟨RX4, TX4, 4, tyX4, rfl, by decide, lyX4, tyX4_ok, nmX4, rfl, Or.inr ⟨_, nf0 (mem_i 5 rfl)⟩⟩
theorem thw_X7_holds_83 : ThW RX7 cX7_holds 83 4 := ⟨218, 220, 222, "a tie that is not in force", dX7_holds_83, dX7_holds_86, Or.inl ⟨dX7_holds_87, dX7_holds_89, dX7_holds_92⟩, exin (mem_i 136 (by decide +kernel)), tb0 (mem_i 18 (by decide +kernel)), mem_i 16 (by decide +kernel), exg_RX7_4, exb_RX7_4, exo_RX7_4, by decide +kernel, by decide +kernel, by decide +kernel, by decide +kernel, by decide +kernel⟩
theorem thw_X7_requireShape_15 : ThW RX7 cX7_requireShape 15 1 := ⟨64, 271, 68, "no such shape", dX7_requireShape_15, dX7_requireShape_18, Or.inr ⟨dX7_requireShape_19, dX7_requireShape_22, dX7_requireShape_25⟩, exin (mem_i 49 (by decide +kernel)), tb0 (mem_i 12 (by decide +kernel)), mem_i 6 (by decide +kernel), exg_RX7_1, exb_RX7_1, exo_RX7_1, by decide +kernel, by decide +kernel, by decide +kernel, by decide +kernel, by decide +kernel⟩
theorem ml_RX7_112 : MV RX7 112 7 yX7_requireShape 1 := ⟨⟨by decide +kernel, by decide +kernel, by decide +kernel⟩, tb8 (mem_i 10 rfl), tb0 (mem_i 1 rfl), Or.inl (tb8 (mem_i 9 rfl)), RX7, TX7, 9, rfl, rfl, tb17 (mem_i 2 rfl)⟩
theorem thw_X7_lay_32 : ThW RX7 cX7_lay 32 2 := ⟨119, 121, 123, "no such kind, or one shape twice", dX7_lay_32, dX7_lay_35, Or.inl ⟨dX7_lay_36, dX7_lay_38, dX7_lay_41⟩, exin (mem_i 100 (by decide +kernel)), tb0 (mem_i 13 (by decide +kernel)), mem_i 7 (by decide +kernel), exg_RX7_2, exb_RX7_2, exo_RX7_2, by decide +kernel, by decide +kernel, by decide +kernel, by decide +kernel, by decide +kernel⟩
theorem ml_RX7_127 : MV RX7 127 4 yX4_draft 3 := ⟨⟨by decide +kernel, by decide +kernel, by decide +kernel⟩, tb8 (mem_i 24 rfl), tb0 (mem_i 3 rfl), Or.inr ⟨_, nf1 (mem_i 23 rfl)⟩, RX4, TX4, 4, rfl, rfl, tb17 (mem_i 5 rfl)⟩
theorem fp_4_0 : FP 4 0 := fun C T N h => by cases h; rfl
theorem thw_X7_lay_58 : ThW RX7 cX7_lay 58 3 := ⟨71, 125, 75, "there are 12 rules", dX7_lay_58, dX7_lay_61, Or.inl ⟨dX7_lay_62, dX7_lay_64, dX7_lay_67⟩, exin (mem_i 114 (by decide +kernel)), tb0 (mem_i 14 (by decide +kernel)), mem_i 8 (by decide +kernel), exg_RX7_3, exb_RX7_3, exo_RX7_3, by decide +kernel, by decide +kernel, by decide +kernel, by decide +kernel, by decide +kernel⟩
theorem fp_2_1 : FP 2 1 := fun C T N h => by cases h; rfl
theorem ml_RX7_115 : MV RX7 115 3 yX3_changedShapes 0 := ⟨⟨by decide +kernel, by decide +kernel, by decide +kernel⟩, tb8 (mem_i 12 rfl), tb0 (mem_i 5 rfl), Or.inr ⟨_, nf1 (mem_i 20 rfl)⟩, RX3, TX3, 4, rfl, rfl, tb17 (mem_i 3 rfl)⟩
theorem thw_X7_requireWhat_9 : ThW RX7 cX7_requireWhat 9 2 := ⟨119, 285, 123, "what is out of range", dX7_requireWhat_9, dX7_requireWhat_12, Or.inr ⟨dX7_requireWhat_13, dX7_requireWhat_16, dX7_requireWhat_19⟩, exin (mem_i 100 (by decide +kernel)), tb0 (mem_i 13 (by decide +kernel)), mem_i 14 (by decide +kernel), exg_RX7_2, exb_RX7_2, exo_RX7_2, by decide +kernel, by decide +kernel, by decide +kernel, by decide +kernel, by decide +kernel⟩
theorem ml_RX7_199 : MV RX7 199 7 yX7_requireWhat 1 := ⟨⟨by decide +kernel, by decide +kernel, by decide +kernel⟩, tb10 (mem_i 21 rfl), tb0 (mem_i 1 rfl), Or.inl (tb10 (mem_i 20 rfl)), RX7, TX7, 9, rfl, rfl, tb17 (mem_i 14 rfl)⟩
theorem ml_RX7_206 : MV RX7 206 0 yX0_numberOf 2 := ⟨⟨by decide +kernel, by decide +kernel, by decide +kernel⟩, tb6 (mem_i 24 rfl), tb0 (mem_i 6 rfl), Or.inr ⟨_, nf2 (mem_i 2 rfl)⟩, RX0, TX0, 7, rfl, rfl, tb16 (mem_i 19 rfl)⟩
theorem ml_RX7_176 : MV RX7 176 6 yX6_branchOf 2 := ⟨⟨by decide +kernel, by decide +kernel, by decide +kernel⟩, tb10 (mem_i 5 rfl), tb0 (mem_i 4 rfl), Or.inr ⟨_, nf2 (mem_i 1 rfl)⟩, RX6, TX6, 7, rfl, rfl, tb17 (mem_i 12 rfl)⟩
theorem thw_X7_on_20 : ThW RX7 cX7_on 20 1 := ⟨64, 180, 68, "no such branch", dX7_on_20, dX7_on_23, Or.inl ⟨dX7_on_24, dX7_on_26, dX7_on_29⟩, exin (mem_i 49 (by decide +kernel)), tb0 (mem_i 12 (by decide +kernel)), mem_i 11 (by decide +kernel), exg_RX7_1, exb_RX7_1, exo_RX7_1, by decide +kernel, by decide +kernel, by decide +kernel, by decide +kernel, by decide +kernel⟩
theorem ml_RX7_230 : MV RX7 230 0 yX0_groupOf 2 := ⟨⟨by decide +kernel, by decide +kernel, by decide +kernel⟩, tb6 (mem_i 16 rfl), tb0 (mem_i 6 rfl), Or.inr ⟨_, nf2 (mem_i 4 rfl)⟩, RX0, TX0, 7, rfl, rfl, tb16 (mem_i 17 rfl)⟩
theorem thw_X7_spell_10 : ThW RX7 cX7_spell 10 1 := ⟨64, 66, 68, "no such letter", dX7_spell_10, dX7_spell_13, Or.inl ⟨dX7_spell_14, dX7_spell_16, dX7_spell_19⟩, exin (mem_i 49 (by decide +kernel)), tb0 (mem_i 12 (by decide +kernel)), mem_i 12 (by decide +kernel), exg_RX7_1, exb_RX7_1, exo_RX7_1, by decide +kernel, by decide +kernel, by decide +kernel, by decide +kernel, by decide +kernel⟩
theorem ml_RX7_76 : MS RX7 76 yX7_put 3 := ⟨⟨by decide +kernel, by decide +kernel, by decide +kernel⟩, tb5 (mem_i 14 rfl), tb0 (mem_i 1 rfl), Or.inl (tb10 (mem_i 14 rfl))⟩
theorem thw_X7_spell_28 : ThW RX7 cX7_spell 28 3 := ⟨71, 73, 75, "the text has 5 letters", dX7_spell_28, dX7_spell_31, Or.inl ⟨dX7_spell_32, dX7_spell_34, dX7_spell_37⟩, exin (mem_i 114 (by decide +kernel)), tb0 (mem_i 14 (by decide +kernel)), mem_i 13 (by decide +kernel), exg_RX7_3, exb_RX7_3, exo_RX7_3, by decide +kernel, by decide +kernel, by decide +kernel, by decide +kernel, by decide +kernel⟩
def f_X7_acts  (S : HS) : Option (Int32) :=
some (S.1 9 0)
def rm_X7_acts : Room := { frames := 0, cells := 0, slots := 0, locals := 0 }
set_option maxRecDepth 100000 in
set_option maxHeartbeats 4000000 in
theorem c_X7_acts (l : Launch)   (S : HS) (out : Int32) (h : f_X7_acts  S = some out) : Ct l yX7_acts cX7_acts 1 (some .int) rm_X7_acts [vR 0] S (some (vI out)) S := by
  refine Ct.intro (own := RX7) (lv := [(0, vR 0)]) (by decide +kernel) rfl ⟨rfl, rfl⟩ rfl (Nat.le_of_ble_eq_true rfl) ?_
  intro G hG hR
  revert h
  unfold f_X7_acts
  refine s_aload_n hG dX7_acts_0 rfl ?_
  refine s_getC hG dX7_acts_1 fl_RX7_34 (rfl) ?_
  refine s_getI hG dX7_acts_4 fl_RX7_188 (rfl) ?_
  exact s_riP hR dX7_acts_7

def f_X7_requireDrawer_b9 (p1 : Int32)  (S : HS)  : Option (XO) :=
some (S, (1, (0 : Int32)))
def f_X7_requireDrawer (p1 : Int32) (S : HS) : Option (XO) :=
if p1 < 0 then
f_X7_requireDrawer_b9 p1  S
else
if p1 < (4 : Int32) then
some (S, ((0 : Nat), (0 : Int32)))
else
f_X7_requireDrawer_b9 p1  S
def rm_X7_requireDrawer : Room := { frames := 6, cells := 0, slots := 0, locals := 90 }
def rmT_X7_requireDrawer : Room := { frames := 6, cells := 1, slots := 6, locals := 90 }
set_option maxRecDepth 100000 in
set_option maxHeartbeats 4000000 in
theorem c_X7_requireDrawer (l : Launch) (hl9 : l.stackTraces = false) (p1 : Int32)  (S : HS) (out : XO) (h : f_X7_requireDrawer p1 S = some out) : CtX l yX7_requireDrawer cX7_requireDrawer 2 none rm_X7_requireDrawer rmT_X7_requireDrawer [vR 0, vI p1] S out := by
  refine CtX.intro hl9 (own := RX7) (lv := [(0, vR 0), (1, vI p1)]) (by decide +kernel) rfl ⟨rfl, rfl⟩ ⟨rfl, rfl, rfl, rfl⟩ rfl (Nat.le_of_ble_eq_true rfl) ?_
  intro R G hF hG hR hT hX
  revert h
  have hb9 : ∀ (S : HS), f_X7_requireDrawer_b9 p1 S  = some out → G 0 0 S [] 9 [] := by
    intro S
    unfold f_X7_requireDrawer_b9
    exact s_thr hT (by decide) thw_X7_requireDrawer_9 ⟨by rw [hF.1]; decide, by rw [hF.2]; decide⟩ (Nat.le_of_ble_eq_true rfl)
  unfold f_X7_requireDrawer
  refine s_iload_n hG dX7_requireDrawer_0 rfl ?_
  refine s_if_lt hG (tgt := 9) dX7_requireDrawer_1 (by decide) ?_ ?_
  · refine s_lv hG [] rfl ?_
    exact hb9 _
  · refine s_iload_n hG dX7_requireDrawer_4 rfl ?_
    refine s_iconst hG (v := (4 : Int32)) dX7_requireDrawer_5 (by decide) ?_
    refine s_icmp_lt hG (tgt := 20) dX7_requireDrawer_6 (by decide) ?_ ?_
    · exact s_xrv hR dX7_requireDrawer_20
    · refine s_lv hG [] rfl ?_
      exact hb9 _

def f_X7_requirePlace_b16 (p1 : Int32) (p2 : Int32)  (S : HS)  : Option (XO) :=
some (S, (2, (0 : Int32)))
def f_X7_requirePlace (p1 : Int32) (p2 : Int32) (S : HS) : Option (XO) :=
(f_X7_isInRange p1 (0 : Int32) S).bind (fun o2 =>
if o2 = 0 then
f_X7_requirePlace_b16 p1 p2  S
else
(f_X7_isInRange p2 (1 : Int32) S).bind (fun o10 =>
if o10 = 0 then
f_X7_requirePlace_b16 p1 p2  S
else
some (S, ((0 : Nat), (0 : Int32)))))
def rm_X7_requirePlace : Room := { frames := 6, cells := 0, slots := 0, locals := 90 }
def rmT_X7_requirePlace : Room := { frames := 6, cells := 1, slots := 6, locals := 90 }
set_option maxRecDepth 100000 in
set_option maxHeartbeats 4000000 in
theorem c_X7_requirePlace (l : Launch) (hl9 : l.stackTraces = false) (p1 : Int32) (p2 : Int32)  (S : HS) (out : XO) (h : f_X7_requirePlace p1 p2 S = some out) : CtX l yX7_requirePlace cX7_requirePlace 3 none rm_X7_requirePlace rmT_X7_requirePlace [vR 0, vI p1, vI p2] S out := by
  refine CtX.intro hl9 (own := RX7) (lv := [(0, vR 0), (1, vI p1), (2, vI p2)]) (by decide +kernel) rfl ⟨rfl, rfl⟩ ⟨rfl, rfl, rfl, rfl⟩ rfl (Nat.le_of_ble_eq_true rfl) ?_
  intro R G hF hG hR hT hX
  revert h
  have hb16 : ∀ (S : HS), f_X7_requirePlace_b16 p1 p2 S  = some out → G 0 0 S [] 16 [] := by
    intro S
    unfold f_X7_requirePlace_b16
    exact s_thr hT (by decide) thw_X7_requirePlace_16 ⟨by rw [hF.1]; decide, by rw [hF.2]; decide⟩ (Nat.le_of_ble_eq_true rfl)
  unfold f_X7_requirePlace
  refine s_iload_n hG dX7_requirePlace_0 rfl ?_
  refine s_iconst hG (v := (0 : Int32)) dX7_requirePlace_1 (by decide) ?_
  refine s_csP hG (as := [vI p1, vI (0 : Int32)]) (st := []) (rm := rm_X7_isInRange) dX7_requirePlace_2 ml_RX7_277 (tb5 (mem_i 8 rfl)) rfl ⟨rfl, rfl⟩ ⟨by rw [hF.1]; decide, by rw [hF.2]; decide⟩ (Nat.le_of_ble_eq_true rfl) ⟨Nat.zero_le _, Nat.zero_le _⟩ rfl (fun o h => c_X7_isInRange l _ _ _ o h) (fun o2 => ?_)
  refine s_if_eq hG (tgt := 16) dX7_requirePlace_5 (by decide) ?_ ?_
  · refine s_lv hG [] rfl ?_
    exact hb16 _
  · refine s_iload_n hG dX7_requirePlace_8 rfl ?_
    refine s_iconst hG (v := (1 : Int32)) dX7_requirePlace_9 (by decide) ?_
    refine s_csP hG (as := [vI p2, vI (1 : Int32)]) (st := []) (rm := rm_X7_isInRange) dX7_requirePlace_10 ml_RX7_277 (tb5 (mem_i 8 rfl)) rfl ⟨rfl, rfl⟩ ⟨by rw [hF.1]; decide, by rw [hF.2]; decide⟩ (Nat.le_of_ble_eq_true rfl) ⟨Nat.zero_le _, Nat.zero_le _⟩ rfl (fun o h => c_X7_isInRange l _ _ _ o h) (fun o10 => ?_)
    refine s_if_ne hG (tgt := 27) dX7_requirePlace_13 (by decide) ?_ ?_
    · exact s_xrv hR dX7_requirePlace_27
    · refine s_lv hG [] rfl ?_
      exact hb16 _

def f_X7_requireSize_b16 (p1 : Int32) (p2 : Int32)  (S : HS)  : Option (XO) :=
some (S, (2, (0 : Int32)))
def f_X7_requireSize (p1 : Int32) (p2 : Int32) (S : HS) : Option (XO) :=
(f_X7_isInRange p1 (2 : Int32) S).bind (fun o2 =>
if o2 = 0 then
f_X7_requireSize_b16 p1 p2  S
else
(f_X7_isInRange p2 (3 : Int32) S).bind (fun o10 =>
if o10 = 0 then
f_X7_requireSize_b16 p1 p2  S
else
some (S, ((0 : Nat), (0 : Int32)))))
def rm_X7_requireSize : Room := { frames := 6, cells := 0, slots := 0, locals := 90 }
def rmT_X7_requireSize : Room := { frames := 6, cells := 1, slots := 6, locals := 90 }
set_option maxRecDepth 100000 in
set_option maxHeartbeats 4000000 in
theorem c_X7_requireSize (l : Launch) (hl9 : l.stackTraces = false) (p1 : Int32) (p2 : Int32)  (S : HS) (out : XO) (h : f_X7_requireSize p1 p2 S = some out) : CtX l yX7_requireSize cX7_requireSize 3 none rm_X7_requireSize rmT_X7_requireSize [vR 0, vI p1, vI p2] S out := by
  refine CtX.intro hl9 (own := RX7) (lv := [(0, vR 0), (1, vI p1), (2, vI p2)]) (by decide +kernel) rfl ⟨rfl, rfl⟩ ⟨rfl, rfl, rfl, rfl⟩ rfl (Nat.le_of_ble_eq_true rfl) ?_
  intro R G hF hG hR hT hX
  revert h
  have hb16 : ∀ (S : HS), f_X7_requireSize_b16 p1 p2 S  = some out → G 0 0 S [] 16 [] := by
    intro S
    unfold f_X7_requireSize_b16
    exact s_thr hT (by decide) thw_X7_requireSize_16 ⟨by rw [hF.1]; decide, by rw [hF.2]; decide⟩ (Nat.le_of_ble_eq_true rfl)
  unfold f_X7_requireSize
  refine s_iload_n hG dX7_requireSize_0 rfl ?_
  refine s_iconst hG (v := (2 : Int32)) dX7_requireSize_1 (by decide) ?_
  refine s_csP hG (as := [vI p1, vI (2 : Int32)]) (st := []) (rm := rm_X7_isInRange) dX7_requireSize_2 ml_RX7_277 (tb5 (mem_i 8 rfl)) rfl ⟨rfl, rfl⟩ ⟨by rw [hF.1]; decide, by rw [hF.2]; decide⟩ (Nat.le_of_ble_eq_true rfl) ⟨Nat.zero_le _, Nat.zero_le _⟩ rfl (fun o h => c_X7_isInRange l _ _ _ o h) (fun o2 => ?_)
  refine s_if_eq hG (tgt := 16) dX7_requireSize_5 (by decide) ?_ ?_
  · refine s_lv hG [] rfl ?_
    exact hb16 _
  · refine s_iload_n hG dX7_requireSize_8 rfl ?_
    refine s_iconst hG (v := (3 : Int32)) dX7_requireSize_9 (by decide) ?_
    refine s_csP hG (as := [vI p2, vI (3 : Int32)]) (st := []) (rm := rm_X7_isInRange) dX7_requireSize_10 ml_RX7_277 (tb5 (mem_i 8 rfl)) rfl ⟨rfl, rfl⟩ ⟨by rw [hF.1]; decide, by rw [hF.2]; decide⟩ (Nat.le_of_ble_eq_true rfl) ⟨Nat.zero_le _, Nat.zero_le _⟩ rfl (fun o h => c_X7_isInRange l _ _ _ o h) (fun o10 => ?_)
    refine s_if_ne hG (tgt := 27) dX7_requireSize_13 (by decide) ?_ ?_
    · exact s_xrv hR dX7_requireSize_27
    · refine s_lv hG [] rfl ?_
      exact hb16 _

def f_X7_doDraft_b29 (p1 : Int32)  (S : HS)  : Option (XO) :=
some (S, (3, (0 : Int32)))
def f_X7_doDraft (p1 : Int32) (S : HS) : Option (XO) :=
if (60 : Int32) ≤ (S.1 9 0) then
f_X7_doDraft_b29 p1  S
else
(f_X3_tryAct 16 (S.1 9 0) S).bind (fun o23 =>
if o23.2 = 0 then
f_X7_doDraft_b29 p1  o23.1
else
(f_X6_hang p1 o23.1).bind (fun o45 =>
some (o45, ((0 : Nat), (0 : Int32)))))
def rm_X7_doDraft : Room := { frames := 6, cells := 0, slots := 0, locals := 163 }
def rmT_X7_doDraft : Room := { frames := 6, cells := 1, slots := 6, locals := 163 }
set_option maxRecDepth 100000 in
set_option maxHeartbeats 4000000 in
theorem c_X7_doDraft (l : Launch) (hl9 : l.stackTraces = false) (p1 : Int32)  (S : HS) (out : XO) (h : f_X7_doDraft p1 S = some out) : CtX l yX7_doDraft cX7_doDraft 2 none rm_X7_doDraft rmT_X7_doDraft [vR 0, vI p1] S out := by
  refine CtX.intro hl9 (own := RX7) (lv := [(0, vR 0), (1, vI p1)]) (by decide +kernel) rfl ⟨rfl, rfl⟩ ⟨rfl, rfl, rfl, rfl⟩ rfl (Nat.le_of_ble_eq_true rfl) ?_
  intro R G hF hG hR hT hX
  revert h
  have hb29 : ∀ (S : HS), f_X7_doDraft_b29 p1 S  = some out → G 0 0 S [] 29 [] := by
    intro S
    unfold f_X7_doDraft_b29
    exact s_thr hT (by decide) thw_X7_doDraft_29 ⟨by rw [hF.1]; decide, by rw [hF.2]; decide⟩ (Nat.le_of_ble_eq_true rfl)
  unfold f_X7_doDraft
  refine s_aload_n hG dX7_doDraft_0 rfl ?_
  refine s_getC hG dX7_doDraft_1 fl_RX7_34 (rfl) ?_
  refine s_getI hG dX7_doDraft_4 fl_RX7_188 (rfl) ?_
  refine s_bipush hG (v := (60 : Int32)) dX7_doDraft_7 (by decide) ?_
  refine s_icmp_ge hG (tgt := 29) dX7_doDraft_9 (by decide) ?_ ?_
  · refine s_lv hG [] rfl ?_
    exact hb29 _
  · refine s_aload_n hG dX7_doDraft_12 rfl ?_
    refine s_getC hG dX7_doDraft_13 fl_RX7_43 (rfl) ?_
    refine s_aload_n hG dX7_doDraft_16 rfl ?_
    refine s_getC hG dX7_doDraft_17 fl_RX7_34 (rfl) ?_
    refine s_getI hG dX7_doDraft_20 fl_RX7_188 (rfl) ?_
    refine s_cvI hG (as := [vI (S.1 9 0)]) (st := []) (rm := rm_X3_tryAct) dX7_doDraft_23 ml_RX7_293 (rfl) (tb5 (mem_i 24 rfl)) rfl ⟨rfl, rfl⟩ ⟨by rw [hF.1]; decide, by rw [hF.2]; decide⟩ (Nat.le_of_ble_eq_true rfl) ⟨Nat.zero_le _, Nat.zero_le _⟩ rfl (fun o h => c_X3_tryAct l _ _ (rfl) _ o h) (fun o23 => ?_)
    refine s_if_ne hG (tgt := 40) dX7_doDraft_26 (by decide) ?_ ?_
    · refine s_aload_n hG dX7_doDraft_40 rfl ?_
      refine s_getC hG dX7_doDraft_41 fl_RX7_34 (rfl) ?_
      refine s_iload_n hG dX7_doDraft_44 rfl ?_
      refine s_cvV hG (as := [vI p1]) (st := []) (rm := rm_X6_hang) dX7_doDraft_45 ml_RX7_298 (rfl) (tb7 (mem_i 27 rfl)) rfl ⟨rfl, rfl⟩ ⟨by rw [hF.1]; decide, by rw [hF.2]; decide⟩ (Nat.le_of_ble_eq_true rfl) ⟨Nat.zero_le _, Nat.zero_le _⟩ rfl (fun o h => c_X6_hang l _ _ o h) (fun o45 => ?_)
      exact s_xrv hR dX7_doDraft_48
    · refine s_lv hG [] rfl ?_
      exact hb29 _

def f_X7_addBox (p1 : Int32) (p2 : Int32) (p3 : Int32) (p4 : Int32) (p5 : Int32) (S : HS) : Option (XO) :=
(f_X7_requireDrawer p1 S).bind (fun o2 => if o2.2.1 = 0 then
(fun (o2 : XO) =>
(f_X7_requirePlace p2 p3 o2.1).bind (fun o8 => if o8.2.1 = 0 then
(fun (o8 : XO) =>
(f_X7_requireSize p4 p5 o8.1).bind (fun o16 => if o16.2.1 = 0 then
(fun (o16 : XO) =>
if (o16.1.1 2 0) < (10 : Int32) then
(f_X6_draft (0 : Int32) (o16.1.1 2 0) p2 p3 p4 p5 o16.1).bind (fun o58 =>
(f_X5_draft 1 (0 : Int32) (0 : Int32) o58).bind (fun o71 =>
(f_X7_doDraft p1 o71).bind (fun o76 => if o76.2.1 = 0 then
(fun (o76 : XO) =>
some ((sI o76.1 2 0 ((o76.1.1 2 0) + (1 : Int32))), ((0 : Nat), (o16.1.1 2 0)))) o76
else some (o76.1, (o76.2.1, 0)))))
else
some (o16.1, (3, (0 : Int32)))) o16
else some (o16.1, (o16.2.1, 0)))) o8
else some (o8.1, (o8.2.1, 0)))) o2
else some (o2.1, (o2.2.1, 0)))
def rm_X7_addBox : Room := { frames := 7, cells := 0, slots := 0, locals := 184 }
def rmT_X7_addBox : Room := { frames := 7, cells := 1, slots := 6, locals := 184 }
set_option maxRecDepth 100000 in
set_option maxHeartbeats 4000000 in
theorem c_X7_addBox (l : Launch) (hl9 : l.stackTraces = false) (p1 : Int32) (p2 : Int32) (p3 : Int32) (p4 : Int32) (p5 : Int32)  (S : HS) (out : XO) (h : f_X7_addBox p1 p2 p3 p4 p5 S = some out) : CtX l yX7_addBox cX7_addBox 7 (some .int) rm_X7_addBox rmT_X7_addBox [vR 0, vI p1, vI p2, vI p3, vI p4, vI p5] S out := by
  refine CtX.intro hl9 (own := RX7) (lv := [(0, vR 0), (1, vI p1), (2, vI p2), (3, vI p3), (4, vI p4), (5, vI p5)]) (by decide +kernel) rfl ⟨rfl, rfl⟩ ⟨rfl, rfl, rfl, rfl⟩ rfl (Nat.le_of_ble_eq_true rfl) ?_
  intro R G hF hG hR hT hX
  revert h
  unfold f_X7_addBox
  refine s_aload_n hG dX7_addBox_0 rfl ?_
  refine s_iload_n hG dX7_addBox_1 rfl ?_
  refine s_xV hG hX (as := [vI p1]) (st := []) (rm := rm_X7_requireDrawer) (rmT := rmT_X7_requireDrawer) rfl dX7_addBox_2 ml_RX7_84 (tb4 (mem_i 29 rfl)) (rfl) (tb5 (mem_i 1 rfl)) rfl ⟨rfl, rfl⟩ ⟨rfl, rfl, rfl, rfl⟩ ⟨by rw [hF.1]; decide, by rw [hF.2]; decide⟩ (Nat.le_of_ble_eq_true rfl) rfl (fun o h => c_X7_requireDrawer l hl9 _ _ o h) (fun o2 => ?_)
  refine s_aload_n hG dX7_addBox_5 rfl ?_
  refine s_iload_n hG dX7_addBox_6 rfl ?_
  refine s_iload_n hG dX7_addBox_7 rfl ?_
  refine s_xV hG hX (as := [vI p2, vI p3]) (st := []) (rm := rm_X7_requirePlace) (rmT := rmT_X7_requirePlace) rfl dX7_addBox_8 ml_RX7_88 (tb5 (mem_i 3 rfl)) (rfl) (tb5 (mem_i 5 rfl)) rfl ⟨rfl, rfl⟩ ⟨rfl, rfl, rfl, rfl⟩ ⟨by rw [hF.1]; decide, by rw [hF.2]; decide⟩ (Nat.le_of_ble_eq_true rfl) rfl (fun o h => c_X7_requirePlace l hl9 _ _ _ o h) (fun o8 => ?_)
  refine s_aload_n hG dX7_addBox_11 rfl ?_
  refine s_iload hG dX7_addBox_12 rfl ?_
  refine s_iload hG dX7_addBox_14 rfl ?_
  refine s_xV hG hX (as := [vI p4, vI p5]) (st := []) (rm := rm_X7_requireSize) (rmT := rmT_X7_requireSize) rfl dX7_addBox_16 ml_RX7_92 (tb5 (mem_i 9 rfl)) (rfl) (tb5 (mem_i 11 rfl)) rfl ⟨rfl, rfl⟩ ⟨rfl, rfl, rfl, rfl⟩ ⟨by rw [hF.1]; decide, by rw [hF.2]; decide⟩ (Nat.le_of_ble_eq_true rfl) rfl (fun o h => c_X7_requireSize l hl9 _ _ _ o h) (fun o16 => ?_)
  refine s_aload_n hG dX7_addBox_19 rfl ?_
  refine s_getC hG dX7_addBox_20 fl_RX7_20 (rfl) ?_
  refine s_getI hG dX7_addBox_23 fl_RX7_95 (rfl) ?_
  refine s_istore hG (lv' := [(6, vI (o16.1.1 2 0)), (0, vR 0), (1, vI p1), (2, vI p2), (3, vI p3), (4, vI p4), (5, vI p5)]) dX7_addBox_26 (by decide) rfl ?_
  refine s_iload hG dX7_addBox_28 rfl ?_
  refine s_bipush hG (v := (10 : Int32)) dX7_addBox_30 (by decide) ?_
  refine s_icmp_lt hG (tgt := 45) dX7_addBox_32 (by decide) ?_ ?_
  · refine s_aload_n hG dX7_addBox_45 rfl ?_
    refine s_getC hG dX7_addBox_46 fl_RX7_34 (rfl) ?_
    refine s_iconst hG (v := (0 : Int32)) dX7_addBox_49 (by decide) ?_
    refine s_iload hG dX7_addBox_50 rfl ?_
    refine s_iload_n hG dX7_addBox_52 rfl ?_
    refine s_iload_n hG dX7_addBox_53 rfl ?_
    refine s_iload hG dX7_addBox_54 rfl ?_
    refine s_iload hG dX7_addBox_56 rfl ?_
    refine s_cvV hG (as := [vI (0 : Int32), vI (o16.1.1 2 0), vI p2, vI p3, vI p4, vI p5]) (st := []) (rm := rm_X6_draft) dX7_addBox_58 ml_RX7_100 (rfl) (tb5 (mem_i 13 rfl)) rfl ⟨rfl, rfl⟩ ⟨by rw [hF.1]; decide, by rw [hF.2]; decide⟩ (Nat.le_of_ble_eq_true rfl) ⟨Nat.zero_le _, Nat.zero_le _⟩ rfl (fun o h => c_X6_draft l _ _ _ _ _ _ _ o h) (fun o58 => ?_)
    refine s_aload_n hG dX7_addBox_61 rfl ?_
    refine s_getC hG dX7_addBox_62 fl_RX7_20 (rfl) ?_
    refine s_aload_n hG dX7_addBox_65 rfl ?_
    refine s_getC hG dX7_addBox_66 fl_RX7_9 (rfl) ?_
    refine s_iconst hG (v := (0 : Int32)) dX7_addBox_69 (by decide) ?_
    refine s_iconst hG (v := (0 : Int32)) dX7_addBox_70 (by decide) ?_
    refine s_cvV hG (as := [vR 1, vI (0 : Int32), vI (0 : Int32)]) (st := []) (rm := rm_X5_draft) dX7_addBox_71 ml_RX7_104 (rfl) (tb5 (mem_i 17 rfl)) rfl ⟨rfl, rfl⟩ ⟨by rw [hF.1]; decide, by rw [hF.2]; decide⟩ (Nat.le_of_ble_eq_true rfl) ⟨Nat.zero_le _, Nat.zero_le _⟩ rfl (fun o h => c_X5_draft l _ _ _ (rfl) _ o h) (fun o71 => ?_)
    refine s_aload_n hG dX7_addBox_74 rfl ?_
    refine s_iload_n hG dX7_addBox_75 rfl ?_
    refine s_xV hG hX (as := [vI p1]) (st := []) (rm := rm_X7_doDraft) (rmT := rmT_X7_doDraft) rfl dX7_addBox_76 ml_RX7_107 (tb5 (mem_i 20 rfl)) (rfl) (tb5 (mem_i 22 rfl)) rfl ⟨rfl, rfl⟩ ⟨rfl, rfl, rfl, rfl⟩ ⟨by rw [hF.1]; decide, by rw [hF.2]; decide⟩ (Nat.le_of_ble_eq_true rfl) rfl (fun o h => c_X7_doDraft l hl9 _ _ o h) (fun o76 => ?_)
    refine s_aload_n hG dX7_addBox_79 rfl ?_
    refine s_getC hG dX7_addBox_80 fl_RX7_20 (rfl) ?_
    refine s_dup hG dX7_addBox_83 rfl ?_
    refine s_getI hG dX7_addBox_84 fl_RX7_95 (rfl) ?_
    refine s_iconst hG (v := (1 : Int32)) dX7_addBox_87 (by decide) ?_
    refine s_iadd hG dX7_addBox_88 ?_
    refine s_putI hG dX7_addBox_89 fl_RX7_95 fp_5_0 (rfl) ⟨rfl, rfl⟩ ?_
    refine s_iload hG dX7_addBox_92 rfl ?_
    exact s_xri hR dX7_addBox_94
  · exact s_thr hT (by decide) thw_X7_addBox_35 ⟨by rw [hF.1]; decide, by rw [hF.2]; decide⟩ (Nat.le_of_ble_eq_true rfl)

def f_X7_addLabel_b34 (p1 : Int32) (p2 : Int32) (p3 : Int32) (p4 : Int32)  (S : HS)  : Option (XO) :=
some (S, (3, (0 : Int32)))
def f_X7_addLabel (p1 : Int32) (p2 : Int32) (p3 : Int32) (p4 : Int32) (S : HS) : Option (XO) :=
(f_X7_requireDrawer p1 S).bind (fun o2 => if o2.2.1 = 0 then
(fun (o2 : XO) =>
(f_X7_requirePlace p2 p3 o2.1).bind (fun o8 => if o8.2.1 = 0 then
(fun (o8 : XO) =>
if (o8.1.1 0 1) = 0 then
f_X7_addLabel_b34 p1 p2 p3 p4  o8.1
else
if (o8.1.1 2 0) < (10 : Int32) then
(f_X6_draft (0 : Int32) (o8.1.1 2 0) p2 p3 ((2 : Int32) * (o8.1.1 0 1)) (2 : Int32) o8.1).bind (fun o60 =>
(f_X5_draft 1 (o60.1 0 1) p4 o60).bind (fun o77 =>
(f_X7_doDraft p1 o77).bind (fun o82 => if o82.2.1 = 0 then
(fun (o82 : XO) =>
some ((sI o82.1 2 0 ((o82.1.1 2 0) + (1 : Int32))), ((0 : Nat), (o8.1.1 2 0)))) o82
else some (o82.1, (o82.2.1, 0)))))
else
f_X7_addLabel_b34 p1 p2 p3 p4  o8.1) o8
else some (o8.1, (o8.2.1, 0)))) o2
else some (o2.1, (o2.2.1, 0)))
def rm_X7_addLabel : Room := { frames := 7, cells := 0, slots := 0, locals := 184 }
def rmT_X7_addLabel : Room := { frames := 7, cells := 1, slots := 6, locals := 184 }
set_option maxRecDepth 100000 in
set_option maxHeartbeats 4000000 in
theorem c_X7_addLabel (l : Launch) (hl9 : l.stackTraces = false) (p1 : Int32) (p2 : Int32) (p3 : Int32) (p4 : Int32)  (S : HS) (out : XO) (h : f_X7_addLabel p1 p2 p3 p4 S = some out) : CtX l yX7_addLabel cX7_addLabel 6 (some .int) rm_X7_addLabel rmT_X7_addLabel [vR 0, vI p1, vI p2, vI p3, vI p4] S out := by
  refine CtX.intro hl9 (own := RX7) (lv := [(0, vR 0), (1, vI p1), (2, vI p2), (3, vI p3), (4, vI p4)]) (by decide +kernel) rfl ⟨rfl, rfl⟩ ⟨rfl, rfl, rfl, rfl⟩ rfl (Nat.le_of_ble_eq_true rfl) ?_
  intro R G hF hG hR hT hX
  revert h
  have hb34 : ∀ (S : HS), f_X7_addLabel_b34 p1 p2 p3 p4 S  = some out → G 0 0 S [] 34 [] := by
    intro S
    unfold f_X7_addLabel_b34
    exact s_thr hT (by decide) thw_X7_addLabel_34 ⟨by rw [hF.1]; decide, by rw [hF.2]; decide⟩ (Nat.le_of_ble_eq_true rfl)
  unfold f_X7_addLabel
  refine s_aload_n hG dX7_addLabel_0 rfl ?_
  refine s_iload_n hG dX7_addLabel_1 rfl ?_
  refine s_xV hG hX (as := [vI p1]) (st := []) (rm := rm_X7_requireDrawer) (rmT := rmT_X7_requireDrawer) rfl dX7_addLabel_2 ml_RX7_84 (tb4 (mem_i 29 rfl)) (rfl) (tb5 (mem_i 1 rfl)) rfl ⟨rfl, rfl⟩ ⟨rfl, rfl, rfl, rfl⟩ ⟨by rw [hF.1]; decide, by rw [hF.2]; decide⟩ (Nat.le_of_ble_eq_true rfl) rfl (fun o h => c_X7_requireDrawer l hl9 _ _ o h) (fun o2 => ?_)
  refine s_aload_n hG dX7_addLabel_5 rfl ?_
  refine s_iload_n hG dX7_addLabel_6 rfl ?_
  refine s_iload_n hG dX7_addLabel_7 rfl ?_
  refine s_xV hG hX (as := [vI p2, vI p3]) (st := []) (rm := rm_X7_requirePlace) (rmT := rmT_X7_requirePlace) rfl dX7_addLabel_8 ml_RX7_88 (tb5 (mem_i 3 rfl)) (rfl) (tb5 (mem_i 5 rfl)) rfl ⟨rfl, rfl⟩ ⟨rfl, rfl, rfl, rfl⟩ ⟨by rw [hF.1]; decide, by rw [hF.2]; decide⟩ (Nat.le_of_ble_eq_true rfl) rfl (fun o h => c_X7_requirePlace l hl9 _ _ _ o h) (fun o8 => ?_)
  refine s_aload_n hG dX7_addLabel_11 rfl ?_
  refine s_getC hG dX7_addLabel_12 fl_RX7_20 (rfl) ?_
  refine s_getI hG dX7_addLabel_15 fl_RX7_95 (rfl) ?_
  refine s_istore hG (lv' := [(5, vI (o8.1.1 2 0)), (0, vR 0), (1, vI p1), (2, vI p2), (3, vI p3), (4, vI p4)]) dX7_addLabel_18 (by decide) rfl ?_
  refine s_aload_n hG dX7_addLabel_20 rfl ?_
  refine s_getI hG dX7_addLabel_21 fl_RX7_13 (rfl) ?_
  refine s_if_eq hG (tgt := 34) dX7_addLabel_24 (by decide) ?_ ?_
  · refine s_lv hG [] rfl ?_
    exact hb34 _
  · refine s_iload hG dX7_addLabel_27 rfl ?_
    refine s_bipush hG (v := (10 : Int32)) dX7_addLabel_29 (by decide) ?_
    refine s_icmp_lt hG (tgt := 44) dX7_addLabel_31 (by decide) ?_ ?_
    · refine s_aload_n hG dX7_addLabel_44 rfl ?_
      refine s_getC hG dX7_addLabel_45 fl_RX7_34 (rfl) ?_
      refine s_iconst hG (v := (0 : Int32)) dX7_addLabel_48 (by decide) ?_
      refine s_iload hG dX7_addLabel_49 rfl ?_
      refine s_iload_n hG dX7_addLabel_51 rfl ?_
      refine s_iload_n hG dX7_addLabel_52 rfl ?_
      refine s_iconst hG (v := (2 : Int32)) dX7_addLabel_53 (by decide) ?_
      refine s_aload_n hG dX7_addLabel_54 rfl ?_
      refine s_getI hG dX7_addLabel_55 fl_RX7_13 (rfl) ?_
      refine s_imul hG dX7_addLabel_58 ?_
      refine s_iconst hG (v := (2 : Int32)) dX7_addLabel_59 (by decide) ?_
      refine s_cvV hG (as := [vI (0 : Int32), vI (o8.1.1 2 0), vI p2, vI p3, vI ((2 : Int32) * (o8.1.1 0 1)), vI (2 : Int32)]) (st := []) (rm := rm_X6_draft) dX7_addLabel_60 ml_RX7_100 (rfl) (tb5 (mem_i 13 rfl)) rfl ⟨rfl, rfl⟩ ⟨by rw [hF.1]; decide, by rw [hF.2]; decide⟩ (Nat.le_of_ble_eq_true rfl) ⟨Nat.zero_le _, Nat.zero_le _⟩ rfl (fun o h => c_X6_draft l _ _ _ _ _ _ _ o h) (fun o60 => ?_)
      refine s_aload_n hG dX7_addLabel_63 rfl ?_
      refine s_getC hG dX7_addLabel_64 fl_RX7_20 (rfl) ?_
      refine s_aload_n hG dX7_addLabel_67 rfl ?_
      refine s_getC hG dX7_addLabel_68 fl_RX7_9 (rfl) ?_
      refine s_aload_n hG dX7_addLabel_71 rfl ?_
      refine s_getI hG dX7_addLabel_72 fl_RX7_13 (rfl) ?_
      refine s_iload hG dX7_addLabel_75 rfl ?_
      refine s_cvV hG (as := [vR 1, vI (o60.1 0 1), vI p4]) (st := []) (rm := rm_X5_draft) dX7_addLabel_77 ml_RX7_104 (rfl) (tb5 (mem_i 17 rfl)) rfl ⟨rfl, rfl⟩ ⟨by rw [hF.1]; decide, by rw [hF.2]; decide⟩ (Nat.le_of_ble_eq_true rfl) ⟨Nat.zero_le _, Nat.zero_le _⟩ rfl (fun o h => c_X5_draft l _ _ _ (rfl) _ o h) (fun o77 => ?_)
      refine s_aload_n hG dX7_addLabel_80 rfl ?_
      refine s_iload_n hG dX7_addLabel_81 rfl ?_
      refine s_xV hG hX (as := [vI p1]) (st := []) (rm := rm_X7_doDraft) (rmT := rmT_X7_doDraft) rfl dX7_addLabel_82 ml_RX7_107 (tb5 (mem_i 20 rfl)) (rfl) (tb5 (mem_i 22 rfl)) rfl ⟨rfl, rfl⟩ ⟨rfl, rfl, rfl, rfl⟩ ⟨by rw [hF.1]; decide, by rw [hF.2]; decide⟩ (Nat.le_of_ble_eq_true rfl) rfl (fun o h => c_X7_doDraft l hl9 _ _ o h) (fun o82 => ?_)
      refine s_aload_n hG dX7_addLabel_85 rfl ?_
      refine s_getC hG dX7_addLabel_86 fl_RX7_20 (rfl) ?_
      refine s_dup hG dX7_addLabel_89 rfl ?_
      refine s_getI hG dX7_addLabel_90 fl_RX7_95 (rfl) ?_
      refine s_iconst hG (v := (1 : Int32)) dX7_addLabel_93 (by decide) ?_
      refine s_iadd hG dX7_addLabel_94 ?_
      refine s_putI hG dX7_addLabel_95 fl_RX7_95 fp_5_0 (rfl) ⟨rfl, rfl⟩ ?_
      refine s_iload hG dX7_addLabel_98 rfl ?_
      exact s_xri hR dX7_addLabel_100
    · refine s_lv hG [] rfl ?_
      exact hb34 _

def f_X7_ask  (S : HS) : Option (XO) :=
if (S.1 30 0) < (10 : Int32) then
rf (S.2.2 16 1) 0 (fun b32 =>
(f_X1_show b32 S).bind (fun o39 =>
(f_X6_counting o39).bind (fun o54 =>
(f_X2_keep o54 o39).bind (fun o57 =>
some (o57, ((0 : Nat), (S.1 30 0)))))))
else
some (S, (3, (0 : Int32)))
def rm_X7_ask : Room := { frames := 6, cells := 0, slots := 0, locals := 113 }
def rmT_X7_ask : Room := { frames := 6, cells := 1, slots := 6, locals := 113 }
set_option maxRecDepth 100000 in
set_option maxHeartbeats 4000000 in
theorem c_X7_ask (l : Launch) (hl9 : l.stackTraces = false)   (S : HS) (out : XO) (h : f_X7_ask  S = some out) : CtX l yX7_ask cX7_ask 2 (some .int) rm_X7_ask rmT_X7_ask [vR 0] S out := by
  refine CtX.intro hl9 (own := RX7) (lv := [(0, vR 0)]) (by decide +kernel) rfl ⟨rfl, rfl⟩ ⟨rfl, rfl, rfl, rfl⟩ rfl (Nat.le_of_ble_eq_true rfl) ?_
  intro R G hF hG hR hT hX
  revert h
  unfold f_X7_ask
  refine s_aload_n hG dX7_ask_0 rfl ?_
  refine s_getC hG dX7_ask_1 fl_RX7_53 (rfl) ?_
  refine s_getI hG dX7_ask_4 fl_RX7_233 (rfl) ?_
  refine s_istore_n hG (lv' := [(1, vI (S.1 30 0)), (0, vR 0)]) dX7_ask_7 (by decide) rfl ?_
  refine s_iload_n hG dX7_ask_8 rfl ?_
  refine s_bipush hG (v := (10 : Int32)) dX7_ask_9 (by decide) ?_
  refine s_icmp_lt hG (tgt := 24) dX7_ask_11 (by decide) ?_ ?_
  · refine s_aload_n hG dX7_ask_24 rfl ?_
    refine s_getC hG dX7_ask_25 fl_RX7_60 (rfl) ?_
    refine s_aload_n hG dX7_ask_28 rfl ?_
    refine s_getC hG dX7_ask_29 fl_RX7_43 (rfl) ?_
    refine s_getR hG (cj := 0) dX7_ask_32 fl_RX7_133 (rfl) (fun b32 hb_32 => ?_)
    refine s_aload_n hG dX7_ask_35 rfl ?_
    refine s_getC hG dX7_ask_36 fl_RX7_20 (rfl) ?_
    refine s_cvV hG (as := [vR b32, vR 2]) (st := []) (rm := rm_X1_show) dX7_ask_39 ml_RX7_238 (rfl) (tb13 (mem_i 16 rfl)) rfl ⟨rfl, rfl⟩ ⟨by rw [hF.1]; decide, by rw [hF.2]; decide⟩ (Nat.le_of_ble_eq_true rfl) ⟨Nat.zero_le _, Nat.zero_le _⟩ rfl (fun o h => c_X1_show l _ (hb_32) _ o h) (fun o39 => ?_)
    refine s_aload_n hG dX7_ask_42 rfl ?_
    refine s_getC hG dX7_ask_43 fl_RX7_53 (rfl) ?_
    refine s_aload_n hG dX7_ask_46 rfl ?_
    refine s_getC hG dX7_ask_47 fl_RX7_60 (rfl) ?_
    refine s_aload_n hG dX7_ask_50 rfl ?_
    refine s_getC hG dX7_ask_51 fl_RX7_34 (rfl) ?_
    refine s_cvQ hG (as := []) (st := [vR 34, vR 30]) (rm := rm_X6_counting) dX7_ask_54 ml_RX7_159 (rfl) (tb9 (mem_i 18 rfl)) rfl ⟨rfl, rfl⟩ ⟨by rw [hF.1]; decide, by rw [hF.2]; decide⟩ (Nat.le_of_ble_eq_true rfl) ⟨Nat.zero_le _, Nat.zero_le _⟩ rfl (fun o h => c_X6_counting l  _ o h) (fun o54 => ?_)
    refine s_cvV hG (as := [vR 34, vL o54]) (st := []) (rm := rm_X2_keep) dX7_ask_57 ml_RX7_242 (rfl) (tb14 (mem_i 8 rfl)) rfl ⟨rfl, rfl⟩ ⟨by rw [hF.1]; decide, by rw [hF.2]; decide⟩ (Nat.le_of_ble_eq_true rfl) ⟨Nat.zero_le _, Nat.zero_le _⟩ rfl (fun o h => c_X2_keep l _ _ o h) (fun o57 => ?_)
    refine s_iload_n hG dX7_ask_60 rfl ?_
    exact s_xri hR dX7_ask_61
  · exact s_thr hT (by decide) thw_X7_ask_14 ⟨by rw [hF.1]; decide, by rw [hF.2]; decide⟩ (Nat.le_of_ble_eq_true rfl)

def f_X7_back (p1 : Int32) (S : HS) : Option (XO) :=
(f_X7_requireDrawer p1 S).bind (fun o2 => if o2.2.1 = 0 then
(fun (o2 : XO) =>
(f_X6_standOf p1 o2.1).bind (fun o10 =>
if o10 = (-1 : Int32) then
some (o2.1, (3, (0 : Int32)))
else
(f_X6_aboveOf o10 o2.1).bind (fun o39 =>
(f_X6_stand p1 o39 o2.1).bind (fun o42 =>
(f_X6_counting o42).bind (fun o53 =>
(f_X3_redo 16 o53 o42).bind (fun o56 =>
(f_J13_bitCount_95d88 (o56.2.1 16 3) o56).bind (fun o66 =>
some (o56, ((0 : Nat), o66))))))))) o2
else some (o2.1, (o2.2.1, 0)))
def rm_X7_back : Room := { frames := 7, cells := 0, slots := 0, locals := 186 }
def rmT_X7_back : Room := { frames := 7, cells := 1, slots := 6, locals := 186 }
set_option maxRecDepth 100000 in
set_option maxHeartbeats 4000000 in
theorem c_X7_back (l : Launch) (hl9 : l.stackTraces = false) (p1 : Int32)  (S : HS) (out : XO) (h : f_X7_back p1 S = some out) : CtX l yX7_back cX7_back 3 (some .int) rm_X7_back rmT_X7_back [vR 0, vI p1] S out := by
  refine CtX.intro hl9 (own := RX7) (lv := [(0, vR 0), (1, vI p1)]) (by decide +kernel) rfl ⟨rfl, rfl⟩ ⟨rfl, rfl, rfl, rfl⟩ rfl (Nat.le_of_ble_eq_true rfl) ?_
  intro R G hF hG hR hT hX
  revert h
  unfold f_X7_back
  refine s_aload_n hG dX7_back_0 rfl ?_
  refine s_iload_n hG dX7_back_1 rfl ?_
  refine s_xV hG hX (as := [vI p1]) (st := []) (rm := rm_X7_requireDrawer) (rmT := rmT_X7_requireDrawer) rfl dX7_back_2 ml_RX7_84 (tb4 (mem_i 29 rfl)) (rfl) (tb5 (mem_i 1 rfl)) rfl ⟨rfl, rfl⟩ ⟨rfl, rfl, rfl, rfl⟩ ⟨by rw [hF.1]; decide, by rw [hF.2]; decide⟩ (Nat.le_of_ble_eq_true rfl) rfl (fun o h => c_X7_requireDrawer l hl9 _ _ o h) (fun o2 => ?_)
  refine s_aload_n hG dX7_back_5 rfl ?_
  refine s_getC hG dX7_back_6 fl_RX7_34 (rfl) ?_
  refine s_iload_n hG dX7_back_9 rfl ?_
  refine s_cvP hG (as := [vI p1]) (st := []) (rm := rm_X6_standOf) dX7_back_10 ml_RX7_148 (rfl) (tb8 (mem_i 0 rfl)) rfl ⟨rfl, rfl⟩ ⟨by rw [hF.1]; decide, by rw [hF.2]; decide⟩ (Nat.le_of_ble_eq_true rfl) ⟨Nat.zero_le _, Nat.zero_le _⟩ rfl (fun o h => c_X6_standOf l _ _ o h) (fun o10 => ?_)
  refine s_istore_n hG (lv' := [(2, vI o10), (0, vR 0), (1, vI p1)]) dX7_back_13 (by decide) rfl ?_
  refine s_iload_n hG dX7_back_14 rfl ?_
  refine s_iconst hG (v := (-1 : Int32)) dX7_back_15 (by decide) ?_
  refine s_icmp_ne hG (tgt := 29) dX7_back_16 (by decide) ?_ ?_
  · refine s_aload_n hG dX7_back_29 rfl ?_
    refine s_getC hG dX7_back_30 fl_RX7_34 (rfl) ?_
    refine s_iload_n hG dX7_back_33 rfl ?_
    refine s_aload_n hG dX7_back_34 rfl ?_
    refine s_getC hG dX7_back_35 fl_RX7_34 (rfl) ?_
    refine s_iload_n hG dX7_back_38 rfl ?_
    refine s_cvP hG (as := [vI o10]) (st := [vI p1, vR 9]) (rm := rm_X6_aboveOf) dX7_back_39 ml_RX7_153 (rfl) (tb9 (mem_i 14 rfl)) rfl ⟨rfl, rfl⟩ ⟨by rw [hF.1]; decide, by rw [hF.2]; decide⟩ (Nat.le_of_ble_eq_true rfl) ⟨Nat.zero_le _, Nat.zero_le _⟩ rfl (fun o h => c_X6_aboveOf l _ _ o h) (fun o39 => ?_)
    refine s_cvV hG (as := [vI p1, vI o39]) (st := []) (rm := rm_X6_stand) dX7_back_42 ml_RX7_156 (rfl) (tb9 (mem_i 16 rfl)) rfl ⟨rfl, rfl⟩ ⟨by rw [hF.1]; decide, by rw [hF.2]; decide⟩ (Nat.le_of_ble_eq_true rfl) ⟨Nat.zero_le _, Nat.zero_le _⟩ rfl (fun o h => c_X6_stand l _ _ _ o h) (fun o42 => ?_)
    refine s_aload_n hG dX7_back_45 rfl ?_
    refine s_getC hG dX7_back_46 fl_RX7_43 (rfl) ?_
    refine s_aload_n hG dX7_back_49 rfl ?_
    refine s_getC hG dX7_back_50 fl_RX7_34 (rfl) ?_
    refine s_cvQ hG (as := []) (st := [vR 16]) (rm := rm_X6_counting) dX7_back_53 ml_RX7_159 (rfl) (tb9 (mem_i 18 rfl)) rfl ⟨rfl, rfl⟩ ⟨by rw [hF.1]; decide, by rw [hF.2]; decide⟩ (Nat.le_of_ble_eq_true rfl) ⟨Nat.zero_le _, Nat.zero_le _⟩ rfl (fun o h => c_X6_counting l  _ o h) (fun o53 => ?_)
    refine s_cvV hG (as := [vL o53]) (st := []) (rm := rm_X3_redo) dX7_back_56 ml_RX7_163 (rfl) (tb9 (mem_i 21 rfl)) rfl ⟨rfl, rfl⟩ ⟨by rw [hF.1]; decide, by rw [hF.2]; decide⟩ (Nat.le_of_ble_eq_true rfl) ⟨Nat.zero_le _, Nat.zero_le _⟩ rfl (fun o h => c_X3_redo l _ _ (rfl) _ o h) (fun o56 => ?_)
    refine s_aload_n hG dX7_back_59 rfl ?_
    refine s_getC hG dX7_back_60 fl_RX7_43 (rfl) ?_
    refine s_getL hG dX7_back_63 fl_RX7_167 (rfl) ?_
    refine s_csP hG (as := [vL (o56.2.1 16 3)]) (st := []) (rm := rm_J13_bitCount_95d88) dX7_back_66 ml_RX7_171 (tb9 (mem_i 27 rfl)) rfl ⟨rfl, rfl⟩ ⟨by rw [hF.1]; decide, by rw [hF.2]; decide⟩ (Nat.le_of_ble_eq_true rfl) ⟨Nat.zero_le _, Nat.zero_le _⟩ rfl (fun o h => c_J13_bitCount_95d88 l _ _ o h) (fun o66 => ?_)
    exact s_xri hR dX7_back_69
  · exact s_thr hT (by decide) thw_X7_back_19 ⟨by rw [hF.1]; decide, by rw [hF.2]; decide⟩ (Nat.le_of_ble_eq_true rfl)

def f_X7_below (p1 : Int32) (S : HS) : Option (XO) :=
(f_X7_requireDrawer p1 S).bind (fun o2 => if o2.2.1 = 0 then
(fun (o2 : XO) =>
(f_X6_countBelow p1 o2.1).bind (fun o10 =>
some (o2.1, ((0 : Nat), o10)))) o2
else some (o2.1, (o2.2.1, 0)))
def rm_X7_below : Room := { frames := 7, cells := 0, slots := 0, locals := 111 }
def rmT_X7_below : Room := { frames := 7, cells := 1, slots := 6, locals := 111 }
set_option maxRecDepth 100000 in
set_option maxHeartbeats 4000000 in
theorem c_X7_below (l : Launch) (hl9 : l.stackTraces = false) (p1 : Int32)  (S : HS) (out : XO) (h : f_X7_below p1 S = some out) : CtX l yX7_below cX7_below 2 (some .int) rm_X7_below rmT_X7_below [vR 0, vI p1] S out := by
  refine CtX.intro hl9 (own := RX7) (lv := [(0, vR 0), (1, vI p1)]) (by decide +kernel) rfl ⟨rfl, rfl⟩ ⟨rfl, rfl, rfl, rfl⟩ rfl (Nat.le_of_ble_eq_true rfl) ?_
  intro R G hF hG hR hT hX
  revert h
  unfold f_X7_below
  refine s_aload_n hG dX7_below_0 rfl ?_
  refine s_iload_n hG dX7_below_1 rfl ?_
  refine s_xV hG hX (as := [vI p1]) (st := []) (rm := rm_X7_requireDrawer) (rmT := rmT_X7_requireDrawer) rfl dX7_below_2 ml_RX7_84 (tb4 (mem_i 29 rfl)) (rfl) (tb5 (mem_i 1 rfl)) rfl ⟨rfl, rfl⟩ ⟨rfl, rfl, rfl, rfl⟩ ⟨by rw [hF.1]; decide, by rw [hF.2]; decide⟩ (Nat.le_of_ble_eq_true rfl) rfl (fun o h => c_X7_requireDrawer l hl9 _ _ o h) (fun o2 => ?_)
  refine s_aload_n hG dX7_below_5 rfl ?_
  refine s_getC hG dX7_below_6 fl_RX7_34 (rfl) ?_
  refine s_iload_n hG dX7_below_9 rfl ?_
  refine s_cvP hG (as := [vI p1]) (st := []) (rm := rm_X6_countBelow) dX7_below_10 ml_RX7_185 (rfl) (tb15 (mem_i 20 rfl)) rfl ⟨rfl, rfl⟩ ⟨by rw [hF.1]; decide, by rw [hF.2]; decide⟩ (Nat.le_of_ble_eq_true rfl) ⟨Nat.zero_le _, Nat.zero_le _⟩ rfl (fun o h => c_X6_countBelow l _ _ o h) (fun o10 => ?_)
  exact s_xri hR dX7_below_13

def f_X7_branches (p1 : Int32) (S : HS) : Option (XO) :=
(f_X7_requireDrawer p1 S).bind (fun o2 => if o2.2.1 = 0 then
(fun (o2 : XO) =>
(f_X6_countBranches p1 o2.1).bind (fun o10 =>
some (o2.1, ((0 : Nat), o10)))) o2
else some (o2.1, (o2.2.1, 0)))
def rm_X7_branches : Room := { frames := 7, cells := 0, slots := 0, locals := 111 }
def rmT_X7_branches : Room := { frames := 7, cells := 1, slots := 6, locals := 111 }
set_option maxRecDepth 100000 in
set_option maxHeartbeats 4000000 in
theorem c_X7_branches (l : Launch) (hl9 : l.stackTraces = false) (p1 : Int32)  (S : HS) (out : XO) (h : f_X7_branches p1 S = some out) : CtX l yX7_branches cX7_branches 2 (some .int) rm_X7_branches rmT_X7_branches [vR 0, vI p1] S out := by
  refine CtX.intro hl9 (own := RX7) (lv := [(0, vR 0), (1, vI p1)]) (by decide +kernel) rfl ⟨rfl, rfl⟩ ⟨rfl, rfl, rfl, rfl⟩ rfl (Nat.le_of_ble_eq_true rfl) ?_
  intro R G hF hG hR hT hX
  revert h
  unfold f_X7_branches
  refine s_aload_n hG dX7_branches_0 rfl ?_
  refine s_iload_n hG dX7_branches_1 rfl ?_
  refine s_xV hG hX (as := [vI p1]) (st := []) (rm := rm_X7_requireDrawer) (rmT := rmT_X7_requireDrawer) rfl dX7_branches_2 ml_RX7_84 (tb4 (mem_i 29 rfl)) (rfl) (tb5 (mem_i 1 rfl)) rfl ⟨rfl, rfl⟩ ⟨rfl, rfl, rfl, rfl⟩ ⟨by rw [hF.1]; decide, by rw [hF.2]; decide⟩ (Nat.le_of_ble_eq_true rfl) rfl (fun o h => c_X7_requireDrawer l hl9 _ _ o h) (fun o2 => ?_)
  refine s_aload_n hG dX7_branches_5 rfl ?_
  refine s_getC hG dX7_branches_6 fl_RX7_34 (rfl) ?_
  refine s_iload_n hG dX7_branches_9 rfl ?_
  refine s_cvP hG (as := [vI p1]) (st := []) (rm := rm_X6_countBranches) dX7_branches_10 ml_RX7_182 (rfl) (tb13 (mem_i 10 rfl)) rfl ⟨rfl, rfl⟩ ⟨by rw [hF.1]; decide, by rw [hF.2]; decide⟩ (Nat.le_of_ble_eq_true rfl) ⟨Nat.zero_le _, Nat.zero_le _⟩ rfl (fun o h => c_X6_countBranches l _ _ o h) (fun o10 => ?_)
  exact s_xri hR dX7_branches_13

def f_X7_broken_b39  (rec4 : Int32 × Int32 → Option (Int32)) (S : HS) (x1 : Int32) (x2 : Int32) : Option (Int32) :=
rec4 (x1, (x2 + (1 : Int32)))
def F_X7_broken_b4   (S : HS) (rec4 : Int32 × Int32 → Option (Int32)) : Int32 × Int32 → Option (Int32) := fun q => match q with
  | (x1, x2) =>
    if (60 : Int32) ≤ x2 then
    some x1
    else
    (f_X7_has (S.2.1 16 3) x2 S).bind (fun o18 =>
    if o18 = 0 then
    f_X7_broken_b39  rec4 S x1 x2
    else
    (f_X6_deedOf x2 S).bind (fun o29 =>
    if o29 = (3 : Int32) then
    f_X7_broken_b39  rec4 S (x1 + (1 : Int32)) x2
    else
    f_X7_broken_b39  rec4 S x1 x2))
def f_X7_broken_b4   (S : HS) (x1 : Int32) (x2 : Int32) : Option (Int32) := fx (F_X7_broken_b4  S) FU (x1, x2)
def f_X7_broken  (S : HS) : Option (Int32) :=
f_X7_broken_b4   S (0 : Int32) (0 : Int32)
def rm_X7_broken : Room := { frames := 2, cells := 0, slots := 0, locals := 42 }
set_option maxRecDepth 100000 in
set_option maxHeartbeats 4000000 in
theorem c_X7_broken (l : Launch)   (S : HS) (out : Int32) (h : f_X7_broken  S = some out) : Ct l yX7_broken cX7_broken 3 (some .int) rm_X7_broken [vR 0] S (some (vI out)) S := by
  refine Ct.intro (own := RX7) (lv := [(0, vR 0)]) (by decide +kernel) rfl ⟨rfl, rfl⟩ rfl (Nat.le_of_ble_eq_true rfl) ?_
  intro G hG hR
  revert h
  have hb39 : ∀ (rec4 : Int32 × Int32 → Option (Int32)) (hrec4 : ∀ (x1 : Int32) (x2 : Int32), rec4 (x1, x2) = some out → G 0 0 S [(0, vR 0), (1, vI x1), (2, vI x2)] 4 []) (x1 : Int32) (x2 : Int32), f_X7_broken_b39  rec4 S x1 x2 = some out → G 0 0 S [(0, vR 0), (1, vI x1), (2, vI x2)] 39 [] := by
    intro rec4 hrec4 x1 x2
    unfold f_X7_broken_b39
    refine s_iinc hG (v := (x2 + (1 : Int32))) (lv' := [(2, vI (x2 + (1 : Int32))), (0, vR 0), (1, vI x1)]) dX7_broken_39 rfl rfl (by decide) rfl ?_
    refine s_goto hG (tgt := 4) dX7_broken_42 (by decide) ?_
    refine s_lv hG [1, 2, 0] rfl ?_
    exact hrec4 _ _
  have hb4 : ∀ (x1 : Int32) (x2 : Int32), f_X7_broken_b4  S x1 x2 = some out → G 0 0 S [(0, vR 0), (1, vI x1), (2, vI x2)] 4 [] := by
    intro  x1 x2
    unfold f_X7_broken_b4
    generalize FU = nf
    revert x1 x2
    induction nf with
    | zero => intro x1 x2 h9; cases h9
    | succ nf hrec4 =>
      intro x1 x2
      show F_X7_broken_b4  S (fx (F_X7_broken_b4  S) nf) (x1, x2) = some out → _
      generalize fx (F_X7_broken_b4  S) nf = rec4 at hrec4
      unfold F_X7_broken_b4
      dsimp only
      refine s_iload_n hG dX7_broken_4 rfl ?_
      refine s_bipush hG (v := (60 : Int32)) dX7_broken_5 (by decide) ?_
      refine s_icmp_ge hG (tgt := 45) dX7_broken_7 (by decide) ?_ ?_
      · refine s_iload_n hG dX7_broken_45 rfl ?_
        exact s_riP hR dX7_broken_46
      · refine s_aload_n hG dX7_broken_10 rfl ?_
        refine s_getC hG dX7_broken_11 fl_RX7_43 (rfl) ?_
        refine s_getL hG dX7_broken_14 fl_RX7_167 (rfl) ?_
        refine s_iload_n hG dX7_broken_17 rfl ?_
        refine s_csP hG (as := [vL (S.2.1 16 3), vI x2]) (st := []) (rm := rm_X7_has) dX7_broken_18 ml_RX7_192 (tb6 (mem_i 14 rfl)) rfl ⟨rfl, rfl⟩ ⟨by decide, by decide⟩ (Nat.le_of_ble_eq_true rfl) ⟨Nat.zero_le _, Nat.zero_le _⟩ rfl (fun o h => c_X7_has l _ _ _ o h) (fun o18 => ?_)
        refine s_if_eq hG (tgt := 39) dX7_broken_21 (by decide) ?_ ?_
        · exact hb39 _ hrec4 _ _
        · refine s_aload_n hG dX7_broken_24 rfl ?_
          refine s_getC hG dX7_broken_25 fl_RX7_34 (rfl) ?_
          refine s_iload_n hG dX7_broken_28 rfl ?_
          refine s_cvP hG (as := [vI x2]) (st := []) (rm := rm_X6_deedOf) dX7_broken_29 ml_RX7_227 (rfl) (tb6 (mem_i 5 rfl)) rfl ⟨rfl, rfl⟩ ⟨by decide, by decide⟩ (Nat.le_of_ble_eq_true rfl) ⟨Nat.zero_le _, Nat.zero_le _⟩ rfl (fun o h => c_X6_deedOf l _ _ o h) (fun o29 => ?_)
          refine s_iconst hG (v := (3 : Int32)) dX7_broken_32 (by decide) ?_
          refine s_icmp_ne hG (tgt := 39) dX7_broken_33 (by decide) ?_ ?_
          · exact hb39 _ hrec4 _ _
          · refine s_iinc hG (v := (x1 + (1 : Int32))) (lv' := [(1, vI (x1 + (1 : Int32))), (0, vR 0), (2, vI x2)]) dX7_broken_36 rfl rfl (by decide) rfl ?_
            refine s_lv hG [1, 0, 2] rfl ?_
            exact hb39 _ hrec4 _ _
  unfold f_X7_broken
  refine s_iconst hG (v := (0 : Int32)) dX7_broken_0 (by decide) ?_
  refine s_istore_n hG (lv' := [(1, vI (0 : Int32)), (0, vR 0)]) dX7_broken_1 (by decide) rfl ?_
  refine s_iconst hG (v := (0 : Int32)) dX7_broken_2 (by decide) ?_
  refine s_istore_n hG (lv' := [(2, vI (0 : Int32)), (1, vI (0 : Int32)), (0, vR 0)]) dX7_broken_3 (by decide) rfl ?_
  refine s_lv hG [2, 1, 0] rfl ?_
  exact hb4 _ _

def f_X7_requireMade_b15 (p1 : Int32)  (S : HS)  : Option (XO) :=
some (S, (1, (0 : Int32)))
def f_X7_requireMade (p1 : Int32) (S : HS) : Option (XO) :=
if p1 < 0 then
f_X7_requireMade_b15 p1  S
else
if p1 < (S.1 30 0) then
if p1 < (S.1 30 1) then
some (S, ((0 : Nat), (0 : Int32)))
else
some (S, (4, (0 : Int32)))
else
f_X7_requireMade_b15 p1  S
def rm_X7_requireMade : Room := { frames := 6, cells := 0, slots := 0, locals := 90 }
def rmT_X7_requireMade : Room := { frames := 6, cells := 1, slots := 6, locals := 90 }
set_option maxRecDepth 100000 in
set_option maxHeartbeats 4000000 in
theorem c_X7_requireMade (l : Launch) (hl9 : l.stackTraces = false) (p1 : Int32)  (S : HS) (out : XO) (h : f_X7_requireMade p1 S = some out) : CtX l yX7_requireMade cX7_requireMade 2 none rm_X7_requireMade rmT_X7_requireMade [vR 0, vI p1] S out := by
  refine CtX.intro hl9 (own := RX7) (lv := [(0, vR 0), (1, vI p1)]) (by decide +kernel) rfl ⟨rfl, rfl⟩ ⟨rfl, rfl, rfl, rfl⟩ rfl (Nat.le_of_ble_eq_true rfl) ?_
  intro R G hF hG hR hT hX
  revert h
  have hb15 : ∀ (S : HS), f_X7_requireMade_b15 p1 S  = some out → G 0 0 S [] 15 [] := by
    intro S
    unfold f_X7_requireMade_b15
    exact s_thr hT (by decide) thw_X7_requireMade_15 ⟨by rw [hF.1]; decide, by rw [hF.2]; decide⟩ (Nat.le_of_ble_eq_true rfl)
  unfold f_X7_requireMade
  refine s_iload_n hG dX7_requireMade_0 rfl ?_
  refine s_if_lt hG (tgt := 15) dX7_requireMade_1 (by decide) ?_ ?_
  · refine s_lv hG [] rfl ?_
    exact hb15 _
  · refine s_iload_n hG dX7_requireMade_4 rfl ?_
    refine s_aload_n hG dX7_requireMade_5 rfl ?_
    refine s_getC hG dX7_requireMade_6 fl_RX7_53 (rfl) ?_
    refine s_getI hG dX7_requireMade_9 fl_RX7_233 (rfl) ?_
    refine s_icmp_lt hG (tgt := 26) dX7_requireMade_12 (by decide) ?_ ?_
    · refine s_iload_n hG dX7_requireMade_26 rfl ?_
      refine s_aload_n hG dX7_requireMade_27 rfl ?_
      refine s_getC hG dX7_requireMade_28 fl_RX7_53 (rfl) ?_
      refine s_getI hG dX7_requireMade_31 fl_RX7_246 (rfl) ?_
      refine s_icmp_lt hG (tgt := 48) dX7_requireMade_34 (by decide) ?_ ?_
      · exact s_xrv hR dX7_requireMade_48
      · exact s_thr hT (by decide) thw_X7_requireMade_37 ⟨by rw [hF.1]; decide, by rw [hF.2]; decide⟩ (Nat.le_of_ble_eq_true rfl)
    · refine s_lv hG [] rfl ?_
      exact hb15 _

def f_X7_charAnew_b53 (p1 : Int32) (p2 : Int32)  (S : HS)  : Option (XO) :=
some (S, (4, (0 : Int32)))
def f_X7_charAnew (p1 : Int32) (p2 : Int32) (S : HS) : Option (XO) :=
(f_X7_requireMade p1 S).bind (fun o2 => if o2.2.1 = 0 then
(fun (o2 : XO) =>
(f_X2_actsOf p1 o2.1).bind (fun o14 =>
(f_X3_redo 17 o14 o2.1).bind (fun o17 =>
rf (o17.2.2 17 1) 0 (fun b28 =>
(f_X1_show b28 o17).bind (fun o35 =>
if p2 < 0 then
f_X7_charAnew_b53 p1 p2  o35
else
if p2 < (o35.1 34 1) then
(f_X1_signOf p2 o35).bind (fun o68 =>
if ch o68 = true then some (o35, ((0 : Nat), o68)) else none)
else
f_X7_charAnew_b53 p1 p2  o35))))) o2
else some (o2.1, (o2.2.1, 0)))
def rm_X7_charAnew : Room := { frames := 7, cells := 0, slots := 0, locals := 186 }
def rmT_X7_charAnew : Room := { frames := 7, cells := 1, slots := 6, locals := 186 }
set_option maxRecDepth 100000 in
set_option maxHeartbeats 4000000 in
theorem c_X7_charAnew (l : Launch) (hl9 : l.stackTraces = false) (p1 : Int32) (p2 : Int32)  (S : HS) (out : XO) (h : f_X7_charAnew p1 p2 S = some out) : CtX l yX7_charAnew cX7_charAnew 3 (some .char) rm_X7_charAnew rmT_X7_charAnew [vR 0, vI p1, vI p2] S out := by
  refine CtX.intro hl9 (own := RX7) (lv := [(0, vR 0), (1, vI p1), (2, vI p2)]) (by decide +kernel) rfl ⟨rfl, rfl⟩ ⟨rfl, rfl, rfl, rfl⟩ rfl (Nat.le_of_ble_eq_true rfl) ?_
  intro R G hF hG hR hT hX
  revert h
  have hb53 : ∀ (S : HS), f_X7_charAnew_b53 p1 p2 S  = some out → G 0 0 S [] 53 [] := by
    intro S
    unfold f_X7_charAnew_b53
    exact s_thr hT (by decide) thw_X7_charAnew_53 ⟨by rw [hF.1]; decide, by rw [hF.2]; decide⟩ (Nat.le_of_ble_eq_true rfl)
  unfold f_X7_charAnew
  refine s_aload_n hG dX7_charAnew_0 rfl ?_
  refine s_iload_n hG dX7_charAnew_1 rfl ?_
  refine s_xV hG hX (as := [vI p1]) (st := []) (rm := rm_X7_requireMade) (rmT := rmT_X7_requireMade) rfl dX7_charAnew_2 ml_RX7_247 (tb11 (mem_i 11 rfl)) (rfl) (tb11 (mem_i 13 rfl)) rfl ⟨rfl, rfl⟩ ⟨rfl, rfl, rfl, rfl⟩ ⟨by rw [hF.1]; decide, by rw [hF.2]; decide⟩ (Nat.le_of_ble_eq_true rfl) rfl (fun o h => c_X7_requireMade l hl9 _ _ o h) (fun o2 => ?_)
  refine s_aload_n hG dX7_charAnew_5 rfl ?_
  refine s_getC hG dX7_charAnew_6 fl_RX7_47 (rfl) ?_
  refine s_aload_n hG dX7_charAnew_9 rfl ?_
  refine s_getC hG dX7_charAnew_10 fl_RX7_53 (rfl) ?_
  refine s_iload_n hG dX7_charAnew_13 rfl ?_
  refine s_cvQ hG (as := [vI p1]) (st := [vR 17]) (rm := rm_X2_actsOf) dX7_charAnew_14 ml_RX7_259 (rfl) (tb15 (mem_i 0 rfl)) rfl ⟨rfl, rfl⟩ ⟨by rw [hF.1]; decide, by rw [hF.2]; decide⟩ (Nat.le_of_ble_eq_true rfl) ⟨Nat.zero_le _, Nat.zero_le _⟩ rfl (fun o h => c_X2_actsOf l _ _ o h) (fun o14 => ?_)
  refine s_cvV hG (as := [vL o14]) (st := []) (rm := rm_X3_redo) dX7_charAnew_17 ml_RX7_163 (rfl) (tb9 (mem_i 21 rfl)) rfl ⟨rfl, rfl⟩ ⟨by rw [hF.1]; decide, by rw [hF.2]; decide⟩ (Nat.le_of_ble_eq_true rfl) ⟨Nat.zero_le _, Nat.zero_le _⟩ rfl (fun o h => c_X3_redo l _ _ (rfl) _ o h) (fun o17 => ?_)
  refine s_aload_n hG dX7_charAnew_20 rfl ?_
  refine s_getC hG dX7_charAnew_21 fl_RX7_60 (rfl) ?_
  refine s_aload_n hG dX7_charAnew_24 rfl ?_
  refine s_getC hG dX7_charAnew_25 fl_RX7_47 (rfl) ?_
  refine s_getR hG (cj := 0) dX7_charAnew_28 fl_RX7_133 (rfl) (fun b28 hb_28 => ?_)
  refine s_aload_n hG dX7_charAnew_31 rfl ?_
  refine s_getC hG dX7_charAnew_32 fl_RX7_20 (rfl) ?_
  refine s_cvV hG (as := [vR b28, vR 2]) (st := []) (rm := rm_X1_show) dX7_charAnew_35 ml_RX7_238 (rfl) (tb13 (mem_i 16 rfl)) rfl ⟨rfl, rfl⟩ ⟨by rw [hF.1]; decide, by rw [hF.2]; decide⟩ (Nat.le_of_ble_eq_true rfl) ⟨Nat.zero_le _, Nat.zero_le _⟩ rfl (fun o h => c_X1_show l _ (hb_28) _ o h) (fun o35 => ?_)
  refine s_iload_n hG dX7_charAnew_38 rfl ?_
  refine s_if_lt hG (tgt := 53) dX7_charAnew_39 (by decide) ?_ ?_
  · refine s_lv hG [] rfl ?_
    exact hb53 _
  · refine s_iload_n hG dX7_charAnew_42 rfl ?_
    refine s_aload_n hG dX7_charAnew_43 rfl ?_
    refine s_getC hG dX7_charAnew_44 fl_RX7_60 (rfl) ?_
    refine s_getI hG dX7_charAnew_47 fl_RX7_263 (rfl) ?_
    refine s_icmp_lt hG (tgt := 63) dX7_charAnew_50 (by decide) ?_ ?_
    · refine s_aload_n hG dX7_charAnew_63 rfl ?_
      refine s_getC hG dX7_charAnew_64 fl_RX7_60 (rfl) ?_
      refine s_iload_n hG dX7_charAnew_67 rfl ?_
      refine s_cvP hG (as := [vI p2]) (st := []) (rm := rm_X1_signOf) dX7_charAnew_68 ml_RX7_266 (rfl) (tb14 (mem_i 10 rfl)) rfl ⟨rfl, rfl⟩ ⟨by rw [hF.1]; decide, by rw [hF.2]; decide⟩ (Nat.le_of_ble_eq_true rfl) ⟨Nat.zero_le _, Nat.zero_le _⟩ rfl (fun o h => c_X1_signOf l _ _ o h) (fun o68 => ?_)
      exact s_xrc hR dX7_charAnew_71
    · refine s_lv hG [] rfl ?_
      exact hb53 _

def f_X7_charAt_b21 (p1 : Int32) (p2 : Int32)  (S : HS)  : Option (XO) :=
some (S, (4, (0 : Int32)))
def f_X7_charAt (p1 : Int32) (p2 : Int32) (S : HS) : Option (XO) :=
(f_X7_requireMade p1 S).bind (fun o2 => if o2.2.1 = 0 then
(fun (o2 : XO) =>
if p2 < 0 then
f_X7_charAt_b21 p1 p2  o2.1
else
(f_X2_charsOf p1 o2.1).bind (fun o15 =>
if p2 < o15 then
(f_X2_signOf p1 p2 o2.1).bind (fun o37 =>
if ch o37 = true then some (o2.1, ((0 : Nat), o37)) else none)
else
f_X7_charAt_b21 p1 p2  o2.1)) o2
else some (o2.1, (o2.2.1, 0)))
def rm_X7_charAt : Room := { frames := 7, cells := 0, slots := 0, locals := 111 }
def rmT_X7_charAt : Room := { frames := 7, cells := 1, slots := 6, locals := 111 }
set_option maxRecDepth 100000 in
set_option maxHeartbeats 4000000 in
theorem c_X7_charAt (l : Launch) (hl9 : l.stackTraces = false) (p1 : Int32) (p2 : Int32)  (S : HS) (out : XO) (h : f_X7_charAt p1 p2 S = some out) : CtX l yX7_charAt cX7_charAt 3 (some .char) rm_X7_charAt rmT_X7_charAt [vR 0, vI p1, vI p2] S out := by
  refine CtX.intro hl9 (own := RX7) (lv := [(0, vR 0), (1, vI p1), (2, vI p2)]) (by decide +kernel) rfl ⟨rfl, rfl⟩ ⟨rfl, rfl, rfl, rfl⟩ rfl (Nat.le_of_ble_eq_true rfl) ?_
  intro R G hF hG hR hT hX
  revert h
  have hb21 : ∀ (S : HS), f_X7_charAt_b21 p1 p2 S  = some out → G 0 0 S [] 21 [] := by
    intro S
    unfold f_X7_charAt_b21
    exact s_thr hT (by decide) thw_X7_charAt_21 ⟨by rw [hF.1]; decide, by rw [hF.2]; decide⟩ (Nat.le_of_ble_eq_true rfl)
  unfold f_X7_charAt
  refine s_aload_n hG dX7_charAt_0 rfl ?_
  refine s_iload_n hG dX7_charAt_1 rfl ?_
  refine s_xV hG hX (as := [vI p1]) (st := []) (rm := rm_X7_requireMade) (rmT := rmT_X7_requireMade) rfl dX7_charAt_2 ml_RX7_247 (tb11 (mem_i 11 rfl)) (rfl) (tb11 (mem_i 13 rfl)) rfl ⟨rfl, rfl⟩ ⟨rfl, rfl, rfl, rfl⟩ ⟨by rw [hF.1]; decide, by rw [hF.2]; decide⟩ (Nat.le_of_ble_eq_true rfl) rfl (fun o h => c_X7_requireMade l hl9 _ _ o h) (fun o2 => ?_)
  refine s_iload_n hG dX7_charAt_5 rfl ?_
  refine s_if_lt hG (tgt := 21) dX7_charAt_6 (by decide) ?_ ?_
  · refine s_lv hG [] rfl ?_
    exact hb21 _
  · refine s_iload_n hG dX7_charAt_9 rfl ?_
    refine s_aload_n hG dX7_charAt_10 rfl ?_
    refine s_getC hG dX7_charAt_11 fl_RX7_53 (rfl) ?_
    refine s_iload_n hG dX7_charAt_14 rfl ?_
    refine s_cvP hG (as := [vI p1]) (st := [vI p2]) (rm := rm_X2_charsOf) dX7_charAt_15 ml_RX7_250 (rfl) (tb11 (mem_i 15 rfl)) rfl ⟨rfl, rfl⟩ ⟨by rw [hF.1]; decide, by rw [hF.2]; decide⟩ (Nat.le_of_ble_eq_true rfl) ⟨Nat.zero_le _, Nat.zero_le _⟩ rfl (fun o h => c_X2_charsOf l _ _ o h) (fun o15 => ?_)
    refine s_icmp_lt hG (tgt := 31) dX7_charAt_18 (by decide) ?_ ?_
    · refine s_aload_n hG dX7_charAt_31 rfl ?_
      refine s_getC hG dX7_charAt_32 fl_RX7_53 (rfl) ?_
      refine s_iload_n hG dX7_charAt_35 rfl ?_
      refine s_iload_n hG dX7_charAt_36 rfl ?_
      refine s_cvP hG (as := [vI p1, vI p2]) (st := []) (rm := rm_X2_signOf) dX7_charAt_37 ml_RX7_255 (rfl) (tb11 (mem_i 17 rfl)) rfl ⟨rfl, rfl⟩ ⟨by rw [hF.1]; decide, by rw [hF.2]; decide⟩ (Nat.le_of_ble_eq_true rfl) ⟨Nat.zero_le _, Nat.zero_le _⟩ rfl (fun o h => c_X2_signOf l _ _ _ o h) (fun o37 => ?_)
      exact s_xrc hR dX7_charAt_40
    · refine s_lv hG [] rfl ?_
      exact hb21 _

def f_X7_clearSpelled  (S : HS) : Option (HS × Int32) :=
some ((sI S 0 1 (0 : Int32)), (S.1 0 1))
def rm_X7_clearSpelled : Room := { frames := 0, cells := 0, slots := 0, locals := 0 }
set_option maxRecDepth 100000 in
set_option maxHeartbeats 4000000 in
theorem c_X7_clearSpelled (l : Launch)   (S : HS) (out : HS × Int32) (h : f_X7_clearSpelled  S = some out) : Ct l yX7_clearSpelled cX7_clearSpelled 2 (some .int) rm_X7_clearSpelled [vR 0] S (some (vI out.2)) out.1 := by
  refine Ct.intro (own := RX7) (lv := [(0, vR 0)]) (by decide +kernel) rfl ⟨rfl, rfl⟩ rfl (Nat.le_of_ble_eq_true rfl) ?_
  intro G hG hR
  revert h
  unfold f_X7_clearSpelled
  refine s_aload_n hG dX7_clearSpelled_0 rfl ?_
  refine s_getI hG dX7_clearSpelled_1 fl_RX7_13 (rfl) ?_
  refine s_istore_n hG (lv' := [(1, vI (S.1 0 1)), (0, vR 0)]) dX7_clearSpelled_4 (by decide) rfl ?_
  refine s_aload_n hG dX7_clearSpelled_5 rfl ?_
  refine s_iconst hG (v := (0 : Int32)) dX7_clearSpelled_6 (by decide) ?_
  refine s_putI hG dX7_clearSpelled_7 fl_RX7_13 fp_7_1 (rfl) ⟨rfl, rfl⟩ ?_
  refine s_iload_n hG dX7_clearSpelled_10 rfl ?_
  exact s_riC hR dX7_clearSpelled_11

def f_X7_requireAct_b15 (p1 : Int32)  (S : HS)  : Option (XO) :=
some (S, (1, (0 : Int32)))
def f_X7_requireAct (p1 : Int32) (S : HS) : Option (XO) :=
if p1 < 0 then
f_X7_requireAct_b15 p1  S
else
if p1 < (S.1 9 0) then
some (S, ((0 : Nat), (0 : Int32)))
else
f_X7_requireAct_b15 p1  S
def rm_X7_requireAct : Room := { frames := 6, cells := 0, slots := 0, locals := 90 }
def rmT_X7_requireAct : Room := { frames := 6, cells := 1, slots := 6, locals := 90 }
set_option maxRecDepth 100000 in
set_option maxHeartbeats 4000000 in
theorem c_X7_requireAct (l : Launch) (hl9 : l.stackTraces = false) (p1 : Int32)  (S : HS) (out : XO) (h : f_X7_requireAct p1 S = some out) : CtX l yX7_requireAct cX7_requireAct 2 none rm_X7_requireAct rmT_X7_requireAct [vR 0, vI p1] S out := by
  refine CtX.intro hl9 (own := RX7) (lv := [(0, vR 0), (1, vI p1)]) (by decide +kernel) rfl ⟨rfl, rfl⟩ ⟨rfl, rfl, rfl, rfl⟩ rfl (Nat.le_of_ble_eq_true rfl) ?_
  intro R G hF hG hR hT hX
  revert h
  have hb15 : ∀ (S : HS), f_X7_requireAct_b15 p1 S  = some out → G 0 0 S [] 15 [] := by
    intro S
    unfold f_X7_requireAct_b15
    exact s_thr hT (by decide) thw_X7_requireAct_15 ⟨by rw [hF.1]; decide, by rw [hF.2]; decide⟩ (Nat.le_of_ble_eq_true rfl)
  unfold f_X7_requireAct
  refine s_iload_n hG dX7_requireAct_0 rfl ?_
  refine s_if_lt hG (tgt := 15) dX7_requireAct_1 (by decide) ?_ ?_
  · refine s_lv hG [] rfl ?_
    exact hb15 _
  · refine s_iload_n hG dX7_requireAct_4 rfl ?_
    refine s_aload_n hG dX7_requireAct_5 rfl ?_
    refine s_getC hG dX7_requireAct_6 fl_RX7_34 (rfl) ?_
    refine s_getI hG dX7_requireAct_9 fl_RX7_188 (rfl) ?_
    refine s_icmp_lt hG (tgt := 26) dX7_requireAct_12 (by decide) ?_ ?_
    · exact s_xrv hR dX7_requireAct_26
    · refine s_lv hG [] rfl ?_
      exact hb15 _

def f_X7_counts (p1 : Int32) (S : HS) : Option (XO) :=
(f_X7_requireAct p1 S).bind (fun o2 => if o2.2.1 = 0 then
(fun (o2 : XO) =>
(f_X6_counting o2.1).bind (fun o9 =>
(f_X7_has o9 p1 o2.1).bind (fun o13 =>
if nz o13 = true then some (o2.1, ((0 : Nat), o13)) else none))) o2
else some (o2.1, (o2.2.1, 0)))
def rm_X7_counts : Room := { frames := 7, cells := 0, slots := 0, locals := 111 }
def rmT_X7_counts : Room := { frames := 7, cells := 1, slots := 6, locals := 111 }
set_option maxRecDepth 100000 in
set_option maxHeartbeats 4000000 in
theorem c_X7_counts (l : Launch) (hl9 : l.stackTraces = false) (p1 : Int32)  (S : HS) (out : XO) (h : f_X7_counts p1 S = some out) : CtX l yX7_counts cX7_counts 2 (some .boolean) rm_X7_counts rmT_X7_counts [vR 0, vI p1] S out := by
  refine CtX.intro hl9 (own := RX7) (lv := [(0, vR 0), (1, vI p1)]) (by decide +kernel) rfl ⟨rfl, rfl⟩ ⟨rfl, rfl, rfl, rfl⟩ rfl (Nat.le_of_ble_eq_true rfl) ?_
  intro R G hF hG hR hT hX
  revert h
  unfold f_X7_counts
  refine s_aload_n hG dX7_counts_0 rfl ?_
  refine s_iload_n hG dX7_counts_1 rfl ?_
  refine s_xV hG hX (as := [vI p1]) (st := []) (rm := rm_X7_requireAct) (rmT := rmT_X7_requireAct) rfl dX7_counts_2 ml_RX7_189 (tb12 (mem_i 23 rfl)) (rfl) (tb12 (mem_i 25 rfl)) rfl ⟨rfl, rfl⟩ ⟨rfl, rfl, rfl, rfl⟩ ⟨by rw [hF.1]; decide, by rw [hF.2]; decide⟩ (Nat.le_of_ble_eq_true rfl) rfl (fun o h => c_X7_requireAct l hl9 _ _ o h) (fun o2 => ?_)
  refine s_aload_n hG dX7_counts_5 rfl ?_
  refine s_getC hG dX7_counts_6 fl_RX7_34 (rfl) ?_
  refine s_cvQ hG (as := []) (st := []) (rm := rm_X6_counting) dX7_counts_9 ml_RX7_159 (rfl) (tb9 (mem_i 18 rfl)) rfl ⟨rfl, rfl⟩ ⟨by rw [hF.1]; decide, by rw [hF.2]; decide⟩ (Nat.le_of_ble_eq_true rfl) ⟨Nat.zero_le _, Nat.zero_le _⟩ rfl (fun o h => c_X6_counting l  _ o h) (fun o9 => ?_)
  refine s_iload_n hG dX7_counts_12 rfl ?_
  refine s_csP hG (as := [vL o9, vI p1]) (st := []) (rm := rm_X7_has) dX7_counts_13 ml_RX7_192 (tb6 (mem_i 14 rfl)) rfl ⟨rfl, rfl⟩ ⟨by rw [hF.1]; decide, by rw [hF.2]; decide⟩ (Nat.le_of_ble_eq_true rfl) ⟨Nat.zero_le _, Nat.zero_le _⟩ rfl (fun o h => c_X7_has l _ _ _ o h) (fun o13 => ?_)
  exact s_xrz hR dX7_counts_16

def f_X7_requireRule_b15 (p1 : Int32)  (S : HS)  : Option (XO) :=
some (S, (1, (0 : Int32)))
def f_X7_requireRule (p1 : Int32) (S : HS) : Option (XO) :=
if p1 < 0 then
f_X7_requireRule_b15 p1  S
else
if p1 < (S.1 5 0) then
some (S, ((0 : Nat), (0 : Int32)))
else
f_X7_requireRule_b15 p1  S
def rm_X7_requireRule : Room := { frames := 6, cells := 0, slots := 0, locals := 90 }
def rmT_X7_requireRule : Room := { frames := 6, cells := 1, slots := 6, locals := 90 }
set_option maxRecDepth 100000 in
set_option maxHeartbeats 4000000 in
theorem c_X7_requireRule (l : Launch) (hl9 : l.stackTraces = false) (p1 : Int32)  (S : HS) (out : XO) (h : f_X7_requireRule p1 S = some out) : CtX l yX7_requireRule cX7_requireRule 2 none rm_X7_requireRule rmT_X7_requireRule [vR 0, vI p1] S out := by
  refine CtX.intro hl9 (own := RX7) (lv := [(0, vR 0), (1, vI p1)]) (by decide +kernel) rfl ⟨rfl, rfl⟩ ⟨rfl, rfl, rfl, rfl⟩ rfl (Nat.le_of_ble_eq_true rfl) ?_
  intro R G hF hG hR hT hX
  revert h
  have hb15 : ∀ (S : HS), f_X7_requireRule_b15 p1 S  = some out → G 0 0 S [] 15 [] := by
    intro S
    unfold f_X7_requireRule_b15
    exact s_thr hT (by decide) thw_X7_requireRule_15 ⟨by rw [hF.1]; decide, by rw [hF.2]; decide⟩ (Nat.le_of_ble_eq_true rfl)
  unfold f_X7_requireRule
  refine s_iload_n hG dX7_requireRule_0 rfl ?_
  refine s_if_lt hG (tgt := 15) dX7_requireRule_1 (by decide) ?_ ?_
  · refine s_lv hG [] rfl ?_
    exact hb15 _
  · refine s_iload_n hG dX7_requireRule_4 rfl ?_
    refine s_aload_n hG dX7_requireRule_5 rfl ?_
    refine s_getC hG dX7_requireRule_6 fl_RX7_27 (rfl) ?_
    refine s_getI hG dX7_requireRule_9 fl_RX7_124 (rfl) ?_
    refine s_icmp_lt hG (tgt := 26) dX7_requireRule_12 (by decide) ?_ ?_
    · exact s_xrv hR dX7_requireRule_26
    · refine s_lv hG [] rfl ?_
      exact hb15 _

def f_X7_drop (p1 : Int32) (p2 : Int32) (S : HS) : Option (XO) :=
(f_X7_requireDrawer p1 S).bind (fun o2 => if o2.2.1 = 0 then
(fun (o2 : XO) =>
(f_X7_requireRule p2 o2.1).bind (fun o7 => if o7.2.1 = 0 then
(fun (o7 : XO) =>
(f_X6_draft (4 : Int32) p2 (0 : Int32) (0 : Int32) (0 : Int32) (0 : Int32) o7.1).bind (fun o20 =>
(f_X7_doDraft p1 o20).bind (fun o25 => if o25.2.1 = 0 then
(fun (o25 : XO) =>
rf (o25.1.2.2 16 1) 0 (fun b32 =>
(f_J6_bitCount_0f7a4 (o25.1.1 b32 6) o25.1).bind (fun o38 =>
some (o25.1, ((0 : Nat), o38))))) o25
else some (o25.1, (o25.2.1, 0))))) o7
else some (o7.1, (o7.2.1, 0)))) o2
else some (o2.1, (o2.2.1, 0)))
def rm_X7_drop : Room := { frames := 7, cells := 0, slots := 0, locals := 184 }
def rmT_X7_drop : Room := { frames := 7, cells := 1, slots := 6, locals := 184 }
set_option maxRecDepth 100000 in
set_option maxHeartbeats 4000000 in
theorem c_X7_drop (l : Launch) (hl9 : l.stackTraces = false) (p1 : Int32) (p2 : Int32)  (S : HS) (out : XO) (h : f_X7_drop p1 p2 S = some out) : CtX l yX7_drop cX7_drop 3 (some .int) rm_X7_drop rmT_X7_drop [vR 0, vI p1, vI p2] S out := by
  refine CtX.intro hl9 (own := RX7) (lv := [(0, vR 0), (1, vI p1), (2, vI p2)]) (by decide +kernel) rfl ⟨rfl, rfl⟩ ⟨rfl, rfl, rfl, rfl⟩ rfl (Nat.le_of_ble_eq_true rfl) ?_
  intro R G hF hG hR hT hX
  revert h
  unfold f_X7_drop
  refine s_aload_n hG dX7_drop_0 rfl ?_
  refine s_iload_n hG dX7_drop_1 rfl ?_
  refine s_xV hG hX (as := [vI p1]) (st := []) (rm := rm_X7_requireDrawer) (rmT := rmT_X7_requireDrawer) rfl dX7_drop_2 ml_RX7_84 (tb4 (mem_i 29 rfl)) (rfl) (tb5 (mem_i 1 rfl)) rfl ⟨rfl, rfl⟩ ⟨rfl, rfl, rfl, rfl⟩ ⟨by rw [hF.1]; decide, by rw [hF.2]; decide⟩ (Nat.le_of_ble_eq_true rfl) rfl (fun o h => c_X7_requireDrawer l hl9 _ _ o h) (fun o2 => ?_)
  refine s_aload_n hG dX7_drop_5 rfl ?_
  refine s_iload_n hG dX7_drop_6 rfl ?_
  refine s_xV hG hX (as := [vI p2]) (st := []) (rm := rm_X7_requireRule) (rmT := rmT_X7_requireRule) rfl dX7_drop_7 ml_RX7_130 (tb9 (mem_i 0 rfl)) (rfl) (tb9 (mem_i 2 rfl)) rfl ⟨rfl, rfl⟩ ⟨rfl, rfl, rfl, rfl⟩ ⟨by rw [hF.1]; decide, by rw [hF.2]; decide⟩ (Nat.le_of_ble_eq_true rfl) rfl (fun o h => c_X7_requireRule l hl9 _ _ o h) (fun o7 => ?_)
  refine s_aload_n hG dX7_drop_10 rfl ?_
  refine s_getC hG dX7_drop_11 fl_RX7_34 (rfl) ?_
  refine s_iconst hG (v := (4 : Int32)) dX7_drop_14 (by decide) ?_
  refine s_iload_n hG dX7_drop_15 rfl ?_
  refine s_iconst hG (v := (0 : Int32)) dX7_drop_16 (by decide) ?_
  refine s_iconst hG (v := (0 : Int32)) dX7_drop_17 (by decide) ?_
  refine s_iconst hG (v := (0 : Int32)) dX7_drop_18 (by decide) ?_
  refine s_iconst hG (v := (0 : Int32)) dX7_drop_19 (by decide) ?_
  refine s_cvV hG (as := [vI (4 : Int32), vI p2, vI (0 : Int32), vI (0 : Int32), vI (0 : Int32), vI (0 : Int32)]) (st := []) (rm := rm_X6_draft) dX7_drop_20 ml_RX7_100 (rfl) (tb5 (mem_i 13 rfl)) rfl ⟨rfl, rfl⟩ ⟨by rw [hF.1]; decide, by rw [hF.2]; decide⟩ (Nat.le_of_ble_eq_true rfl) ⟨Nat.zero_le _, Nat.zero_le _⟩ rfl (fun o h => c_X6_draft l _ _ _ _ _ _ _ o h) (fun o20 => ?_)
  refine s_aload_n hG dX7_drop_23 rfl ?_
  refine s_iload_n hG dX7_drop_24 rfl ?_
  refine s_xV hG hX (as := [vI p1]) (st := []) (rm := rm_X7_doDraft) (rmT := rmT_X7_doDraft) rfl dX7_drop_25 ml_RX7_107 (tb5 (mem_i 20 rfl)) (rfl) (tb5 (mem_i 22 rfl)) rfl ⟨rfl, rfl⟩ ⟨rfl, rfl, rfl, rfl⟩ ⟨by rw [hF.1]; decide, by rw [hF.2]; decide⟩ (Nat.le_of_ble_eq_true rfl) rfl (fun o h => c_X7_doDraft l hl9 _ _ o h) (fun o25 => ?_)
  refine s_aload_n hG dX7_drop_28 rfl ?_
  refine s_getC hG dX7_drop_29 fl_RX7_43 (rfl) ?_
  refine s_getR hG (cj := 0) dX7_drop_32 fl_RX7_133 (rfl) (fun b32 hb_32 => ?_)
  refine s_getI hG dX7_drop_35 fl_RX7_137 (fk0_6 _ hb_32) ?_
  refine s_csP hG (as := [vI (o25.1.1 b32 6)]) (st := []) (rm := rm_J6_bitCount_0f7a4) dX7_drop_38 ml_RX7_142 (tb9 (mem_i 5 rfl)) rfl ⟨rfl, rfl⟩ ⟨by rw [hF.1]; decide, by rw [hF.2]; decide⟩ (Nat.le_of_ble_eq_true rfl) ⟨Nat.zero_le _, Nat.zero_le _⟩ rfl (fun o h => c_J6_bitCount_0f7a4 l _ _ o h) (fun o38 => ?_)
  exact s_xri hR dX7_drop_41

def f_X7_requireOn (a1 : Nat) (p2 : Int32) (S : HS) : Option (XO) :=
(f_X7_has ((S.1 a1 5).toInt64) p2 S).bind (fun o6 =>
if o6 = 0 then
some (S, (4, (0 : Int32)))
else
some (S, ((0 : Nat), (0 : Int32))))
def rm_X7_requireOn : Room := { frames := 6, cells := 0, slots := 0, locals := 90 }
def rmT_X7_requireOn : Room := { frames := 6, cells := 1, slots := 6, locals := 90 }
set_option maxRecDepth 100000 in
set_option maxHeartbeats 4000000 in
theorem c_X7_requireOn (l : Launch) (hl9 : l.stackTraces = false) (a1 : Nat) (p2 : Int32) (ha1 : oc a1 = some 0) (S : HS) (out : XO) (h : f_X7_requireOn a1 p2 S = some out) : CtX l yX7_requireOn cX7_requireOn 3 none rm_X7_requireOn rmT_X7_requireOn [vR 0, vR a1, vI p2] S out := by
  refine CtX.intro hl9 (own := RX7) (lv := [(0, vR 0), (1, vR a1), (2, vI p2)]) (by decide +kernel) rfl ⟨rfl, rfl⟩ ⟨rfl, rfl, rfl, rfl⟩ rfl (Nat.le_of_ble_eq_true rfl) ?_
  intro R G hF hG hR hT hX
  revert h
  unfold f_X7_requireOn
  refine s_aload_n hG dX7_requireOn_0 rfl ?_
  refine s_getI hG dX7_requireOn_1 fl_RX7_196 (fk0_5 _ ha1) ?_
  refine s_i2l hG dX7_requireOn_4 ?_
  refine s_iload_n hG dX7_requireOn_5 rfl ?_
  refine s_csP hG (as := [vL ((S.1 a1 5).toInt64), vI p2]) (st := []) (rm := rm_X7_has) dX7_requireOn_6 ml_RX7_192 (tb6 (mem_i 14 rfl)) rfl ⟨rfl, rfl⟩ ⟨by rw [hF.1]; decide, by rw [hF.2]; decide⟩ (Nat.le_of_ble_eq_true rfl) ⟨Nat.zero_le _, Nat.zero_le _⟩ rfl (fun o h => c_X7_has l _ _ _ o h) (fun o6 => ?_)
  refine s_if_ne hG (tgt := 23) dX7_requireOn_9 (by decide) ?_ ?_
  · exact s_xrv hR dX7_requireOn_23
  · exact s_thr hT (by decide) thw_X7_requireOn_12 ⟨by rw [hF.1]; decide, by rw [hF.2]; decide⟩ (Nat.le_of_ble_eq_true rfl)

def f_X7_holds_b93 (p1 : Int32)  (S : HS)  : Option (XO) :=
rf (S.2.2 16 1) 0 (fun b97 =>
(f_X0_fits b97 p1 S).bind (fun o101 =>
if nz o101 = true then some (S, ((0 : Nat), o101)) else none))
def f_X7_holds (p1 : Int32) (S : HS) : Option (XO) :=
(f_X7_requireRule p1 S).bind (fun o2 => if o2.2.1 = 0 then
(fun (o2 : XO) =>
rf (o2.1.2.2 16 1) 0 (fun b10 =>
(f_X7_read 7 p1 o2.1).bind (fun o21 =>
(f_X7_requireOn b10 o21 o2.1).bind (fun o24 => if o24.2.1 = 0 then
(fun (o24 : XO) =>
rf (o24.1.2.2 16 1) 0 (fun b32 =>
(f_X7_read 8 p1 o24.1).bind (fun o43 =>
(f_X7_requireOn b32 o43 o24.1).bind (fun o46 => if o46.2.1 = 0 then
(fun (o46 : XO) =>
(f_X7_read 6 p1 o46.1).bind (fun o57 =>
if o57 = (6 : Int32) then
rf (o46.1.2.2 16 1) 0 (fun b69 =>
(f_X7_has ((o46.1.1 b69 6).toInt64) p1 o46.1).bind (fun o77 =>
if o77 = 0 then
some (o46.1, (4, (0 : Int32)))
else
f_X7_holds_b93 p1  o46.1))
else
f_X7_holds_b93 p1  o46.1)) o46
else some (o46.1, (o46.2.1, 0)))))) o24
else some (o24.1, (o24.2.1, 0)))))) o2
else some (o2.1, (o2.2.1, 0)))
def rm_X7_holds : Room := { frames := 7, cells := 0, slots := 0, locals := 112 }
def rmT_X7_holds : Room := { frames := 7, cells := 1, slots := 6, locals := 112 }
set_option maxRecDepth 100000 in
set_option maxHeartbeats 4000000 in
theorem c_X7_holds (l : Launch) (hl9 : l.stackTraces = false) (p1 : Int32)  (S : HS) (out : XO) (h : f_X7_holds p1 S = some out) : CtX l yX7_holds cX7_holds 2 (some .boolean) rm_X7_holds rmT_X7_holds [vR 0, vI p1] S out := by
  refine CtX.intro hl9 (own := RX7) (lv := [(0, vR 0), (1, vI p1)]) (by decide +kernel) rfl ⟨rfl, rfl⟩ ⟨rfl, rfl, rfl, rfl⟩ rfl (Nat.le_of_ble_eq_true rfl) ?_
  intro R G hF hG hR hT hX
  revert h
  have hb93 : ∀ (S : HS), f_X7_holds_b93 p1 S  = some out → G 0 0 S [(0, vR 0), (1, vI p1)] 93 [] := by
    intro S
    unfold f_X7_holds_b93
    refine s_aload_n hG dX7_holds_93 rfl ?_
    refine s_getC hG dX7_holds_94 fl_RX7_43 (rfl) ?_
    refine s_getR hG (cj := 0) dX7_holds_97 fl_RX7_133 (rfl) (fun b97 hb_97 => ?_)
    refine s_iload_n hG dX7_holds_100 rfl ?_
    refine s_cvP hG (as := [vI p1]) (st := []) (rm := rm_X0_fits) dX7_holds_101 ml_RX7_223 (hb_97) (tb11 (mem_i 2 rfl)) rfl ⟨rfl, rfl⟩ ⟨by rw [hF.1]; decide, by rw [hF.2]; decide⟩ (Nat.le_of_ble_eq_true rfl) ⟨Nat.zero_le _, Nat.zero_le _⟩ rfl (fun o h => c_X0_fits l _ _ (hb_97) _ o h) (fun o101 => ?_)
    exact s_xrz hR dX7_holds_104
  unfold f_X7_holds
  refine s_aload_n hG dX7_holds_0 rfl ?_
  refine s_iload_n hG dX7_holds_1 rfl ?_
  refine s_xV hG hX (as := [vI p1]) (st := []) (rm := rm_X7_requireRule) (rmT := rmT_X7_requireRule) rfl dX7_holds_2 ml_RX7_130 (tb9 (mem_i 0 rfl)) (rfl) (tb9 (mem_i 2 rfl)) rfl ⟨rfl, rfl⟩ ⟨rfl, rfl, rfl, rfl⟩ ⟨by rw [hF.1]; decide, by rw [hF.2]; decide⟩ (Nat.le_of_ble_eq_true rfl) rfl (fun o h => c_X7_requireRule l hl9 _ _ o h) (fun o2 => ?_)
  refine s_aload_n hG dX7_holds_5 rfl ?_
  refine s_aload_n hG dX7_holds_6 rfl ?_
  refine s_getC hG dX7_holds_7 fl_RX7_43 (rfl) ?_
  refine s_getR hG (cj := 0) dX7_holds_10 fl_RX7_133 (rfl) (fun b10 hb_10 => ?_)
  refine s_aload_n hG dX7_holds_13 rfl ?_
  refine s_getC hG dX7_holds_14 fl_RX7_27 (rfl) ?_
  refine s_getC hG dX7_holds_17 fl_RX7_209 (rfl) ?_
  refine s_iload_n hG dX7_holds_20 rfl ?_
  refine s_csP hG (as := [vR 7, vI p1]) (st := [vR b10, vR 0]) (rm := rm_X7_read) dX7_holds_21 ml_RX7_80 (tb5 (mem_i 19 rfl)) rfl ⟨rfl, rfl⟩ ⟨by rw [hF.1]; decide, by rw [hF.2]; decide⟩ (Nat.le_of_ble_eq_true rfl) ⟨Nat.zero_le _, Nat.zero_le _⟩ rfl (fun o h => c_X7_read l _ _ (rfl) _ o h) (fun o21 => ?_)
  refine s_xV hG hX (as := [vR b10, vI o21]) (st := []) (rm := rm_X7_requireOn) (rmT := rmT_X7_requireOn) rfl dX7_holds_24 ml_RX7_202 (tb10 (mem_i 23 rfl)) (rfl) (tb10 (mem_i 25 rfl)) rfl ⟨rfl, rfl⟩ ⟨rfl, rfl, rfl, rfl⟩ ⟨by rw [hF.1]; decide, by rw [hF.2]; decide⟩ (Nat.le_of_ble_eq_true rfl) rfl (fun o h => c_X7_requireOn l hl9 _ _ (hb_10) _ o h) (fun o24 => ?_)
  refine s_aload_n hG dX7_holds_27 rfl ?_
  refine s_aload_n hG dX7_holds_28 rfl ?_
  refine s_getC hG dX7_holds_29 fl_RX7_43 (rfl) ?_
  refine s_getR hG (cj := 0) dX7_holds_32 fl_RX7_133 (rfl) (fun b32 hb_32 => ?_)
  refine s_aload_n hG dX7_holds_35 rfl ?_
  refine s_getC hG dX7_holds_36 fl_RX7_27 (rfl) ?_
  refine s_getC hG dX7_holds_39 fl_RX7_212 (rfl) ?_
  refine s_iload_n hG dX7_holds_42 rfl ?_
  refine s_csP hG (as := [vR 8, vI p1]) (st := [vR b32, vR 0]) (rm := rm_X7_read) dX7_holds_43 ml_RX7_80 (tb5 (mem_i 19 rfl)) rfl ⟨rfl, rfl⟩ ⟨by rw [hF.1]; decide, by rw [hF.2]; decide⟩ (Nat.le_of_ble_eq_true rfl) ⟨Nat.zero_le _, Nat.zero_le _⟩ rfl (fun o h => c_X7_read l _ _ (rfl) _ o h) (fun o43 => ?_)
  refine s_xV hG hX (as := [vR b32, vI o43]) (st := []) (rm := rm_X7_requireOn) (rmT := rmT_X7_requireOn) rfl dX7_holds_46 ml_RX7_202 (tb10 (mem_i 23 rfl)) (rfl) (tb10 (mem_i 25 rfl)) rfl ⟨rfl, rfl⟩ ⟨rfl, rfl, rfl, rfl⟩ ⟨by rw [hF.1]; decide, by rw [hF.2]; decide⟩ (Nat.le_of_ble_eq_true rfl) rfl (fun o h => c_X7_requireOn l hl9 _ _ (hb_32) _ o h) (fun o46 => ?_)
  refine s_aload_n hG dX7_holds_49 rfl ?_
  refine s_getC hG dX7_holds_50 fl_RX7_27 (rfl) ?_
  refine s_getC hG dX7_holds_53 fl_RX7_215 (rfl) ?_
  refine s_iload_n hG dX7_holds_56 rfl ?_
  refine s_csP hG (as := [vR 6, vI p1]) (st := []) (rm := rm_X7_read) dX7_holds_57 ml_RX7_80 (tb5 (mem_i 19 rfl)) rfl ⟨rfl, rfl⟩ ⟨by rw [hF.1]; decide, by rw [hF.2]; decide⟩ (Nat.le_of_ble_eq_true rfl) ⟨Nat.zero_le _, Nat.zero_le _⟩ rfl (fun o h => c_X7_read l _ _ (rfl) _ o h) (fun o57 => ?_)
  refine s_bipush hG (v := (6 : Int32)) dX7_holds_60 (by decide) ?_
  refine s_icmp_ne hG (tgt := 93) dX7_holds_62 (by decide) ?_ ?_
  · exact hb93 _
  · refine s_aload_n hG dX7_holds_65 rfl ?_
    refine s_getC hG dX7_holds_66 fl_RX7_43 (rfl) ?_
    refine s_getR hG (cj := 0) dX7_holds_69 fl_RX7_133 (rfl) (fun b69 hb_69 => ?_)
    refine s_getI hG dX7_holds_72 fl_RX7_137 (fk0_6 _ hb_69) ?_
    refine s_i2l hG dX7_holds_75 ?_
    refine s_iload_n hG dX7_holds_76 rfl ?_
    refine s_csP hG (as := [vL ((o46.1.1 b69 6).toInt64), vI p1]) (st := []) (rm := rm_X7_has) dX7_holds_77 ml_RX7_192 (tb6 (mem_i 14 rfl)) rfl ⟨rfl, rfl⟩ ⟨by rw [hF.1]; decide, by rw [hF.2]; decide⟩ (Nat.le_of_ble_eq_true rfl) ⟨Nat.zero_le _, Nat.zero_le _⟩ rfl (fun o h => c_X7_has l _ _ _ o h) (fun o77 => ?_)
    refine s_if_ne hG (tgt := 93) dX7_holds_80 (by decide) ?_ ?_
    · exact hb93 _
    · exact s_thr hT (by decide) thw_X7_holds_83 ⟨by rw [hF.1]; decide, by rw [hF.2]; decide⟩ (Nat.le_of_ble_eq_true rfl)

def f_X7_isInForce (p1 : Int32) (S : HS) : Option (XO) :=
(f_X7_requireRule p1 S).bind (fun o2 => if o2.2.1 = 0 then
(fun (o2 : XO) =>
rf (o2.1.2.2 16 1) 0 (fun b9 =>
(f_X7_has ((o2.1.1 b9 6).toInt64) p1 o2.1).bind (fun o17 =>
if nz o17 = true then some (o2.1, ((0 : Nat), o17)) else none))) o2
else some (o2.1, (o2.2.1, 0)))
def rm_X7_isInForce : Room := { frames := 7, cells := 0, slots := 0, locals := 111 }
def rmT_X7_isInForce : Room := { frames := 7, cells := 1, slots := 6, locals := 111 }
set_option maxRecDepth 100000 in
set_option maxHeartbeats 4000000 in
theorem c_X7_isInForce (l : Launch) (hl9 : l.stackTraces = false) (p1 : Int32)  (S : HS) (out : XO) (h : f_X7_isInForce p1 S = some out) : CtX l yX7_isInForce cX7_isInForce 2 (some .boolean) rm_X7_isInForce rmT_X7_isInForce [vR 0, vI p1] S out := by
  refine CtX.intro hl9 (own := RX7) (lv := [(0, vR 0), (1, vI p1)]) (by decide +kernel) rfl ⟨rfl, rfl⟩ ⟨rfl, rfl, rfl, rfl⟩ rfl (Nat.le_of_ble_eq_true rfl) ?_
  intro R G hF hG hR hT hX
  revert h
  unfold f_X7_isInForce
  refine s_aload_n hG dX7_isInForce_0 rfl ?_
  refine s_iload_n hG dX7_isInForce_1 rfl ?_
  refine s_xV hG hX (as := [vI p1]) (st := []) (rm := rm_X7_requireRule) (rmT := rmT_X7_requireRule) rfl dX7_isInForce_2 ml_RX7_130 (tb9 (mem_i 0 rfl)) (rfl) (tb9 (mem_i 2 rfl)) rfl ⟨rfl, rfl⟩ ⟨rfl, rfl, rfl, rfl⟩ ⟨by rw [hF.1]; decide, by rw [hF.2]; decide⟩ (Nat.le_of_ble_eq_true rfl) rfl (fun o h => c_X7_requireRule l hl9 _ _ o h) (fun o2 => ?_)
  refine s_aload_n hG dX7_isInForce_5 rfl ?_
  refine s_getC hG dX7_isInForce_6 fl_RX7_43 (rfl) ?_
  refine s_getR hG (cj := 0) dX7_isInForce_9 fl_RX7_133 (rfl) (fun b9 hb_9 => ?_)
  refine s_getI hG dX7_isInForce_12 fl_RX7_137 (fk0_6 _ hb_9) ?_
  refine s_i2l hG dX7_isInForce_15 ?_
  refine s_iload_n hG dX7_isInForce_16 rfl ?_
  refine s_csP hG (as := [vL ((o2.1.1 b9 6).toInt64), vI p1]) (st := []) (rm := rm_X7_has) dX7_isInForce_17 ml_RX7_192 (tb6 (mem_i 14 rfl)) rfl ⟨rfl, rfl⟩ ⟨by rw [hF.1]; decide, by rw [hF.2]; decide⟩ (Nat.le_of_ble_eq_true rfl) ⟨Nat.zero_le _, Nat.zero_le _⟩ rfl (fun o h => c_X7_has l _ _ _ o h) (fun o17 => ?_)
  exact s_xrz hR dX7_isInForce_20

def f_X7_requireShape_b15 (p1 : Int32)  (S : HS)  : Option (XO) :=
some (S, (1, (0 : Int32)))
def f_X7_requireShape (p1 : Int32) (S : HS) : Option (XO) :=
if p1 < 0 then
f_X7_requireShape_b15 p1  S
else
if p1 < (S.1 2 0) then
some (S, ((0 : Nat), (0 : Int32)))
else
f_X7_requireShape_b15 p1  S
def rm_X7_requireShape : Room := { frames := 6, cells := 0, slots := 0, locals := 90 }
def rmT_X7_requireShape : Room := { frames := 6, cells := 1, slots := 6, locals := 90 }
set_option maxRecDepth 100000 in
set_option maxHeartbeats 4000000 in
theorem c_X7_requireShape (l : Launch) (hl9 : l.stackTraces = false) (p1 : Int32)  (S : HS) (out : XO) (h : f_X7_requireShape p1 S = some out) : CtX l yX7_requireShape cX7_requireShape 2 none rm_X7_requireShape rmT_X7_requireShape [vR 0, vI p1] S out := by
  refine CtX.intro hl9 (own := RX7) (lv := [(0, vR 0), (1, vI p1)]) (by decide +kernel) rfl ⟨rfl, rfl⟩ ⟨rfl, rfl, rfl, rfl⟩ rfl (Nat.le_of_ble_eq_true rfl) ?_
  intro R G hF hG hR hT hX
  revert h
  have hb15 : ∀ (S : HS), f_X7_requireShape_b15 p1 S  = some out → G 0 0 S [] 15 [] := by
    intro S
    unfold f_X7_requireShape_b15
    exact s_thr hT (by decide) thw_X7_requireShape_15 ⟨by rw [hF.1]; decide, by rw [hF.2]; decide⟩ (Nat.le_of_ble_eq_true rfl)
  unfold f_X7_requireShape
  refine s_iload_n hG dX7_requireShape_0 rfl ?_
  refine s_if_lt hG (tgt := 15) dX7_requireShape_1 (by decide) ?_ ?_
  · refine s_lv hG [] rfl ?_
    exact hb15 _
  · refine s_iload_n hG dX7_requireShape_4 rfl ?_
    refine s_aload_n hG dX7_requireShape_5 rfl ?_
    refine s_getC hG dX7_requireShape_6 fl_RX7_20 (rfl) ?_
    refine s_getI hG dX7_requireShape_9 fl_RX7_95 (rfl) ?_
    refine s_icmp_lt hG (tgt := 26) dX7_requireShape_12 (by decide) ?_ ?_
    · exact s_xrv hR dX7_requireShape_26
    · refine s_lv hG [] rfl ?_
      exact hb15 _

def f_X7_isThere (p1 : Int32) (S : HS) : Option (XO) :=
(f_X7_requireShape p1 S).bind (fun o2 => if o2.2.1 = 0 then
(fun (o2 : XO) =>
rf (o2.1.2.2 16 1) 0 (fun b9 =>
(f_X7_has ((o2.1.1 b9 5).toInt64) p1 o2.1).bind (fun o17 =>
if nz o17 = true then some (o2.1, ((0 : Nat), o17)) else none))) o2
else some (o2.1, (o2.2.1, 0)))
def rm_X7_isThere : Room := { frames := 7, cells := 0, slots := 0, locals := 111 }
def rmT_X7_isThere : Room := { frames := 7, cells := 1, slots := 6, locals := 111 }
set_option maxRecDepth 100000 in
set_option maxHeartbeats 4000000 in
theorem c_X7_isThere (l : Launch) (hl9 : l.stackTraces = false) (p1 : Int32)  (S : HS) (out : XO) (h : f_X7_isThere p1 S = some out) : CtX l yX7_isThere cX7_isThere 2 (some .boolean) rm_X7_isThere rmT_X7_isThere [vR 0, vI p1] S out := by
  refine CtX.intro hl9 (own := RX7) (lv := [(0, vR 0), (1, vI p1)]) (by decide +kernel) rfl ⟨rfl, rfl⟩ ⟨rfl, rfl, rfl, rfl⟩ rfl (Nat.le_of_ble_eq_true rfl) ?_
  intro R G hF hG hR hT hX
  revert h
  unfold f_X7_isThere
  refine s_aload_n hG dX7_isThere_0 rfl ?_
  refine s_iload_n hG dX7_isThere_1 rfl ?_
  refine s_xV hG hX (as := [vI p1]) (st := []) (rm := rm_X7_requireShape) (rmT := rmT_X7_requireShape) rfl dX7_isThere_2 ml_RX7_112 (tb8 (mem_i 9 rfl)) (rfl) (tb8 (mem_i 11 rfl)) rfl ⟨rfl, rfl⟩ ⟨rfl, rfl, rfl, rfl⟩ ⟨by rw [hF.1]; decide, by rw [hF.2]; decide⟩ (Nat.le_of_ble_eq_true rfl) rfl (fun o h => c_X7_requireShape l hl9 _ _ o h) (fun o2 => ?_)
  refine s_aload_n hG dX7_isThere_5 rfl ?_
  refine s_getC hG dX7_isThere_6 fl_RX7_43 (rfl) ?_
  refine s_getR hG (cj := 0) dX7_isThere_9 fl_RX7_133 (rfl) (fun b9 hb_9 => ?_)
  refine s_getI hG dX7_isThere_12 fl_RX7_196 (fk0_5 _ hb_9) ?_
  refine s_i2l hG dX7_isThere_15 ?_
  refine s_iload_n hG dX7_isThere_16 rfl ?_
  refine s_csP hG (as := [vL ((o2.1.1 b9 5).toInt64), vI p1]) (st := []) (rm := rm_X7_has) dX7_isThere_17 ml_RX7_192 (tb6 (mem_i 14 rfl)) rfl ⟨rfl, rfl⟩ ⟨by rw [hF.1]; decide, by rw [hF.2]; decide⟩ (Nat.le_of_ble_eq_true rfl) ⟨Nat.zero_le _, Nat.zero_le _⟩ rfl (fun o h => c_X7_has l _ _ _ o h) (fun o17 => ?_)
  exact s_xrz hR dX7_isThere_20

def f_X7_isVoid (p1 : Int32) (S : HS) : Option (XO) :=
(f_X7_requireAct p1 S).bind (fun o2 => if o2.2.1 = 0 then
(fun (o2 : XO) =>
(f_X7_has (o2.1.2.1 16 3) p1 o2.1).bind (fun o13 =>
if nz o13 = true then some (o2.1, ((0 : Nat), o13)) else none)) o2
else some (o2.1, (o2.2.1, 0)))
def rm_X7_isVoid : Room := { frames := 7, cells := 0, slots := 0, locals := 111 }
def rmT_X7_isVoid : Room := { frames := 7, cells := 1, slots := 6, locals := 111 }
set_option maxRecDepth 100000 in
set_option maxHeartbeats 4000000 in
theorem c_X7_isVoid (l : Launch) (hl9 : l.stackTraces = false) (p1 : Int32)  (S : HS) (out : XO) (h : f_X7_isVoid p1 S = some out) : CtX l yX7_isVoid cX7_isVoid 2 (some .boolean) rm_X7_isVoid rmT_X7_isVoid [vR 0, vI p1] S out := by
  refine CtX.intro hl9 (own := RX7) (lv := [(0, vR 0), (1, vI p1)]) (by decide +kernel) rfl ⟨rfl, rfl⟩ ⟨rfl, rfl, rfl, rfl⟩ rfl (Nat.le_of_ble_eq_true rfl) ?_
  intro R G hF hG hR hT hX
  revert h
  unfold f_X7_isVoid
  refine s_aload_n hG dX7_isVoid_0 rfl ?_
  refine s_iload_n hG dX7_isVoid_1 rfl ?_
  refine s_xV hG hX (as := [vI p1]) (st := []) (rm := rm_X7_requireAct) (rmT := rmT_X7_requireAct) rfl dX7_isVoid_2 ml_RX7_189 (tb12 (mem_i 23 rfl)) (rfl) (tb12 (mem_i 25 rfl)) rfl ⟨rfl, rfl⟩ ⟨rfl, rfl, rfl, rfl⟩ ⟨by rw [hF.1]; decide, by rw [hF.2]; decide⟩ (Nat.le_of_ble_eq_true rfl) rfl (fun o h => c_X7_requireAct l hl9 _ _ o h) (fun o2 => ?_)
  refine s_aload_n hG dX7_isVoid_5 rfl ?_
  refine s_getC hG dX7_isVoid_6 fl_RX7_43 (rfl) ?_
  refine s_getL hG dX7_isVoid_9 fl_RX7_167 (rfl) ?_
  refine s_iload_n hG dX7_isVoid_12 rfl ?_
  refine s_csP hG (as := [vL (o2.1.2.1 16 3), vI p1]) (st := []) (rm := rm_X7_has) dX7_isVoid_13 ml_RX7_192 (tb6 (mem_i 14 rfl)) rfl ⟨rfl, rfl⟩ ⟨by rw [hF.1]; decide, by rw [hF.2]; decide⟩ (Nat.le_of_ble_eq_true rfl) ⟨Nat.zero_le _, Nat.zero_le _⟩ rfl (fun o h => c_X7_has l _ _ _ o h) (fun o13 => ?_)
  exact s_xrz hR dX7_isVoid_16

def f_X7_lay_b32 (p1 : Int32) (p2 : Int32) (p3 : Int32) (p4 : Int32)  (S : HS)  : Option (XO) :=
some (S, (2, (0 : Int32)))
def f_X7_lay (p1 : Int32) (p2 : Int32) (p3 : Int32) (p4 : Int32) (S : HS) : Option (XO) :=
(f_X7_requireDrawer p1 S).bind (fun o2 => if o2.2.1 = 0 then
(fun (o2 : XO) =>
(f_X7_requireShape p3 o2.1).bind (fun o7 => if o7.2.1 = 0 then
(fun (o7 : XO) =>
(f_X7_requireShape p4 o7.1).bind (fun o13 => if o13.2.1 = 0 then
(fun (o13 : XO) =>
if p2 < 0 then
f_X7_lay_b32 p1 p2 p3 p4  o13.1
else
if (6 : Int32) < p2 then
f_X7_lay_b32 p1 p2 p3 p4  o13.1
else
if p3 = p4 then
f_X7_lay_b32 p1 p2 p3 p4  o13.1
else
if (o13.1.1 5 0) < (12 : Int32) then
(f_X6_draft (3 : Int32) (o13.1.1 5 0) (0 : Int32) (0 : Int32) (0 : Int32) (0 : Int32) o13.1).bind (fun o79 =>
(f_X4_draft p2 p3 p4 o79).bind (fun o90 =>
(f_X7_doDraft p1 o90).bind (fun o95 => if o95.2.1 = 0 then
(fun (o95 : XO) =>
some ((sI o95.1 5 0 ((o95.1.1 5 0) + (1 : Int32))), ((0 : Nat), (o13.1.1 5 0)))) o95
else some (o95.1, (o95.2.1, 0)))))
else
some (o13.1, (3, (0 : Int32)))) o13
else some (o13.1, (o13.2.1, 0)))) o7
else some (o7.1, (o7.2.1, 0)))) o2
else some (o2.1, (o2.2.1, 0)))
def rm_X7_lay : Room := { frames := 7, cells := 0, slots := 0, locals := 184 }
def rmT_X7_lay : Room := { frames := 7, cells := 1, slots := 6, locals := 184 }
set_option maxRecDepth 100000 in
set_option maxHeartbeats 4000000 in
theorem c_X7_lay (l : Launch) (hl9 : l.stackTraces = false) (p1 : Int32) (p2 : Int32) (p3 : Int32) (p4 : Int32)  (S : HS) (out : XO) (h : f_X7_lay p1 p2 p3 p4 S = some out) : CtX l yX7_lay cX7_lay 6 (some .int) rm_X7_lay rmT_X7_lay [vR 0, vI p1, vI p2, vI p3, vI p4] S out := by
  refine CtX.intro hl9 (own := RX7) (lv := [(0, vR 0), (1, vI p1), (2, vI p2), (3, vI p3), (4, vI p4)]) (by decide +kernel) rfl ⟨rfl, rfl⟩ ⟨rfl, rfl, rfl, rfl⟩ rfl (Nat.le_of_ble_eq_true rfl) ?_
  intro R G hF hG hR hT hX
  revert h
  have hb32 : ∀ (S : HS), f_X7_lay_b32 p1 p2 p3 p4 S  = some out → G 0 0 S [] 32 [] := by
    intro S
    unfold f_X7_lay_b32
    exact s_thr hT (by decide) thw_X7_lay_32 ⟨by rw [hF.1]; decide, by rw [hF.2]; decide⟩ (Nat.le_of_ble_eq_true rfl)
  unfold f_X7_lay
  refine s_aload_n hG dX7_lay_0 rfl ?_
  refine s_iload_n hG dX7_lay_1 rfl ?_
  refine s_xV hG hX (as := [vI p1]) (st := []) (rm := rm_X7_requireDrawer) (rmT := rmT_X7_requireDrawer) rfl dX7_lay_2 ml_RX7_84 (tb4 (mem_i 29 rfl)) (rfl) (tb5 (mem_i 1 rfl)) rfl ⟨rfl, rfl⟩ ⟨rfl, rfl, rfl, rfl⟩ ⟨by rw [hF.1]; decide, by rw [hF.2]; decide⟩ (Nat.le_of_ble_eq_true rfl) rfl (fun o h => c_X7_requireDrawer l hl9 _ _ o h) (fun o2 => ?_)
  refine s_aload_n hG dX7_lay_5 rfl ?_
  refine s_iload_n hG dX7_lay_6 rfl ?_
  refine s_xV hG hX (as := [vI p3]) (st := []) (rm := rm_X7_requireShape) (rmT := rmT_X7_requireShape) rfl dX7_lay_7 ml_RX7_112 (tb8 (mem_i 9 rfl)) (rfl) (tb8 (mem_i 11 rfl)) rfl ⟨rfl, rfl⟩ ⟨rfl, rfl, rfl, rfl⟩ ⟨by rw [hF.1]; decide, by rw [hF.2]; decide⟩ (Nat.le_of_ble_eq_true rfl) rfl (fun o h => c_X7_requireShape l hl9 _ _ o h) (fun o7 => ?_)
  refine s_aload_n hG dX7_lay_10 rfl ?_
  refine s_iload hG dX7_lay_11 rfl ?_
  refine s_xV hG hX (as := [vI p4]) (st := []) (rm := rm_X7_requireShape) (rmT := rmT_X7_requireShape) rfl dX7_lay_13 ml_RX7_112 (tb8 (mem_i 9 rfl)) (rfl) (tb8 (mem_i 11 rfl)) rfl ⟨rfl, rfl⟩ ⟨rfl, rfl, rfl, rfl⟩ ⟨by rw [hF.1]; decide, by rw [hF.2]; decide⟩ (Nat.le_of_ble_eq_true rfl) rfl (fun o h => c_X7_requireShape l hl9 _ _ o h) (fun o13 => ?_)
  refine s_iload_n hG dX7_lay_16 rfl ?_
  refine s_if_lt hG (tgt := 32) dX7_lay_17 (by decide) ?_ ?_
  · refine s_lv hG [] rfl ?_
    exact hb32 _
  · refine s_iload_n hG dX7_lay_20 rfl ?_
    refine s_bipush hG (v := (6 : Int32)) dX7_lay_21 (by decide) ?_
    refine s_icmp_gt hG (tgt := 32) dX7_lay_23 (by decide) ?_ ?_
    · refine s_lv hG [] rfl ?_
      exact hb32 _
    · refine s_iload_n hG dX7_lay_26 rfl ?_
      refine s_iload hG dX7_lay_27 rfl ?_
      refine s_icmp_ne hG (tgt := 42) dX7_lay_29 (by decide) ?_ ?_
      · refine s_aload_n hG dX7_lay_42 rfl ?_
        refine s_getC hG dX7_lay_43 fl_RX7_27 (rfl) ?_
        refine s_getI hG dX7_lay_46 fl_RX7_124 (rfl) ?_
        refine s_istore hG (lv' := [(5, vI (o13.1.1 5 0)), (0, vR 0), (1, vI p1), (2, vI p2), (3, vI p3), (4, vI p4)]) dX7_lay_49 (by decide) rfl ?_
        refine s_iload hG dX7_lay_51 rfl ?_
        refine s_bipush hG (v := (12 : Int32)) dX7_lay_53 (by decide) ?_
        refine s_icmp_lt hG (tgt := 68) dX7_lay_55 (by decide) ?_ ?_
        · refine s_aload_n hG dX7_lay_68 rfl ?_
          refine s_getC hG dX7_lay_69 fl_RX7_34 (rfl) ?_
          refine s_iconst hG (v := (3 : Int32)) dX7_lay_72 (by decide) ?_
          refine s_iload hG dX7_lay_73 rfl ?_
          refine s_iconst hG (v := (0 : Int32)) dX7_lay_75 (by decide) ?_
          refine s_iconst hG (v := (0 : Int32)) dX7_lay_76 (by decide) ?_
          refine s_iconst hG (v := (0 : Int32)) dX7_lay_77 (by decide) ?_
          refine s_iconst hG (v := (0 : Int32)) dX7_lay_78 (by decide) ?_
          refine s_cvV hG (as := [vI (3 : Int32), vI (o13.1.1 5 0), vI (0 : Int32), vI (0 : Int32), vI (0 : Int32), vI (0 : Int32)]) (st := []) (rm := rm_X6_draft) dX7_lay_79 ml_RX7_100 (rfl) (tb5 (mem_i 13 rfl)) rfl ⟨rfl, rfl⟩ ⟨by rw [hF.1]; decide, by rw [hF.2]; decide⟩ (Nat.le_of_ble_eq_true rfl) ⟨Nat.zero_le _, Nat.zero_le _⟩ rfl (fun o h => c_X6_draft l _ _ _ _ _ _ _ o h) (fun o79 => ?_)
          refine s_aload_n hG dX7_lay_82 rfl ?_
          refine s_getC hG dX7_lay_83 fl_RX7_27 (rfl) ?_
          refine s_iload_n hG dX7_lay_86 rfl ?_
          refine s_iload_n hG dX7_lay_87 rfl ?_
          refine s_iload hG dX7_lay_88 rfl ?_
          refine s_cvV hG (as := [vI p2, vI p3, vI p4]) (st := []) (rm := rm_X4_draft) dX7_lay_90 ml_RX7_127 (rfl) (tb8 (mem_i 25 rfl)) rfl ⟨rfl, rfl⟩ ⟨by rw [hF.1]; decide, by rw [hF.2]; decide⟩ (Nat.le_of_ble_eq_true rfl) ⟨Nat.zero_le _, Nat.zero_le _⟩ rfl (fun o h => c_X4_draft l _ _ _ _ o h) (fun o90 => ?_)
          refine s_aload_n hG dX7_lay_93 rfl ?_
          refine s_iload_n hG dX7_lay_94 rfl ?_
          refine s_xV hG hX (as := [vI p1]) (st := []) (rm := rm_X7_doDraft) (rmT := rmT_X7_doDraft) rfl dX7_lay_95 ml_RX7_107 (tb5 (mem_i 20 rfl)) (rfl) (tb5 (mem_i 22 rfl)) rfl ⟨rfl, rfl⟩ ⟨rfl, rfl, rfl, rfl⟩ ⟨by rw [hF.1]; decide, by rw [hF.2]; decide⟩ (Nat.le_of_ble_eq_true rfl) rfl (fun o h => c_X7_doDraft l hl9 _ _ o h) (fun o95 => ?_)
          refine s_aload_n hG dX7_lay_98 rfl ?_
          refine s_getC hG dX7_lay_99 fl_RX7_27 (rfl) ?_
          refine s_dup hG dX7_lay_102 rfl ?_
          refine s_getI hG dX7_lay_103 fl_RX7_124 (rfl) ?_
          refine s_iconst hG (v := (1 : Int32)) dX7_lay_106 (by decide) ?_
          refine s_iadd hG dX7_lay_107 ?_
          refine s_putI hG dX7_lay_108 fl_RX7_124 fp_4_0 (rfl) ⟨rfl, rfl⟩ ?_
          refine s_iload hG dX7_lay_111 rfl ?_
          exact s_xri hR dX7_lay_113
        · exact s_thr hT (by decide) thw_X7_lay_58 ⟨by rw [hF.1]; decide, by rw [hF.2]; decide⟩ (Nat.le_of_ble_eq_true rfl)
      · refine s_lv hG [] rfl ?_
        exact hb32 _

def f_X7_length (p1 : Int32) (S : HS) : Option (XO) :=
(f_X7_requireMade p1 S).bind (fun o2 => if o2.2.1 = 0 then
(fun (o2 : XO) =>
(f_X2_charsOf p1 o2.1).bind (fun o10 =>
some (o2.1, ((0 : Nat), o10)))) o2
else some (o2.1, (o2.2.1, 0)))
def rm_X7_length : Room := { frames := 7, cells := 0, slots := 0, locals := 111 }
def rmT_X7_length : Room := { frames := 7, cells := 1, slots := 6, locals := 111 }
set_option maxRecDepth 100000 in
set_option maxHeartbeats 4000000 in
theorem c_X7_length (l : Launch) (hl9 : l.stackTraces = false) (p1 : Int32)  (S : HS) (out : XO) (h : f_X7_length p1 S = some out) : CtX l yX7_length cX7_length 2 (some .int) rm_X7_length rmT_X7_length [vR 0, vI p1] S out := by
  refine CtX.intro hl9 (own := RX7) (lv := [(0, vR 0), (1, vI p1)]) (by decide +kernel) rfl ⟨rfl, rfl⟩ ⟨rfl, rfl, rfl, rfl⟩ rfl (Nat.le_of_ble_eq_true rfl) ?_
  intro R G hF hG hR hT hX
  revert h
  unfold f_X7_length
  refine s_aload_n hG dX7_length_0 rfl ?_
  refine s_iload_n hG dX7_length_1 rfl ?_
  refine s_xV hG hX (as := [vI p1]) (st := []) (rm := rm_X7_requireMade) (rmT := rmT_X7_requireMade) rfl dX7_length_2 ml_RX7_247 (tb11 (mem_i 11 rfl)) (rfl) (tb11 (mem_i 13 rfl)) rfl ⟨rfl, rfl⟩ ⟨rfl, rfl, rfl, rfl⟩ ⟨by rw [hF.1]; decide, by rw [hF.2]; decide⟩ (Nat.le_of_ble_eq_true rfl) rfl (fun o h => c_X7_requireMade l hl9 _ _ o h) (fun o2 => ?_)
  refine s_aload_n hG dX7_length_5 rfl ?_
  refine s_getC hG dX7_length_6 fl_RX7_53 (rfl) ?_
  refine s_iload_n hG dX7_length_9 rfl ?_
  refine s_cvP hG (as := [vI p1]) (st := []) (rm := rm_X2_charsOf) dX7_length_10 ml_RX7_250 (rfl) (tb11 (mem_i 15 rfl)) rfl ⟨rfl, rfl⟩ ⟨by rw [hF.1]; decide, by rw [hF.2]; decide⟩ (Nat.le_of_ble_eq_true rfl) ⟨Nat.zero_le _, Nat.zero_le _⟩ rfl (fun o h => c_X2_charsOf l _ _ o h) (fun o10 => ?_)
  exact s_xri hR dX7_length_13

def f_X7_make  (S : HS) : Option (HS × Int32) :=
if (S.1 30 1) < (S.1 30 0) then
some ((sI S 30 1 ((S.1 30 1) + (1 : Int32))), (((sI S 30 1 ((S.1 30 1) + (1 : Int32))).1 30 1) - (1 : Int32)))
else
some (S, (-1 : Int32))
def rm_X7_make : Room := { frames := 0, cells := 0, slots := 0, locals := 0 }
set_option maxRecDepth 100000 in
set_option maxHeartbeats 4000000 in
theorem c_X7_make (l : Launch)   (S : HS) (out : HS × Int32) (h : f_X7_make  S = some out) : Ct l yX7_make cX7_make 1 (some .int) rm_X7_make [vR 0] S (some (vI out.2)) out.1 := by
  refine Ct.intro (own := RX7) (lv := [(0, vR 0)]) (by decide +kernel) rfl ⟨rfl, rfl⟩ rfl (Nat.le_of_ble_eq_true rfl) ?_
  intro G hG hR
  revert h
  unfold f_X7_make
  refine s_aload_n hG dX7_make_0 rfl ?_
  refine s_getC hG dX7_make_1 fl_RX7_53 (rfl) ?_
  refine s_getI hG dX7_make_4 fl_RX7_246 (rfl) ?_
  refine s_aload_n hG dX7_make_7 rfl ?_
  refine s_getC hG dX7_make_8 fl_RX7_53 (rfl) ?_
  refine s_getI hG dX7_make_11 fl_RX7_233 (rfl) ?_
  refine s_icmp_lt hG (tgt := 19) dX7_make_14 (by decide) ?_ ?_
  · refine s_aload_n hG dX7_make_19 rfl ?_
    refine s_getC hG dX7_make_20 fl_RX7_53 (rfl) ?_
    refine s_dup hG dX7_make_23 rfl ?_
    refine s_getI hG dX7_make_24 fl_RX7_246 (rfl) ?_
    refine s_iconst hG (v := (1 : Int32)) dX7_make_27 (by decide) ?_
    refine s_iadd hG dX7_make_28 ?_
    refine s_putI hG dX7_make_29 fl_RX7_246 fp_2_1 (rfl) ⟨rfl, rfl⟩ ?_
    refine s_aload_n hG dX7_make_32 rfl ?_
    refine s_getC hG dX7_make_33 fl_RX7_53 (rfl) ?_
    refine s_getI hG dX7_make_36 fl_RX7_246 (rfl) ?_
    refine s_iconst hG (v := (1 : Int32)) dX7_make_39 (by decide) ?_
    refine s_isub hG dX7_make_40 ?_
    exact s_riC hR dX7_make_41
  · refine s_iconst hG (v := (-1 : Int32)) dX7_make_17 (by decide) ?_
    exact s_riC hR dX7_make_18

def f_X7_move (p1 : Int32) (p2 : Int32) (p3 : Int32) (p4 : Int32) (S : HS) : Option (XO) :=
(f_X7_requireDrawer p1 S).bind (fun o2 => if o2.2.1 = 0 then
(fun (o2 : XO) =>
(f_X7_requireShape p2 o2.1).bind (fun o7 => if o7.2.1 = 0 then
(fun (o7 : XO) =>
(f_X7_requirePlace p3 p4 o7.1).bind (fun o14 => if o14.2.1 = 0 then
(fun (o14 : XO) =>
(f_X6_draft (1 : Int32) p2 p3 p4 (0 : Int32) (0 : Int32) o14.1).bind (fun o28 =>
(f_X7_doDraft p1 o28).bind (fun o33 => if o33.2.1 = 0 then
(fun (o33 : XO) =>
(f_X3_changedShapes 16 o33.1).bind (fun o40 =>
some (o33.1, ((0 : Nat), o40)))) o33
else some (o33.1, (o33.2.1, 0))))) o14
else some (o14.1, (o14.2.1, 0)))) o7
else some (o7.1, (o7.2.1, 0)))) o2
else some (o2.1, (o2.2.1, 0)))
def rm_X7_move : Room := { frames := 7, cells := 0, slots := 0, locals := 184 }
def rmT_X7_move : Room := { frames := 7, cells := 1, slots := 6, locals := 184 }
set_option maxRecDepth 100000 in
set_option maxHeartbeats 4000000 in
theorem c_X7_move (l : Launch) (hl9 : l.stackTraces = false) (p1 : Int32) (p2 : Int32) (p3 : Int32) (p4 : Int32)  (S : HS) (out : XO) (h : f_X7_move p1 p2 p3 p4 S = some out) : CtX l yX7_move cX7_move 5 (some .int) rm_X7_move rmT_X7_move [vR 0, vI p1, vI p2, vI p3, vI p4] S out := by
  refine CtX.intro hl9 (own := RX7) (lv := [(0, vR 0), (1, vI p1), (2, vI p2), (3, vI p3), (4, vI p4)]) (by decide +kernel) rfl ⟨rfl, rfl⟩ ⟨rfl, rfl, rfl, rfl⟩ rfl (Nat.le_of_ble_eq_true rfl) ?_
  intro R G hF hG hR hT hX
  revert h
  unfold f_X7_move
  refine s_aload_n hG dX7_move_0 rfl ?_
  refine s_iload_n hG dX7_move_1 rfl ?_
  refine s_xV hG hX (as := [vI p1]) (st := []) (rm := rm_X7_requireDrawer) (rmT := rmT_X7_requireDrawer) rfl dX7_move_2 ml_RX7_84 (tb4 (mem_i 29 rfl)) (rfl) (tb5 (mem_i 1 rfl)) rfl ⟨rfl, rfl⟩ ⟨rfl, rfl, rfl, rfl⟩ ⟨by rw [hF.1]; decide, by rw [hF.2]; decide⟩ (Nat.le_of_ble_eq_true rfl) rfl (fun o h => c_X7_requireDrawer l hl9 _ _ o h) (fun o2 => ?_)
  refine s_aload_n hG dX7_move_5 rfl ?_
  refine s_iload_n hG dX7_move_6 rfl ?_
  refine s_xV hG hX (as := [vI p2]) (st := []) (rm := rm_X7_requireShape) (rmT := rmT_X7_requireShape) rfl dX7_move_7 ml_RX7_112 (tb8 (mem_i 9 rfl)) (rfl) (tb8 (mem_i 11 rfl)) rfl ⟨rfl, rfl⟩ ⟨rfl, rfl, rfl, rfl⟩ ⟨by rw [hF.1]; decide, by rw [hF.2]; decide⟩ (Nat.le_of_ble_eq_true rfl) rfl (fun o h => c_X7_requireShape l hl9 _ _ o h) (fun o7 => ?_)
  refine s_aload_n hG dX7_move_10 rfl ?_
  refine s_iload_n hG dX7_move_11 rfl ?_
  refine s_iload hG dX7_move_12 rfl ?_
  refine s_xV hG hX (as := [vI p3, vI p4]) (st := []) (rm := rm_X7_requirePlace) (rmT := rmT_X7_requirePlace) rfl dX7_move_14 ml_RX7_88 (tb5 (mem_i 3 rfl)) (rfl) (tb5 (mem_i 5 rfl)) rfl ⟨rfl, rfl⟩ ⟨rfl, rfl, rfl, rfl⟩ ⟨by rw [hF.1]; decide, by rw [hF.2]; decide⟩ (Nat.le_of_ble_eq_true rfl) rfl (fun o h => c_X7_requirePlace l hl9 _ _ _ o h) (fun o14 => ?_)
  refine s_aload_n hG dX7_move_17 rfl ?_
  refine s_getC hG dX7_move_18 fl_RX7_34 (rfl) ?_
  refine s_iconst hG (v := (1 : Int32)) dX7_move_21 (by decide) ?_
  refine s_iload_n hG dX7_move_22 rfl ?_
  refine s_iload_n hG dX7_move_23 rfl ?_
  refine s_iload hG dX7_move_24 rfl ?_
  refine s_iconst hG (v := (0 : Int32)) dX7_move_26 (by decide) ?_
  refine s_iconst hG (v := (0 : Int32)) dX7_move_27 (by decide) ?_
  refine s_cvV hG (as := [vI (1 : Int32), vI p2, vI p3, vI p4, vI (0 : Int32), vI (0 : Int32)]) (st := []) (rm := rm_X6_draft) dX7_move_28 ml_RX7_100 (rfl) (tb5 (mem_i 13 rfl)) rfl ⟨rfl, rfl⟩ ⟨by rw [hF.1]; decide, by rw [hF.2]; decide⟩ (Nat.le_of_ble_eq_true rfl) ⟨Nat.zero_le _, Nat.zero_le _⟩ rfl (fun o h => c_X6_draft l _ _ _ _ _ _ _ o h) (fun o28 => ?_)
  refine s_aload_n hG dX7_move_31 rfl ?_
  refine s_iload_n hG dX7_move_32 rfl ?_
  refine s_xV hG hX (as := [vI p1]) (st := []) (rm := rm_X7_doDraft) (rmT := rmT_X7_doDraft) rfl dX7_move_33 ml_RX7_107 (tb5 (mem_i 20 rfl)) (rfl) (tb5 (mem_i 22 rfl)) rfl ⟨rfl, rfl⟩ ⟨rfl, rfl, rfl, rfl⟩ ⟨by rw [hF.1]; decide, by rw [hF.2]; decide⟩ (Nat.le_of_ble_eq_true rfl) rfl (fun o h => c_X7_doDraft l hl9 _ _ o h) (fun o33 => ?_)
  refine s_aload_n hG dX7_move_36 rfl ?_
  refine s_getC hG dX7_move_37 fl_RX7_43 (rfl) ?_
  refine s_cvP hG (as := []) (st := []) (rm := rm_X3_changedShapes) dX7_move_40 ml_RX7_115 (rfl) (tb8 (mem_i 13 rfl)) rfl ⟨rfl, rfl⟩ ⟨by rw [hF.1]; decide, by rw [hF.2]; decide⟩ (Nat.le_of_ble_eq_true rfl) ⟨Nat.zero_le _, Nat.zero_le _⟩ rfl (fun o h => c_X3_changedShapes l _ (rfl) _ o h) (fun o40 => ?_)
  exact s_xri hR dX7_move_43

def f_X7_requireWhat_b9 (p1 : Int32)  (S : HS)  : Option (XO) :=
some (S, (2, (0 : Int32)))
def f_X7_requireWhat (p1 : Int32) (S : HS) : Option (XO) :=
if p1 < 0 then
f_X7_requireWhat_b9 p1  S
else
if p1 < (4 : Int32) then
some (S, ((0 : Nat), (0 : Int32)))
else
f_X7_requireWhat_b9 p1  S
def rm_X7_requireWhat : Room := { frames := 6, cells := 0, slots := 0, locals := 90 }
def rmT_X7_requireWhat : Room := { frames := 6, cells := 1, slots := 6, locals := 90 }
set_option maxRecDepth 100000 in
set_option maxHeartbeats 4000000 in
theorem c_X7_requireWhat (l : Launch) (hl9 : l.stackTraces = false) (p1 : Int32)  (S : HS) (out : XO) (h : f_X7_requireWhat p1 S = some out) : CtX l yX7_requireWhat cX7_requireWhat 2 none rm_X7_requireWhat rmT_X7_requireWhat [vR 0, vI p1] S out := by
  refine CtX.intro hl9 (own := RX7) (lv := [(0, vR 0), (1, vI p1)]) (by decide +kernel) rfl ⟨rfl, rfl⟩ ⟨rfl, rfl, rfl, rfl⟩ rfl (Nat.le_of_ble_eq_true rfl) ?_
  intro R G hF hG hR hT hX
  revert h
  have hb9 : ∀ (S : HS), f_X7_requireWhat_b9 p1 S  = some out → G 0 0 S [] 9 [] := by
    intro S
    unfold f_X7_requireWhat_b9
    exact s_thr hT (by decide) thw_X7_requireWhat_9 ⟨by rw [hF.1]; decide, by rw [hF.2]; decide⟩ (Nat.le_of_ble_eq_true rfl)
  unfold f_X7_requireWhat
  refine s_iload_n hG dX7_requireWhat_0 rfl ?_
  refine s_if_lt hG (tgt := 9) dX7_requireWhat_1 (by decide) ?_ ?_
  · refine s_lv hG [] rfl ?_
    exact hb9 _
  · refine s_iload_n hG dX7_requireWhat_4 rfl ?_
    refine s_iconst hG (v := (4 : Int32)) dX7_requireWhat_5 (by decide) ?_
    refine s_icmp_lt hG (tgt := 20) dX7_requireWhat_6 (by decide) ?_ ?_
    · exact s_xrv hR dX7_requireWhat_20
    · refine s_lv hG [] rfl ?_
      exact hb9 _

def f_X7_number (p1 : Int32) (p2 : Int32) (S : HS) : Option (XO) :=
(f_X7_requireShape p1 S).bind (fun o2 => if o2.2.1 = 0 then
(fun (o2 : XO) =>
(f_X7_requireWhat p2 o2.1).bind (fun o7 => if o7.2.1 = 0 then
(fun (o7 : XO) =>
rf (o7.1.2.2 16 1) 0 (fun b15 =>
(f_X7_requireOn b15 p1 o7.1).bind (fun o19 => if o19.2.1 = 0 then
(fun (o19 : XO) =>
rf (o19.1.2.2 16 1) 0 (fun b26 =>
(f_X0_numberOf b26 p1 p2 o19.1).bind (fun o31 =>
some (o19.1, ((0 : Nat), o31))))) o19
else some (o19.1, (o19.2.1, 0))))) o7
else some (o7.1, (o7.2.1, 0)))) o2
else some (o2.1, (o2.2.1, 0)))
def rm_X7_number : Room := { frames := 7, cells := 0, slots := 0, locals := 112 }
def rmT_X7_number : Room := { frames := 7, cells := 1, slots := 6, locals := 112 }
set_option maxRecDepth 100000 in
set_option maxHeartbeats 4000000 in
theorem c_X7_number (l : Launch) (hl9 : l.stackTraces = false) (p1 : Int32) (p2 : Int32)  (S : HS) (out : XO) (h : f_X7_number p1 p2 S = some out) : CtX l yX7_number cX7_number 3 (some .int) rm_X7_number rmT_X7_number [vR 0, vI p1, vI p2] S out := by
  refine CtX.intro hl9 (own := RX7) (lv := [(0, vR 0), (1, vI p1), (2, vI p2)]) (by decide +kernel) rfl ⟨rfl, rfl⟩ ⟨rfl, rfl, rfl, rfl⟩ rfl (Nat.le_of_ble_eq_true rfl) ?_
  intro R G hF hG hR hT hX
  revert h
  unfold f_X7_number
  refine s_aload_n hG dX7_number_0 rfl ?_
  refine s_iload_n hG dX7_number_1 rfl ?_
  refine s_xV hG hX (as := [vI p1]) (st := []) (rm := rm_X7_requireShape) (rmT := rmT_X7_requireShape) rfl dX7_number_2 ml_RX7_112 (tb8 (mem_i 9 rfl)) (rfl) (tb8 (mem_i 11 rfl)) rfl ⟨rfl, rfl⟩ ⟨rfl, rfl, rfl, rfl⟩ ⟨by rw [hF.1]; decide, by rw [hF.2]; decide⟩ (Nat.le_of_ble_eq_true rfl) rfl (fun o h => c_X7_requireShape l hl9 _ _ o h) (fun o2 => ?_)
  refine s_aload_n hG dX7_number_5 rfl ?_
  refine s_iload_n hG dX7_number_6 rfl ?_
  refine s_xV hG hX (as := [vI p2]) (st := []) (rm := rm_X7_requireWhat) (rmT := rmT_X7_requireWhat) rfl dX7_number_7 ml_RX7_199 (tb10 (mem_i 20 rfl)) (rfl) (tb10 (mem_i 22 rfl)) rfl ⟨rfl, rfl⟩ ⟨rfl, rfl, rfl, rfl⟩ ⟨by rw [hF.1]; decide, by rw [hF.2]; decide⟩ (Nat.le_of_ble_eq_true rfl) rfl (fun o h => c_X7_requireWhat l hl9 _ _ o h) (fun o7 => ?_)
  refine s_aload_n hG dX7_number_10 rfl ?_
  refine s_aload_n hG dX7_number_11 rfl ?_
  refine s_getC hG dX7_number_12 fl_RX7_43 (rfl) ?_
  refine s_getR hG (cj := 0) dX7_number_15 fl_RX7_133 (rfl) (fun b15 hb_15 => ?_)
  refine s_iload_n hG dX7_number_18 rfl ?_
  refine s_xV hG hX (as := [vR b15, vI p1]) (st := []) (rm := rm_X7_requireOn) (rmT := rmT_X7_requireOn) rfl dX7_number_19 ml_RX7_202 (tb10 (mem_i 23 rfl)) (rfl) (tb10 (mem_i 25 rfl)) rfl ⟨rfl, rfl⟩ ⟨rfl, rfl, rfl, rfl⟩ ⟨by rw [hF.1]; decide, by rw [hF.2]; decide⟩ (Nat.le_of_ble_eq_true rfl) rfl (fun o h => c_X7_requireOn l hl9 _ _ (hb_15) _ o h) (fun o19 => ?_)
  refine s_aload_n hG dX7_number_22 rfl ?_
  refine s_getC hG dX7_number_23 fl_RX7_43 (rfl) ?_
  refine s_getR hG (cj := 0) dX7_number_26 fl_RX7_133 (rfl) (fun b26 hb_26 => ?_)
  refine s_iload_n hG dX7_number_29 rfl ?_
  refine s_iload_n hG dX7_number_30 rfl ?_
  refine s_cvP hG (as := [vI p1, vI p2]) (st := []) (rm := rm_X0_numberOf) dX7_number_31 ml_RX7_206 (hb_26) (tb6 (mem_i 25 rfl)) rfl ⟨rfl, rfl⟩ ⟨by rw [hF.1]; decide, by rw [hF.2]; decide⟩ (Nat.le_of_ble_eq_true rfl) ⟨Nat.zero_le _, Nat.zero_le _⟩ rfl (fun o h => c_X0_numberOf l _ _ _ (hb_26) _ o h) (fun o31 => ?_)
  exact s_xri hR dX7_number_34

def f_X7_numberAnew (p1 : Int32) (p2 : Int32) (S : HS) : Option (XO) :=
(f_X7_requireShape p1 S).bind (fun o2 => if o2.2.1 = 0 then
(fun (o2 : XO) =>
(f_X7_requireWhat p2 o2.1).bind (fun o7 => if o7.2.1 = 0 then
(fun (o7 : XO) =>
(f_X6_counting o7.1).bind (fun o18 =>
(f_X3_redo 17 o18 o7.1).bind (fun o21 =>
rf (o21.2.2 17 1) 0 (fun b29 =>
(f_X7_requireOn b29 p1 o21).bind (fun o33 => if o33.2.1 = 0 then
(fun (o33 : XO) =>
rf (o33.1.2.2 17 1) 0 (fun b40 =>
(f_X0_numberOf b40 p1 p2 o33.1).bind (fun o45 =>
some (o33.1, ((0 : Nat), o45))))) o33
else some (o33.1, (o33.2.1, 0))))))) o7
else some (o7.1, (o7.2.1, 0)))) o2
else some (o2.1, (o2.2.1, 0)))
def rm_X7_numberAnew : Room := { frames := 7, cells := 0, slots := 0, locals := 186 }
def rmT_X7_numberAnew : Room := { frames := 7, cells := 1, slots := 6, locals := 186 }
set_option maxRecDepth 100000 in
set_option maxHeartbeats 4000000 in
theorem c_X7_numberAnew (l : Launch) (hl9 : l.stackTraces = false) (p1 : Int32) (p2 : Int32)  (S : HS) (out : XO) (h : f_X7_numberAnew p1 p2 S = some out) : CtX l yX7_numberAnew cX7_numberAnew 3 (some .int) rm_X7_numberAnew rmT_X7_numberAnew [vR 0, vI p1, vI p2] S out := by
  refine CtX.intro hl9 (own := RX7) (lv := [(0, vR 0), (1, vI p1), (2, vI p2)]) (by decide +kernel) rfl ⟨rfl, rfl⟩ ⟨rfl, rfl, rfl, rfl⟩ rfl (Nat.le_of_ble_eq_true rfl) ?_
  intro R G hF hG hR hT hX
  revert h
  unfold f_X7_numberAnew
  refine s_aload_n hG dX7_numberAnew_0 rfl ?_
  refine s_iload_n hG dX7_numberAnew_1 rfl ?_
  refine s_xV hG hX (as := [vI p1]) (st := []) (rm := rm_X7_requireShape) (rmT := rmT_X7_requireShape) rfl dX7_numberAnew_2 ml_RX7_112 (tb8 (mem_i 9 rfl)) (rfl) (tb8 (mem_i 11 rfl)) rfl ⟨rfl, rfl⟩ ⟨rfl, rfl, rfl, rfl⟩ ⟨by rw [hF.1]; decide, by rw [hF.2]; decide⟩ (Nat.le_of_ble_eq_true rfl) rfl (fun o h => c_X7_requireShape l hl9 _ _ o h) (fun o2 => ?_)
  refine s_aload_n hG dX7_numberAnew_5 rfl ?_
  refine s_iload_n hG dX7_numberAnew_6 rfl ?_
  refine s_xV hG hX (as := [vI p2]) (st := []) (rm := rm_X7_requireWhat) (rmT := rmT_X7_requireWhat) rfl dX7_numberAnew_7 ml_RX7_199 (tb10 (mem_i 20 rfl)) (rfl) (tb10 (mem_i 22 rfl)) rfl ⟨rfl, rfl⟩ ⟨rfl, rfl, rfl, rfl⟩ ⟨by rw [hF.1]; decide, by rw [hF.2]; decide⟩ (Nat.le_of_ble_eq_true rfl) rfl (fun o h => c_X7_requireWhat l hl9 _ _ o h) (fun o7 => ?_)
  refine s_aload_n hG dX7_numberAnew_10 rfl ?_
  refine s_getC hG dX7_numberAnew_11 fl_RX7_47 (rfl) ?_
  refine s_aload_n hG dX7_numberAnew_14 rfl ?_
  refine s_getC hG dX7_numberAnew_15 fl_RX7_34 (rfl) ?_
  refine s_cvQ hG (as := []) (st := [vR 17]) (rm := rm_X6_counting) dX7_numberAnew_18 ml_RX7_159 (rfl) (tb9 (mem_i 18 rfl)) rfl ⟨rfl, rfl⟩ ⟨by rw [hF.1]; decide, by rw [hF.2]; decide⟩ (Nat.le_of_ble_eq_true rfl) ⟨Nat.zero_le _, Nat.zero_le _⟩ rfl (fun o h => c_X6_counting l  _ o h) (fun o18 => ?_)
  refine s_cvV hG (as := [vL o18]) (st := []) (rm := rm_X3_redo) dX7_numberAnew_21 ml_RX7_163 (rfl) (tb9 (mem_i 21 rfl)) rfl ⟨rfl, rfl⟩ ⟨by rw [hF.1]; decide, by rw [hF.2]; decide⟩ (Nat.le_of_ble_eq_true rfl) ⟨Nat.zero_le _, Nat.zero_le _⟩ rfl (fun o h => c_X3_redo l _ _ (rfl) _ o h) (fun o21 => ?_)
  refine s_aload_n hG dX7_numberAnew_24 rfl ?_
  refine s_aload_n hG dX7_numberAnew_25 rfl ?_
  refine s_getC hG dX7_numberAnew_26 fl_RX7_47 (rfl) ?_
  refine s_getR hG (cj := 0) dX7_numberAnew_29 fl_RX7_133 (rfl) (fun b29 hb_29 => ?_)
  refine s_iload_n hG dX7_numberAnew_32 rfl ?_
  refine s_xV hG hX (as := [vR b29, vI p1]) (st := []) (rm := rm_X7_requireOn) (rmT := rmT_X7_requireOn) rfl dX7_numberAnew_33 ml_RX7_202 (tb10 (mem_i 23 rfl)) (rfl) (tb10 (mem_i 25 rfl)) rfl ⟨rfl, rfl⟩ ⟨rfl, rfl, rfl, rfl⟩ ⟨by rw [hF.1]; decide, by rw [hF.2]; decide⟩ (Nat.le_of_ble_eq_true rfl) rfl (fun o h => c_X7_requireOn l hl9 _ _ (hb_29) _ o h) (fun o33 => ?_)
  refine s_aload_n hG dX7_numberAnew_36 rfl ?_
  refine s_getC hG dX7_numberAnew_37 fl_RX7_47 (rfl) ?_
  refine s_getR hG (cj := 0) dX7_numberAnew_40 fl_RX7_133 (rfl) (fun b40 hb_40 => ?_)
  refine s_iload_n hG dX7_numberAnew_43 rfl ?_
  refine s_iload_n hG dX7_numberAnew_44 rfl ?_
  refine s_cvP hG (as := [vI p1, vI p2]) (st := []) (rm := rm_X0_numberOf) dX7_numberAnew_45 ml_RX7_206 (hb_40) (tb6 (mem_i 25 rfl)) rfl ⟨rfl, rfl⟩ ⟨by rw [hF.1]; decide, by rw [hF.2]; decide⟩ (Nat.le_of_ble_eq_true rfl) ⟨Nat.zero_le _, Nat.zero_le _⟩ rfl (fun o h => c_X0_numberOf l _ _ _ (hb_40) _ o h) (fun o45 => ?_)
  exact s_xri hR dX7_numberAnew_48

def f_X7_on (p1 : Int32) (p2 : Int32) (S : HS) : Option (XO) :=
(f_X7_requireDrawer p1 S).bind (fun o2 => if o2.2.1 = 0 then
(fun (o2 : XO) =>
(f_X6_branchOf p1 p2 o2.1).bind (fun o11 =>
if o11 = (-1 : Int32) then
some (o2.1, (1, (0 : Int32)))
else
(f_X6_stand p1 o11 o2.1).bind (fun o36 =>
(f_X6_counting o36).bind (fun o47 =>
(f_X3_redo 16 o47 o36).bind (fun o50 =>
(f_J13_bitCount_95d88 (o50.2.1 16 3) o50).bind (fun o60 =>
some (o50, ((0 : Nat), o60)))))))) o2
else some (o2.1, (o2.2.1, 0)))
def rm_X7_on : Room := { frames := 7, cells := 0, slots := 0, locals := 186 }
def rmT_X7_on : Room := { frames := 7, cells := 1, slots := 6, locals := 186 }
set_option maxRecDepth 100000 in
set_option maxHeartbeats 4000000 in
theorem c_X7_on (l : Launch) (hl9 : l.stackTraces = false) (p1 : Int32) (p2 : Int32)  (S : HS) (out : XO) (h : f_X7_on p1 p2 S = some out) : CtX l yX7_on cX7_on 4 (some .int) rm_X7_on rmT_X7_on [vR 0, vI p1, vI p2] S out := by
  refine CtX.intro hl9 (own := RX7) (lv := [(0, vR 0), (1, vI p1), (2, vI p2)]) (by decide +kernel) rfl ⟨rfl, rfl⟩ ⟨rfl, rfl, rfl, rfl⟩ rfl (Nat.le_of_ble_eq_true rfl) ?_
  intro R G hF hG hR hT hX
  revert h
  unfold f_X7_on
  refine s_aload_n hG dX7_on_0 rfl ?_
  refine s_iload_n hG dX7_on_1 rfl ?_
  refine s_xV hG hX (as := [vI p1]) (st := []) (rm := rm_X7_requireDrawer) (rmT := rmT_X7_requireDrawer) rfl dX7_on_2 ml_RX7_84 (tb4 (mem_i 29 rfl)) (rfl) (tb5 (mem_i 1 rfl)) rfl ⟨rfl, rfl⟩ ⟨rfl, rfl, rfl, rfl⟩ ⟨by rw [hF.1]; decide, by rw [hF.2]; decide⟩ (Nat.le_of_ble_eq_true rfl) rfl (fun o h => c_X7_requireDrawer l hl9 _ _ o h) (fun o2 => ?_)
  refine s_aload_n hG dX7_on_5 rfl ?_
  refine s_getC hG dX7_on_6 fl_RX7_34 (rfl) ?_
  refine s_iload_n hG dX7_on_9 rfl ?_
  refine s_iload_n hG dX7_on_10 rfl ?_
  refine s_cvP hG (as := [vI p1, vI p2]) (st := []) (rm := rm_X6_branchOf) dX7_on_11 ml_RX7_176 (rfl) (tb10 (mem_i 6 rfl)) rfl ⟨rfl, rfl⟩ ⟨by rw [hF.1]; decide, by rw [hF.2]; decide⟩ (Nat.le_of_ble_eq_true rfl) ⟨Nat.zero_le _, Nat.zero_le _⟩ rfl (fun o h => c_X6_branchOf l _ _ _ o h) (fun o11 => ?_)
  refine s_istore_n hG (lv' := [(3, vI o11), (0, vR 0), (1, vI p1), (2, vI p2)]) dX7_on_14 (by decide) rfl ?_
  refine s_iload_n hG dX7_on_15 rfl ?_
  refine s_iconst hG (v := (-1 : Int32)) dX7_on_16 (by decide) ?_
  refine s_icmp_ne hG (tgt := 30) dX7_on_17 (by decide) ?_ ?_
  · refine s_aload_n hG dX7_on_30 rfl ?_
    refine s_getC hG dX7_on_31 fl_RX7_34 (rfl) ?_
    refine s_iload_n hG dX7_on_34 rfl ?_
    refine s_iload_n hG dX7_on_35 rfl ?_
    refine s_cvV hG (as := [vI p1, vI o11]) (st := []) (rm := rm_X6_stand) dX7_on_36 ml_RX7_156 (rfl) (tb9 (mem_i 16 rfl)) rfl ⟨rfl, rfl⟩ ⟨by rw [hF.1]; decide, by rw [hF.2]; decide⟩ (Nat.le_of_ble_eq_true rfl) ⟨Nat.zero_le _, Nat.zero_le _⟩ rfl (fun o h => c_X6_stand l _ _ _ o h) (fun o36 => ?_)
    refine s_aload_n hG dX7_on_39 rfl ?_
    refine s_getC hG dX7_on_40 fl_RX7_43 (rfl) ?_
    refine s_aload_n hG dX7_on_43 rfl ?_
    refine s_getC hG dX7_on_44 fl_RX7_34 (rfl) ?_
    refine s_cvQ hG (as := []) (st := [vR 16]) (rm := rm_X6_counting) dX7_on_47 ml_RX7_159 (rfl) (tb9 (mem_i 18 rfl)) rfl ⟨rfl, rfl⟩ ⟨by rw [hF.1]; decide, by rw [hF.2]; decide⟩ (Nat.le_of_ble_eq_true rfl) ⟨Nat.zero_le _, Nat.zero_le _⟩ rfl (fun o h => c_X6_counting l  _ o h) (fun o47 => ?_)
    refine s_cvV hG (as := [vL o47]) (st := []) (rm := rm_X3_redo) dX7_on_50 ml_RX7_163 (rfl) (tb9 (mem_i 21 rfl)) rfl ⟨rfl, rfl⟩ ⟨by rw [hF.1]; decide, by rw [hF.2]; decide⟩ (Nat.le_of_ble_eq_true rfl) ⟨Nat.zero_le _, Nat.zero_le _⟩ rfl (fun o h => c_X3_redo l _ _ (rfl) _ o h) (fun o50 => ?_)
    refine s_aload_n hG dX7_on_53 rfl ?_
    refine s_getC hG dX7_on_54 fl_RX7_43 (rfl) ?_
    refine s_getL hG dX7_on_57 fl_RX7_167 (rfl) ?_
    refine s_csP hG (as := [vL (o50.2.1 16 3)]) (st := []) (rm := rm_J13_bitCount_95d88) dX7_on_60 ml_RX7_171 (tb9 (mem_i 27 rfl)) rfl ⟨rfl, rfl⟩ ⟨by rw [hF.1]; decide, by rw [hF.2]; decide⟩ (Nat.le_of_ble_eq_true rfl) ⟨Nat.zero_le _, Nat.zero_le _⟩ rfl (fun o h => c_J13_bitCount_95d88 l _ _ o h) (fun o60 => ?_)
    exact s_xri hR dX7_on_63
  · exact s_thr hT (by decide) thw_X7_on_20 ⟨by rw [hF.1]; decide, by rw [hF.2]; decide⟩ (Nat.le_of_ble_eq_true rfl)

def f_X7_part_b34 (p1 : Int32) (p2 : Int32)  (S : HS) (t0 : Nat) (t1 : Int32) (t2 : Int32) : Option (XO) :=
(f_X0_groupOf t0 t1 t2 S).bind (fun o34 =>
(f_J6_bitCount_0f7a4 o34 S).bind (fun o37 =>
some (S, ((0 : Nat), o37))))
def f_X7_part (p1 : Int32) (p2 : Int32) (S : HS) : Option (XO) :=
(f_X7_requireShape p1 S).bind (fun o2 => if o2.2.1 = 0 then
(fun (o2 : XO) =>
rf (o2.1.2.2 16 1) 0 (fun b10 =>
(f_X7_requireOn b10 p1 o2.1).bind (fun o14 => if o14.2.1 = 0 then
(fun (o14 : XO) =>
rf (o14.1.2.2 16 1) 0 (fun b21 =>
if p2 = 0 then
f_X7_part_b34 p1 p2  o14.1 b21 p1 (1 : Int32)
else
f_X7_part_b34 p1 p2  o14.1 b21 p1 (0 : Int32))) o14
else some (o14.1, (o14.2.1, 0))))) o2
else some (o2.1, (o2.2.1, 0)))
def rm_X7_part : Room := { frames := 7, cells := 0, slots := 0, locals := 112 }
def rmT_X7_part : Room := { frames := 7, cells := 1, slots := 6, locals := 112 }
set_option maxRecDepth 100000 in
set_option maxHeartbeats 4000000 in
theorem c_X7_part (l : Launch) (hl9 : l.stackTraces = false) (p1 : Int32) (p2 : Int32)  (S : HS) (out : XO) (h : f_X7_part p1 p2 S = some out) : CtX l yX7_part cX7_part 3 (some .int) rm_X7_part rmT_X7_part [vR 0, vI p1, vI p2] S out := by
  refine CtX.intro hl9 (own := RX7) (lv := [(0, vR 0), (1, vI p1), (2, vI p2)]) (by decide +kernel) rfl ⟨rfl, rfl⟩ ⟨rfl, rfl, rfl, rfl⟩ rfl (Nat.le_of_ble_eq_true rfl) ?_
  intro R G hF hG hR hT hX
  revert h
  have hb34 : ∀ (S : HS) (t0 : Nat) (t1 : Int32) (t2 : Int32) (ht0 : oc t0 = some 0), f_X7_part_b34 p1 p2 S t0 t1 t2 = some out → G 0 0 S [] 34 [vI t2, vI t1, vR t0] := by
    intro S t0 t1 t2 ht0
    unfold f_X7_part_b34
    refine s_cvP hG (as := [vI t1, vI t2]) (st := []) (rm := rm_X0_groupOf) dX7_part_34 ml_RX7_230 (ht0) (tb6 (mem_i 17 rfl)) rfl ⟨rfl, rfl⟩ ⟨by rw [hF.1]; decide, by rw [hF.2]; decide⟩ (Nat.le_of_ble_eq_true rfl) ⟨Nat.zero_le _, Nat.zero_le _⟩ rfl (fun o h => c_X0_groupOf l _ _ _ (ht0) _ o h) (fun o34 => ?_)
    refine s_csP hG (as := [vI o34]) (st := []) (rm := rm_J6_bitCount_0f7a4) dX7_part_37 ml_RX7_142 (tb9 (mem_i 5 rfl)) rfl ⟨rfl, rfl⟩ ⟨by rw [hF.1]; decide, by rw [hF.2]; decide⟩ (Nat.le_of_ble_eq_true rfl) ⟨Nat.zero_le _, Nat.zero_le _⟩ rfl (fun o h => c_J6_bitCount_0f7a4 l _ _ o h) (fun o37 => ?_)
    exact s_xri hR dX7_part_40
  unfold f_X7_part
  refine s_aload_n hG dX7_part_0 rfl ?_
  refine s_iload_n hG dX7_part_1 rfl ?_
  refine s_xV hG hX (as := [vI p1]) (st := []) (rm := rm_X7_requireShape) (rmT := rmT_X7_requireShape) rfl dX7_part_2 ml_RX7_112 (tb8 (mem_i 9 rfl)) (rfl) (tb8 (mem_i 11 rfl)) rfl ⟨rfl, rfl⟩ ⟨rfl, rfl, rfl, rfl⟩ ⟨by rw [hF.1]; decide, by rw [hF.2]; decide⟩ (Nat.le_of_ble_eq_true rfl) rfl (fun o h => c_X7_requireShape l hl9 _ _ o h) (fun o2 => ?_)
  refine s_aload_n hG dX7_part_5 rfl ?_
  refine s_aload_n hG dX7_part_6 rfl ?_
  refine s_getC hG dX7_part_7 fl_RX7_43 (rfl) ?_
  refine s_getR hG (cj := 0) dX7_part_10 fl_RX7_133 (rfl) (fun b10 hb_10 => ?_)
  refine s_iload_n hG dX7_part_13 rfl ?_
  refine s_xV hG hX (as := [vR b10, vI p1]) (st := []) (rm := rm_X7_requireOn) (rmT := rmT_X7_requireOn) rfl dX7_part_14 ml_RX7_202 (tb10 (mem_i 23 rfl)) (rfl) (tb10 (mem_i 25 rfl)) rfl ⟨rfl, rfl⟩ ⟨rfl, rfl, rfl, rfl⟩ ⟨by rw [hF.1]; decide, by rw [hF.2]; decide⟩ (Nat.le_of_ble_eq_true rfl) rfl (fun o h => c_X7_requireOn l hl9 _ _ (hb_10) _ o h) (fun o14 => ?_)
  refine s_aload_n hG dX7_part_17 rfl ?_
  refine s_getC hG dX7_part_18 fl_RX7_43 (rfl) ?_
  refine s_getR hG (cj := 0) dX7_part_21 fl_RX7_133 (rfl) (fun b21 hb_21 => ?_)
  refine s_iload_n hG dX7_part_24 rfl ?_
  refine s_iload_n hG dX7_part_25 rfl ?_
  refine s_if_eq hG (tgt := 33) dX7_part_26 (by decide) ?_ ?_
  · refine s_iconst hG (v := (1 : Int32)) dX7_part_33 (by decide) ?_
    refine s_lv hG [] rfl ?_
    exact hb34 _ _ _ _ (hb_21)
  · refine s_iconst hG (v := (0 : Int32)) dX7_part_29 (by decide) ?_
    refine s_goto hG (tgt := 34) dX7_part_30 (by decide) ?_
    refine s_lv hG [] rfl ?_
    exact hb34 _ _ _ _ (hb_21)

def f_X7_resize (p1 : Int32) (p2 : Int32) (p3 : Int32) (p4 : Int32) (S : HS) : Option (XO) :=
(f_X7_requireDrawer p1 S).bind (fun o2 => if o2.2.1 = 0 then
(fun (o2 : XO) =>
(f_X7_requireShape p2 o2.1).bind (fun o7 => if o7.2.1 = 0 then
(fun (o7 : XO) =>
(f_X7_requireSize p3 p4 o7.1).bind (fun o14 => if o14.2.1 = 0 then
(fun (o14 : XO) =>
(f_X6_draft (2 : Int32) p2 (0 : Int32) (0 : Int32) p3 p4 o14.1).bind (fun o28 =>
(f_X7_doDraft p1 o28).bind (fun o33 => if o33.2.1 = 0 then
(fun (o33 : XO) =>
(f_X3_changedShapes 16 o33.1).bind (fun o40 =>
some (o33.1, ((0 : Nat), o40)))) o33
else some (o33.1, (o33.2.1, 0))))) o14
else some (o14.1, (o14.2.1, 0)))) o7
else some (o7.1, (o7.2.1, 0)))) o2
else some (o2.1, (o2.2.1, 0)))
def rm_X7_resize : Room := { frames := 7, cells := 0, slots := 0, locals := 184 }
def rmT_X7_resize : Room := { frames := 7, cells := 1, slots := 6, locals := 184 }
set_option maxRecDepth 100000 in
set_option maxHeartbeats 4000000 in
theorem c_X7_resize (l : Launch) (hl9 : l.stackTraces = false) (p1 : Int32) (p2 : Int32) (p3 : Int32) (p4 : Int32)  (S : HS) (out : XO) (h : f_X7_resize p1 p2 p3 p4 S = some out) : CtX l yX7_resize cX7_resize 5 (some .int) rm_X7_resize rmT_X7_resize [vR 0, vI p1, vI p2, vI p3, vI p4] S out := by
  refine CtX.intro hl9 (own := RX7) (lv := [(0, vR 0), (1, vI p1), (2, vI p2), (3, vI p3), (4, vI p4)]) (by decide +kernel) rfl ⟨rfl, rfl⟩ ⟨rfl, rfl, rfl, rfl⟩ rfl (Nat.le_of_ble_eq_true rfl) ?_
  intro R G hF hG hR hT hX
  revert h
  unfold f_X7_resize
  refine s_aload_n hG dX7_resize_0 rfl ?_
  refine s_iload_n hG dX7_resize_1 rfl ?_
  refine s_xV hG hX (as := [vI p1]) (st := []) (rm := rm_X7_requireDrawer) (rmT := rmT_X7_requireDrawer) rfl dX7_resize_2 ml_RX7_84 (tb4 (mem_i 29 rfl)) (rfl) (tb5 (mem_i 1 rfl)) rfl ⟨rfl, rfl⟩ ⟨rfl, rfl, rfl, rfl⟩ ⟨by rw [hF.1]; decide, by rw [hF.2]; decide⟩ (Nat.le_of_ble_eq_true rfl) rfl (fun o h => c_X7_requireDrawer l hl9 _ _ o h) (fun o2 => ?_)
  refine s_aload_n hG dX7_resize_5 rfl ?_
  refine s_iload_n hG dX7_resize_6 rfl ?_
  refine s_xV hG hX (as := [vI p2]) (st := []) (rm := rm_X7_requireShape) (rmT := rmT_X7_requireShape) rfl dX7_resize_7 ml_RX7_112 (tb8 (mem_i 9 rfl)) (rfl) (tb8 (mem_i 11 rfl)) rfl ⟨rfl, rfl⟩ ⟨rfl, rfl, rfl, rfl⟩ ⟨by rw [hF.1]; decide, by rw [hF.2]; decide⟩ (Nat.le_of_ble_eq_true rfl) rfl (fun o h => c_X7_requireShape l hl9 _ _ o h) (fun o7 => ?_)
  refine s_aload_n hG dX7_resize_10 rfl ?_
  refine s_iload_n hG dX7_resize_11 rfl ?_
  refine s_iload hG dX7_resize_12 rfl ?_
  refine s_xV hG hX (as := [vI p3, vI p4]) (st := []) (rm := rm_X7_requireSize) (rmT := rmT_X7_requireSize) rfl dX7_resize_14 ml_RX7_92 (tb5 (mem_i 9 rfl)) (rfl) (tb5 (mem_i 11 rfl)) rfl ⟨rfl, rfl⟩ ⟨rfl, rfl, rfl, rfl⟩ ⟨by rw [hF.1]; decide, by rw [hF.2]; decide⟩ (Nat.le_of_ble_eq_true rfl) rfl (fun o h => c_X7_requireSize l hl9 _ _ _ o h) (fun o14 => ?_)
  refine s_aload_n hG dX7_resize_17 rfl ?_
  refine s_getC hG dX7_resize_18 fl_RX7_34 (rfl) ?_
  refine s_iconst hG (v := (2 : Int32)) dX7_resize_21 (by decide) ?_
  refine s_iload_n hG dX7_resize_22 rfl ?_
  refine s_iconst hG (v := (0 : Int32)) dX7_resize_23 (by decide) ?_
  refine s_iconst hG (v := (0 : Int32)) dX7_resize_24 (by decide) ?_
  refine s_iload_n hG dX7_resize_25 rfl ?_
  refine s_iload hG dX7_resize_26 rfl ?_
  refine s_cvV hG (as := [vI (2 : Int32), vI p2, vI (0 : Int32), vI (0 : Int32), vI p3, vI p4]) (st := []) (rm := rm_X6_draft) dX7_resize_28 ml_RX7_100 (rfl) (tb5 (mem_i 13 rfl)) rfl ⟨rfl, rfl⟩ ⟨by rw [hF.1]; decide, by rw [hF.2]; decide⟩ (Nat.le_of_ble_eq_true rfl) ⟨Nat.zero_le _, Nat.zero_le _⟩ rfl (fun o h => c_X6_draft l _ _ _ _ _ _ _ o h) (fun o28 => ?_)
  refine s_aload_n hG dX7_resize_31 rfl ?_
  refine s_iload_n hG dX7_resize_32 rfl ?_
  refine s_xV hG hX (as := [vI p1]) (st := []) (rm := rm_X7_doDraft) (rmT := rmT_X7_doDraft) rfl dX7_resize_33 ml_RX7_107 (tb5 (mem_i 20 rfl)) (rfl) (tb5 (mem_i 22 rfl)) rfl ⟨rfl, rfl⟩ ⟨rfl, rfl, rfl, rfl⟩ ⟨by rw [hF.1]; decide, by rw [hF.2]; decide⟩ (Nat.le_of_ble_eq_true rfl) rfl (fun o h => c_X7_doDraft l hl9 _ _ o h) (fun o33 => ?_)
  refine s_aload_n hG dX7_resize_36 rfl ?_
  refine s_getC hG dX7_resize_37 fl_RX7_43 (rfl) ?_
  refine s_cvP hG (as := []) (st := []) (rm := rm_X3_changedShapes) dX7_resize_40 ml_RX7_115 (rfl) (tb8 (mem_i 13 rfl)) rfl ⟨rfl, rfl⟩ ⟨by rw [hF.1]; decide, by rw [hF.2]; decide⟩ (Nat.le_of_ble_eq_true rfl) ⟨Nat.zero_le _, Nat.zero_le _⟩ rfl (fun o h => c_X3_changedShapes l _ (rfl) _ o h) (fun o40 => ?_)
  exact s_xri hR dX7_resize_43

def f_X7_spell_b10 (p1 : Int32)  (S : HS)  : Option (XO) :=
some (S, (1, (0 : Int32)))
def f_X7_spell_b91 (p1 : Int32) (rec64 : HS × Int32 × Int32 → Option (XO)) (S : HS) (x3 : Int32) (t0 : Int32) (t1 : Int32) : Option (XO) :=
rec64 (S, (t0 + t1), (x3 + (1 : Int32)))
def F_X7_spell_b64 (p1 : Int32)  (rec64 : HS × Int32 × Int32 → Option (XO)) : HS × Int32 × Int32 → Option (XO) := fun q => match q with
  | (S, x2, x3) =>
    if (S.1 0 1) ≤ x3 then
    some (S, ((0 : Nat), x2))
    else
    (f_X7_read 1 x3 S).bind (fun o78 =>
    if o78 = (26 : Int32) then
    f_X7_spell_b91 p1 rec64 S x3 x2 (2 : Int32)
    else
    f_X7_spell_b91 p1 rec64 S x3 x2 (1 : Int32))
def f_X7_spell_b64 (p1 : Int32)  (S : HS) (x2 : Int32) (x3 : Int32) : Option (XO) := fx (F_X7_spell_b64 p1) FU (S, x2, x3)
def f_X7_spell (p1 : Int32) (S : HS) : Option (XO) :=
if p1 < 0 then
f_X7_spell_b10 p1  S
else
if p1 < (27 : Int32) then
if (S.1 0 1) < (5 : Int32) then
(f_X7_put 1 (S.1 0 1) p1 S).bind (fun o47 =>
f_X7_spell_b64 p1  (sI o47 0 1 ((o47.1 0 1) + (1 : Int32))) (0 : Int32) (0 : Int32))
else
some (S, (3, (0 : Int32)))
else
f_X7_spell_b10 p1  S
def rm_X7_spell : Room := { frames := 6, cells := 0, slots := 0, locals := 90 }
def rmT_X7_spell : Room := { frames := 6, cells := 1, slots := 6, locals := 90 }
set_option maxRecDepth 100000 in
set_option maxHeartbeats 4000000 in
theorem c_X7_spell (l : Launch) (hl9 : l.stackTraces = false) (p1 : Int32)  (S : HS) (out : XO) (h : f_X7_spell p1 S = some out) : CtX l yX7_spell cX7_spell 4 (some .int) rm_X7_spell rmT_X7_spell [vR 0, vI p1] S out := by
  refine CtX.intro hl9 (own := RX7) (lv := [(0, vR 0), (1, vI p1)]) (by decide +kernel) rfl ⟨rfl, rfl⟩ ⟨rfl, rfl, rfl, rfl⟩ rfl (Nat.le_of_ble_eq_true rfl) ?_
  intro R G hF hG hR hT hX
  revert h
  have hb10 : ∀ (S : HS), f_X7_spell_b10 p1 S  = some out → G 0 0 S [] 10 [] := by
    intro S
    unfold f_X7_spell_b10
    exact s_thr hT (by decide) thw_X7_spell_10 ⟨by rw [hF.1]; decide, by rw [hF.2]; decide⟩ (Nat.le_of_ble_eq_true rfl)
  have hb91 : ∀ (rec64 : HS × Int32 × Int32 → Option (XO)) (hrec64 : ∀ (S : HS) (x2 : Int32) (x3 : Int32), rec64 (S, x2, x3) = some out → G 0 0 S [(0, vR 0), (2, vI x2), (3, vI x3)] 64 []) (S : HS) (x3 : Int32) (t0 : Int32) (t1 : Int32), f_X7_spell_b91 p1 rec64 S x3 t0 t1 = some out → G 0 0 S [(0, vR 0), (3, vI x3)] 91 [vI t1, vI t0] := by
    intro rec64 hrec64 S x3 t0 t1
    unfold f_X7_spell_b91
    refine s_iadd hG dX7_spell_91 ?_
    refine s_istore_n hG (lv' := [(2, vI (t0 + t1)), (0, vR 0), (3, vI x3)]) dX7_spell_92 (by decide) rfl ?_
    refine s_iinc hG (v := (x3 + (1 : Int32))) (lv' := [(3, vI (x3 + (1 : Int32))), (2, vI (t0 + t1)), (0, vR 0)]) dX7_spell_93 rfl rfl (by decide) rfl ?_
    refine s_goto hG (tgt := 64) dX7_spell_96 (by decide) ?_
    refine s_lv hG [2, 1, 0] rfl ?_
    exact hrec64 _ _ _
  have hb64 : ∀ (S : HS) (x2 : Int32) (x3 : Int32), f_X7_spell_b64 p1 S x2 x3 = some out → G 0 0 S [(0, vR 0), (2, vI x2), (3, vI x3)] 64 [] := by
    intro  S x2 x3
    unfold f_X7_spell_b64
    generalize FU = nf
    revert S x2 x3
    induction nf with
    | zero => intro S x2 x3 h9; cases h9
    | succ nf hrec64 =>
      intro S x2 x3
      show F_X7_spell_b64 p1 (fx (F_X7_spell_b64 p1) nf) (S, x2, x3) = some out → _
      generalize fx (F_X7_spell_b64 p1) nf = rec64 at hrec64
      unfold F_X7_spell_b64
      dsimp only
      refine s_iload_n hG dX7_spell_64 rfl ?_
      refine s_aload_n hG dX7_spell_65 rfl ?_
      refine s_getI hG dX7_spell_66 fl_RX7_13 (rfl) ?_
      refine s_icmp_ge hG (tgt := 99) dX7_spell_69 (by decide) ?_ ?_
      · refine s_iload_n hG dX7_spell_99 rfl ?_
        exact s_xri hR dX7_spell_100
      · refine s_iload_n hG dX7_spell_72 rfl ?_
        refine s_aload_n hG dX7_spell_73 rfl ?_
        refine s_getC hG dX7_spell_74 fl_RX7_9 (rfl) ?_
        refine s_iload_n hG dX7_spell_77 rfl ?_
        refine s_csP hG (as := [vR 1, vI x3]) (st := [vI x2]) (rm := rm_X7_read) dX7_spell_78 ml_RX7_80 (tb5 (mem_i 19 rfl)) rfl ⟨rfl, rfl⟩ ⟨by rw [hF.1]; decide, by rw [hF.2]; decide⟩ (Nat.le_of_ble_eq_true rfl) ⟨Nat.zero_le _, Nat.zero_le _⟩ rfl (fun o h => c_X7_read l _ _ (rfl) _ o h) (fun o78 => ?_)
        refine s_bipush hG (v := (26 : Int32)) dX7_spell_81 (by decide) ?_
        refine s_icmp_ne hG (tgt := 90) dX7_spell_83 (by decide) ?_ ?_
        · refine s_iconst hG (v := (1 : Int32)) dX7_spell_90 (by decide) ?_
          refine s_lv hG [0, 2] rfl ?_
          exact hb91 _ hrec64 _ _ _ _
        · refine s_iconst hG (v := (2 : Int32)) dX7_spell_86 (by decide) ?_
          refine s_goto hG (tgt := 91) dX7_spell_87 (by decide) ?_
          refine s_lv hG [0, 2] rfl ?_
          exact hb91 _ hrec64 _ _ _ _
  unfold f_X7_spell
  refine s_iload_n hG dX7_spell_0 rfl ?_
  refine s_if_lt hG (tgt := 10) dX7_spell_1 (by decide) ?_ ?_
  · refine s_lv hG [] rfl ?_
    exact hb10 _
  · refine s_iload_n hG dX7_spell_4 rfl ?_
    refine s_bipush hG (v := (27 : Int32)) dX7_spell_5 (by decide) ?_
    refine s_icmp_lt hG (tgt := 20) dX7_spell_7 (by decide) ?_ ?_
    · refine s_aload_n hG dX7_spell_20 rfl ?_
      refine s_getI hG dX7_spell_21 fl_RX7_13 (rfl) ?_
      refine s_iconst hG (v := (5 : Int32)) dX7_spell_24 (by decide) ?_
      refine s_icmp_lt hG (tgt := 38) dX7_spell_25 (by decide) ?_ ?_
      · refine s_aload_n hG dX7_spell_38 rfl ?_
        refine s_getC hG dX7_spell_39 fl_RX7_9 (rfl) ?_
        refine s_aload_n hG dX7_spell_42 rfl ?_
        refine s_getI hG dX7_spell_43 fl_RX7_13 (rfl) ?_
        refine s_iload_n hG dX7_spell_46 rfl ?_
        refine s_csV hG (as := [vR 1, vI (S.1 0 1), vI p1]) (st := []) (rm := rm_X7_put) dX7_spell_47 ml_RX7_76 (tb5 (mem_i 15 rfl)) rfl ⟨rfl, rfl⟩ ⟨by rw [hF.1]; decide, by rw [hF.2]; decide⟩ (Nat.le_of_ble_eq_true rfl) ⟨Nat.zero_le _, Nat.zero_le _⟩ rfl (fun o h => c_X7_put l _ _ _ (rfl) _ o h) (fun o47 => ?_)
        refine s_aload_n hG dX7_spell_50 rfl ?_
        refine s_dup hG dX7_spell_51 rfl ?_
        refine s_getI hG dX7_spell_52 fl_RX7_13 (rfl) ?_
        refine s_iconst hG (v := (1 : Int32)) dX7_spell_55 (by decide) ?_
        refine s_iadd hG dX7_spell_56 ?_
        refine s_putI hG dX7_spell_57 fl_RX7_13 fp_7_1 (rfl) ⟨rfl, rfl⟩ ?_
        refine s_iconst hG (v := (0 : Int32)) dX7_spell_60 (by decide) ?_
        refine s_istore_n hG (lv' := [(2, vI (0 : Int32)), (0, vR 0), (1, vI p1)]) dX7_spell_61 (by decide) rfl ?_
        refine s_iconst hG (v := (0 : Int32)) dX7_spell_62 (by decide) ?_
        refine s_istore_n hG (lv' := [(3, vI (0 : Int32)), (2, vI (0 : Int32)), (0, vR 0), (1, vI p1)]) dX7_spell_63 (by decide) rfl ?_
        refine s_lv hG [2, 1, 0] rfl ?_
        exact hb64 _ _ _
      · exact s_thr hT (by decide) thw_X7_spell_28 ⟨by rw [hF.1]; decide, by rw [hF.2]; decide⟩ (Nat.le_of_ble_eq_true rfl)
    · refine s_lv hG [] rfl ?_
      exact hb10 _

def f_X7_standsAt (p1 : Int32) (S : HS) : Option (XO) :=
(f_X7_requireDrawer p1 S).bind (fun o2 => if o2.2.1 = 0 then
(fun (o2 : XO) =>
(f_X6_standOf p1 o2.1).bind (fun o10 =>
some (o2.1, ((0 : Nat), o10)))) o2
else some (o2.1, (o2.2.1, 0)))
def rm_X7_standsAt : Room := { frames := 7, cells := 0, slots := 0, locals := 111 }
def rmT_X7_standsAt : Room := { frames := 7, cells := 1, slots := 6, locals := 111 }
set_option maxRecDepth 100000 in
set_option maxHeartbeats 4000000 in
theorem c_X7_standsAt (l : Launch) (hl9 : l.stackTraces = false) (p1 : Int32)  (S : HS) (out : XO) (h : f_X7_standsAt p1 S = some out) : CtX l yX7_standsAt cX7_standsAt 2 (some .int) rm_X7_standsAt rmT_X7_standsAt [vR 0, vI p1] S out := by
  refine CtX.intro hl9 (own := RX7) (lv := [(0, vR 0), (1, vI p1)]) (by decide +kernel) rfl ⟨rfl, rfl⟩ ⟨rfl, rfl, rfl, rfl⟩ rfl (Nat.le_of_ble_eq_true rfl) ?_
  intro R G hF hG hR hT hX
  revert h
  unfold f_X7_standsAt
  refine s_aload_n hG dX7_standsAt_0 rfl ?_
  refine s_iload_n hG dX7_standsAt_1 rfl ?_
  refine s_xV hG hX (as := [vI p1]) (st := []) (rm := rm_X7_requireDrawer) (rmT := rmT_X7_requireDrawer) rfl dX7_standsAt_2 ml_RX7_84 (tb4 (mem_i 29 rfl)) (rfl) (tb5 (mem_i 1 rfl)) rfl ⟨rfl, rfl⟩ ⟨rfl, rfl, rfl, rfl⟩ ⟨by rw [hF.1]; decide, by rw [hF.2]; decide⟩ (Nat.le_of_ble_eq_true rfl) rfl (fun o h => c_X7_requireDrawer l hl9 _ _ o h) (fun o2 => ?_)
  refine s_aload_n hG dX7_standsAt_5 rfl ?_
  refine s_getC hG dX7_standsAt_6 fl_RX7_34 (rfl) ?_
  refine s_iload_n hG dX7_standsAt_9 rfl ?_
  refine s_cvP hG (as := [vI p1]) (st := []) (rm := rm_X6_standOf) dX7_standsAt_10 ml_RX7_148 (rfl) (tb8 (mem_i 0 rfl)) rfl ⟨rfl, rfl⟩ ⟨by rw [hF.1]; decide, by rw [hF.2]; decide⟩ (Nat.le_of_ble_eq_true rfl) ⟨Nat.zero_le _, Nat.zero_le _⟩ rfl (fun o h => c_X6_standOf l _ _ o h) (fun o10 => ?_)
  exact s_xri hR dX7_standsAt_13
