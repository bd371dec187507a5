/-! 13.text: by program (wip/p31/gen.py) -/
theorem dX1_write_0 : decode cX1_write 0 = .ok (.aload_n 0, 1) := by decide +kernel
theorem dX1_write_1 : decode cX1_write 1 = .ok (.getfield 15, 3) := by decide +kernel
theorem dX1_write_4 : decode cX1_write 4 = .ok (.ifCond .lt 35, 3) := by decide +kernel
theorem dX1_write_7 : decode cX1_write 7 = .ok (.aload_n 0, 1) := by decide +kernel
theorem dX1_write_8 : decode cX1_write 8 = .ok (.getfield 15, 3) := by decide +kernel
theorem dX1_write_11 : decode cX1_write 11 = .ok (.aload_n 0, 1) := by decide +kernel
theorem dX1_write_12 : decode cX1_write 12 = .ok (.getfield 9, 3) := by decide +kernel
theorem dX1_write_15 : decode cX1_write 15 = .ok (.arraylength, 1) := by decide +kernel
theorem dX1_write_16 : decode cX1_write 16 = .ok (.if_icmp .ge 23, 3) := by decide +kernel
theorem dX1_write_19 : decode cX1_write 19 = .ok (.aload_n 0, 1) := by decide +kernel
theorem dX1_write_20 : decode cX1_write 20 = .ok (.getfield 9, 3) := by decide +kernel
theorem dX1_write_23 : decode cX1_write 23 = .ok (.aload_n 0, 1) := by decide +kernel
theorem dX1_write_24 : decode cX1_write 24 = .ok (.getfield 15, 3) := by decide +kernel
theorem dX1_write_27 : decode cX1_write 27 = .ok (.iload_n 1, 1) := by decide +kernel
theorem dX1_write_28 : decode cX1_write 28 = .ok (.castore, 1) := by decide +kernel
theorem dX1_write_29 : decode cX1_write 29 = .ok (.aload_n 0, 1) := by decide +kernel
theorem dX1_write_30 : decode cX1_write 30 = .ok (.dup, 1) := by decide +kernel
theorem dX1_write_31 : decode cX1_write 31 = .ok (.getfield 15, 3) := by decide +kernel
theorem dX1_write_34 : decode cX1_write 34 = .ok (.iconst 1, 1) := by decide +kernel
theorem dX1_write_35 : decode cX1_write 35 = .ok (.iadd, 1) := by decide +kernel
theorem dX1_write_36 : decode cX1_write 36 = .ok (.putfield 15, 3) := by decide +kernel
theorem dX1_write_39 : decode cX1_write 39 = .ok (.return_, 1) := by decide +kernel
theorem dX1_writeNumber_0 : decode cX1_writeNumber 0 = .ok (.iload_n 1, 1) := by decide +kernel
theorem dX1_writeNumber_1 : decode cX1_writeNumber 1 = .ok (.ifCond .ge 9, 3) := by decide +kernel
theorem dX1_writeNumber_4 : decode cX1_writeNumber 4 = .ok (.aload_n 0, 1) := by decide +kernel
theorem dX1_writeNumber_5 : decode cX1_writeNumber 5 = .ok (.bipush 45, 2) := by decide +kernel
theorem dX1_writeNumber_7 : decode cX1_writeNumber 7 = .ok (.invokevirtual 35, 3) := by decide +kernel
theorem dX1_writeNumber_10 : decode cX1_writeNumber 10 = .ok (.iload_n 1, 1) := by decide +kernel
theorem dX1_writeNumber_11 : decode cX1_writeNumber 11 = .ok (.invokestatic 61, 3) := by decide +kernel
theorem dX1_writeNumber_14 : decode cX1_writeNumber 14 = .ok (.istore_n 2, 1) := by decide +kernel
theorem dX1_writeNumber_15 : decode cX1_writeNumber 15 = .ok (.iload_n 2, 1) := by decide +kernel
theorem dX1_writeNumber_16 : decode cX1_writeNumber 16 = .ok (.bipush 100, 2) := by decide +kernel
theorem dX1_writeNumber_18 : decode cX1_writeNumber 18 = .ok (.if_icmp .lt 18, 3) := by decide +kernel
theorem dX1_writeNumber_21 : decode cX1_writeNumber 21 = .ok (.aload_n 0, 1) := by decide +kernel
theorem dX1_writeNumber_22 : decode cX1_writeNumber 22 = .ok (.bipush 48, 2) := by decide +kernel
theorem dX1_writeNumber_24 : decode cX1_writeNumber 24 = .ok (.iload_n 2, 1) := by decide +kernel
theorem dX1_writeNumber_25 : decode cX1_writeNumber 25 = .ok (.bipush 100, 2) := by decide +kernel
theorem dX1_writeNumber_27 : decode cX1_writeNumber 27 = .ok (.idiv, 1) := by decide +kernel
theorem dX1_writeNumber_28 : decode cX1_writeNumber 28 = .ok (.bipush 10, 2) := by decide +kernel
theorem dX1_writeNumber_30 : decode cX1_writeNumber 30 = .ok (.irem, 1) := by decide +kernel
theorem dX1_writeNumber_31 : decode cX1_writeNumber 31 = .ok (.iadd, 1) := by decide +kernel
theorem dX1_writeNumber_32 : decode cX1_writeNumber 32 = .ok (.i2c, 1) := by decide +kernel
theorem dX1_writeNumber_33 : decode cX1_writeNumber 33 = .ok (.invokevirtual 35, 3) := by decide +kernel
theorem dX1_writeNumber_36 : decode cX1_writeNumber 36 = .ok (.iload_n 2, 1) := by decide +kernel
theorem dX1_writeNumber_37 : decode cX1_writeNumber 37 = .ok (.bipush 10, 2) := by decide +kernel
theorem dX1_writeNumber_39 : decode cX1_writeNumber 39 = .ok (.if_icmp .lt 18, 3) := by decide +kernel
theorem dX1_writeNumber_42 : decode cX1_writeNumber 42 = .ok (.aload_n 0, 1) := by decide +kernel
theorem dX1_writeNumber_43 : decode cX1_writeNumber 43 = .ok (.bipush 48, 2) := by decide +kernel
theorem dX1_writeNumber_45 : decode cX1_writeNumber 45 = .ok (.iload_n 2, 1) := by decide +kernel
theorem dX1_writeNumber_46 : decode cX1_writeNumber 46 = .ok (.bipush 10, 2) := by decide +kernel
theorem dX1_writeNumber_48 : decode cX1_writeNumber 48 = .ok (.idiv, 1) := by decide +kernel
theorem dX1_writeNumber_49 : decode cX1_writeNumber 49 = .ok (.bipush 10, 2) := by decide +kernel
theorem dX1_writeNumber_51 : decode cX1_writeNumber 51 = .ok (.irem, 1) := by decide +kernel
theorem dX1_writeNumber_52 : decode cX1_writeNumber 52 = .ok (.iadd, 1) := by decide +kernel
theorem dX1_writeNumber_53 : decode cX1_writeNumber 53 = .ok (.i2c, 1) := by decide +kernel
theorem dX1_writeNumber_54 : decode cX1_writeNumber 54 = .ok (.invokevirtual 35, 3) := by decide +kernel
theorem dX1_writeNumber_57 : decode cX1_writeNumber 57 = .ok (.aload_n 0, 1) := by decide +kernel
theorem dX1_writeNumber_58 : decode cX1_writeNumber 58 = .ok (.bipush 48, 2) := by decide +kernel
theorem dX1_writeNumber_60 : decode cX1_writeNumber 60 = .ok (.iload_n 2, 1) := by decide +kernel
theorem dX1_writeNumber_61 : decode cX1_writeNumber 61 = .ok (.bipush 10, 2) := by decide +kernel
theorem dX1_writeNumber_63 : decode cX1_writeNumber 63 = .ok (.irem, 1) := by decide +kernel
theorem dX1_writeNumber_64 : decode cX1_writeNumber 64 = .ok (.iadd, 1) := by decide +kernel
theorem dX1_writeNumber_65 : decode cX1_writeNumber 65 = .ok (.i2c, 1) := by decide +kernel
theorem dX1_writeNumber_66 : decode cX1_writeNumber 66 = .ok (.invokevirtual 35, 3) := by decide +kernel
theorem dX1_writeNumber_69 : decode cX1_writeNumber 69 = .ok (.return_, 1) := by decide +kernel
theorem dX1_writeLetter_0 : decode cX1_writeLetter 0 = .ok (.iload_n 1, 1) := by decide +kernel
theorem dX1_writeLetter_1 : decode cX1_writeLetter 1 = .ok (.bipush 26, 2) := by decide +kernel
theorem dX1_writeLetter_3 : decode cX1_writeLetter 3 = .ok (.if_icmp .ne 18, 3) := by decide +kernel
theorem dX1_writeLetter_6 : decode cX1_writeLetter 6 = .ok (.aload_n 0, 1) := by decide +kernel
theorem dX1_writeLetter_7 : decode cX1_writeLetter 7 = .ok (.ldc 59, 2) := by decide +kernel
theorem dX1_writeLetter_9 : decode cX1_writeLetter 9 = .ok (.invokevirtual 35, 3) := by decide +kernel
theorem dX1_writeLetter_12 : decode cX1_writeLetter 12 = .ok (.aload_n 0, 1) := by decide +kernel
theorem dX1_writeLetter_13 : decode cX1_writeLetter 13 = .ok (.ldc 60, 2) := by decide +kernel
theorem dX1_writeLetter_15 : decode cX1_writeLetter 15 = .ok (.invokevirtual 35, 3) := by decide +kernel
theorem dX1_writeLetter_18 : decode cX1_writeLetter 18 = .ok (.goto 12, 3) := by decide +kernel
theorem dX1_writeLetter_21 : decode cX1_writeLetter 21 = .ok (.aload_n 0, 1) := by decide +kernel
theorem dX1_writeLetter_22 : decode cX1_writeLetter 22 = .ok (.bipush 97, 2) := by decide +kernel
theorem dX1_writeLetter_24 : decode cX1_writeLetter 24 = .ok (.iload_n 1, 1) := by decide +kernel
theorem dX1_writeLetter_25 : decode cX1_writeLetter 25 = .ok (.iadd, 1) := by decide +kernel
theorem dX1_writeLetter_26 : decode cX1_writeLetter 26 = .ok (.i2c, 1) := by decide +kernel
theorem dX1_writeLetter_27 : decode cX1_writeLetter 27 = .ok (.invokevirtual 35, 3) := by decide +kernel
theorem dX1_writeLetter_30 : decode cX1_writeLetter 30 = .ok (.return_, 1) := by decide +kernel
theorem dX1_showShape_0 : decode cX1_showShape 0 = .ok (.aload_n 2, 1) := by decide +kernel
theorem dX1_showShape_1 : decode cX1_showShape 1 = .ok (.iload_n 3, 1) := by decide +kernel
theorem dX1_showShape_2 : decode cX1_showShape 2 = .ok (.invokevirtual 43, 3) := by decide +kernel
theorem dX1_showShape_5 : decode cX1_showShape 5 = .ok (.istore 4, 2) := by decide +kernel
theorem dX1_showShape_7 : decode cX1_showShape 7 = .ok (.aload_n 0, 1) := by decide +kernel
theorem dX1_showShape_8 : decode cX1_showShape 8 = .ok (.iload 4, 2) := by decide +kernel
theorem dX1_showShape_10 : decode cX1_showShape 10 = .ok (.ifCond .le 8, 3) := by decide +kernel
theorem dX1_showShape_13 : decode cX1_showShape 13 = .ok (.bipush 116, 2) := by decide +kernel
theorem dX1_showShape_15 : decode cX1_showShape 15 = .ok (.goto 5, 3) := by decide +kernel
theorem dX1_showShape_18 : decode cX1_showShape 18 = .ok (.bipush 98, 2) := by decide +kernel
theorem dX1_showShape_20 : decode cX1_showShape 20 = .ok (.invokevirtual 35, 3) := by decide +kernel
theorem dX1_showShape_23 : decode cX1_showShape 23 = .ok (.aload_n 0, 1) := by decide +kernel
theorem dX1_showShape_24 : decode cX1_showShape 24 = .ok (.iload_n 3, 1) := by decide +kernel
theorem dX1_showShape_25 : decode cX1_showShape 25 = .ok (.invokevirtual 39, 3) := by decide +kernel
theorem dX1_showShape_28 : decode cX1_showShape 28 = .ok (.iconst 0, 1) := by decide +kernel
theorem dX1_showShape_29 : decode cX1_showShape 29 = .ok (.istore 5, 2) := by decide +kernel
theorem dX1_showShape_31 : decode cX1_showShape 31 = .ok (.iload 5, 2) := by decide +kernel
theorem dX1_showShape_33 : decode cX1_showShape 33 = .ok (.iconst 4, 1) := by decide +kernel
theorem dX1_showShape_34 : decode cX1_showShape 34 = .ok (.if_icmp .ge 36, 3) := by decide +kernel
theorem dX1_showShape_37 : decode cX1_showShape 37 = .ok (.aload_n 0, 1) := by decide +kernel
theorem dX1_showShape_38 : decode cX1_showShape 38 = .ok (.iload 5, 2) := by decide +kernel
theorem dX1_showShape_40 : decode cX1_showShape 40 = .ok (.ifCond .ne 8, 3) := by decide +kernel
theorem dX1_showShape_43 : decode cX1_showShape 43 = .ok (.bipush 58, 2) := by decide +kernel
theorem dX1_showShape_45 : decode cX1_showShape 45 = .ok (.goto 5, 3) := by decide +kernel
theorem dX1_showShape_48 : decode cX1_showShape 48 = .ok (.bipush 44, 2) := by decide +kernel
theorem dX1_showShape_50 : decode cX1_showShape 50 = .ok (.invokevirtual 35, 3) := by decide +kernel
theorem dX1_showShape_53 : decode cX1_showShape 53 = .ok (.aload_n 0, 1) := by decide +kernel
theorem dX1_showShape_54 : decode cX1_showShape 54 = .ok (.aload_n 1, 1) := by decide +kernel
theorem dX1_showShape_55 : decode cX1_showShape 55 = .ok (.iload_n 3, 1) := by decide +kernel
theorem dX1_showShape_56 : decode cX1_showShape 56 = .ok (.iload 5, 2) := by decide +kernel
theorem dX1_showShape_58 : decode cX1_showShape 58 = .ok (.invokevirtual 49, 3) := by decide +kernel
theorem dX1_showShape_61 : decode cX1_showShape 61 = .ok (.invokevirtual 39, 3) := by decide +kernel
theorem dX1_showShape_64 : decode cX1_showShape 64 = .ok (.iinc 5 1, 3) := by decide +kernel
theorem dX1_showShape_67 : decode cX1_showShape 67 = .ok (.goto (-36), 3) := by decide +kernel
theorem dX1_showShape_70 : decode cX1_showShape 70 = .ok (.iload 4, 2) := by decide +kernel
theorem dX1_showShape_72 : decode cX1_showShape 72 = .ok (.ifCond .le 9, 3) := by decide +kernel
theorem dX1_showShape_75 : decode cX1_showShape 75 = .ok (.aload_n 0, 1) := by decide +kernel
theorem dX1_showShape_76 : decode cX1_showShape 76 = .ok (.bipush 44, 2) := by decide +kernel
theorem dX1_showShape_78 : decode cX1_showShape 78 = .ok (.invokevirtual 35, 3) := by decide +kernel
theorem dX1_showShape_81 : decode cX1_showShape 81 = .ok (.iconst 0, 1) := by decide +kernel
theorem dX1_showShape_82 : decode cX1_showShape 82 = .ok (.istore 5, 2) := by decide +kernel
theorem dX1_showShape_84 : decode cX1_showShape 84 = .ok (.iload 5, 2) := by decide +kernel
theorem dX1_showShape_86 : decode cX1_showShape 86 = .ok (.iload 4, 2) := by decide +kernel
theorem dX1_showShape_88 : decode cX1_showShape 88 = .ok (.if_icmp .ge 26, 3) := by decide +kernel
theorem dX1_showShape_91 : decode cX1_showShape 91 = .ok (.iload 5, 2) := by decide +kernel
theorem dX1_showShape_93 : decode cX1_showShape 93 = .ok (.iconst 5, 1) := by decide +kernel
theorem dX1_showShape_94 : decode cX1_showShape 94 = .ok (.if_icmp .ge 20, 3) := by decide +kernel
theorem dX1_showShape_97 : decode cX1_showShape 97 = .ok (.aload_n 0, 1) := by decide +kernel
theorem dX1_showShape_98 : decode cX1_showShape 98 = .ok (.aload_n 2, 1) := by decide +kernel
theorem dX1_showShape_99 : decode cX1_showShape 99 = .ok (.iload_n 3, 1) := by decide +kernel
theorem dX1_showShape_100 : decode cX1_showShape 100 = .ok (.iload 5, 2) := by decide +kernel
theorem dX1_showShape_102 : decode cX1_showShape 102 = .ok (.invokevirtual 53, 3) := by decide +kernel
theorem dX1_showShape_105 : decode cX1_showShape 105 = .ok (.invokevirtual 56, 3) := by decide +kernel
theorem dX1_showShape_108 : decode cX1_showShape 108 = .ok (.iinc 5 1, 3) := by decide +kernel
theorem dX1_showShape_111 : decode cX1_showShape 111 = .ok (.goto (-27), 3) := by decide +kernel
theorem dX1_showShape_114 : decode cX1_showShape 114 = .ok (.aload_n 0, 1) := by decide +kernel
theorem dX1_showShape_115 : decode cX1_showShape 115 = .ok (.bipush 59, 2) := by decide +kernel
theorem dX1_showShape_117 : decode cX1_showShape 117 = .ok (.invokevirtual 35, 3) := by decide +kernel
theorem dX1_showShape_120 : decode cX1_showShape 120 = .ok (.return_, 1) := by decide +kernel
theorem dX1_show_0 : decode cX1_show 0 = .ok (.aload_n 0, 1) := by decide +kernel
theorem dX1_show_1 : decode cX1_show 1 = .ok (.iconst 0, 1) := by decide +kernel
theorem dX1_show_2 : decode cX1_show 2 = .ok (.putfield 15, 3) := by decide +kernel
theorem dX1_show_5 : decode cX1_show 5 = .ok (.iconst 0, 1) := by decide +kernel
theorem dX1_show_6 : decode cX1_show 6 = .ok (.istore_n 3, 1) := by decide +kernel
theorem dX1_show_7 : decode cX1_show 7 = .ok (.iload_n 3, 1) := by decide +kernel
theorem dX1_show_8 : decode cX1_show 8 = .ok (.bipush 10, 2) := by decide +kernel
theorem dX1_show_10 : decode cX1_show 10 = .ok (.if_icmp .ge 28, 3) := by decide +kernel
theorem dX1_show_13 : decode cX1_show 13 = .ok (.aload_n 1, 1) := by decide +kernel
theorem dX1_show_14 : decode cX1_show 14 = .ok (.getfield 19, 3) := by decide +kernel
theorem dX1_show_17 : decode cX1_show 17 = .ok (.i2l, 1) := by decide +kernel
theorem dX1_show_18 : decode cX1_show 18 = .ok (.iload_n 3, 1) := by decide +kernel
theorem dX1_show_19 : decode cX1_show 19 = .ok (.invokestatic 24, 3) := by decide +kernel
theorem dX1_show_22 : decode cX1_show 22 = .ok (.ifCond .eq 10, 3) := by decide +kernel
theorem dX1_show_25 : decode cX1_show 25 = .ok (.aload_n 0, 1) := by decide +kernel
theorem dX1_show_26 : decode cX1_show 26 = .ok (.aload_n 1, 1) := by decide +kernel
theorem dX1_show_27 : decode cX1_show 27 = .ok (.aload_n 2, 1) := by decide +kernel
theorem dX1_show_28 : decode cX1_show 28 = .ok (.iload_n 3, 1) := by decide +kernel
theorem dX1_show_29 : decode cX1_show 29 = .ok (.invokevirtual 28, 3) := by decide +kernel
theorem dX1_show_32 : decode cX1_show 32 = .ok (.iinc 3 1, 3) := by decide +kernel
theorem dX1_show_35 : decode cX1_show 35 = .ok (.goto (-28), 3) := by decide +kernel
theorem dX1_show_38 : decode cX1_show 38 = .ok (.iconst 0, 1) := by decide +kernel
theorem dX1_show_39 : decode cX1_show 39 = .ok (.istore_n 3, 1) := by decide +kernel
theorem dX1_show_40 : decode cX1_show 40 = .ok (.iload_n 3, 1) := by decide +kernel
theorem dX1_show_41 : decode cX1_show 41 = .ok (.bipush 12, 2) := by decide +kernel
theorem dX1_show_43 : decode cX1_show 43 = .ok (.if_icmp .ge 38, 3) := by decide +kernel
theorem dX1_show_46 : decode cX1_show 46 = .ok (.aload_n 1, 1) := by decide +kernel
theorem dX1_show_47 : decode cX1_show 47 = .ok (.getfield 32, 3) := by decide +kernel
theorem dX1_show_50 : decode cX1_show 50 = .ok (.i2l, 1) := by decide +kernel
theorem dX1_show_51 : decode cX1_show 51 = .ok (.iload_n 3, 1) := by decide +kernel
theorem dX1_show_52 : decode cX1_show 52 = .ok (.invokestatic 24, 3) := by decide +kernel
theorem dX1_show_55 : decode cX1_show 55 = .ok (.ifCond .eq 20, 3) := by decide +kernel
theorem dX1_show_58 : decode cX1_show 58 = .ok (.aload_n 0, 1) := by decide +kernel
theorem dX1_show_59 : decode cX1_show 59 = .ok (.bipush 114, 2) := by decide +kernel
theorem dX1_show_61 : decode cX1_show 61 = .ok (.invokevirtual 35, 3) := by decide +kernel
theorem dX1_show_64 : decode cX1_show 64 = .ok (.aload_n 0, 1) := by decide +kernel
theorem dX1_show_65 : decode cX1_show 65 = .ok (.iload_n 3, 1) := by decide +kernel
theorem dX1_show_66 : decode cX1_show 66 = .ok (.invokevirtual 39, 3) := by decide +kernel
theorem dX1_show_69 : decode cX1_show 69 = .ok (.aload_n 0, 1) := by decide +kernel
theorem dX1_show_70 : decode cX1_show 70 = .ok (.bipush 59, 2) := by decide +kernel
theorem dX1_show_72 : decode cX1_show 72 = .ok (.invokevirtual 35, 3) := by decide +kernel
theorem dX1_show_75 : decode cX1_show 75 = .ok (.iinc 3 1, 3) := by decide +kernel
theorem dX1_show_78 : decode cX1_show 78 = .ok (.goto (-38), 3) := by decide +kernel
theorem dX1_show_81 : decode cX1_show 81 = .ok (.return_, 1) := by decide +kernel
theorem dX1_signOf_0 : decode cX1_signOf 0 = .ok (.iload_n 1, 1) := by decide +kernel
theorem dX1_signOf_1 : decode cX1_signOf 1 = .ok (.ifCond .lt 21, 3) := by decide +kernel
theorem dX1_signOf_4 : decode cX1_signOf 4 = .ok (.iload_n 1, 1) := by decide +kernel
theorem dX1_signOf_5 : decode cX1_signOf 5 = .ok (.aload_n 0, 1) := by decide +kernel
theorem dX1_signOf_6 : decode cX1_signOf 6 = .ok (.getfield 9, 3) := by decide +kernel
theorem dX1_signOf_9 : decode cX1_signOf 9 = .ok (.arraylength, 1) := by decide +kernel
theorem dX1_signOf_10 : decode cX1_signOf 10 = .ok (.if_icmp .ge 12, 3) := by decide +kernel
theorem dX1_signOf_13 : decode cX1_signOf 13 = .ok (.aload_n 0, 1) := by decide +kernel
theorem dX1_signOf_14 : decode cX1_signOf 14 = .ok (.getfield 9, 3) := by decide +kernel
theorem dX1_signOf_17 : decode cX1_signOf 17 = .ok (.iload_n 1, 1) := by decide +kernel
theorem dX1_signOf_18 : decode cX1_signOf 18 = .ok (.caload, 1) := by decide +kernel
theorem dX1_signOf_19 : decode cX1_signOf 19 = .ok (.goto 4, 3) := by decide +kernel
theorem dX1_signOf_22 : decode cX1_signOf 22 = .ok (.iconst 0, 1) := by decide +kernel
theorem dX1_signOf_23 : decode cX1_signOf 23 = .ok (.ireturn, 1) := by decide +kernel
theorem dX2_actsOf_0 : decode cX2_actsOf 0 = .ok (.iload_n 1, 1) := by decide +kernel
theorem dX2_actsOf_1 : decode cX2_actsOf 1 = .ok (.ifCond .lt 21, 3) := by decide +kernel
theorem dX2_actsOf_4 : decode cX2_actsOf 4 = .ok (.iload_n 1, 1) := by decide +kernel
theorem dX2_actsOf_5 : decode cX2_actsOf 5 = .ok (.aload_n 0, 1) := by decide +kernel
theorem dX2_actsOf_6 : decode cX2_actsOf 6 = .ok (.getfield 18, 3) := by decide +kernel
theorem dX2_actsOf_9 : decode cX2_actsOf 9 = .ok (.arraylength, 1) := by decide +kernel
theorem dX2_actsOf_10 : decode cX2_actsOf 10 = .ok (.if_icmp .ge 12, 3) := by decide +kernel
theorem dX2_actsOf_13 : decode cX2_actsOf 13 = .ok (.aload_n 0, 1) := by decide +kernel
theorem dX2_actsOf_14 : decode cX2_actsOf 14 = .ok (.getfield 18, 3) := by decide +kernel
theorem dX2_actsOf_17 : decode cX2_actsOf 17 = .ok (.iload_n 1, 1) := by decide +kernel
theorem dX2_actsOf_18 : decode cX2_actsOf 18 = .ok (.laload, 1) := by decide +kernel
theorem dX2_actsOf_19 : decode cX2_actsOf 19 = .ok (.goto 4, 3) := by decide +kernel
theorem dX2_actsOf_22 : decode cX2_actsOf 22 = .ok (.lconst 0, 1) := by decide +kernel
theorem dX2_actsOf_23 : decode cX2_actsOf 23 = .ok (.lreturn, 1) := by decide +kernel
theorem dX2_charsOf_0 : decode cX2_charsOf 0 = .ok (.aload_n 0, 1) := by decide +kernel
theorem dX2_charsOf_1 : decode cX2_charsOf 1 = .ok (.getfield 22, 3) := by decide +kernel
theorem dX2_charsOf_4 : decode cX2_charsOf 4 = .ok (.iload_n 1, 1) := by decide +kernel
theorem dX2_charsOf_5 : decode cX2_charsOf 5 = .ok (.invokestatic 38, 3) := by decide +kernel
theorem dX2_charsOf_8 : decode cX2_charsOf 8 = .ok (.ireturn, 1) := by decide +kernel
theorem dX2_keep_0 : decode cX2_keep 0 = .ok (.aload_n 0, 1) := by decide +kernel
theorem dX2_keep_1 : decode cX2_keep 1 = .ok (.getfield 9, 3) := by decide +kernel
theorem dX2_keep_4 : decode cX2_keep 4 = .ok (.ifCond .lt 12, 3) := by decide +kernel
theorem dX2_keep_7 : decode cX2_keep 7 = .ok (.aload_n 0, 1) := by decide +kernel
theorem dX2_keep_8 : decode cX2_keep 8 = .ok (.getfield 9, 3) := by decide +kernel
theorem dX2_keep_11 : decode cX2_keep 11 = .ok (.bipush 10, 2) := by decide +kernel
theorem dX2_keep_13 : decode cX2_keep 13 = .ok (.if_icmp .lt 4, 3) := by decide +kernel
theorem dX2_keep_16 : decode cX2_keep 16 = .ok (.return_, 1) := by decide +kernel
theorem dX2_keep_17 : decode cX2_keep 17 = .ok (.aload_n 0, 1) := by decide +kernel
theorem dX2_keep_18 : decode cX2_keep 18 = .ok (.getfield 18, 3) := by decide +kernel
theorem dX2_keep_21 : decode cX2_keep 21 = .ok (.aload_n 0, 1) := by decide +kernel
theorem dX2_keep_22 : decode cX2_keep 22 = .ok (.getfield 9, 3) := by decide +kernel
theorem dX2_keep_25 : decode cX2_keep 25 = .ok (.lload_n 2, 1) := by decide +kernel
theorem dX2_keep_26 : decode cX2_keep 26 = .ok (.lastore, 1) := by decide +kernel
theorem dX2_keep_27 : decode cX2_keep 27 = .ok (.aload_n 0, 1) := by decide +kernel
theorem dX2_keep_28 : decode cX2_keep 28 = .ok (.getfield 22, 3) := by decide +kernel
theorem dX2_keep_31 : decode cX2_keep 31 = .ok (.aload_n 0, 1) := by decide +kernel
theorem dX2_keep_32 : decode cX2_keep 32 = .ok (.getfield 9, 3) := by decide +kernel
theorem dX2_keep_35 : decode cX2_keep 35 = .ok (.aload_n 1, 1) := by decide +kernel
theorem dX2_keep_36 : decode cX2_keep 36 = .ok (.getfield 30, 3) := by decide +kernel
theorem dX2_keep_39 : decode cX2_keep 39 = .ok (.iastore, 1) := by decide +kernel
theorem dX2_keep_40 : decode cX2_keep 40 = .ok (.iconst 0, 1) := by decide +kernel
theorem dX2_keep_41 : decode cX2_keep 41 = .ok (.istore 4, 2) := by decide +kernel
theorem dX2_keep_43 : decode cX2_keep 43 = .ok (.iload 4, 2) := by decide +kernel
theorem dX2_keep_45 : decode cX2_keep 45 = .ok (.sipush 328, 3) := by decide +kernel
theorem dX2_keep_48 : decode cX2_keep 48 = .ok (.if_icmp .ge 31, 3) := by decide +kernel
theorem dX2_keep_51 : decode cX2_keep 51 = .ok (.aload_n 0, 1) := by decide +kernel
theorem dX2_keep_52 : decode cX2_keep 52 = .ok (.getfield 26, 3) := by decide +kernel
theorem dX2_keep_55 : decode cX2_keep 55 = .ok (.aload_n 0, 1) := by decide +kernel
theorem dX2_keep_56 : decode cX2_keep 56 = .ok (.getfield 9, 3) := by decide +kernel
theorem dX2_keep_59 : decode cX2_keep 59 = .ok (.sipush 328, 3) := by decide +kernel
theorem dX2_keep_62 : decode cX2_keep 62 = .ok (.imul, 1) := by decide +kernel
theorem dX2_keep_63 : decode cX2_keep 63 = .ok (.iload 4, 2) := by decide +kernel
theorem dX2_keep_65 : decode cX2_keep 65 = .ok (.iadd, 1) := by decide +kernel
theorem dX2_keep_66 : decode cX2_keep 66 = .ok (.aload_n 1, 1) := by decide +kernel
theorem dX2_keep_67 : decode cX2_keep 67 = .ok (.iload 4, 2) := by decide +kernel
theorem dX2_keep_69 : decode cX2_keep 69 = .ok (.invokevirtual 34, 3) := by decide +kernel
theorem dX2_keep_72 : decode cX2_keep 72 = .ok (.castore, 1) := by decide +kernel
theorem dX2_keep_73 : decode cX2_keep 73 = .ok (.iinc 4 1, 3) := by decide +kernel
theorem dX2_keep_76 : decode cX2_keep 76 = .ok (.goto (-33), 3) := by decide +kernel
theorem dX2_keep_79 : decode cX2_keep 79 = .ok (.aload_n 0, 1) := by decide +kernel
theorem dX2_keep_80 : decode cX2_keep 80 = .ok (.dup, 1) := by decide +kernel
theorem dX2_keep_81 : decode cX2_keep 81 = .ok (.getfield 9, 3) := by decide +kernel
theorem dX2_keep_84 : decode cX2_keep 84 = .ok (.iconst 1, 1) := by decide +kernel
theorem dX2_keep_85 : decode cX2_keep 85 = .ok (.iadd, 1) := by decide +kernel
theorem dX2_keep_86 : decode cX2_keep 86 = .ok (.putfield 9, 3) := by decide +kernel
theorem dX2_keep_89 : decode cX2_keep 89 = .ok (.return_, 1) := by decide +kernel
theorem dX2_signOf_0 : decode cX2_signOf 0 = .ok (.iload_n 1, 1) := by decide +kernel
theorem dX2_signOf_1 : decode cX2_signOf 1 = .ok (.sipush 328, 3) := by decide +kernel
theorem dX2_signOf_4 : decode cX2_signOf 4 = .ok (.imul, 1) := by decide +kernel
theorem dX2_signOf_5 : decode cX2_signOf 5 = .ok (.iload_n 2, 1) := by decide +kernel
theorem dX2_signOf_6 : decode cX2_signOf 6 = .ok (.iadd, 1) := by decide +kernel
theorem dX2_signOf_7 : decode cX2_signOf 7 = .ok (.istore_n 3, 1) := by decide +kernel
theorem dX2_signOf_8 : decode cX2_signOf 8 = .ok (.iload_n 3, 1) := by decide +kernel
theorem dX2_signOf_9 : decode cX2_signOf 9 = .ok (.ifCond .lt 21, 3) := by decide +kernel
theorem dX2_signOf_12 : decode cX2_signOf 12 = .ok (.iload_n 3, 1) := by decide +kernel
theorem dX2_signOf_13 : decode cX2_signOf 13 = .ok (.aload_n 0, 1) := by decide +kernel
theorem dX2_signOf_14 : decode cX2_signOf 14 = .ok (.getfield 26, 3) := by decide +kernel
theorem dX2_signOf_17 : decode cX2_signOf 17 = .ok (.arraylength, 1) := by decide +kernel
theorem dX2_signOf_18 : decode cX2_signOf 18 = .ok (.if_icmp .ge 12, 3) := by decide +kernel
theorem dX2_signOf_21 : decode cX2_signOf 21 = .ok (.aload_n 0, 1) := by decide +kernel
theorem dX2_signOf_22 : decode cX2_signOf 22 = .ok (.getfield 26, 3) := by decide +kernel
theorem dX2_signOf_25 : decode cX2_signOf 25 = .ok (.iload_n 3, 1) := by decide +kernel
theorem dX2_signOf_26 : decode cX2_signOf 26 = .ok (.caload, 1) := by decide +kernel
theorem dX2_signOf_27 : decode cX2_signOf 27 = .ok (.goto 4, 3) := by decide +kernel
theorem dX2_signOf_30 : decode cX2_signOf 30 = .ok (.iconst 0, 1) := by decide +kernel
theorem dX2_signOf_31 : decode cX2_signOf 31 = .ok (.ireturn, 1) := by decide +kernel
theorem fl_RX1_32 : FL RX1 32 0 6 .int := ⟨RX0, TX0, 7, tyX0, rfl, by decide, lyX0, tyX0_ok, nmX0, rfl, Or.inr ⟨_, nf0 (mem_i 17 rfl)⟩⟩
theorem ml_RX1_24 : MS RX1 24 yX7_has 2 := ⟨⟨by decide +kernel, by decide +kernel, by decide +kernel⟩, tb6 (mem_i 13 rfl), tb0 (mem_i 1 rfl), Or.inr ⟨_, nf2 (mem_i 10 rfl)⟩⟩
theorem fl_RX1_15 : FL RX1 15 1 1 .int := ⟨RX1, TX1, 2, tyX1, rfl, by decide, lyX1, tyX1_ok, nmX1, rfl, Or.inl (tb3 (mem_i 25 rfl))⟩
theorem fl_RX1_9 : FL RX1 9 1 0 (tyX1 0) := ⟨RX1, TX1, 2, tyX1, rfl, by decide, lyX1, tyX1_ok, nmX1, rfl, Or.inl (tb3 (mem_i 24 rfl))⟩
theorem fp_1_1 : FP 1 1 := fun C T N h => by cases h; rfl
theorem ml_RX1_35 : MV RX1 35 1 yX1_write 1 := ⟨⟨by decide +kernel, by decide +kernel, by decide +kernel⟩, tb13 (mem_i 21 rfl), tb0 (mem_i 8 rfl), Or.inl (tb13 (mem_i 20 rfl)), RX1, TX1, 2, rfl, rfl, tb17 (mem_i 24 rfl)⟩
theorem ml_RX1_39 : MV RX1 39 1 yX1_writeNumber 1 := ⟨⟨by decide +kernel, by decide +kernel, by decide +kernel⟩, tb13 (mem_i 24 rfl), tb0 (mem_i 8 rfl), Or.inl (tb13 (mem_i 23 rfl)), RX1, TX1, 2, rfl, rfl, tb17 (mem_i 25 rfl)⟩
theorem fl_RX1_19 : FL RX1 19 0 5 .int := ⟨RX0, TX0, 7, tyX0, rfl, by decide, lyX0, tyX0_ok, nmX0, rfl, Or.inr ⟨_, nf0 (mem_i 14 rfl)⟩⟩
theorem ml_RX1_53 : MV RX1 53 5 yX5_shownLetter 2 := ⟨⟨by decide +kernel, by decide +kernel, by decide +kernel⟩, tb13 (mem_i 29 rfl), tb0 (mem_i 2 rfl), Or.inr ⟨_, nf2 (mem_i 13 rfl)⟩, RX5, TX5, 4, rfl, rfl, tb17 (mem_i 26 rfl)⟩
theorem ml_RX1_56 : MV RX1 56 1 yX1_writeLetter 1 := ⟨⟨by decide +kernel, by decide +kernel, by decide +kernel⟩, tb14 (mem_i 3 rfl), tb0 (mem_i 8 rfl), Or.inl (tb14 (mem_i 2 rfl)), RX1, TX1, 2, rfl, rfl, tb17 (mem_i 27 rfl)⟩
theorem ml_RX1_49 : MV RX1 49 0 yX0_numberOf 2 := ⟨⟨by decide +kernel, by decide +kernel, by decide +kernel⟩, tb6 (mem_i 24 rfl), tb0 (mem_i 6 rfl), Or.inr ⟨_, nf2 (mem_i 12 rfl)⟩, RX0, TX0, 7, rfl, rfl, tb16 (mem_i 19 rfl)⟩
theorem ml_RX1_43 : MV RX1 43 5 yX5_lettersOf 1 := ⟨⟨by decide +kernel, by decide +kernel, by decide +kernel⟩, tb6 (mem_i 29 rfl), tb0 (mem_i 2 rfl), Or.inr ⟨_, nf2 (mem_i 11 rfl)⟩, RX5, TX5, 4, rfl, rfl, tb16 (mem_i 21 rfl)⟩
theorem ml_RX1_28 : MV RX1 28 1 yX1_showShape 3 := ⟨⟨by decide +kernel, by decide +kernel, by decide +kernel⟩, tb13 (mem_i 18 rfl), tb0 (mem_i 8 rfl), Or.inl (tb13 (mem_i 17 rfl)), RX1, TX1, 2, rfl, rfl, tb17 (mem_i 23 rfl)⟩
theorem fl_RX2_18 : FL RX2 18 2 2 (tyX2 2) := ⟨RX2, TX2, 5, tyX2, rfl, by decide, lyX2, tyX2_ok, nmX2, rfl, Or.inl (tb3 (mem_i 11 rfl))⟩
theorem fl_RX2_22 : FL RX2 22 2 3 (tyX2 3) := ⟨RX2, TX2, 5, tyX2, rfl, by decide, lyX2, tyX2_ok, nmX2, rfl, Or.inl (tb3 (mem_i 12 rfl))⟩
theorem ml_RX2_38 : MS RX2 38 yX7_read 2 := ⟨⟨by decide +kernel, by decide +kernel, by decide +kernel⟩, tb5 (mem_i 18 rfl), tb0 (mem_i 1 rfl), Or.inr ⟨_, nf2 (mem_i 6 rfl)⟩⟩
theorem fl_RX2_9 : FL RX2 9 2 0 .int := ⟨RX2, TX2, 5, tyX2, rfl, by decide, lyX2, tyX2_ok, nmX2, rfl, Or.inl (tb3 (mem_i 9 rfl))⟩
theorem fp_2_0 : FP 2 0 := fun C T N h => by cases h; rfl
theorem fl_RX2_26 : FL RX2 26 2 4 (tyX2 4) := ⟨RX2, TX2, 5, tyX2, rfl, by decide, lyX2, tyX2_ok, nmX2, rfl, Or.inl (tb3 (mem_i 13 rfl))⟩
theorem ml_RX2_34 : MV RX2 34 1 yX1_signOf 1 := ⟨⟨by decide +kernel, by decide +kernel, by decide +kernel⟩, tb14 (mem_i 9 rfl), tb0 (mem_i 8 rfl), Or.inr ⟨_, nf2 (mem_i 16 rfl)⟩, RX1, TX1, 2, rfl, rfl, tb17 (mem_i 29 rfl)⟩
theorem fl_RX2_30 : FL RX2 30 1 1 .int := ⟨RX1, TX1, 2, tyX1, rfl, by decide, lyX1, tyX1_ok, nmX1, rfl, Or.inr ⟨_, nf0 (mem_i 25 rfl)⟩⟩
def f_X1_write_b39 (p1 : Int32)  (S : HS)  : Option (HS) :=
some S
def f_X1_write (p1 : Int32) (S : HS) : Option (HS) :=
if (S.1 34 1) < 0 then
f_X1_write_b39 p1  S
else
if (328 : Int32) ≤ (S.1 34 1) then
f_X1_write_b39 p1  S
else
if ib (S.1 34 1) (328) = true then
f_X1_write_b39 p1  (sI (sI S 35 (S.1 34 1).toNatClampNeg (vp_nar .char p1)) 34 1 (((sI S 35 (S.1 34 1).toNatClampNeg (vp_nar .char p1)).1 34 1) + (1 : Int32)))
else none
def rm_X1_write : Room := { frames := 0, cells := 0, slots := 0, locals := 0 }
set_option maxRecDepth 100000 in
set_option maxHeartbeats 4000000 in
theorem c_X1_write (l : Launch) (p1 : Int32)  (S : HS) (out : HS) (h : f_X1_write p1 S = some out) : Ct l yX1_write cX1_write 2 none rm_X1_write [vR 34, vI p1] S none out := by
  refine Ct.intro (own := RX1) (lv := [(0, vR 34), (1, vI p1)]) (by decide +kernel) rfl ⟨rfl, rfl⟩ rfl (Nat.le_of_ble_eq_true rfl) ?_
  intro G hG hR
  revert h
  have hb39 : ∀ (S : HS), f_X1_write_b39 p1 S  = some out → G 0 0 S [] 39 [] := by
    intro S
    unfold f_X1_write_b39
    exact s_rvC hR dX1_write_39
  unfold f_X1_write
  refine s_aload_n hG dX1_write_0 rfl ?_
  refine s_getI hG dX1_write_1 fl_RX1_15 (rfl) ?_
  refine s_if_lt hG (tgt := 39) dX1_write_4 (by decide) ?_ ?_
  · refine s_lv hG [] rfl ?_
    exact hb39 _
  · refine s_aload_n hG dX1_write_7 rfl ?_
    refine s_getI hG dX1_write_8 fl_RX1_15 (rfl) ?_
    refine s_aload_n hG dX1_write_11 rfl ?_
    refine s_getC hG dX1_write_12 fl_RX1_9 (rfl) ?_
    refine s_alen hG (v := (328 : Int32)) dX1_write_15 (rfl) (fun _ => rfl) rfl ?_
    refine s_icmp_ge hG (tgt := 39) dX1_write_16 (by decide) ?_ ?_
    · refine s_lv hG [] rfl ?_
      exact hb39 _
    · refine s_aload_n hG dX1_write_19 rfl ?_
      refine s_getC hG dX1_write_20 fl_RX1_9 (rfl) ?_
      refine s_aload_n hG dX1_write_23 rfl ?_
      refine s_getI hG dX1_write_24 fl_RX1_15 (rfl) ?_
      refine s_iload_n hG dX1_write_27 rfl ?_
      refine s_castore hG dX1_write_28 (rfl) ?_
      refine s_aload_n hG dX1_write_29 rfl ?_
      refine s_dup hG dX1_write_30 rfl ?_
      refine s_getI hG dX1_write_31 fl_RX1_15 (rfl) ?_
      refine s_iconst hG (v := (1 : Int32)) dX1_write_34 (by decide) ?_
      refine s_iadd hG dX1_write_35 ?_
      refine s_putI hG dX1_write_36 fl_RX1_15 fp_1_1 (rfl) ⟨rfl, rfl⟩ ?_
      refine s_lv hG [] rfl ?_
      exact hb39 _

def f_X1_writeNumber_b57 (p1 : Int32)  (S : HS) (x2 : Int32) : Option (HS) :=
if (10 : Int32) = 0 then none else
(f_X1_write (i2c ((48 : Int32) + (x2 - x2 / (10 : Int32) * (10 : Int32)))) S).bind (fun o66 =>
some o66)
def f_X1_writeNumber_b36 (p1 : Int32)  (S : HS) (x2 : Int32) : Option (HS) :=
if x2 < (10 : Int32) then
f_X1_writeNumber_b57 p1  S x2
else
if (10 : Int32) = 0 then none else
if (10 : Int32) = 0 then none else
(f_X1_write (i2c ((48 : Int32) + ((x2 / (10 : Int32)) - (x2 / (10 : Int32)) / (10 : Int32) * (10 : Int32)))) S).bind (fun o54 =>
f_X1_writeNumber_b57 p1  o54 x2)
def f_X1_writeNumber_b10 (p1 : Int32)  (S : HS)  : Option (HS) :=
if (iabs p1) < (100 : Int32) then
f_X1_writeNumber_b36 p1  S (iabs p1)
else
if (100 : Int32) = 0 then none else
if (10 : Int32) = 0 then none else
(f_X1_write (i2c ((48 : Int32) + (((iabs p1) / (100 : Int32)) - ((iabs p1) / (100 : Int32)) / (10 : Int32) * (10 : Int32)))) S).bind (fun o33 =>
f_X1_writeNumber_b36 p1  o33 (iabs p1))
def f_X1_writeNumber (p1 : Int32) (S : HS) : Option (HS) :=
if 0 ≤ p1 then
f_X1_writeNumber_b10 p1  S
else
(f_X1_write (45 : Int32) S).bind (fun o7 =>
f_X1_writeNumber_b10 p1  o7)
def rm_X1_writeNumber : Room := { frames := 1, cells := 0, slots := 0, locals := 21 }
set_option maxRecDepth 100000 in
set_option maxHeartbeats 4000000 in
theorem c_X1_writeNumber (l : Launch) (p1 : Int32)  (S : HS) (out : HS) (h : f_X1_writeNumber p1 S = some out) : Ct l yX1_writeNumber cX1_writeNumber 3 none rm_X1_writeNumber [vR 34, vI p1] S none out := by
  refine Ct.intro (own := RX1) (lv := [(0, vR 34), (1, vI p1)]) (by decide +kernel) rfl ⟨rfl, rfl⟩ rfl (Nat.le_of_ble_eq_true rfl) ?_
  intro G hG hR
  revert h
  have hb57 : ∀ (S : HS) (x2 : Int32), f_X1_writeNumber_b57 p1 S x2 = some out → G 0 0 S [(0, vR 34), (2, vI x2)] 57 [] := by
    intro S x2
    unfold f_X1_writeNumber_b57
    refine s_aload_n hG dX1_writeNumber_57 rfl ?_
    refine s_bipush hG (v := (48 : Int32)) dX1_writeNumber_58 (by decide) ?_
    refine s_iload_n hG dX1_writeNumber_60 rfl ?_
    refine s_bipush hG (v := (10 : Int32)) dX1_writeNumber_61 (by decide) ?_
    refine s_irem hG dX1_writeNumber_63 ?_
    refine s_iadd hG dX1_writeNumber_64 ?_
    refine s_i2c hG dX1_writeNumber_65 ?_
    refine s_cvV hG (as := [vI (i2c ((48 : Int32) + (x2 - x2 / (10 : Int32) * (10 : Int32))))]) (st := []) (rm := rm_X1_write) dX1_writeNumber_66 ml_RX1_35 (rfl) (tb13 (mem_i 22 rfl)) rfl ⟨rfl, rfl⟩ ⟨by decide, by decide⟩ (Nat.le_of_ble_eq_true rfl) ⟨Nat.zero_le _, Nat.zero_le _⟩ rfl (fun o h => c_X1_write l _ _ o h) (fun o66 => ?_)
    exact s_rvC hR dX1_writeNumber_69
  have hb36 : ∀ (S : HS) (x2 : Int32), f_X1_writeNumber_b36 p1 S x2 = some out → G 0 0 S [(0, vR 34), (2, vI x2)] 36 [] := by
    intro S x2
    unfold f_X1_writeNumber_b36
    refine s_iload_n hG dX1_writeNumber_36 rfl ?_
    refine s_bipush hG (v := (10 : Int32)) dX1_writeNumber_37 (by decide) ?_
    refine s_icmp_lt hG (tgt := 57) dX1_writeNumber_39 (by decide) ?_ ?_
    · exact hb57 _ _
    · refine s_aload_n hG dX1_writeNumber_42 rfl ?_
      refine s_bipush hG (v := (48 : Int32)) dX1_writeNumber_43 (by decide) ?_
      refine s_iload_n hG dX1_writeNumber_45 rfl ?_
      refine s_bipush hG (v := (10 : Int32)) dX1_writeNumber_46 (by decide) ?_
      refine s_idiv hG dX1_writeNumber_48 ?_
      refine s_bipush hG (v := (10 : Int32)) dX1_writeNumber_49 (by decide) ?_
      refine s_irem hG dX1_writeNumber_51 ?_
      refine s_iadd hG dX1_writeNumber_52 ?_
      refine s_i2c hG dX1_writeNumber_53 ?_
      refine s_cvV hG (as := [vI (i2c ((48 : Int32) + ((x2 / (10 : Int32)) - (x2 / (10 : Int32)) / (10 : Int32) * (10 : Int32))))]) (st := []) (rm := rm_X1_write) dX1_writeNumber_54 ml_RX1_35 (rfl) (tb13 (mem_i 22 rfl)) rfl ⟨rfl, rfl⟩ ⟨by decide, by decide⟩ (Nat.le_of_ble_eq_true rfl) ⟨Nat.zero_le _, Nat.zero_le _⟩ rfl (fun o h => c_X1_write l _ _ o h) (fun o54 => ?_)
      exact hb57 _ _
  have hb10 : ∀ (S : HS), f_X1_writeNumber_b10 p1 S  = some out → G 0 0 S [(0, vR 34), (1, vI p1)] 10 [] := by
    intro S
    unfold f_X1_writeNumber_b10
    refine s_iload_n hG dX1_writeNumber_10 rfl ?_
    refine s_abs hG dX1_writeNumber_11 (tb13 (mem_i 26 (by decide +kernel))) (tb13 (mem_i 27 (by decide +kernel))) (tb0 (mem_i 19 (by decide +kernel))) (tb13 (mem_i 28 (by decide +kernel))) ⟨by decide, by decide⟩ (Nat.le_of_ble_eq_true rfl) ⟨Nat.zero_le _, Nat.zero_le _⟩ ?_
    refine s_istore_n hG (lv' := [(2, vI (iabs p1)), (0, vR 34), (1, vI p1)]) dX1_writeNumber_14 (by decide) rfl ?_
    refine s_iload_n hG dX1_writeNumber_15 rfl ?_
    refine s_bipush hG (v := (100 : Int32)) dX1_writeNumber_16 (by decide) ?_
    refine s_icmp_lt hG (tgt := 36) dX1_writeNumber_18 (by decide) ?_ ?_
    · refine s_lv hG [1, 0] rfl ?_
      exact hb36 _ _
    · refine s_aload_n hG dX1_writeNumber_21 rfl ?_
      refine s_bipush hG (v := (48 : Int32)) dX1_writeNumber_22 (by decide) ?_
      refine s_iload_n hG dX1_writeNumber_24 rfl ?_
      refine s_bipush hG (v := (100 : Int32)) dX1_writeNumber_25 (by decide) ?_
      refine s_idiv hG dX1_writeNumber_27 ?_
      refine s_bipush hG (v := (10 : Int32)) dX1_writeNumber_28 (by decide) ?_
      refine s_irem hG dX1_writeNumber_30 ?_
      refine s_iadd hG dX1_writeNumber_31 ?_
      refine s_i2c hG dX1_writeNumber_32 ?_
      refine s_cvV hG (as := [vI (i2c ((48 : Int32) + (((iabs p1) / (100 : Int32)) - ((iabs p1) / (100 : Int32)) / (10 : Int32) * (10 : Int32))))]) (st := []) (rm := rm_X1_write) dX1_writeNumber_33 ml_RX1_35 (rfl) (tb13 (mem_i 22 rfl)) rfl ⟨rfl, rfl⟩ ⟨by decide, by decide⟩ (Nat.le_of_ble_eq_true rfl) ⟨Nat.zero_le _, Nat.zero_le _⟩ rfl (fun o h => c_X1_write l _ _ o h) (fun o33 => ?_)
      refine s_lv hG [1, 0] rfl ?_
      exact hb36 _ _
  unfold f_X1_writeNumber
  refine s_iload_n hG dX1_writeNumber_0 rfl ?_
  refine s_if_ge hG (tgt := 10) dX1_writeNumber_1 (by decide) ?_ ?_
  · exact hb10 _
  · refine s_aload_n hG dX1_writeNumber_4 rfl ?_
    refine s_bipush hG (v := (45 : Int32)) dX1_writeNumber_5 (by decide) ?_
    refine s_cvV hG (as := [vI (45 : Int32)]) (st := []) (rm := rm_X1_write) dX1_writeNumber_7 ml_RX1_35 (rfl) (tb13 (mem_i 22 rfl)) rfl ⟨rfl, rfl⟩ ⟨by decide, by decide⟩ (Nat.le_of_ble_eq_true rfl) ⟨Nat.zero_le _, Nat.zero_le _⟩ rfl (fun o h => c_X1_write l _ _ o h) (fun o7 => ?_)
    exact hb10 _

def f_X1_writeLetter_b30 (p1 : Int32)  (S : HS)  : Option (HS) :=
some S
def f_X1_writeLetter (p1 : Int32) (S : HS) : Option (HS) :=
if p1 = (26 : Int32) then
(f_X1_write (55357 : Int32) S).bind (fun o9 =>
(f_X1_write (56528 : Int32) o9).bind (fun o15 =>
f_X1_writeLetter_b30 p1  o15))
else
(f_X1_write (i2c ((97 : Int32) + p1)) S).bind (fun o27 =>
f_X1_writeLetter_b30 p1  o27)
def rm_X1_writeLetter : Room := { frames := 1, cells := 0, slots := 0, locals := 21 }
set_option maxRecDepth 100000 in
set_option maxHeartbeats 4000000 in
theorem c_X1_writeLetter (l : Launch) (p1 : Int32)  (S : HS) (out : HS) (h : f_X1_writeLetter p1 S = some out) : Ct l yX1_writeLetter cX1_writeLetter 2 none rm_X1_writeLetter [vR 34, vI p1] S none out := by
  refine Ct.intro (own := RX1) (lv := [(0, vR 34), (1, vI p1)]) (by decide +kernel) rfl ⟨rfl, rfl⟩ rfl (Nat.le_of_ble_eq_true rfl) ?_
  intro G hG hR
  revert h
  have hb30 : ∀ (S : HS), f_X1_writeLetter_b30 p1 S  = some out → G 0 0 S [] 30 [] := by
    intro S
    unfold f_X1_writeLetter_b30
    exact s_rvC hR dX1_writeLetter_30
  unfold f_X1_writeLetter
  refine s_iload_n hG dX1_writeLetter_0 rfl ?_
  refine s_bipush hG (v := (26 : Int32)) dX1_writeLetter_1 (by decide) ?_
  refine s_icmp_ne hG (tgt := 21) dX1_writeLetter_3 (by decide) ?_ ?_
  · refine s_aload_n hG dX1_writeLetter_21 rfl ?_
    refine s_bipush hG (v := (97 : Int32)) dX1_writeLetter_22 (by decide) ?_
    refine s_iload_n hG dX1_writeLetter_24 rfl ?_
    refine s_iadd hG dX1_writeLetter_25 ?_
    refine s_i2c hG dX1_writeLetter_26 ?_
    refine s_cvV hG (as := [vI (i2c ((97 : Int32) + p1))]) (st := []) (rm := rm_X1_write) dX1_writeLetter_27 ml_RX1_35 (rfl) (tb13 (mem_i 22 rfl)) rfl ⟨rfl, rfl⟩ ⟨by decide, by decide⟩ (Nat.le_of_ble_eq_true rfl) ⟨Nat.zero_le _, Nat.zero_le _⟩ rfl (fun o h => c_X1_write l _ _ o h) (fun o27 => ?_)
    refine s_lv hG [] rfl ?_
    exact hb30 _
  · refine s_aload_n hG dX1_writeLetter_6 rfl ?_
    refine s_ldc hG (v := (55357 : Int32)) dX1_writeLetter_7 (tb14 (mem_i 5 rfl)) ?_
    refine s_cvV hG (as := [vI (55357 : Int32)]) (st := []) (rm := rm_X1_write) dX1_writeLetter_9 ml_RX1_35 (rfl) (tb13 (mem_i 22 rfl)) rfl ⟨rfl, rfl⟩ ⟨by decide, by decide⟩ (Nat.le_of_ble_eq_true rfl) ⟨Nat.zero_le _, Nat.zero_le _⟩ rfl (fun o h => c_X1_write l _ _ o h) (fun o9 => ?_)
    refine s_aload_n hG dX1_writeLetter_12 rfl ?_
    refine s_ldc hG (v := (56528 : Int32)) dX1_writeLetter_13 (tb14 (mem_i 6 rfl)) ?_
    refine s_cvV hG (as := [vI (56528 : Int32)]) (st := []) (rm := rm_X1_write) dX1_writeLetter_15 ml_RX1_35 (rfl) (tb13 (mem_i 22 rfl)) rfl ⟨rfl, rfl⟩ ⟨by decide, by decide⟩ (Nat.le_of_ble_eq_true rfl) ⟨Nat.zero_le _, Nat.zero_le _⟩ rfl (fun o h => c_X1_write l _ _ o h) (fun o15 => ?_)
    refine s_goto hG (tgt := 30) dX1_writeLetter_18 (by decide) ?_
    refine s_lv hG [] rfl ?_
    exact hb30 _

def f_X1_showShape_b114 (a1 : Nat) (p3 : Int32)  (S : HS)  : Option (HS) :=
(f_X1_write (59 : Int32) S).bind (fun o117 =>
some o117)
def F_X1_showShape_b84 (a1 : Nat) (p3 : Int32)  (rec84 : HS × Int32 × Int32 → Option (HS)) : HS × Int32 × Int32 → Option (HS) := fun q => match q with
  | (S, x4, x5) =>
    if x4 ≤ x5 then
    f_X1_showShape_b114 a1 p3  S
    else
    if (5 : Int32) ≤ x5 then
    f_X1_showShape_b114 a1 p3  S
    else
    (f_X5_shownLetter p3 x5 S).bind (fun o102 =>
    (f_X1_writeLetter o102 S).bind (fun o105 =>
    rec84 (o105, x4, (x5 + (1 : Int32)))))
def f_X1_showShape_b84 (a1 : Nat) (p3 : Int32)  (S : HS) (x4 : Int32) (x5 : Int32) : Option (HS) := fx (F_X1_showShape_b84 a1 p3) FU (S, x4, x5)
def f_X1_showShape_b81 (a1 : Nat) (p3 : Int32)  (S : HS) (x4 : Int32) : Option (HS) :=
f_X1_showShape_b84 a1 p3  S x4 (0 : Int32)
def f_X1_showShape_b50 (a1 : Nat) (p3 : Int32) (rec31 : HS × Int32 × Int32 → Option (HS)) (S : HS) (x4 : Int32) (x5 : Int32) (t1 : Int32) : Option (HS) :=
(f_X1_write t1 S).bind (fun o50 =>
(f_X0_numberOf a1 p3 x5 o50).bind (fun o58 =>
(f_X1_writeNumber o58 o50).bind (fun o61 =>
rec31 (o61, x4, (x5 + (1 : Int32))))))
def F_X1_showShape_b31 (a1 : Nat) (p3 : Int32)  (rec31 : HS × Int32 × Int32 → Option (HS)) : HS × Int32 × Int32 → Option (HS) := fun q => match q with
  | (S, x4, x5) =>
    if (4 : Int32) ≤ x5 then
    if x4 ≤ 0 then
    f_X1_showShape_b81 a1 p3  S x4
    else
    (f_X1_write (44 : Int32) S).bind (fun o78 =>
    f_X1_showShape_b81 a1 p3  o78 x4)
    else
    if x5 = 0 then
    f_X1_showShape_b50 a1 p3 rec31 S x4 x5 (58 : Int32)
    else
    f_X1_showShape_b50 a1 p3 rec31 S x4 x5 (44 : Int32)
def f_X1_showShape_b31 (a1 : Nat) (p3 : Int32)  (S : HS) (x4 : Int32) (x5 : Int32) : Option (HS) := fx (F_X1_showShape_b31 a1 p3) FU (S, x4, x5)
def f_X1_showShape_b20 (a1 : Nat) (p3 : Int32)  (S : HS) (x4 : Int32) (t1 : Int32) : Option (HS) :=
(f_X1_write t1 S).bind (fun o20 =>
(f_X1_writeNumber p3 o20).bind (fun o25 =>
f_X1_showShape_b31 a1 p3  o25 x4 (0 : Int32)))
def f_X1_showShape (a1 : Nat) (p3 : Int32) (S : HS) : Option (HS) :=
(f_X5_lettersOf p3 S).bind (fun o2 =>
if o2 ≤ 0 then
f_X1_showShape_b20 a1 p3  S o2 (98 : Int32)
else
f_X1_showShape_b20 a1 p3  S o2 (116 : Int32))
def rm_X1_showShape : Room := { frames := 3, cells := 0, slots := 0, locals := 65 }
set_option maxRecDepth 100000 in
set_option maxHeartbeats 4000000 in
theorem c_X1_showShape (l : Launch) (a1 : Nat) (p3 : Int32) (ha1 : oc a1 = some 0) (S : HS) (out : HS) (h : f_X1_showShape a1 p3 S = some out) : Ct l yX1_showShape cX1_showShape 6 none rm_X1_showShape [vR 34, vR a1, vR 2, vI p3] S none out := by
  refine Ct.intro (own := RX1) (lv := [(0, vR 34), (1, vR a1), (2, vR 2), (3, vI p3)]) (by decide +kernel) rfl ⟨rfl, rfl⟩ rfl (Nat.le_of_ble_eq_true rfl) ?_
  intro G hG hR
  revert h
  have hb114 : ∀ (S : HS), f_X1_showShape_b114 a1 p3 S  = some out → G 0 0 S [(0, vR 34)] 114 [] := by
    intro S
    unfold f_X1_showShape_b114
    refine s_aload_n hG dX1_showShape_114 rfl ?_
    refine s_bipush hG (v := (59 : Int32)) dX1_showShape_115 (by decide) ?_
    refine s_cvV hG (as := [vI (59 : Int32)]) (st := []) (rm := rm_X1_write) dX1_showShape_117 ml_RX1_35 (rfl) (tb13 (mem_i 22 rfl)) rfl ⟨rfl, rfl⟩ ⟨by decide, by decide⟩ (Nat.le_of_ble_eq_true rfl) ⟨Nat.zero_le _, Nat.zero_le _⟩ rfl (fun o h => c_X1_write l _ _ o h) (fun o117 => ?_)
    exact s_rvC hR dX1_showShape_120
  have hb84 : ∀ (S : HS) (x4 : Int32) (x5 : Int32), f_X1_showShape_b84 a1 p3 S x4 x5 = some out → G 0 0 S [(0, vR 34), (2, vR 2), (3, vI p3), (4, vI x4), (5, vI x5)] 84 [] := by
    intro  S x4 x5
    unfold f_X1_showShape_b84
    generalize FU = nf
    revert S x4 x5
    induction nf with
    | zero => intro S x4 x5 h9; cases h9
    | succ nf hrec84 =>
      intro S x4 x5
      show F_X1_showShape_b84 a1 p3 (fx (F_X1_showShape_b84 a1 p3) nf) (S, x4, x5) = some out → _
      generalize fx (F_X1_showShape_b84 a1 p3) nf = rec84 at hrec84
      unfold F_X1_showShape_b84
      dsimp only
      refine s_iload hG dX1_showShape_84 rfl ?_
      refine s_iload hG dX1_showShape_86 rfl ?_
      refine s_icmp_ge hG (tgt := 114) dX1_showShape_88 (by decide) ?_ ?_
      · refine s_lv hG [0] rfl ?_
        exact hb114 _
      · refine s_iload hG dX1_showShape_91 rfl ?_
        refine s_iconst hG (v := (5 : Int32)) dX1_showShape_93 (by decide) ?_
        refine s_icmp_ge hG (tgt := 114) dX1_showShape_94 (by decide) ?_ ?_
        · refine s_lv hG [0] rfl ?_
          exact hb114 _
        · refine s_aload_n hG dX1_showShape_97 rfl ?_
          refine s_aload_n hG dX1_showShape_98 rfl ?_
          refine s_iload_n hG dX1_showShape_99 rfl ?_
          refine s_iload hG dX1_showShape_100 rfl ?_
          refine s_cvP hG (as := [vI p3, vI x5]) (st := [vR 34]) (rm := rm_X5_shownLetter) dX1_showShape_102 ml_RX1_53 (rfl) (tb14 (mem_i 0 rfl)) rfl ⟨rfl, rfl⟩ ⟨by decide, by decide⟩ (Nat.le_of_ble_eq_true rfl) ⟨Nat.zero_le _, Nat.zero_le _⟩ rfl (fun o h => c_X5_shownLetter l _ _ _ o h) (fun o102 => ?_)
          refine s_cvV hG (as := [vI o102]) (st := []) (rm := rm_X1_writeLetter) dX1_showShape_105 ml_RX1_56 (rfl) (tb14 (mem_i 4 rfl)) rfl ⟨rfl, rfl⟩ ⟨by decide, by decide⟩ (Nat.le_of_ble_eq_true rfl) ⟨Nat.zero_le _, Nat.zero_le _⟩ rfl (fun o h => c_X1_writeLetter l _ _ o h) (fun o105 => ?_)
          refine s_iinc hG (v := (x5 + (1 : Int32))) (lv' := [(5, vI (x5 + (1 : Int32))), (0, vR 34), (2, vR 2), (3, vI p3), (4, vI x4)]) dX1_showShape_108 rfl rfl (by decide) rfl ?_
          refine s_goto hG (tgt := 84) dX1_showShape_111 (by decide) ?_
          refine s_lv hG [1, 2, 3, 4, 0] rfl ?_
          exact hrec84 _ _ _
  have hb81 : ∀ (S : HS) (x4 : Int32), f_X1_showShape_b81 a1 p3 S x4 = some out → G 0 0 S [(0, vR 34), (2, vR 2), (3, vI p3), (4, vI x4)] 81 [] := by
    intro S x4
    unfold f_X1_showShape_b81
    refine s_iconst hG (v := (0 : Int32)) dX1_showShape_81 (by decide) ?_
    refine s_istore hG (lv' := [(5, vI (0 : Int32)), (0, vR 34), (2, vR 2), (3, vI p3), (4, vI x4)]) dX1_showShape_82 (by decide) rfl ?_
    refine s_lv hG [1, 2, 3, 4, 0] rfl ?_
    exact hb84 _ _ _
  have hb50 : ∀ (rec31 : HS × Int32 × Int32 → Option (HS)) (hrec31 : ∀ (S : HS) (x4 : Int32) (x5 : Int32), rec31 (S, x4, x5) = some out → G 0 0 S [(0, vR 34), (1, vR a1), (2, vR 2), (3, vI p3), (4, vI x4), (5, vI x5)] 31 []) (S : HS) (x4 : Int32) (x5 : Int32) (t1 : Int32), f_X1_showShape_b50 a1 p3 rec31 S x4 x5 t1 = some out → G 0 0 S [(0, vR 34), (1, vR a1), (2, vR 2), (3, vI p3), (4, vI x4), (5, vI x5)] 50 [vI t1, vR 34] := by
    intro rec31 hrec31 S x4 x5 t1
    unfold f_X1_showShape_b50
    refine s_cvV hG (as := [vI t1]) (st := []) (rm := rm_X1_write) dX1_showShape_50 ml_RX1_35 (rfl) (tb13 (mem_i 22 rfl)) rfl ⟨rfl, rfl⟩ ⟨by decide, by decide⟩ (Nat.le_of_ble_eq_true rfl) ⟨Nat.zero_le _, Nat.zero_le _⟩ rfl (fun o h => c_X1_write l _ _ o h) (fun o50 => ?_)
    refine s_aload_n hG dX1_showShape_53 rfl ?_
    refine s_aload_n hG dX1_showShape_54 rfl ?_
    refine s_iload_n hG dX1_showShape_55 rfl ?_
    refine s_iload hG dX1_showShape_56 rfl ?_
    refine s_cvP hG (as := [vI p3, vI x5]) (st := [vR 34]) (rm := rm_X0_numberOf) dX1_showShape_58 ml_RX1_49 (ha1) (tb6 (mem_i 25 rfl)) rfl ⟨rfl, rfl⟩ ⟨by decide, by decide⟩ (Nat.le_of_ble_eq_true rfl) ⟨Nat.zero_le _, Nat.zero_le _⟩ rfl (fun o h => c_X0_numberOf l _ _ _ (ha1) _ o h) (fun o58 => ?_)
    refine s_cvV hG (as := [vI o58]) (st := []) (rm := rm_X1_writeNumber) dX1_showShape_61 ml_RX1_39 (rfl) (tb13 (mem_i 25 rfl)) rfl ⟨rfl, rfl⟩ ⟨by decide, by decide⟩ (Nat.le_of_ble_eq_true rfl) ⟨Nat.zero_le _, Nat.zero_le _⟩ rfl (fun o h => c_X1_writeNumber l _ _ o h) (fun o61 => ?_)
    refine s_iinc hG (v := (x5 + (1 : Int32))) (lv' := [(5, vI (x5 + (1 : Int32))), (0, vR 34), (1, vR a1), (2, vR 2), (3, vI p3), (4, vI x4)]) dX1_showShape_64 rfl rfl (by decide) rfl ?_
    refine s_goto hG (tgt := 31) dX1_showShape_67 (by decide) ?_
    refine s_lv hG [1, 2, 3, 4, 5, 0] rfl ?_
    exact hrec31 _ _ _
  have hb31 : ∀ (S : HS) (x4 : Int32) (x5 : Int32), f_X1_showShape_b31 a1 p3 S x4 x5 = some out → G 0 0 S [(0, vR 34), (1, vR a1), (2, vR 2), (3, vI p3), (4, vI x4), (5, vI x5)] 31 [] := by
    intro  S x4 x5
    unfold f_X1_showShape_b31
    generalize FU = nf
    revert S x4 x5
    induction nf with
    | zero => intro S x4 x5 h9; cases h9
    | succ nf hrec31 =>
      intro S x4 x5
      show F_X1_showShape_b31 a1 p3 (fx (F_X1_showShape_b31 a1 p3) nf) (S, x4, x5) = some out → _
      generalize fx (F_X1_showShape_b31 a1 p3) nf = rec31 at hrec31
      unfold F_X1_showShape_b31
      dsimp only
      refine s_iload hG dX1_showShape_31 rfl ?_
      refine s_iconst hG (v := (4 : Int32)) dX1_showShape_33 (by decide) ?_
      refine s_icmp_ge hG (tgt := 70) dX1_showShape_34 (by decide) ?_ ?_
      · refine s_iload hG dX1_showShape_70 rfl ?_
        refine s_if_le hG (tgt := 81) dX1_showShape_72 (by decide) ?_ ?_
        · refine s_lv hG [0, 2, 3, 4] rfl ?_
          exact hb81 _ _
        · refine s_aload_n hG dX1_showShape_75 rfl ?_
          refine s_bipush hG (v := (44 : Int32)) dX1_showShape_76 (by decide) ?_
          refine s_cvV hG (as := [vI (44 : Int32)]) (st := []) (rm := rm_X1_write) dX1_showShape_78 ml_RX1_35 (rfl) (tb13 (mem_i 22 rfl)) rfl ⟨rfl, rfl⟩ ⟨by decide, by decide⟩ (Nat.le_of_ble_eq_true rfl) ⟨Nat.zero_le _, Nat.zero_le _⟩ rfl (fun o h => c_X1_write l _ _ o h) (fun o78 => ?_)
          refine s_lv hG [0, 2, 3, 4] rfl ?_
          exact hb81 _ _
      · refine s_aload_n hG dX1_showShape_37 rfl ?_
        refine s_iload hG dX1_showShape_38 rfl ?_
        refine s_if_ne hG (tgt := 48) dX1_showShape_40 (by decide) ?_ ?_
        · refine s_bipush hG (v := (44 : Int32)) dX1_showShape_48 (by decide) ?_
          exact hb50 _ hrec31 _ _ _ _
        · refine s_bipush hG (v := (58 : Int32)) dX1_showShape_43 (by decide) ?_
          refine s_goto hG (tgt := 50) dX1_showShape_45 (by decide) ?_
          exact hb50 _ hrec31 _ _ _ _
  have hb20 : ∀ (S : HS) (x4 : Int32) (t1 : Int32), f_X1_showShape_b20 a1 p3 S x4 t1 = some out → G 0 0 S [(0, vR 34), (1, vR a1), (2, vR 2), (3, vI p3), (4, vI x4)] 20 [vI t1, vR 34] := by
    intro S x4 t1
    unfold f_X1_showShape_b20
    refine s_cvV hG (as := [vI t1]) (st := []) (rm := rm_X1_write) dX1_showShape_20 ml_RX1_35 (rfl) (tb13 (mem_i 22 rfl)) rfl ⟨rfl, rfl⟩ ⟨by decide, by decide⟩ (Nat.le_of_ble_eq_true rfl) ⟨Nat.zero_le _, Nat.zero_le _⟩ rfl (fun o h => c_X1_write l _ _ o h) (fun o20 => ?_)
    refine s_aload_n hG dX1_showShape_23 rfl ?_
    refine s_iload_n hG dX1_showShape_24 rfl ?_
    refine s_cvV hG (as := [vI p3]) (st := []) (rm := rm_X1_writeNumber) dX1_showShape_25 ml_RX1_39 (rfl) (tb13 (mem_i 25 rfl)) rfl ⟨rfl, rfl⟩ ⟨by decide, by decide⟩ (Nat.le_of_ble_eq_true rfl) ⟨Nat.zero_le _, Nat.zero_le _⟩ rfl (fun o h => c_X1_writeNumber l _ _ o h) (fun o25 => ?_)
    refine s_iconst hG (v := (0 : Int32)) dX1_showShape_28 (by decide) ?_
    refine s_istore hG (lv' := [(5, vI (0 : Int32)), (0, vR 34), (1, vR a1), (2, vR 2), (3, vI p3), (4, vI x4)]) dX1_showShape_29 (by decide) rfl ?_
    refine s_lv hG [1, 2, 3, 4, 5, 0] rfl ?_
    exact hb31 _ _ _
  unfold f_X1_showShape
  refine s_aload_n hG dX1_showShape_0 rfl ?_
  refine s_iload_n hG dX1_showShape_1 rfl ?_
  refine s_cvP hG (as := [vI p3]) (st := []) (rm := rm_X5_lettersOf) dX1_showShape_2 ml_RX1_43 (rfl) (tb7 (mem_i 0 rfl)) rfl ⟨rfl, rfl⟩ ⟨by decide, by decide⟩ (Nat.le_of_ble_eq_true rfl) ⟨Nat.zero_le _, Nat.zero_le _⟩ rfl (fun o h => c_X5_lettersOf l _ _ o h) (fun o2 => ?_)
  refine s_istore hG (lv' := [(4, vI o2), (0, vR 34), (1, vR a1), (2, vR 2), (3, vI p3)]) dX1_showShape_5 (by decide) rfl ?_
  refine s_aload_n hG dX1_showShape_7 rfl ?_
  refine s_iload hG dX1_showShape_8 rfl ?_
  refine s_if_le hG (tgt := 18) dX1_showShape_10 (by decide) ?_ ?_
  · refine s_bipush hG (v := (98 : Int32)) dX1_showShape_18 (by decide) ?_
    refine s_lv hG [1, 2, 3, 4, 0] rfl ?_
    exact hb20 _ _ _
  · refine s_bipush hG (v := (116 : Int32)) dX1_showShape_13 (by decide) ?_
    refine s_goto hG (tgt := 20) dX1_showShape_15 (by decide) ?_
    refine s_lv hG [1, 2, 3, 4, 0] rfl ?_
    exact hb20 _ _ _

def f_X1_show_b75 (a1 : Nat) (rec40 : HS × Int32 → Option (HS)) (S : HS) (x3 : Int32) : Option (HS) :=
rec40 (S, (x3 + (1 : Int32)))
def F_X1_show_b40 (a1 : Nat)  (rec40 : HS × Int32 → Option (HS)) : HS × Int32 → Option (HS) := fun q => match q with
  | (S, x3) =>
    if (12 : Int32) ≤ x3 then
    some S
    else
    (f_X7_has ((S.1 a1 6).toInt64) x3 S).bind (fun o52 =>
    if o52 = 0 then
    f_X1_show_b75 a1 rec40 S x3
    else
    (f_X1_write (114 : Int32) S).bind (fun o61 =>
    (f_X1_writeNumber x3 o61).bind (fun o66 =>
    (f_X1_write (59 : Int32) o66).bind (fun o72 =>
    f_X1_show_b75 a1 rec40 o72 x3))))
def f_X1_show_b40 (a1 : Nat)  (S : HS) (x3 : Int32) : Option (HS) := fx (F_X1_show_b40 a1) FU (S, x3)
def f_X1_show_b32 (a1 : Nat) (rec7 : HS × Int32 → Option (HS)) (S : HS) (x3 : Int32) : Option (HS) :=
rec7 (S, (x3 + (1 : Int32)))
def F_X1_show_b7 (a1 : Nat)  (rec7 : HS × Int32 → Option (HS)) : HS × Int32 → Option (HS) := fun q => match q with
  | (S, x3) =>
    if (10 : Int32) ≤ x3 then
    f_X1_show_b40 a1  S (0 : Int32)
    else
    (f_X7_has ((S.1 a1 5).toInt64) x3 S).bind (fun o19 =>
    if o19 = 0 then
    f_X1_show_b32 a1 rec7 S x3
    else
    (f_X1_showShape a1 x3 S).bind (fun o29 =>
    f_X1_show_b32 a1 rec7 o29 x3))
def f_X1_show_b7 (a1 : Nat)  (S : HS) (x3 : Int32) : Option (HS) := fx (F_X1_show_b7 a1) FU (S, x3)
def f_X1_show (a1 : Nat) (S : HS) : Option (HS) :=
f_X1_show_b7 a1  (sI S 34 1 (0 : Int32)) (0 : Int32)
def rm_X1_show : Room := { frames := 4, cells := 0, slots := 0, locals := 90 }
set_option maxRecDepth 100000 in
set_option maxHeartbeats 4000000 in
theorem c_X1_show (l : Launch) (a1 : Nat) (ha1 : oc a1 = some 0) (S : HS) (out : HS) (h : f_X1_show a1 S = some out) : Ct l yX1_show cX1_show 4 none rm_X1_show [vR 34, vR a1, vR 2] S none out := by
  refine Ct.intro (own := RX1) (lv := [(0, vR 34), (1, vR a1), (2, vR 2)]) (by decide +kernel) rfl ⟨rfl, rfl⟩ rfl (Nat.le_of_ble_eq_true rfl) ?_
  intro G hG hR
  revert h
  have hb75 : ∀ (rec40 : HS × Int32 → Option (HS)) (hrec40 : ∀ (S : HS) (x3 : Int32), rec40 (S, x3) = some out → G 0 0 S [(0, vR 34), (1, vR a1), (3, vI x3)] 40 []) (S : HS) (x3 : Int32), f_X1_show_b75 a1 rec40 S x3 = some out → G 0 0 S [(0, vR 34), (1, vR a1), (3, vI x3)] 75 [] := by
    intro rec40 hrec40 S x3
    unfold f_X1_show_b75
    refine s_iinc hG (v := (x3 + (1 : Int32))) (lv' := [(3, vI (x3 + (1 : Int32))), (0, vR 34), (1, vR a1)]) dX1_show_75 rfl rfl (by decide) rfl ?_
    refine s_goto hG (tgt := 40) dX1_show_78 (by decide) ?_
    refine s_lv hG [1, 2, 0] rfl ?_
    exact hrec40 _ _
  have hb40 : ∀ (S : HS) (x3 : Int32), f_X1_show_b40 a1 S x3 = some out → G 0 0 S [(0, vR 34), (1, vR a1), (3, vI x3)] 40 [] := by
    intro  S x3
    unfold f_X1_show_b40
    generalize FU = nf
    revert S x3
    induction nf with
    | zero => intro S x3 h9; cases h9
    | succ nf hrec40 =>
      intro S x3
      show F_X1_show_b40 a1 (fx (F_X1_show_b40 a1) nf) (S, x3) = some out → _
      generalize fx (F_X1_show_b40 a1) nf = rec40 at hrec40
      unfold F_X1_show_b40
      dsimp only
      refine s_iload_n hG dX1_show_40 rfl ?_
      refine s_bipush hG (v := (12 : Int32)) dX1_show_41 (by decide) ?_
      refine s_icmp_ge hG (tgt := 81) dX1_show_43 (by decide) ?_ ?_
      · exact s_rvC hR dX1_show_81
      · refine s_aload_n hG dX1_show_46 rfl ?_
        refine s_getI hG dX1_show_47 fl_RX1_32 (fk0_6 _ ha1) ?_
        refine s_i2l hG dX1_show_50 ?_
        refine s_iload_n hG dX1_show_51 rfl ?_
        refine s_csP hG (as := [vL ((S.1 a1 6).toInt64), vI x3]) (st := []) (rm := rm_X7_has) dX1_show_52 ml_RX1_24 (tb6 (mem_i 14 rfl)) rfl ⟨rfl, rfl⟩ ⟨by decide, by decide⟩ (Nat.le_of_ble_eq_true rfl) ⟨Nat.zero_le _, Nat.zero_le _⟩ rfl (fun o h => c_X7_has l _ _ _ o h) (fun o52 => ?_)
        refine s_if_eq hG (tgt := 75) dX1_show_55 (by decide) ?_ ?_
        · exact hb75 _ hrec40 _ _
        · refine s_aload_n hG dX1_show_58 rfl ?_
          refine s_bipush hG (v := (114 : Int32)) dX1_show_59 (by decide) ?_
          refine s_cvV hG (as := [vI (114 : Int32)]) (st := []) (rm := rm_X1_write) dX1_show_61 ml_RX1_35 (rfl) (tb13 (mem_i 22 rfl)) rfl ⟨rfl, rfl⟩ ⟨by decide, by decide⟩ (Nat.le_of_ble_eq_true rfl) ⟨Nat.zero_le _, Nat.zero_le _⟩ rfl (fun o h => c_X1_write l _ _ o h) (fun o61 => ?_)
          refine s_aload_n hG dX1_show_64 rfl ?_
          refine s_iload_n hG dX1_show_65 rfl ?_
          refine s_cvV hG (as := [vI x3]) (st := []) (rm := rm_X1_writeNumber) dX1_show_66 ml_RX1_39 (rfl) (tb13 (mem_i 25 rfl)) rfl ⟨rfl, rfl⟩ ⟨by decide, by decide⟩ (Nat.le_of_ble_eq_true rfl) ⟨Nat.zero_le _, Nat.zero_le _⟩ rfl (fun o h => c_X1_writeNumber l _ _ o h) (fun o66 => ?_)
          refine s_aload_n hG dX1_show_69 rfl ?_
          refine s_bipush hG (v := (59 : Int32)) dX1_show_70 (by decide) ?_
          refine s_cvV hG (as := [vI (59 : Int32)]) (st := []) (rm := rm_X1_write) dX1_show_72 ml_RX1_35 (rfl) (tb13 (mem_i 22 rfl)) rfl ⟨rfl, rfl⟩ ⟨by decide, by decide⟩ (Nat.le_of_ble_eq_true rfl) ⟨Nat.zero_le _, Nat.zero_le _⟩ rfl (fun o h => c_X1_write l _ _ o h) (fun o72 => ?_)
          exact hb75 _ hrec40 _ _
  have hb32 : ∀ (rec7 : HS × Int32 → Option (HS)) (hrec7 : ∀ (S : HS) (x3 : Int32), rec7 (S, x3) = some out → G 0 0 S [(0, vR 34), (1, vR a1), (2, vR 2), (3, vI x3)] 7 []) (S : HS) (x3 : Int32), f_X1_show_b32 a1 rec7 S x3 = some out → G 0 0 S [(0, vR 34), (1, vR a1), (2, vR 2), (3, vI x3)] 32 [] := by
    intro rec7 hrec7 S x3
    unfold f_X1_show_b32
    refine s_iinc hG (v := (x3 + (1 : Int32))) (lv' := [(3, vI (x3 + (1 : Int32))), (0, vR 34), (1, vR a1), (2, vR 2)]) dX1_show_32 rfl rfl (by decide) rfl ?_
    refine s_goto hG (tgt := 7) dX1_show_35 (by decide) ?_
    refine s_lv hG [1, 2, 3, 0] rfl ?_
    exact hrec7 _ _
  have hb7 : ∀ (S : HS) (x3 : Int32), f_X1_show_b7 a1 S x3 = some out → G 0 0 S [(0, vR 34), (1, vR a1), (2, vR 2), (3, vI x3)] 7 [] := by
    intro  S x3
    unfold f_X1_show_b7
    generalize FU = nf
    revert S x3
    induction nf with
    | zero => intro S x3 h9; cases h9
    | succ nf hrec7 =>
      intro S x3
      show F_X1_show_b7 a1 (fx (F_X1_show_b7 a1) nf) (S, x3) = some out → _
      generalize fx (F_X1_show_b7 a1) nf = rec7 at hrec7
      unfold F_X1_show_b7
      dsimp only
      refine s_iload_n hG dX1_show_7 rfl ?_
      refine s_bipush hG (v := (10 : Int32)) dX1_show_8 (by decide) ?_
      refine s_icmp_ge hG (tgt := 38) dX1_show_10 (by decide) ?_ ?_
      · refine s_iconst hG (v := (0 : Int32)) dX1_show_38 (by decide) ?_
        refine s_istore_n hG (lv' := [(3, vI (0 : Int32)), (0, vR 34), (1, vR a1), (2, vR 2)]) dX1_show_39 (by decide) rfl ?_
        refine s_lv hG [1, 2, 0] rfl ?_
        exact hb40 _ _
      · refine s_aload_n hG dX1_show_13 rfl ?_
        refine s_getI hG dX1_show_14 fl_RX1_19 (fk0_5 _ ha1) ?_
        refine s_i2l hG dX1_show_17 ?_
        refine s_iload_n hG dX1_show_18 rfl ?_
        refine s_csP hG (as := [vL ((S.1 a1 5).toInt64), vI x3]) (st := []) (rm := rm_X7_has) dX1_show_19 ml_RX1_24 (tb6 (mem_i 14 rfl)) rfl ⟨rfl, rfl⟩ ⟨by decide, by decide⟩ (Nat.le_of_ble_eq_true rfl) ⟨Nat.zero_le _, Nat.zero_le _⟩ rfl (fun o h => c_X7_has l _ _ _ o h) (fun o19 => ?_)
        refine s_if_eq hG (tgt := 32) dX1_show_22 (by decide) ?_ ?_
        · exact hb32 _ hrec7 _ _
        · refine s_aload_n hG dX1_show_25 rfl ?_
          refine s_aload_n hG dX1_show_26 rfl ?_
          refine s_aload_n hG dX1_show_27 rfl ?_
          refine s_iload_n hG dX1_show_28 rfl ?_
          refine s_cvV hG (as := [vR a1, vR 2, vI x3]) (st := []) (rm := rm_X1_showShape) dX1_show_29 ml_RX1_28 (rfl) (tb13 (mem_i 19 rfl)) rfl ⟨rfl, rfl⟩ ⟨by decide, by decide⟩ (Nat.le_of_ble_eq_true rfl) ⟨Nat.zero_le _, Nat.zero_le _⟩ rfl (fun o h => c_X1_showShape l _ _ (ha1) _ o h) (fun o29 => ?_)
          exact hb32 _ hrec7 _ _
  unfold f_X1_show
  refine s_aload_n hG dX1_show_0 rfl ?_
  refine s_iconst hG (v := (0 : Int32)) dX1_show_1 (by decide) ?_
  refine s_putI hG dX1_show_2 fl_RX1_15 fp_1_1 (rfl) ⟨rfl, rfl⟩ ?_
  refine s_iconst hG (v := (0 : Int32)) dX1_show_5 (by decide) ?_
  refine s_istore_n hG (lv' := [(3, vI (0 : Int32)), (0, vR 34), (1, vR a1), (2, vR 2)]) dX1_show_6 (by decide) rfl ?_
  refine s_lv hG [1, 2, 3, 0] rfl ?_
  exact hb7 _ _

def f_X1_signOf_b23 (p1 : Int32)  (S : HS) (t0 : Int32) : Option (Int32) :=
if ch t0 = true then some t0 else none
def f_X1_signOf_b22 (p1 : Int32)  (S : HS)  : Option (Int32) :=
f_X1_signOf_b23 p1  S (0 : Int32)
def f_X1_signOf (p1 : Int32) (S : HS) : Option (Int32) :=
if p1 < 0 then
f_X1_signOf_b22 p1  S
else
if (328 : Int32) ≤ p1 then
f_X1_signOf_b22 p1  S
else
if ib p1 (328) = true then
f_X1_signOf_b23 p1  S (S.1 35 p1.toNatClampNeg)
else none
def rm_X1_signOf : Room := { frames := 0, cells := 0, slots := 0, locals := 0 }
set_option maxRecDepth 100000 in
set_option maxHeartbeats 4000000 in
theorem c_X1_signOf (l : Launch) (p1 : Int32)  (S : HS) (out : Int32) (h : f_X1_signOf p1 S = some out) : Ct l yX1_signOf cX1_signOf 2 (some .char) rm_X1_signOf [vR 34, vI p1] S (some (vI out)) S := by
  refine Ct.intro (own := RX1) (lv := [(0, vR 34), (1, vI p1)]) (by decide +kernel) rfl ⟨rfl, rfl⟩ rfl (Nat.le_of_ble_eq_true rfl) ?_
  intro G hG hR
  revert h
  have hb23 : ∀ (t0 : Int32), f_X1_signOf_b23 p1 S t0 = some out → G 0 0 S [] 23 [vI t0] := by
    intro t0
    unfold f_X1_signOf_b23
    exact s_rcP hR dX1_signOf_23
  have hb22 :  f_X1_signOf_b22 p1 S  = some out → G 0 0 S [] 22 [] := by
    skip
    unfold f_X1_signOf_b22
    refine s_iconst hG (v := (0 : Int32)) dX1_signOf_22 (by decide) ?_
    exact hb23 _
  unfold f_X1_signOf
  refine s_iload_n hG dX1_signOf_0 rfl ?_
  refine s_if_lt hG (tgt := 22) dX1_signOf_1 (by decide) ?_ ?_
  · refine s_lv hG [] rfl ?_
    exact hb22 
  · refine s_iload_n hG dX1_signOf_4 rfl ?_
    refine s_aload_n hG dX1_signOf_5 rfl ?_
    refine s_getC hG dX1_signOf_6 fl_RX1_9 (rfl) ?_
    refine s_alen hG (v := (328 : Int32)) dX1_signOf_9 (rfl) (fun _ => rfl) rfl ?_
    refine s_icmp_ge hG (tgt := 22) dX1_signOf_10 (by decide) ?_ ?_
    · refine s_lv hG [] rfl ?_
      exact hb22 
    · refine s_aload_n hG dX1_signOf_13 rfl ?_
      refine s_getC hG dX1_signOf_14 fl_RX1_9 (rfl) ?_
      refine s_iload_n hG dX1_signOf_17 rfl ?_
      refine s_caload hG dX1_signOf_18 (rfl) ?_
      refine s_goto hG (tgt := 23) dX1_signOf_19 (by decide) ?_
      refine s_lv hG [] rfl ?_
      exact hb23 _

def f_X2_actsOf_b23 (p1 : Int32)  (S : HS) (t0 : Int64) : Option (Int64) :=
some t0
def f_X2_actsOf_b22 (p1 : Int32)  (S : HS)  : Option (Int64) :=
f_X2_actsOf_b23 p1  S (0 : Int64)
def f_X2_actsOf (p1 : Int32) (S : HS) : Option (Int64) :=
if p1 < 0 then
f_X2_actsOf_b22 p1  S
else
if (10 : Int32) ≤ p1 then
f_X2_actsOf_b22 p1  S
else
if ib p1 (10) = true then
f_X2_actsOf_b23 p1  S (S.2.1 31 p1.toNatClampNeg)
else none
def rm_X2_actsOf : Room := { frames := 0, cells := 0, slots := 0, locals := 0 }
set_option maxRecDepth 100000 in
set_option maxHeartbeats 4000000 in
theorem c_X2_actsOf (l : Launch) (p1 : Int32)  (S : HS) (out : Int64) (h : f_X2_actsOf p1 S = some out) : Ct l yX2_actsOf cX2_actsOf 2 (some .long) rm_X2_actsOf [vR 30, vI p1] S (some (vL out)) S := by
  refine Ct.intro (own := RX2) (lv := [(0, vR 30), (1, vI p1)]) (by decide +kernel) rfl ⟨rfl, rfl⟩ rfl (Nat.le_of_ble_eq_true rfl) ?_
  intro G hG hR
  revert h
  have hb23 : ∀ (t0 : Int64), f_X2_actsOf_b23 p1 S t0 = some out → G 0 0 S [] 23 [vL t0] := by
    intro t0
    unfold f_X2_actsOf_b23
    exact s_rlP hR dX2_actsOf_23
  have hb22 :  f_X2_actsOf_b22 p1 S  = some out → G 0 0 S [] 22 [] := by
    skip
    unfold f_X2_actsOf_b22
    refine s_lconst hG (v := (0 : Int64)) dX2_actsOf_22 (by decide) ?_
    exact hb23 _
  unfold f_X2_actsOf
  refine s_iload_n hG dX2_actsOf_0 rfl ?_
  refine s_if_lt hG (tgt := 22) dX2_actsOf_1 (by decide) ?_ ?_
  · refine s_lv hG [] rfl ?_
    exact hb22 
  · refine s_iload_n hG dX2_actsOf_4 rfl ?_
    refine s_aload_n hG dX2_actsOf_5 rfl ?_
    refine s_getC hG dX2_actsOf_6 fl_RX2_18 (rfl) ?_
    refine s_alen hG (v := (10 : Int32)) dX2_actsOf_9 (rfl) (fun _ => rfl) rfl ?_
    refine s_icmp_ge hG (tgt := 22) dX2_actsOf_10 (by decide) ?_ ?_
    · refine s_lv hG [] rfl ?_
      exact hb22 
    · refine s_aload_n hG dX2_actsOf_13 rfl ?_
      refine s_getC hG dX2_actsOf_14 fl_RX2_18 (rfl) ?_
      refine s_iload_n hG dX2_actsOf_17 rfl ?_
      refine s_laload hG dX2_actsOf_18 (rfl) ?_
      refine s_goto hG (tgt := 23) dX2_actsOf_19 (by decide) ?_
      refine s_lv hG [] rfl ?_
      exact hb23 _

def f_X2_charsOf (p1 : Int32) (S : HS) : Option (Int32) :=
(f_X7_read 32 p1 S).bind (fun o5 =>
some o5)
def rm_X2_charsOf : Room := { frames := 1, cells := 0, slots := 0, locals := 21 }
set_option maxRecDepth 100000 in
set_option maxHeartbeats 4000000 in
theorem c_X2_charsOf (l : Launch) (p1 : Int32)  (S : HS) (out : Int32) (h : f_X2_charsOf p1 S = some out) : Ct l yX2_charsOf cX2_charsOf 2 (some .int) rm_X2_charsOf [vR 30, vI p1] S (some (vI out)) S := by
  refine Ct.intro (own := RX2) (lv := [(0, vR 30), (1, vI p1)]) (by decide +kernel) rfl ⟨rfl, rfl⟩ rfl (Nat.le_of_ble_eq_true rfl) ?_
  intro G hG hR
  revert h
  unfold f_X2_charsOf
  refine s_aload_n hG dX2_charsOf_0 rfl ?_
  refine s_getC hG dX2_charsOf_1 fl_RX2_22 (rfl) ?_
  refine s_iload_n hG dX2_charsOf_4 rfl ?_
  refine s_csP hG (as := [vR 32, vI p1]) (st := []) (rm := rm_X7_read) dX2_charsOf_5 ml_RX2_38 (tb5 (mem_i 19 rfl)) rfl ⟨rfl, rfl⟩ ⟨by decide, by decide⟩ (Nat.le_of_ble_eq_true rfl) ⟨Nat.zero_le _, Nat.zero_le _⟩ rfl (fun o h => c_X7_read l _ _ (rfl) _ o h) (fun o5 => ?_)
  exact s_riP hR dX2_charsOf_8

def f_X2_keep_b16 (p2 : Int64)  (S : HS)  : Option (HS) :=
some S
def F_X2_keep_b43 (p2 : Int64)  (rec43 : HS × Int32 → Option (HS)) : HS × Int32 → Option (HS) := fun q => match q with
  | (S, x4) =>
    if (328 : Int32) ≤ x4 then
    some (sI S 30 0 ((S.1 30 0) + (1 : Int32)))
    else
    (f_X1_signOf x4 S).bind (fun o69 =>
    if ib (((S.1 30 0) * (328 : Int32)) + x4) (3280) = true then
    rec43 ((sI S 33 (((S.1 30 0) * (328 : Int32)) + x4).toNatClampNeg (vp_nar .char o69)), (x4 + (1 : Int32)))
    else none)
def f_X2_keep_b43 (p2 : Int64)  (S : HS) (x4 : Int32) : Option (HS) := fx (F_X2_keep_b43 p2) FU (S, x4)
def f_X2_keep (p2 : Int64) (S : HS) : Option (HS) :=
if (S.1 30 0) < 0 then
f_X2_keep_b16 p2  S
else
if (S.1 30 0) < (10 : Int32) then
if ib (S.1 30 0) (10) = true then
if ib ((sL S 31 (S.1 30 0).toNatClampNeg p2).1 30 0) (10) = true then
f_X2_keep_b43 p2  (sI (sL S 31 (S.1 30 0).toNatClampNeg p2) 32 ((sL S 31 (S.1 30 0).toNatClampNeg p2).1 30 0).toNatClampNeg ((sL S 31 (S.1 30 0).toNatClampNeg p2).1 34 1)) (0 : Int32)
else none
else none
else
f_X2_keep_b16 p2  S
def rm_X2_keep : Room := { frames := 1, cells := 0, slots := 0, locals := 21 }
set_option maxRecDepth 100000 in
set_option maxHeartbeats 4000000 in
theorem c_X2_keep (l : Launch) (p2 : Int64)  (S : HS) (out : HS) (h : f_X2_keep p2 S = some out) : Ct l yX2_keep cX2_keep 5 none rm_X2_keep [vR 30, vR 34, vL p2] S none out := by
  refine Ct.intro (own := RX2) (lv := [(0, vR 30), (1, vR 34), (2, vL p2)]) (by decide +kernel) rfl ⟨rfl, rfl⟩ rfl (Nat.le_of_ble_eq_true rfl) ?_
  intro G hG hR
  revert h
  have hb16 : ∀ (S : HS), f_X2_keep_b16 p2 S  = some out → G 0 0 S [] 16 [] := by
    intro S
    unfold f_X2_keep_b16
    exact s_rvC hR dX2_keep_16
  have hb43 : ∀ (S : HS) (x4 : Int32), f_X2_keep_b43 p2 S x4 = some out → G 0 0 S [(0, vR 30), (1, vR 34), (4, vI x4)] 43 [] := by
    intro  S x4
    unfold f_X2_keep_b43
    generalize FU = nf
    revert S x4
    induction nf with
    | zero => intro S x4 h9; cases h9
    | succ nf hrec43 =>
      intro S x4
      show F_X2_keep_b43 p2 (fx (F_X2_keep_b43 p2) nf) (S, x4) = some out → _
      generalize fx (F_X2_keep_b43 p2) nf = rec43 at hrec43
      unfold F_X2_keep_b43
      dsimp only
      refine s_iload hG dX2_keep_43 rfl ?_
      refine s_sipush hG (v := (328 : Int32)) dX2_keep_45 (by decide) ?_
      refine s_icmp_ge hG (tgt := 79) dX2_keep_48 (by decide) ?_ ?_
      · refine s_aload_n hG dX2_keep_79 rfl ?_
        refine s_dup hG dX2_keep_80 rfl ?_
        refine s_getI hG dX2_keep_81 fl_RX2_9 (rfl) ?_
        refine s_iconst hG (v := (1 : Int32)) dX2_keep_84 (by decide) ?_
        refine s_iadd hG dX2_keep_85 ?_
        refine s_putI hG dX2_keep_86 fl_RX2_9 fp_2_0 (rfl) ⟨rfl, rfl⟩ ?_
        exact s_rvC hR dX2_keep_89
      · refine s_aload_n hG dX2_keep_51 rfl ?_
        refine s_getC hG dX2_keep_52 fl_RX2_26 (rfl) ?_
        refine s_aload_n hG dX2_keep_55 rfl ?_
        refine s_getI hG dX2_keep_56 fl_RX2_9 (rfl) ?_
        refine s_sipush hG (v := (328 : Int32)) dX2_keep_59 (by decide) ?_
        refine s_imul hG dX2_keep_62 ?_
        refine s_iload hG dX2_keep_63 rfl ?_
        refine s_iadd hG dX2_keep_65 ?_
        refine s_aload_n hG dX2_keep_66 rfl ?_
        refine s_iload hG dX2_keep_67 rfl ?_
        refine s_cvP hG (as := [vI x4]) (st := [vI (((S.1 30 0) * (328 : Int32)) + x4), vR 33]) (rm := rm_X1_signOf) dX2_keep_69 ml_RX2_34 (rfl) (tb14 (mem_i 10 rfl)) rfl ⟨rfl, rfl⟩ ⟨by decide, by decide⟩ (Nat.le_of_ble_eq_true rfl) ⟨Nat.zero_le _, Nat.zero_le _⟩ rfl (fun o h => c_X1_signOf l _ _ o h) (fun o69 => ?_)
        refine s_castore hG dX2_keep_72 (rfl) ?_
        refine s_iinc hG (v := (x4 + (1 : Int32))) (lv' := [(4, vI (x4 + (1 : Int32))), (0, vR 30), (1, vR 34)]) dX2_keep_73 rfl rfl (by decide) rfl ?_
        refine s_goto hG (tgt := 43) dX2_keep_76 (by decide) ?_
        refine s_lv hG [1, 2, 0] rfl ?_
        exact hrec43 _ _
  unfold f_X2_keep
  refine s_aload_n hG dX2_keep_0 rfl ?_
  refine s_getI hG dX2_keep_1 fl_RX2_9 (rfl) ?_
  refine s_if_lt hG (tgt := 16) dX2_keep_4 (by decide) ?_ ?_
  · refine s_lv hG [] rfl ?_
    exact hb16 _
  · refine s_aload_n hG dX2_keep_7 rfl ?_
    refine s_getI hG dX2_keep_8 fl_RX2_9 (rfl) ?_
    refine s_bipush hG (v := (10 : Int32)) dX2_keep_11 (by decide) ?_
    refine s_icmp_lt hG (tgt := 17) dX2_keep_13 (by decide) ?_ ?_
    · refine s_aload_n hG dX2_keep_17 rfl ?_
      refine s_getC hG dX2_keep_18 fl_RX2_18 (rfl) ?_
      refine s_aload_n hG dX2_keep_21 rfl ?_
      refine s_getI hG dX2_keep_22 fl_RX2_9 (rfl) ?_
      refine s_lload_n hG dX2_keep_25 rfl ?_
      refine s_lastore hG dX2_keep_26 (rfl) ?_
      refine s_aload_n hG dX2_keep_27 rfl ?_
      refine s_getC hG dX2_keep_28 fl_RX2_22 (rfl) ?_
      refine s_aload_n hG dX2_keep_31 rfl ?_
      refine s_getI hG dX2_keep_32 fl_RX2_9 (rfl) ?_
      refine s_aload_n hG dX2_keep_35 rfl ?_
      refine s_getI hG dX2_keep_36 fl_RX2_30 (rfl) ?_
      refine s_iastore hG dX2_keep_39 (rfl) ?_
      refine s_iconst hG (v := (0 : Int32)) dX2_keep_40 (by decide) ?_
      refine s_istore hG (lv' := [(4, vI (0 : Int32)), (0, vR 30), (1, vR 34), (2, vL p2)]) dX2_keep_41 (by decide) rfl ?_
      refine s_lv hG [1, 2, 0] rfl ?_
      exact hb43 _ _
    · refine s_lv hG [] rfl ?_
      exact hb16 _

def f_X2_signOf_b31 (p1 : Int32) (p2 : Int32)  (S : HS) (t0 : Int32) : Option (Int32) :=
if ch t0 = true then some t0 else none
def f_X2_signOf_b30 (p1 : Int32) (p2 : Int32)  (S : HS)  : Option (Int32) :=
f_X2_signOf_b31 p1 p2  S (0 : Int32)
def f_X2_signOf (p1 : Int32) (p2 : Int32) (S : HS) : Option (Int32) :=
if ((p1 * (328 : Int32)) + p2) < 0 then
f_X2_signOf_b30 p1 p2  S
else
if (3280 : Int32) ≤ ((p1 * (328 : Int32)) + p2) then
f_X2_signOf_b30 p1 p2  S
else
if ib ((p1 * (328 : Int32)) + p2) (3280) = true then
f_X2_signOf_b31 p1 p2  S (S.1 33 ((p1 * (328 : Int32)) + p2).toNatClampNeg)
else none
def rm_X2_signOf : Room := { frames := 0, cells := 0, slots := 0, locals := 0 }
set_option maxRecDepth 100000 in
set_option maxHeartbeats 4000000 in
theorem c_X2_signOf (l : Launch) (p1 : Int32) (p2 : Int32)  (S : HS) (out : Int32) (h : f_X2_signOf p1 p2 S = some out) : Ct l yX2_signOf cX2_signOf 4 (some .char) rm_X2_signOf [vR 30, vI p1, vI p2] S (some (vI out)) S := by
  refine Ct.intro (own := RX2) (lv := [(0, vR 30), (1, vI p1), (2, vI p2)]) (by decide +kernel) rfl ⟨rfl, rfl⟩ rfl (Nat.le_of_ble_eq_true rfl) ?_
  intro G hG hR
  revert h
  have hb31 : ∀ (t0 : Int32), f_X2_signOf_b31 p1 p2 S t0 = some out → G 0 0 S [] 31 [vI t0] := by
    intro t0
    unfold f_X2_signOf_b31
    exact s_rcP hR dX2_signOf_31
  have hb30 :  f_X2_signOf_b30 p1 p2 S  = some out → G 0 0 S [] 30 [] := by
    skip
    unfold f_X2_signOf_b30
    refine s_iconst hG (v := (0 : Int32)) dX2_signOf_30 (by decide) ?_
    exact hb31 _
  unfold f_X2_signOf
  refine s_iload_n hG dX2_signOf_0 rfl ?_
  refine s_sipush hG (v := (328 : Int32)) dX2_signOf_1 (by decide) ?_
  refine s_imul hG dX2_signOf_4 ?_
  refine s_iload_n hG dX2_signOf_5 rfl ?_
  refine s_iadd hG dX2_signOf_6 ?_
  refine s_istore_n hG (lv' := [(3, vI ((p1 * (328 : Int32)) + p2)), (0, vR 30), (1, vI p1), (2, vI p2)]) dX2_signOf_7 (by decide) rfl ?_
  refine s_iload_n hG dX2_signOf_8 rfl ?_
  refine s_if_lt hG (tgt := 30) dX2_signOf_9 (by decide) ?_ ?_
  · refine s_lv hG [] rfl ?_
    exact hb30 
  · refine s_iload_n hG dX2_signOf_12 rfl ?_
    refine s_aload_n hG dX2_signOf_13 rfl ?_
    refine s_getC hG dX2_signOf_14 fl_RX2_26 (rfl) ?_
    refine s_alen hG (v := (3280 : Int32)) dX2_signOf_17 (rfl) (fun _ => rfl) rfl ?_
    refine s_icmp_ge hG (tgt := 30) dX2_signOf_18 (by decide) ?_ ?_
    · refine s_lv hG [] rfl ?_
      exact hb30 
    · refine s_aload_n hG dX2_signOf_21 rfl ?_
      refine s_getC hG dX2_signOf_22 fl_RX2_26 (rfl) ?_
      refine s_iload_n hG dX2_signOf_25 rfl ?_
      refine s_caload hG dX2_signOf_26 (rfl) ?_
      refine s_goto hG (tgt := 31) dX2_signOf_27 (by decide) ?_
      refine s_lv hG [] rfl ?_
      exact hb31 _
